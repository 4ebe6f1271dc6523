/-! ===== constructors: new objects and arrays ===== -/
/-- nothing lies in the cells from n on -/
def Blk (n : Nat) (σ : ZSto) : Prop := ∀ a j, n ≤ a → gI σ a j = 0 ∧ gL σ a j = 0 ∧ gP σ a j = none
theorem Blk.mono {n n' : Nat} {σ : ZSto} (h : Blk n σ) (hn : n ≤ n') : Blk n' σ := fun a j q => h a j (by omega)
theorem Blk.sI {n a i : Nat} {x : Int} {σ : ZSto} (h : Blk n σ) (ha : a < n) : Blk n (sI σ a i x) := fun b j q => ⟨by rw [gI_c (by omega)]; exact (h b j q).1, (h b j q).2.1, (h b j q).2.2⟩
theorem Blk.sP {n a i : Nat} {x : Option Nat} {σ : ZSto} (h : Blk n σ) (ha : a < n) : Blk n (sP σ a i x) := fun b j q => ⟨(h b j q).1, (h b j q).2.1, by rw [gP_c (by omega)]; exact (h b j q).2.2⟩
theorem zW_push {B : Nat} {cA : FieldType → ClassId} {σ : ZSto} {n : Nat} : zW B cA σ (n + 1) = zW B cA σ n ++ [(B + n, zE B cA σ n)] := by simp [zW, List.range_succ]
theorem zKf : ∀ (ci : Nat) (q : vw_C), zCl[ci]? = some q → ∀ j, j < q.2.2 → zK (zTy ci j) = 0 ∨ zK (zTy ci j) = 1 ∨ zK (zTy ci j) = 2 := by
  intro ci q h
  match ci, h with
  | 0, h => cases h; decide
  | 1, h => cases h; decide
  | 2, h => cases h; decide
  | 3, h => cases h; decide
  | 4, h => cases h; decide
  | 5, h => cases h; decide
  | 6, h => cases h; decide
  | 7, h => cases h; decide
  | 8, h => cases h; decide
  | 9, h => cases h; decide
  | 10, h => cases h; decide
  | ci + 11, h => simp [zCl] at h
theorem fV_blk {B : Nat} {σ : ZSto} {ty : FieldType} {n j : Nat} (h : gI σ n j = 0 ∧ gL σ n j = 0 ∧ gP σ n j = none) (ht : zK ty = 0 ∨ zK ty = 1 ∨ zK ty = 2) : defaultValue ty = fV B σ ty n j := by
  obtain ⟨h1, h2, h3⟩ := h
  cases ty <;> simp [zK] at ht
  all_goals first | (show _ = iV (gI σ n j); rw [h1]; rfl) | (show _ = oV B (gP σ n j); rw [h3]; rfl)
theorem zSh_len2 {k : Nat} {ty : FieldType} {len : Nat} (h : SH k = some (.inl (ty, len))) : len ≤ 50000 := by
  have h1 : ∀ q ∈ zSh, (match q with | .inl z => decide (z.2 ≤ 50000) | .inr _ => true) = true := by decide +kernel
  have h2 := h1 _ (List.mem_of_getElem? h)
  simpa using h2
/-- the link of a final field, in its own class -/
def ZFi (own : String) (idx ci j : Nat) : Prop := ∃ q : vw_C, zCl[ci]? = some q ∧ j < q.2.2 ∧ (q.2.1 j).1 = own ∧ (q.2.1 j).2.2.2 = true ∧ Cond.fieldLink own idx (q.2.1 j).1 (q.2.1 j).2.1 (q.2.1 j).2.2.1 ∈ lw_tbl
section ZCt
variable {X : ZX} {M N : ZM} {R : Room} {Z : List Frame → Array Value → State → State → Prop} {d n0 n pc idx : Nat} {ls : List (Option Value)} {st As : List Value} {σ : ZSto}
theorem r_newO {ci : Nat} {q : vw_C} (hd : decode M.2.1 pc = .ok (.new idx, 3)) (hq : zCl[ci]? = some q) (hl : Cond.classLink M.1.cls idx q.1 ∈ lw_tbl) (hi : Cond.instantiable q.1 q.2.2 ∈ lw_tbl) (hini : Cond.initialized q.1 ∈ lw_tbl) (hs : SH n = some (.inr ci)) (hb : Blk n σ) (hR : zFits R d n0 (n + 1)) (k : Zm X M R Z n0 (n + 1) (pc + 3) ls (.ref (zB X + n) :: st) σ) : Zm X M R Z n0 n pc ls st σ := by
  intro G p e s m args below meth c H locs lsA hF hL hP T hT S
  have hsz := zSize hF hP hT S
  have hW := hF.2.2.2.2.2.2.2.1
  have hKn := (zGood_K G hW).1 ci _ hq
  have hts := zGW_hts G hW args hq
  obtain ⟨e1, e2, e3⟩ := zCls_ok ci q hq
  have hsl : zSl (n + 1) = zSl n + q.2.2 := by
    rw [zSl_succ]
    congr 1
    show zSz n = _
    unfold zSz
    rw [hs]
    exact e1
  have hm2 := zSl_mono hP.1
  have hn0 := hP.1
  have ec : n - n0 + 1 = n + 1 - n0 := by omega
  have es : zSl n - zSl n0 + q.2.2 = zSl (n + 1) - zSl n0 := by omega
  have K : W p X.1 e R s m args below meth c H locs (n - n0) (zSl n - zSl n0) (Z below args s) (F0 m pc lsA st) := by
    refine W.newcK hF.1 hF.2.1 hF.2.2.2.2.2.1 (zGood_word G hW hl rfl args) (zGood_word G hW hi rfl args) (zGood_word G hW hini rfl args) rfl hd (by have := hR.2.2.1; omega) (by have := hR.2.2.2; omega) hKn.2.1 hsz (fun H1 kC hkC e4 z1 o1 => ?_)
    rw [ec, es]
    refine k G p e s m args below meth c H1 locs lsA hF hL ⟨by omega, ?_, ?_⟩
    · rw [zW_push]
      refine (hP.2.1.kept (fun k x hx => o1 x.1 (by have := (hP.2.1 k x hx).lt; rw [hsz] at this; exact this))).app (fun k x hx => ?_)
      have hz : k < 1 := (List.getElem?_eq_some_iff.mp hx).1
      rw [show k = 0 by omega] at hx
      cases hx
      rw [zE_obj hs]
      refine ⟨_, hq, (u_born (zTy ci) hts (fun _ h => h) hKn hkC e4 e2).to (fun j hj => ?_)⟩
      rw [fV_blk (B := zB X) (hb n j (Nat.le_refl n)) (zKf ci q hq j hj)]
      simp [vp_V, e1, hj]
    · refine ⟨Nat.le_trans hP.2.2.1 (by omega), fun x h1 h2 => ?_, hP.2.2.2.2⟩
      have hx : x < H.size := Nat.lt_of_lt_of_le h1 hP.2.2.1
      rw [o1 x (by omega)]
      exact hP.2.2.2.1 x h1 h2
  exact K T hT S
theorem r_newA {len : Nat} {ty : FieldType} {atype : ArrayType} {x : Int} (hd : decode M.2.1 pc = .ok (.newarray atype, 2)) (hty : newarray.typeOf atype = ty) (ht : ty = .int ∨ ty = .byte ∨ ty = .boolean ∨ ty = .long) (ha : Cond.arrayClass ty ∈ lw_tbl) (hs : SH n = some (.inl (ty, len))) (hx : x = (len : Int)) (hb : Blk n σ) (hR : zFits R d n0 (n + 1)) (k : Zm X M R Z n0 (n + 1) (pc + 2) ls (.ref (zB X + n) :: st) σ) : Zm X M R Z n0 n pc ls (iV x :: st) σ := by
  subst hty
  subst hx
  intro G p e s m args below meth c H locs lsA hF hL hP T hT S
  have hsz := zSize hF hP hT S
  have hW := hF.2.2.2.2.2.2.2.1
  have hlen := zSh_len2 hs
  have hsl : zSl (n + 1) = zSl n + len := by
    rw [zSl_succ]
    congr 1
    show zSz n = _
    unfold zSz
    rw [hs]
  have hm2 := zSl_mono hP.1
  have hn0 := hP.1
  have ec : n - n0 + 1 = n + 1 - n0 := by omega
  have es : zSl n - zSl n0 + len = zSl (n + 1) - zSl n0 := by omega
  have hcb : len * componentBytes (newarray.typeOf atype) ≤ 536870912 := by
    have : componentBytes (newarray.typeOf atype) ≤ 8 := by rcases ht with h | h | h | h <;> rw [h] <;> decide
    exact Nat.le_trans (Nat.mul_le_mul hlen this) (by decide)
  have K : W p X.1 e R s m args below meth c H locs (n - n0) (zSl n - zSl n0) (Z below args s) (F0 m pc lsA (iV (len : Int) :: st)) := by
    refine va_newaK hF.1 hF.2.1 (zGood_word G hW ha rfl args) rfl hd (n := Int32.ofInt (len : Int)) (N := len) rfl ?_ (by rw [i32_cl (by omega) (by omega)]; omega) hcb (by have := hR.2.2.1; omega) (by have := hR.2.2.2; omega) hsz (fun H1 cA e4 z1 o1 hAr hNm => ?_)
    · rw [← i32_0, i32_lt ⟨by omega, by omega⟩ r32_0]
      omega
    have hcA : cA = X.2.2.2 (newarray.typeOf atype) := by
      obtain ⟨t0, ht0⟩ := zTys_at (X := X) ht
      have := ((zGood_K G hW).2 t0 _ ht0).2
      have h2 : s.vm.findClass ("[" ++ (newarray.typeOf atype).toString) = some (X.2.2.2 (newarray.typeOf atype)) := by
        rcases ht with h | h | h | h <;> rw [h] at this ⊢ <;> exact this
      rw [h2] at hNm
      exact (Option.some.inj hNm).symm
    rw [ec, es]
    refine k G p e s m args below meth c H1 locs lsA hF hL ⟨by omega, ?_, ?_⟩
    · rw [zW_push]
      refine (hP.2.1.kept (fun k x hx => o1 x.1 (by have := (hP.2.1 k x hx).lt; rw [hsz] at this; exact this))).app (fun k x hx => ?_)
      have hz : k < 1 := (List.getElem?_eq_some_iff.mp hx).1
      rw [show k = 0 by omega] at hx
      cases hx
      rw [zE_arr hs]
      show H1[zB X + n]? = some (vp_cell _ _)
      dsimp only
      rw [e4, hcA]
      congr 1
      rcases ht with h | h | h | h <;> rw [h]
      · show arrV _ _ _ = arrV _ _ (fun j => .int (Int32.ofInt (gI σ n j)))
        congr 1; funext j; rw [(hb n j (Nat.le_refl n)).1]; rfl
      · show arrV _ _ _ = arrV _ _ (fun j => .int (Int32.ofInt (gI σ n j)))
        congr 1; funext j; rw [(hb n j (Nat.le_refl n)).1]; rfl
      · show arrV _ _ _ = arrV _ _ (fun j => .int (Int32.ofInt (gI σ n j)))
        congr 1; funext j; rw [(hb n j (Nat.le_refl n)).1]; rfl
      · show arrV _ _ _ = arrV _ _ (fun j => .long (gL σ n j))
        congr 1; funext j; rw [(hb n j (Nat.le_refl n)).2.1]; rfl
    · refine ⟨Nat.le_trans hP.2.2.1 (by omega), fun x h1 h2 => ?_, hP.2.2.2.2⟩
      have hx : x < H.size := Nat.lt_of_lt_of_le h1 hP.2.2.1
      rw [o1 x (by omega)]
      exact hP.2.2.2.1 x h1 h2
  exact K T hT S
theorem r_putFP {ci j o a : Nat} (hd : decode M.2.1 pc = .ok (.putfield idx, 3)) (hl : ZFi M.1.cls idx ci j) (ho : o < n) (hs : SH o = some (.inr ci)) (ht : zK (zTy ci j) = 2) (hnm : M.1.name = "<init>") (k : Zm X M R Z n0 n (pc + 3) ls st (sP σ o j (some a))) : Zm X M R Z n0 n pc ls (.ref (zB X + a) :: .ref (zB X + o) :: st) σ := by
  intro G p e s m args below meth c H locs lsA hF hL hP
  have kk := fun H1 locs1 hP1 => k G p e s m args below meth c H1 locs1 lsA hF hL hP1
  obtain ⟨hn, hP, hS⟩ := hP
  obtain ⟨hx, hb, -, -, -, hown, hmn, hW, -, -⟩ := hF
  obtain ⟨q, hq, hj, hC, hfin, hl⟩ := hl
  have hts := zGW_hts G hW args hq
  have he := zW_at (B := zB X) (cA := X.2.2.2) (σ := σ) ho
  rw [zE_obj hs] at he
  obtain ⟨e1, e2, e3⟩ := zCls_ok ci q hq
  have hln : j < ((List.range (zNf ci)).map (fun j => fV (zB X) σ (zTy ci j) o j)).length := by simp [e1, hj]
  have hv : fV (zB X) (sP σ o j (some a)) (zTy ci j) o j = .ref (zB X + a) := by
    cases h : zTy ci j <;> rw [h] at ht <;> simp [zK] at ht <;> simp [fV, gP_same, oV]
  have hset := zW_set (n := n) (zE_put (cA := X.2.2.2) hs hv (fun k hk => fV_sP_ne (Or.inr hk))) (fun b hb => zE_sP_ne hb)
  refine va_putF hx hb (C := q.1) (T := q.2.1) (N := q.2.2) hts (fun _ h => h) (zTy ci) e2 e3 hown (zGood_K G hW) hP (zW_D X _ σ n) hS o he hq j hj (zGood_word G hW hl rfl args) (fun _ h => h) hfin (hmn.trans hnm) hC (e2 j hj) ?_ ?_ hln hd (fun H1 locs1 hP1 _ hS1 => ?_)
  · cases h : zTy ci j <;> rw [h] at ht <;> simp [zK] at ht <;> rfl
  · cases h : zTy ci j <;> rw [h] at ht <;> simp [zK] at ht <;> rfl
  · rw [hset] at hP1
    exact kk H1 locs1 ⟨hn, hP1, hS1⟩
theorem r_objInit {a : Nat} (hd : decode M.2.1 pc = .ok (.invokespecial idx, 3)) (hl : Cond.methodLink M.1.cls idx Lib.objectInit ∈ lw_tbl) (hi : Cond.instanceMethod Lib.objectInit ∈ lw_tbl) (hc : Cond.code Lib.objectInit ⟨#[0xb1]⟩ 1 none ∈ lw_tbl) (hR : zFits R d n0 n) (hcat : (st.map fun v => v.category).sum ≤ 8) (k : Zm X M R Z n0 n (pc + 3) ls st σ) : Zm X M R Z n0 n pc ls (.ref a :: st) σ := by
  intro G p e s m args below meth c H locs lsA hF hL hP
  have kk := k G p e s m args below meth c H locs lsA hF hL hP
  have hW := hF.2.2.2.2.2.2.2.1
  refine W.objInit hF.1 hF.2.1 hF.2.2.2.2.2.1 (zGood_word G hW hl rfl args) (zGood_word G hW hi rfl args) (zGood_word G hW hc rfl args) rfl (hL.1.trans hF.2.2.1.symm) rfl hd (by have := hR.1; omega) ?_ kk
  have : 2 * (F0 m pc lsA (.ref a :: st)).monitorRoom = 0 := rfl
  have := hR.2.1
  omega
end ZCt
