section ZA
variable {X : ZX} {M : ZM} {R : Room} {Z : List Frame → Array Value → State → State → Prop} {n0 n pc : Nat} {ls : List (Option Value)} {st : List Value} {σ : ZSto}
theorem zA_sI_i {σ : ZSto} {ty : FieldType} {a i : Nat} {x : Int} (h : ty = .int ∨ ty = .byte ∨ ty = .boolean) : zA (sI σ a i x) ty a = .inl (upd (fun j => Int32.ofInt (gI σ a j)) i (Int32.ofInt x)) := by
  rcases h with h | h | h <;> subst h <;> (show Sum.inl _ = Sum.inl _; congr 1; funext j; simp only [gI, sI, up2, upd]; by_cases q : j = i <;> simp [q])
theorem zA_sL_l {σ : ZSto} {a i : Nat} {x : Int64} : zA (sL σ a i x) .long a = .inr (.inl (vp_updL (gL σ a) i x)) := by
  show Sum.inr _ = Sum.inr _; congr 2; funext j; simp only [gL, sL, up2, vp_updL]; by_cases q : j = i <;> simp [q]
theorem r_iaload {a len : Nat} {x : Int} (hd : decode M.2.1 pc = .ok (.iaload, 1)) (ha : a < n) (hs : SH a = some (.inl (.int, len))) (h0 : 0 ≤ x) (h1 : x < len) (k : Zm X M R Z n0 n (pc + 1) ls (iV (gI σ a x.toNat) :: st) σ) : Zm X M R Z n0 n pc ls (iV x :: .ref (zB X + a) :: st) σ := by
  intro G p e s m args below meth c H locs lsA hF hL hP
  have kk := k G p e s m args below meth c H locs lsA hF hL hP
  have he := zW_at (B := zB X) (cA := X.2.2.2) (σ := σ) ha
  rw [zE_arr hs] at he
  have hb := zSh_len hs
  refine va_iald hF.1 hF.2.1 (zGood_K G hF.2.2.2.2.2.2.2.1) hP.2.1 a 0 he rfl (i32_in h0 h1 hb) hd ?_
  rw [i32_cl h0 (by omega)]
  exact kk
theorem r_baload {a len : Nat} {x : Int} (hd : decode M.2.1 pc = .ok (.baload, 1)) (ha : a < n) (hs : SH a = some (.inl (.byte, len))) (h0 : 0 ≤ x) (h1 : x < len) (k : Zm X M R Z n0 n (pc + 1) ls (iV (gI σ a x.toNat) :: st) σ) : Zm X M R Z n0 n pc ls (iV x :: .ref (zB X + a) :: st) σ := by
  intro G p e s m args below meth c H locs lsA hF hL hP
  have kk := k G p e s m args below meth c H locs lsA hF hL hP
  have he := zW_at (B := zB X) (cA := X.2.2.2) (σ := σ) ha
  rw [zE_arr hs] at he
  have hb := zSh_len hs
  refine va_bald hF.1 hF.2.1 (zGood_K G hF.2.2.2.2.2.2.2.1) hP.2.1 a 1 he rfl (i32_in h0 h1 hb) hd ?_
  rw [i32_cl h0 (by omega)]
  exact kk
theorem r_zaload {a len : Nat} {x : Int} (hd : decode M.2.1 pc = .ok (.baload, 1)) (ha : a < n) (hs : SH a = some (.inl (.boolean, len))) (h0 : 0 ≤ x) (h1 : x < len) (k : Zm X M R Z n0 n (pc + 1) ls (iV (gI σ a x.toNat) :: st) σ) : Zm X M R Z n0 n pc ls (iV x :: .ref (zB X + a) :: st) σ := by
  intro G p e s m args below meth c H locs lsA hF hL hP
  have kk := k G p e s m args below meth c H locs lsA hF hL hP
  have he := zW_at (B := zB X) (cA := X.2.2.2) (σ := σ) ha
  rw [zE_arr hs] at he
  have hb := zSh_len hs
  refine va_zald hF.1 hF.2.1 (zGood_K G hF.2.2.2.2.2.2.2.1) hP.2.1 a 2 he rfl (i32_in h0 h1 hb) hd ?_
  rw [i32_cl h0 (by omega)]
  exact kk
theorem r_laload {a len : Nat} {x : Int} (hd : decode M.2.1 pc = .ok (.laload, 1)) (ha : a < n) (hs : SH a = some (.inl (.long, len))) (h0 : 0 ≤ x) (h1 : x < len) (k : Zm X M R Z n0 n (pc + 1) ls (.long (gL σ a x.toNat) :: st) σ) : Zm X M R Z n0 n pc ls (iV x :: .ref (zB X + a) :: st) σ := by
  intro G p e s m args below meth c H locs lsA hF hL hP
  have kk := k G p e s m args below meth c H locs lsA hF hL hP
  have he := zW_at (B := zB X) (cA := X.2.2.2) (σ := σ) ha
  rw [zE_arr hs] at he
  have hb := zSh_len hs
  refine va_lald hF.1 hF.2.1 (zGood_K G hF.2.2.2.2.2.2.2.1) hP.2.1 a 3 he rfl (i32_in h0 h1 hb) hd ?_
  rw [i32_cl h0 (by omega)]
  exact kk
theorem zNar_byte {x : Int} (h0 : -128 ≤ x) (h1 : x < 128) : vp_nar .byte (Int32.ofInt x) = Int32.ofInt x := by
  rw [vp_nar_byte]
  apply Int32.toInt_inj.mp
  rw [i32_toInt ⟨by omega, by omega⟩]
  simp only [Int8.toInt_toInt32, Int32.toInt_toInt8, i32_toInt (show R32 x from ⟨by omega, by omega⟩)]
  rw [Int.bmod_eq_of_le_mul_two] <;> omega
theorem zNar_bool {x : Int} (h : x = 0 ∨ x = 1) : vp_nar .boolean (Int32.ofInt x) = Int32.ofInt x := by
  rcases h with rfl | rfl <;> rfl
theorem r_iastore {a len : Nat} {x v : Int} (hd : decode M.2.1 pc = .ok (.iastore, 1)) (ha : a < n) (hs : SH a = some (.inl (.int, len))) (h0 : 0 ≤ x) (h1 : x < len) (k : Zm X M R Z n0 n (pc + 1) ls st (sI σ a x.toNat v)) : Zm X M R Z n0 n pc ls (iV v :: iV x :: .ref (zB X + a) :: st) σ := by
  intro G p e s m args below meth c H locs lsA hF hL hP
  have kk := fun H1 locs1 hP1 => k G p e s m args below meth c H1 locs1 lsA hF hL hP1
  have he := zW_at (B := zB X) (cA := X.2.2.2) (σ := σ) ha
  rw [zE_arr hs] at he
  have hb := zSh_len hs
  refine va_iast hF.1 hF.2.1 (zGood_K G hF.2.2.2.2.2.2.2.1) hP.2.1 (zW_D X _ σ n) hP.2.2 a 0 he rfl (i32_in h0 h1 hb) hd (fun H1 locs1 hP1 _ hS1 => ?_)
  rw [i32_cl h0 (by omega), zW_set (σ' := sI σ a x.toNat v) (by rw [zE_arr hs, zA_sI_i (Or.inl rfl)]) (fun b hb => zE_sI_ne hb)] at hP1
  exact kk H1 locs1 ⟨hP.1, hP1, hS1⟩
theorem r_bastore {a len : Nat} {x v : Int} (hd : decode M.2.1 pc = .ok (.bastore, 1)) (ha : a < n) (hs : SH a = some (.inl (.byte, len))) (h0 : 0 ≤ x) (h1 : x < len) (h2 : -128 ≤ v) (h3 : v < 128) (k : Zm X M R Z n0 n (pc + 1) ls st (sI σ a x.toNat v)) : Zm X M R Z n0 n pc ls (iV v :: iV x :: .ref (zB X + a) :: st) σ := by
  intro G p e s m args below meth c H locs lsA hF hL hP
  have kk := fun H1 locs1 hP1 => k G p e s m args below meth c H1 locs1 lsA hF hL hP1
  have he := zW_at (B := zB X) (cA := X.2.2.2) (σ := σ) ha
  rw [zE_arr hs] at he
  have hb := zSh_len hs
  refine va_bast hF.1 hF.2.1 (zGood_K G hF.2.2.2.2.2.2.2.1) hP.2.1 (zW_D X _ σ n) hP.2.2 a 1 he rfl (i32_in h0 h1 hb) hd (fun H1 locs1 hP1 _ hS1 => ?_)
  rw [zNar_byte h2 h3, i32_cl h0 (by omega), zW_set (σ' := sI σ a x.toNat v) (by rw [zE_arr hs, zA_sI_i (Or.inr (Or.inl rfl))]) (fun b hb => zE_sI_ne hb)] at hP1
  exact kk H1 locs1 ⟨hP.1, hP1, hS1⟩
theorem r_zastore {a len : Nat} {x v : Int} (hd : decode M.2.1 pc = .ok (.bastore, 1)) (ha : a < n) (hs : SH a = some (.inl (.boolean, len))) (h0 : 0 ≤ x) (h1 : x < len) (h2 : v = 0 ∨ v = 1) (k : Zm X M R Z n0 n (pc + 1) ls st (sI σ a x.toNat v)) : Zm X M R Z n0 n pc ls (iV v :: iV x :: .ref (zB X + a) :: st) σ := by
  intro G p e s m args below meth c H locs lsA hF hL hP
  have kk := fun H1 locs1 hP1 => k G p e s m args below meth c H1 locs1 lsA hF hL hP1
  have he := zW_at (B := zB X) (cA := X.2.2.2) (σ := σ) ha
  rw [zE_arr hs] at he
  have hb := zSh_len hs
  refine va_zast hF.1 hF.2.1 (zGood_K G hF.2.2.2.2.2.2.2.1) hP.2.1 (zW_D X _ σ n) hP.2.2 a 2 he rfl (i32_in h0 h1 hb) hd (fun H1 locs1 hP1 _ hS1 => ?_)
  rw [zNar_bool h2, i32_cl h0 (by omega), zW_set (σ' := sI σ a x.toNat v) (by rw [zE_arr hs, zA_sI_i (Or.inr (Or.inr rfl))]) (fun b hb => zE_sI_ne hb)] at hP1
  exact kk H1 locs1 ⟨hP.1, hP1, hS1⟩
theorem r_lastore {a len : Nat} {x : Int} {v : Int64} (hd : decode M.2.1 pc = .ok (.lastore, 1)) (ha : a < n) (hs : SH a = some (.inl (.long, len))) (h0 : 0 ≤ x) (h1 : x < len) (k : Zm X M R Z n0 n (pc + 1) ls st (sL σ a x.toNat v)) : Zm X M R Z n0 n pc ls (.long v :: iV x :: .ref (zB X + a) :: st) σ := by
  intro G p e s m args below meth c H locs lsA hF hL hP
  have kk := fun H1 locs1 hP1 => k G p e s m args below meth c H1 locs1 lsA hF hL hP1
  have he := zW_at (B := zB X) (cA := X.2.2.2) (σ := σ) ha
  rw [zE_arr hs] at he
  have hb := zSh_len hs
  refine va_last hF.1 hF.2.1 (zGood_K G hF.2.2.2.2.2.2.2.1) hP.2.1 (zW_D X _ σ n) hP.2.2 a 3 he rfl (i32_in h0 h1 hb) hd (fun H1 locs1 hP1 _ hS1 => ?_)
  rw [i32_cl h0 (by omega), zW_set (σ' := sL σ a x.toNat v) (by rw [zE_arr hs, zA_sL_l]) (fun b hb => zE_sL_ne hb)] at hP1
  exact kk H1 locs1 ⟨hP.1, hP1, hS1⟩
theorem r_alen {a len : Nat} {ty : FieldType} (hd : decode M.2.1 pc = .ok (.arraylength, 1)) (ha : a < n) (hs : SH a = some (.inl (ty, len))) (ht : ty = .int ∨ ty = .byte ∨ ty = .boolean ∨ ty = .long) (k : Zm X M R Z n0 n (pc + 1) ls (iV (len : Int) :: st) σ) : Zm X M R Z n0 n pc ls (.ref (zB X + a) :: st) σ := by
  intro G p e s m args below meth c H locs lsA hF hL hP
  have kk := k G p e s m args below meth c H locs lsA hF hL hP
  have he := zW_at (B := zB X) (cA := X.2.2.2) (σ := σ) ha
  rw [zE_arr hs] at he
  obtain ⟨t0, ht0⟩ := zTys_at (X := X) ht
  exact va_alen hF.1 hF.2.1 (zGood_K G hF.2.2.2.2.2.2.2.1) hP.2.1 a t0 he ht0 (Int32.ofInt_eq_ofNat (n := len)).symm hd kk
theorem r_ldc {idx : Nat} {v : Int32} {x : Int} (hd : decode M.2.1 pc = .ok (.ldc idx, 2)) (hw : Cond.constant M.1.cls idx v ∈ lw_tbl) (hx : Int32.ofInt x = v) (k : Zm X M R Z n0 n (pc + 2) ls (iV x :: st) σ) : Zm X M R Z n0 n pc ls st σ := by
  intro G p e s m args below meth c H locs lsA hF hL hP
  have kk := k G p e s m args below meth c H locs lsA hF hL hP
  subst hx
  exact lv_ldc hF.1 hF.2.1 hF.2.2.2.2.2.1 (zGood_word G hF.2.2.2.2.2.2.2.1 hw rfl args) hd kk
theorem r_ldcw {idx : Nat} {v : Int32} {x : Int} (hd : decode M.2.1 pc = .ok (.ldc_w idx, 3)) (hw : Cond.constant M.1.cls idx v ∈ lw_tbl) (hx : Int32.ofInt x = v) (k : Zm X M R Z n0 n (pc + 3) ls (iV x :: st) σ) : Zm X M R Z n0 n pc ls st σ := by
  intro G p e s m args below meth c H locs lsA hF hL hP
  have kk := k G p e s m args below meth c H locs lsA hF hL hP
  subst hx
  exact lv_ldcw hF.1 hF.2.1 hF.2.2.2.2.2.1 (zGood_word G hF.2.2.2.2.2.2.2.1 hw rfl args) hd kk
theorem r_ldc2 {idx : Nat} {v : Int64} (hd : decode M.2.1 pc = .ok (.ldc2_w idx, 3)) (hw : Cond.constantLong M.1.cls idx v ∈ lw_tbl) (k : Zm X M R Z n0 n (pc + 3) ls (.long v :: st) σ) : Zm X M R Z n0 n pc ls st σ := by
  intro G p e s m args below meth c H locs lsA hF hL hP
  have kk := k G p e s m args below meth c H locs lsA hF hL hP
  exact lv_ldc2 hF.1 hF.2.1 hF.2.2.2.2.2.1 (zGood_word G hF.2.2.2.2.2.2.2.1 hw rfl args) hd kk
theorem r_tabOut {dflt lo hi : Int} {offs : Array Int} {len t : Nat} {x : Int} (hd : decode M.2.1 pc = .ok (.tableswitch dflt lo hi offs, len)) (hx : R32 x) (h : x < lo ∨ hi < x) (ht : (pc : Int) + dflt = (t : Int)) (k : Zm X M R Z n0 n t ls st σ) : Zm X M R Z n0 n pc ls (iV x :: st) σ := by
  intro G p e s m args below meth c H locs lsA hF hL hP
  exact lv_tableOut hF.1 hF.2.1 hd (by rw [i32_toInt hx]; exact h) ht (k G p e s m args below meth c H locs lsA hF hL hP)
theorem r_tabIn {dflt lo hi : Int} {offs : Array Int} {len t : Nat} {x off : Int} (hd : decode M.2.1 pc = .ok (.tableswitch dflt lo hi offs, len)) (hx : R32 x) (h1 : ¬ x < lo) (h2 : ¬ hi < x) (ho : offs[(x - lo).toNat]? = some off) (ht : (pc : Int) + off = (t : Int)) (k : Zm X M R Z n0 n t ls st σ) : Zm X M R Z n0 n pc ls (iV x :: st) σ := by
  intro G p e s m args below meth c H locs lsA hF hL hP
  exact lv_tableIn hF.1 hF.2.1 hd (by rw [i32_toInt hx]; exact h1) (by rw [i32_toInt hx]; exact h2) (by rw [i32_toInt hx]; exact ho) ht (k G p e s m args below meth c H locs lsA hF hL hP)
theorem r_lookup {dflt : Int} {ps : Array (Int × Int)} {len t : Nat} {x off : Int} (hd : decode M.2.1 pc = .ok (.lookupswitch dflt ps, len)) (hx : R32 x) (hp : (ps.toList.zip (ps.toList.drop 1)).all (fun (a, next) => a.1 < next.1) = true) (ho : Op.lookupswitch.offset ps.toList dflt x = off) (ht : (pc : Int) + off = (t : Int)) (k : Zm X M R Z n0 n t ls st σ) : Zm X M R Z n0 n pc ls (iV x :: st) σ := by
  intro G p e s m args below meth c H locs lsA hF hL hP
  exact lv_lookup hF.1 hF.2.1 hd hp (by rw [i32_toInt hx]; exact ho) ht (k G p e s m args below meth c H locs lsA hF hL hP)
/-! ===== the end of a method ===== -/
variable {Q : Option Value → ZSto → Prop} {n1 : Nat}
theorem zEndW {p : Program} {s : State} {m : MethodId} {meth : Method} {c : Code} {H : Heap} {locs : List Loc} {r : Option Value} (hF : ZFix X M n0 p s m meth c) (hP : ZPic X n0 n σ s H locs) (hsz : H.size = zB X + n) (hQ : Q r σ) (args : Array Value) : ∀ t : State, t.heap = H → s.WarmedH t.vm → zQc X n Q args s (.returned r) t := by
  intro t ht hW
  obtain ⟨-, -, -, -, -, -, -, hW0, hs, hlow⟩ := hF
  refine ⟨r, σ, rfl, hQ, State.WarmedH.trans hW0 hW, fun q hq => ?_, by rw [ht]; exact hsz, by rw [ht]; exact hP.2.1⟩
  rw [ht, hP.2.2.2.1 q (by rw [hs]; omega) (by show ¬ zB X ≤ q; omega)]
  exact hlow q hq
theorem r_ireturn {x : Int} (hd : decode M.2.1 pc = .ok (.ireturn, 1)) (hr : M.2.2.2 = some .int) (hQ : Q (some (iV x)) σ) : Zm X M R (zZ X n0 n Q) n0 n pc ls [iV x] σ := by
  intro G p e s m args below meth c H locs lsA hF hL hP T hT S
  have hlocks := hF.2.2.2.2.1
  exact W.iret hF.1 hF.2.1 (hF.2.2.2.1.trans hr) (zEndW hF hP (zSize hF hP hT S) hQ args) hP.2.2.2.2 hd hlocks T hT S
theorem r_zreturn {x : Int} (hd : decode M.2.1 pc = .ok (.ireturn, 1)) (hr : M.2.2.2 = some .boolean) (hx : x = 0 ∨ x = 1) (hQ : Q (some (iV x)) σ) : Zm X M R (zZ X n0 n Q) n0 n pc ls [iV x] σ := by
  intro G p e s m args below meth c H locs lsA hF hL hP T hT S
  have hlocks := hF.2.2.2.2.1
  exact W.zret hF.1 hF.2.1 (hF.2.2.2.1.trans hr) (by rcases hx with rfl | rfl <;> rfl) (zEndW hF hP (zSize hF hP hT S) hQ args) hP.2.2.2.2 hd hlocks T hT S
theorem r_return (hd : decode M.2.1 pc = .ok (.return_, 1)) (hr : M.2.2.2 = none) (hQ : Q none σ) : Zm X M R (zZ X n0 n Q) n0 n pc ls [] σ := by
  intro G p e s m args below meth c H locs lsA hF hL hP T hT S
  have hlocks := hF.2.2.2.2.1
  exact W.vret hF.1 hF.2.1 (hF.2.2.2.1.trans hr) (zEndW hF hP (zSize hF hP hT S) hQ args) hP.2.2.2.2 hd hlocks T hT S
theorem r_lreturn {x : Int64} (hd : decode M.2.1 pc = .ok (.lreturn, 1)) (hr : M.2.2.2 = some .long) (hQ : Q (some (.long x)) σ) : Zm X M R (zZ X n0 n Q) n0 n pc ls [.long x] σ := by
  intro G p e s m args below meth c H locs lsA hF hL hP T hT S
  have hlocks := hF.2.2.2.2.1
  exact W.lret hF.1 hF.2.1 (hF.2.2.2.1.trans hr) (zEndW hF hP (zSize hF hP hT S) hQ args) hP.2.2.2.2 hd hlocks T hT S
theorem r_areturn {a : Nat} {nm : String} (hd : decode M.2.1 pc = .ok (.areturn, 1)) (hr : M.2.2.2 = some (.object nm)) (hQ : Q (some (.ref a)) σ) : Zm X M R (zZ X n0 n Q) n0 n pc ls [.ref a] σ := by
  intro G p e s m args below meth c H locs lsA hF hL hP T hT S
  have hlocks := hF.2.2.2.2.1
  exact W.aret hF.1 hF.2.1 (hF.2.2.2.1.trans hr) (Or.inl ⟨_, rfl⟩) (Or.inr ⟨_, rfl⟩) (zEndW hF hP (zSize hF hP hT S) hQ args) hP.2.2.2.2 hd hlocks T hT S
end ZA
