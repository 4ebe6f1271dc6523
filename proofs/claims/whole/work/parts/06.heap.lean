/-! ===== classes, fields, arrays ===== -/
theorem zCls_ok : ∀ (ci : Nat) (q : vw_C), zCl[ci]? = some q → zNf ci = q.2.2 ∧ (∀ k, k < q.2.2 → parseFieldDescriptor (q.2.1 k).2.2.1 = some (zTy ci k)) ∧ (∀ a, a < q.2.2 → ∀ b, b < q.2.2 → a ≠ b → (q.2.1 a).2.1 ≠ (q.2.1 b).2.1) := by
  intro ci q h
  match ci, h with
  | 0, h => cases h; exact ⟨rfl, tyX0_ok, nmX0⟩
  | 1, h => cases h; exact ⟨rfl, tyX1_ok, nmX1⟩
  | 2, h => cases h; exact ⟨rfl, tyX2_ok, nmX2⟩
  | 3, h => cases h; exact ⟨rfl, tyX3_ok, nmX3⟩
  | 4, h => cases h; exact ⟨rfl, tyX4_ok, nmX4⟩
  | 5, h => cases h; exact ⟨rfl, tyX5_ok, nmX5⟩
  | 6, h => cases h; exact ⟨rfl, tyX6_ok, nmX6⟩
  | 7, h => cases h; exact ⟨rfl, tyX7_ok, nmX7⟩
  | 8, h => cases h; exact ⟨rfl, tyX8_ok, nmX8⟩
  | 9, h => cases h; exact ⟨rfl, tyX9_ok, nmX9⟩
  | 10, h => cases h; exact ⟨rfl, tyX10_ok, nmX10⟩
  | ci + 11, h => simp [zCl] at h
def zGW (C : String) (T : u_T) (N : Nat) : Prop := ∀ w ∈ u_ws C T N, w ∈ lw_tbl ∧ goodWord w = true
theorem zGW_of {C : String} {T : u_T} {N : Nat} (ps : List Nat) (h : u_ws C T N = ps.filterMap (fun i => lw_tbl[i]?)) (hg : (u_ws C T N).all goodWord = true) : zGW C T N := by
  intro w hw
  refine ⟨?_, List.all_eq_true.mp hg w hw⟩
  rw [h] at hw
  obtain ⟨i, -, hi⟩ := List.mem_filterMap.mp hw
  exact List.mem_of_getElem? hi
set_option maxRecDepth 20000 in
theorem zGW0 : zGW RX0 TX0 13 := zGW_of [329, 331, 333, 335, 337, 339, 341, 343, 345, 347, 349, 351, 353] (by decide +kernel) (by decide +kernel)
set_option maxRecDepth 20000 in
theorem zGW1 : zGW RX1 TX1 2 := zGW_of [289, 291] (by decide +kernel) (by decide +kernel)
set_option maxRecDepth 20000 in
theorem zGW2 : zGW RX2 TX2 4 := zGW_of [535, 537, 539, 541] (by decide +kernel) (by decide +kernel)
set_option maxRecDepth 20000 in
theorem zGW3 : zGW RX3 TX3 11 := zGW_of [478, 480, 482, 484, 486, 488, 490, 492, 494, 496, 498] (by decide +kernel) (by decide +kernel)
set_option maxRecDepth 20000 in
theorem zGW4 : zGW RX4 TX4 10 := zGW_of [438, 440, 442, 444, 446, 448, 450, 452, 454, 456] (by decide +kernel) (by decide +kernel)
set_option maxRecDepth 20000 in
theorem zGW5 : zGW RX5 TX5 16 := zGW_of [379, 381, 383, 385, 387, 389, 391, 393, 395, 397, 399, 401, 403, 405, 407, 409] (by decide +kernel) (by decide +kernel)
set_option maxRecDepth 20000 in
theorem zGW6 : zGW RX6 TX6 5 := zGW_of [512, 514, 516, 518, 520] (by decide +kernel) (by decide +kernel)
set_option maxRecDepth 20000 in
theorem zGW7 : zGW RX7 TX7 17 := zGW_of [238, 240, 242, 244, 246, 248, 250, 252, 254, 256, 258, 260, 262, 264, 266, 268, 270] (by decide +kernel) (by decide +kernel)
set_option maxRecDepth 20000 in
theorem zGW8 : zGW RX8 TX8 1 := zGW_of [419] (by decide +kernel) (by decide +kernel)
set_option maxRecDepth 20000 in
theorem zGW9 : zGW RX9 TX9 14 := zGW_of [612, 614, 616, 618, 620, 622, 624, 626, 628, 630, 632, 634, 636, 638] (by decide +kernel) (by decide +kernel)
set_option maxRecDepth 20000 in
theorem zGW10 : zGW RX10 TX10 52 := zGW_of [1381, 1383, 1385, 1387, 1389, 1391, 1393, 1395, 1397, 1399, 1401, 1403, 1405, 1407, 1409, 1411, 1413, 1415, 1417, 1419, 1421, 1423, 1425, 1427, 1429, 1431, 1433, 1435, 1437, 1439, 1441, 1443, 1445, 1447, 1449, 1451, 1453, 1455, 1457, 1459, 1461, 1463, 1465, 1467, 1469, 1471, 1473, 1475, 1477, 1479, 1481, 1483] (by decide +kernel) (by decide +kernel)
theorem zGW_all : ∀ (ci : Nat) (q : vw_C), zCl[ci]? = some q → zGW q.1 q.2.1 q.2.2 := by
  intro ci q h
  match ci, h with
  | 0, h => cases h; exact zGW0
  | 1, h => cases h; exact zGW1
  | 2, h => cases h; exact zGW2
  | 3, h => cases h; exact zGW3
  | 4, h => cases h; exact zGW4
  | 5, h => cases h; exact zGW5
  | 6, h => cases h; exact zGW6
  | 7, h => cases h; exact zGW7
  | 8, h => cases h; exact zGW8
  | 9, h => cases h; exact zGW9
  | 10, h => cases h; exact zGW10
  | ci + 11, h => simp [zCl] at h
theorem zGW_hts {X : ZX} (G : ZGood X) {s : State} (hW : X.2.1.WarmedH s.vm) (args : Array Value) {ci : Nat} {q : vw_C} (h : zCl[ci]? = some q) : ∀ w ∈ u_ws q.1 q.2.1 q.2.2, w.before args s = true := fun w hw => zGood_word G hW (zGW_all ci q h w hw).1 (zGW_all ci q h w hw).2 args
def zK (ty : FieldType) : Nat := match ty with
  | .int => 0
  | .boolean => 1
  | .object _ => 2
  | .array _ => 2
  | _ => 3
/-- a field's link: class of the code, entry, class of the object, which field -/
def ZF (own : String) (idx ci j : Nat) : Prop := ∃ q : vw_C, zCl[ci]? = some q ∧ j < q.2.2 ∧ (q.2.1 j).1 = q.1 ∧ (Cond.fieldLink own idx (q.2.1 j).1 (q.2.1 j).2.1 (q.2.1 j).2.2.1 ∈ lw_tbl ∨ ∃ host : String, Cond.fieldLinkNest own idx (q.2.1 j).1 (q.2.1 j).2.1 (q.2.1 j).2.2.1 host ∈ lw_tbl)
def zFin (ci j : Nat) : Bool := match zCl[ci]? with
  | some q => (q.2.1 j).2.2.2
  | none => false
theorem zNest_at {X : ZX} (G : ZGood X) {s : State} (hW : X.2.1.WarmedH s.vm) {a : String} {i : Nat} {b nm d h : String} (hm : Cond.fieldLinkNest a i b nm d h ∈ lw_tbl) (args : Array Value) : (Cond.fieldLinkNest a i b nm d h).before args s = true := by
  obtain ⟨⟨a0, h0⟩, -⟩ := G
  exact va_Nw.use rfl (va_Nw.warmF hW (va_Nw.of rfl (h0 _ hm)))
theorem zNestM_at {X : ZX} (G : ZGood X) {s : State} (hW : X.2.1.WarmedH s.vm) {a : String} {i : Nat} {y : MethodName} {h : String} (hm : Cond.methodLinkNest a i y h ∈ lw_tbl) : va_Nw (.methodLinkNest a i y h) s := by
  obtain ⟨⟨a0, h0⟩, -⟩ := G
  exact va_Nw.warmM hW (va_Nw.of rfl (h0 _ hm))
theorem zE_arr {B : Nat} {cA : FieldType → ClassId} {σ : ZSto} {k len : Nat} {ty : FieldType} (h : SH k = some (.inl (ty, len))) : zE B cA σ k = .inl (cA ty, len, zA σ ty k) := by simp [zE, h]
theorem zE_obj {B : Nat} {cA : FieldType → ClassId} {σ : ZSto} {k ci : Nat} (h : SH k = some (.inr ci)) : zE B cA σ k = .inr (ci, (List.range (zNf ci)).map (fun j => fV B σ (zTy ci j) k j)) := by simp [zE, h]
theorem zA_sI_ne {σ : ZSto} {ty : FieldType} {a b i : Nat} {x : Int} (h : b ≠ a) : zA (sI σ a i x) ty b = zA σ ty b := by
  unfold zA
  split
  · rfl
  · congr 1; funext j; simp [gI, sI, up2, h]
theorem zA_sL_ne {σ : ZSto} {ty : FieldType} {a b i : Nat} {x : Int64} (h : b ≠ a) : zA (sL σ a i x) ty b = zA σ ty b := by
  unfold zA
  split
  · congr 2; funext j; simp [gL, sL, up2, h]
  · rfl
theorem fV_sI_ne {B : Nat} {σ : ZSto} {ty : FieldType} {a b i j : Nat} {x : Int} (h : b ≠ a ∨ j ≠ i) : fV B (sI σ a i x) ty b j = fV B σ ty b j := by
  unfold fV
  split
  · rfl
  · rfl
  · rfl
  · congr 1
    simp only [gI, sI, up2]
    rw [if_neg]; rintro ⟨p, q⟩; omega
theorem fV_sL_ne {B : Nat} {σ : ZSto} {ty : FieldType} {a b i j : Nat} {x : Int64} (h : b ≠ a ∨ j ≠ i) : fV B (sL σ a i x) ty b j = fV B σ ty b j := by
  unfold fV
  split
  · congr 1
    simp only [gL, sL, up2]
    rw [if_neg]; rintro ⟨p, q⟩; omega
  · rfl
  · rfl
  · rfl
theorem fV_sP_ne {B : Nat} {σ : ZSto} {ty : FieldType} {a b i j : Nat} {x : Option Nat} (h : b ≠ a ∨ j ≠ i) : fV B (sP σ a i x) ty b j = fV B σ ty b j := by
  unfold fV
  split
  · rfl
  · congr 1
    simp only [gP, sP, up2]
    rw [if_neg]; rintro ⟨p, q⟩; omega
  · congr 1
    simp only [gP, sP, up2]
    rw [if_neg]; rintro ⟨p, q⟩; omega
  · rfl
theorem zE_sI_ne {B : Nat} {cA : FieldType → ClassId} {σ : ZSto} {a b i : Nat} {x : Int} (h : b ≠ a) : zE B cA (sI σ a i x) b = zE B cA σ b := by
  unfold zE
  split
  · rw [zA_sI_ne h]
  · congr 2; congr 1; funext j; exact fV_sI_ne (Or.inl h)
  · rfl
theorem zE_sL_ne {B : Nat} {cA : FieldType → ClassId} {σ : ZSto} {a b i : Nat} {x : Int64} (h : b ≠ a) : zE B cA (sL σ a i x) b = zE B cA σ b := by
  unfold zE
  split
  · rw [zA_sL_ne h]
  · congr 2; congr 1; funext j; exact fV_sL_ne (Or.inl h)
  · rfl
theorem zE_sP_ne {B : Nat} {cA : FieldType → ClassId} {σ : ZSto} {a b i : Nat} {x : Option Nat} (h : b ≠ a) : zE B cA (sP σ a i x) b = zE B cA σ b := by
  unfold zE
  split
  · congr 2
  · congr 2; congr 1; funext j; exact fV_sP_ne (Or.inl h)
  · rfl
theorem zMap_set {N j : Nat} {f g : Nat → Value} {v : Value} (hv : g j = v) (h : ∀ k, k ≠ j → g k = f k) : (List.range N).map g = ((List.range N).map f).set j v := by
  apply List.ext_getElem?
  intro k
  rw [List.getElem?_set]
  by_cases hk : j = k
  · subst hk
    rw [if_pos rfl]
    by_cases hl : j < N
    · simp [hl, hv]
    · simp [hl]
  · rw [if_neg hk]
    by_cases hl : k < N
    · simp [hl, h k (fun q => hk q.symm)]
    · simp [hl]
theorem zE_put {B : Nat} {cA : FieldType → ClassId} {σ σ' : ZSto} {o ci j : Nat} {v : Value} (hs : SH o = some (.inr ci)) (hv : fV B σ' (zTy ci j) o j = v) (h : ∀ k, k ≠ j → fV B σ' (zTy ci k) o k = fV B σ (zTy ci k) o k) :
    zE B cA σ' o = .inr (ci, ((List.range (zNf ci)).map (fun q => fV B σ (zTy ci q) o q)).set j v) := by
  rw [zE_obj hs, zMap_set (f := fun q => fV B σ (zTy ci q) o q) (g := fun q => fV B σ' (zTy ci q) o q) hv h]
theorem zSh_len {k : Nat} {ty : FieldType} {len : Nat} (h : SH k = some (.inl (ty, len))) : len < 2147483648 := by
  have h1 : ∀ q ∈ zSh, (match q with | .inl z => decide (z.2 < 2147483648) | .inr _ => true) = true := by decide +kernel
  have h2 := h1 _ (List.mem_of_getElem? h)
  simpa using h2
theorem zTys_at {X : ZX} {ty : FieldType} (h : ty = .int ∨ ty = .byte ∨ ty = .boolean ∨ ty = .long) : ∃ t0 : Nat, (zTys X)[t0]? = some (X.2.2.2 ty, ty) := by
  rcases h with h | h | h | h <;> subst h
  · exact ⟨0, rfl⟩
  · exact ⟨1, rfl⟩
  · exact ⟨2, rfl⟩
  · exact ⟨3, rfl⟩
section ZH
variable {X : ZX} {M : ZM} {R : Room} {Z : List Frame → Array Value → State → State → Prop} {n0 n pc : Nat} {ls : List (Option Value)} {st : List Value} {σ : ZSto}
theorem r_getfield {idx ci j o : Nat} {v : Value} (hd : decode M.2.1 pc = .ok (.getfield idx, 3)) (hl : ZF M.1.cls idx ci j) (ho : o < n) (hs : SH o = some (.inr ci)) (hv : fV (zB X) σ (zTy ci j) o j = v) (k : Zm X M R Z n0 n (pc + 3) ls (v :: st) σ) : Zm X M R Z n0 n pc ls (.ref (zB X + o) :: st) σ := by
  intro G p e s m args below meth c H locs lsA hF hL hP
  have kk := k G p e s m args below meth c H locs lsA hF hL hP
  obtain ⟨hn, hP, hS⟩ := hP
  obtain ⟨hx, hb, -, -, -, hown, -, hW, -, -⟩ := hF
  obtain ⟨q, hq, hj, hC, hl⟩ := hl
  have hts := zGW_hts G hW args hq
  have he := zW_at (B := zB X) (cA := X.2.2.2) (σ := σ) ho
  rw [zE_obj hs] at he
  have hfs : ((List.range (zNf ci)).map (fun j => fV (zB X) σ (zTy ci j) o j))[j]? = some v := by
    rw [(zCls_ok ci q hq).1]
    simp [hj, hv]
  rcases hl with hl | ⟨host, hl⟩
  · exact va_get hx hb (C := q.1) (T := q.2.1) (N := q.2.2) hts (fun _ h => h) hown (zGood_K G hW) hP o he hq j hj (zGood_word G hW hl rfl args) (fun _ h => h) hfs hd kk
  · exact va_getN hx hb (C := q.1) (T := q.2.1) (N := q.2.2) hts (fun _ h => h) hown (zGood_K G hW) hP o he hq j hj (zNest_at G hW hl args) (fun _ h => h) hfs hd kk
theorem r_putfield {idx ci j o : Nat} {v : Value} {σ' : ZSto} (hd : decode M.2.1 pc = .ok (.putfield idx, 3)) (hl : ZF M.1.cls idx ci j) (ho : o < n) (hs : SH o = some (.inr ci)) (hfin : zFin ci j = false)
    (hnar : narrow (zTy ci j) v = v) (hfit : fits (zTy ci j) v = true) (hv : fV (zB X) σ' (zTy ci j) o j = v) (hj2 : ∀ k, k ≠ j → fV (zB X) σ' (zTy ci k) o k = fV (zB X) σ (zTy ci k) o k) (hoth : ∀ b, b ≠ o → zE (zB X) X.2.2.2 σ' b = zE (zB X) X.2.2.2 σ b)
    (k : Zm X M R Z n0 n (pc + 3) ls st σ') : Zm X M R Z n0 n pc ls (v :: .ref (zB X + o) :: st) σ := by
  intro G p e s m args below meth c H locs lsA hF hL hP
  have kk := fun H1 locs1 hP1 => k G p e s m args below meth c H1 locs1 lsA hF hL hP1
  obtain ⟨hn, hP, hS⟩ := hP
  obtain ⟨hx, hb, -, -, -, hown, -, hW, -, -⟩ := hF
  obtain ⟨q, hq, hj, hC, hl⟩ := hl
  have hts := zGW_hts G hW args hq
  have he := zW_at (B := zB X) (cA := X.2.2.2) (σ := σ) ho
  rw [zE_obj hs] at he
  obtain ⟨e1, e2, e3⟩ := zCls_ok ci q hq
  have hf2 : (q.2.1 j).2.2.2 = false := by simpa [zFin, hq] using hfin
  have hln : j < ((List.range (zNf ci)).map (fun j => fV (zB X) σ (zTy ci j) o j)).length := by simp [e1, hj]
  have hset := zW_set (n := n) (zE_put (cA := X.2.2.2) hs hv hj2) hoth
  rcases hl with hl | ⟨host, hl⟩
  · refine va_put hx hb (C := q.1) (T := q.2.1) (N := q.2.2) hts (fun _ h => h) (zTy ci) e2 e3 hown (zGood_K G hW) hP (zW_D X _ σ n) hS o he hq j hj (zGood_word G hW hl rfl args) (fun _ h => h) hf2 (e2 j hj) hnar hfit hln hd (fun H1 locs1 hP1 _ hS1 => ?_)
    rw [hset] at hP1
    exact kk H1 locs1 ⟨hn, hP1, hS1⟩
  · refine va_putN hx hb (C := q.1) (T := q.2.1) (N := q.2.2) hts (fun _ h => h) (zTy ci) e2 e3 hown (zGood_K G hW) hP (zW_D X _ σ n) hS o he hq j hj (zNest_at G hW hl args) (fun _ h => h) hf2 (e2 j hj) hnar hfit hln hd (fun H1 locs1 hP1 _ hS1 => ?_)
    rw [hset] at hP1
    exact kk H1 locs1 ⟨hn, hP1, hS1⟩
theorem r_putfinal {idx ci j o : Nat} {v : Value} {σ' : ZSto} (hd : decode M.2.1 pc = .ok (.putfield idx, 3)) (hl : ZF M.1.cls idx ci j) (ho : o < n) (hs : SH o = some (.inr ci)) (hfin : zFin ci j = true) (hini : M.1.name = "<init>") (hown2 : ∀ q, zCl[ci]? = some q → q.1 = M.1.cls ∧ (Cond.fieldLink M.1.cls idx (q.2.1 j).1 (q.2.1 j).2.1 (q.2.1 j).2.2.1 ∈ lw_tbl))
    (hnar : narrow (zTy ci j) v = v) (hfit : fits (zTy ci j) v = true) (hv : fV (zB X) σ' (zTy ci j) o j = v) (hj2 : ∀ k, k ≠ j → fV (zB X) σ' (zTy ci k) o k = fV (zB X) σ (zTy ci k) o k) (hoth : ∀ b, b ≠ o → zE (zB X) X.2.2.2 σ' b = zE (zB X) X.2.2.2 σ b)
    (k : Zm X M R Z n0 n (pc + 3) ls st σ') : Zm X M R Z n0 n pc ls (v :: .ref (zB X + o) :: st) σ := by
  intro G p e s m args below meth c H locs lsA hF hL hP
  have kk := fun H1 locs1 hP1 => k G p e s m args below meth c H1 locs1 lsA hF hL hP1
  obtain ⟨hn, hP, hS⟩ := hP
  obtain ⟨hx, hb, -, -, -, hown, hnm, hW, -, -⟩ := hF
  obtain ⟨q, hq, hj, hC, -⟩ := hl
  have hl := (hown2 q hq).2
  have hts := zGW_hts G hW args hq
  have he := zW_at (B := zB X) (cA := X.2.2.2) (σ := σ) ho
  rw [zE_obj hs] at he
  obtain ⟨e1, e2, e3⟩ := zCls_ok ci q hq
  have hf2 : (q.2.1 j).2.2.2 = true := by simpa [zFin, hq] using hfin
  have hln : j < ((List.range (zNf ci)).map (fun j => fV (zB X) σ (zTy ci j) o j)).length := by simp [e1, hj]
  have hset := zW_set (n := n) (zE_put (cA := X.2.2.2) hs hv hj2) hoth
  refine va_putF hx hb (C := q.1) (T := q.2.1) (N := q.2.2) hts (fun _ h => h) (zTy ci) e2 e3 hown (zGood_K G hW) hP (zW_D X _ σ n) hS o he hq j hj (zGood_word G hW hl rfl args) (fun _ h => h) hf2 (hnm.trans hini) (hC.trans (hown2 q hq).1) (e2 j hj) hnar hfit hln hd (fun H1 locs1 hP1 _ hS1 => ?_)
  rw [hset] at hP1
  exact kk H1 locs1 ⟨hn, hP1, hS1⟩
end ZH
