/-- what addNode leaves -/
def AdN (σ σ' : ZSto) (t m k : Nat) (x : Int) (T : ATr) (bd : Nat → Int) : Prop := Fr (fun a i => (t + 1 ≤ a ∧ a ≤ t + 13) ∨ (a = t ∧ i = 15)) σ σ' ∧ gI σ' t 15 = (k : Int) + 1 ∧ (∀ i, i < k → CRn σ' t m T i) ∧ gI σ' (t + 1) k = x ∧ gI σ' (t + 6) k = (if x < 0 then 0 else tDep T x.toNat + 1) ∧ gI σ' (t + 11) k = 0 ∧ (∀ w, w < 3 → gL σ' (t + 12) (3 * k + w) = lN (pkW bd (m * m) w)) ∧ (∀ w, w < 3 → gL σ' (t + 13) (3 * k + w) = 0) ∧ (∀ T' : ATr, (∀ i, i < k → tPar T' i = tPar T i) → tPar T' k = x → CLk σ' t (k + 1) T')
theorem add_fin {σ σ1 σ' : ZSto} {t m k : Nat} {c x a1 a2 a3 a4 a5 : Int} {T : ATr} {bd : Nat → Int} (hC : CTr σ t m k c T) (h : AdN σ σ1 t m k x T bd) (hf : Fr (fun a i => i = k ∧ t + 7 ≤ a ∧ a ≤ t + 11) σ1 σ')
    (v1 : gI σ' (t + 7) k = a1) (v2 : gI σ' (t + 8) k = a2) (v3 : gI σ' (t + 9) k = a3) (v5 : gI σ' (t + 10) k = a5) (v4 : gI σ' (t + 11) k = a4) :
    Fr (fun a i => (t + 1 ≤ a ∧ a ≤ t + 13) ∨ (a = t ∧ i = 15)) σ σ' ∧ CTr σ' t m (k + 1) c (addT T k x a1 a2 a3 a4 a5 (if x < 0 then 0 else tDep T x.toNat + 1) bd (fun _ => 3)) := by
  obtain ⟨h1, h2, h3, h4, h5, h6, h7, h8, h9⟩ := h
  obtain ⟨c1, c2, c3, c4, c5⟩ := hC
  obtain ⟨e1, e2, e3, e4, e5, e6, e7, e8, e9⟩ := addT_k (T := T) (k := k) (a0 := x) (a1 := a1) (a2 := a2) (a3 := a3) (a4 := a4) (a5 := a5) (a6 := if x < 0 then 0 else tDep T x.toNat + 1) (br := bd) (st := fun _ => 3)
  refine ⟨h1.tr (hf.mono (fun a i q => by omega)), by rw [hf.I (by omega), h1.I (by omega)]; exact c1, by rw [hf.I (by omega), h1.I (by omega)]; exact c2, by rw [hf.I (by omega), h2]; simp, fun i hi => ?_, ?_⟩
  · by_cases z : i = k
    · subst z
      unfold CRn
      rw [e1, e2, e3, e4, e5, e6, e7, e8, e9]
      refine ⟨by rw [hf.I (by omega)]; exact h4, by rw [hf.I (by omega)]; exact h5, v1, v2, v3, v5, v4, fun w hw => by rw [hf.L (by omega)]; exact h7 w hw, fun w hw => ?_⟩
      have z : pkW (fun p => stC ((fun _ => (3 : Int)) p)) (m * m) w = 0 := pkW_zero (fun p _ => rfl)
      rw [hf.L (by omega), h8 w hw, z]; rfl
    · exact ((h3 i (by omega)).kept hf (fun a _ _ q => z q.1) (fun a w _ _ _ q => by omega)).congr (addT_n z)
  · exact (h9 _ (fun i hi => (addT_n (by omega)).1) e1).kept hf (fun a i _ _ _ q => by omega)
section ZT
variable {X : ZX} {d n : Nat} {σ : ZSto}
theorem sp_addMove (hn : 73 ≤ n) {t o m k : Nat} {c x mv w : Int} {T : ATr} {bd : Nat → Int} (ht : zIsT t) (ho : zIsB o) (hC : CTr σ t m k c T) (hW : TW m k T) (hB : BOk σ o m bd) (hk : k < 250) (hx : (k = 0 ∧ x = -1) ∨ (∃ b : Nat, b < k ∧ x = (b : Int))) (hm : mv = 1 ∨ mv = 2) (hw : R32 w) :
    ZkI X M_X7_addMove (d + 3) n [.ref (zB X + t), iV x, iV mv, iV w, .ref (zB X + o)] σ (fun v σ' => v = (k : Int) ∧ Fr (fun a i => (t + 1 ≤ a ∧ a ≤ t + 13) ∨ (a = t ∧ i = 15)) σ σ' ∧ CTr σ' t m (k + 1) c (addT T k x (if w = -1 then 2 else 1) mv w (if w = -1 then 0 else gI σ o 12) (3 - mv) (if x < 0 then 0 else tDep T x.toNat + 1) bd (fun _ => 3))) := by
  have hd : ¬ (t + 1 ≤ o ∧ o ≤ t + 13) ∧ o ≠ t := by clear hx; unfold zIsT at ht; unfold zIsB at ho; omega
  refine w_X7_addMove hn ht ho (by rcases hx with ⟨_, rfl⟩ | ⟨b, _, rfl⟩ <;> exact ⟨by omega, by omega⟩) ⟨by omega, by omega⟩ hw ((sp_addNode hn ht ho hC hW hB hk hx).mono ?_)
  rintro v σ1 - ⟨rfl, hA⟩
  have hA : AdN σ σ1 t m k x T bd := hA
  have tk : ((k : Int)).toNat = k := by omega
  rw [tk]
  refine ⟨fun q => by omega, fun _ => ⟨fun hw1 => ⟨by omega, (sp_otherColour hn hm).mono ?_⟩, fun hw1 => ⟨by omega, (sp_otherColour hn hm).mono ?_⟩⟩⟩
  · rintro v _ - ⟨rfl, rfl⟩
    refine ⟨fun _ => ⟨rfl, ?_⟩, fun z => absurd z hw1⟩
    rw [if_neg hw1, if_neg hw1]
    refine add_fin hC hA ?_ ?_ ?_ ?_ ?_ ?_
    · refine ((((Fr.rf.sI ?_).sI ?_).sI ?_).sI ?_).sI ?_ <;> omega
    · simp [gI_if]
    · simp [gI_if]
    · simp [gI_if]
    · simp [gI_if]
    · rw [gI_same, gI_c (by omega), gI_c (by omega), gI_c (by omega), hA.1.I (by omega)]
  · rintro v _ - ⟨rfl, rfl⟩
    refine ⟨fun z => absurd hw1 z, fun _ => ⟨rfl, ?_⟩⟩
    rw [if_pos hw1, if_pos hw1]
    refine add_fin hC hA ?_ ?_ ?_ ?_ ?_ ?_
    · refine ((((Fr.rf.sI ?_).sI ?_).sI ?_).sI ?_).sI ?_ <;> omega
    · simp [gI_if]
    · simp [gI_if]
    · simp [gI_if]
    · simp [gI_if]
    · simp [gI_if]
theorem sp_addSets (hn : 73 ≤ n) {t o m k : Nat} {c x tn : Int} {T : ATr} {bd : Nat → Int} (ht : zIsT t) (ho : zIsB o) (hC : CTr σ t m k c T) (hW : TW m k T) (hB : BOk σ o m bd) (hk : k < 250) (hx : (k = 0 ∧ x = -1) ∨ (∃ b : Nat, b < k ∧ x = (b : Int))) (hm : tn = 1 ∨ tn = 2) :
    ZkI X M_X7_addSets (d + 3) n [.ref (zB X + t), iV x, iV tn, .ref (zB X + o)] σ (fun v σ' => v = (k : Int) ∧ Fr (fun a i => (t + 1 ≤ a ∧ a ≤ t + 13) ∨ (a = t ∧ i = 15)) σ σ' ∧ CTr σ' t m (k + 1) c (addT T k x 0 0 (-1) 0 tn (if x < 0 then 0 else tDep T x.toNat + 1) bd (fun _ => 3))) := by
  refine w_X7_addSets hn ht ho (by rcases hx with ⟨_, rfl⟩ | ⟨b, _, rfl⟩ <;> exact ⟨by omega, by omega⟩) ⟨by omega, by omega⟩ ((sp_addNode hn ht ho hC hW hB hk hx).mono ?_)
  rintro v σ1 - ⟨rfl, hA⟩
  have hA : AdN σ σ1 t m k x T bd := hA
  have tk : ((k : Int)).toNat = k := by omega
  rw [tk]
  refine ⟨fun q => by omega, fun _ => ⟨by omega, rfl, ?_⟩⟩
  refine add_fin hC hA ?_ ?_ ?_ ?_ ?_ ?_
  · refine (((Fr.rf.sI ?_).sI ?_).sI ?_).sI ?_ <;> omega
  · simp [gI_if]
  · simp [gI_if]
  · simp [gI_if]
  · simp [gI_if]
  · simp [gI_if]; exact hA.2.2.2.2.2.1
/-- the settings of the last node are written -/
theorem sp_copySettings (hn : 73 ≤ n) {t m k : Nat} {c x tn dp : Int} {T : ATr} {bd st : Nat → Int} (ht : zIsT t) (hC : CTr σ t m (k + 1) c (addT T k x 0 0 (-1) 0 tn dp bd (fun _ => 3))) (hk : k < 250) (hs : ∀ w, w < 3 → gL σ 51 w = lN (pkW (fun p => stC (st p)) (m * m) w)) :
    ZkV X M_X7_copySettings (d + 2) n [.ref (zB X + t), iV (k : Int), .ref (zB X + 51)] σ (fun σ' => Fr (fun a i => a = t + 13) σ σ' ∧ CTr σ' t m (k + 1) c (addT T k x 0 0 (-1) 0 tn dp bd st)) := by
  refine w_X7_copySettings hn ht (a2 := 51) (z2 := 3) (by omega) rfl ⟨by omega, by omega⟩ ((sp_thasY hn ht hC.2.2.1 (by omega) (by omega)).mono ?_)
  rintro v _ - ⟨rfl, rfl⟩
  refine ⟨fun q => by omega, fun _ => ⟨fun q => by omega, fun _ => ⟨by omega, ?_⟩⟩⟩
  have ht51 : (51 : Nat) ≠ t + 13 := by unfold zIsT at ht; omega
  obtain ⟨σ', e⟩ : ∃ σ', σ' = cpL σ 51 (t + 13) 0 ((k : Int) * 3) 3 := ⟨_, rfl⟩
  have hL : ∀ i, gL σ' (t + 13) i = if 3 * k ≤ i ∧ i < 3 * k + 3 then gL σ 51 (i - 3 * k) else gL σ (t + 13) i := by
    intro i
    rw [e, gL_cpL]
    by_cases z : 3 * k ≤ i ∧ i < 3 * k + 3
    · rw [if_pos z, if_pos ⟨rfl, by omega, by omega⟩]
      congr 1
      simp; omega
    · rw [if_neg z, if_neg (by omega)]
  have hf : Fr (fun a i => a = t + 13 ∧ 3 * k ≤ i ∧ i < 3 * k + 3) σ σ' := by
    rw [e]
    exact Fr.rf.cpL (fun j h1 h2 => ⟨rfl, by omega, by omega⟩)
  rw [← e]
  obtain ⟨c1, c2, c3, c4, c5⟩ := hC
  refine ⟨hf.mono (fun a i q => q.1), by rw [hf.I (by omega)]; exact c1, by rw [hf.I (by omega)]; exact c2, by rw [hf.I (by omega)]; exact c3, fun i hi => ?_, ?_⟩
  · by_cases z : i = k
    · subst z
      have h := c4 i hi
      obtain ⟨e1, e2, e3, e4, e5, e6, e7, e8, e9⟩ := addT_k (T := T) (k := i) (a0 := x) (a1 := 0) (a2 := 0) (a3 := -1) (a4 := 0) (a5 := tn) (a6 := dp) (br := bd) (st := fun _ => 3)
      unfold CRn at h
      rw [e1, e2, e3, e4, e5, e6, e7, e8, e9] at h
      obtain ⟨e1, e2, e3, e4, e5, e6, e7, e8, e9⟩ := addT_k (T := T) (k := i) (a0 := x) (a1 := 0) (a2 := 0) (a3 := -1) (a4 := 0) (a5 := tn) (a6 := dp) (br := bd) (st := st)
      unfold CRn
      rw [e1, e2, e3, e4, e5, e6, e7, e8, e9]
      obtain ⟨h1, h2, h3, h4, h5, h6, h7, h8, h9⟩ := h
      refine ⟨by rw [hf.I (by omega)]; exact h1, by rw [hf.I (by omega)]; exact h2, by rw [hf.I (by omega)]; exact h3, by rw [hf.I (by omega)]; exact h4, by rw [hf.I (by omega)]; exact h5, by rw [hf.I (by omega)]; exact h6, by rw [hf.I (by omega)]; exact h7, fun w hw => by rw [hf.L (by omega)]; exact h8 w hw, fun w hw => ?_⟩
      rw [hL, if_pos (by omega), show 3 * i + w - 3 * i = w by omega]; exact hs w hw
    · have a1 := addT_n (T := T) (k := k) (i := i) (a0 := x) (a1 := 0) (a2 := 0) (a3 := -1) (a4 := 0) (a5 := tn) (a6 := dp) (br := bd) (st := st) z
      have a2 := addT_n (T := T) (k := k) (i := i) (a0 := x) (a1 := 0) (a2 := 0) (a3 := -1) (a4 := 0) (a5 := tn) (a6 := dp) (br := bd) (st := fun _ => 3) z
      have h := ((c4 i hi).kept hf (fun a _ _ q => by omega) (fun a w _ _ _ q => by omega))
      exact (h.congr (T' := T) (by rw [a2.1, a2.2.1, a2.2.2.1, a2.2.2.2.1, a2.2.2.2.2.1, a2.2.2.2.2.2.1, a2.2.2.2.2.2.2.1, a2.2.2.2.2.2.2.2.1, a2.2.2.2.2.2.2.2.2]; exact ⟨rfl, rfl, rfl, rfl, rfl, rfl, rfl, rfl, rfl⟩)).congr a1
  · intro i hi
    have h := c5.kept hf (fun a i _ _ _ q => by omega) i hi
    exact h
end ZT
