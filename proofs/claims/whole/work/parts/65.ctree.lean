/-! ===== the class's Tree ===== -/
section ZT
variable {X : ZX} {d n : Nat} {σ : ZSto}
theorem sp_thas (hn : 73 ≤ n) {t k : Nat} (ht : zIsT t) (hk : gI σ t 15 = (k : Int)) (hk2 : k ≤ 250) {x : Int} (hx : R32 x) : ZkZ X M_X7_has (d + 1) n [.ref (zB X + t), iV x] σ (fun v σ' => σ = σ' ∧ ((v = 1 ∧ ∃ i : Nat, i < k ∧ x = (i : Int)) ∨ (v = 0 ∧ ¬ (0 ≤ x ∧ x < k)))) := by
  refine w_X7_has hn ht hx ?_
  rw [hk]
  exact ⟨fun h => ⟨rfl, Or.inr ⟨rfl, by omega⟩⟩, fun h => ⟨fun h2 => ⟨rfl, Or.inr ⟨rfl, by omega⟩⟩, fun h2 => ⟨fun h3 => by omega, fun h3 => ⟨rfl, Or.inl ⟨rfl, x.toNat, by omega, by omega⟩⟩⟩⟩⟩
theorem sp_thasY (hn : 73 ≤ n) {t k i : Nat} (ht : zIsT t) (hk : gI σ t 15 = (k : Int)) (hk2 : k ≤ 250) (hi : i < k) : ZkZ X M_X7_has (d + 1) n [.ref (zB X + t), iV (i : Int)] σ (fun v σ' => σ = σ' ∧ v = 1) := by
  refine (sp_thas hn ht hk hk2 (x := (i : Int)) ⟨by omega, by omega⟩).mono ?_
  rintro v _ - ⟨rfl, ⟨h, -⟩ | ⟨h, h2⟩⟩
  · exact ⟨rfl, h⟩
  · omega
theorem sp_thasN (hn : 73 ≤ n) {t k : Nat} {x : Int} (ht : zIsT t) (hk : gI σ t 15 = (k : Int)) (hk2 : k ≤ 250) (hx : R32 x) (hi : ¬ (0 ≤ x ∧ x < k)) : ZkZ X M_X7_has (d + 1) n [.ref (zB X + t), iV x] σ (fun v σ' => σ = σ' ∧ v = 0) := by
  refine (sp_thas hn ht hk hk2 hx).mono ?_
  rintro v _ - ⟨rfl, ⟨h, j, h1, h2⟩ | ⟨h, h2⟩⟩
  · omega
  · exact ⟨rfl, h⟩
theorem sp_turnAt (hn : 73 ≤ n) {t m k i : Nat} {c : Int} {T : ATr} (ht : zIsT t) (hC : CTr σ t m k c T) (hk2 : k ≤ 250) (hi : i < k) : ZkI X M_X7_turnAt (d + 2) n [.ref (zB X + t), iV (i : Int)] σ (fun v σ' => σ = σ' ∧ v = tTrn T i) := by
  refine w_X7_turnAt hn ht ⟨by omega, by omega⟩ ((sp_thasY hn ht hC.2.2.1 hk2 hi).mono ?_)
  rintro v _ - ⟨rfl, rfl⟩
  refine ⟨fun h => by omega, fun _ => ⟨by omega, rfl, ?_⟩⟩
  have ti : ((i : Int)).toNat = i := by omega
  rw [ti]
  exact (hC.2.2.2.1 i hi).2.2.2.2.2.1
theorem sp_kindOf (hn : 73 ≤ n) {t m k : Nat} {c x : Int} {T : ATr} (ht : zIsT t) (hC : CTr σ t m k c T) (hk2 : k ≤ 250) (hx : R32 x) : ZkI X M_X7_kindOf (d + 2) n [.ref (zB X + t), iV x] σ (fun v σ' => σ = σ' ∧ ((∃ i : Nat, i < k ∧ x = (i : Int) ∧ v = tKnd T i) ∨ (¬ (0 ≤ x ∧ x < k) ∧ v = -1))) := by
  refine w_X7_kindOf hn ht hx ((sp_thas hn ht hC.2.2.1 hk2 hx).mono ?_)
  rintro v _ - ⟨rfl, ⟨rfl, i, hi, rfl⟩ | ⟨rfl, h⟩⟩
  · refine ⟨fun h => by omega, fun _ => ⟨by omega, rfl, Or.inl ⟨i, hi, rfl, ?_⟩⟩⟩
    have ti : ((i : Int)).toNat = i := by omega
    rw [ti]
    exact (hC.2.2.2.1 i hi).2.2.1
  · exact ⟨fun _ => ⟨rfl, Or.inr ⟨h, rfl⟩⟩, fun q => by omega⟩
theorem sp_parentOf (hn : 73 ≤ n) {t m k : Nat} {c x : Int} {T : ATr} (ht : zIsT t) (hC : CTr σ t m k c T) (hk2 : k ≤ 250) (hx : R32 x) : ZkI X M_X7_parentOf (d + 2) n [.ref (zB X + t), iV x] σ (fun v σ' => σ = σ' ∧ ((∃ i : Nat, i < k ∧ x = (i : Int) ∧ v = tPar T i) ∨ (¬ (0 ≤ x ∧ x < k) ∧ v = -1))) := by
  refine w_X7_parentOf hn ht hx ((sp_thas hn ht hC.2.2.1 hk2 hx).mono ?_)
  rintro v _ - ⟨rfl, ⟨rfl, i, hi, rfl⟩ | ⟨rfl, h⟩⟩
  · refine ⟨fun h => by omega, fun _ => ⟨by omega, rfl, Or.inl ⟨i, hi, rfl, ?_⟩⟩⟩
    have ti : ((i : Int)).toNat = i := by omega
    rw [ti]
    exact (hC.2.2.2.1 i hi).1
  · exact ⟨fun _ => ⟨rfl, Or.inr ⟨h, rfl⟩⟩, fun q => by omega⟩
/-- over at node i -/
def Over (T : ATr) (i : Nat) : Prop := tKnd T i = 2 ∧ 0 ≤ tPar T i ∧ tKnd T (tPar T i).toNat = 2
theorem TW.par {m k : Nat} {T : ATr} (h : TW m k T) {i : Nat} (hi : i < k) : (i = 0 ∧ tPar T i = -1) ∨ (0 < i ∧ ∃ b : Nat, b < i ∧ tPar T i = (b : Int)) := by
  have := h.2.2.2 i hi
  by_cases z : i = 0
  · exact Or.inl ⟨z, this.1 z⟩
  · have h2 := this.2.1 (by omega)
    exact Or.inr ⟨by omega, (tPar T i).toNat, by omega, by omega⟩
theorem sp_isOver (hn : 73 ≤ n) {t m k i : Nat} {c : Int} {T : ATr} (ht : zIsT t) (hC : CTr σ t m k c T) (hW : TW m k T) (hi : i < k) : ZkZ X M_X7_isOver (d + 3) n [.ref (zB X + t), iV (i : Int)] σ (fun v σ' => σ = σ' ∧ ((v = 1 ∧ Over T i) ∨ (v = 0 ∧ ¬ Over T i))) := by
  have hk2 := hW.2.2.1
  refine w_X7_isOver hn ht ⟨by omega, by omega⟩ ((sp_kindOf hn ht hC hk2 ⟨by omega, by omega⟩).mono ?_)
  rintro v _ - ⟨rfl, ⟨j, hj, ej, ev⟩ | ⟨h, -⟩⟩
  · have : j = i := by omega
    subst this
    refine ⟨fun h => ⟨rfl, Or.inr ⟨rfl, fun z => h (ev.trans z.1)⟩⟩, fun h => (sp_parentOf hn ht hC hk2 ⟨by omega, by omega⟩).mono ?_⟩
    rintro v2 _ - ⟨rfl, ⟨j', hj', ej', ev2⟩ | ⟨h', -⟩⟩
    · have : j' = j := by omega
      subst this
      have hp := hW.par hi
      refine (sp_kindOf hn ht hC hk2 (x := v2) (by rw [ev2]; rcases hp with ⟨_, q⟩ | ⟨_, b, q1, q2⟩ <;> exact ⟨by omega, by omega⟩)).mono ?_
      rintro v3 _ - ⟨rfl, ⟨b, hb, eb, ev3⟩ | ⟨h3, e3⟩⟩
      · have hb2 : (tPar T j').toNat = b := by omega
        refine ⟨fun q => ⟨rfl, Or.inr ⟨rfl, fun z => q ?_⟩⟩, fun q => ⟨rfl, Or.inl ⟨rfl, by omega, by omega, by rw [hb2]; omega⟩⟩⟩
        rw [ev3, ← hb2]; exact z.2.2
      · refine ⟨fun _ => ⟨rfl, Or.inr ⟨rfl, fun z => h3 ?_⟩⟩, fun q => by omega⟩
        have := z.2.1
        rcases hp with ⟨_, q⟩ | ⟨_, b, q1, q2⟩ <;> omega
    · omega
  · omega
/-- addNode -/
theorem sp_addNode (hn : 73 ≤ n) {t o m k : Nat} {c x : Int} {T : ATr} {bd : Nat → Int} (ht : zIsT t) (ho : zIsB o) (hC : CTr σ t m k c T) (hW : TW m k T) (hB : BOk σ o m bd) (hk : k < 250) (hx : (k = 0 ∧ x = -1) ∨ (∃ b : Nat, b < k ∧ x = (b : Int))) :
    ZkI X M_X7_addNode (d + 2) n [.ref (zB X + t), iV x, .ref (zB X + o)] σ (fun v σ' => v = (k : Int) ∧ Fr (fun a i => (t + 1 ≤ a ∧ a ≤ t + 13) ∨ (a = t ∧ i = 15)) σ σ' ∧ gI σ' t 15 = (k : Int) + 1 ∧ (∀ i, i < k → CRn σ' t m T i) ∧ gI σ' (t + 1) k = x ∧ gI σ' (t + 6) k = (if x < 0 then 0 else tDep T x.toNat + 1) ∧ gI σ' (t + 11) k = 0 ∧ (∀ w, w < 3 → gL σ' (t + 12) (3 * k + w) = lN (pkW bd (m * m) w)) ∧ (∀ w, w < 3 → gL σ' (t + 13) (3 * k + w) = 0) ∧ (∀ T' : ATr, (∀ i, i < k → tPar T' i = tPar T i) → tPar T' k = x → CLk σ' t (k + 1) T')) := by
  have hd : ∀ a, brdW o a → ¬ (t ≤ a ∧ a ≤ t + 13) := by intro a; unfold brdW; unfold zIsT at ht; unfold zIsB at ho; omega
  obtain ⟨hC1, hC2, hC3, hC4, hC5⟩ := hC
  refine w_X7_addNode hn ht ho (by rcases hx with ⟨_, rfl⟩ | ⟨b, _, rfl⟩ <;> exact ⟨by omega, by omega⟩) ?_
  rw [hC3]
  refine ⟨fun _ y4 hy4 => ?_, fun q => by omega⟩
  subst hy4
  have tk : ((k : Int)).toNat = k := by omega
  have k0 : ((k : Int) * 3).toNat = 3 * k := by omega
  have k1 : ((k : Int) * 3 + 1).toNat = 3 * k + 1 := by omega
  have k2 : ((k : Int) * 3 + 1 + 1).toNat = 3 * k + 2 := by omega
  rw [tk]
  refine ⟨⟨by omega, by omega⟩, by omega, ⟨by omega, by omega⟩, ?_⟩
  obtain ⟨σ1, e1⟩ : ∃ σ1, σ1 = sI (sI (sI (sI (sI (sI (sI (sI σ t 15 ((k : Int) + 1)) (t + 1) k x) (t + 2) k (-1)) (t + 3) k (-1)) (t + 4) k (-1)) (t + 5) k 0) (t + 6) k 0) (t + 11) k 0 := ⟨_, rfl⟩
  rw [← e1]
  refine b_X7_addNode_81 hn ht ho ⟨⟨by omega, by omega⟩, fun q => by omega, fun _ => ⟨by omega, ⟨by omega, by omega⟩, b_X7_addNode_81 hn ht ho ⟨⟨by omega, by omega⟩, fun q => by omega, fun _ => ⟨by omega, ⟨by omega, by omega⟩, b_X7_addNode_81 hn ht ho ⟨⟨by omega, by omega⟩, fun q => by omega, fun _ => ⟨by omega, ⟨by omega, by omega⟩, b_X7_addNode_81 hn ht ho ⟨⟨by omega, by omega⟩, fun _ => ?_, fun q => by omega⟩⟩⟩⟩⟩⟩⟩
  rw [k0, k1, k2]
  obtain ⟨σ2, e2⟩ : ∃ σ2, σ2 = sL (sL (sL σ1 (t + 13) (3 * k) (0 : Int64)) (t + 13) (3 * k + 1) (0 : Int64)) (t + 13) (3 * k + 2) (0 : Int64) := ⟨_, rfl⟩
  rw [← e2, show (k : Int) * 3 = ((3 * k : Nat) : Int) by omega]
  have fI : ∀ a i, gI σ2 a i = gI σ1 a i := fun a i => by rw [e2]; rfl
  have f1 : Fr (fun a i => (t + 1 ≤ a ∧ a ≤ t + 13) ∨ (a = t ∧ i = 15)) σ σ1 := by
    rw [e1]
    refine (((((((Fr.rf.sI ?_).sI ?_).sI ?_).sI ?_).sI ?_).sI ?_).sI ?_).sI ?_ <;> omega
  have f2 : Fr (fun a i => (t + 1 ≤ a ∧ a ≤ t + 13) ∨ (a = t ∧ i = 15)) σ σ2 := by
    rw [e2]
    refine ((f1.sL ?_).sL ?_).sL ?_ <;> omega
  have n1 : ∀ a i, i ≠ k → t + 1 ≤ a → gI σ1 a i = gI σ a i := by
    intro a i hi ha
    rw [e1]
    have : a ≠ t := by omega
    simp [gI_if, hi, this]
  have hB2 : BOk σ2 o m bd := hB.kept f2 (fun a i h q => hd a h (by omega))
  have hzt : zIsT t := ht
  refine (sp_store hn ho (zT_l11 ht hn) (zT_s11 ht) hB2.1 hB2.2.1 hB2.2.2.1 (from_ := 3 * k) (by omega)).mono ?_
  rintro σ3 ⟨f3, w3⟩
  have g3 : ∀ a i, a ≠ t + 12 → gI σ3 a i = gI σ1 a i := fun a i ha => by rw [f3.I (fun z => ha z.1), fI]
  have g3L : ∀ a i, a ≠ t + 12 → gL σ3 a i = gL σ2 a i := fun a i ha => f3.L (fun z => ha z.1)
  have F3 : Fr (fun a i => (t + 1 ≤ a ∧ a ≤ t + 13) ∨ (a = t ∧ i = 15)) σ σ3 := f2.tr (f3.mono (fun a i q => by omega))
  have n15 : gI σ3 t 15 = ((k + 1 : Nat) : Int) := by rw [g3 _ _ (by omega), e1]; simp [gI_if]
  have L13 : ∀ w, w < 3 → gL σ2 (t + 13) (3 * k + w) = 0 := by
    intro w hw
    have : w = 0 ∨ w = 1 ∨ w = 2 := by omega
    rw [e2]
    rcases this with rfl | rfl | rfl <;> simp [gL_if]
  have L12o : ∀ i w, i < k → w < 3 → gL σ3 (t + 12) (3 * i + w) = gL σ (t + 12) (3 * i + w) := by
    intro i w hi hw
    rw [f3.L (by omega), e2, gL_c (by omega), gL_c (by omega), gL_c (by omega), e1]; rfl
  have L13o : ∀ i w, i < k → w < 3 → gL σ3 (t + 13) (3 * i + w) = gL σ (t + 13) (3 * i + w) := by
    intro i w hi hw
    rw [g3L _ _ (by omega), e2, gL_f (by omega), gL_f (by omega), gL_f (by omega), e1]; rfl
  -- the nodes ahead of it, in any store that differs from σ3 in links, and in depth at k
  have old : ∀ τ : ZSto, (∀ a i, gL τ a i = gL σ3 a i) → (∀ a i, i < k → (a = t + 1 ∨ (t + 6 ≤ a ∧ a ≤ t + 11)) → gI τ a i = gI σ3 a i) → ∀ i, i < k → CRn τ t m T i := by
    intro τ hL hI i hi
    have o : ∀ a, (a = t + 1 ∨ (t + 6 ≤ a ∧ a ≤ t + 11)) → gI τ a i = gI σ a i := fun a ha => by rw [hI a i hi ha, g3 _ _ (by omega), n1 _ _ (by omega) (by omega)]
    obtain ⟨h1, h2, h3, h4, h5, h6, h7, h8, h9⟩ := hC4 i hi
    refine ⟨?_, ?_, ?_, ?_, ?_, ?_, ?_, fun w hw => ?_, fun w hw => ?_⟩
    · rw [o _ (by omega)]; exact h1
    · rw [o _ (by omega)]; exact h2
    · rw [o _ (by omega)]; exact h3
    · rw [o _ (by omega)]; exact h4
    · rw [o _ (by omega)]; exact h5
    · rw [o _ (by omega)]; exact h6
    · rw [o _ (by omega)]; exact h7
    · rw [hL, L12o i w hi hw]; exact h8 w hw
    · rw [hL, L13o i w hi hw]; exact h9 w hw
  have kk : gI σ3 (t + 1) k = x ∧ gI σ3 (t + 2) k = -1 ∧ gI σ3 (t + 3) k = -1 ∧ gI σ3 (t + 4) k = -1 ∧ gI σ3 (t + 5) k = 0 ∧ gI σ3 (t + 6) k = 0 ∧ gI σ3 (t + 11) k = 0 := by
    rw [g3 _ _ (by omega), g3 _ _ (by omega), g3 _ _ (by omega), g3 _ _ (by omega), g3 _ _ (by omega), g3 _ _ (by omega), g3 _ _ (by omega), e1]
    simp [gI_if]
  obtain ⟨q1, q2, q3, q4, q5, q6, q11⟩ := kk
  rcases hx with ⟨hk0, rfl⟩ | ⟨b, hb, rfl⟩
  · refine (sp_thasN hn ht n15 (by omega) ⟨by omega, by omega⟩ (by omega)).mono ?_
    rintro v _ - ⟨rfl, rfl⟩
    refine ⟨fun _ => ⟨rfl, F3, by rw [n15]; omega, old σ3 (fun _ _ => rfl) (fun _ _ _ _ => rfl), q1, by rw [q6]; rfl, q11, w3, fun w hw => by rw [g3L _ _ (by omega)]; exact L13 w hw, fun T' _ hp => ?_⟩, fun z => by omega⟩
    subst hk0
    exact lnk_one hp q5 q3 q2 q4
  · refine (sp_thasY hn ht n15 (by omega) (by omega)).mono ?_
    rintro v _ - ⟨rfl, rfl⟩
    refine ⟨fun z => by omega, fun _ => ?_⟩
    have tb : ((b : Int)).toNat = b := by omega
    rw [tb, tk]
    have dB : gI σ3 (t + 6) b = tDep T b := by rw [g3 _ _ (by omega), n1 _ _ (by omega) (by omega)]; exact (hC4 b hb).2.1
    have dB2 := (hW.2.2.2 b hb).2.2.2.2.2.2.2.2.2.2.2.2.2.2.1
    have e3b : gI σ3 (t + 3) b = gI σ (t + 3) b := by rw [g3 _ _ (by omega), n1 _ _ (by omega) (by omega)]
    refine ⟨by omega, by omega, by rw [dB]; exact ⟨by omega, by omega⟩, fun y hy => ?_⟩
    rw [e3b] at hy
    obtain ⟨σ4, e4⟩ : ∃ σ4, σ4 = sI σ3 (t + 6) k (gI σ3 (t + 6) b + 1) := ⟨_, rfl⟩
    rw [← e4]
    have n15' : gI σ4 t 15 = ((k + 1 : Nat) : Int) := by rw [e4, gI_c (by omega)]; exact n15
    have G := (hC5 b hb).2.2.1
    have C5 := (hC5 b hb).1
    have C5l := cnt_le (fun j => tPar T j = (b : Int)) k
    have yr : R32 y := by
      rcases G with ⟨z, _⟩ | ⟨j, z1, _, z2, _⟩
      · rw [hy, z]; exact ⟨by omega, by omega⟩
      · rw [hy, z2]; exact ⟨by omega, by omega⟩
    have o4 : ∀ a i, a ≠ t + 6 → gI σ4 a i = gI σ3 a i := fun a i ha => by rw [e4, gI_c ha]
    have o4i : ∀ a i, i ≠ k → gI σ4 a i = gI σ3 a i := fun a i ha => by rw [e4, gI_f ha]
    have o5 : gI σ4 (t + 5) b = gI σ (t + 5) b := by rw [o4 _ _ (by omega), g3 _ _ (by omega), n1 _ _ (by omega) (by omega)]
    have oo : ∀ a i, i < k → t + 2 ≤ a → a ≤ t + 5 → gI σ4 a i = gI σ a i := fun a i hi h1 h2 => by rw [o4i _ _ (by omega), g3 _ _ (by omega), n1 _ _ (by omega) (by omega)]
    have d4 : gI σ4 (t + 6) k = tDep T b + 1 := by rw [e4, gI_same, dB]
    have F4 : Fr (fun a i => (t + 1 ≤ a ∧ a ≤ t + 13) ∨ (a = t ∧ i = 15)) σ σ4 := by rw [e4]; exact F3.sI (by omega)
    have hlt : ∀ i, i < k → tPar T i < i := by
      intro i hi
      rcases hW.par hi with ⟨z1, z2⟩ | ⟨_, b', z1, z2⟩ <;> omega
    refine (sp_thas hn ht n15' (by omega) yr).mono ?_
    rintro v _ - ⟨rfl, ⟨rfl, el, hel, eel⟩ | ⟨rfl, hno⟩⟩
    · subst eel
      have hel2 : el < k := by
        rcases G with ⟨z, _⟩ | ⟨j, z1, _, z2, _⟩ <;> omega
      have tel : ((el : Int)).toNat = el := by omega
      rw [tel, o5, C5]
      refine ⟨fun z => by omega, fun _ => ⟨by omega, ⟨by omega, by omega⟩, ?_⟩⟩
      obtain ⟨σ5, e5⟩ : ∃ σ5, σ5 = sI (sI (sI σ4 (t + 4) el (k : Int)) (t + 3) b (k : Int)) (t + 5) b (((cnt (fun j => tPar T j = (b : Int)) k : Nat) : Int) + 1) := ⟨_, rfl⟩
      rw [← e5]
      have u : ∀ a i, ¬ (a = t + 3 ∨ a = t + 4 ∨ a = t + 5) → gI σ5 a i = gI σ4 a i := fun a i ha => by rw [e5, gI_c (by omega), gI_c (by omega), gI_c (by omega)]
      refine ⟨rfl, by rw [e5]; exact ((F4.sI (by omega)).sI (by omega)).sI (by omega), by rw [u _ _ (by omega), n15']; omega, old σ5 (fun a i => by rw [e5, e4]; rfl) (fun a i hi ha => by rw [u _ _ (by omega), o4i _ _ (by omega)]), by rw [u _ _ (by omega), o4 _ _ (by omega)]; exact q1, by rw [u _ _ (by omega), d4, if_neg (by omega)], by rw [u _ _ (by omega), o4 _ _ (by omega)]; exact q11, fun w hw => by rw [e5, e4]; exact w3 w hw, fun w hw => by rw [e5, e4]; exact (g3L _ _ (by omega)).trans (L13 w hw), fun T' hp hpk => ?_⟩
      refine lnk_add (b := b) hC5 hp hpk hb hlt (fun i hi hib => ?_) ?_ ?_ (fun i hi hib => ?_) ?_ ?_ (fun i hi hib => ?_) (fun z => by omega) ?_ (fun i hi hib => ?_) (fun i hi hib => ?_) ?_
      · rw [e5, gI_f hib, gI_c (by omega), gI_c (by omega)]; exact oo _ _ hi (by omega) (by omega)
      · rw [e5, gI_same, C5]
      · rw [e5, gI_f (by omega), gI_c (by omega), gI_c (by omega), o4 _ _ (by omega)]; exact q5
      · rw [e5, gI_c (by omega), gI_f hib, gI_c (by omega)]; exact oo _ _ hi (by omega) (by omega)
      · rw [e5, gI_c (by omega), gI_same]
      · rw [e5, gI_c (by omega), gI_f (by omega), gI_c (by omega), o4 _ _ (by omega)]; exact q3
      · rw [u _ _ (by omega)]; exact oo _ _ hi (by omega) (by omega)
      · rw [u _ _ (by omega), o4 _ _ (by omega)]; exact q2
      · rw [e5, gI_c (by omega), gI_c (by omega), gI_f (by omega)]; exact oo _ _ hi (by omega) (by omega)
      · have : i = el := by omega
        rw [this, e5, gI_c (by omega), gI_c (by omega), gI_same]
      · rw [e5, gI_c (by omega), gI_c (by omega), gI_f (by omega), o4 _ _ (by omega)]; exact q4
    · have hy1 : y = -1 := by
        rcases G with ⟨z, _⟩ | ⟨j, z1, _, z2, _⟩
        · omega
        · exfalso; apply hno; omega
      rw [o5, C5]
      refine ⟨fun _ => ⟨⟨by omega, by omega⟩, ?_⟩, fun z => by omega⟩
      obtain ⟨σ5, e5⟩ : ∃ σ5, σ5 = sI (sI (sI σ4 (t + 2) b (k : Int)) (t + 3) b (k : Int)) (t + 5) b (((cnt (fun j => tPar T j = (b : Int)) k : Nat) : Int) + 1) := ⟨_, rfl⟩
      rw [← e5]
      have u : ∀ a i, ¬ (a = t + 3 ∨ a = t + 2 ∨ a = t + 5) → gI σ5 a i = gI σ4 a i := fun a i ha => by rw [e5, gI_c (by omega), gI_c (by omega), gI_c (by omega)]
      refine ⟨rfl, by rw [e5]; exact ((F4.sI (by omega)).sI (by omega)).sI (by omega), by rw [u _ _ (by omega), n15']; omega, old σ5 (fun a i => by rw [e5, e4]; rfl) (fun a i hi ha => by rw [u _ _ (by omega), o4i _ _ (by omega)]), by rw [u _ _ (by omega), o4 _ _ (by omega)]; exact q1, by rw [u _ _ (by omega), d4, if_neg (by omega)], by rw [u _ _ (by omega), o4 _ _ (by omega)]; exact q11, fun w hw => by rw [e5, e4]; exact w3 w hw, fun w hw => by rw [e5, e4]; exact (g3L _ _ (by omega)).trans (L13 w hw), fun T' hp hpk => ?_⟩
      refine lnk_add (b := b) hC5 hp hpk hb hlt (fun i hi hib => ?_) ?_ ?_ (fun i hi hib => ?_) ?_ ?_ (fun i hi hib => ?_) (fun z => ?_) ?_ (fun i hi hib => ?_) (fun i hi hib => ?_) ?_
      · rw [e5, gI_f hib, gI_c (by omega), gI_c (by omega)]; exact oo _ _ hi (by omega) (by omega)
      · rw [e5, gI_same, C5]
      · rw [e5, gI_f (by omega), gI_c (by omega), gI_c (by omega), o4 _ _ (by omega)]; exact q5
      · rw [e5, gI_c (by omega), gI_f hib, gI_c (by omega)]; exact oo _ _ hi (by omega) (by omega)
      · rw [e5, gI_c (by omega), gI_same]
      · rw [e5, gI_c (by omega), gI_f (by omega), gI_c (by omega), o4 _ _ (by omega)]; exact q3
      · rw [e5, gI_c (by omega), gI_c (by omega), gI_f (by omega)]; exact oo _ _ hi (by omega) (by omega)
      · rw [e5, gI_c (by omega), gI_c (by omega), gI_same]
      · rw [e5, gI_c (by omega), gI_c (by omega), gI_f (by omega), o4 _ _ (by omega)]; exact q2
      · rw [u _ _ (by omega)]; exact oo _ _ hi (by omega) (by omega)
      · omega
      · rw [u _ _ (by omega), o4 _ _ (by omega)]; exact q4
end ZT
