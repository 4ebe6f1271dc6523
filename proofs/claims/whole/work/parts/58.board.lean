/-! ===== Board: the small methods ===== -/
def BOk (σ : ZSto) (o m : Nat) (bd : Nat → Int) : Prop := BGeo σ o m ∧ BCon m bd ∧ BSt σ o m bd ∧ BMk σ o
def brdW (o a : Nat) : Prop := o ≤ a ∧ a ≤ o + 7
theorem BOk.kept {W : Nat → Nat → Prop} {σ σ' : ZSto} {o m : Nat} {bd : Nat → Int} (h : BOk σ o m bd) (hf : Fr W σ σ') (hw : ∀ a i, brdW o a → ¬ W a i) : BOk σ' o m bd := by
  have e : ∀ a i, brdW o a → gI σ' a i = gI σ a i := fun a i q => hf.I (hw a i q)
  obtain ⟨⟨a1, a2, a3, a4, a5⟩, hc, hs, hm1, hm2⟩ := h
  refine ⟨⟨a1, a2, by rw [e o 7 (by unfold brdW; omega)]; exact a3, by rw [e o 8 (by unfold brdW; omega)]; exact a4, fun p hp dd hd => by rw [e (o + 2) _ (by unfold brdW; omega)]; exact a5 p hp dd hd⟩, hc, fun p hp => by rw [e (o + 1) p (by unfold brdW; omega)]; exact hs p hp, by rw [e o 10 (by unfold brdW; omega)]; exact hm1, fun q => ?_⟩
  rw [e o 10 (by unfold brdW; omega), e (o + 4) q (by unfold brdW; omega), e (o + 5) q (by unfold brdW; omega)]
  exact hm2 q
theorem Gth.ok {σ0 σ : ZSto} {o m : Nat} {bd : Nat → Int} {S : Nat → Prop} {s : Nat} (h : Gth σ0 σ o m bd S s) (hg : BOk σ0 o m bd) : BOk σ o m bd := ⟨h.geo hg.1, hg.2.1, h.st hg.2.2.1, h.mk hg.2.2.2⟩
theorem gat_brd {o a i : Nat} (h : gatW o a i) : brdW o a := by unfold gatW at h; unfold brdW; omega
section ZB
variable {X : ZX} {d n : Nat} {σ : ZSto}
theorem sp_has (hn : 73 ≤ n) {o m : Nat} (ho : zIsB o) (hg : BGeo σ o m) {x : Int} (hx : R32 x) : ZkZ X M_X0_has (d + 1) n [.ref (zB X + o), iV x] σ (fun v σ' => σ = σ' ∧ v = if 0 ≤ x ∧ x < (m * m : Nat) then 1 else 0) := by
  refine w_X0_has hn ho hx ?_
  rw [hg.2.2.2.1]
  exact ⟨fun h => ⟨rfl, by rw [if_neg (by omega)]⟩, fun h => ⟨fun h2 => ⟨rfl, by rw [if_neg (by omega)]⟩, fun h2 => ⟨rfl, by rw [if_pos (by omega)]⟩⟩⟩
theorem sp_contentOf (hn : 73 ≤ n) {o m : Nat} (ho : zIsB o) {bd : Nat → Int} (hg : BGeo σ o m) (hs : BSt σ o m bd) {x : Int} (hx : R32 x) : ZkI X M_X0_contentOf (d + 1) n [.ref (zB X + o), iV x] σ (fun v σ' => σ = σ' ∧ v = if 0 ≤ x ∧ x < (m * m : Nat) then bd x.toNat else -1) := by
  have hN := sq_le hg.2.1
  refine w_X0_contentOf hn ho hx ?_
  rw [hg.2.2.2.1]
  exact ⟨fun h => ⟨rfl, by rw [if_neg (by omega)]⟩, fun h => ⟨fun h2 => ⟨rfl, by rw [if_neg (by omega)]⟩, fun h2 => ⟨by omega, rfl, by rw [if_pos (by omega)]; exact hs _ (by omega)⟩⟩⟩
theorem sp_contentAt (hn : 73 ≤ n) {o m p : Nat} (ho : zIsB o) {bd : Nat → Int} (hg : BGeo σ o m) (hs : BSt σ o m bd) (hp : p < m * m) : ZkI X M_X0_contentOf (d + 1) n [.ref (zB X + o), iV (p : Int)] σ (fun v σ' => σ = σ' ∧ v = bd p) := by
  have hN := sq_le hg.2.1
  refine (sp_contentOf hn ho hg hs (x := (p : Int)) ⟨by omega, by omega⟩).mono ?_
  rintro v _ - ⟨rfl, e⟩
  rw [if_pos (by omega)] at e
  exact ⟨rfl, by rw [e]; simp⟩
theorem sp_hasStone (hn : 73 ≤ n) {o m : Nat} (ho : zIsB o) {bd : Nat → Int} (hg : BGeo σ o m) (hc : BCon m bd) (hs : BSt σ o m bd) {x : Int} (hx : R32 x) : ZkZ X M_X0_hasStone (d + 2) n [.ref (zB X + o), iV x] σ (fun v σ' => σ = σ' ∧ ((v = 1 ∧ 0 ≤ x ∧ x < (m * m : Nat) ∧ bd x.toNat ≠ 0) ∨ (v = 0 ∧ ¬ (0 ≤ x ∧ x < (m * m : Nat) ∧ bd x.toNat ≠ 0)))) := by
  refine w_X0_hasStone hn ho hx ((sp_contentOf hn ho hg hs hx).mono ?_)
  rintro v _ - ⟨rfl, e⟩
  by_cases z : 0 ≤ x ∧ x < (m * m : Nat)
  · rw [if_pos z] at e
    have := hc x.toNat (by omega)
    exact ⟨fun h => ⟨rfl, by omega⟩, fun h => ⟨rfl, by omega⟩⟩
  · rw [if_neg z] at e
    exact ⟨fun h => ⟨rfl, by omega⟩, fun h => ⟨rfl, by omega⟩⟩
theorem sp_neighbour (hn : 73 ≤ n) {o m p dd : Nat} (ho : zIsB o) (hg : BGeo σ o m) (hp : p < m * m) (hd : dd < 4) : ZkI X M_X0_neighbour (d + 1) n [.ref (zB X + o), iV (p : Int), iV (dd : Int)] σ (fun v σ' => σ = σ' ∧ v = nbC m p dd) := by
  have hN := sq_le hg.2.1
  refine w_X0_neighbour hn ho ⟨by omega, by omega⟩ ⟨by omega, by omega⟩ ?_
  rw [hg.2.2.2.1]
  refine ⟨fun h => by omega, fun _ => ⟨fun h => by omega, fun _ => ⟨fun h => by omega, fun _ => ⟨fun h => by omega, fun _ => ⟨by omega, rfl, ?_⟩⟩⟩⟩⟩
  have : ((4 * (p : Int)) + (dd : Int)).toNat = 4 * p + dd := by omega
  rw [this]
  exact hg.2.2.2.2 p hp dd hd
theorem mask_c {c x : Int} (hc : c = 0 ∨ c = 1 ∨ c = 2) (hx : x = 0 ∨ x = 1 ∨ x = 2) : andI (shrI (shlI 1 c) x) 1 = 0 ↔ ¬ x = c := by
  rcases hc with rfl | rfl | rfl <;> rcases hx with rfl | rfl | rfl <;> decide
/-- gather over points of one content -/
theorem sp_gatherC (hn : 73 ≤ n) {o m s : Nat} {c : Int} (ho : zIsB o) {bd : Nat → Int} (hB : BOk σ o m bd) (hs : s < m * m) (hsc : bd s = c) (hb : gI σ o 10 < 2000000000) :
    ZkV X M_X0_gather (d + 1) n [.ref (zB X + o), iV (s : Int), iV (shlI 1 c)] σ (fun σ' => Gth σ σ' o m bd (fun x => bd x = bd s) s) := by
  subst hsc
  exact sp_gather hn ho hB.1 hB.2.1 hB.2.2.1 hB.2.2.2 hs rfl hb (r32_shl _ _) (fun q hq => mask_c (hB.2.1 s hs) (hB.2.1 q hq))
theorem sp_gatherChain (hn : 73 ≤ n) {o m s : Nat} (ho : zIsB o) {bd : Nat → Int} (hB : BOk σ o m bd) (hs : s < m * m) (hsc : bd s ≠ 0) (hb : gI σ o 10 < 2000000000) :
    ZkV X M_X0_gatherChain (d + 2) n [.ref (zB X + o), iV (s : Int)] σ (fun σ' => Gth σ σ' o m bd (fun x => bd x = bd s) s) := by
  have hN := sq_le hB.1.2.1
  refine w_X0_gatherChain hn ho ⟨by omega, by omega⟩ ((sp_contentAt hn ho hB.1 hB.2.2.1 hs).mono ?_)
  rintro v _ - ⟨rfl, rfl⟩
  have := hB.2.1 s hs
  exact ⟨fun h => by omega, fun h => sp_gatherC hn ho hB hs rfl hb⟩
theorem sp_liberties (hn : 73 ≤ n) {o : Nat} (ho : zIsB o) : ZkI X M_X0_liberties (d + 1) n [.ref (zB X + o)] σ (fun v σ' => σ = σ' ∧ v = gI σ (o + 6) 0) := w_X0_liberties hn ho ⟨rfl, rfl⟩
/-- liberties of a chain, as gather counts them -/
theorem Gth.libs {σ0 σ : ZSto} {o m s : Nat} {bd : Nat → Int} (h : Gth σ0 σ o m bd (fun x => bd x = bd s) s) (hs : bd s ≠ 0) : gI σ (o + 6) 0 = (cnt (Lib m bd s) (m * m) : Nat) := by
  rw [h.2.2.2.2.2.2.2.1 0 (by omega)]
  congr 1
  refine cnt_congr (fun i _ => ?_)
  constructor
  · rintro ⟨⟨h1, a, h2, h3⟩, h4⟩; exact ⟨h4, a, h2, h3⟩
  · rintro ⟨h4, a, h2, h3⟩; exact ⟨⟨fun z => hs (Eq.symm (h4.symm.trans z)), a, h2, h3⟩, h4⟩
theorem Rim_lib {m s : Nat} {bd : Nat → Int} (hs : bd s ≠ 0) (q : Nat) : (Rim m (fun x => bd x = bd s) s q ∧ bd q = 0) ↔ Lib m bd s q := by
  constructor
  · rintro ⟨⟨h1, a, h2, h3⟩, h4⟩; exact ⟨h4, a, h2, h3⟩
  · rintro ⟨h4, a, h2, h3⟩; exact ⟨⟨fun z => hs (Eq.symm (h4.symm.trans z)), a, h2, h3⟩, h4⟩
/-- takeIfStifled's loop: the row's points are emptied -/
theorem take_loop (hn : 73 ≤ n) {o m : Nat} (ho : zIsB o) {P : ZSto → Prop} {σ0 : ZSto} {k : Nat} (hk : gI σ0 o 9 = (k : Int)) (hk81 : k ≤ 81) (hN : m * m ≤ 81) (hgr : ∀ i, i < k → ∃ q : Nat, gI σ0 (o + 3) i = (q : Int) ∧ q < m * m) (hr : R32 (gI σ0 o 12 + k))
    (hP : ∀ σ : ZSto, Fr (fun a i => a = o + 1) σ0 σ → (∀ q : Nat, (∃ i, i < k ∧ gI σ0 (o + 3) i = (q : Int)) → gI σ (o + 1) q = 0) → (∀ q : Nat, (¬ ∃ i, i < k ∧ gI σ0 (o + 3) i = (q : Int)) → gI σ (o + 1) q = gI σ0 (o + 1) q) → P (sI σ o 12 (gI σ0 o 12 + k))) :
    ∀ (w : Nat) (σ : ZSto) (i : Nat), k - i ≤ w → i ≤ k → Fr (fun a i => a = o + 1) σ0 σ → (∀ q : Nat, (∃ i', i' < i ∧ gI σ0 (o + 3) i' = (q : Int)) → gI σ (o + 1) q = 0) → (∀ q : Nat, (¬ ∃ i', i' < i ∧ gI σ0 (o + 3) i' = (q : Int)) → gI σ (o + 1) q = gI σ0 (o + 1) q) → L_X0_takeIfStifled_12 X d n (zpV P) o (i : Int) σ := by
  intro w
  induction w with
  | zero =>
    intro σ i hw hi hf h1 h2
    have : i = k := by omega
    subst this
    refine b_X0_takeIfStifled_12 hn ho ?_
    rw [hf.I (a := o) (i := 9) (by omega), hk, hf.I (a := o) (i := 12) (by omega)]
    exact ⟨fun _ => ⟨hr, hP σ hf h1 h2⟩, fun q => by omega⟩
  | succ w ih =>
    intro σ i hw hi hf h1 h2
    by_cases e : i = k
    · subst e
      refine b_X0_takeIfStifled_12 hn ho ?_
      rw [hf.I (a := o) (i := 9) (by omega), hk, hf.I (a := o) (i := 12) (by omega)]
      exact ⟨fun _ => ⟨hr, hP σ hf h1 h2⟩, fun q => by omega⟩
    · refine b_X0_takeIfStifled_12 hn ho ?_
      rw [hf.I (a := o) (i := 9) (by omega), hk]
      refine ⟨fun q => by omega, fun q => ⟨fun q2 => by omega, fun q2 => ⟨by omega, ?_⟩⟩⟩
      have ti : ((i : Int)).toNat = i := by omega
      obtain ⟨q, hq, hqN⟩ := hgr i (by omega)
      rw [ti, hf.I (a := o + 3) (by omega), hq]
      refine ⟨by omega, ⟨by omega, by omega⟩, ?_⟩
      have tq : ((q : Int)).toNat = q := by omega
      rw [tq]
      have := ih (sI σ (o + 1) q 0) (i + 1) (by omega) (by omega) (hf.sI rfl) (fun r hr => ?_) (fun r hr => ?_)
      · simpa using this
      · by_cases z : r = q
        · subst z; simp [gI_if]
        · rw [gI_f z]
          obtain ⟨i', k1, k2⟩ := hr
          have : i' ≠ i := fun w => by rw [w, hq] at k2; omega
          exact h1 r ⟨i', by omega, k2⟩
      · have z : r ≠ q := fun w => hr ⟨i, by omega, by rw [hq, w]⟩
        rw [gI_f z]
        exact h2 r (fun ⟨i', k1, k2⟩ => hr ⟨i', by omega, k2⟩)
/-- behind a gather of a chain: it is taken if it has no liberty -/
theorem sp_takeIfStifled (hn : 73 ≤ n) {o m s : Nat} (ho : zIsB o) {bd : Nat → Int} {σ0 : ZSto} (hB0 : BOk σ0 o m bd) (hG : Gth σ0 σ o m bd (fun x => bd x = bd s) s) (hs : s < m * m) (hsc : bd s ≠ 0) (ht : 0 ≤ gI σ o 12 ∧ gI σ o 12 ≤ 1000) :
    ZkV X M_X0_takeIfStifled (d + 1) n [.ref (zB X + o)] σ (fun σ' => ((∃ x, Lib m bd s x) ∧ σ = σ') ∨ ((∀ x, ¬ Lib m bd s x) ∧ Fr (fun a i => a = o + 1 ∨ (a = o ∧ i = 12)) σ σ' ∧ BOk σ' o m (offB bd (Chn m bd s)) ∧ gI σ' o 12 = gI σ o 12 + (cnt (Chn m bd s) (m * m) : Nat))) := by
  have hN := sq_le hB0.1.2.1
  have hB := hG.ok hB0
  have hl := hG.libs hsc
  have hcl := cnt_le (Chn m bd s) (m * m)
  have hg9 : gI σ o 9 = (cnt (Chn m bd s) (m * m) : Nat) := hG.2.2.2.2.1
  refine w_X0_takeIfStifled hn ho ?_
  rw [hl]
  refine ⟨fun h => ?_, fun h => Or.inl ⟨?_, rfl⟩⟩
  · have none : ∀ x, ¬ Lib m bd s x := by
      intro x hx
      have hx2 : x < m * m := by obtain ⟨-, a, -, h3⟩ := hx; exact h3.2.1
      exact cnt_0' (by omega) x hx2 hx
    have := take_loop (X := X) (d := d) (σ0 := σ) (m := m) hn ho (P := fun σ' => ((∃ x, Lib m bd s x) ∧ σ = σ') ∨ ((∀ x, ¬ Lib m bd s x) ∧ Fr (fun a i => a = o + 1 ∨ (a = o ∧ i = 12)) σ σ' ∧ BOk σ' o m (offB bd (Chn m bd s)) ∧ gI σ' o 12 = gI σ o 12 + (cnt (Chn m bd s) (m * m) : Nat))) hg9 (by omega) hN ?_ ⟨by omega, by omega⟩ ?_ 82 σ 0 (by omega) (by omega) Fr.rf (fun q ⟨i', k, _⟩ => by omega) (fun q _ => rfl)
    · simpa using this
    · intro i hi
      obtain ⟨q, q1, q2⟩ := hG.2.2.2.2.2.1 i (by rw [hg9]; omega)
      exact ⟨q, q1, Rch.lt q2 hs⟩
    · intro σ' hf h1 h2
      have iff : ∀ q : Nat, (∃ i, i < cnt (Chn m bd s) (m * m) ∧ gI σ (o + 3) i = (q : Int)) ↔ Chn m bd s q := by
        intro q
        constructor
        · rintro ⟨i, i1, i2⟩
          obtain ⟨r, r1, r2⟩ := hG.2.2.2.2.2.1 i (by rw [hg9]; omega)
          have : q = r := by omega
          rw [this]; exact r2
        · intro h
          obtain ⟨i, i1, i2⟩ := hG.2.2.2.2.2.2.1 q h
          exact ⟨i, by rw [hg9] at i1; omega, i2⟩
      refine Or.inr ⟨none, (hf.mono (fun a i q => Or.inl q)).sI (Or.inr ⟨rfl, rfl⟩), ?_, by simp [gI_if]⟩
      obtain ⟨⟨a1, a2, a3, a4, a5⟩, hc, hst, hm1, hm2⟩ := hB
      have e : ∀ a i, a ≠ o + 1 → ¬ (a = o ∧ i = 12) → gI (sI σ' o 12 (gI σ o 12 + (cnt (Chn m bd s) (m * m) : Nat))) a i = gI σ a i := by
        intro a i z1 z2
        rw [gI_if, if_neg z2]; exact hf.I z1
      refine ⟨⟨a1, a2, by rw [e o 7 (by omega) (by omega)]; exact a3, by rw [e o 8 (by omega) (by omega)]; exact a4, fun p hp dd hd => by rw [e (o + 2) _ (by omega) (by omega)]; exact a5 p hp dd hd⟩, offB_con hc, fun p hp => ?_, by rw [e o 10 (by omega) (by omega)]; exact hm1, fun q => ?_⟩
      · rw [gI_c (by omega)]
        by_cases z : Chn m bd s p
        · rw [offB_p z]; exact h1 p ((iff p).mpr z)
        · rw [offB_n z, h2 p (fun w => z ((iff p).mp w))]; exact hst p hp
      · rw [e o 10 (by omega) (by omega), e (o + 4) q (by omega) (by omega), e (o + 5) q (by omega) (by omega)]; exact hm2 q
  · have : ¬ cnt (Lib m bd s) (m * m) = 0 := by omega
    exact Classical.byContradiction (fun z => this (cnt_0 (fun i _ hi => z ⟨i, hi⟩)))
end ZB
