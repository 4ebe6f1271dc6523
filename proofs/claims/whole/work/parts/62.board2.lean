/-! ===== Board: loops over all points ===== -/
/-- the points that were gathered since: chains of points ahead of p -/
def Vis (σ : ZSto) (o m : Nat) (bd : Nat → Int) (e : Int) (p : Nat) : Prop := ∀ q, q < m * m → (e < gI σ (o + 4) q ↔ ∃ r, r < p ∧ bd r ≠ 0 ∧ Chn m bd r q)
theorem Vis.skip {σ : ZSto} {o m p : Nat} {bd : Nat → Int} {e : Int} (h : Vis σ o m bd e p) (hp : p < m * m) (hz : bd p = 0 ∨ e < gI σ (o + 4) p) : Vis σ o m bd e (p + 1) := by
  intro q hq
  rw [h q hq]
  constructor
  · rintro ⟨r, r1, r2, r3⟩; exact ⟨r, by omega, r2, r3⟩
  · rintro ⟨r, r1, r2, r3⟩
    by_cases e1 : r = p
    · subst e1
      rcases hz with z | z
      · exact absurd z r2
      · obtain ⟨t, t1, t2, t3⟩ := (h r hp).mp z
        exact ⟨t, t1, t2, t3.tr r3⟩
    · exact ⟨r, by omega, r2, r3⟩
theorem Vis.go {σ σ' : ZSto} {o m p : Nat} {bd : Nat → Int} {e : Int} (h : Vis σ o m bd e p) (hs : bd p ≠ 0) (he : e ≤ gI σ o 10) (hG : Gth σ σ' o m bd (fun x => bd x = bd p) p) : Vis σ' o m bd e (p + 1) := by
  intro q hq
  have hV := hG.2.2.1 q
  constructor
  · intro hz
    by_cases z : gI σ' (o + 4) q = gI σ o 10 + 1
    · exact ⟨p, by omega, hs, hV.mp z⟩
    · rw [(hG.2.2.2.2.2.2.2.2.2.2 q).1 z] at hz
      obtain ⟨r, r1, r2, r3⟩ := (h q hq).mp hz
      exact ⟨r, by omega, r2, r3⟩
  · rintro ⟨r, r1, r2, r3⟩
    by_cases e1 : r = p
    · subst e1
      rw [hV.mpr r3]; omega
    · have := (h q hq).mpr ⟨r, by omega, r2, r3⟩
      by_cases z : gI σ' (o + 4) q = gI σ o 10 + 1
      · omega
      · rw [(hG.2.2.2.2.2.2.2.2.2.2 q).1 z]; exact this
theorem Vis.start {σ : ZSto} {o m : Nat} {bd : Nat → Int} (h : BMk σ o) : Vis σ o m bd (gI σ o 10) 0 := by
  intro q _
  have := (h.2 q).1
  constructor
  · intro z; omega
  · rintro ⟨r, r1, -⟩; omega
/-- the least point of its chain -/
def Head (m : Nat) (bd : Nat → Int) (q : Nat) : Prop := ∀ r, Chn m bd q r → q ≤ r
theorem Vis.head {σ : ZSto} {o m p : Nat} {bd : Nat → Int} {e : Int} (h : Vis σ o m bd e p) (hp : p < m * m) (hs : bd p ≠ 0) : ¬ e < gI σ (o + 4) p ↔ Head m bd p := by
  rw [h p hp]
  constructor
  · intro hz r hr
    refine Classical.byContradiction (fun z => hz ⟨r, by omega, ?_, hr.symm⟩)
    rw [hr.col]; exact hs
  · rintro hz ⟨r, r1, r2, r3⟩
    have := hz r r3.symm
    omega
section ZB
variable {X : ZX} {d n : Nat} {σ : ZSto}
theorem sp_gatheredSince (hn : 73 ≤ n) {o m p : Nat} {e : Int} (ho : zIsB o) (hg : BGeo σ o m) (hp : p < m * m) (he : R32 e) : ZkZ X M_X0_gatheredSince (d + 2) n [.ref (zB X + o), iV (p : Int), iV e] σ (fun v σ' => σ = σ' ∧ ((v = 1 ∧ e < gI σ (o + 4) p) ∨ (v = 0 ∧ ¬ e < gI σ (o + 4) p))) := by
  have hN := sq_le hg.2.1
  refine w_X0_gatheredSince hn ho ⟨by omega, by omega⟩ he ((sp_has hn ho hg (x := (p : Int)) ⟨by omega, by omega⟩).mono ?_)
  rintro v _ - ⟨rfl, hv⟩
  rw [if_pos (by omega)] at hv
  have tp : ((p : Int)).toNat = p := by omega
  rw [tp]
  exact ⟨fun q => by omega, fun _ => ⟨by omega, fun q => ⟨rfl, Or.inr ⟨rfl, by omega⟩⟩, fun q => ⟨rfl, Or.inl ⟨rfl, by omega⟩⟩⟩⟩
theorem sp_onRim (hn : 73 ≤ n) {o m p : Nat} {e : Int} (ho : zIsB o) (hg : BGeo σ o m) (hp : p < m * m) (he : R32 e) : ZkZ X M_X0_onRim (d + 2) n [.ref (zB X + o), iV (p : Int), iV e] σ (fun v σ' => σ = σ' ∧ ((v = 1 ∧ gI σ (o + 5) p = e) ∨ (v = 0 ∧ ¬ gI σ (o + 5) p = e))) := by
  have hN := sq_le hg.2.1
  refine w_X0_onRim hn ho ⟨by omega, by omega⟩ he ((sp_has hn ho hg (x := (p : Int)) ⟨by omega, by omega⟩).mono ?_)
  rintro v _ - ⟨rfl, hv⟩
  rw [if_pos (by omega)] at hv
  have tp : ((p : Int)).toNat = p := by omega
  rw [tp]
  exact ⟨fun q => by omega, fun _ => ⟨by omega, fun q => ⟨rfl, Or.inr ⟨rfl, q⟩⟩, fun q => ⟨rfl, Or.inl ⟨rfl, q⟩⟩⟩⟩
theorem sp_lay (hn : 73 ≤ n) {o m p : Nat} {c : Int} (ho : zIsB o) (hg : BGeo σ o m) (hp : p < m * m) (hc : 0 ≤ c ∧ c ≤ 3) : ZkV X M_X0_lay (d + 2) n [.ref (zB X + o), iV (p : Int), iV c] σ (fun σ' => σ' = sI σ (o + 1) p c) := by
  have hN := sq_le hg.2.1
  refine w_X0_lay hn ho ⟨by omega, by omega⟩ ⟨by omega, by omega⟩ ((sp_has hn ho hg (x := (p : Int)) ⟨by omega, by omega⟩).mono ?_)
  rintro v _ - ⟨rfl, hv⟩
  rw [if_pos (by omega)] at hv
  have tp : ((p : Int)).toNat = p := by omega
  rw [tp, w8_small (by omega) (by omega)]
  exact ⟨fun q => by omega, fun _ => ⟨by omega, rfl⟩⟩
theorem least_loop (hn : 73 ≤ n) {o N k : Nat} (ho : zIsB o) {P : Int → ZSto → Prop} (hk : gI σ o 9 = (k : Int)) (hk81 : k ≤ 81) (hgr : ∀ i, i < k → ∃ q : Nat, gI σ (o + 3) i = (q : Int) ∧ q < N) (hN : N ≤ 81)
    (hP : ∀ x : Nat, x ≤ N → (∀ i, i < k → ∀ q : Nat, gI σ (o + 3) i = (q : Int) → x ≤ q) → (x = N ∨ ∃ i, i < k ∧ gI σ (o + 3) i = (x : Int)) → P (x : Int) σ) :
    ∀ (w i x : Nat), k - i ≤ w → i ≤ k → x ≤ N → (∀ i', i' < i → ∀ q : Nat, gI σ (o + 3) i' = (q : Int) → x ≤ q) → (x = N ∨ ∃ i', i' < i ∧ gI σ (o + 3) i' = (x : Int)) → L_X0_leastGathered_7 X d n (zpI P) o (x : Int) (i : Int) σ := by
  intro w
  induction w with
  | zero =>
    intro i x hw hi hx h1 h2
    have : i = k := by omega
    subst this
    refine b_X0_leastGathered_7 hn ho ?_
    rw [hk]
    exact ⟨fun _ => hP x hx h1 h2, fun q => by omega⟩
  | succ w ih =>
    intro i x hw hi hx h1 h2
    refine b_X0_leastGathered_7 hn ho ?_
    rw [hk]
    refine ⟨fun q => ?_, fun q => ⟨fun q2 => by omega, fun q2 => ⟨by omega, fun y hy => ⟨⟨by omega, by omega⟩, ?_⟩⟩⟩⟩
    · have : i = k := by omega
      subst this
      exact hP x hx h1 h2
    · obtain ⟨q, q1, q2⟩ := hgr i (by omega)
      have ti : ((i : Int)).toNat = i := by omega
      rw [ti, q1] at hy
      have ey : y = ((min x q : Nat) : Int) := by rw [hy]; unfold minI; split <;> omega
      rw [ey]
      have := ih (i + 1) (min x q) (by clear h2; omega) (by clear h2; omega) (by clear h2; omega) (fun i' hi' r hr => ?_) ?_
      · simpa using this
      · by_cases e : i' = i
        · subst e; rw [q1] at hr; clear h2; omega
        · have := h1 i' (by clear h2; omega) r hr; clear h2; omega
      · by_cases e : x ≤ q
        · rw [Nat.min_eq_left e]
          rcases h2 with h2 | ⟨i', k1, k2⟩
          · by_cases e2 : x = q
            · exact Or.inr ⟨i, by omega, by rw [q1, e2]⟩
            · exact Or.inl h2
          · exact Or.inr ⟨i', by omega, k2⟩
        · rw [Nat.min_eq_right (by omega)]
          exact Or.inr ⟨i, by omega, q1⟩
theorem sp_leastGathered (hn : 73 ≤ n) {o m s : Nat} (ho : zIsB o) {bd : Nat → Int} {S : Nat → Prop} {σ0 : ZSto} (hg : BGeo σ o m) (hG : Gth σ0 σ o m bd S s) (hs : s < m * m) :
    ZkI X M_X0_leastGathered (d + 1) n [.ref (zB X + o)] σ (fun v σ' => σ = σ' ∧ ∃ x : Nat, v = (x : Int) ∧ Rch m S s x ∧ ∀ q, Rch m S s q → x ≤ q) := by
  have hN := sq_le hg.2.1
  have hcl := cnt_le (Rch m S s) (m * m)
  refine w_X0_leastGathered hn ho (fun y hy => ?_)
  rw [hy, hg.2.2.2.1]
  have := least_loop (X := X) (d := d) (σ := σ) (N := m * m) hn ho (P := fun v σ' => σ = σ' ∧ ∃ x : Nat, v = (x : Int) ∧ Rch m S s x ∧ ∀ q, Rch m S s q → x ≤ q) hG.2.2.2.2.1 (by omega) (fun i hi => ?_) hN ?_ 82 0 (m * m) (by omega) (by omega) (Nat.le_refl _) (fun i' hi' => by omega) (Or.inl rfl)
  · simpa using this
  · obtain ⟨q, q1, q2⟩ := hG.2.2.2.2.2.1 i (by rw [hG.2.2.2.2.1]; omega)
    exact ⟨q, q1, q2.lt hs⟩
  · intro x hx h1 h2
    have all : ∀ q, Rch m S s q → x ≤ q := by
      intro q hq
      obtain ⟨i, i1, i2⟩ := hG.2.2.2.2.2.2.1 q hq
      exact h1 i (by rw [hG.2.2.2.2.1] at i1; omega) q i2
    refine ⟨rfl, x, rfl, ?_, all⟩
    rcases h2 with h2 | ⟨i, i1, i2⟩
    · have := all s Rch.rf; omega
    · obtain ⟨q, q1, q2⟩ := hG.2.2.2.2.2.1 i (by rw [hG.2.2.2.2.1]; omega)
      have : x = q := by omega
      rw [this]; exact q2
/-- the i-th of the points with P -/
def Nth (P : Nat → Prop) (N : Nat) (i : Int) (v : Int) : Prop := (∃ q : Nat, q < N ∧ P q ∧ (cnt P q : Nat) = i ∧ v = (q : Int)) ∨ ((∀ q : Nat, q < N → P q → ¬ ((cnt P q : Nat) : Int) = i) ∧ v = -1)
theorem Nth.uniq {P : Nat → Prop} {N : Nat} {i v w : Int} (h1 : Nth P N i v) (h2 : Nth P N i w) : v = w := by
  rcases h1 with ⟨q, q1, q2, q3, q4⟩ | ⟨q1, q2⟩ <;> rcases h2 with ⟨r, r1, r2, r3, r4⟩ | ⟨r1, r2⟩
  · have key : ∀ a b : Nat, a < b → P a → cnt P a < cnt P b := by
      intro a b hab ha
      have h := cnt_s ha
      have h2 : cnt P (a + 1) ≤ cnt P b := by
        have hb : ∃ k, b = a + 1 + k := ⟨b - (a + 1), by omega⟩
        obtain ⟨k, rfl⟩ := hb
        clear hab
        induction k with
        | zero => exact Nat.le_refl _
        | succ k ih =>
          by_cases z : P (a + 1 + k)
          · rw [← Nat.add_assoc, cnt_s z]; omega
          · rw [← Nat.add_assoc, cnt_n z]; exact ih
      omega
    have : q = r := by
      rcases Nat.lt_trichotomy q r with z | z | z
      · have := key q r z q2; omega
      · exact z
      · have := key r q z r2; omega
    rw [q4, r4, this]
  · exact absurd q3 (r1 q q1 q2)
  · exact absurd r3 (q1 r r1 r2)
  · rw [q2, r2]
theorem nth_loop (hn : 73 ≤ n) {o m : Nat} (ho : zIsB o) {bd : Nat → Int} {P : Int → ZSto → Prop} {i0 : Int} (hg : BGeo σ o m) (hst : BSt σ o m bd) (hi0 : R32 i0) (hi00 : 0 ≤ i0)
    (hP : ∀ v, Nth (fun q => bd q = 0 ∧ gI σ (o + 5) q = gI σ o 10) (m * m) i0 v → P v σ) :
    ∀ (w p : Nat), m * m - p ≤ w → p ≤ m * m → ((cnt (fun q => bd q = 0 ∧ gI σ (o + 5) q = gI σ o 10) p : Nat) : Int) ≤ i0 → (∀ q : Nat, q < p → (bd q = 0 ∧ gI σ (o + 5) q = gI σ o 10) → ¬ ((cnt (fun q => bd q = 0 ∧ gI σ (o + 5) q = gI σ o 10) q : Nat) : Int) = i0) → L_X0_nthLiberty_4 X d n (zpI P) o (i0 - (cnt (fun q => bd q = 0 ∧ gI σ (o + 5) q = gI σ o 10) p : Nat)) (p : Int) σ := by
  have hN := sq_le hg.2.1
  intro w
  induction w with
  | zero =>
    intro p hw hp hc hno
    have : p = m * m := by omega
    subst this
    refine b_X0_nthLiberty_4 hn ho ?_
    rw [hg.2.2.2.1]
    exact ⟨fun _ => hP _ (Or.inr ⟨hno, rfl⟩), fun q => by omega⟩
  | succ w ih =>
    intro p hw hp hc hno
    refine b_X0_nthLiberty_4 hn ho ?_
    rw [hg.2.2.2.1]
    refine ⟨fun q => ?_, fun q => ⟨by omega, ?_⟩⟩
    · have : p = m * m := by omega
      subst this
      exact hP _ (Or.inr ⟨hno, rfl⟩)
    · have tp : ((p : Int)).toNat = p := by omega
      have hp1 : R32 ((p : Int) + 1) := ⟨by omega, by omega⟩
      have hcp := cnt_le (fun q => bd q = 0 ∧ gI σ (o + 5) q = gI σ o 10) p
      rw [tp, hst p (by omega)]
      have skip : ¬ (bd p = 0 ∧ gI σ (o + 5) p = gI σ o 10) → L_X0_nthLiberty_4 X d n (zpI P) o (i0 - (cnt (fun q => bd q = 0 ∧ gI σ (o + 5) q = gI σ o 10) p : Nat)) ((p : Int) + 1) σ := by
        intro z
        have := ih (p + 1) (by omega) (by omega) (by rw [cnt_n (P := fun q => bd q = 0 ∧ gI σ (o + 5) q = gI σ o 10) z]; exact hc) (fun r hr hr2 => by
          by_cases e : r = p
          · subst e; exact absurd hr2 z
          · exact hno r (by omega) hr2)
        rw [cnt_n (P := fun q => bd q = 0 ∧ gI σ (o + 5) q = gI σ o 10) z] at this
        simpa using this
      refine ⟨fun z => ⟨hp1, skip (fun h => z h.1)⟩, fun z => ⟨fun z2 => ⟨hp1, skip (fun h => z2 h.2)⟩, fun z2 => ⟨fun z3 => ?_, fun z3 => hP _ (Or.inl ⟨p, by omega, ⟨z, z2⟩, by omega, rfl⟩)⟩⟩⟩
      unfold R32 at hi0
      refine ⟨⟨by omega, by omega⟩, hp1, ?_⟩
      have := ih (p + 1) (by omega) (by omega) (by rw [cnt_s (P := fun q => bd q = 0 ∧ gI σ (o + 5) q = gI σ o 10) ⟨z, z2⟩]; omega) (fun r hr hr2 => by
        by_cases e : r = p
        · subst e; omega
        · exact hno r (by omega) hr2)
      rw [cnt_s (P := fun q => bd q = 0 ∧ gI σ (o + 5) q = gI σ o 10) ⟨z, z2⟩] at this
      have e : i0 - ((cnt (fun q => bd q = 0 ∧ gI σ (o + 5) q = gI σ o 10) p + 1 : Nat) : Int) = i0 - (cnt (fun q => bd q = 0 ∧ gI σ (o + 5) q = gI σ o 10) p : Nat) + (-1) := by omega
      rw [e] at this
      simpa using this
theorem cnt_congr' {P Q : Nat → Prop} (h : ∀ i, P i ↔ Q i) (n : Nat) : cnt P n = cnt Q n := cnt_congr (fun i _ => h i)
theorem sp_nthLiberty (hn : 73 ≤ n) {o m s : Nat} {i : Int} (ho : zIsB o) {bd : Nat → Int} {σ0 : ZSto} (hg : BGeo σ o m) (hst : BSt σ o m bd) (hG : Gth σ0 σ o m bd (fun x => bd x = bd s) s) (hs : bd s ≠ 0) (hi : R32 i) (hi0 : 0 ≤ i) :
    ZkI X M_X0_nthLiberty (d + 1) n [.ref (zB X + o), iV i] σ (fun v σ' => σ = σ' ∧ Nth (Lib m bd s) (m * m) i v) := by
  refine w_X0_nthLiberty hn ho hi ?_
  have iff : ∀ q, (bd q = 0 ∧ gI σ (o + 5) q = gI σ o 10) ↔ Lib m bd s q := by
    intro q
    rw [hG.2.1, hG.2.2.2.1 q, ← Rim_lib hs q]
    exact And.comm
  have e : (fun q => bd q = 0 ∧ gI σ (o + 5) q = gI σ o 10) = Lib m bd s := funext (fun q => propext (iff q))
  have := nth_loop (X := X) (d := d) (σ := σ) hn ho (P := fun v σ' => σ = σ' ∧ Nth (Lib m bd s) (m * m) i v) hg hst hi hi0 (fun v hv => ⟨rfl, by rw [← e]; exact hv⟩) (m * m) 0 (by omega) (by omega) (by simpa [cnt] using hi0) (fun q hq => by omega)
  simpa [cnt] using this
/-- every chain has a liberty -/
def Alive (m : Nat) (bd : Nat → Int) : Prop := ∀ p, p < m * m → bd p ≠ 0 → ∃ x, Lib m bd p x
theorem breathe_loop (hn : 73 ≤ n) {o m : Nat} (ho : zIsB o) {bd : Nat → Int} {P : Int → ZSto → Prop} {σ0 : ZSto} {g0 : Int} (hg0 : 0 ≤ g0 ∧ g0 < 1999999000) (hm9 : m ≤ 9)
    (hP : ∀ (σ : ZSto) (v : Int), Fr (gatW o) σ0 σ → BOk σ o m bd → gI σ o 10 ≤ g0 + 81 → ((v = 1 ∧ Alive m bd) ∨ (v = 0 ∧ ¬ Alive m bd)) → P v σ) :
    ∀ (w : Nat) (σ : ZSto) (p : Nat), m * m - p ≤ w → p ≤ m * m → Fr (gatW o) σ0 σ → BOk σ o m bd → g0 ≤ gI σ o 10 → gI σ o 10 ≤ g0 + p → Vis σ o m bd g0 p → (∀ q, q < p → bd q ≠ 0 → ∃ x, Lib m bd q x) → L_X0_allBreathe_7 X (d + 2) n (zpZ P) o g0 (p : Int) σ := by
  have hN := sq_le hm9
  intro w
  induction w with
  | zero =>
    intro σ p hw hp hf hB hge hgl hV hA
    have : p = m * m := by omega
    subst this
    refine b_X0_allBreathe_7 hn ho ?_
    rw [hB.1.2.2.2.1]
    exact ⟨fun _ => hP σ 1 hf hB (by omega) (Or.inl ⟨rfl, hA⟩), fun q => by omega⟩
  | succ w ih =>
    intro σ p hw hp hf hB hge hgl hV hA
    refine b_X0_allBreathe_7 hn ho ?_
    rw [hB.1.2.2.2.1]
    refine ⟨fun q => ?_, fun q => ⟨by omega, ?_⟩⟩
    · have : p = m * m := by omega
      subst this
      exact hP σ 1 hf hB (by omega) (Or.inl ⟨rfl, hA⟩)
    · have hpN : p < m * m := by omega
      have tp : ((p : Int)).toNat = p := by omega
      have hp1 : R32 ((p : Int) + 1) := ⟨by omega, by omega⟩
      rw [tp, hB.2.2.1 p hpN]
      have nxt : ∀ (σ' : ZSto), Fr (gatW o) σ0 σ' → BOk σ' o m bd → g0 ≤ gI σ' o 10 → gI σ' o 10 ≤ g0 + (p + 1 : Nat) → Vis σ' o m bd g0 (p + 1) → (bd p ≠ 0 → ∃ x, Lib m bd p x) → L_X0_allBreathe_7 X (d + 2) n (zpZ P) o g0 ((p : Int) + 1) σ' := by
        intro σ' f' b' a1 a2 v' l'
        have := ih σ' (p + 1) (by omega) (by omega) f' b' a1 a2 v' (fun r hr hr2 => by
          by_cases e : r = p
          · subst e; exact l' hr2
          · exact hA r (by omega) hr2)
        simpa using this
      refine ⟨fun z => ⟨hp1, nxt σ hf hB hge (by omega) (hV.skip hpN (Or.inl z)) (fun h => absurd z h)⟩, fun z => ?_⟩
      refine (sp_gatheredSince hn ho hB.1 hpN ⟨by omega, by omega⟩).mono ?_
      rintro v _ - ⟨rfl, hv⟩
      refine ⟨fun q1 => ?_, fun q1 => ?_⟩
      · have hin : g0 < gI σ (o + 4) p := by rcases hv with h | h <;> omega
        refine ⟨hp1, nxt σ hf hB hge (by omega) (hV.skip hpN (Or.inr hin)) (fun _ => ?_)⟩
        obtain ⟨r, r1, r2, r3⟩ := (hV p hpN).mp hin
        obtain ⟨x, hx⟩ := hA r r1 r2
        exact ⟨x, (Lib.chn r3 x).mp hx⟩
      · refine (sp_gatherChain hn ho hB hpN z (by omega)).mono ?_
        intro σ1 hG
        refine (sp_liberties hn ho).mono ?_
        rintro v2 _ - ⟨rfl, hv2⟩
        rw [hG.libs z] at hv2
        have hf1 := hf.tr hG.1
        have hg1 := hG.2.1
        refine ⟨fun q2 => ⟨hp1, nxt σ1 hf1 (hG.ok hB) (by omega) (by omega) (hV.go z hge hG) (fun _ => ?_)⟩, fun q2 => hP σ1 0 hf1 (hG.ok hB) (by omega) (Or.inr ⟨rfl, fun hal => ?_⟩)⟩
        · have : ¬ cnt (Lib m bd p) (m * m) = 0 := by omega
          exact Classical.byContradiction (fun z => this (cnt_0 (fun i _ hi => z ⟨i, hi⟩)))
        · obtain ⟨x, hx⟩ := hal p hpN z
          have hx2 : x < m * m := by obtain ⟨-, a, -, h3⟩ := hx; exact h3.2.1
          exact cnt_0' (by omega) x hx2 hx
theorem sp_allBreathe (hn : 73 ≤ n) {o m : Nat} (ho : zIsB o) {bd : Nat → Int} (hB : BOk σ o m bd) (hg : gI σ o 10 < 1999999000) :
    ZkZ X M_X0_allBreathe (d + 3) n [.ref (zB X + o)] σ (fun v σ' => Fr (gatW o) σ σ' ∧ BOk σ' o m bd ∧ gI σ' o 10 ≤ gI σ o 10 + 81 ∧ ((v = 1 ∧ Alive m bd) ∨ (v = 0 ∧ ¬ Alive m bd))) := by
  refine w_X0_allBreathe hn ho (fun y hy => ?_)
  subst hy
  exact breathe_loop (X := X) (d := d) hn ho ⟨hB.2.2.2.1, hg⟩ hB.1.2.1 (fun σ' v h1 h2 h3 h4 => ⟨h1, h2, h3, h4⟩) (m * m) σ 0 (by omega) (by omega) Fr.rf hB (Int.le_refl _) (by omega) (Vis.start hB.2.2.2) (fun q hq => by omega)
theorem count_loop (hn : 73 ≤ n) {o m : Nat} (ho : zIsB o) {bd : Nat → Int} {P : Int → ZSto → Prop} {σ0 : ZSto} {g0 : Int} (hg0 : 0 ≤ g0 ∧ g0 < 1999999000) (hm9 : m ≤ 9)
    (hP : ∀ (σ : ZSto), Fr (gatW o) σ0 σ → BOk σ o m bd → gI σ o 10 ≤ g0 + 81 → P (cnt (fun q => bd q ≠ 0 ∧ Head m bd q) (m * m) : Nat) σ) :
    ∀ (w : Nat) (σ : ZSto) (p : Nat), m * m - p ≤ w → p ≤ m * m → Fr (gatW o) σ0 σ → BOk σ o m bd → g0 ≤ gI σ o 10 → gI σ o 10 ≤ g0 + p → Vis σ o m bd g0 p → L_X0_countChains_9 X (d + 2) n (zpI P) o g0 (cnt (fun q => bd q ≠ 0 ∧ Head m bd q) p : Nat) (p : Int) σ := by
  have hN := sq_le hm9
  intro w
  induction w with
  | zero =>
    intro σ p hw hp hf hB hge hgl hV
    have : p = m * m := by omega
    subst this
    refine b_X0_countChains_9 hn ho ?_
    rw [hB.1.2.2.2.1]
    exact ⟨fun _ => hP σ hf hB (by omega), fun q => by omega⟩
  | succ w ih =>
    intro σ p hw hp hf hB hge hgl hV
    refine b_X0_countChains_9 hn ho ?_
    rw [hB.1.2.2.2.1]
    refine ⟨fun q => ?_, fun q => ⟨by omega, ?_⟩⟩
    · have : p = m * m := by omega
      subst this
      exact hP σ hf hB (by omega)
    · have hpN : p < m * m := by omega
      have tp : ((p : Int)).toNat = p := by omega
      have hp1 : R32 ((p : Int) + 1) := ⟨by omega, by omega⟩
      have hcl := cnt_le (fun q => bd q ≠ 0 ∧ Head m bd q) p
      rw [tp, hB.2.2.1 p hpN]
      refine ⟨fun z => ⟨hp1, ?_⟩, fun z => ?_⟩
      · have := ih σ (p + 1) (by omega) (by omega) hf hB hge (by omega) (hV.skip hpN (Or.inl z))
        rw [cnt_n (P := fun q => bd q ≠ 0 ∧ Head m bd q) (fun h => h.1 z)] at this
        simpa using this
      · refine (sp_gatheredSince hn ho hB.1 hpN ⟨by omega, by omega⟩).mono ?_
        rintro v _ - ⟨rfl, hv⟩
        have hh := hV.head hpN z
        refine ⟨fun q1 => ⟨hp1, ?_⟩, fun q1 => ?_⟩
        · have hin : g0 < gI σ (o + 4) p := by rcases hv with h | h <;> omega
          have := ih σ (p + 1) (by omega) (by omega) hf hB hge (by omega) (hV.skip hpN (Or.inr hin))
          rw [cnt_n (P := fun q => bd q ≠ 0 ∧ Head m bd q) (fun h => (hh.mpr h.2) hin)] at this
          simpa using this
        · have hin : ¬ g0 < gI σ (o + 4) p := by rcases hv with h | h <;> omega
          refine (sp_gatherChain hn ho hB hpN z (by omega)).mono ?_
          intro σ1 hG
          have hg1 := hG.2.1
          refine ⟨⟨by omega, by omega⟩, hp1, ?_⟩
          have := ih σ1 (p + 1) (by omega) (by omega) (hf.tr hG.1) (hG.ok hB) (by omega) (by omega) (hV.go z hge hG)
          rw [cnt_s (P := fun q => bd q ≠ 0 ∧ Head m bd q) ⟨z, hh.mp hin⟩] at this
          simpa using this
theorem sp_countChains (hn : 73 ≤ n) {o m : Nat} (ho : zIsB o) {bd : Nat → Int} (hB : BOk σ o m bd) (hg : gI σ o 10 < 1999999000) :
    ZkI X M_X0_countChains (d + 3) n [.ref (zB X + o)] σ (fun v σ' => Fr (gatW o) σ σ' ∧ BOk σ' o m bd ∧ gI σ' o 10 ≤ gI σ o 10 + 81 ∧ v = (cnt (fun q => bd q ≠ 0 ∧ Head m bd q) (m * m) : Nat)) := by
  refine w_X0_countChains hn ho ?_
  have := count_loop (X := X) (d := d) (σ0 := σ) hn ho (P := fun v σ' => Fr (gatW o) σ σ' ∧ BOk σ' o m bd ∧ gI σ' o 10 ≤ gI σ o 10 + 81 ∧ v = (cnt (fun q => bd q ≠ 0 ∧ Head m bd q) (m * m) : Nat)) ⟨hB.2.2.2.1, hg⟩ hB.1.2.1 (fun σ' h1 h2 h3 => ⟨h1, h2, h3, rfl⟩) (m * m) σ 0 (by omega) (by omega) Fr.rf hB (Int.le_refl _) (by omega) (Vis.start hB.2.2.2)
  simpa [cnt] using this
theorem countOf_loop (hn : 73 ≤ n) {o m : Nat} {c : Int} (ho : zIsB o) {bd : Nat → Int} {P : Int → ZSto → Prop} (hg : BGeo σ o m) (hst : BSt σ o m bd) (hP : P (cnt (fun q => bd q = c) (m * m) : Nat) σ) :
    ∀ (w p : Nat), m * m - p ≤ w → p ≤ m * m → L_X0_countOf_4 X d n (zpI P) o c (cnt (fun q => bd q = c) p : Nat) (p : Int) σ := by
  have hN := sq_le hg.2.1
  intro w
  induction w with
  | zero =>
    intro p hw hp
    have : p = m * m := by omega
    subst this
    refine b_X0_countOf_4 hn ho ?_
    rw [hg.2.2.2.1]
    exact ⟨fun _ => hP, fun q => by omega⟩
  | succ w ih =>
    intro p hw hp
    refine b_X0_countOf_4 hn ho ?_
    rw [hg.2.2.2.1]
    refine ⟨fun q => ?_, fun q => ⟨by omega, ?_⟩⟩
    · have : p = m * m := by omega
      subst this
      exact hP
    · have tp : ((p : Int)).toNat = p := by omega
      have hp1 : R32 ((p : Int) + 1) := ⟨by omega, by omega⟩
      have hcl := cnt_le (fun q => bd q = c) p
      have := ih (p + 1) (by omega) (by omega)
      rw [tp, hst p (by omega)]
      refine ⟨fun z => ⟨hp1, ?_⟩, fun z => ⟨⟨by omega, by omega⟩, hp1, ?_⟩⟩
      · rw [cnt_n (P := fun q => bd q = c) z] at this
        simpa using this
      · rw [cnt_s (P := fun q => bd q = c) z] at this
        simpa using this
theorem sp_countOf (hn : 73 ≤ n) {o m : Nat} {c : Int} (ho : zIsB o) {bd : Nat → Int} (hg : BGeo σ o m) (hst : BSt σ o m bd) (hc : R32 c) : ZkI X M_X0_countOf (d + 1) n [.ref (zB X + o), iV c] σ (fun v σ' => σ = σ' ∧ v = (cnt (fun q => bd q = c) (m * m) : Nat)) := by
  refine w_X0_countOf hn ho hc ?_
  have := countOf_loop (X := X) (d := d) (σ := σ) (c := c) hn ho (P := fun v σ' => σ = σ' ∧ v = (cnt (fun q => bd q = c) (m * m) : Nat)) hg hst ⟨rfl, rfl⟩ (m * m) 0 (by omega) (by omega)
  simpa [cnt] using this
end ZB
