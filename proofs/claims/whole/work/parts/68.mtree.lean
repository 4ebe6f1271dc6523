/-! ===== the reference's nodes ===== -/
/-- a node's number in slot g -/
def mX (g : Nat) (x : Int) : Int := if x < 0 then -1 else 250 * (g : Int) + x
theorem mX_n {g : Nat} {x : Int} (h : x < 0) : mX g x = -1 := if_pos h
theorem mX_p {g i : Nat} : mX g (i : Int) = ((250 * g + i : Nat) : Int) := by unfold mX; rw [if_neg (by omega)]; omega
/-- the board ahead of a node behind x -/
def bB (T : ATr) (x : Int) : Nat → Int := if x < 0 then (fun _ => 0) else tBrd T x.toNat
theorem bB_n {T : ATr} {x : Int} (h : x < 0) : bB T x = fun _ => 0 := if_pos h
theorem bB_p {T : ATr} {i : Nat} : bB T (i : Int) = tBrd T i := by unfold bB; rw [if_neg (by omega)]; congr 1
theorem bB_con {m k : Nat} {T : ATr} {x : Int} (hW : TW m k T) (hx : x < k) : BCon m (bB T x) ∧ ∀ p, m * m ≤ p → bB T x p = 0 := by
  by_cases h : x < 0
  · rw [bB_n h]; exact ⟨fun _ _ => Or.inl rfl, fun _ _ => rfl⟩
  · obtain ⟨i, rfl⟩ : ∃ i : Nat, x = (i : Int) := ⟨x.toNat, by omega⟩
    rw [bB_p]
    have := hW.2.2.2 i (by omega)
    exact ⟨this.2.2.2.2.2.2.2.2.2.2.2.2.2.2.2.1, this.2.2.2.2.2.2.2.2.2.2.2.2.2.2.2.2.1⟩
def ExB (i : Nat) (Q : Nat → Prop) : Prop := ∃ p, p < i ∧ Q p
section ZM
variable {X : ZX} {d n : Nat} {σ : ZSto}
theorem sm_load (hn : 104 ≤ n) {x : Int} (hx : -1 ≤ x ∧ x < 500) : ZkV X M_X10_load (d + 1) n [.ref (zB X + 73), iV x] σ (fun σ' => Fr (fun a i => a = 84 ∧ i < 81) σ σ' ∧ ∀ p, p < 81 → gI σ' 84 p = if x < 0 then 0 else gI σ 79 (81 * x.toNat + p)) := by
  refine w_X10_load hn ⟨by omega, by omega⟩ ?_
  have := upto (N := 81) (Q := fun i τ => L_X10_load_2 X d n (zpV (fun σ' => Fr (fun a i => a = 84 ∧ i < 81) σ σ' ∧ ∀ p, p < 81 → gI σ' 84 p = if x < 0 then 0 else gI σ 79 (81 * x.toNat + p))) x (i : Int) τ) (I := fun i τ => Fr (fun a i => a = 84 ∧ i < 81) σ τ ∧ ∀ p, p < i → gI τ 84 p = if x < 0 then 0 else gI σ 79 (81 * x.toNat + p))
    (fun τ h => b_X10_load_2 hn ⟨fun _ => h, fun q => by omega⟩) ?_ 0 σ (by omega) ⟨Fr.rf, fun p hp => by omega⟩
  · simpa using this
  · rintro i τ hi ⟨hf, hp⟩ ih
    have ti : ((i : Int)).toNat = i := by omega
    refine b_X10_load_2 hn ⟨fun q => by omega, fun _ => ⟨fun q => ⟨by omega, by omega, ⟨by omega, by omega⟩, ?_⟩, fun q => ⟨by omega, ⟨by omega, by omega⟩, ?_⟩⟩⟩
    · have := ih (sI τ 84 i (gI τ 79 (((81 * x) + i).toNat))) ⟨hf.sI ⟨rfl, hi⟩, fun p hp2 => ?_⟩
      · rw [ti]; simpa using this
      · by_cases e : p = i
        · subst e
          rw [gI_same, if_neg (by omega), hf.I (by omega)]; congr 1; omega
        · rw [gI_f e]; exact hp p (by omega)
    · have := ih (sI τ 84 i 0) ⟨hf.sI ⟨rfl, hi⟩, fun p hp2 => ?_⟩
      · rw [ti]; simpa using this
      · by_cases e : p = i
        · subst e
          rw [gI_same, if_pos (by omega)]
        · rw [gI_f e]; exact hp p (by omega)
theorem sm_keep (hn : 104 ≤ n) {K : Nat} (hK : K < 500) : ZkV X M_X10_keep (d + 1) n [.ref (zB X + 73), iV (K : Int)] σ (fun σ' => Fr (fun a i => a = 79 ∧ 81 * K ≤ i ∧ i < 81 * K + 81) σ σ' ∧ ∀ p, p < 81 → gI σ' 79 (81 * K + p) = gI σ 84 p) := by
  refine w_X10_keep hn ⟨by omega, by omega⟩ ?_
  have := upto (N := 81) (Q := fun i τ => L_X10_keep_2 X d n (zpV (fun σ' => Fr (fun a i => a = 79 ∧ 81 * K ≤ i ∧ i < 81 * K + 81) σ σ' ∧ ∀ p, p < 81 → gI σ' 79 (81 * K + p) = gI σ 84 p)) (K : Int) (i : Int) τ) (I := fun i τ => Fr (fun a i => a = 79 ∧ 81 * K ≤ i ∧ i < 81 * K + 81) σ τ ∧ ∀ p, p < i → gI τ 79 (81 * K + p) = gI σ 84 p)
    (fun τ h => b_X10_keep_2 hn ⟨fun _ => h, fun q => by omega⟩) ?_ 0 σ (by omega) ⟨Fr.rf, fun p hp => by omega⟩
  · simpa using this
  · rintro i τ hi ⟨hf, hp⟩ ih
    have ti : ((i : Int)).toNat = i := by omega
    have tk : ((81 * (K : Int)) + (i : Int)).toNat = 81 * K + i := by omega
    refine b_X10_keep_2 hn ⟨fun q => by omega, fun _ => ⟨by omega, by omega, ⟨by omega, by omega⟩, ?_⟩⟩
    rw [ti, tk]
    have := ih (sI τ 79 (81 * K + i) (gI τ 84 i)) ⟨hf.sI ⟨rfl, by omega, by omega⟩, fun p hp2 => ?_⟩
    · simpa using this
    · by_cases e : p = i
      · subst e
        rw [gI_same, hf.I (by omega)]
      · rw [gI_f (by omega)]; exact hp p (by omega)
theorem sm_settles (hn : 104 ≤ n) {K : Nat} {g x : Int} (hK : K < 500) (hg : R32 g) (hx : -1 ≤ x ∧ x < 500) (hp : gI σ 74 K = x) :
    ZkV X M_X10_settles (d + 2) n [.ref (zB X + 73), iV g, iV (K : Int)] σ (fun σ' => Fr (fun a i => (a = 84 ∧ i < 81) ∨ (a = 79 ∧ 81 * K ≤ i ∧ i < 81 * K + 81)) σ σ' ∧ ∀ p, p < 81 → gI σ' 79 (81 * K + p) = if gI σ 80 (81 * K + p) < 3 then gI σ 80 (81 * K + p) else if x < 0 then 0 else gI σ 79 (81 * x.toNat + p)) := by
  have tK : ((K : Int)).toNat = K := by omega
  refine w_X10_settles hn hg ⟨by omega, by omega⟩ ⟨by omega, ?_⟩
  rw [tK, hp]
  refine (sm_load hn hx).mono ?_
  rintro σ1 ⟨f1, w1⟩
  have := upto (N := 81) (Q := fun i τ => L_X10_settles_12 X (d + 1) n (zpV (fun σ' => Fr (fun a i => (a = 84 ∧ i < 81) ∨ (a = 79 ∧ 81 * K ≤ i ∧ i < 81 * K + 81)) σ σ' ∧ ∀ p, p < 81 → gI σ' 79 (81 * K + p) = if gI σ 80 (81 * K + p) < 3 then gI σ 80 (81 * K + p) else if x < 0 then 0 else gI σ 79 (81 * x.toNat + p))) (K : Int) (i : Int) τ) (I := fun i τ => Fr (fun a i => a = 84 ∧ i < 81) σ1 τ ∧ (∀ p, p < i → gI τ 84 p = if gI σ 80 (81 * K + p) < 3 then gI σ 80 (81 * K + p) else gI σ1 84 p) ∧ ∀ p, i ≤ p → gI τ 84 p = gI σ1 84 p)
    ?_ ?_ 0 σ1 (by omega) ⟨Fr.rf, fun p hp => by omega, fun _ _ => rfl⟩
  · simpa using this
  · rintro τ ⟨hf, hq, -⟩
    refine b_X10_settles_12 hn ⟨fun _ => (sm_keep hn hK).mono ?_, fun q => by omega⟩
    rintro σ2 ⟨f2, w2⟩
    refine ⟨((f1.mono (fun a i q => Or.inl q)).tr (hf.mono (fun a i q => Or.inl q))).tr (f2.mono (fun a i q => Or.inr q)), fun p hp => ?_⟩
    rw [w2 p hp, hq p hp, w1 p hp]
  · rintro i τ hi ⟨hf, hq, hr⟩ ih
    have ti : ((i : Int)).toNat = i := by omega
    have tk : ((81 * (K : Int)) + (i : Int)).toNat = 81 * K + i := by omega
    have e80 : gI τ 80 (81 * K + i) = gI σ 80 (81 * K + i) := by rw [hf.I (by omega), f1.I (by omega)]
    refine b_X10_settles_12 hn ?_
    rw [tk, ti, e80]
    refine ⟨fun q => by omega, fun _ => ⟨by omega, fun q => ⟨⟨by omega, by omega⟩, ?_⟩, fun q => ⟨by omega, ⟨by omega, by omega⟩, ?_⟩⟩⟩
    · have := ih τ ⟨hf, fun p hp2 => ?_, fun p hp2 => hr p (by omega)⟩
      · simpa using this
      · by_cases e : p = i
        · subst e
          rw [if_neg (by omega)]; exact hr p (by omega)
        · exact hq p (by omega)
    · have := ih (sI τ 84 i (gI σ 80 (81 * K + i))) ⟨hf.sI ⟨rfl, hi⟩, fun p hp2 => ?_, fun p hp2 => by rw [gI_f (by omega)]; exact hr p (by omega)⟩
      · simpa using this
      · by_cases e : p = i
        · subst e
          rw [gI_same, if_pos (by omega)]
        · rw [gI_f e]; exact hq p (by omega)
theorem sm_isBoard (hn : 104 ≤ n) {K : Nat} (hK : K < 500) : ZkZ X M_X10_isBoard (d + 1) n [.ref (zB X + 73), iV (K : Int)] σ (fun v σ' => σ = σ' ∧ ((v = 1 ∧ ∀ p, p < 81 → gI σ 79 (81 * K + p) = gI σ 84 p) ∨ (v = 0 ∧ ¬ ∀ p, p < 81 → gI σ 79 (81 * K + p) = gI σ 84 p))) := by
  refine w_X10_isBoard hn ⟨by omega, by omega⟩ ?_
  have := upto (N := 81) (Q := fun i τ => L_X10_isBoard_2 X d n (zpZ (fun v σ' => σ = σ' ∧ ((v = 1 ∧ ∀ p, p < 81 → gI σ 79 (81 * K + p) = gI σ 84 p) ∨ (v = 0 ∧ ¬ ∀ p, p < 81 → gI σ 79 (81 * K + p) = gI σ 84 p)))) (K : Int) (i : Int) τ) (I := fun i τ => σ = τ ∧ ∀ p, p < i → gI σ 79 (81 * K + p) = gI σ 84 p)
    ?_ ?_ 0 σ (by omega) ⟨rfl, fun p hp => by omega⟩
  · simpa using this
  · rintro _ ⟨rfl, hq⟩
    exact b_X10_isBoard_2 hn ⟨fun _ => ⟨rfl, Or.inl ⟨rfl, hq⟩⟩, fun q => by omega⟩
  · rintro i _ hi ⟨rfl, hq⟩ ih
    have ti : ((i : Int)).toNat = i := by omega
    have tk : ((81 * (K : Int)) + (i : Int)).toNat = 81 * K + i := by omega
    refine b_X10_isBoard_2 hn ?_
    rw [ti, tk]
    refine ⟨fun q => by omega, fun _ => ⟨by omega, by omega, fun q => ⟨⟨by omega, by omega⟩, ?_⟩, fun q => ⟨rfl, Or.inr ⟨rfl, fun z => q (z i hi)⟩⟩⟩⟩
    have := ih σ ⟨rfl, fun p hp => ?_⟩
    · simpa using this
    · by_cases e : p = i
      · rw [e]; exact q
      · exact hq p (by omega)
/-- the root's turn -/
theorem exB_s {i : Nat} {Q : Nat → Prop} : ExB (i + 1) Q ↔ (ExB i Q ∨ Q i) := by
  constructor
  · rintro ⟨p, hp, hv⟩
    by_cases z : p = i
    · rw [z] at hv; exact Or.inr hv
    · exact Or.inl ⟨p, by omega, hv⟩
  · rintro (⟨p, hp, hv⟩ | hv)
    · exact ⟨p, by omega, hv⟩
    · exact ⟨i, by omega, hv⟩
theorem exB_0 {Q : Nat → Prop} : ¬ ExB 0 Q := fun ⟨p, hp, _⟩ => by omega
theorem turn_root (hn : 104 ≤ n) {K : Nat} {P : Int → ZSto → Prop} (hK : K < 500)
    (h1 : ¬ ((ExB 81 (fun p => gI σ 80 (81 * K + p) = 1)) ∧ ¬ ExB 81 (fun p => gI σ 80 (81 * K + p) = 2)) → P 1 σ) (h2 : ((ExB 81 (fun p => gI σ 80 (81 * K + p) = 1)) ∧ ¬ ExB 81 (fun p => gI σ 80 (81 * K + p) = 2)) → P 2 σ) : L_X10_turn_74 X d n (zpI P) (K : Int) 0 0 0 σ := by
  have key : ∀ (w i : Nat) (x3 x4 : Int), 81 - i ≤ w → i ≤ 81 → (x3 = 0 ∨ x3 = 1) → (x4 = 0 ∨ x4 = 1) → (x3 = 1 ↔ ExB i (fun p => gI σ 80 (81 * K + p) = 1)) → (x4 = 1 ↔ ExB i (fun p => gI σ 80 (81 * K + p) = 2)) → L_X10_turn_74 X d n (zpI P) (K : Int) x3 x4 (i : Int) σ := by
    intro w
    induction w with
    | zero =>
      intro i x3 x4 hw hi b3 b4 c3 c4
      have : i = 81 := by omega
      subst this
      exact b_X10_turn_74 hn ⟨fun _ => ⟨fun q => h1 (fun z => by have := c3.mpr z.1; omega), fun q => ⟨fun q2 => h1 (fun z => z.2 (c4.mp (by omega))), fun q2 => h2 ⟨c3.mp (by omega), fun z => by have := c4.mpr z; omega⟩⟩⟩, fun q => by omega⟩
    | succ w ih =>
      intro i x3 x4 hw hi b3 b4 c3 c4
      by_cases e : i = 81
      · subst e
        exact b_X10_turn_74 hn ⟨fun _ => ⟨fun q => h1 (fun z => by have := c3.mpr z.1; omega), fun q => ⟨fun q2 => h1 (fun z => z.2 (c4.mp (by omega))), fun q2 => h2 ⟨c3.mp (by omega), fun z => by have := c4.mpr z; omega⟩⟩⟩, fun q => by omega⟩
      have tk : ((81 * (K : Int)) + (i : Int)).toNat = 81 * K + i := by omega
      have ex : ∀ v : Int, ExB (i + 1) (fun p => gI σ 80 (81 * K + p) = v) ↔ (ExB i (fun p => gI σ 80 (81 * K + p) = v) ∨ gI σ 80 (81 * K + i) = v) := fun v => exB_s
      have l106 : ∀ y3 : Int, (y3 = 0 ∨ y3 = 1) → (y3 = 1 ↔ ExB (i + 1) (fun p => gI σ 80 (81 * K + p) = 1)) → L_X10_turn_106 X d n (zpI P) (K : Int) x4 (i : Int) y3 σ := by
        intro y3 d3 e3
        refine b_X10_turn_106 hn ?_
        rw [tk]
        refine ⟨fun q => ⟨⟨by omega, by omega⟩, ?_⟩, fun q => ⟨by omega, fun q2 => ⟨⟨by omega, by omega⟩, ?_⟩, fun q2 => ⟨⟨by omega, by omega⟩, ?_⟩⟩⟩
        · have := ih (i + 1) y3 1 (by omega) (by omega) d3 (Or.inr rfl) e3 ⟨fun _ => (ex 2).mpr (Or.inl (c4.mp (by omega))), fun _ => rfl⟩
          simpa using this
        · have := ih (i + 1) y3 0 (by omega) (by omega) d3 (Or.inl rfl) e3 ⟨fun z => by omega, fun z => by
            rcases (ex 2).mp z with h | h
            · have := c4.mpr h; omega
            · exact absurd h q2⟩
          simpa using this
        · have := ih (i + 1) y3 1 (by omega) (by omega) d3 (Or.inr rfl) e3 ⟨fun _ => (ex 2).mpr (Or.inr q2), fun _ => rfl⟩
          simpa using this
      refine b_X10_turn_74 hn ?_
      rw [tk]
      refine ⟨fun q => by omega, fun _ => ⟨fun q => b_X10_turn_101 hn (l106 1 (Or.inr rfl) ⟨fun _ => (ex 1).mpr (Or.inl (c3.mp (by omega))), fun _ => rfl⟩), fun q => ⟨by omega, fun q2 => l106 0 (Or.inl rfl) ⟨fun z => by omega, fun z => ?_⟩, fun q2 => b_X10_turn_101 hn (l106 1 (Or.inr rfl) ⟨fun _ => (ex 1).mpr (Or.inr q2), fun _ => rfl⟩)⟩⟩⟩
      rcases (ex 1).mp z with h | h
      · have := c3.mpr h; omega
      · exact absurd h q2
  have := key 81 0 0 0 (by omega) (by omega) (Or.inl rfl) (Or.inl rfl) ⟨fun z => by omega, fun z => absurd z exB_0⟩ ⟨fun z => by omega, fun z => absurd z exB_0⟩
  simpa using this
theorem sm_turn (hn : 104 ≤ n) {g m k i : Nat} {T : ATr} (hg : g < 2) (hM : ∀ i, i < k → MRn σ g T i) (hW : TW m k T) (hi : i < k) : ZkI X M_X10_turn (d + 1) n [.ref (zB X + 73), iV ((250 * g + i : Nat) : Int)] σ (fun v σ' => σ = σ' ∧ v = tTrn T i) := by
  have hk2 := hW.2.2.1
  have key : ∀ j, j < k → tTrn T j = tTrn T i → L_X10_turn_20 X d n (zpI (fun v σ' => σ = σ' ∧ v = tTrn T i)) ((250 * g + j : Nat) : Int) σ := by
    intro j
    induction j using Nat.strongRecOn with
    | _ j ih =>
      intro hj he
      have tj : (((250 * g + j : Nat) : Int)).toNat = 250 * g + j := by omega
      obtain ⟨r1, r2, r3, r4, r5, r6, r7⟩ := hM j hj
      have hN := hW.2.2.2 j hj
      have h3 : ¬ tKnd T j = 0 → R32 (3 - tCol T j) ∧ σ = σ ∧ 3 - tCol T j = tTrn T i := by
        intro q
        have h1 := hN.2.2.2.2.1 q
        have h2 := hN.2.2.2.2.2.2.2.2.2.1 q
        exact ⟨⟨by omega, by omega⟩, rfl, by omega⟩
      refine b_X10_turn_20 hn ?_
      rw [tj, r1, r2, r3]
      rcases hW.par hj with ⟨hj0, hp⟩ | ⟨hj0, b, hb, hp⟩
      · rw [hp, if_pos (by omega)]
        refine ⟨by omega, fun _ => ⟨fun q => ?_, h3⟩, fun q => by omega⟩
        have ht := hN.2.2.2.2.2.2.2.2.2.2.2.1 q hj0
        have ht2 := hN.2.2.2.2.2.2.2.2.1
        have e7 : ∀ v : Int, (∃ p, p < 81 ∧ gI σ 80 (81 * (250 * g + j) + p) = v) ↔ ∃ p, p < 81 ∧ tSet T j p = v := by
          intro v
          constructor
          · rintro ⟨p, hp, hv⟩; exact ⟨p, hp, by rw [← r7 p hp]; exact hv⟩
          · rintro ⟨p, hp, hv⟩; exact ⟨p, hp, by rw [r7 p hp]; exact hv⟩
        refine turn_root hn (by omega) (fun h => ⟨rfl, ?_⟩) (fun h => ⟨rfl, ?_⟩)
        · have h : ¬ ((∃ p, p < 81 ∧ gI σ 80 (81 * (250 * g + j) + p) = 1) ∧ ¬ ∃ p, p < 81 ∧ gI σ 80 (81 * (250 * g + j) + p) = 2) := h
          rw [e7, e7] at h
          have : ¬ tTrn T j = 2 := fun z => h (ht.mp z)
          omega
        · have h : ((∃ p, p < 81 ∧ gI σ 80 (81 * (250 * g + j) + p) = 1) ∧ ¬ ∃ p, p < 81 ∧ gI σ 80 (81 * (250 * g + j) + p) = 2) := h
          rw [e7, e7] at h
          have := ht.mpr h
          omega
      · rw [hp, if_neg (by omega)]
        refine ⟨by omega, fun q => by omega, fun _ => ⟨fun q => ⟨fun z => absurd z q, h3⟩, fun q y hy => ?_⟩⟩
        have h2 := hN.2.2.2.2.2.2.2.2.2.2.1 q hj0
        have tb : ((b : Int)).toNat = b := by omega
        rw [hp, tb] at h2
        have := ih b (by omega) (by omega) (by omega)
        have e : y = ((250 * g + b : Nat) : Int) := by omega
        rw [e]; exact this
  have ti : (((250 * g + i : Nat) : Int)).toNat = 250 * g + i := by omega
  obtain ⟨r1, r2, r3, r4, r5, r6, r7⟩ := hM i hi
  have hN := hW.2.2.2 i hi
  refine w_X10_turn hn ⟨by omega, by omega⟩ ?_
  rw [ti, r2, r3]
  refine ⟨by omega, fun _ => key i hi rfl, fun q => ?_⟩
  have h1 := hN.2.2.2.2.1 q
  have h2 := hN.2.2.2.2.2.2.2.2.2.1 q
  exact ⟨⟨by omega, by omega⟩, rfl, by omega⟩
end ZM
