/-- moves noted at a level -/
def MvB (σ : ZSto) (l p : Nat) : Prop := (p < 64 ∧ lB (gL σ 63 l) p = true) ∨ (64 ≤ p ∧ lB (gL σ 64 l) (p - 64) = true)
theorem MvB.congr {σ σ' : ZSto} {l p : Nat} (h1 : gL σ' 63 l = gL σ 63 l) (h2 : gL σ' 64 l = gL σ 64 l) : MvB σ' l p ↔ MvB σ l p := by unfold MvB; rw [h1, h2]
noncomputable def ldL (σ : ZSto) (l N : Nat) : List Nat := mvF (MvB σ l) (gI σ 65 l) (N - (gI σ 66 l + 1).toNat) (gI σ 66 l + 1).toNat
section ZD
variable {X : ZX} {d n : Nat} {σ : ZSto}
theorem sp_laddMove (hn : 73 ≤ n) {l p : Nat} (h8 : gI σ 61 8 = (l : Int)) (hl : l ≤ 600) (hp : p < 81) :
    ZkV X M_X3_addMove (d + 1) n [.ref (zB X + 61), iV (p : Int)] σ (fun σ' => Fr (fun a i => (a = 63 ∨ a = 64) ∧ i = l) σ σ' ∧ ∀ q, q < 81 → (MvB σ' l q ↔ (MvB σ l q ∨ q = p))) := by
  have tl : ((l : Int)).toNat = l := by omega
  refine w_X3_addMove hn ⟨by omega, by omega⟩ ?_
  rw [h8, tl]
  refine ⟨fun z => ⟨by omega, Fr.rf.sL ⟨Or.inr rfl, rfl⟩, fun q hq => ?_⟩, fun z => ⟨by omega, Fr.rf.sL ⟨Or.inl rfl, rfl⟩, fun q hq => ?_⟩⟩
  · unfold MvB
    rw [gL_same, gL_c (by omega)]
    by_cases h64 : q < 64
    · constructor
      · rintro (y | y)
        · exact Or.inl (Or.inl y)
        · omega
      · rintro ((y | y) | y)
        · exact Or.inl y
        · omega
        · omega
    · rw [show (p : Int) - 64 = ((p - 64 : Nat) : Int) by omega, lB_or, lB_one (by omega) (by omega), Bool.or_eq_true, decide_eq_true_iff]
      constructor
      · rintro (y | ⟨y1, y2 | y2⟩)
        · omega
        · exact Or.inl (Or.inr ⟨y1, y2⟩)
        · exact Or.inr (by omega)
      · rintro ((y | y) | y)
        · omega
        · exact Or.inr ⟨y.1, Or.inl y.2⟩
        · exact Or.inr ⟨by omega, Or.inr (by omega)⟩
  · unfold MvB
    rw [gL_same, gL_c (by omega)]
    by_cases h64 : q < 64
    · rw [lB_or, lB_one (by omega) (by omega), Bool.or_eq_true, decide_eq_true_iff]
      constructor
      · rintro (⟨y1, y2 | y2⟩ | y)
        · exact Or.inl (Or.inl ⟨y1, y2⟩)
        · exact Or.inr (by omega)
        · omega
      · rintro ((y | y) | y)
        · exact Or.inl ⟨y.1, Or.inl y.2⟩
        · omega
        · exact Or.inl ⟨h64, Or.inr (by omega)⟩
    · constructor
      · rintro (y | y)
        · omega
        · exact Or.inl (Or.inr y)
      · rintro ((y | y) | y)
        · omega
        · exact Or.inr y
        · omega
theorem sp_lisMove (hn : 73 ≤ n) {l p : Nat} (h8 : gI σ 61 8 = (l : Int)) (hl : l ≤ 600) (hp : p < 81) :
    ZkZ X M_X3_isMove (d + 1) n [.ref (zB X + 61), iV (p : Int)] σ (fun v σ' => σ = σ' ∧ ((v = 1 ∧ MvB σ l p) ∨ (v = 0 ∧ ¬ MvB σ l p))) := by
  have tl : ((l : Int)).toNat = l := by omega
  refine w_X3_isMove hn ⟨by omega, by omega⟩ ?_
  rw [h8, tl]
  refine ⟨fun z => ?_, fun z => ?_⟩
  · rw [show (p : Int) - 64 = ((p - 64 : Nat) : Int) by omega, lB_sh (by omega)]
    refine ⟨by omega, fun y => ⟨rfl, Or.inr ⟨rfl, ?_⟩⟩, fun y => ⟨rfl, Or.inl ⟨rfl, Or.inr ⟨by omega, by simpa using y⟩⟩⟩⟩
    rintro (u | u)
    · omega
    · rw [y] at u; simp at u
  · rw [lB_sh (by omega)]
    refine ⟨by omega, fun y => ⟨rfl, Or.inr ⟨rfl, ?_⟩⟩, fun y => ⟨rfl, Or.inl ⟨rfl, Or.inl ⟨by omega, by simpa using y⟩⟩⟩⟩
    rintro (u | u)
    · rw [y] at u; simp at u
    · omega
theorem sp_nextMove (hn : 73 ≤ n) {l N : Nat} (h8 : gI σ 61 8 = (l : Int)) (hl : l ≤ 600) (hN : gI σ 41 8 = (N : Int)) (hN9 : N ≤ 81) (ht : -1 ≤ gI σ 66 l ∧ gI σ 66 l ≤ N) (hla : -1 ≤ gI σ 65 l ∧ gI σ 65 l < N) :
    ZkI X M_X3_nextMove (d + 2) n [.ref (zB X + 61)] σ (fun v σ' => Fr (fun a i => (a = 65 ∨ a = 66) ∧ i = l) σ σ' ∧ (-1 ≤ gI σ' 66 l ∧ gI σ' 66 l ≤ N) ∧ (-1 ≤ gI σ' 65 l ∧ gI σ' 65 l < N) ∧ ((v = -1 ∧ ldL σ l N = []) ∨ ∃ p : Nat, v = (p : Int) ∧ p < N ∧ ldL σ l N = p :: ldL σ' l N ∧ (gI σ 65 l = -1 → gI σ' 66 l = (p : Int) ∧ gI σ' 65 l = -1))) := by
  have tl : ((l : Int)).toNat = l := by omega
  refine w_X3_nextMove hn ?_
  rw [h8, tl]
  refine ⟨by omega, fun y3 ey => ⟨⟨by omega, by omega⟩, ?_⟩⟩
  obtain ⟨x0, ex0⟩ : ∃ x0 : Nat, y3 = (x0 : Int) := ⟨y3.toNat, by omega⟩
  have e0 : ldL σ l N = mvF (MvB σ l) (gI σ 65 l) (N - x0) x0 := by
    unfold ldL
    rw [show (gI σ 66 l + 1).toNat = x0 by omega]
  have key : ∀ (w x : Nat), N - x ≤ w → x ≤ N + 1 → ldL σ l N = mvF (MvB σ l) (gI σ 65 l) (N - x) x → L_X3_nextMove_12 X (d + 1) n (zpI (fun v σ' => Fr (fun a i => (a = 65 ∨ a = 66) ∧ i = l) σ σ' ∧ (-1 ≤ gI σ' 66 l ∧ gI σ' 66 l ≤ N) ∧ (-1 ≤ gI σ' 65 l ∧ gI σ' 65 l < N) ∧ ((v = -1 ∧ ldL σ l N = []) ∨ ∃ p : Nat, v = (p : Int) ∧ p < N ∧ ldL σ l N = p :: ldL σ' l N ∧ (gI σ 65 l = -1 → gI σ' 66 l = (p : Int) ∧ gI σ' 65 l = -1)))) (x : Int) σ := by
    have stop : ∀ x : Nat, N ≤ x → ldL σ l N = mvF (MvB σ l) (gI σ 65 l) (N - x) x → L_X3_nextMove_12 X (d + 1) n (zpI (fun v σ' => Fr (fun a i => (a = 65 ∨ a = 66) ∧ i = l) σ σ' ∧ (-1 ≤ gI σ' 66 l ∧ gI σ' 66 l ≤ N) ∧ (-1 ≤ gI σ' 65 l ∧ gI σ' 65 l < N) ∧ ((v = -1 ∧ ldL σ l N = []) ∨ ∃ p : Nat, v = (p : Int) ∧ p < N ∧ ldL σ l N = p :: ldL σ' l N ∧ (gI σ 65 l = -1 → gI σ' 66 l = (p : Int) ∧ gI σ' 65 l = -1)))) (x : Int) σ := by
      intro x hx hL
      refine b_X3_nextMove_12 hn ?_
      rw [h8, tl, hN]
      refine ⟨fun _ => ⟨by omega, fun y7 e7 => ⟨(Fr.rf.sI ⟨Or.inr rfl, rfl⟩).sI ⟨Or.inl rfl, rfl⟩, ?_, ?_, ?_⟩⟩, fun q => by omega⟩
      · rw [gI_c (by omega), gI_same]; omega
      · rw [gI_same]; omega
      · rw [show N - x = 0 by omega] at hL
        by_cases z : gI σ 65 l = -1
        · refine Or.inl ⟨by omega, ?_⟩
          rw [hL]
          show (if _ then _ else _) = _
          rw [if_pos (by omega)]
        · refine Or.inr ⟨(gI σ 65 l).toNat, by omega, by omega, ?_, fun u => absurd u z⟩
          rw [hL]
          show (if _ then _ else _) = _
          rw [if_neg (by omega)]
          unfold ldL
          rw [gI_same, gI_c (by omega), gI_same, show N - ((N : Int) + 1).toNat = 0 by omega]
          show _ = _ :: (if _ then _ else _)
          rw [if_pos (by omega)]
    intro w
    induction w with
    | zero => intro x hw hx hL; exact stop x (by omega) hL
    | succ w ih =>
      intro x hw hx hL
      by_cases hxN : N ≤ x
      · exact stop x hxN hL
      refine b_X3_nextMove_12 hn ?_
      rw [h8, tl, hN]
      refine ⟨fun q => by omega, fun _ => (sp_lisMove hn h8 hl (by omega)).mono ?_⟩
      rintro v _ - ⟨rfl, hv⟩
      rw [show N - x = (N - (x + 1)) + 1 by omega] at hL
      rw [h8, tl]
      refine ⟨fun z => ⟨⟨by omega, by omega⟩, ?_⟩, fun z => ⟨by omega, Fr.rf.sI ⟨Or.inr rfl, rfl⟩, ?_, ?_, ?_⟩⟩
      · rw [mvF_n (fun y => by
          rcases hv with u | u
          · omega
          · exact u.2 y)] at hL
        have := ih (x + 1) (by omega) (by omega) hL
        simpa using this
      · rw [gI_same]; omega
      · rw [gI_c (by omega)]; exact hla
      · refine Or.inr ⟨x, rfl, by omega, ?_, fun u => ⟨gI_same _ _ _ _, by rw [gI_c (by omega)]; exact u⟩⟩
        rw [mvF_s (by
          rcases hv with u | u
          · exact u.2
          · omega)] at hL
        rw [hL]
        unfold ldL
        rw [gI_same, gI_c (by omega), show ((x : Int) + 1).toNat = x + 1 by omega]
        rfl
  have := key (N - x0) x0 (Nat.le_refl _) (by omega) e0
  rw [ex0]; exact this
theorem sp_isHunter (hn : 73 ≤ n) {l : Nat} (h8 : gI σ 61 8 = (l : Int)) (hl : l ≤ 600) :
    ZkZ X M_X3_isHunterLevel (d + 1) n [.ref (zB X + 61)] σ (fun v σ' => σ = σ' ∧ ((v = 1 ∧ l % 2 = 0) ∨ (v = 0 ∧ ¬ l % 2 = 0))) := by
  refine w_X3_isHunterLevel hn ?_
  rw [h8]
  exact ⟨by omega, ⟨by omega, by omega⟩, fun y => ⟨rfl, Or.inr ⟨rfl, by omega⟩⟩, fun y => ⟨rfl, Or.inl ⟨rfl, by omega⟩⟩⟩
theorem sp_addLiberties (hn : 73 ≤ n) {l m tg : Nat} {bd : Nat → Int} {σ0 : ZSto} (h8 : gI σ 61 8 = (l : Int)) (hl : l ≤ 600) (hB : BOk σ 41 m bd) (hG : Gth σ0 σ 41 m bd (fun x => bd x = bd tg) tg) (ht : bd tg ≠ 0) (htm : tg < m * m) (h10 : gI σ0 41 10 < 1999999000) (hz : ∀ q, q < 81 → ¬ MvB σ l q) :
    ZkV X M_X3_addLiberties (d + 3) n [.ref (zB X + 61)] σ (fun σ' => Fr (fun a i => (a = 63 ∨ a = 64) ∧ i = l) σ σ' ∧ ∀ q, q < 81 → (MvB σ' l q ↔ Lib m bd tg q)) := by
  have hN := sq_le hB.1.2.1
  refine w_X3_addLiberties hn ?_
  have := upto (N := m * m) (Q := fun j τ => L_X3_addLiberties_2 X (d + 2) n (zpV (fun σ' => Fr (fun a i => (a = 63 ∨ a = 64) ∧ i = l) σ σ' ∧ ∀ q, q < 81 → (MvB σ' l q ↔ Lib m bd tg q))) (j : Int) τ) (I := fun j τ => Fr (fun a i => (a = 63 ∨ a = 64) ∧ i = l) σ τ ∧ ∀ q, q < 81 → (MvB τ l q ↔ (q < j ∧ Lib m bd tg q))) ?_ ?_ 0 σ (by omega) ⟨Fr.rf, fun q hq => ⟨fun y => absurd y (hz q hq), fun y => by omega⟩⟩
  · simpa using this
  · rintro τ ⟨f, b⟩
    refine b_X3_addLiberties_2 hn ?_
    rw [f.I (show ¬ ((41 = 63 ∨ 41 = 64) ∧ 8 = l) by omega), hB.1.2.2.2.1]
    refine ⟨fun _ => ⟨f, fun q hq => ?_⟩, fun q => by omega⟩
    rw [b q hq]
    refine ⟨fun y => y.2, fun y => ⟨?_, y⟩⟩
    obtain ⟨_, a, _, y2⟩ := y
    exact y2.2.1
  · rintro j τ hj ⟨f, b⟩ ih
    have bB := hB.kept f (fun a i q => by unfold brdW at q; omega)
    have rj : R32 ((j : Int) + 1) := ⟨by omega, by omega⟩
    have k10 : gI τ 41 10 = gI σ0 41 10 + 1 := by rw [f.I (by omega)]; exact hG.2.1
    have k46 : gI τ 46 j = gI σ0 41 10 + 1 ↔ Rim m (fun x => bd x = bd tg) tg j := by
      rw [f.I (by omega)]; exact hG.2.2.2.1 j
    have r10 : R32 (gI τ 41 10) := ⟨by have := bB.2.2.2.1; omega, by omega⟩
    have skip : ¬ Lib m bd tg j → R32 ((j : Int) + 1) ∧ L_X3_addLiberties_2 X (d + 2) n (zpV (fun σ' => Fr (fun a i => (a = 63 ∨ a = 64) ∧ i = l) σ σ' ∧ ∀ q, q < 81 → (MvB σ' l q ↔ Lib m bd tg q))) ((j : Int) + 1) τ := by
      intro hno
      have := ih τ ⟨f, fun q hq => by
        rw [b q hq]
        constructor
        · rintro ⟨y1, y2⟩; exact ⟨by omega, y2⟩
        · rintro ⟨y1, y2⟩
          by_cases e : q = j
          · rw [e] at y2; exact absurd y2 hno
          · exact ⟨by omega, y2⟩⟩
      exact ⟨rj, by simpa using this⟩
    refine b_X3_addLiberties_2 hn ?_
    rw [bB.1.2.2.2.1]
    refine ⟨fun q => by omega, fun _ => (sp_contentOf hn (Or.inr rfl) bB.1 bB.2.2.1 ⟨by omega, by omega⟩).mono ?_⟩
    rintro v _ - ⟨rfl, hv⟩
    rw [if_pos (by omega), show ((j : Int)).toNat = j by omega] at hv
    refine ⟨fun z => skip (fun y => z (by rw [hv]; exact y.1)), fun z => (sp_onRim hn (Or.inr rfl) bB.1 hj r10).mono ?_⟩
    rintro v2 _ - ⟨rfl, hv2⟩
    rw [k10, k46] at hv2
    refine ⟨fun z2 => skip (fun y => ?_), fun z2 => (sp_laddMove hn (by rw [f.I (by omega)]; exact h8) hl (show j < 81 by omega)).mono ?_⟩
    · rcases hv2 with u | u
      · omega
      · exact u.2 ((Rim_lib ht j).mpr y).1
    · rintro τ2 ⟨f2, b2⟩
      have hL : Lib m bd tg j := (Rim_lib ht j).mp ⟨by
        rcases hv2 with u | u
        · exact u.2
        · omega, by omega⟩
      have := ih τ2 ⟨f.tr f2, fun q hq => by
        rw [b2 q hq, b q hq]
        constructor
        · rintro (⟨y1, y2⟩ | y)
          · exact ⟨by omega, y2⟩
          · rw [y]; exact ⟨by omega, hL⟩
        · rintro ⟨y1, y2⟩
          by_cases e : q = j
          · exact Or.inr e
          · exact Or.inl ⟨by omega, y2⟩⟩
      exact ⟨rj, by simpa using this⟩
end ZD
