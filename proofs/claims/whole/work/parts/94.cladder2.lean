/-- where addRescues stands -/
def RsI (σ0 σ : ZSto) (l m tg : Nat) (bd : Nat → Int) (c y1 : Int) (p : Nat) : Prop :=
  Fr (fun a i => gatW 41 a i ∨ ((a = 63 ∨ a = 64) ∧ i = l)) σ0 σ ∧ BOk σ 41 m bd ∧ (y1 ≤ gI σ 41 10 ∧ gI σ 41 10 ≤ y1 + p) ∧
  (∀ q, q < m * m → bd q = 3 - c → (gI σ 46 q = y1 ↔ Rim m (fun x => bd x = bd tg) tg q)) ∧
  (∀ q, q < m * m → bd q = 3 - c → (y1 < gI σ 45 q ↔ ∃ r, r < p ∧ bd r = 3 - c ∧ Rim m (fun x => bd x = bd tg) tg r ∧ Chn m bd r q)) ∧
  ∀ q, q < 81 → (MvB σ l q ↔ RscP m bd c tg p q)
theorem RsI.skip {σ0 σ : ZSto} {l m tg : Nat} {bd : Nat → Int} {c y1 : Int} {p : Nat} (h : RsI σ0 σ l m tg bd c y1 p) (hno : (bd p = 3 - c ∧ Rim m (fun x => bd x = bd tg) tg p) → ∃ r, r < p ∧ bd r = 3 - c ∧ Rim m (fun x => bd x = bd tg) tg r ∧ Chn m bd r p) : RsI σ0 σ l m tg bd c y1 (p + 1) := by
  obtain ⟨h1, h2, h3, h4, h5, h6⟩ := h
  refine ⟨h1, h2, by omega, h4, fun q hq hc => ?_, fun q hq => ?_⟩
  · rw [h5 q hq hc]
    constructor
    · rintro ⟨r, r1, r2⟩; exact ⟨r, by omega, r2⟩
    · rintro ⟨r, r1, r2, r3, r4⟩
      by_cases e : r = p
      · subst e
        obtain ⟨r', a1, a2, a3, a4⟩ := hno ⟨r2, r3⟩
        exact ⟨r', a1, a2, a3, a4.tr r4⟩
      · exact ⟨r, by omega, r2, r3, r4⟩
  · rw [h6 q hq]
    constructor
    · rintro ⟨r, r1, r2⟩; exact ⟨r, by omega, r2⟩
    · rintro ⟨r, r1, r2, r3, r4, r5⟩
      by_cases e : r = p
      · subst e
        obtain ⟨r', a1, a2, a3, a4⟩ := hno ⟨r2, r3⟩
        exact ⟨r', a1, a2, a3, by rw [← r4]; exact cnt_congr (fun x _ => Lib.chn a4 x), (Lib.chn a4 q).mpr r5⟩
      · exact ⟨r, by omega, r2, r3, r4, r5⟩
theorem RsI.go {σ0 σ σ1 σ2 : ZSto} {l m tg : Nat} {bd : Nat → Int} {c y1 : Int} {p : Nat} (h : RsI σ0 σ l m tg bd c y1 p) (hp : p < m * m) (hpc : bd p = 3 - c) (hr : Rim m (fun x => bd x = bd tg) tg p) (hG : Gth σ σ1 41 m bd (fun x => bd x = bd p) p) (hf : Fr (fun a i => (a = 63 ∨ a = 64) ∧ i = l) σ1 σ2) (hb : ∀ q, q < 81 → (MvB σ2 l q ↔ (MvB σ1 l q ∨ (cnt (Lib m bd p) (m * m) = 1 ∧ Lib m bd p q)))) : RsI σ0 σ2 l m tg bd c y1 (p + 1) := by
  obtain ⟨h1, h2, h3, h4, h5, h6⟩ := h
  have hmk := h2.2.2.2
  have k10 : gI σ2 41 10 = gI σ 41 10 + 1 := by rw [hf.I (by omega)]; exact hG.2.1
  refine ⟨(h1.tr (hG.1.mono (fun a i q => Or.inl q))).tr (hf.mono (fun a i q => Or.inr q)), (hG.ok h2).kept hf (fun a i q => by unfold brdW at q; omega), by omega, fun q hq hc => ?_, fun q hq hc => ?_, fun q hq => ?_⟩
  · rw [hf.I (by omega)]
    have : gI σ1 46 q ≠ gI σ 41 10 + 1 := fun e => by
      have := ((hG.2.2.2.1 q).mp e).1
      exact this (show bd q = bd p by rw [hc, hpc])
    have e := (hG.2.2.2.2.2.2.2.2.2.2 q).2 this
    rw [show (41 : Nat) + 5 = 46 from rfl] at e
    rw [e]; exact h4 q hq hc
  · rw [hf.I (by omega)]
    by_cases z : gI σ1 45 q = gI σ 41 10 + 1
    · have := (hG.2.2.1 q).mp z
      exact ⟨fun _ => ⟨p, by omega, hpc, hr, this⟩, fun _ => by omega⟩
    · have e := (hG.2.2.2.2.2.2.2.2.2.2 q).1 z
      rw [show (41 : Nat) + 4 = 45 from rfl] at e
      rw [e, h5 q hq hc]
      constructor
      · rintro ⟨r, r1, r2⟩; exact ⟨r, by omega, r2⟩
      · rintro ⟨r, r1, r2, r3, r4⟩
        by_cases e' : r = p
        · subst e'; exact absurd ((hG.2.2.1 q).mpr r4) z
        · exact ⟨r, by omega, r2, r3, r4⟩
  · rw [hb q hq, MvB.congr (hG.1.L (by unfold gatW; omega)) (hG.1.L (by unfold gatW; omega)), h6 q hq]
    constructor
    · rintro (⟨r, r1, r2⟩ | ⟨r1, r2⟩)
      · exact ⟨r, by omega, r2⟩
      · exact ⟨p, by omega, hpc, hr, r1, r2⟩
    · rintro ⟨r, r1, r2, r3, r4, r5⟩
      by_cases e : r = p
      · subst e; exact Or.inr ⟨r4, r5⟩
      · exact Or.inl ⟨r, by omega, r2, r3, r4, r5⟩
section ZD
variable {X : ZX} {d n : Nat} {σ : ZSto}
theorem rsc_loop (hn : 73 ≤ n) {l m tg : Nat} {bd : Nat → Int} {c y1 x2 : Int} {σ0 : ZSto} {P : ZSto → Prop} (h8 : gI σ0 61 8 = (l : Int)) (hl : l ≤ 600) (h9 : m ≤ 9) (hc : c = 1 ∨ c = 2) (hy : 0 ≤ y1 ∧ y1 < 1999999500) 
    (hP : ∀ τ : ZSto, RsI σ0 τ l m tg bd c y1 (m * m) → L_X3_addRescues_42 X (d + 2) n (zpV P) y1 x2 (3 - c) ((m * m : Nat) : Int) τ) :
    ∀ (j : Nat) (τ : ZSto), j ≤ m * m → RsI σ0 τ l m tg bd c y1 j → L_X3_addRescues_42 X (d + 2) n (zpV P) y1 x2 (3 - c) (j : Int) τ := by
  have hN := sq_le h9
  refine upto (N := m * m) (Q := fun j τ => L_X3_addRescues_42 X (d + 2) n (zpV P) y1 x2 (3 - c) (j : Int) τ) (I := fun j τ => RsI σ0 τ l m tg bd c y1 j) (fun τ h => hP τ h) ?_
  intro j τ hj hI ih
  have hI' := hI
  obtain ⟨f, bB, g10, r46, v45, bits⟩ := hI
  have rj : R32 ((j : Int) + 1) := ⟨by omega, by omega⟩
  have skip : ((bd j = 3 - c ∧ Rim m (fun x => bd x = bd tg) tg j) → ∃ r, r < j ∧ bd r = 3 - c ∧ Rim m (fun x => bd x = bd tg) tg r ∧ Chn m bd r j) → R32 ((j : Int) + 1) ∧ L_X3_addRescues_42 X (d + 2) n (zpV P) y1 x2 (3 - c) ((j : Int) + 1) τ := by
    intro hno
    have := ih τ (hI'.skip hno)
    exact ⟨rj, by simpa using this⟩
  refine b_X3_addRescues_42 hn ?_
  rw [bB.1.2.2.2.1]
  refine ⟨fun q => by omega, fun _ => (sp_contentOf hn (Or.inr rfl) bB.1 bB.2.2.1 ⟨by omega, by omega⟩).mono ?_⟩
  rintro v _ - ⟨rfl, hv⟩
  rw [if_pos (by omega), show ((j : Int)).toNat = j by omega] at hv
  subst hv
  refine ⟨fun z => skip (fun y => absurd y.1 z), fun z => (sp_onRim hn (Or.inr rfl) bB.1 hj ⟨by omega, by omega⟩).mono ?_⟩
  rintro v2 _ - ⟨rfl, hv2⟩
  rw [show (41 : Nat) + 5 = 46 from rfl, r46 j hj z] at hv2
  refine ⟨fun z2 => skip (fun y => ?_), fun z2 => (sp_gatheredSince hn (Or.inr rfl) bB.1 hj ⟨by omega, by omega⟩).mono ?_⟩
  · rcases hv2 with u | u
    · omega
    · exact absurd y.2 u.2
  have hr : Rim m (fun x => bd x = bd tg) tg j := by
    rcases hv2 with u | u
    · exact u.2
    · omega
  rintro v3 _ - ⟨rfl, hv3⟩
  rw [show (41 : Nat) + 4 = 45 from rfl, v45 j hj z] at hv3
  refine ⟨fun z3 => skip (fun _ => ?_), fun z3 => (sp_gatherChain hn (Or.inr rfl) bB hj (by omega) (by omega)).mono ?_⟩
  · rcases hv3 with u | u
    · exact u.2
    · omega
  intro τ1 hG
  refine (sp_liberties hn (Or.inr rfl)).mono ?_
  rintro v4 _ - ⟨rfl, e4⟩
  rw [hG.libs (by omega)] at e4
  refine ⟨fun z4 => ⟨rj, ?_⟩, fun z4 => ?_⟩
  · have := ih τ1 (hI'.go hj z hr hG Fr.rf (fun q hq => ⟨Or.inl, fun y => y.elim id (fun u => by omega)⟩))
    simpa using this
  · have hex : ∃ q, Rim m (fun x => bd x = bd j) j q ∧ bd q = 0 := Classical.byContradiction (fun y => by
      have : cnt (Lib m bd j) (m * m) = 0 := cnt_0 (fun i _ u => y ⟨i, (Rim_lib (by omega) i).mpr u⟩)
      omega)
    obtain ⟨q0, q1, q2, q3⟩ := hG.2.2.2.2.2.2.2.2.1 hex
    have hL0 : Lib m bd j q0 := (Rim_lib (by omega) q0).mp ⟨q2, q3⟩
    have hq0 : q0 < m * m := q2.lt
    rw [show (41 : Nat) = 41 from rfl, q1]
    refine (sp_laddMove hn (l := l) (by rw [hG.1.I (by unfold gatW; omega), f.I (by unfold gatW; omega)]; exact h8) hl (show q0 < 81 by omega)).mono ?_
    rintro τ2 ⟨f2, b2⟩
    have := ih τ2 (hI'.go hj z hr hG f2 (fun q hq => by
      rw [b2 q hq]
      constructor
      · rintro (y | y)
        · exact Or.inl y
        · rw [y]; exact Or.inr ⟨by omega, hL0⟩
      · rintro (y | ⟨y1, y2⟩)
        · exact Or.inl y
        · refine Or.inr ?_
          obtain ⟨_, a, _, a2⟩ := id y2
          exact cnt_1 y1 hq0 hL0 q a2.2.1 y2))
    exact ⟨rj, by simpa using this⟩
theorem sp_addRescues (hn : 73 ≤ n) {l m tg : Nat} {bd : Nat → Int} {c : Int} {σ0 : ZSto} (h8 : gI σ 61 8 = (l : Int)) (hl : l ≤ 600) (h7 : gI σ 61 7 = c) (hc : c = 1 ∨ c = 2) (hB : BOk σ 41 m bd) (hB0 : BMk σ0 41) (hG : Gth σ0 σ 41 m bd (fun x => bd x = bd tg) tg) (ht : bd tg = c) (htm : tg < m * m) (h10 : gI σ0 41 10 < 1999999000) (hz : ∀ q, q < 81 → ¬ MvB σ l q) :
    ZkV X M_X3_addRescues (d + 3) n [.ref (zB X + 61)] σ (fun σ' => Fr (fun a i => gatW 41 a i ∨ ((a = 63 ∨ a = 64 ∨ a = 65) ∧ i = l)) σ σ' ∧ BOk σ' 41 m bd ∧ gI σ' 41 10 ≤ gI σ 41 10 + 81 ∧ (∀ q, q < 81 → (MvB σ' l q ↔ Rsc m bd c tg q)) ∧ gI σ' 65 l = lastM m bd c tg) := by
  have hN := sq_le hB.1.2.1
  have tl : ((l : Int)).toNat = l := by omega
  have h00 := hB0.1
  have k10 := hG.2.1
  refine w_X3_addRescues hn (fun y1 ey => (sp_liberties hn (Or.inr rfl)).mono ?_)
  rintro v _ - ⟨rfl, ev⟩
  rw [hG.libs (by omega)] at ev
  have start : RsI σ σ l m tg bd c y1 0 := by
    refine ⟨Fr.rf, hB, by omega, fun q hq _ => ?_, fun q hq _ => ?_, fun q hq => ?_⟩
    · rw [ey, k10]; exact hG.2.2.2.1 q
    · have := (hB.2.2.2.2 q).1
      rw [show (41 : Nat) + 4 = 45 from rfl] at this
      exact ⟨fun y => by omega, fun y => by obtain ⟨r, r1, _⟩ := y; omega⟩
    · exact ⟨fun y => absurd y (hz q hq), fun y => by obtain ⟨r, r1, _⟩ := y; omega⟩
  -- the end
  have fin : ∀ (x2 : Int), (x2 = -1 ∧ (cnt (Lib m bd tg) (m * m) ≠ 1)) ∨ (cnt (Lib m bd tg) (m * m) = 1 ∧ ∃ q : Nat, x2 = (q : Int) ∧ Lib m bd tg q) → ∀ τ : ZSto, RsI σ τ l m tg bd c y1 (m * m) → L_X3_addRescues_42 X (d + 2) n (zpV (fun σ' => Fr (fun a i => gatW 41 a i ∨ ((a = 63 ∨ a = 64 ∨ a = 65) ∧ i = l)) σ σ' ∧ BOk σ' 41 m bd ∧ gI σ' 41 10 ≤ gI σ 41 10 + 81 ∧ (∀ q, q < 81 → (MvB σ' l q ↔ Rsc m bd c tg q)) ∧ gI σ' 65 l = lastM m bd c tg)) y1 x2 (3 - c) ((m * m : Nat) : Int) τ := by
    intro x2 hx τ hI
    obtain ⟨f, bB, g10, -, -, bits⟩ := hI
    have h8' : gI τ 61 8 = (l : Int) := by rw [f.I (by unfold gatW; omega)]; exact h8
    have done : ∀ z : Int, z = lastM m bd c tg → Fr (fun a i => gatW 41 a i ∨ ((a = 63 ∨ a = 64 ∨ a = 65) ∧ i = l)) σ (sI τ 65 l z) ∧ BOk (sI τ 65 l z) 41 m bd ∧ gI (sI τ 65 l z) 41 10 ≤ gI σ 41 10 + 81 ∧ (∀ q, q < 81 → (MvB (sI τ 65 l z) l q ↔ Rsc m bd c tg q)) ∧ gI (sI τ 65 l z) 65 l = lastM m bd c tg := by
      intro z ez
      refine ⟨(f.mono (fun a i q => by
        rcases q with q | q
        · exact Or.inl q
        · exact Or.inr (by omega))).sI (Or.inr ⟨by omega, rfl⟩), bB.kept (W := fun a i => a = 65) (Fr.rf.sI rfl) (fun a i q => by unfold brdW at q; omega), ?_, fun q hq => bits q hq, by rw [gI_same]; exact ez⟩
      rw [gI_c (by omega)]; omega
    refine b_X3_addRescues_42 hn ?_
    rw [bB.1.2.2.2.1, h8', tl]
    refine ⟨fun _ => ⟨fun z => ⟨by omega, done (-1) ?_⟩, fun z => ?_⟩, fun q => by omega⟩
    · rcases lstF_spec (P := fun q => cnt (Lib m bd tg) (m * m) = 1 ∧ Lib m bd tg q ∧ ¬ Rsc m bd c tg q) (m * m) 0 with ⟨u, _⟩ | ⟨q, _, _, _, u, _⟩
      · exact u.symm
      · rcases hx with w | ⟨_, q', w, _⟩
        · exact absurd u.1 w.2
        · omega
    · rcases hx with w | ⟨w1, q', w2, w3⟩
      · exact absurd w.1 z
      subst w2
      have hq' : q' < m * m := by obtain ⟨_, a, _, a2⟩ := id w3; exact a2.2.1
      refine (sp_lisMove hn h8' hl (show q' < 81 by omega)).mono ?_
      rintro v2 _ - ⟨rfl, hv2⟩
      rw [bits q' (by omega)] at hv2
      refine ⟨fun z2 => ⟨by omega, done _ ?_⟩, fun z2 => ⟨by omega, done _ ?_⟩⟩
      · have hno : ¬ RscP m bd c tg (m * m) q' := by
          rcases hv2 with u | u
          · omega
          · exact u.2
        rcases lstF_spec (P := fun q => cnt (Lib m bd tg) (m * m) = 1 ∧ Lib m bd tg q ∧ ¬ Rsc m bd c tg q) (m * m) 0 with ⟨_, u⟩ | ⟨q, u0, _, u2, u, _⟩
        · exact absurd ⟨w1, w3, hno⟩ (u q' (by omega) (by omega))
        · have := cnt_1 w1 hq' w3 q (by omega) u.2.1
          unfold lastM
          rw [u0, this]
      · have hyes : RscP m bd c tg (m * m) q' := by
          rcases hv2 with u | u
          · exact u.2
          · omega
        rcases lstF_spec (P := fun q => cnt (Lib m bd tg) (m * m) = 1 ∧ Lib m bd tg q ∧ ¬ Rsc m bd c tg q) (m * m) 0 with ⟨u, _⟩ | ⟨q, u0, _, u2, u, _⟩
        · exact u.symm
        · have := cnt_1 w1 hq' w3 q (by omega) u.2.1
          rw [this] at u
          exact absurd hyes u.2.2
  refine ⟨fun z => (sp_otherColour hn (x := gI σ 61 7) (by omega)).mono ?_, fun z y18 e18 => (sp_otherColour hn (x := gI σ 61 7) (by omega)).mono ?_⟩
  · rintro v2 _ - ⟨rfl, e2⟩
    rw [h7] at e2
    subst e2
    have := rsc_loop hn h8 hl hB.1.2.1 hc (by omega) (fin (-1) (Or.inl ⟨rfl, by omega⟩)) 0 σ (by omega) start
    simpa using this
  · rintro v2 _ - ⟨rfl, e2⟩
    rw [h7] at e2
    subst e2
    have hex : ∃ q, Rim m (fun x => bd x = bd tg) tg q ∧ bd q = 0 := Classical.byContradiction (fun y => by
      have : cnt (Lib m bd tg) (m * m) = 0 := cnt_0 (fun i _ u => y ⟨i, (Rim_lib (by omega) i).mpr u⟩)
      omega)
    obtain ⟨q0, q1, q2, q3⟩ := hG.2.2.2.2.2.2.2.2.1 hex
    have := rsc_loop hn h8 hl hB.1.2.1 hc (by omega) (fin y18 (Or.inr ⟨by omega, q0, by rw [e18]; exact q1, (Rim_lib (by omega) q0).mp ⟨q2, q3⟩⟩)) 0 σ (by omega) start
    simpa using this
end ZD
