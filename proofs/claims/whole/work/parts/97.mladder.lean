/-- the reference's line of boards -/
def LnR (σ : ZSto) (j : Nat) (bd : Nat → Int) : Prop := ∀ i, i < 81 → gI σ 97 (81 * j + i) = bd i
def PvM (σ : ZSto) (m l : Nat) (pv : Option (Nat → Int)) : Prop := (l = 0 ∧ pv = none) ∨ ∃ j pb, l = j + 1 ∧ pv = some pb ∧ Pad m pb ∧ LnR σ j pb
/-- where the reference stands -/
def MLd (σ : ZSto) (m tg l : Nat) (bd : Nat → Int) (f : Nat) : Prop := gI σ 73 44 = (tg : Int) ∧ gI σ 73 13 = (m : Int) ∧ gI σ 73 39 = (l : Int) ∧ gI σ 73 40 = 600 - (f : Int) ∧ gI σ 73 43 = 0 ∧ WAll σ bd
def mlW (l a i : Nat) : Prop := (84 ≤ a ∧ a ≤ 87) ∨ (a = 97 ∧ 81 * l ≤ i) ∨ a = 98 ∨ (a = 73 ∧ (i = 18 ∨ i = 39 ∨ i = 40 ∨ i = 43 ∨ (i = 42 ∧ l = 0)))
theorem mlW_up {l a i : Nat} (h : mlW (l + 1) a i) : mlW l a i := by
  unfold mlW at *; omega
theorem PvM.kept {σ σ' : ZSto} {m l : Nat} {pv : Option (Nat → Int)} {W : Nat → Nat → Prop} (h : PvM σ m l pv) (hf : Fr W σ σ') (hw : ∀ i, i < 81 * l → ¬ W 97 i) : PvM σ' m l pv := by
  rcases h with u | ⟨j, pb, u1, u2, u3, u4⟩
  · exact Or.inl u
  · exact Or.inr ⟨j, pb, u1, u2, u3, fun i hi => by rw [hf.I (hw _ (by omega))]; exact u4 i hi⟩
section ZM
variable {X : ZX} {d n : Nat} {σ : ZSto}
theorem sm_pushes (hn : 104 ≤ n) {l : Nat} {bd : Nat → Int} (hl : l ≤ 600) (h39 : gI σ 73 39 = (l : Int)) (hw : WAll σ bd) :
    ZkV X M_X10_pushes (d + 1) n [.ref (zB X + 73)] σ (fun σ' => Fr (fun a i => (a = 97 ∧ 81 * l ≤ i) ∨ (a = 73 ∧ i = 39)) σ σ' ∧ gI σ' 73 39 = ((l + 1 : Nat) : Int) ∧ LnR σ' l bd) := by
  refine w_X10_pushes hn ?_
  have := upto (N := 81) (Q := fun j τ => L_X10_pushes_2 X d n (zpV (fun σ' => Fr (fun a i => (a = 97 ∧ 81 * l ≤ i) ∨ (a = 73 ∧ i = 39)) σ σ' ∧ gI σ' 73 39 = ((l + 1 : Nat) : Int) ∧ LnR σ' l bd)) (j : Int) τ) (I := fun j τ => Fr (fun a i => a = 97 ∧ 81 * l ≤ i) σ τ ∧ ∀ i, i < j → gI τ 97 (81 * l + i) = bd i) ?_ ?_ 0 σ (by omega) ⟨Fr.rf, fun i hi => by omega⟩
  · simpa using this
  · rintro τ ⟨f, b⟩
    have e : gI τ 73 39 = (l : Int) := by rw [f.I (by omega)]; exact h39
    refine b_X10_pushes_2 hn ⟨fun _ => ?_, fun q => by omega⟩
    rw [e]
    exact ⟨⟨by omega, by omega⟩, (f.mono (fun a i q => Or.inl q)).sI (Or.inr ⟨rfl, rfl⟩), by rw [gI_same]; omega, fun i hi => by rw [gI_c (by omega)]; exact b i hi⟩
  · rintro j τ hj ⟨f, b⟩ ih
    have e : gI τ 73 39 = (l : Int) := by rw [f.I (by omega)]; exact h39
    refine b_X10_pushes_2 hn ⟨fun q => by omega, fun _ => ?_⟩
    rw [e, show ((j : Int)).toNat = j by omega, show (81 * (l : Int) + (j : Int)).toNat = 81 * l + j by omega, f.I (show ¬ (84 = 97 ∧ 81 * l ≤ j) by omega), hw j hj]
    refine ⟨by omega, by omega, ⟨by omega, by omega⟩, ?_⟩
    have := ih (sI τ 97 (81 * l + j) (bd j)) ⟨f.sI ⟨rfl, by omega⟩, fun i hi => ?_⟩
    · simpa using this
    · by_cases z : i = j
      · rw [z, gI_same]
      · rw [gI_f (by omega)]; exact b i (by omega)
theorem sm_pops (hn : 104 ≤ n) {l : Nat} {bd : Nat → Int} (hl : l ≤ 600) (h39 : gI σ 73 39 = ((l + 1 : Nat) : Int)) (hw : LnR σ l bd) :
    ZkV X M_X10_pops (d + 1) n [.ref (zB X + 73)] σ (fun σ' => Fr (fun a i => a = 84 ∨ (a = 73 ∧ i = 39)) σ σ' ∧ gI σ' 73 39 = (l : Int) ∧ WAll σ' bd) := by
  refine w_X10_pops hn ?_
  rw [h39, show ((l + 1 : Nat) : Int) - 1 = (l : Int) by omega]
  refine ⟨⟨by omega, by omega⟩, ?_⟩
  have := upto (N := 81) (Q := fun j τ => L_X10_pops_12 X d n (zpV (fun σ' => Fr (fun a i => a = 84 ∨ (a = 73 ∧ i = 39)) σ σ' ∧ gI σ' 73 39 = (l : Int) ∧ WAll σ' bd)) (j : Int) τ) (I := fun j τ => Fr (fun a i => a = 84) (sI σ 73 39 (l : Int)) τ ∧ ∀ i, i < j → gI τ 84 i = bd i) ?_ ?_ 0 (sI σ 73 39 (l : Int)) (by omega) ⟨Fr.rf, fun i hi => by omega⟩
  · simpa using this
  · rintro τ ⟨f, b⟩
    refine b_X10_pops_12 hn ⟨fun _ => ?_, fun q => by omega⟩
    exact ⟨(Fr.rf.sI (Or.inr ⟨rfl, rfl⟩)).tr (f.mono (fun a i q => Or.inl q)), by rw [f.I (by omega)]; exact gI_same _ _ _ _, fun i hi => b i hi⟩
  · rintro j τ hj ⟨f, b⟩ ih
    have e : gI τ 73 39 = (l : Int) := by rw [f.I (by omega)]; exact gI_same _ _ _ _
    refine b_X10_pops_12 hn ⟨fun q => by omega, fun _ => ?_⟩
    rw [e, show ((j : Int)).toNat = j by omega, show (81 * (l : Int) + (j : Int)).toNat = 81 * l + j by omega, f.I (show ¬ 97 = 84 by omega), gI_c (by omega), hw j hj]
    refine ⟨by omega, by omega, ⟨by omega, by omega⟩, ?_⟩
    have := ih (sI τ 84 j (bd j)) ⟨f.sI rfl, fun i hi => ?_⟩
    · simpa using this
    · by_cases z : i = j
      · rw [z, gI_same]
      · rw [gI_f (by omega)]; exact b i (by omega)
theorem sm_isBack (hn : 104 ≤ n) {m l : Nat} {bd : Nat → Int} {pv : Option (Nat → Int)} (h9 : m ≤ 9) (hl : l ≤ 600) (h39 : gI σ 73 39 = ((l + 1 : Nat) : Int)) (hw : WAll σ bd) (hpad : Pad m bd) (hp : PvM σ m l pv) :
    ZkZ X M_X10_isBack (d + 1) n [.ref (zB X + 73)] σ (fun v σ' => σ = σ' ∧ ((v = 1 ∧ Back m pv bd) ∨ (v = 0 ∧ ¬ Back m pv bd))) := by
  have hN := sq_le h9
  refine w_X10_isBack hn ?_
  rw [h39]
  refine ⟨fun q => ?_, fun q => ⟨rfl, Or.inr ⟨rfl, fun y => ?_⟩⟩⟩
  · rcases hp with u | ⟨j, pb, u1, u2, u3, u4⟩
    · omega
    have := upto (N := 81) (Q := fun i τ => L_X10_isBack_12 X d n (zpZ (fun v σ' => σ = σ' ∧ ((v = 1 ∧ Back m pv bd) ∨ (v = 0 ∧ ¬ Back m pv bd)))) (i : Int) τ) (I := fun i τ => σ = τ ∧ ∀ q, q < i → pb q = bd q) ?_ ?_ 0 σ (by omega) ⟨rfl, fun q hq => by omega⟩
    · simpa using this
    · rintro _ ⟨rfl, b⟩
      exact b_X10_isBack_12 hn ⟨fun _ => ⟨rfl, Or.inl ⟨rfl, pb, u2, fun q hq => b q (by omega)⟩⟩, fun q => by omega⟩
    · rintro i _ hi ⟨rfl, b⟩ ih
      refine b_X10_isBack_12 hn ⟨fun q => by omega, fun _ => ?_⟩
      rw [h39, show ((i : Int)).toNat = i by omega, show (81 * (((l + 1 : Nat) : Int) - 2) + (i : Int)).toNat = 81 * j + i by omega, u4 i hi, hw i hi]
      refine ⟨by omega, by omega, fun z => ⟨⟨by omega, by omega⟩, ?_⟩, fun z => ⟨rfl, Or.inr ⟨rfl, fun y => ?_⟩⟩⟩
      · have := ih σ ⟨rfl, fun q hq => by
          by_cases e : q = i
          · rw [e]; exact z
          · exact b q (by omega)⟩
        simpa using this
      · obtain ⟨b', y1, y2⟩ := y
        rw [u2] at y1
        cases y1
        by_cases e : i < m * m
        · exact z (y2 i e)
        · exact z (by rw [u3 i (by omega), hpad i (by omega)])
  · rcases hp with u | ⟨j, pb, u1, _⟩
    · obtain ⟨b', y1, _⟩ := y
      rw [u.2] at y1; cases y1
    · omega
theorem sm_tries (hn : 104 ≤ n) {m tg l p f : Nat} {bd : Nat → Int} {pv : Option (Nat → Int)} {mc : Int} (h3 : 3 ≤ m) (h9 : m ≤ 9) (hmc : mc = 1 ∨ mc = 2) (hp : p < m * m) (hcon : BCon m bd) (hpad : Pad m bd) (hS : MLd σ m tg l bd f) (hlf : l + f ≤ 600) (hpv : PvM σ m l pv) :
    ZkZ X M_X10_tries (d + 4) n [.ref (zB X + 73), iV (p : Int), iV mc] σ (fun v σ' => Fr (mlW l) σ σ' ∧ gI σ' 73 42 = gI σ 73 42 ∧ ((f = 0 ∧ v = 0 ∧ σ' = sI σ 73 43 1) ∨ ∃ f2, f = f2 + 1 ∧ ((v = 1 ∧ MLd σ' m tg (l + 1) (putB m bd p mc) f2 ∧ LnR σ' l bd ∧ (∃ x, Lib m (putB m bd p mc) p x) ∧ ¬ Back m pv (putB m bd p mc)) ∨ (v = 0 ∧ MLd σ' m tg l bd f2 ∧ ((∀ x, ¬ Lib m (putB m bd p mc) p x) ∨ Back m pv (putB m bd p mc)))))) := by
  have hN := sq_le h9
  obtain ⟨a1, a2, a3, a4, a5, a6⟩ := hS
  refine w_X10_tries hn ⟨by omega, by omega⟩ ⟨by omega, by omega⟩ ?_
  rw [a4]
  refine ⟨fun z => ?_, fun z => ⟨Fr.rf.sI (by unfold mlW; omega), by rw [gI_f (by omega)], Or.inl ⟨by omega, rfl, rfl⟩⟩⟩
  obtain ⟨f2, rfl⟩ : ∃ f2, f = f2 + 1 := ⟨f - 1, by omega⟩
  rw [show (600 : Int) - ((f2 + 1 : Nat) : Int) + 1 = 600 - (f2 : Int) by omega]
  refine ⟨⟨by omega, by omega⟩, ?_⟩
  have f0 : Fr (fun a i => a = 73 ∧ i = 40) σ (sI σ 73 40 (600 - (f2 : Int))) := Fr.rf.sI ⟨rfl, rfl⟩
  have e40 : gI (sI σ 73 40 (600 - (f2 : Int))) 73 40 = 600 - (f2 : Int) := gI_same _ _ _ _
  generalize sI σ 73 40 (600 - (f2 : Int)) = σ0 at f0 e40
  have w0 := a6.kept f0 (fun i => by omega)
  refine (sm_pushes hn (l := l) (by omega) (by rw [f0.I (by omega)]; exact a3) w0).mono ?_
  rintro σ1 ⟨f1, l1, r1⟩
  have w1 := w0.kept f1 (fun i => by omega)
  have m1 : gI σ1 73 13 = (m : Int) := by rw [f1.I (by omega), f0.I (by omega)]; exact a2
  refine (sm_put hn h3 h9 m1 hmc hp hcon (fun q hq => w1 q (by omega))).mono ?_
  rintro v σ2 - ⟨f2', s2, p2, -, hv⟩
  have F02 : Fr (fun a i => (84 ≤ a ∧ a ≤ 87) ∨ (a = 97 ∧ 81 * l ≤ i) ∨ (a = 73 ∧ (i = 18 ∨ i = 39 ∨ i = 40))) σ σ2 := ((f0.mono (fun a i q => by omega)).tr (f1.mono (fun a i q => by omega))).tr (f2'.mono (fun a i q => by unfold putW at q; omega))
  have FM : Fr (mlW l) σ σ2 := F02.mono (fun a i q => by unfold mlW; omega)
  have e42 : gI σ2 73 42 = gI σ 73 42 := F02.I (by omega)
  have w2 : WAll σ2 (putB m bd p mc) := fun q hq => by
    by_cases e : q < m * m
    · exact s2 q e
    · rw [p2 q (by omega) hq, w1 q hq, hpad q (by omega), putB_pad hpad hp q (by omega)]
  have l2 : gI σ2 73 39 = ((l + 1 : Nat) : Int) := by rw [f2'.I (by unfold putW; omega)]; exact l1
  have r2 : LnR σ2 l bd := fun i hi => by rw [f2'.I (by unfold putW; omega)]; exact r1 i hi
  have s40 : gI σ2 73 40 = 600 - (f2 : Int) := by rw [f2'.I (by unfold putW; omega), f1.I (by omega)]; exact e40
  have s43 : gI σ2 73 43 = 0 := by rw [F02.I (by omega)]; exact a5
  have s44 : gI σ2 73 44 = (tg : Int) := by rw [F02.I (by omega)]; exact a1
  have s13 : gI σ2 73 13 = (m : Int) := by rw [F02.I (by omega)]; exact a2
  -- undone
  have undo : ((∀ x, ¬ Lib m (putB m bd p mc) p x) ∨ Back m pv (putB m bd p mc)) → ZkV X M_X10_pops (d + 3) n [.ref (zB X + 73)] σ2 (fun σ' => Fr (mlW l) σ σ' ∧ gI σ' 73 42 = gI σ 73 42 ∧ ((f2 + 1 = 0 ∧ (0 : Int) = 0 ∧ σ' = sI σ 73 43 1) ∨ ∃ f3, f2 + 1 = f3 + 1 ∧ (((0 : Int) = 1 ∧ MLd σ' m tg (l + 1) (putB m bd p mc) f3 ∧ LnR σ' l bd ∧ (∃ x, Lib m (putB m bd p mc) p x) ∧ ¬ Back m pv (putB m bd p mc)) ∨ ((0 : Int) = 0 ∧ MLd σ' m tg l bd f3 ∧ ((∀ x, ¬ Lib m (putB m bd p mc) p x) ∨ Back m pv (putB m bd p mc)))))) := by
    intro hno
    refine (sm_pops hn (by omega) l2 r2).mono ?_
    rintro σ3 ⟨f3, l3, w3⟩
    exact ⟨FM.tr (f3.mono (fun a i q => by unfold mlW; omega)), by rw [f3.I (by omega)]; exact e42, Or.inr ⟨f2, rfl, Or.inr ⟨rfl, ⟨by rw [f3.I (by omega)]; exact s44, by rw [f3.I (by omega)]; exact s13, l3, by rw [f3.I (by omega)]; exact s40, by rw [f3.I (by omega)]; exact s43, w3⟩, hno⟩⟩⟩
  refine ⟨fun z2 => undo (Or.inl ?_), fun z2 => (sm_isBack hn h9 (by omega) l2 w2 (putB_pad hpad hp) (hpv.kept F02 (fun i hi => by omega))).mono ?_⟩
  · rcases hv with u | u
    · omega
    · exact u.2
  · rintro v2 _ - ⟨rfl, hv2⟩
    refine ⟨fun z3 => undo (Or.inr ?_), fun z3 => ⟨FM, e42, Or.inr ⟨f2, rfl, Or.inl ⟨rfl, ⟨s44, s13, l2, s40, s43, w2⟩, r2, ?_, ?_⟩⟩⟩⟩
    · rcases hv2 with u | u
      · exact u.2
      · exact absurd u.1 z3
    · rcases hv with u | u
      · exact u.2
      · exact absurd u.1 z2
    · rcases hv2 with u | u
      · omega
      · exact u.2
theorem sm_freeBehind (hn : 104 ≤ n) {m : Nat} {x : Int} {D : Nat → Prop} (h9 : m ≤ 9) (hm : gI σ 73 13 = (m : Int)) (hD : ∀ q, q < 81 → (gI σ 86 q = 1 ↔ D q)) (hb : ∀ q, q < 81 → gI σ 86 q = 0 ∨ gI σ 86 q = 1) (hx : -1 ≤ x ∧ x < (m * m : Nat)) :
    ZkI X M_X10_freeBehind (d + 1) n [.ref (zB X + 73), iV x] σ (fun v σ' => σ = σ' ∧ ((v = -1 ∧ ∀ q : Nat, x < (q : Int) → q < m * m → ¬ D q) ∨ ∃ q : Nat, v = (q : Int) ∧ x < (q : Int) ∧ q < m * m ∧ D q ∧ ∀ r : Nat, x < (r : Int) → r < q → ¬ D r)) := by
  have hN := sq_le h9
  have mm : (m : Int) * (m : Int) = ((m * m : Nat) : Int) := by simp
  refine w_X10_freeBehind hn ⟨by omega, by omega⟩ ⟨⟨by omega, by omega⟩, ?_⟩
  obtain ⟨x0, ex⟩ : ∃ x0 : Nat, x + 1 = (x0 : Int) := ⟨(x + 1).toNat, by omega⟩
  rw [ex]
  refine upto (N := m * m) (Q := fun j τ => L_X10_freeBehind_4 X d n (zpI (fun v σ' => σ = σ' ∧ ((v = -1 ∧ ∀ q : Nat, x < (q : Int) → q < m * m → ¬ D q) ∨ ∃ q : Nat, v = (q : Int) ∧ x < (q : Int) ∧ q < m * m ∧ D q ∧ ∀ r : Nat, x < (r : Int) → r < q → ¬ D r))) (j : Int) τ) (I := fun j τ => σ = τ ∧ x < (j : Int) ∧ ∀ q : Nat, x < (q : Int) → q < j → ¬ D q) ?_ ?_ x0 σ (by omega) ⟨rfl, by omega, fun q h1 h2 => by omega⟩
  · rintro _ ⟨rfl, -, b⟩
    refine b_X10_freeBehind_4 hn ?_
    rw [hm, mm]
    exact ⟨⟨by omega, by omega⟩, fun _ => ⟨fun _ => ⟨rfl, Or.inl ⟨rfl, b⟩⟩, fun q => by omega⟩, fun q => by omega⟩
  · rintro j _ hj ⟨rfl, hxj, b⟩ ih
    refine b_X10_freeBehind_4 hn ?_
    rw [hm, mm, show ((j : Int)).toNat = j by omega]
    have hDj := hD j (by omega)
    have hbj := hb j (by omega)
    refine ⟨⟨by omega, by omega⟩, fun q => by omega, fun _ => ⟨by omega, fun z => ⟨fun q => by omega, fun _ => ⟨rfl, Or.inr ⟨j, rfl, hxj, hj, hDj.mp (by omega), b⟩⟩⟩, fun z => ⟨⟨by omega, by omega⟩, ?_⟩⟩⟩
    have := ih σ ⟨rfl, by omega, fun q h1 h2 => by
      by_cases e : q = j
      · rw [e]; exact fun y => by have := hDj.mpr y; omega
      · exact b q h1 (by omega)⟩
    simpa using this
end ZM
