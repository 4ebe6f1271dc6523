theorem and_255 : ∀ k : Nat, k < 256 → andI ((k : Int) - 128) 255 = (if k < 128 then (k : Int) + 128 else (k : Int) - 128) := by decide +kernel
theorem and255 {x : Int} (h1 : -128 ≤ x) (h2 : x < 128) : andI x 255 = (if x < 0 then x + 256 else x) := by
  have := and_255 (x + 128).toNat (by omega)
  rw [show (((x + 128).toNat : Nat) : Int) - 128 = x by omega] at this
  rw [this]
  by_cases h : x < 0
  · rw [if_pos (by omega), if_pos h]; omega
  · rw [if_neg (by omega), if_neg h]
    all_goals omega
section ZX
variable {X : ZX} {d n : Nat} {σ : ZSto}
theorem sm_read (hn : 104 ≤ n) {B : Nat → Int} {L g g' : Nat} {ko : Int} (T : ATr) (hg : g < 2) (hg' : g' = 1 - g) (hT : TpM σ B L) (h10 : gI σ 73 10 = (g : Int)) (h12 : gI σ 73 12 = ko) (P : Int → ZSto → Prop) (res : (Int × Nat) ⊕ (Nat × ATr × Nat × Int)) (hres : res = mnF B L ko (L + 1) 0 0 [] (-1) 0 T 9 0)
    (hF : ∀ (f : Int × Nat) σ', res = .inl f → Fr (fun a j => tmW g' a j ∨ (a = 73 ∧ (j = 20 ∨ j = 23 ∨ j = 28))) σ σ' → gI σ' 73 20 = 0 → gI σ' 73 23 = (f.2 : Int) → P f.1 σ')
    (hS : ∀ (r : Nat × ATr × Nat × Int) σ', res = .inr r → Fr (fun a j => tmW g' a j ∨ a = 92 ∨ (a = 73 ∧ (j = 10 ∨ j = 11 ∨ j = 20 ∨ j = 23 ∨ j = 28))) σ σ' → gI σ' 73 20 = 0 → gI σ' 73 23 = -1 → gI σ' 73 10 = (g' : Int) → gI σ' 73 11 = ((250 * g' : Nat) : Int) → MTr σ' g' r.2.2.1 r.1 r.2.2.2 r.2.1 → r.1 ≤ 250 → (∀ p, p < 81 → gI σ' 92 p = 0) → P 0 σ') (hr250 : ∀ r : Nat × ATr × Nat × Int, res = .inr r → r.1 ≤ 250) :
    ZkI X M_X10_read (d + 9) n [.ref (zB X + 73)] σ P := by
  have hg2 : g' < 2 := by omega
  refine w_X10_read hn ?_
  rw [h10, show (1 : Int) - (g : Int) = (g' : Int) by omega]
  refine ⟨⟨by omega, by omega⟩, ?_⟩
  have fs : Fr (fun a j => a = 73 ∧ (j = 21 ∨ j = 22 ∨ j = 24 ∨ j = 26 ∨ j = 27 ∨ j = 28)) σ (sI (sI (sI (sI (sI (sI σ 73 21 0) 73 22 (-1)) 73 24 0) 73 26 0) 73 27 (-1)) 73 28 (g' : Int)) := (((((Fr.rf.sI (by omega)).sI (by omega)).sI (by omega)).sI (by omega)).sI (by omega)).sI (by omega)
  have s21 : gI (sI (sI (sI (sI (sI (sI σ 73 21 0) 73 22 (-1)) 73 24 0) 73 26 0) 73 27 (-1)) 73 28 (g' : Int)) 73 21 = 0 := by rw [gI_f (by omega), gI_f (by omega), gI_f (by omega), gI_f (by omega), gI_f (by omega), gI_same]
  have s22 : gI (sI (sI (sI (sI (sI (sI σ 73 21 0) 73 22 (-1)) 73 24 0) 73 26 0) 73 27 (-1)) 73 28 (g' : Int)) 73 22 = -1 := by rw [gI_f (by omega), gI_f (by omega), gI_f (by omega), gI_f (by omega), gI_same]
  have s24 : gI (sI (sI (sI (sI (sI (sI σ 73 21 0) 73 22 (-1)) 73 24 0) 73 26 0) 73 27 (-1)) 73 28 (g' : Int)) 73 24 = 0 := by rw [gI_f (by omega), gI_f (by omega), gI_f (by omega), gI_same]
  have s26 : gI (sI (sI (sI (sI (sI (sI σ 73 21 0) 73 22 (-1)) 73 24 0) 73 26 0) 73 27 (-1)) 73 28 (g' : Int)) 73 26 = 0 := by rw [gI_f (by omega), gI_f (by omega), gI_same]
  have s27 : gI (sI (sI (sI (sI (sI (sI σ 73 21 0) 73 22 (-1)) 73 24 0) 73 26 0) 73 27 (-1)) 73 28 (g' : Int)) 73 27 = -1 := by rw [gI_f (by omega), gI_same]
  have s28 : gI (sI (sI (sI (sI (sI (sI σ 73 21 0) 73 22 (-1)) 73 24 0) 73 26 0) 73 27 (-1)) 73 28 (g' : Int)) 73 28 = (g' : Int) := gI_same _ _ _ _
  generalize sI (sI (sI (sI (sI (sI σ 73 21 0) 73 22 (-1)) 73 24 0) 73 26 0) 73 27 (-1)) 73 28 (g' : Int) = σ1 at fs s21 s22 s24 s26 s27 s28
  refine (sm_empties hn (m := 9) (c := 0) T hg2 (by omega) (by omega)).mono ?_
  rintro σ2 ⟨f2, M2⟩
  have f3 : Fr (fun a j => a = 73 ∧ j = 13) σ2 (sI σ2 73 13 9) := Fr.rf.sI ⟨rfl, rfl⟩
  have s13 : gI (sI σ2 73 13 9) 73 13 = ((9 : Nat) : Int) := gI_same _ _ _ _
  generalize sI σ2 73 13 9 = σ3 at f3 s13
  have F3 : Fr (fun a j => tmW g' a j ∨ (a = 73 ∧ j = 28)) σ σ3 := ((fs.mono (fun a j y => by unfold tmW; omega)).tr (f2.mono (fun a j y => by unfold tmW mtrD; omega))).tr (f3.mono (fun a j y => by unfold tmW; omega))
  have G3 : Fr (fun a j => (a = 73 ∧ j = 13) ∨ ((a = 81 ∨ a = 82 ∨ a = 83) ∧ j = g')) σ1 σ3 := (f2.mono (fun a j y => by omega)).tr (f3.mono (fun a j y => by omega))
  have hT3 := hT.kept F3 (fun i => by unfold tmW mtrD; omega) (by unfold tmW mtrD; omega)
  have No3 : NoM σ3 := ⟨by rw [G3.I (by omega)]; exact s21, by rw [G3.I (by omega)]; exact s22⟩
  have e24 : gI σ3 73 24 = ((0 : Nat) : Int) := by rw [G3.I (by omega)]; exact s24
  have M3 : MTr σ3 g' 9 0 0 T := M2.kept (by omega) f3 (fun a j y => by unfold mtrD at y; omega)
  have hL := hT.2.1
  have R3 : RdM σ3 g' ko 0 [] (-1) 0 T 9 0 := ⟨by rw [G3.I (by omega)]; exact s28, by rw [F3.I (by unfold tmW mtrD; omega)]; exact h12, e24, No3, by rw [G3.I (by omega)]; exact s26, by rw [G3.I (by omega), s27, mX_n (by omega)], trivial, M3, s13⟩
  have trees : ZkZ X M_X10_trees (d + 8) n [.ref (zB X + 73)] σ3 (TmP g' σ3 res) := by
    refine w_X10_trees hn ((sm_blanks hn L 0 σ3 hT3 (by omega) (by omega) e24).mono ?_)
    rintro σ4 ⟨f4, e4⟩
    have e4' : gI σ4 73 24 = (skp B L 0 : Nat) := e4
    have hs := skp_ge (B := B) (L := L) 0
    have hs2 := hs.2 (by omega)
    have F4 : Fr (tmW g') σ3 σ4 := f4.mono (fun a j y => by unfold tmW; omega)
    have hT4 := hT3.kept f4 (fun i => by omega) (by omega)
    refine (sm_see hn hT4 e4').mono ?_
    rintro b _ - ⟨rfl, hb⟩
    obtain ⟨x28, x12, x24, xNo, x26, x27, xSt, xM, x13⟩ := R3
    have No4 := xNo.kept f4 (by omega) (by omega)
    refine ⟨fun y => ?_, fun y => ?_⟩
    · have hc := sy_y hb (by decide) y
      refine tm_loop (X := X) (d := d) (ko := ko) (σ0 := σ3) hn hg2 hT3 (L + 1) (skp B L 0) 0 [] (-1) 0 T 9 0 0 0 σ4 (by omega) hs2 F4 ⟨by rw [f4.I (by omega)]; exact x28, by rw [f4.I (by omega)]; exact x12, e4', No4, by rw [f4.I (by omega)]; exact x26, by rw [f4.I (by omega)]; exact x27, trivial, xM.kept (by omega) f4 (fun a j y => by unfold mtrD at y; omega), by rw [f4.I (by omega)]; exact x13⟩ ?_ (Or.inl ⟨rfl, rfl, rfl, by rw [skp_idem]; exact hc.1, by rw [skp_idem]; exact hc.2⟩) ?_
      · obtain ⟨a1, a2, a3, a4, a5⟩ := PI_0 (T := T)
        exact ⟨a1, a2, a3, by omega, a5⟩
      · rw [hres, mnF_skp]
    · rw [e4']
      obtain ⟨m1, m2, m3, m4⟩ := mnF_rest (B := B) (L := L) (ko := ko) (w := L) (i := 0) (st := 0) (stk := []) (bh := -1) (k := 0) (T := T) (m := 9) (c := 0) (by omega)
      exact tm_fault (res := res) (e := 1) (z := skp B L 0) hn F4 No4 ⟨by omega, by omega⟩ (by omega) (by omega) (by rw [hres]; exact m4 (fun u => sy_n hb y ⟨u.1, u.2.1⟩) (by omega) (by omega))
  refine trees.mono ?_
  rintro v σ4 - ⟨f4, h4⟩
  have F4 : Fr (fun a j => tmW g' a j ∨ (a = 73 ∧ j = 28)) σ σ4 := F3.tr (f4.mono (fun a j y => Or.inl y))
  have e28 : gI σ4 73 28 = (g' : Int) := by rw [f4.I (by unfold tmW mtrD; omega)]; exact R3.1
  cases hr : res with
  | inl f =>
    rw [hr] at h4
    obtain ⟨rfl, q1, q2, q3⟩ := h4
    refine ⟨fun u => absurd rfl u, fun _ => ?_⟩
    rw [q1, q2]
    have fz : Fr (fun a j => a = 73 ∧ (j = 20 ∨ j = 23)) σ4 (sI (sI σ4 73 20 0) 73 23 (f.2 : Int)) := (Fr.rf.sI (by omega)).sI (by omega)
    exact hF f _ hr ((F4.mono (fun a j y => y.elim Or.inl (fun u => Or.inr (by omega)))).tr (fz.mono (fun a j y => Or.inr (by omega)))) (by rw [gI_f (by omega), gI_same]) (gI_same _ _ _ _)
  | inr r =>
    rw [hr] at h4
    obtain ⟨rfl, q1, q2⟩ := h4
    refine ⟨fun _ => ?_, fun u => by omega⟩
    rw [e28, q1.2]
    refine ⟨⟨by omega, by omega⟩, ?_⟩
    have fz : Fr (fun a j => a = 73 ∧ (j = 10 ∨ j = 11 ∨ j = 20 ∨ j = 23)) σ4 (sI (sI (sI (sI σ4 73 20 0) 73 23 (-1)) 73 10 (g' : Int)) 73 11 (250 * (g' : Int))) := (((Fr.rf.sI (by omega)).sI (by omega)).sI (by omega)).sI (by omega)
    have z20 : gI (sI (sI (sI (sI σ4 73 20 0) 73 23 (-1)) 73 10 (g' : Int)) 73 11 (250 * (g' : Int))) 73 20 = 0 := by rw [gI_f (by omega), gI_f (by omega), gI_f (by omega), gI_same]
    have z23 : gI (sI (sI (sI (sI σ4 73 20 0) 73 23 (-1)) 73 10 (g' : Int)) 73 11 (250 * (g' : Int))) 73 23 = -1 := by rw [gI_f (by omega), gI_f (by omega), gI_same]
    have z10 : gI (sI (sI (sI (sI σ4 73 20 0) 73 23 (-1)) 73 10 (g' : Int)) 73 11 (250 * (g' : Int))) 73 10 = (g' : Int) := by rw [gI_f (by omega), gI_same]
    have z11 : gI (sI (sI (sI (sI σ4 73 20 0) 73 23 (-1)) 73 10 (g' : Int)) 73 11 (250 * (g' : Int))) 73 11 = ((250 * g' : Nat) : Int) := by rw [gI_same]; omega
    generalize sI (sI (sI (sI σ4 73 20 0) 73 23 (-1)) 73 10 (g' : Int)) 73 11 (250 * (g' : Int)) = σ5 at fz z20 z23 z10 z11
    refine (sm_clears hn).mono ?_
    rintro σ6 ⟨f6, c6⟩
    have hk := hr250 r hr
    exact hS r σ6 hr (((F4.mono (fun a j y => y.elim Or.inl (fun u => Or.inr (Or.inr (by omega))))).tr (fz.mono (fun a j y => Or.inr (Or.inr (by omega))))).tr (f6.mono (fun a j y => Or.inr (Or.inl y)))) (by rw [f6.I (by omega)]; exact z20) (by rw [f6.I (by omega)]; exact z23) (by rw [f6.I (by omega)]; exact z10) (by rw [f6.I (by omega)]; exact z11) ((q2.kept hk fz (fun a j y => by unfold mtrD at y; omega)).kept hk f6 (fun a j y => by unfold mtrD at y; omega)) hk c6
end ZX
