theorem ms_y1 {nm t : Int} {r : Bool} (h0 : ¬ nm = 0) (h : ¬ andI t nm = 0) : msF nm t r = true := by
  unfold msF; rw [if_neg h0, if_pos h]
theorem ms_y2 {nm t : Int} {r : Bool} (h : nm = 1 ∨ nm = 2) (hr : r = false) : msF nm t r = true := by
  by_cases h1 : andI t nm = 0
  · unfold msF; rw [if_neg (by omega), if_neg (fun z => z h1), if_pos ⟨h, hr⟩]
  · exact ms_y1 (by omega) h1
theorem ms_y3 {nm t : Int} {r : Bool} (h : nm = 1 ∨ nm = 4 ∨ nm = 8) (h2 : ¬ andI t 124 = 0) : msF nm t r = true := by
  by_cases h1 : andI t nm = 0
  · by_cases h3 : (nm = 1 ∨ nm = 2) ∧ r = false
    · exact ms_y2 h3.1 h3.2
    · unfold msF; rw [if_neg (by omega), if_neg (fun z => z h1), if_neg h3, if_pos h]; simpa using h2
  · exact ms_y1 (by omega) h1
theorem ms_y4 {nm t : Int} {r : Bool} (h : 16 ≤ nm) (h2 : ¬ andI t 12 = 0) : msF nm t r = true := by
  by_cases h1 : andI t nm = 0
  · unfold msF; rw [if_neg (by omega), if_neg (fun z => z h1), if_neg (by omega), if_neg (by omega), if_pos h]; simpa using h2
  · exact ms_y1 (by omega) h1
theorem ms_no {nm t : Int} {r : Bool} (h1 : nm = 0 ∨ andI t nm = 0) (h2 : nm = 1 ∨ nm = 4 ∨ nm = 8 → andI t 124 = 0) (h3 : 16 ≤ nm → andI t 12 = 0) (h4 : nm = 1 ∨ nm = 2 → r = true) : ¬ msF nm t r = true := by
  unfold msF
  by_cases h0 : nm = 0
  · rw [if_pos h0]; simp
  · have h1' := h1.resolve_left h0
    rw [if_neg h0, if_neg (fun z => z h1'), if_neg (fun z => by rw [h4 z.1] at z; simp at z)]
    by_cases ha : nm = 1 ∨ nm = 4 ∨ nm = 8
    · rw [if_pos ha]; simp [h2 ha]
    · rw [if_neg ha]
      by_cases hb : 16 ≤ nm
      · rw [if_pos hb]; simp [h3 hb]
      · rw [if_neg hb]; simp
theorem clF_stop {B : Nat → Int} {L : Nat} : ∀ (w i : Nat), L - i ≤ w → clF B L w i < L → B (clF B L w i) = 93 := by
  intro w
  induction w with
  | zero =>
    intro i hw h
    have : i < L := h
    omega
  | succ w ih =>
    intro i hw h
    unfold clF at h ⊢
    by_cases hc : i < L ∧ B i ≠ 93
    · rw [if_pos hc] at h ⊢
      split at h
      · rename_i h92
        rw [if_pos h92]
        exact ih (i + 2) (by omega) h
      · rename_i h92
        rw [if_neg h92]
        exact ih (i + 1) (by omega) h
    · rw [if_neg hc] at h ⊢
      exact Classical.byContradiction (fun z => hc ⟨h, z⟩)
def NoM (σ : ZSto) : Prop := gI σ 73 21 = 0 ∧ gI σ 73 22 = -1
theorem NoM.kept {W : Nat → Nat → Prop} {σ σ' : ZSto} (h : NoM σ) (hf : Fr W σ σ') (h1 : ¬ W 73 21) (h2 : ¬ W 73 22) : NoM σ' := ⟨by rw [hf.I h1]; exact h.1, by rw [hf.I h2]; exact h.2⟩
def RvM (σ : ZSto) (g k : Nat) (v : Int) : (Int × Nat) ⊕ (Nat × ND) → Prop
  | .inl f => v = 0 ∧ gI σ 73 21 = f.1 ∧ gI σ 73 22 = (f.2 : Int) ∧ ¬ f.1 = 0
  | .inr r => v = 1 ∧ NoM σ ∧ gI σ 73 24 = (r.1 : Int) ∧ NdM σ g k r.2
def pmW (g k a j : Nat) : Prop := vmW g k a j ∨ (a = 73 ∧ (j = 21 ∨ j = 22 ∨ j = 24 ∨ j = 29))
section ZQ
variable {X : ZX} {d n : Nat} {B : Nat → Int} {L : Nat}
theorem sm_fault (hn : 104 ≤ n) {σ : ZSto} {e z : Int} (hN : NoM σ) (he : R32 e) (hz : R32 z) : ZkZ X M_X10_fault (d + 1) n [.ref (zB X + 73), iV e, iV z] σ (fun v σ' => v = 0 ∧ Fr (fun a j => a = 73 ∧ (j = 21 ∨ j = 22)) σ σ' ∧ gI σ' 73 21 = e ∧ gI σ' 73 22 = z) :=
  w_X10_fault hn he hz ⟨fun y => absurd hN.1 y, fun _ => ⟨rfl, (Fr.rf.sI (by omega)).sI (by omega), by rw [gI_f (by omega), gI_same], gI_same _ _ _ _⟩⟩
theorem pm_scan (hn : 104 ≤ n) {P : Int → ZSto → Prop} {x1 x3 x8 x9 x10 : Int} {σ0 : ZSto} (hT0 : TpM σ0 B L) {u : Nat} (HV : u < L → ∀ τ, Fr (fun a j => a = 73 ∧ j = 24) σ0 τ → gI τ 73 24 = (u : Int) → L_X10_property_249 X (d + 1) n (zpZ P) x1 x3 x8 x9 x10 τ) (HF : L ≤ u → ∀ τ, Fr (fun a j => a = 73 ∧ j = 24) σ0 τ → ZkZ X M_X10_fault (d + 1) n [.ref (zB X + 73), iV 1, iV (L : Int)] τ P) : ∀ (w x : Nat) (τ : ZSto), L - x ≤ w → x ≤ L + 1 → Fr (fun a j => a = 73 ∧ j = 24) σ0 τ → gI τ 73 24 = (x : Int) → u = clF B L w x → L_X10_property_249 X (d + 1) n (zpZ P) x1 x3 x8 x9 x10 τ := by
  intro w
  induction w with
  | zero =>
    intro x τ hw hx hf h24 hu
    have hT := hT0.kept hf (fun i => by omega) (by omega)
    have hux : u = x := hu
    refine b_X10_property_249 hn ((sm_see hn hT h24).mono ?_)
    rintro b _ - ⟨rfl, hb⟩
    refine ⟨fun z => by omega, fun z => (sm_see hn hT h24).mono ?_⟩
    rintro b2 _ - ⟨rfl, hb2⟩
    rw [h24, hT.1]
    exact ⟨fun z2 => ⟨fun z3 => by omega, fun z3 => HF (by omega) τ hf⟩, fun z2 => by omega⟩
  | succ w ih =>
    intro x τ hw hx hf h24 hu
    have hT := hT0.kept hf (fun i => by omega) (by omega)
    have hL := hT.2.1
    by_cases h93 : x < L ∧ B x = 93
    · have hux : u = x := by
        rw [hu]
        show (if x < L ∧ B x ≠ 93 then _ else _) = _
        rw [if_neg (fun y => y.2 h93.2)]
      exact HV (by omega) τ hf (by rw [h24, hux])
    refine b_X10_property_249 hn ((sm_see hn hT h24).mono ?_)
    rintro b _ - ⟨rfl, hb⟩
    refine ⟨fun z => absurd (by omega) h93, fun z => (sm_see hn hT h24).mono ?_⟩
    rintro b2 _ - ⟨rfl, hb2⟩
    rw [h24, hT.1]
    have hu' : x < L → u = clF B L w (if B x = 92 then x + 2 else x + 1) := by
      intro hxL
      rw [hu]
      show (if x < L ∧ B x ≠ 93 then _ else _) = _
      rw [if_pos ⟨hxL, fun y => h93 ⟨hxL, y⟩⟩]
    refine ⟨fun z2 => ⟨fun z3 => ⟨⟨by omega, by omega⟩, ?_⟩, fun z3 => HF ?_ τ hf⟩, fun z2 => ⟨⟨by omega, by omega⟩, fun z3 => ⟨⟨by omega, by omega⟩, ?_⟩, fun z3 => HF ?_ _ (hf.sI ⟨rfl, rfl⟩)⟩⟩
    · have e := hu' (by omega)
      rw [if_neg (by omega)] at e
      exact ih (x + 1) _ (by omega) (by omega) (hf.sI ⟨rfl, rfl⟩) (by rw [gI_same]; omega) e
    · have : u = x := by
        rw [hu]
        show (if x < L ∧ B x ≠ 93 then _ else _) = _
        rw [if_neg (by omega)]
      omega
    · have e := hu' (by omega)
      rw [if_pos (by omega)] at e
      exact ih (x + 2) _ (by omega) (by omega) ((hf.sI ⟨rfl, rfl⟩).sI ⟨rfl, rfl⟩) (by rw [gI_same]; omega) e
    · have e := hu' (by omega)
      rw [if_pos (by omega)] at e
      have := clF_ge (B := B) (L := L) w (x + 2)
      omega
theorem pm_loop (hn : 104 ≤ n) {g k m : Nat} {c nm t0 : Int} {σ0 : ZSto} (hg : g < 2) (hk : k < 250) (hN : NmO k nm t0) (hT0 : TpM σ0 B L) (h28 : gI σ0 73 28 = (g : Int)) {res : (Int × Nat) ⊕ (Nat × ND)} : ∀ (w q od : Nat) (x : ND) (σ : ZSto), L - q ≤ w → od ≤ q → q ≤ L → Fr (pmW g k) σ0 σ → NDI k m c x → nTold x = orI t0 nm → (od = 0 → andI t0 124 = 0 → nMvr x = 0 ∧ ∀ p, nSet x p = 3) → TLs (if od = 0 then t0 else nTold x) x → NdM σ g k x → gI σ 73 24 = (q : Int) → NoM σ → res = vsF B L nm w q od x → L_X10_property_218 X (d + 3) n (zpZ (fun v σ' => Fr (pmW g k) σ0 σ' ∧ RvM σ' g k v res)) ((250 * g + k : Nat) : Int) nm (od : Int) σ := by
  intro w
  induction w with
  | zero =>
    intro q od x σ hw hod hqL hf hx htd h0 hTL hC h6 h8 hr
    have hT := hT0.kept hf (fun i => by unfold pmW vmW; omega) (by unfold pmW vmW; omega)
    refine b_X10_property_218 hn ((sm_see hn hT h6).mono ?_)
    rintro b _ - ⟨rfl, hb⟩
    refine ⟨fun _ => ?_, fun z => by omega⟩
    rw [hr, vsF_e (by omega)]
    exact ⟨hf, rfl, h8, h6, hC⟩
  | succ w ih =>
    intro q od x σ hw hod hqL hf hx htd h0 hTL hC h6 h8 hr
    have hT := hT0.kept hf (fun i => by unfold pmW vmW; omega) (by unfold pmW vmW; omega)
    have h28' : gI σ 73 28 = (g : Int) := by rw [hf.I (by unfold pmW vmW; omega)]; exact h28
    have hL := hT.2.1
    refine b_X10_property_218 hn ((sm_see hn hT h6).mono ?_)
    rintro b _ - ⟨rfl, hb⟩
    refine ⟨fun z => ?_, fun z y10 e10 => ⟨⟨by omega, by omega⟩, fun y16 e16 => ?_⟩⟩
    · rw [hr, vsF_e (by omega)]
      exact ⟨hf, rfl, h8, h6, hC⟩
    have hcond : q < L ∧ B q = 91 := by omega
    rw [h6] at e10 e16
    subst e10
    have e16' : y16 = ((q + 1 : Nat) : Int) := by omega
    subst e16'
    clear e16
    rw [vsF_s hcond] at hr
    have hcg := clF_ge (B := B) (L := L) L (q + 1)
    have hcs := clF_stop (B := B) (L := L) L (q + 1) (by omega)
    -- v1F by cases
    have hv1 : v1F B L nm od q x = (if L ≤ clF B L L (q + 1) then .inl (1, L) else match vlF B nm od (q + 1) (clF B L L (q + 1)) x with | none => .inl (3, q) | some y => .inr (clF B L L (q + 1) + 1, y)) := rfl
    have finv := fun r => v1F_inv (B := B) (L := L) (q := q) (r := r) hN hx htd h0 hTL
    generalize hu : clF B L L (q + 1) = u at *
    have rod : R32 ((od : Int) + 1) := ⟨by omega, by omega⟩
    have rnm : R32 nm := by have := hN.1; unfold isNm at this; exact ⟨by omega, by omega⟩
    have fq : Fr (fun a j => a = 73 ∧ j = 24) σ (sI σ 73 24 (gI σ 73 24 + 1)) := Fr.rf.sI ⟨rfl, rfl⟩
    refine pm_scan hn (hT.kept fq (fun i => by omega) (by omega)) (u := u) (fun huL τ ft e24 => ?_) (fun huL τ ft => ?_) L (q + 1) _ (by omega) (by omega) Fr.rf (by rw [gI_same, h6]; omega) hu.symm
    · -- the value
      rw [if_neg (by omega)] at hv1
      have fτ : Fr (fun a j => a = 73 ∧ j = 24) σ τ := fq.tr ft
      have Fτ : Fr (pmW g k) σ0 τ := hf.tr (fτ.mono (fun a j y => by unfold pmW; omega))
      have hTτ := hT.kept fτ (fun i => by omega) (by omega)
      have Nτ := hC.kept fτ (fun a j y => by omega)
      have NMτ := h8.kept fτ (by omega) (by omega)
      have bad : vlF B nm od (q + 1) u x = none → ∀ τ', Fr (pmW g k) σ0 τ' → NoM τ' → ZkZ X M_X10_fault (d + 3) n [.ref (zB X + 73), iV 3, iV (q : Int)] τ' (fun v σ' => Fr (pmW g k) σ0 σ' ∧ RvM σ' g k v res) := by
        intro hno τ' f' n'
        refine (sm_fault hn n' ⟨by omega, by omega⟩ ⟨by omega, by omega⟩).mono ?_
        rintro v σ' - ⟨rfl, f2, q1, q2⟩
        refine ⟨f'.tr (f2.mono (fun a j y => by unfold pmW; omega)), ?_⟩
        rw [hno] at hv1
        rw [hr, hv1]
        exact ⟨rfl, q1, q2, by show ¬ (3 : Int) = 0; omega⟩
      have good : ∀ y, vlF B nm od (q + 1) u x = some y → ∀ τ', Fr (pmW g k) σ0 τ' → NoM τ' → NdM τ' g k y → gI τ' 73 24 = (u : Int) → R32 (gI τ' 73 24 + 1) ∧ ZkV X M_X10_blanks (d + 3) n [.ref (zB X + 73)] (sI τ' 73 24 (gI τ' 73 24 + 1)) (fun σ16 => L_X10_property_218 X (d + 3) n (zpZ (fun v σ' => Fr (pmW g k) σ0 σ' ∧ RvM σ' g k v res)) ((250 * g + k : Nat) : Int) nm ((od : Int) + 1) σ16) := by
        intro y hy τ' f' n' N' e'
        rw [hy] at hv1
        rw [hv1] at hr
        obtain ⟨k1, k2, k3, k4, k5⟩ := finv (u + 1, y) hv1
        have fs : Fr (fun a j => a = 73 ∧ j = 24) τ' (sI τ' 73 24 (gI τ' 73 24 + 1)) := Fr.rf.sI ⟨rfl, rfl⟩
        have F2 : Fr (pmW g k) σ0 (sI τ' 73 24 (gI τ' 73 24 + 1)) := f'.tr (fs.mono (fun a j y => by unfold pmW; omega))
        refine ⟨⟨by omega, by omega⟩, (sm_blanks hn L (u + 1) _ (hT0.kept F2 (fun i => by unfold pmW vmW; omega) (by unfold pmW vmW; omega)) (by omega) (by omega) (by rw [gI_same, e']; omega)).mono ?_⟩
        rintro σ2 ⟨f2, e2⟩
        have hs := skp_ge (B := B) (L := L) (u + 1)
        have := ih (skp B L (u + 1)) (od + 1) y σ2 (by omega) (by omega) (hs.2 k5) (F2.tr (f2.mono (fun a j y => by unfold pmW; omega))) k1 (by rw [k2]; exact htd) (fun z => by omega) (by rw [if_neg (by omega)]; exact k3) ((N'.kept fs (fun a j y => by omega)).kept f2 (fun a j y => by omega)) e2 ((n'.kept fs (by omega) (by omega)).kept f2 (by omega) (by omega)) hr
        simpa using this
      refine b_X10_property_249 hn ((sm_see hn hTτ e24).mono ?_)
      rintro b3 _ - ⟨rfl, hb3⟩
      refine ⟨fun _ => ⟨fun z3 => ?_, fun z3 => ⟨fun z4 => ?_, fun z4 => ⟨rod, fun z5 => ?_, fun z5 => bad ?_ τ Fτ NMτ⟩⟩⟩, fun z3 => by have := hcs huL; omega⟩
      · have n0 : nm = 0 := by have := hN.1; unfold isNm at this; omega
        have := good x (by unfold vlF; rw [if_pos n0]) τ Fτ NMτ Nτ e24
        exact ⟨this.1, this.2.mono (fun σ' h => ⟨rod, h⟩)⟩
      · refine (sm_isValue (od := od) hn hg hk hTτ (by rw [fτ.I (by omega)]; exact h28') hN.1 (by omega) (fun y => by omega) hx Nτ hcg huL (hcs huL) e24).mono ?_
        rintro v σ2 - ⟨f2, hv⟩
        have F2 : Fr (pmW g k) σ0 σ2 := Fτ.tr (f2.mono (fun a j y => Or.inl y))
        have N2 : NoM σ2 := NMτ.kept f2 (by unfold vmW; omega) (by unfold vmW; omega)
        refine ⟨fun y => ?_, fun y => bad (by
          rcases hv with w | w
          · omega
          · exact w.2) σ2 F2 N2⟩
        obtain ⟨y', w1, w2⟩ : ∃ y, vlF B nm od (q + 1) u x = some y ∧ NdM σ2 g k y := by
          rcases hv with w | w
          · exact w.2
          · exact absurd w.1 y
        have := good y' w1 σ2 F2 N2 w2 (by rw [f2.I (by unfold vmW; omega)]; exact e24)
        exact ⟨this.1, this.2.mono (fun σ' h => ⟨rod, h⟩)⟩
      · refine (sm_isValue (od := od) hn hg hk hTτ (by rw [fτ.I (by omega)]; exact h28') hN.1 (by omega) (fun y => by omega) hx Nτ hcg huL (hcs huL) e24).mono ?_
        rintro v σ2 - ⟨f2, hv⟩
        have F2 : Fr (pmW g k) σ0 σ2 := Fτ.tr (f2.mono (fun a j y => Or.inl y))
        have N2 : NoM σ2 := NMτ.kept f2 (by unfold vmW; omega) (by unfold vmW; omega)
        refine ⟨fun y => ?_, fun y => bad (by
          rcases hv with w | w
          · omega
          · exact w.2) σ2 F2 N2⟩
        obtain ⟨y', w1, w2⟩ : ∃ y, vlF B nm od (q + 1) u x = some y ∧ NdM σ2 g k y := by
          rcases hv with w | w
          · exact w.2
          · exact absurd w.1 y
        exact good y' w1 σ2 F2 N2 w2 (by rw [f2.I (by unfold vmW; omega)]; exact e24)
      · unfold vlF
        rw [if_neg (by omega), if_neg z4, if_pos (by omega)]
    · -- none closes it
      rw [if_pos huL] at hv1
      have fτ : Fr (fun a j => a = 73 ∧ j = 24) σ τ := fq.tr ft
      refine (sm_fault hn (h8.kept fτ (by omega) (by omega)) ⟨by omega, by omega⟩ ⟨by omega, by omega⟩).mono ?_
      rintro v σ' - ⟨rfl, f2, q1, q2⟩
      refine ⟨(hf.tr (fτ.mono (fun a j y => by unfold pmW; omega))).tr (f2.mono (fun a j y => by unfold pmW; omega)), ?_⟩
      rw [hr, hv1]
      exact ⟨rfl, q1, q2, by show ¬ (1 : Int) = 0; omega⟩
end ZQ
