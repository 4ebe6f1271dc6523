section ZQ
variable {X : ZX} {d n : Nat} {B : Nat → Int} {L : Nat}
theorem sm_property (hn : 104 ≤ n) {g k m i : Nat} {c bh : Int} {x : ND} {σ : ZSto} (hg : g < 2) (hk : k < 250) (hT : TpM σ B L) (h28 : gI σ 73 28 = (g : Int)) (hb : BhOk k bh) (h74 : gI σ 74 (250 * g + k) = mX g bh) (hx : NDI k m c x) (hTL : TLs (nTold x) x) (hN : NdM σ g k x) (hi : i < L) (h24 : gI σ 73 24 = (i : Int)) (hNo : NoM σ) :
    ZkZ X M_X10_property (d + 4) n [.ref (zB X + 73), iV ((250 * g + k : Nat) : Int)] σ (fun v σ' => Fr (pmW g k) σ σ' ∧ RvM σ' g k v (prF B L (decide (k = 0)) i x)) := by
  have hL := hT.2.1
  have hg' := grF_ge (B := B) (L := L) L i
  have hg2 := hg'.2 (by omega)
  have hs := skp_ge (B := B) (L := L) (grF B L L i)
  have hs2 := hs.2 hg2
  have hbr := hb.r
  have tK : (((250 * g + k : Nat) : Int)).toNat = 250 * g + k := by omega
  have par : gI σ 74 (250 * g + k) = -1 ↔ k = 0 := by
    rw [h74]
    unfold mX
    split
    · rename_i h; exact ⟨fun _ => hbr.2.2.mp h, fun _ => rfl⟩
    · rename_i h; exact ⟨fun y => by omega, fun y => absurd (hbr.2.2.mpr y) h⟩
  clear hbr
  refine w_X10_property hn ⟨by omega, by omega⟩ (fun y1 ey => ?_)
  rw [h24] at ey
  subst ey
  refine pm_5 hn hT (v := grF B L L i) (fun τ ft e24 => ?_) L i σ (by omega) (by omega) Fr.rf h24 rfl
  have hT1 := hT.kept ft (fun i => by omega) (by omega)
  have Nτ := hN.kept ft (fun a j y => by omega)
  have NMτ := hNo.kept ft (by omega) (by omega)
  have FT : Fr (pmW g k) σ τ := ft.mono (fun a j y => by unfold pmW; omega)
  have e74 : gI τ 74 (250 * g + k) = gI σ 74 (250 * g + k) := ft.I (by omega)
  have e29 := Nτ.1
  refine b_X10_property_36 hn ((sm_nameFrom hn hT1 hi hg'.1 hg2 e24).mono ?_)
  rintro nm _ - ⟨rfl, hnm⟩
  have his : isNm nm := by rw [hnm]; exact nmF_is
  have rnm : R32 nm := by unfold isNm at his; exact ⟨by omega, by omega⟩
  have n0 : nm ≤ 0 → nm = 0 := by unfold isNm at his; omega
  have n1 : nm < 16 → ¬ 16 ≤ nm := by omega
  have ePr : prF B L (decide (k = 0)) i x = (if msF nm (nTold x) (decide (k = 0)) = true then .inl (2, i) else if skp B L (grF B L L i) < L ∧ B (skp B L (grF B L L i)) = 91 then vsF B L nm L (skp B L (grF B L L i)) 0 (toldN x (orI (nTold x) nm)) else .inl (1, skp B L (grF B L L i))) := by
    unfold prF; rw [← hnm]
  rw [ePr]
  generalize hres : (if msF nm (nTold x) (decide (k = 0)) = true then (.inl (2, i) : (Int × Nat) ⊕ (Nat × ND)) else if skp B L (grF B L L i) < L ∧ B (skp B L (grF B L L i)) = 91 then vsF B L nm L (skp B L (grF B L L i)) 0 (toldN x (orI (nTold x) nm)) else .inl (1, skp B L (grF B L L i))) = res
  -- bad
  have bad : msF nm (nTold x) (decide (k = 0)) = true → ZkZ X M_X10_fault (d + 3) n [.ref (zB X + 73), iV 2, iV (i : Int)] τ (fun v σ' => Fr (pmW g k) σ σ' ∧ RvM σ' g k v res) := by
    intro hm
    rw [if_pos hm] at hres
    refine (sm_fault hn NMτ ⟨by omega, by omega⟩ ⟨by omega, by omega⟩).mono ?_
    rintro v σ' - ⟨rfl, f2, q1, q2⟩
    refine ⟨FT.tr (f2.mono (fun a j y => by unfold pmW; omega)), ?_⟩
    rw [← hres]
    exact ⟨rfl, q1, q2, by show ¬ (2 : Int) = 0; omega⟩
  -- good
  have good : ¬ msF nm (nTold x) (decide (k = 0)) = true → ZkV X M_X10_blanks (d + 3) n [.ref (zB X + 73)] (sI τ 73 29 (orI (gI τ 73 29) nm)) (fun σ7 => ZkI X M_X10_see (d + 3) n [.ref (zB X + 73)] σ7 (fun v11 σ12 => (v11 = 91 → L_X10_property_218 X (d + 3) n (zpZ (fun v σ' => Fr (pmW g k) σ σ' ∧ RvM σ' g k v res)) ((250 * g + k : Nat) : Int) nm 0 σ12) ∧ (¬ (v11 = 91) → ZkZ X M_X10_fault (d + 3) n [.ref (zB X + 73), iV 1, iV (gI σ12 73 24)] σ12 (fun v20 σ21 => Fr (pmW g k) σ σ21 ∧ RvM σ21 g k v20 res)))) := by
    intro hm
    rw [if_neg hm] at hres
    have hNm := msF_ok his hm
    rw [e29]
    have fs : Fr (fun a j => a = 73 ∧ j = 29) τ (sI τ 73 29 (orI (nTold x) nm)) := Fr.rf.sI ⟨rfl, rfl⟩
    refine (sm_blanks hn L (grF B L L i) _ (hT1.kept fs (fun i => by omega) (by omega)) (by omega) (by omega) (by rw [gI_f (by omega)]; exact e24)).mono ?_
    rintro σ1 ⟨f1, e1⟩
    have e1' : gI σ1 73 24 = (skp B L (grF B L L i) : Nat) := e1
    have F1 : Fr (pmW g k) σ σ1 := (FT.tr (fs.mono (fun a j y => by unfold pmW; omega))).tr (f1.mono (fun a j y => by unfold pmW; omega))
    have hT2 := hT.kept F1 (fun i => by unfold pmW vmW; omega) (by unfold pmW vmW; omega)
    have NM1 : NoM σ1 := (NMτ.kept fs (by omega) (by omega)).kept f1 (by omega) (by omega)
    refine (sm_see hn hT2 e1').mono ?_
    rintro b _ - ⟨rfl, hb'⟩
    refine ⟨fun y => ?_, fun y => ?_⟩
    · have hcond : skp B L (grF B L L i) < L ∧ B (skp B L (grF B L L i)) = 91 := by omega
      rw [if_pos hcond] at hres
      have N1 : NdM σ1 g k (toldN x (orI (nTold x) nm)) := by
        obtain ⟨c1, c2, c3, c4, c5, c6, c7, c8⟩ := Nτ
        refine ⟨?_, ?_, ?_, ?_, fun p hp => ?_, ?_, ?_, ?_⟩
        · rw [f1.I (by omega), gI_same]; rfl
        · rw [f1.I (by omega), gI_c (by omega)]; exact c2
        · rw [f1.I (by omega), gI_c (by omega)]; exact c3
        · rw [f1.I (by omega), gI_c (by omega)]; exact c4
        · rw [f1.I (by omega), gI_c (by omega)]; exact c5 p hp
        · rw [f1.I (by omega), gI_f (by omega)]; exact c6
        · rw [f1.I (by omega), gI_c (by omega)]; exact c7
        · rw [f1.I (by omega), gI_c (by omega)]; exact c8
      have := pm_loop (X := X) (d := d) (m := m) (c := c) (t0 := nTold x) hn hg hk hNm hT h28 (res := res) L (skp B L (grF B L L i)) 0 (toldN x (orI (nTold x) nm)) σ1 (by omega) (by omega) hs2 F1 (hx.told his) rfl (fun _ q => hx.2.2.2.2.2.2.2 q) (by rw [if_pos rfl]; exact hTL) N1 e1' NM1 hres.symm
      simpa using this
    · rw [if_neg (by omega)] at hres
      rw [e1']
      refine (sm_fault hn NM1 ⟨by omega, by omega⟩ ⟨by omega, by omega⟩).mono ?_
      rintro v σ' - ⟨rfl, f2, q1, q2⟩
      refine ⟨F1.tr (f2.mono (fun a j y => by unfold pmW; omega)), ?_⟩
      rw [← hres]
      exact ⟨rfl, q1, q2, by show ¬ (1 : Int) = 0; omega⟩
  clear hres ePr hnm
  generalize hP : (fun (v : Int) (σ' : ZSto) => Fr (pmW g k) σ σ' ∧ RvM σ' g k v res) = P at bad good
  have hroot : ∀ r : Bool, r = decide (k = 0) → (¬ k = 0 → r = false) ∧ (k = 0 → r = true) := fun r hr => by rw [hr]; exact ⟨fun y => by simp [y], fun y => by simp [y]⟩
  obtain ⟨rt1, rt2⟩ := hroot _ rfl
  have c148 : (nm = 0 ∨ andI (nTold x) nm = 0) → (nm = 4 ∨ nm = 8 → andI (nTold x) 124 = 0) → (16 ≤ nm → andI (nTold x) 12 = 0) → (nm = 1 ∨ nm = 2 → k = 0) → L_X10_property_148 X (d + 3) n (zpZ P) ((250 * g + k : Nat) : Int) (i : Int) nm τ := by
    intro h1 h2 h3 h4
    refine b_X10_property_148 hn ⟨fun z => good (ms_no h1 (fun y => h2 (y.resolve_left z)) h3 (fun y => rt2 (h4 y))), fun z => ⟨fun y => good (ms_no h1 (fun _ => by rw [e29] at y; exact y) h3 (fun y => rt2 (h4 y))), fun y => bad (ms_y3 (Or.inl z) (by rw [e29] at y; exact y))⟩⟩
  have c133 : ∀ x4 : Int, ((x4 = 1 ∧ (nm = 1 ∨ nm = 2)) ∨ (x4 = 0 ∧ ¬ (nm = 1 ∨ nm = 2))) → (nm = 0 ∨ andI (nTold x) nm = 0) → (nm = 4 ∨ nm = 8 → andI (nTold x) 124 = 0) → (16 ≤ nm → andI (nTold x) 12 = 0) → L_X10_property_133 X (d + 3) n (zpZ P) ((250 * g + k : Nat) : Int) (i : Int) nm x4 τ := by
    intro x4 h4 h1 h2 h3
    refine b_X10_property_133 hn ⟨fun z => c148 h1 h2 h3 (fun y => ?_), fun z => ⟨by omega, ?_⟩⟩
    · rcases h4 with u | u
      · omega
      · exact absurd y u.2
    · have h12 : nm = 1 ∨ nm = 2 := by
        rcases h4 with u | u
        · exact u.2
        · exact absurd u.1 z
      rw [tK, e74]
      exact ⟨fun y => bad (ms_y2 h12 (rt1 (fun u => y (par.mpr u)))), fun y => c148 h1 h2 h3 (fun _ => par.mp y)⟩
  have c118 : ∀ x4 x6 : Int, ((x4 = 1 ∧ (nm = 1 ∨ nm = 2)) ∨ (x4 = 0 ∧ ¬ (nm = 1 ∨ nm = 2))) → ((x6 = 1 ∧ 16 ≤ nm) ∨ (x6 = 0 ∧ ¬ 16 ≤ nm)) → (nm = 0 ∨ andI (nTold x) nm = 0) → (nm = 4 ∨ nm = 8 → andI (nTold x) 124 = 0) → L_X10_property_118 X (d + 3) n (zpZ P) ((250 * g + k : Nat) : Int) (i : Int) nm x4 x6 τ := by
    intro x4 x6 h4 h6 h1 h2
    refine b_X10_property_118 hn ⟨fun z => c133 x4 h4 h1 h2 (fun y => ?_), fun z => ?_⟩
    · rcases h6 with u | u
      · omega
      · exact absurd y u.2
    · have h16 : 16 ≤ nm := by
        rcases h6 with u | u
        · exact u.2
        · exact absurd u.1 z
      rw [e29]
      exact ⟨fun y => bad (ms_y4 h16 y), fun y => c133 x4 h4 h1 h2 (fun _ => y)⟩
  have c88 : ∀ x4 x5 x6 : Int, ((x4 = 1 ∧ (nm = 1 ∨ nm = 2)) ∨ (x4 = 0 ∧ ¬ (nm = 1 ∨ nm = 2))) → ((x5 = 1 ∧ (nm = 4 ∨ nm = 8)) ∨ (x5 = 0 ∧ ¬ (nm = 4 ∨ nm = 8))) → ((x6 = 1 ∧ 16 ≤ nm) ∨ (x6 = 0 ∧ ¬ 16 ≤ nm)) → L_X10_property_88 X (d + 3) n (zpZ P) ((250 * g + k : Nat) : Int) (i : Int) nm x4 x5 x6 τ := by
    intro x4 x5 x6 h4 h5 h6
    have c103 : (nm = 0 ∨ andI (nTold x) nm = 0) → L_X10_property_103 X (d + 3) n (zpZ P) ((250 * g + k : Nat) : Int) (i : Int) nm x4 x5 x6 τ := by
      intro h1
      refine b_X10_property_103 hn ⟨fun z => c118 x4 x6 h4 h6 h1 (fun y => ?_), fun z => ?_⟩
      · rcases h5 with u | u
        · omega
        · exact absurd y u.2
      · have h48 : nm = 4 ∨ nm = 8 := by
          rcases h5 with u | u
          · exact u.2
          · exact absurd u.1 z
        rw [e29]
        exact ⟨fun y => bad (ms_y3 (Or.inr h48) y), fun y => c118 x4 x6 h4 h6 h1 (fun _ => y)⟩
    refine b_X10_property_88 hn ⟨fun z => c103 (Or.inl (n0 z)), fun z => ?_⟩
    rw [e29]
    exact ⟨fun y => bad (ms_y1 (fun u => z (by omega)) y), fun y => c103 (Or.inr y)⟩
  have c75 : ∀ x4 x5 : Int, ((x4 = 1 ∧ (nm = 1 ∨ nm = 2)) ∨ (x4 = 0 ∧ ¬ (nm = 1 ∨ nm = 2))) → ((x5 = 1 ∧ (nm = 4 ∨ nm = 8)) ∨ (x5 = 0 ∧ ¬ (nm = 4 ∨ nm = 8))) → L_X10_property_75 X (d + 3) n (zpZ P) ((250 * g + k : Nat) : Int) (i : Int) nm x4 x5 τ := fun x4 x5 h4 h5 => b_X10_property_75 hn ⟨fun z => c88 x4 x5 0 h4 h5 (Or.inr ⟨rfl, n1 z⟩), fun z => c88 x4 x5 1 h4 h5 (Or.inl ⟨rfl, Int.not_lt.mp z⟩)⟩
  have c57 : ∀ x4 : Int, ((x4 = 1 ∧ (nm = 1 ∨ nm = 2)) ∨ (x4 = 0 ∧ ¬ (nm = 1 ∨ nm = 2))) → L_X10_property_57 X (d + 3) n (zpZ P) ((250 * g + k : Nat) : Int) (i : Int) nm x4 τ := fun x4 h4 => b_X10_property_57 hn ⟨fun z => b_X10_property_70 hn (c75 x4 1 h4 (Or.inl ⟨rfl, Or.inl z⟩)), fun z => ⟨fun z2 => c75 x4 0 h4 (Or.inr ⟨rfl, fun u => u.elim z z2⟩), fun z2 => b_X10_property_70 hn (c75 x4 1 h4 (Or.inl ⟨rfl, Or.inr z2⟩))⟩⟩
  exact ⟨fun z => b_X10_property_52 hn (c57 1 (Or.inl ⟨rfl, Or.inl z⟩)), fun z => ⟨fun z2 => c57 0 (Or.inr ⟨rfl, fun u => u.elim z z2⟩), fun z2 => b_X10_property_52 hn (c57 1 (Or.inl ⟨rfl, Or.inr z2⟩))⟩⟩
end ZQ
