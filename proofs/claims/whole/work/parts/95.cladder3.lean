def huB (l : Nat) : Bool := decide (l % 2 = 0)
theorem huB_t {l : Nat} (h : l % 2 = 0) : huB l = true := decide_eq_true h
theorem huB_f {l : Nat} (h : ¬ l % 2 = 0) : huB l = false := decide_eq_false h
theorem huB_s (l : Nat) : huB (l + 1) = !(huB l) := by
  by_cases h : l % 2 = 0
  · rw [huB_t h, huB_f (by omega)]; rfl
  · rw [huB_f h, huB_t (by omega)]; rfl
def entW (l a i : Nat) : Prop := brdW 41 a ∨ (a = 61 ∧ i = 8) ∨ (a = 62 ∧ 3 * l ≤ i ∧ i < 3 * l + 3) ∨ ((63 ≤ a ∧ a ≤ 66) ∧ i = l)
section ZD
variable {X : ZX} {d n : Nat} {σ : ZSto}
theorem sp_enterLevel (hn : 73 ≤ n) {l m tg : Nat} {bd : Nat → Int} {c : Int} (hl : l ≤ 600) (h6 : gI σ 61 6 = (tg : Int)) (h7 : gI σ 61 7 = c) (hc : c = 1 ∨ c = 2) (hB : BOk σ 41 m bd) (ht : bd tg = c) (htm : tg < m * m) (h10 : gI σ 41 10 < 1999990000) :
    ZkV X M_X3_enterLevel (d + 4) n [.ref (zB X + 61), iV (l : Int)] σ (fun σ' => Fr (entW l) σ σ' ∧ BOk σ' 41 m bd ∧ gI σ' 61 8 = (l : Int) ∧ gI σ' 41 10 ≤ gI σ 41 10 + 82 ∧ (∀ w, w < 3 → gL σ' 62 (3 * l + w) = lN (pkW bd (m * m) w)) ∧ (∀ q, q < 81 → (MvB σ' l q ↔ mvS m tg c (huB l) bd q)) ∧ gI σ' 65 l = mvL m tg c (huB l) bd ∧ gI σ' 66 l = -1) := by
  have hN := sq_le hB.1.2.1
  have tl : ((l : Int)).toNat = l := by omega
  refine w_X3_enterLevel hn ⟨by omega, by omega⟩ ⟨fun q => by omega, fun _ => ⟨fun _ => ?_, fun q => by omega⟩⟩
  have f0 : Fr (entW l) σ (sI σ 61 8 (l : Int)) := Fr.rf.sI (Or.inr (Or.inl ⟨rfl, rfl⟩))
  have B0 : BOk (sI σ 61 8 (l : Int)) 41 m bd := hB.kept (W := fun a i => a = 61) (Fr.rf.sI rfl) (fun a i q => by unfold brdW at q; omega)
  rw [show (l : Int) * 3 = ((3 * l : Nat) : Int) by omega]
  refine (sp_store hn (Or.inr rfl) (show 62 < n by omega) sh_62 B0.1 B0.2.1 B0.2.2.1 (from_ := 3 * l) (by omega)).mono ?_
  rintro σ1 ⟨f1, w1⟩
  have h81 : gI σ1 61 8 = (l : Int) := by rw [f1.I (by omega)]; exact gI_same _ _ _ _
  have h61 : gI σ1 61 6 = (tg : Int) := by rw [f1.I (by omega), gI_f (by omega)]; exact h6
  rw [h81, tl, h61]
  refine ⟨by omega, ?_⟩
  have B1 := B0.kept f1 (fun a i q => by unfold brdW at q; omega)
  have f2 : Fr (fun a i => (63 ≤ a ∧ a ≤ 66) ∧ i = l) σ1 (sI (sI (sL (sL σ1 63 l (0 : Int64)) 64 l (0 : Int64)) 65 l (-1)) 66 l (-1)) := ((((Fr.rf.sL ⟨by omega, rfl⟩).sL ⟨by omega, rfl⟩).sI ⟨by omega, rfl⟩).sI ⟨by omega, rfl⟩)
  have z2 : ∀ q, q < 81 → ¬ MvB (sI (sI (sL (sL σ1 63 l (0 : Int64)) 64 l (0 : Int64)) 65 l (-1)) 66 l (-1)) l q := by
    intro q hq y
    unfold MvB at y
    rw [gL_sI, gL_sI, gL_sI, gL_sI, gL_c (by omega), gL_same, gL_same, lB_0, lB_0] at y
    rcases y with y | y
    · exact absurd y.2 (by simp)
    · exact absurd y.2 (by simp)
  have v65 : gI (sI (sI (sL (sL σ1 63 l (0 : Int64)) 64 l (0 : Int64)) 65 l (-1)) 66 l (-1)) 65 l = -1 := by rw [gI_c (by omega), gI_same]
  have v66 : gI (sI (sI (sL (sL σ1 63 l (0 : Int64)) 64 l (0 : Int64)) 65 l (-1)) 66 l (-1)) 66 l = -1 := gI_same _ _ _ _
  generalize (sI (sI (sL (sL σ1 63 l (0 : Int64)) 64 l (0 : Int64)) 65 l (-1)) 66 l (-1)) = σ2 at f2 z2 v65 v66
  have B2 := B1.kept f2 (fun a i q => by unfold brdW at q; omega)
  have k10 : gI σ2 41 10 = gI σ 41 10 := by rw [f2.I (by omega), f1.I (by omega), gI_f (by omega)]
  have h82 : gI σ2 61 8 = (l : Int) := by rw [f2.I (by omega)]; exact h81
  have h72 : gI σ2 61 7 = c := by rw [f2.I (by omega), f1.I (by omega), gI_f (by omega)]; exact h7
  have F2 : Fr (entW l) σ σ2 := (f0.tr (f1.mono (fun a i q => by unfold entW; omega))).tr (f2.mono (fun a i q => by unfold entW; omega))
  have w2 : ∀ w, w < 3 → gL σ2 62 (3 * l + w) = lN (pkW bd (m * m) w) := fun w hw => by rw [f2.L (by omega)]; exact w1 w hw
  refine (sp_gatherChain hn (Or.inr rfl) B2 htm (by omega) (by omega)).mono ?_
  intro σ3 hG
  have B3 := hG.ok B2
  have h83 : gI σ3 61 8 = (l : Int) := by rw [hG.1.I (by unfold gatW; omega)]; exact h82
  have h73 : gI σ3 61 7 = c := by rw [hG.1.I (by unfold gatW; omega)]; exact h72
  have F3 : Fr (entW l) σ σ3 := F2.tr (hG.1.mono (fun a i q => Or.inl (gat_brd q)))
  have z3 : ∀ q, q < 81 → ¬ MvB σ3 l q := fun q hq y => z2 q hq ((MvB.congr (hG.1.L (by unfold gatW; omega)) (hG.1.L (by unfold gatW; omega))).mp y)
  have v653 : gI σ3 65 l = -1 := by rw [hG.1.I (by unfold gatW; omega)]; exact v65
  have v663 : gI σ3 66 l = -1 := by rw [hG.1.I (by unfold gatW; omega)]; exact v66
  have w3 : ∀ w, w < 3 → gL σ3 62 (3 * l + w) = lN (pkW bd (m * m) w) := fun w hw => by rw [hG.1.L (by unfold gatW; omega)]; exact w2 w hw
  have g3 := hG.2.1
  refine (sp_isHunter hn h83 hl).mono ?_
  rintro v _ - ⟨rfl, ⟨rfl, hv⟩ | ⟨rfl, hv⟩⟩
  · refine ⟨fun q => by omega, fun _ => (sp_addLiberties hn h83 hl B3 hG (by omega) htm (by omega) z3).mono ?_⟩
    rintro σ4 ⟨f4, b4⟩
    refine ⟨F3.tr (f4.mono (fun a i q => by unfold entW; omega)), B3.kept f4 (fun a i q => by unfold brdW at q; omega), by rw [f4.I (by omega)]; exact h83, by rw [f4.I (by omega)]; omega, fun w hw => by rw [f4.L (by omega)]; exact w3 w hw, fun q hq => ?_, ?_, by rw [f4.I (by omega)]; exact v663⟩
    · rw [b4 q hq, huB_t hv]; exact Iff.rfl
    · rw [f4.I (by omega), v653, huB_t hv]; rfl
  · refine ⟨fun _ => (sp_addRescues hn h83 hl h73 hc B3 B2.2.2.2 hG ht htm (by omega) z3).mono ?_, fun q => by omega⟩
    rintro σ4 ⟨f4, B4, g4, b4, l4⟩
    refine ⟨F3.tr (f4.mono (fun a i q => by unfold gatW at q; unfold entW brdW; omega)), B4, by rw [f4.I (by unfold gatW; omega)]; exact h83, by omega, fun w hw => by rw [f4.L (by unfold gatW; omega)]; exact w3 w hw, fun q hq => ?_, ?_, by rw [f4.I (by unfold gatW; omega)]; exact v663⟩
    · rw [b4 q hq, huB_f hv]; exact Iff.rfl
    · rw [l4, huB_f hv]; rfl
/-- what a level's word rows hold -/
def LdW (σ : ZSto) (m l : Nat) (bd : Nat → Int) : Prop := ∀ w, w < 3 → gL σ 62 (3 * l + w) = lN (pkW bd (m * m) w)
/-- the board ahead of the level -/
def PvR (σ : ZSto) (m l : Nat) (pv : Option (Nat → Int)) : Prop := (l = 0 ∧ pv = none) ∨ ∃ j pb, l = j + 1 ∧ pv = some pb ∧ BCon m pb ∧ LdW σ m j pb
theorem att_fin (hn : 73 ≤ n) {l m tg p : Nat} {bd : Nat → Int} {c : Int} {pv : Option (Nat → Int)} {σ0 : ZSto} {g : Int} (hl : l ≤ 600) (h6 : gI σ 61 6 = (tg : Int)) (h7 : gI σ 61 7 = c) (h8 : gI σ 61 8 = (l : Int)) (hc : c = 1 ∨ c = 2) (htm : tg < m * m) (hf : Fr (fun a i => brdW 41 a) σ0 σ) (hB : BOk σ 41 m (putB m bd p (mcl c (huB l)))) (hg : gI σ 41 10 ≤ g + 5) (hg9 : g < 1999990000) (hlib : ∃ x, Lib m (putB m bd p (mcl c (huB l))) p x) (hnb : ¬ Back m pv (putB m bd p (mcl c (huB l)))) :
    L_X3_attempt_89 X (d + 2) n (zpI (fun v σ' => Fr (fun a i => brdW 41 a) σ0 σ' ∧ v = attA m tg c (huB l) bd pv p ∧ (∃ b, BOk σ' 41 m b) ∧ (v = 2 → BOk σ' 41 m (putB m bd p (mcl c (huB l))) ∧ putB m bd p (mcl c (huB l)) tg = c) ∧ gI σ' 41 10 ≤ g + 6)) σ := by
  have hN := sq_le hB.1.2.1
  have e0 : attA m tg c (huB l) bd pv p = iteP (putB m bd p (mcl c (huB l)) tg ≠ c) 1 (if huB l = true then (if 1 < cnt (Lib m (putB m bd p (mcl c (huB l))) tg) (m * m) then 0 else 2) else (if 2 < cnt (Lib m (putB m bd p (mcl c (huB l))) tg) (m * m) then 1 else if cnt (Lib m (putB m bd p (mcl c (huB l))) tg) (m * m) = 2 then 2 else 0)) := by
    unfold attA
    rw [iteP_f (fun y => by obtain ⟨x, hx⟩ := hlib; exact y x hx), iteP_f hnb]
  rw [e0]
  generalize putB m bd p (mcl c (huB l)) = b' at *
  refine b_X3_attempt_89 hn ?_
  rw [h6]
  refine (sp_contentOf hn (Or.inr rfl) hB.1 hB.2.2.1 ⟨by omega, by omega⟩).mono ?_
  rintro v _ - ⟨rfl, hv⟩
  rw [if_pos (by omega), show ((tg : Int)).toNat = tg by omega] at hv
  subst hv
  rw [h7, h6]
  refine ⟨fun z => (sp_gatherChain hn (Or.inr rfl) hB htm (by omega) (by omega)).mono ?_, fun z => ⟨hf, by rw [iteP_t z], ⟨_, hB⟩, fun u => by omega, by omega⟩⟩
  intro σ1 hG
  have F1 : Fr (fun a i => brdW 41 a) σ0 σ1 := hf.tr (hG.1.mono (fun a i q => gat_brd q))
  have B1 := hG.ok hB
  have k10 := hG.2.1
  refine (sp_liberties hn (Or.inr rfl)).mono ?_
  rintro v _ - ⟨rfl, hv⟩
  rw [hG.libs (by omega)] at hv
  rw [iteP_f (fun y => y z)]
  refine (sp_isHunter hn (by rw [hG.1.I (by unfold gatW; omega)]; exact h8) hl).mono ?_
  rintro v2 _ - ⟨rfl, ⟨rfl, hv2⟩ | ⟨rfl, hv2⟩⟩
  · rw [huB_t hv2, if_pos rfl]
    refine ⟨fun q => by omega, fun _ => ⟨fun q => ?_, fun q => ?_⟩⟩
    · rw [if_neg (by omega)]; exact ⟨F1, rfl, ⟨_, B1⟩, fun _ => ⟨B1, z⟩, by omega⟩
    · rw [if_pos (by omega)]; exact ⟨F1, rfl, ⟨_, B1⟩, fun u => by omega, by omega⟩
  · rw [huB_f hv2, if_neg (by simp)]
    refine ⟨fun _ => ⟨fun q => ⟨fun q2 => ?_, fun q2 => ?_⟩, fun q => ?_⟩, fun q => by omega⟩
    · rw [if_neg (by omega), if_neg (by omega)]; exact ⟨F1, rfl, ⟨_, B1⟩, fun u => by omega, by omega⟩
    · rw [if_neg (by omega), if_pos (by omega)]; exact ⟨F1, rfl, ⟨_, B1⟩, fun _ => ⟨B1, z⟩, by omega⟩
    · rw [if_pos (by omega)]; exact ⟨F1, rfl, ⟨_, B1⟩, fun u => by omega, by omega⟩
theorem sp_attempt (hn : 73 ≤ n) {l m tg p : Nat} {bd : Nat → Int} {c : Int} {pv : Option (Nat → Int)} (hl : l ≤ 600) (h6 : gI σ 61 6 = (tg : Int)) (h7 : gI σ 61 7 = c) (h8 : gI σ 61 8 = (l : Int)) (hc : c = 1 ∨ c = 2) (htm : tg < m * m) (hp : p < m * m) (hB : ∃ b, BOk σ 41 m b) (hbd : BCon m bd) (hw : LdW σ m l bd) (hpv : PvR σ m l pv) (hg9 : gI σ 41 10 < 1999990000) :
    ZkI X M_X3_attempt (d + 4) n [.ref (zB X + 61), iV (p : Int)] σ (fun v σ' => Fr (fun a i => brdW 41 a) σ σ' ∧ v = attA m tg c (huB l) bd pv p ∧ (∃ b, BOk σ' 41 m b) ∧ (v = 2 → BOk σ' 41 m (putB m bd p (mcl c (huB l))) ∧ putB m bd p (mcl c (huB l)) tg = c) ∧ gI σ' 41 10 ≤ gI σ 41 10 + 6) := by
  obtain ⟨b0, hB⟩ := hB
  have hN := sq_le hB.1.2.1
  refine w_X3_attempt hn ⟨by omega, by omega⟩ ?_
  rw [h8, show (l : Int) * 3 = ((3 * l : Nat) : Int) by omega]
  refine (sp_load hn (Or.inr rfl) (show 62 < n by omega) sh_62 hB.1 (by omega) hbd (from_ := 3 * l) (by omega) hw).mono ?_
  rintro σ1 ⟨f1, s1⟩
  have B1 : BOk σ1 41 m bd := by
    obtain ⟨⟨a1, a2, a3, a4, a5⟩, -, -, a6, a7⟩ := hB
    exact ⟨⟨a1, a2, by rw [f1.I (by omega)]; exact a3, by rw [f1.I (by omega)]; exact a4, fun p hp dd hd => by rw [f1.I (by omega)]; exact a5 p hp dd hd⟩, hbd, s1, by rw [f1.I (by omega)]; exact a6, fun q => by rw [f1.I (by omega), f1.I (by omega), f1.I (by omega)]; exact a7 q⟩
  have F1 : Fr (fun a i => brdW 41 a) σ σ1 := f1.mono (fun a i q => by unfold brdW; omega)
  have g1 : gI σ1 41 10 = gI σ 41 10 := f1.I (by omega)
  have h71 : gI σ1 61 7 = c := by rw [f1.I (by omega)]; exact h7
  -- behind the put
  have rest : ∀ (σ2 : ZSto) (v : Int), Fr (fun a i => brdW 41 a) σ1 σ2 ∧ BOk σ2 41 m (putB m bd p (mcl c (huB l))) ∧ gI σ2 41 12 = (cnt (Dies m bd p (mcl c (huB l))) (m * m) : Nat) ∧ gI σ2 41 10 ≤ gI σ1 41 10 + 5 ∧ ((v = 1 ∧ ∃ x, Lib m (putB m bd p (mcl c (huB l))) p x) ∨ (v = 0 ∧ ∀ x, ¬ Lib m (putB m bd p (mcl c (huB l))) p x)) → 
      (¬ v = 0 → ZkV X M_X0_pack (d + 3) n [.ref (zB X + 41)] σ2 (fun σ23 => (gI σ23 61 8 ≤ 0 → L_X3_attempt_89 X (d + 3) n (zpI (fun v σ' => Fr (fun a i => brdW 41 a) σ σ' ∧ v = attA m tg c (huB l) bd pv p ∧ (∃ b, BOk σ' 41 m b) ∧ (v = 2 → BOk σ' 41 m (putB m bd p (mcl c (huB l))) ∧ putB m bd p (mcl c (huB l)) tg = c) ∧ gI σ' 41 10 ≤ gI σ 41 10 + 6)) σ23) ∧ (¬ (gI σ23 61 8 ≤ 0) → ZkZ X M_X0_packedAs (d + 3) n [.ref (zB X + 41), .ref (zB X + 62), iV (((gI σ23 61 8) - 1) * 3)] σ23 (fun v31 σ32 => (v31 = 0 → L_X3_attempt_89 X (d + 3) n (zpI (fun v σ' => Fr (fun a i => brdW 41 a) σ σ' ∧ v = attA m tg c (huB l) bd pv p ∧ (∃ b, BOk σ' 41 m b) ∧ (v = 2 → BOk σ' 41 m (putB m bd p (mcl c (huB l))) ∧ putB m bd p (mcl c (huB l)) tg = c) ∧ gI σ' 41 10 ≤ gI σ 41 10 + 6)) σ32) ∧ (¬ (v31 = 0) → (Fr (fun a i => brdW 41 a) σ σ32 ∧ 0 = attA m tg c (huB l) bd pv p ∧ (∃ b, BOk σ32 41 m b) ∧ ((0 : Int) = 2 → BOk σ32 41 m (putB m bd p (mcl c (huB l))) ∧ putB m bd p (mcl c (huB l)) tg = c) ∧ gI σ32 41 10 ≤ gI σ 41 10 + 6)))))) ∧ 
      (v = 0 → (Fr (fun a i => brdW 41 a) σ σ2 ∧ 0 = attA m tg c (huB l) bd pv p ∧ (∃ b, BOk σ2 41 m b) ∧ ((0 : Int) = 2 → BOk σ2 41 m (putB m bd p (mcl c (huB l))) ∧ putB m bd p (mcl c (huB l)) tg = c) ∧ gI σ2 41 10 ≤ gI σ 41 10 + 6)) := by
    rintro σ2 v ⟨f2, B2, -, g2, hv⟩
    have F2 := F1.tr f2
    refine ⟨fun z => (sp_pack hn (Or.inr rfl) B2.1 B2.2.1 B2.2.2.1).mono ?_, fun z => ⟨F2, ?_, ⟨_, B2⟩, fun u => by omega, by omega⟩⟩
    · rintro σ3 ⟨f3, w3⟩
      have hlib : ∃ x, Lib m (putB m bd p (mcl c (huB l))) p x := by
        rcases hv with u | u
        · exact u.2
        · exact absurd u.1 z
      have F3 : Fr (fun a i => brdW 41 a) σ σ3 := F2.tr (f3.mono (fun a i q => by unfold brdW; omega))
      have B3 : BOk σ3 41 m (putB m bd p (mcl c (huB l))) := by
        obtain ⟨⟨a1, a2, a3, a4, a5⟩, a8, a9, a6, a7⟩ := B2
        exact ⟨⟨a1, a2, by rw [f3.I (by omega)]; exact a3, by rw [f3.I (by omega)]; exact a4, fun p hp dd hd => by rw [f3.I (by omega)]; exact a5 p hp dd hd⟩, a8, fun q hq => by rw [f3.I (by omega)]; exact a9 q hq, by rw [f3.I (by omega)]; exact a6, fun q => by rw [f3.I (by omega), f3.I (by omega), f3.I (by omega)]; exact a7 q⟩
      have h63 : gI σ3 61 6 = (tg : Int) := by rw [F3.I (by unfold brdW; omega)]; exact h6
      have h73 : gI σ3 61 7 = c := by rw [F3.I (by unfold brdW; omega)]; exact h7
      have h83 : gI σ3 61 8 = (l : Int) := by rw [F3.I (by unfold brdW; omega)]; exact h8
      have g3 : gI σ3 41 10 ≤ gI σ 41 10 + 5 := by rw [f3.I (by omega)]; omega
      rw [h83]
      refine ⟨fun q => ?_, fun q => ?_⟩
      · have l0 : l = 0 := by omega
        refine att_fin hn hl h63 h73 h83 hc htm F3 B3 g3 hg9 hlib (fun y => ?_)
        obtain ⟨b, y1, _⟩ := y
        rcases hpv with u | ⟨j, pb, u, _⟩
        · rw [u.2] at y1; cases y1
        · omega
      · rcases hpv with u | ⟨j, pb, u1, u2, u3, u4⟩
        · omega
        rw [show ((l : Int) - 1) * 3 = ((3 * j : Nat) : Int) by omega]
        refine (sp_packedAs hn (Or.inr rfl) (show 62 < n by omega) sh_62 B3.1.2.1 u3 B3.2.1 (from_ := 3 * j) (by omega) (fun w hw => by rw [F3.L (by unfold brdW; omega)]; exact u4 w hw) w3).mono ?_
        rintro v2 _ - ⟨rfl, hv2⟩
        refine ⟨fun z2 => att_fin hn hl h63 h73 h83 hc htm F3 B3 g3 hg9 hlib (fun y => ?_), fun z2 => ⟨F3, ?_, ⟨_, B3⟩, fun u => by omega, by omega⟩⟩
        · obtain ⟨b, y1, y2⟩ := y
          rw [u2] at y1
          cases y1
          rcases hv2 with w | w
          · omega
          · exact w.2 y2
        · unfold attA
          rw [iteP_f (fun y => by obtain ⟨x, hx⟩ := hlib; exact y x hx), iteP_t]
          rcases hv2 with w | w
          · exact ⟨pb, u2, w.2⟩
          · exact absurd w.1 z2
    · unfold attA
      rw [iteP_t]
      rcases hv with u | u
      · omega
      · exact u.2
  refine (sp_isHunter hn (by rw [f1.I (by omega)]; exact h8) hl).mono ?_
  rintro v _ - ⟨rfl, ⟨rfl, hv⟩ | ⟨rfl, hv⟩⟩
  · refine ⟨fun q => by omega, fun _ => ?_⟩
    rw [h71]
    refine (sp_otherColour hn hc).mono ?_
    rintro v2 _ - ⟨rfl, e2⟩
    have em : v2 = mcl c (huB l) := by rw [e2, huB_t hv]; rfl
    rw [em]
    refine (sp_put hn (Or.inr rfl) B1 (mcl_r hc) hp (by omega)).mono ?_
    intro v3 σ2 _ h2
    exact rest σ2 v3 h2
  · refine ⟨fun _ => ?_, fun q => by omega⟩
    rw [h71]
    have em : c = mcl c (huB l) := by rw [huB_f hv]; rfl
    have := (sp_put (X := X) (d := d) (σ := σ1) hn (Or.inr rfl) B1 (c := mcl c (huB l)) (mcl_r hc) hp (by omega)).mono (fun v3 σ2 _ h2 => rest σ2 v3 h2)
    rw [← em] at this
    rw [← em]
    exact this
end ZD
