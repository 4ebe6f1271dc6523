section ZX
variable {X : ZX} {d n : Nat} {σ : ZSto} {G : Int}
/-- a part of what holds is renewed; the rest is kept -/
theorem Rel.part {σ2 : ZSto} {W : Nat → Nat → Prop} (h : Rel σ G) (hf : Fr W σ σ2) (hw : ∀ a j, W a j → clkD a j ∨ tapeD a j ∨ koD a j) (hO : OthR σ2) : Rel σ2 (G + 60000) := by
  obtain ⟨h1, h2, h3, t, g, m, k, pl, c, T, hGm, hB, hB2, g1, g2⟩ := h
  have ht2 : t = 1 ∨ t = 15 := hGm.1
  have hg := hGm.2.1
  have hf' : Fr (fun a j => a = 71 ∨ a = 72 ∨ a = 101 ∨ a = 102 ∨ a = 103 ∨ a = 30 ∨ a = 88 ∨ (a = 29 ∧ j = 1) ∨ (a = 0 ∧ j = 13) ∨ (a = 73 ∧ (j = 51 ∨ j = 20 ∨ j = 12))) σ σ2 := hf.mono (fun a j y => by have := hw a j y; unfold clkD tapeD koD at this; omega)
  refine ⟨hO, h2.kept hf' (fun a j y => by unfold stpD at y; omega), h3.kept hf' (fun a j y => by omega), t, g, m, k, pl, c, T, hGm.kept hf' (fun a j y => by unfold gmD ctrD mtrD at y; omega), hB.kept hf' (fun a j y => by unfold brdW at y; omega), hB2.kept2 hf' (fun a j y => by unfold brdX at y; omega), by rw [hf'.I (by omega)]; omega, by rw [hf'.I (by omega)]; omega⟩
theorem op_clocks' (hn : 104 ≤ n) (h : Rel σ G) {a b c : Int} (ha : R32 a) (hb : R32 b) (hc : R32 c) : ZkZ X M_X9_clocks (d + 3) n [.ref (zB X + 0), iV a, iV b, iV c] σ (fun v σ1 => ZkZ X M_X10_clocks (d + 1) n [.ref (zB X + 73), iV a, iV b, iV c] σ1 (fun w σ2 => v = w ∧ Rel σ2 (G + 60000))) := by
  obtain ⟨o1, o2, o3, o4, o5⟩ := h.1
  refine (op_clocks hn o1 ha hb hc).mono (fun v σ1 _ k => k.mono ?_)
  rintro w σ2 - ⟨e, r, f⟩
  exact ⟨e, h.part f (fun a j y => Or.inl y) ⟨r, o2.kept f (fun a j y => by unfold tapeD at y; unfold clkD; omega), o3.kept f (fun a j y => by unfold outD at y; unfold clkD; omega), by rw [f.I (by unfold clkD; omega), f.I (by unfold clkD; omega)]; exact o4, o5.kept f (fun a j y => by unfold koD at y; unfold clkD; omega)⟩⟩
theorem op_time' (hn : 104 ≤ n) (h : Rel σ G) {a b : Int} (ha : R32 a) (hb : R32 b) : ZkI X M_X9_time (d + 3) n [.ref (zB X + 0), iV a, iV b] σ (fun v σ1 => ZkI X M_X10_time (d + 1) n [.ref (zB X + 73), iV a, iV b] σ1 (fun w σ2 => v = w ∧ Rel σ2 (G + 60000))) := by
  refine (op_time hn h.1.1 ha hb).mono (fun v σ1 _ k => k.mono ?_)
  rintro w σ2 - ⟨e, rfl⟩
  exact ⟨e, h.mono (by omega)⟩
theorem op_clock' (hn : 104 ≤ n) (h : Rel σ G) {a t : Int} (ha : R32 a) (ht : R32 t) : ZkI X M_X9_clock (d + 3) n [.ref (zB X + 0), iV a, iV t] σ (fun v σ1 => ZkI X M_X10_clock (d + 1) n [.ref (zB X + 73), iV a, iV t] σ1 (fun w σ2 => v = w ∧ Rel σ2 (G + 60000))) := by
  obtain ⟨o1, o2, o3, o4, o5⟩ := h.1
  refine (op_clock hn o1 ha ht).mono (fun v σ1 _ k => k.mono ?_)
  rintro w σ2 - ⟨e, r, f⟩
  exact ⟨e, h.part f (fun a j y => Or.inl y) ⟨r, o2.kept f (fun a j y => by unfold tapeD at y; unfold clkD; omega), o3.kept f (fun a j y => by unfold outD at y; unfold clkD; omega), by rw [f.I (by unfold clkD; omega), f.I (by unfold clkD; omega)]; exact o4, o5.kept f (fun a j y => by unfold koD at y; unfold clkD; omega)⟩⟩
theorem op_feed' (hn : 104 ≤ n) (h : Rel σ G) {x1 x2 x3 x4 x5 : Int} (h1 : R32 x1) (h2 : R32 x2) (h3 : R32 x3) (h4 : R32 x4) (h5 : R32 x5) : ZkI X M_X9_feed (d + 3) n [.ref (zB X + 0), iV x1, iV x2, iV x3, iV x4, iV x5] σ (fun v σ1 => ZkI X M_X10_feed (d + 2) n [.ref (zB X + 73), iV x1, iV x2, iV x3, iV x4, iV x5] σ1 (fun w σ2 => v = w ∧ Rel σ2 (G + 60000))) := by
  obtain ⟨o1, o2, o3, o4, o5⟩ := h.1
  refine (op_feed hn o2 h1 h2 h3 h4 h5).mono (fun v σ1 _ k => k.mono ?_)
  rintro w σ2 - ⟨e, r, f⟩
  exact ⟨e, h.part f (fun a j y => Or.inr (Or.inl y)) ⟨o1.kept f (fun a j y => by unfold clkD at y; unfold tapeD; omega), r, o3.kept f (fun a j y => by unfold outD at y; unfold tapeD; omega), by rw [f.I (by unfold tapeD; omega), f.I (by unfold tapeD; omega)]; exact o4, o5.kept f (fun a j y => by unfold koD at y; unfold tapeD; omega)⟩⟩
theorem op_end' (hn : 104 ≤ n) (h : Rel σ G) {x : Int} (hx : R32 x) : ZkI X M_X9_end (d + 1) n [.ref (zB X + 0), iV x] σ (fun v σ1 => ZkI X M_X10_end (d + 1) n [.ref (zB X + 73), iV x] σ1 (fun w σ2 => v = w ∧ Rel σ2 (G + 60000))) := by
  obtain ⟨o1, o2, o3, o4, o5⟩ := h.1
  refine (op_end hn o2 hx).mono (fun v σ1 _ k => k.mono ?_)
  rintro w σ2 - ⟨e, r, f⟩
  exact ⟨e, h.part f (fun a j y => Or.inr (Or.inl y)) ⟨o1.kept f (fun a j y => by unfold clkD at y; unfold tapeD; omega), r, o3.kept f (fun a j y => by unfold outD at y; unfold tapeD; omega), by rw [f.I (by unfold tapeD; omega), f.I (by unfold tapeD; omega)]; exact o4, o5.kept f (fun a j y => by unfold koD at y; unfold tapeD; omega)⟩⟩
theorem op_ko' (hn : 104 ≤ n) (h : Rel σ G) {x : Int} (hx : R32 x) : ZkI X M_X9_ko (d + 1) n [.ref (zB X + 0), iV x] σ (fun v σ1 => ZkI X M_X10_ko (d + 1) n [.ref (zB X + 73), iV x] σ1 (fun w σ2 => v = w ∧ Rel σ2 (G + 60000))) := by
  obtain ⟨o1, o2, o3, o4, o5⟩ := h.1
  refine (op_ko hn o5.1 hx).mono (fun v σ1 _ k => k.mono ?_)
  rintro w σ2 - ⟨e, rfl | ⟨r, rfl⟩⟩
  · exact ⟨e, h.mono (by omega)⟩
  · have f : Fr koD σ (sI (sI σ 0 13 x) 73 12 x) := (Fr.rf.sI (by unfold koD; omega)).sI (by unfold koD; omega)
    refine ⟨e, h.part f (fun a j y => Or.inr (Or.inr y)) ⟨o1.kept f (fun a j y => by unfold clkD at y; unfold koD; omega), o2.kept f (fun a j y => by unfold tapeD at y; unfold koD; omega), o3.kept f (fun a j y => by unfold outD at y; unfold koD; omega), by rw [f.I (by unfold koD; omega), f.I (by unfold koD; omega)]; exact o4, ?_⟩⟩
    refine ⟨?_, ?_, ?_⟩
    · rw [gI_same, gI_c (by omega), gI_same]
    · rw [gI_c (by omega), gI_same]; omega
    · rw [gI_c (by omega), gI_same]; omega
theorem op_place' (hn : 104 ≤ n) (h : Rel σ G) : ZkI X M_X9_place (d + 1) n [.ref (zB X + 0)] σ (fun v σ1 => ZkI X M_X10_place (d + 1) n [.ref (zB X + 73)] σ1 (fun w σ2 => v = w ∧ Rel σ2 (G + 60000))) := by
  refine (op_place hn h.1.2.2.2.1).mono (fun v σ1 _ k => k.mono ?_)
  rintro w σ2 - ⟨e, rfl⟩
  exact ⟨e, h.mono (by omega)⟩
theorem op_steps' (hn : 104 ≤ n) (h : Rel σ G) {x : Int} (hx : R32 x) : ZkI X M_X9_steps (d + 1) n [.ref (zB X + 0), iV x] σ (fun v σ1 => ZkI X M_X10_steps (d + 1) n [.ref (zB X + 73), iV x] σ1 (fun w σ2 => v = w ∧ Rel σ2 (G + 60000))) := by
  refine (op_steps hn h.2.1 hx).mono (fun v σ1 _ k => k.mono ?_)
  rintro w σ2 - ⟨e, rfl⟩
  exact ⟨e, h.mono (by omega)⟩
theorem op_octet' (hn : 104 ≤ n) (h : Rel σ G) {x : Int} (hx : R32 x) : ZkI X M_X9_octet (d + 2) n [.ref (zB X + 0), iV x] σ (fun v σ1 => ZkI X M_X10_octet (d + 1) n [.ref (zB X + 73), iV x] σ1 (fun w σ2 => v = w ∧ Rel σ2 (G + 60000))) := by
  refine (op_octet hn h.1.2.2.1 hx).mono (fun v σ1 _ k => k.mono ?_)
  rintro w σ2 - ⟨e, rfl⟩
  exact ⟨e, h.mono (by omega)⟩
end ZX
