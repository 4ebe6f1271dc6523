/-! ===== the stores that the constructors make ===== -/
def ZI (σ : ZSto) : Prop := (∀ a i, R32 (gI σ a i)) ∧ (∀ a i ty len, SH a = some (.inl (ty, len)) → zFitI ty (gI σ a i))
theorem ZI.sI {σ : ZSto} {a i ci : Nat} {x : Int} (h : ZI σ) (hs : SH a = some (.inr ci)) (hr : R32 x) : ZI (sI σ a i x) := by
  refine ⟨fun b j => ?_, fun b j ty len q => ?_⟩
  · rw [gI_if]; split
    · exact hr
    · exact h.1 b j
  · rw [gI_if]; split
    next y => rw [y.1, hs] at q; cases q
    next => exact h.2 b j ty len q
theorem ZI.sP {σ : ZSto} {a i : Nat} {x : Option Nat} (h : ZI σ) : ZI (sP σ a i x) := h
theorem zRef_big {o j : Nat} (h : 52 ≤ j) : zRef o j = none := by
  unfold zRef
  split
  · rw [if_neg (by omega)]
  · rw [if_neg (by omega)]
  · rw [if_neg (by omega)]
  · split <;> first | omega | rfl
  · split <;> first | omega | rfl
  · rw [if_neg (by omega)]
  · split <;> first | omega | rfl
  · split <;> first | omega | rfl
  · split <;> first | omega | rfl
  · split <;> first | omega | rfl
  · rfl
theorem bb_7_1 {n : Nat} {σ : ZSto} (hn : 2 ≤ n) (b : Blk n σ) : Blk n (U_7_1 σ) := by
  unfold U_7_1
  refine Blk.sI ?_ (by omega)
  refine Blk.sI ?_ (by omega)
  refine Blk.sI ?_ (by omega)
  refine Blk.sI ?_ (by omega)
  refine Blk.sP ?_ (by omega)
  refine Blk.sP ?_ (by omega)
  refine Blk.sP ?_ (by omega)
  refine Blk.sP ?_ (by omega)
  refine Blk.sP ?_ (by omega)
  refine Blk.sP ?_ (by omega)
  refine Blk.sP ?_ (by omega)
  refine Blk.sP ?_ (by omega)
  refine Blk.sP ?_ (by omega)
  refine Blk.sP ?_ (by omega)
  refine Blk.sP ?_ (by omega)
  refine Blk.sP ?_ (by omega)
  refine Blk.sP ?_ (by omega)
  exact b
theorem zi_7_1 {σ : ZSto} (h : ZI σ) : ZI (U_7_1 σ) := by
  unfold U_7_1
  refine ZI.sI ?_ sh_1 (r32c rfl)
  refine ZI.sI ?_ sh_1 (r32c rfl)
  refine ZI.sI ?_ sh_1 (r32c rfl)
  refine ZI.sI ?_ sh_1 (r32c rfl)
  refine ZI.sP ?_
  refine ZI.sP ?_
  refine ZI.sP ?_
  refine ZI.sP ?_
  refine ZI.sP ?_
  refine ZI.sP ?_
  refine ZI.sP ?_
  refine ZI.sP ?_
  refine ZI.sP ?_
  refine ZI.sP ?_
  refine ZI.sP ?_
  refine ZI.sP ?_
  refine ZI.sP ?_
  exact h
theorem bb_7_15 {n : Nat} {σ : ZSto} (hn : 16 ≤ n) (b : Blk n σ) : Blk n (U_7_15 σ) := by
  unfold U_7_15
  refine Blk.sI ?_ (by omega)
  refine Blk.sI ?_ (by omega)
  refine Blk.sI ?_ (by omega)
  refine Blk.sI ?_ (by omega)
  refine Blk.sP ?_ (by omega)
  refine Blk.sP ?_ (by omega)
  refine Blk.sP ?_ (by omega)
  refine Blk.sP ?_ (by omega)
  refine Blk.sP ?_ (by omega)
  refine Blk.sP ?_ (by omega)
  refine Blk.sP ?_ (by omega)
  refine Blk.sP ?_ (by omega)
  refine Blk.sP ?_ (by omega)
  refine Blk.sP ?_ (by omega)
  refine Blk.sP ?_ (by omega)
  refine Blk.sP ?_ (by omega)
  refine Blk.sP ?_ (by omega)
  exact b
theorem zi_7_15 {σ : ZSto} (h : ZI σ) : ZI (U_7_15 σ) := by
  unfold U_7_15
  refine ZI.sI ?_ sh_15 (r32c rfl)
  refine ZI.sI ?_ sh_15 (r32c rfl)
  refine ZI.sI ?_ sh_15 (r32c rfl)
  refine ZI.sI ?_ sh_15 (r32c rfl)
  refine ZI.sP ?_
  refine ZI.sP ?_
  refine ZI.sP ?_
  refine ZI.sP ?_
  refine ZI.sP ?_
  refine ZI.sP ?_
  refine ZI.sP ?_
  refine ZI.sP ?_
  refine ZI.sP ?_
  refine ZI.sP ?_
  refine ZI.sP ?_
  refine ZI.sP ?_
  refine ZI.sP ?_
  exact h
theorem bb_1_29 {n : Nat} {σ : ZSto} (hn : 30 ≤ n) (b : Blk n σ) : Blk n (U_1_29 σ) := by
  unfold U_1_29
  refine Blk.sP ?_ (by omega)
  refine Blk.sI ?_ (by omega)
  exact b
theorem zi_1_29 {σ : ZSto} (h : ZI σ) : ZI (U_1_29 σ) := by
  unfold U_1_29
  refine ZI.sP ?_
  refine ZI.sI ?_ sh_29 (r32c rfl)
  exact h
theorem bb_1_31 {n : Nat} {σ : ZSto} (hn : 32 ≤ n) (b : Blk n σ) : Blk n (U_1_31 σ) := by
  unfold U_1_31
  refine Blk.sP ?_ (by omega)
  refine Blk.sI ?_ (by omega)
  exact b
theorem zi_1_31 {σ : ZSto} (h : ZI σ) : ZI (U_1_31 σ) := by
  unfold U_1_31
  refine ZI.sP ?_
  refine ZI.sI ?_ sh_31 (r32c rfl)
  exact h
theorem bb_0_33 {n : Nat} {σ : ZSto} (hn : 34 ≤ n) (b : Blk n σ) : Blk n (U_0_33 σ) := by
  unfold U_0_33
  refine Blk.sI ?_ (by omega)
  refine Blk.sI ?_ (by omega)
  refine Blk.sI ?_ (by omega)
  refine Blk.sI ?_ (by omega)
  refine Blk.sI ?_ (by omega)
  refine Blk.sI ?_ (by omega)
  refine Blk.sP ?_ (by omega)
  refine Blk.sP ?_ (by omega)
  refine Blk.sP ?_ (by omega)
  refine Blk.sP ?_ (by omega)
  refine Blk.sP ?_ (by omega)
  refine Blk.sP ?_ (by omega)
  refine Blk.sP ?_ (by omega)
  exact b
theorem zi_0_33 {σ : ZSto} (h : ZI σ) : ZI (U_0_33 σ) := by
  unfold U_0_33
  refine ZI.sI ?_ sh_33 (r32c rfl)
  refine ZI.sI ?_ sh_33 (r32c rfl)
  refine ZI.sI ?_ sh_33 (r32c rfl)
  refine ZI.sI ?_ sh_33 (r32c rfl)
  refine ZI.sI ?_ sh_33 (r32c rfl)
  refine ZI.sI ?_ sh_33 (r32c rfl)
  refine ZI.sP ?_
  refine ZI.sP ?_
  refine ZI.sP ?_
  refine ZI.sP ?_
  refine ZI.sP ?_
  refine ZI.sP ?_
  refine ZI.sP ?_
  exact h
theorem bb_0_41 {n : Nat} {σ : ZSto} (hn : 42 ≤ n) (b : Blk n σ) : Blk n (U_0_41 σ) := by
  unfold U_0_41
  refine Blk.sI ?_ (by omega)
  refine Blk.sI ?_ (by omega)
  refine Blk.sI ?_ (by omega)
  refine Blk.sI ?_ (by omega)
  refine Blk.sI ?_ (by omega)
  refine Blk.sI ?_ (by omega)
  refine Blk.sP ?_ (by omega)
  refine Blk.sP ?_ (by omega)
  refine Blk.sP ?_ (by omega)
  refine Blk.sP ?_ (by omega)
  refine Blk.sP ?_ (by omega)
  refine Blk.sP ?_ (by omega)
  refine Blk.sP ?_ (by omega)
  exact b
theorem zi_0_41 {σ : ZSto} (h : ZI σ) : ZI (U_0_41 σ) := by
  unfold U_0_41
  refine ZI.sI ?_ sh_41 (r32c rfl)
  refine ZI.sI ?_ sh_41 (r32c rfl)
  refine ZI.sI ?_ sh_41 (r32c rfl)
  refine ZI.sI ?_ sh_41 (r32c rfl)
  refine ZI.sI ?_ sh_41 (r32c rfl)
  refine ZI.sI ?_ sh_41 (r32c rfl)
  refine ZI.sP ?_
  refine ZI.sP ?_
  refine ZI.sP ?_
  refine ZI.sP ?_
  refine ZI.sP ?_
  refine ZI.sP ?_
  refine ZI.sP ?_
  exact h
theorem bb_5_49 {n : Nat} {σ : ZSto} (hn : 50 ≤ n) (b : Blk n σ) : Blk n (U_5_49 σ) := by
  unfold U_5_49
  refine Blk.sP ?_ (by omega)
  refine Blk.sP ?_ (by omega)
  refine Blk.sP ?_ (by omega)
  refine Blk.sI ?_ (by omega)
  refine Blk.sI ?_ (by omega)
  refine Blk.sI ?_ (by omega)
  refine Blk.sI ?_ (by omega)
  refine Blk.sI ?_ (by omega)
  refine Blk.sI ?_ (by omega)
  refine Blk.sI ?_ (by omega)
  refine Blk.sI ?_ (by omega)
  refine Blk.sI ?_ (by omega)
  refine Blk.sI ?_ (by omega)
  refine Blk.sI ?_ (by omega)
  refine Blk.sP ?_ (by omega)
  refine Blk.sP ?_ (by omega)
  exact b
theorem zi_5_49 {σ : ZSto} (h : ZI σ) : ZI (U_5_49 σ) := by
  unfold U_5_49
  refine ZI.sP ?_
  refine ZI.sP ?_
  refine ZI.sP ?_
  refine ZI.sI ?_ sh_49 (r32c rfl)
  refine ZI.sI ?_ sh_49 (r32c rfl)
  refine ZI.sI ?_ sh_49 (r32c rfl)
  refine ZI.sI ?_ sh_49 (r32c rfl)
  refine ZI.sI ?_ sh_49 (r32c rfl)
  refine ZI.sI ?_ sh_49 (r32c rfl)
  refine ZI.sI ?_ sh_49 (r32c rfl)
  refine ZI.sI ?_ sh_49 (r32c rfl)
  refine ZI.sI ?_ sh_49 (r32c rfl)
  refine ZI.sI ?_ sh_49 (r32c rfl)
  refine ZI.sI ?_ sh_49 (r32c rfl)
  refine ZI.sP ?_
  refine ZI.sP ?_
  exact h
theorem bb_8_52 {n : Nat} {σ : ZSto} (hn : 53 ≤ n) (b : Blk n σ) : Blk n (U_8_52 σ) := by
  unfold U_8_52
  refine Blk.sP ?_ (by omega)
  exact b
theorem zi_8_52 {σ : ZSto} (h : ZI σ) : ZI (U_8_52 σ) := by
  unfold U_8_52
  refine ZI.sP ?_
  exact h
theorem bb_4_53 {n : Nat} {σ : ZSto} (hn : 54 ≤ n) (b : Blk n σ) : Blk n (U_4_53 σ) := by
  unfold U_4_53
  refine Blk.sP ?_ (by omega)
  refine Blk.sI ?_ (by omega)
  refine Blk.sI ?_ (by omega)
  refine Blk.sP ?_ (by omega)
  refine Blk.sP ?_ (by omega)
  refine Blk.sP ?_ (by omega)
  refine Blk.sP ?_ (by omega)
  refine Blk.sP ?_ (by omega)
  refine Blk.sP ?_ (by omega)
  refine Blk.sP ?_ (by omega)
  exact b
theorem zi_4_53 {σ : ZSto} (h : ZI σ) : ZI (U_4_53 σ) := by
  unfold U_4_53
  refine ZI.sP ?_
  refine ZI.sI ?_ sh_53 (r32c rfl)
  refine ZI.sI ?_ sh_53 (r32c rfl)
  refine ZI.sP ?_
  refine ZI.sP ?_
  refine ZI.sP ?_
  refine ZI.sP ?_
  refine ZI.sP ?_
  refine ZI.sP ?_
  refine ZI.sP ?_
  exact h
theorem bb_3_61 {n : Nat} {σ : ZSto} (hn : 62 ≤ n) (b : Blk n σ) : Blk n (U_3_61 σ) := by
  unfold U_3_61
  refine Blk.sP ?_ (by omega)
  refine Blk.sI ?_ (by omega)
  refine Blk.sI ?_ (by omega)
  refine Blk.sI ?_ (by omega)
  refine Blk.sI ?_ (by omega)
  refine Blk.sI ?_ (by omega)
  refine Blk.sP ?_ (by omega)
  refine Blk.sP ?_ (by omega)
  refine Blk.sP ?_ (by omega)
  refine Blk.sP ?_ (by omega)
  refine Blk.sP ?_ (by omega)
  exact b
theorem zi_3_61 {σ : ZSto} (h : ZI σ) : ZI (U_3_61 σ) := by
  unfold U_3_61
  refine ZI.sP ?_
  refine ZI.sI ?_ sh_61 (r32c rfl)
  refine ZI.sI ?_ sh_61 (r32c rfl)
  refine ZI.sI ?_ sh_61 (r32c rfl)
  refine ZI.sI ?_ sh_61 (r32c rfl)
  refine ZI.sI ?_ sh_61 (r32c rfl)
  refine ZI.sP ?_
  refine ZI.sP ?_
  refine ZI.sP ?_
  refine ZI.sP ?_
  refine ZI.sP ?_
  exact h
theorem bb_6_67 {n : Nat} {σ : ZSto} (hn : 68 ≤ n) (b : Blk n σ) : Blk n (U_6_67 σ) := by
  unfold U_6_67
  refine Blk.sP ?_ (by omega)
  refine Blk.sP ?_ (by omega)
  refine Blk.sP ?_ (by omega)
  refine Blk.sP ?_ (by omega)
  refine Blk.sP ?_ (by omega)
  exact b
theorem zi_6_67 {σ : ZSto} (h : ZI σ) : ZI (U_6_67 σ) := by
  unfold U_6_67
  refine ZI.sP ?_
  refine ZI.sP ?_
  refine ZI.sP ?_
  refine ZI.sP ?_
  refine ZI.sP ?_
  exact h
theorem bb_2_71 {n : Nat} {σ : ZSto} (hn : 72 ≤ n) (b : Blk n σ) : Blk n (U_2_71 σ) := by
  unfold U_2_71
  refine Blk.sI ?_ (by omega)
  refine Blk.sI ?_ (by omega)
  refine Blk.sI ?_ (by omega)
  refine Blk.sI ?_ (by omega)
  exact b
theorem zi_2_71 {σ : ZSto} (h : ZI σ) : ZI (U_2_71 σ) := by
  unfold U_2_71
  refine ZI.sI ?_ sh_71 (r32c rfl)
  refine ZI.sI ?_ sh_71 (r32c rfl)
  refine ZI.sI ?_ sh_71 (r32c rfl)
  refine ZI.sI ?_ sh_71 (r32c rfl)
  exact h
theorem bb_2_72 {n : Nat} {σ : ZSto} (hn : 73 ≤ n) (b : Blk n σ) : Blk n (U_2_72 σ) := by
  unfold U_2_72
  refine Blk.sI ?_ (by omega)
  refine Blk.sI ?_ (by omega)
  refine Blk.sI ?_ (by omega)
  refine Blk.sI ?_ (by omega)
  exact b
theorem zi_2_72 {σ : ZSto} (h : ZI σ) : ZI (U_2_72 σ) := by
  unfold U_2_72
  refine ZI.sI ?_ sh_72 (r32c rfl)
  refine ZI.sI ?_ sh_72 (r32c rfl)
  refine ZI.sI ?_ sh_72 (r32c rfl)
  refine ZI.sI ?_ sh_72 (r32c rfl)
  exact h
theorem bb_9_0 {n : Nat} {σ : ZSto} (hn : 73 ≤ n) (b : Blk n σ) : Blk n (U_9_0 σ) := by
  unfold U_9_0
  refine Blk.sI ?_ (by omega)
  refine Blk.sP ?_ (by omega)
  refine bb_2_72 (by omega) ?_
  refine Blk.sP ?_ (by omega)
  refine bb_2_71 (by omega) ?_
  refine Blk.sP ?_ (by omega)
  refine bb_6_67 (by omega) ?_
  refine Blk.sP ?_ (by omega)
  refine bb_3_61 (by omega) ?_
  refine Blk.sP ?_ (by omega)
  refine bb_4_53 (by omega) ?_
  refine Blk.sP ?_ (by omega)
  refine bb_8_52 (by omega) ?_
  refine Blk.sP ?_ (by omega)
  refine bb_5_49 (by omega) ?_
  refine Blk.sP ?_ (by omega)
  refine bb_0_41 (by omega) ?_
  refine Blk.sP ?_ (by omega)
  refine bb_0_33 (by omega) ?_
  refine Blk.sP ?_ (by omega)
  refine bb_1_31 (by omega) ?_
  refine Blk.sP ?_ (by omega)
  refine bb_1_29 (by omega) ?_
  refine Blk.sP ?_ (by omega)
  refine bb_7_15 (by omega) ?_
  refine Blk.sP ?_ (by omega)
  refine bb_7_1 (by omega) ?_
  exact b
theorem zi_9_0 {σ : ZSto} (h : ZI σ) : ZI (U_9_0 σ) := by
  unfold U_9_0
  refine ZI.sI ?_ sh_0 (r32c rfl)
  refine ZI.sP ?_
  refine zi_2_72 ?_
  refine ZI.sP ?_
  refine zi_2_71 ?_
  refine ZI.sP ?_
  refine zi_6_67 ?_
  refine ZI.sP ?_
  refine zi_3_61 ?_
  refine ZI.sP ?_
  refine zi_4_53 ?_
  refine ZI.sP ?_
  refine zi_8_52 ?_
  refine ZI.sP ?_
  refine zi_5_49 ?_
  refine ZI.sP ?_
  refine zi_0_41 ?_
  refine ZI.sP ?_
  refine zi_0_33 ?_
  refine ZI.sP ?_
  refine zi_1_31 ?_
  refine ZI.sP ?_
  refine zi_1_29 ?_
  refine ZI.sP ?_
  refine zi_7_15 ?_
  refine ZI.sP ?_
  refine zi_7_1 ?_
  exact h
theorem bb_10_73 {n : Nat} {σ : ZSto} (hn : 74 ≤ n) (b : Blk n σ) : Blk n (U_10_73 σ) := by
  unfold U_10_73
  refine Blk.sP ?_ (by omega)
  refine Blk.sP ?_ (by omega)
  refine Blk.sP ?_ (by omega)
  refine Blk.sP ?_ (by omega)
  refine Blk.sP ?_ (by omega)
  refine Blk.sP ?_ (by omega)
  refine Blk.sI ?_ (by omega)
  refine Blk.sI ?_ (by omega)
  refine Blk.sP ?_ (by omega)
  refine Blk.sP ?_ (by omega)
  refine Blk.sP ?_ (by omega)
  refine Blk.sP ?_ (by omega)
  refine Blk.sP ?_ (by omega)
  refine Blk.sP ?_ (by omega)
  refine Blk.sP ?_ (by omega)
  refine Blk.sP ?_ (by omega)
  refine Blk.sP ?_ (by omega)
  refine Blk.sI ?_ (by omega)
  refine Blk.sP ?_ (by omega)
  refine Blk.sP ?_ (by omega)
  refine Blk.sP ?_ (by omega)
  refine Blk.sP ?_ (by omega)
  refine Blk.sP ?_ (by omega)
  refine Blk.sI ?_ (by omega)
  refine Blk.sP ?_ (by omega)
  refine Blk.sP ?_ (by omega)
  refine Blk.sP ?_ (by omega)
  refine Blk.sP ?_ (by omega)
  refine Blk.sP ?_ (by omega)
  refine Blk.sP ?_ (by omega)
  refine Blk.sP ?_ (by omega)
  refine Blk.sP ?_ (by omega)
  refine Blk.sP ?_ (by omega)
  refine Blk.sP ?_ (by omega)
  exact b
theorem zi_10_73 {σ : ZSto} (h : ZI σ) : ZI (U_10_73 σ) := by
  unfold U_10_73
  refine ZI.sP ?_
  refine ZI.sP ?_
  refine ZI.sP ?_
  refine ZI.sP ?_
  refine ZI.sP ?_
  refine ZI.sP ?_
  refine ZI.sI ?_ sh_73 (r32c rfl)
  refine ZI.sI ?_ sh_73 (r32c rfl)
  refine ZI.sP ?_
  refine ZI.sP ?_
  refine ZI.sP ?_
  refine ZI.sP ?_
  refine ZI.sP ?_
  refine ZI.sP ?_
  refine ZI.sP ?_
  refine ZI.sP ?_
  refine ZI.sP ?_
  refine ZI.sI ?_ sh_73 (r32c rfl)
  refine ZI.sP ?_
  refine ZI.sP ?_
  refine ZI.sP ?_
  refine ZI.sP ?_
  refine ZI.sP ?_
  refine ZI.sI ?_ sh_73 (r32c rfl)
  refine ZI.sP ?_
  refine ZI.sP ?_
  refine ZI.sP ?_
  refine ZI.sP ?_
  refine ZI.sP ?_
  refine ZI.sP ?_
  refine ZI.sP ?_
  refine ZI.sP ?_
  refine ZI.sP ?_
  refine ZI.sP ?_
  exact h
theorem fr_10_73 {σ : ZSto} : Fr (fun a _ => a = 73) σ (U_10_73 σ) := by
  unfold U_10_73
  refine Fr.sP ?_ rfl
  refine Fr.sP ?_ rfl
  refine Fr.sP ?_ rfl
  refine Fr.sP ?_ rfl
  refine Fr.sP ?_ rfl
  refine Fr.sP ?_ rfl
  refine Fr.sI ?_ rfl
  refine Fr.sI ?_ rfl
  refine Fr.sP ?_ rfl
  refine Fr.sP ?_ rfl
  refine Fr.sP ?_ rfl
  refine Fr.sP ?_ rfl
  refine Fr.sP ?_ rfl
  refine Fr.sP ?_ rfl
  refine Fr.sP ?_ rfl
  refine Fr.sP ?_ rfl
  refine Fr.sP ?_ rfl
  refine Fr.sI ?_ rfl
  refine Fr.sP ?_ rfl
  refine Fr.sP ?_ rfl
  refine Fr.sP ?_ rfl
  refine Fr.sP ?_ rfl
  refine Fr.sP ?_ rfl
  refine Fr.sI ?_ rfl
  refine Fr.sP ?_ rfl
  refine Fr.sP ?_ rfl
  refine Fr.sP ?_ rfl
  refine Fr.sP ?_ rfl
  refine Fr.sP ?_ rfl
  refine Fr.sP ?_ rfl
  refine Fr.sP ?_ rfl
  refine Fr.sP ?_ rfl
  refine Fr.sP ?_ rfl
  refine Fr.sP ?_ rfl
  exact Fr.rf
theorem rf_10_73 {σ : ZSto} : ∀ j a, zRef 73 j = some a → gP (U_10_73 σ) 73 j = some a := by
  intro j a h
  match j, h with
  | 0, h => cases h; rfl
  | 1, h => cases h; rfl
  | 2, h => cases h; rfl
  | 3, h => cases h; rfl
  | 4, h => cases h; rfl
  | 5, h => cases h; rfl
  | 6, h => cases h; rfl
  | 7, h => cases h; rfl
  | 8, h => cases h; rfl
  | 9, h => cases h; rfl
  | 10, h => cases h
  | 11, h => cases h
  | 12, h => cases h
  | 13, h => cases h
  | 14, h => cases h; rfl
  | 15, h => cases h; rfl
  | 16, h => cases h; rfl
  | 17, h => cases h; rfl
  | 18, h => cases h
  | 19, h => cases h; rfl
  | 20, h => cases h
  | 21, h => cases h
  | 22, h => cases h
  | 23, h => cases h
  | 24, h => cases h
  | 25, h => cases h; rfl
  | 26, h => cases h
  | 27, h => cases h
  | 28, h => cases h
  | 29, h => cases h
  | 30, h => cases h; rfl
  | 31, h => cases h
  | 32, h => cases h; rfl
  | 33, h => cases h; rfl
  | 34, h => cases h; rfl
  | 35, h => cases h; rfl
  | 36, h => cases h; rfl
  | 37, h => cases h; rfl
  | 38, h => cases h; rfl
  | 39, h => cases h
  | 40, h => cases h
  | 41, h => cases h
  | 42, h => cases h
  | 43, h => cases h
  | 44, h => cases h
  | 45, h => cases h; rfl
  | 46, h => cases h; rfl
  | 47, h => cases h; rfl
  | 48, h => cases h; rfl
  | 49, h => cases h; rfl
  | 50, h => cases h; rfl
  | 51, h => cases h
  | j + 52, h => exact absurd (h.symm.trans (zRef_big (by omega))) (by simp)
