/-! ===== how long the text is ===== -/
theorem wNum_len (v : Int) : (wNum v).length ≤ 6 := by
  unfold wNum
  simp only [List.length_append, List.length_cons, List.length_nil]
  split <;> split <;> split <;> simp
theorem wHd_len (m : Nat) (c : Int) : (wHd m c).length ≤ 16 := by
  unfold wHd
  have a := wNum_len (m : Int)
  have b := wNum_len c
  simp only [List.length_append, List.length_cons, List.length_nil]
  split
  · simp; omega
  · simp only [List.length_append, List.length_cons, List.length_nil]; omega
theorem wPt_len (m : Nat) (p : Int) : (wPt m p).length ≤ 4 := by unfold wPt; split <;> simp
theorem wSp_len (m : Nat) (f : Nat → Int) (c : Int) : ∀ p, (wSp m f c p).length ≤ 4 * cnt (fun j => f j = c) p := by
  intro p
  induction p with
  | zero => exact Nat.zero_le _
  | succ p ih =>
    by_cases h : f p = c
    · rw [wSp_y h, cnt_s (P := fun j => f j = c) h, List.length_append]
      have := wPt_len m (p : Int)
      omega
    · rw [wSp_n h, cnt_n (P := fun j => f j = c) h]; exact ih
theorem wSe_len (m : Nat) (f : Nat → Int) (c b : Int) (p : Nat) : (wSe m f c b p).length ≤ 2 + 4 * cnt (fun j => f j = c) p := by
  have := wSp_len m f c p
  unfold wSe
  split
  · simp
  · simp only [List.length_append, List.length_cons, List.length_nil]; omega
theorem cnt_set {f : Nat → Int} (N : Nat) : cnt (fun j => f j = 1) N + cnt (fun j => f j = 2) N + cnt (fun j => f j = 0) N ≤ cnt (fun j => f j ≠ 3) N := by
  have a := cnt_or (P := fun j => f j = 1) (Q := fun j => f j = 2) (n := N) (fun i _ y => by omega)
  have b := cnt_or (P := fun j => f j = 1 ∨ f j = 2) (Q := fun j => f j = 0) (n := N) (fun i _ y => by omega)
  have c := cnt_mono (P := fun j => (f j = 1 ∨ f j = 2) ∨ f j = 0) (Q := fun j => f j ≠ 3) (n := N) (fun i _ y => by omega)
  omega
theorem wNd_len {m k : Nat} {c : Int} {T : ATr} (hW : TW m k T) (i : Nat) : (wNd m c T i).length + 2 ≤ (if i = 0 then 16 else 0) + 9 + 4 * cnt (fun p => tSet T i p ≠ 3) 81 := by
  have hmm : m * m ≤ 81 := sq_le hW.2.1
  have h1 := wSe_len m (tSet T i) 1 66 (m * m)
  have h2 := wSe_len m (tSet T i) 2 87 (m * m)
  have h3 := wSe_len m (tSet T i) 0 69 (m * m)
  have h4 := cnt_set (f := tSet T i) (m * m)
  have h5 := cnt_up (P := fun p => tSet T i p ≠ 3) hmm
  have h6 := wHd_len m c
  have h7 := wPt_len m (tPnt T i)
  unfold wNd
  simp only [List.length_append, List.length_cons, List.length_nil]
  have a : (if i = 0 then wHd m c else ([] : List Int)).length ≤ (if i = 0 then 16 else 0) := by
    split
    · exact h6
    · simp
  have b : (if tKnd T i = 0 then wSe m (tSet T i) 1 66 (m * m) ++ (wSe m (tSet T i) 2 87 (m * m) ++ wSe m (tSet T i) 0 69 (m * m)) else (if tCol T i = 1 then [66] else [87]) ++ wPt m (tPnt T i)).length ≤ 6 + 4 * cnt (fun p => tSet T i p ≠ 3) 81 := by
    split
    · simp only [List.length_append]; omega
    · rw [List.length_append]
      have : (if tCol T i = 1 then [(66 : Int)] else [87]).length = 1 := by split <;> rfl
      omega
  omega
theorem cnt_sh {P : Nat → Prop} (a : Nat) : ∀ e, cnt P (a + e) = cnt P a + cnt (fun j => P (a + j)) e := by
  intro e
  induction e with
  | zero => rfl
  | succ e ih =>
    by_cases h : P (a + e)
    · rw [show a + (e + 1) = a + e + 1 from rfl, cnt_s h, cnt_s (P := fun j => P (a + j)) h, ih]; omega
    · rw [show a + (e + 1) = a + e + 1 from rfl, cnt_n h, cnt_n (P := fun j => P (a + j)) h, ih]
theorem smP_set {T : ATr} : ∀ k, smP (fun _ => True) (fun i => (if i = 0 then 16 else 0) + 9 + 4 * cnt (fun p => tSet T i p ≠ 3) 81) k ≤ (if k = 0 then 0 else 16) + 9 * k + 4 * cnt (fun j => tSet T (j / 81) (j % 81) ≠ 3) (81 * k) := by
  intro k
  induction k with
  | zero => exact Nat.zero_le _
  | succ k ih =>
    rw [smP_y trivial]
    have e : cnt (fun j => tSet T (j / 81) (j % 81) ≠ 3) (81 * (k + 1)) = cnt (fun j => tSet T (j / 81) (j % 81) ≠ 3) (81 * k) + cnt (fun p => tSet T k p ≠ 3) 81 := by
      have e2 : cnt (fun j => tSet T ((81 * k + j) / 81) ((81 * k + j) % 81) ≠ 3) 81 = cnt (fun p => tSet T k p ≠ 3) 81 := cnt_congr (fun p hp => by
        rw [show (81 * k + p) / 81 = k by omega, show (81 * k + p) % 81 = p by omega])
      rw [show 81 * (k + 1) = 81 * k + 81 by omega, cnt_sh, e2]
    rw [e]
    by_cases z : k = 0
    · rw [if_pos z] at ih
      rw [if_pos z, if_neg (by omega)]
      omega
    · rw [if_neg z] at ih
      rw [if_neg z, if_neg (by omega)]
      omega
theorem wF_len {m k : Nat} {c : Int} {T : ATr} (hW : TW m k T) (hS : TSum T k) (hk : 0 < k) : (wF m c T k).length ≤ 4096 := by
  have h := wS_mu (μ := List.length) (m := m) (c := c) (T := T) (fun a b => List.length_append) hW hk (fun i _ => wNd_len hW i)
  have h2 := smP_set (T := T) k
  have hk2 := hW.2.2.1
  unfold TSum at hS
  unfold wF
  simp only [List.length_append, List.length_cons, List.length_nil] at h ⊢
  rw [if_neg (by omega)] at h2
  omega
theorem c59_0 {l : List Int} (h : 59 ∉ l) : c59 l = 0 := List.count_eq_zero.mpr h
theorem wPt_59 {m : Nat} {p : Int} (h3 : 3 ≤ m) (h9 : m ≤ 9) (hp : p = -1 ∨ (0 ≤ p ∧ p < (m * m : Nat))) : c59 (wPt m p) = 0 := by
  refine c59_0 ?_
  rcases hp with rfl | ⟨p0, p1⟩
  · rw [wPt_n (by decide)]; decide
  · obtain ⟨⟨r1, r2⟩, r3, r4⟩ := dm_r h3 h9 p0 p1
    rw [wPt_y (by omega)]
    simp only [List.mem_cons, List.not_mem_nil, or_false]
    omega
theorem wNum_59 {v : Int} (h0 : -200 ≤ v) (h1 : v ≤ 200) : c59 (wNum v) = 0 := by
  have hu : 0 ≤ absI v ∧ absI v ≤ 200 := by unfold absI; split <;> omega
  refine c59_0 ?_
  unfold wNum
  simp only [List.mem_append, List.mem_cons, List.not_mem_nil, or_false]
  rintro (h | h | h | h | h | h)
  · omega
  · split at h
    · simp at h
    · simp at h
  · split at h
    · simp at h; omega
    · simp at h
  · split at h
    · simp at h; omega
    · simp at h
  · omega
  · omega
theorem wSp_59 {m : Nat} {f : Nat → Int} {c : Int} (h3 : 3 ≤ m) (h9 : m ≤ 9) : ∀ p, p ≤ m * m → c59 (wSp m f c p) = 0 := by
  intro p
  induction p with
  | zero => intro _; rfl
  | succ p ih =>
    intro hp
    by_cases h : f p = c
    · rw [wSp_y h, c59_a, ih (by omega), wPt_59 h3 h9 (Or.inr ⟨by omega, by omega⟩)]
    · rw [wSp_n h]; exact ih (by omega)
theorem wSe_59 {m : Nat} {f : Nat → Int} {c b : Int} (h3 : 3 ≤ m) (h9 : m ≤ 9) (hb : b ≠ 59) : c59 (wSe m f c b (m * m)) = 0 := by
  unfold wSe
  split
  · rfl
  · rw [c59_a, wSp_59 h3 h9 _ (Nat.le_refl _)]
    have : c59 [65, b] = 0 := c59_0 (by simp only [List.mem_cons, List.not_mem_nil, or_false]; omega)
    omega
theorem wNd_59 {m k i : Nat} {c : Int} {T : ATr} (hW : TW m k T) (hc0 : -200 ≤ c) (hc1 : c ≤ 200) (hi : i < k) : c59 (wNd m c T i) = 1 := by
  have h3 := hW.1
  have h9 := hW.2.1
  obtain ⟨n1, n2, n3, n4, n5, n6, n7, _⟩ := hW.2.2.2 i hi
  unfold wNd
  rw [c59_a, c59_a]
  have a : c59 (if i = 0 then wHd m c else []) = 0 := by
    split
    · unfold wHd
      rw [c59_a, c59_a, wNum_59 (by omega) (by omega)]
      have : c59 (if c = 0 then [] else [75, 77] ++ wNum c) = 0 := by
        split
        · rfl
        · rw [c59_a, wNum_59 hc0 hc1]; rfl
      rw [this]; rfl
    · rfl
  have b : c59 (if tKnd T i = 0 then wSe m (tSet T i) 1 66 (m * m) ++ (wSe m (tSet T i) 2 87 (m * m) ++ wSe m (tSet T i) 0 69 (m * m)) else (if tCol T i = 1 then [66] else [87]) ++ wPt m (tPnt T i)) = 0 := by
    split
    · rw [c59_a, c59_a, wSe_59 h3 h9 (by decide), wSe_59 h3 h9 (by decide), wSe_59 h3 h9 (by decide)]
    next z =>
      have hp : tPnt T i = -1 ∨ (0 ≤ tPnt T i ∧ tPnt T i < (m * m : Nat)) := by
        rcases n3 with e | e | e
        · exact absurd e z
        · exact Or.inr (n6 e)
        · exact Or.inl (n7 e)
      rw [c59_a, wPt_59 h3 h9 hp]
      split <;> rfl
  rw [a, b]
  rfl
theorem smP_one : ∀ k, smP (fun _ => True) (fun _ => 1) k = k := by
  intro k
  induction k with
  | zero => rfl
  | succ k ih => rw [smP_y trivial, ih]
theorem wF_59 {m k : Nat} {c : Int} {T : ATr} (hW : TW m k T) (hc0 : -200 ≤ c) (hc1 : c ≤ 200) (hk : 0 < k) : c59 (wF m c T k) ≤ k := by
  have e40 : c59 [40] = 0 := rfl
  have e41 : c59 [41] = 0 := rfl
  have h := wS_mu (μ := c59) (m := m) (c := c) (T := T) (w := fun _ => 1) c59_a hW hk (fun i hi => by rw [wNd_59 hW hc0 hc1 hi, e40, e41]; exact Nat.le_refl _)
  rw [smP_one] at h
  unfold wF
  rw [c59_a, c59_a]
  omega
section ZX
variable {X : ZX} {d n : Nat} {σ : ZSto} {G : Int}
theorem op_write (hn : 104 ≤ n) {q : Nat → Nat} (hq : ZTx X q) (h : Rel σ G) : ZkI X M_X9_write (d + 9) n [.ref (zB X + 0)] σ (fun v σ1 => ZkI X M_X10_write (d + 4) n [.ref (zB X + 73)] σ1 (fun w σ2 => v = w ∧ Rel σ2 (G + 60000))) := by
  obtain ⟨h1, h2, h3, t, g, m, k, pl, c, T, hGm, hB, hB2, g1, g2⟩ := h
  obtain ⟨ht, hg, hp0, hp1, e10, e11, e16, hpk, hW, hS, ⟨hc0, hc1⟩, hC, hM⟩ := id hGm
  have ht2 : t = 1 ∨ t = 15 := ht
  have hk0 : 0 < k := by omega
  have hF := wF_len (c := c) hW hS hk0
  have h59 := wF_59 hW hc0 hc1 hk0
  refine (sx_write (by omega) hq ht hp0 hC hW hk0 hc0 hc1 hF h59).mono ?_
  rintro v σ1 - ⟨rfl, y⟩
  have M1 : MTr σ1 g m k c T := hM.kept hW.2.2.1 y.2 (fun a i z => by unfold mtrD at z; unfold cwD; omega)
  refine (sm_write hn hg (by rw [y.2.I (by unfold cwD; omega)]; exact e10) M1 hW hk0 hc0 hc1 hF).mono ?_
  rintro w σ2 - ⟨rfl, r, f⟩
  have f' : Fr (fun a j => a = 32 ∨ (a = 31 ∧ j = 1) ∨ a = 90 ∨ a = 91 ∨ (a = 73 ∧ (j = 31 ∨ j = 13))) σ σ2 := (y.2.mono (fun a j z => by unfold cwD at z; omega)).tr (f.mono (fun a j z => by unfold rwE at z; omega))
  have o31 : gI σ2 31 1 = ((wF m c T k).length : Int) := by rw [f.I (by unfold rwE; omega)]; exact y.1.1
  obtain ⟨o1, o2, o3, o4, o5⟩ := h1
  refine ⟨rfl, ⟨o1.kept f' (fun a j z => by unfold clkD at z; omega), o2.kept f' (fun a j z => by unfold tapeD at z; omega), ⟨by omega, by rw [o31]; exact r.1, fun i hi => ?_⟩, by rw [f'.I (by omega), f'.I (by omega)]; exact o4, o5.kept f' (fun a j z => by unfold koD at z; omega)⟩, h2.kept f' (fun a j z => by unfold stpD at z; omega), h3.kept f' (fun a j z => by omega), t, g, m, k, pl, c, T, hGm.kept f' (fun a j z => by unfold gmD ctrD mtrD at z; omega), hB.kept f' (fun a j z => by unfold brdW at z; omega), hB2.kept2 f' (fun a j z => by unfold brdX at z; omega), by rw [f'.I (by omega)]; omega, by rw [f'.I (by omega)]; omega⟩
  have hi2 : i < (wF m c T k).length := by omega
  rw [r.2 i hi2, f.I (by unfold rwE; omega), y.1.2 i hi2]
end ZX
