/-! ===== Board.shape, copyOf ===== -/
theorem nb_rc {m r c : Nat} (h3 : 3 ≤ m) (h9 : m ≤ 9) (hr : r < m) (hc : c < m) : r * m + c < m * m ∧ nbC m (r * m + c) 0 = (if (r : Int) ≤ 0 then -1 else ((r * m + c : Nat) : Int) - m) ∧ nbC m (r * m + c) 1 = (if (c : Int) ≤ 0 then -1 else ((r * m + c : Nat) : Int) - 1) ∧ nbC m (r * m + c) 2 = (if (m : Int) - 1 ≤ c then -1 else ((r * m + c : Nat) : Int) + 1) ∧ nbC m (r * m + c) 3 = (if (m : Int) - 1 ≤ r then -1 else ((r * m + c : Nat) : Int) + m) := by
  have : m = 3 ∨ m = 4 ∨ m = 5 ∨ m = 6 ∨ m = 7 ∨ m = 8 ∨ m = 9 := by omega
  simp only [nbC]
  rcases this with rfl | rfl | rfl | rfl | rfl | rfl | rfl <;> refine ⟨by omega, ?_, ?_, ?_, ?_⟩ <;> split <;> split <;> omega
section ZB
variable {X : ZX} {d n : Nat} {σ : ZSto}
theorem lay_key (hn : 73 ≤ n) {o m r c : Nat} (ho : zIsB o) {P : ZSto → Prop} (h3 : 3 ≤ m) (h9 : m ≤ 9) (hm : gI σ o 7 = (m : Int)) (hr : r < m) (hc : c < m)
    (hP : ∀ v0 v1 v2 v3 : Int, v0 = nbC m (r * m + c) 0 → v1 = nbC m (r * m + c) 1 → v2 = nbC m (r * m + c) 2 → v3 = nbC m (r * m + c) 3 → P (sI (sI (sI (sI σ (o + 2) (4 * (r * m + c)) v0) (o + 2) (4 * (r * m + c) + 1) v1) (o + 2) (4 * (r * m + c) + 2) v2) (o + 2) (4 * (r * m + c) + 3) v3)) :
    ZkV X M_X0_layNeighbours (d + 1) n [.ref (zB X + o), iV (r : Int), iV (c : Int)] σ P := by
  have hN := sq_le h9
  obtain ⟨hp, e0, e1, e2, e3⟩ := nb_rc h3 h9 hr hc
  refine w_X0_layNeighbours hn ho ⟨by omega, by omega⟩ ⟨by omega, by omega⟩ ?_
  rw [hm]
  intro y hy
  obtain ⟨p, ep⟩ : ∃ p : Nat, p = r * m + c := ⟨_, rfl⟩
  have hyp : y = (p : Int) := by rw [hy, ep]; simp
  subst hyp
  rw [← ep] at hp e0 e1 e2 e3 hP
  have t0 : (4 * (p : Int)).toNat = 4 * p := by omega
  have t1 : (4 * (p : Int) + 1).toNat = 4 * p + 1 := by omega
  have t2 : (4 * (p : Int) + 2).toNat = 4 * p + 2 := by omega
  have t3 : (4 * (p : Int) + 3).toNat = 4 * p + 3 := by omega
  rw [t0, t1, t2, t3]
  clear hy ep
  have k0 : ∀ x : Int, ((r : Int) ≤ 0 → x = -1) → (¬ (r : Int) ≤ 0 → x = (p : Int) - m) → x = nbC m p 0 := by intro x a b; rw [e0]; split <;> first | exact a ‹_› | exact b ‹_›
  have k1 : ∀ x : Int, ((c : Int) ≤ 0 → x = -1) → (¬ (c : Int) ≤ 0 → x = (p : Int) - 1) → x = nbC m p 1 := by intro x a b; rw [e1]; split <;> first | exact a ‹_› | exact b ‹_›
  have k2 : ∀ x : Int, ((m : Int) - 1 ≤ c → x = -1) → (¬ (m : Int) - 1 ≤ c → x = (p : Int) + 1) → x = nbC m p 2 := by intro x a b; rw [e2]; split <;> first | exact a ‹_› | exact b ‹_›
  have k3 : ∀ x : Int, ((m : Int) - 1 ≤ r → x = -1) → (¬ (m : Int) - 1 ≤ r → x = (p : Int) + m) → x = nbC m p 3 := by intro x a b; rw [e3]; split <;> first | exact a ‹_› | exact b ‹_›
  clear e0 e1 e2 e3 t0 t1 t2 t3
  repeat' (first | apply And.intro | intro _)
  all_goals first | omega | (exact hP _ _ _ _ (k0 _ (by omega) (by omega)) (k1 _ (by omega) (by omega)) (k2 _ (by omega) (by omega)) (k3 _ (by omega) (by omega)))
theorem sp_layNeighbours (hn : 73 ≤ n) {o m r c : Nat} (ho : zIsB o) (h3 : 3 ≤ m) (h9 : m ≤ 9) (hm : gI σ o 7 = (m : Int)) (hr : r < m) (hc : c < m) :
    ZkV X M_X0_layNeighbours (d + 1) n [.ref (zB X + o), iV (r : Int), iV (c : Int)] σ (fun σ' => Fr (fun a i => a = o + 2) σ σ' ∧ (∀ dd, dd < 4 → gI σ' (o + 2) (4 * (r * m + c) + dd) = nbC m (r * m + c) dd) ∧ ∀ j, j < 4 * (r * m + c) ∨ 4 * (r * m + c) + 4 ≤ j → gI σ' (o + 2) j = gI σ (o + 2) j) := by
  refine lay_key hn ho h3 h9 hm hr hc (fun v0 v1 v2 v3 h0 h1 h2 h3 => ⟨?_, fun dd hd => ?_, fun j hj => ?_⟩)
  · refine (((Fr.rf.sI ?_).sI ?_).sI ?_).sI ?_ <;> rfl
  · have : dd = 0 ∨ dd = 1 ∨ dd = 2 ∨ dd = 3 := by omega
    rcases this with rfl | rfl | rfl | rfl <;> simp [gI_if, *]
  · rw [gI_f (by omega), gI_f (by omega), gI_f (by omega), gI_f (by omega)]
/-- shape's two loops -/
theorem shape_loop (hn : 73 ≤ n) {o m : Nat} (ho : zIsB o) {P : ZSto → Prop} {σ0 : ZSto} (h3 : 3 ≤ m) (h9 : m ≤ 9) (hm : gI σ0 o 7 = (m : Int))
    (hP : ∀ σ : ZSto, Fr (fun a i => a = o + 2) σ0 σ → (∀ p, p < m * m → ∀ dd, dd < 4 → gI σ (o + 2) (4 * p + dd) = nbC m p dd) → P σ) :
    ∀ (w : Nat) (σ : ZSto) (r c : Nat), (m - r) * 20 + (10 - c) ≤ w → r < m → c ≤ m → Fr (fun a i => a = o + 2) σ0 σ → (∀ p, p < r * m + c → ∀ dd, dd < 4 → gI σ (o + 2) (4 * p + dd) = nbC m p dd) → L_X0_shape_54 X (d + 1) n (zpV P) o (r : Int) (c : Int) σ := by
  intro w
  induction w with
  | zero => intro σ r c hw hr hc; omega
  | succ w ih =>
    intro σ r c hw hr hc hf hq
    have hm' : gI σ o 7 = (m : Int) := by rw [hf.I (by omega)]; exact hm
    refine b_X0_shape_54 hn ho ?_
    rw [hm']
    refine ⟨fun z => ⟨⟨by omega, by omega⟩, ?_⟩, fun z => ?_⟩
    · have ec : c = m := by omega
      subst ec
      have e1 : r * c + c = (r + 1) * c := by rw [Nat.add_mul, Nat.one_mul]
      rw [e1] at hq
      refine b_X0_shape_44 hn ho ?_
      rw [hm']
      refine ⟨fun z2 => ?_, fun z2 => ?_⟩
      · have er : r + 1 = c := by omega
        rw [er] at hq
        exact hP σ hf hq
      · have := ih σ (r + 1) 0 (by omega) (by omega) (by omega) hf (by simpa using hq)
        simpa using this
    · have hc' : c < m := by omega
      refine (sp_layNeighbours hn ho h3 h9 hm' hr hc').mono ?_
      rintro σ1 ⟨f1, a1, b1⟩
      refine ⟨⟨by omega, by omega⟩, ?_⟩
      have := ih σ1 r (c + 1) (by omega) hr (by omega) (hf.tr f1) (fun p hp dd hd => ?_)
      · simpa using this
      · by_cases e : p = r * m + c
        · subst e; exact a1 dd hd
        · rw [b1 _ (by omega)]; exact hq p (by omega) dd hd
theorem fillB_loop (hn : 73 ≤ n) {a z : Nat} {x : Int} (ha : a < n) (hs : SH a = some (.inl (.byte, z))) (hx : -128 ≤ x ∧ x < 128) {P : ZSto → Prop} {σ0 : ZSto}
    (hP : ∀ σ : ZSto, Fr (fun b i => b = a) σ0 σ → (∀ i, i < z → gI σ a i = x) → P σ) :
    ∀ (w : Nat) (σ : ZSto) (i : Nat), z - i ≤ w → i ≤ z → Fr (fun b i => b = a) σ0 σ → (∀ j, j < i → gI σ a j = x) → L_J7_fill_031fb_5 X d n (zpV P) a z x (i : Int) (z : Int) σ := by
  have hl := zSh_len hs
  intro w
  induction w with
  | zero =>
    intro σ i hw hi hf hq
    have : i = z := by omega
    subst this
    exact b_J7_fill_031fb_5 hn ha hs ⟨fun _ => hP σ hf hq, fun q => by omega⟩
  | succ w ih =>
    intro σ i hw hi hf hq
    refine b_J7_fill_031fb_5 hn ha hs ⟨fun q => ?_, fun q => ⟨by omega, hx, ⟨by omega, by omega⟩, ?_⟩⟩
    · have : i = z := by omega
      subst this
      exact hP σ hf hq
    · have ti : ((i : Int)).toNat = i := by omega
      rw [ti]
      have := ih (sI σ a i x) (i + 1) (by omega) (by omega) (hf.sI rfl) (fun j hj => ?_)
      · simpa using this
      · by_cases e : j = i
        · subst e; exact gI_same _ _ _ _
        · rw [gI_f e]; exact hq j (by omega)
theorem sp_fillB (hn : 73 ≤ n) {a z : Nat} {x : Int} (ha : a < n) (hs : SH a = some (.inl (.byte, z))) (hx : -128 ≤ x ∧ x < 128) : ZkV X M_J7_fill_031fb (d + 1) n [.ref (zB X + a), iV x] σ (fun σ' => Fr (fun b i => b = a) σ σ' ∧ ∀ i, i < z → gI σ' a i = x) :=
  w_J7_fill_031fb hn ha hs ⟨by omega, by omega⟩ (fillB_loop hn ha hs hx (fun σ' h1 h2 => ⟨h1, h2⟩) z σ 0 (by omega) (by omega) Fr.rf (fun j hj => by omega))
/-- a board that is either new (all 0) or laid for its size -/
def BPre (σ : ZSto) (o : Nat) : Prop := (∀ m : Nat, gI σ o 7 = (m : Int) → 3 ≤ m → m ≤ 9 → BGeo σ o m) ∧ BMk σ o
theorem sp_shape (hn : 73 ≤ n) {o m : Nat} (ho : zIsB o) (h3 : 3 ≤ m) (h9 : m ≤ 9) (hB : BPre σ o) :
    ZkV X M_X0_shape (d + 3) n [.ref (zB X + o), iV (m : Int)] σ (fun σ' => Fr (fun a i => a = o + 1 ∨ a = o + 2 ∨ (a = o ∧ (i = 7 ∨ i = 8))) σ σ' ∧ BOk σ' o m (fun _ => 0) ∧ (∀ i, i < 81 → gI σ' (o + 1) i = 0)) := by
  have hN := sq_le h9
  refine w_X0_shape hn ho ⟨by omega, by omega⟩ ((sp_fillB hn (zB_l0 ho hn) (zB_s0 ho) (by omega)).mono ?_)
  rintro σ1 ⟨f1, z1⟩
  have mk1 : ∀ τ : ZSto, Fr (fun a i => a = o + 1 ∨ a = o + 2 ∨ (a = o ∧ (i = 7 ∨ i = 8))) σ τ → BMk τ o := by
    intro τ hf
    refine ⟨by rw [hf.I (by omega)]; exact hB.2.1, fun q => ?_⟩
    rw [hf.I (a := o) (by omega), hf.I (a := o + 4) (by omega), hf.I (a := o + 5) (by omega)]
    exact hB.2.2 q
  have f1' : Fr (fun a i => a = o + 1 ∨ a = o + 2 ∨ (a = o ∧ (i = 7 ∨ i = 8))) σ σ1 := f1.mono (fun a i q => Or.inl q)
  refine ⟨fun q => ?_, fun q => (sp_isSize hn (x := (m : Int)) ⟨by omega, by omega⟩).mono ?_⟩
  · rw [f1.I (by omega)] at q
    obtain ⟨a1, a2, a3, a4, a5⟩ := hB.1 m q.symm h3 h9
    refine ⟨f1', ⟨⟨a1, a2, by rw [f1.I (by omega)]; exact a3, by rw [f1.I (by omega)]; exact a4, fun p hp dd hd => by rw [f1.I (by omega)]; exact a5 p hp dd hd⟩, fun p _ => Or.inl rfl, fun p hp => z1 p (by omega), mk1 σ1 f1'⟩, z1⟩
  · rintro v _ - ⟨rfl, hv⟩
    rw [if_pos (by omega)] at hv
    refine ⟨fun _ => ⟨?_, ?_⟩, fun z => by omega⟩
    · have : (m : Int) * (m : Int) = ((m * m : Nat) : Int) := by simp
      rw [this]; exact ⟨by omega, by omega⟩
    · have emm : (m : Int) * (m : Int) = ((m * m : Nat) : Int) := by simp
      rw [emm]
      obtain ⟨σ2, e2⟩ : ∃ σ2, σ2 = sI (sI σ1 o 7 (m : Int)) o 8 ((m * m : Nat) : Int) := ⟨_, rfl⟩
      have f2 : Fr (fun a i => a = o + 1 ∨ a = o + 2 ∨ (a = o ∧ (i = 7 ∨ i = 8))) σ σ2 := by rw [e2]; exact (f1'.sI (by omega)).sI (by omega)
      have g7 : gI σ2 o 7 = (m : Int) := by rw [e2]; simp [gI_if]
      have g8 : gI σ2 o 8 = ((m * m : Nat) : Int) := by rw [e2]; simp [gI_if]
      have z2 : ∀ i, i < 81 → gI σ2 (o + 1) i = 0 := fun i hi => by rw [e2, gI_c (by omega), gI_c (by omega)]; exact z1 i hi
      rw [← e2]
      refine b_X0_shape_44 hn ho ?_
      rw [g7]
      refine ⟨fun z => by omega, fun _ => ?_⟩
      have := shape_loop (X := X) (d := d + 1) (σ0 := σ2) hn ho (P := fun σ' => Fr (fun a i => a = o + 1 ∨ a = o + 2 ∨ (a = o ∧ (i = 7 ∨ i = 8))) σ σ' ∧ BOk σ' o m (fun _ => 0) ∧ (∀ i, i < 81 → gI σ' (o + 1) i = 0)) h3 h9 g7 ?_ (m * 20 + 10) σ2 0 0 (by omega) (by omega) (by omega) Fr.rf (fun p hp => by omega)
      · simpa using this
      · intro σ3 f3 hnb
        have f3' := f2.tr (f3.mono (fun a i q => Or.inr (Or.inl q)))
        have z3 : ∀ i, i < 81 → gI σ3 (o + 1) i = 0 := fun i hi => by rw [f3.I (by omega)]; exact z2 i hi
        exact ⟨f3', ⟨⟨h3, h9, by rw [f3.I (by omega)]; exact g7, by rw [f3.I (by omega)]; exact g8, hnb⟩, fun p _ => Or.inl rfl, fun p hp => z3 p (by omega), mk1 σ3 f3'⟩, z3⟩
theorem BOk.pre {σ : ZSto} {o m : Nat} {bd : Nat → Int} (h : BOk σ o m bd) : BPre σ o := by
  refine ⟨fun m' hm' _ _ => ?_, h.2.2.2⟩
  have : m' = m := by have := h.1.2.2.1; omega
  rw [this]; exact h.1
theorem sp_copyOf (hn : 73 ≤ n) {o o1 m : Nat} (ho : zIsB o) (ho1 : zIsB o1) (hne : o ≠ o1) {bd : Nat → Int} (hB : BPre σ o) (h1 : BOk σ o1 m bd) :
    ZkV X M_X0_copyOf (d + 4) n [.ref (zB X + o), .ref (zB X + o1)] σ (fun σ' => Fr (fun a i => a = o + 1 ∨ a = o + 2 ∨ (a = o ∧ (i = 7 ∨ i = 8))) σ σ' ∧ BOk σ' o m bd) := by
  have hN := sq_le h1.1.2.1
  have hap : o1 + 1 ≠ o ∧ o1 + 1 ≠ o + 1 ∧ o1 + 1 ≠ o + 2 := by unfold zIsB at ho ho1; omega
  refine w_X0_copyOf hn ho ho1 ?_
  rw [h1.1.2.2.1]
  refine (sp_shape hn ho h1.1.1 h1.1.2.1 hB).mono ?_
  rintro σ1 ⟨f1, b1, z1⟩
  obtain ⟨⟨a1, a2, a3, a4, a5⟩, -, -, m1, m2⟩ := b1
  have hcp : ∀ i, gI (cpI σ1 (o1 + 1) (o + 1) 0 0 81) (o + 1) i = if i < 81 then gI σ (o1 + 1) i else gI σ1 (o + 1) i := by
    intro i
    rw [gI_cpI]
    by_cases z : i < 81
    · rw [if_pos (by simp; omega), if_pos z, f1.I (by omega)]; simp
    · rw [if_neg (by simp; omega), if_neg z]
  have e : ∀ a i, a ≠ o + 1 → gI (cpI σ1 (o1 + 1) (o + 1) 0 0 81) a i = gI σ1 a i := fun a i q => by rw [gI_cpI, if_neg (fun z => q z.1)]
  refine ⟨f1.cpI (fun j _ _ => Or.inl rfl), ⟨a1, a2, by rw [e _ _ (by omega)]; exact a3, by rw [e _ _ (by omega)]; exact a4, fun p hp dd hd => by rw [e _ _ (by omega)]; exact a5 p hp dd hd⟩, h1.2.1, fun p hp => ?_, by rw [e _ _ (by omega)]; exact m1, fun q => by rw [e o _ (by omega), e (o + 4) _ (by omega), e (o + 5) _ (by omega)]; exact m2 q⟩
  rw [hcp, if_pos (by omega)]
  exact h1.2.2.1 p hp
end ZB
