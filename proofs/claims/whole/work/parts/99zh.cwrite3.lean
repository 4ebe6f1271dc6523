/-! ===== the class writes: along the text ===== -/
def c59 (l : List Int) : Nat := l.count 59
theorem c59_a (a b : List Int) : c59 (a ++ b) = c59 a + c59 b := List.count_append
section ZCW
variable {X : ZX} {d n : Nat} {σ σ0 : ZSto} {acc : List Int} {t m k : Nat} {c : Int} {T : ATr}
/-- behind a node's own text -/
def Nxt (σ0 : ZSto) (acc : List Int) (m k : Nat) (c : Int) (T : ATr) (v : Int) (σ' : ZSto) : Prop := ∃ acc', CWo σ0 acc' σ' ∧ c59 acc' = c59 acc ∧ ((v = -1 ∧ acc' ++ [41] = wF m c T k) ∨ ∃ q : Nat, q < k ∧ v = (q : Int) ∧ acc' ++ (wS m c T k q ++ wA m c T k q) = wF m c T k)
theorem cw_leave (hn : 73 ≤ n) (ht : zIsT t) (hC : CTr σ0 t m k c T) (hW : TW m k T) (hF : (wF m c T k).length ≤ 4096) : ∀ (w l : Nat) (acc1 : List Int) (x4 : Int) (τ : ZSto), l < k → tDep T l = (w : Int) → 0 ≤ x4 → x4 + w ≤ 249 → CWo σ0 acc1 τ → c59 acc1 = c59 acc → acc1 ++ wA m c T k l = wF m c T k → L_X8_nextToWrite_40 X (d + 3) n (zpI (Nxt σ0 acc m k c T)) t (l : Int) x4 τ := by
  have hk := hW.2.2.1
  have ht2 : t = 1 ∨ t = 15 := ht
  have nc : ∀ i, ¬ cwD (t + 4) i := fun i => by unfold cwD; omega
  have hlen : ∀ a b : List Int, a ++ b = wF m c T k → a.length + b.length ≤ 4096 := fun a b e => by rw [← e, List.length_append] at hF; exact hF
  intro w
  induction w with
  | zero =>
    intro l acc1 x4 τ hlk hd h0 h4 y h59 e
    have hl0 : l = 0 := by
      by_cases z : l = 0
      · exact z
      · have a := (hW.2.2.2 l hlk).2.2.2.2.2.2.2.2.2.2.2.2.2.1 (by omega)
        have p0 := (hW.2.2.2 l hlk).2.1 (by omega)
        have b := (hW.2.2.2 (tPar T l).toNat (by omega)).2.2.2.2.2.2.2.2.2.2.2.2.2.2.1
        omega
    subst hl0
    rw [wA_0 hlk] at e
    refine b_X8_nextToWrite_40 hn ht ⟨fun z => by omega, fun _ => ?_⟩
    refine (sp_parentOf hn ht (y.ctr ht hC) hk ⟨by omega, by omega⟩).mono ?_
    rintro v _ - ⟨rfl, hv⟩
    have ev : v = -1 := by
      rcases hv with ⟨i, i1, i2, i3⟩ | ⟨_, i3⟩
      · have : i = 0 := by omega
        subst this
        rw [i3]; exact (hW.2.2.2 0 hlk).1 rfl
      · exact i3
    subst ev
    refine (sp_thasN hn ht (y.ctr ht hC).2.2.1 hk (r32c rfl) (by omega)).mono ?_
    rintro v2 _ - ⟨rfl, rfl⟩
    exact ⟨fun _ => ⟨acc1, y, h59, Or.inl ⟨rfl, e⟩⟩, fun z => absurd rfl z⟩
  | succ w ih =>
    intro l acc1 x4 τ hlk hd h0 h4 y h59 e
    have hl0 : 0 < l := by
      rcases Nat.eq_zero_or_pos l with z | z
      · subst z
        have := (hW.2.2.2 0 hlk).2.2.2.2.2.2.2.2.2.2.2.2.1 rfl
        omega
      · exact z
    have p0 := (hW.2.2.2 l hlk).2.1 hl0
    obtain ⟨p, ep⟩ : ∃ p : Nat, tPar T l = (p : Int) := ⟨(tPar T l).toNat, by omega⟩
    have tp : ((p : Int)).toNat = p := by omega
    have tl : ((l : Int)).toNat = l := by omega
    have hpk : p < k := by omega
    have hdp : tDep T p = (w : Int) := by
      have := hW.dep l hlk p ep
      omega
    have hC' := y.ctr ht hC
    obtain ⟨k5, k2, k3, k4⟩ := hC'.2.2.2.2 l hlk
    obtain ⟨j5, _, _, _⟩ := hC'.2.2.2.2 p hpk
    rw [ep] at k4
    have hA := wA_s (m := m) (c := c) hW hl0 hlk
    rw [ep, tp] at hA
    rw [hA] at e
    obtain ⟨c1, _⟩ := hC'.2.2.2.1 l hlk
    have hcw : wCh T k p = cnt (fun j => tPar T j = (p : Int)) k := rfl
    refine b_X8_nextToWrite_40 hn ht ⟨fun z => by omega, fun _ => ?_⟩
    refine (sp_parentOf hn ht hC' hk ⟨by omega, by omega⟩).mono ?_
    rintro v _ - ⟨rfl, hv⟩
    have ev : v = (p : Int) := by
      rcases hv with ⟨i, i1, i2, i3⟩ | ⟨i3, _⟩
      · have : i = l := by omega
        subst this
        rw [i3, ep]
      · exact absurd ⟨by omega, by omega⟩ i3
    subst ev
    refine (sp_thasY hn ht hC'.2.2.1 hk hpk).mono ?_
    rintro v2 _ - ⟨rfl, rfl⟩
    refine ⟨fun z => by omega, fun _ => ⟨⟨by omega, by omega⟩, fun y21 ey => ?_⟩⟩
    rw [tl, c1, ep] at ey
    subst ey
    rw [tp, tl, j5]
    have hQ := wKd_L (S := wS m c T k) (show l + 1 ≤ k by omega) k4
    refine ⟨⟨by omega, by omega⟩, fun z => ?_, fun z => ?_⟩
    · -- an only child
      rw [if_neg (by omega)] at e
      have none' : gI τ (t + 4) l = -1 ∧ wKd T k (wS m c T k) p (k - (l + 1)) = [] := by
        rcases hQ with a | ⟨q, a1, a2, a3, a4, _⟩
        · exact a
        · have := cnt_two (S := fun j => tPar T j = (p : Int)) (a := l) (b := q) (by omega) hlk a2 ep a4
          omega
      rw [none'.1]
      rw [none'.2] at e
      refine (sp_thasN hn ht hC'.2.2.1 hk (r32c rfl) (by omega)).mono ?_
      rintro v3 _ - ⟨rfl, rfl⟩
      exact ⟨fun _ => ⟨⟨by omega, by omega⟩, ih p acc1 (x4 + 1) τ hpk hdp (by omega) (by omega) y h59 (by simpa using e)⟩, fun z => absurd rfl z⟩
    · rw [if_pos (by omega)] at e
      have hle := hlen _ _ e
      simp only [List.length_append, List.length_cons, List.length_nil] at hle
      refine cw_add hn y (by omega) (r32c rfl) (fun σ1 h1 => ?_)
      have hC1 := h1.ctr ht hC
      have e4 : gI σ1 (t + 4) l = gI τ (t + 4) l := by
        rw [h1.2.I (nc l), y.2.I (nc l)]
      have h591 : c59 (acc1 ++ [41]) = c59 acc := by rw [c59_a, h59]; rfl
      rcases hQ with ⟨a, a0⟩ | ⟨q, a1, a2, a3, a4, a5, a6⟩
      · rw [e4, a]
        rw [a0] at e
        refine (sp_thasN hn ht hC1.2.2.1 hk (r32c rfl) (by omega)).mono ?_
        rintro v3 _ - ⟨rfl, rfl⟩
        exact ⟨fun _ => ⟨⟨by omega, by omega⟩, ih p (acc1 ++ [41]) (x4 + 1) σ1 hpk hdp (by omega) (by omega) h1 h591 (by simpa using e)⟩, fun z => absurd rfl z⟩
      · rw [e4, a3]
        have hK := wKd_A (m := m) (c := c) hW a2 a4
        rw [a6, List.append_assoc, hK, if_pos (by omega)] at e
        have hle2 := hlen _ _ e
        simp only [List.length_append, List.length_cons, List.length_nil] at hle2
        refine (sp_thasY hn ht hC1.2.2.1 hk a2).mono ?_
        rintro v3 _ - ⟨rfl, rfl⟩
        refine ⟨fun z => by omega, fun _ => cw_add hn h1 (by simp; omega) (r32c rfl) (fun σ2 h2 => ?_)⟩
        have e4' : gI σ2 (t + 4) l = (q : Int) := by
          rw [h2.2.I (nc l), ← y.2.I (nc l), a3]
        rw [e4']
        exact ⟨_, h2, by rw [c59_a, h591]; rfl, Or.inr ⟨q, a2, rfl, by simpa using e⟩⟩
theorem cw_next (hn : 73 ≤ n) (ht : zIsT t) (hC : CTr σ0 t m k c T) (hW : TW m k T) (hF : (wF m c T k).length ≤ 4096) {i : Nat} (hi : i < k) (h : CWo σ0 acc σ) (e : acc ++ (wKd T k (wS m c T k) i k ++ wA m c T k i) = wF m c T k) : ZkI X M_X8_nextToWrite (d + 4) n [.ref (zB X + 52), .ref (zB X + t), iV (i : Int)] σ (Nxt σ0 acc m k c T) := by
  have hk := hW.2.2.1
  have ht2 : t = 1 ∨ t = 15 := ht
  have ti : ((i : Int)).toNat = i := by omega
  have hC' := h.ctr ht hC
  obtain ⟨k5, k2, k3, k4⟩ := hC'.2.2.2.2 i hi
  have hQ := wKd_L (S := wS m c T k) (show 0 ≤ k by omega) k2
  have hcw : wCh T k i = cnt (fun j => tPar T j = (i : Int)) k := rfl
  refine w_X8_nextToWrite hn ht ⟨by omega, by omega⟩ ?_
  rw [ti, k5]
  refine ⟨⟨by omega, by omega⟩, fun z => ?_, fun z => ?_⟩
  · have e0 : wKd T k (wS m c T k) i k = [] := wKd_no k (Nat.le_refl k) (fun j _ hj => cnt_0' (P := fun j => tPar T j = (i : Int)) (show cnt (fun j => tPar T j = (i : Int)) k = 0 by omega) j hj)
    rw [e0] at e
    have hdp := (hW.2.2.2 i hi).2.2.2.2.2.2.2.2.2.2.2.2.2.2.1
    exact cw_leave hn ht hC hW hF (tDep T i).toNat i acc 0 σ hi (by omega) (by omega) (by omega) h rfl (by simpa using e)
  · rcases hQ with ⟨a, a0⟩ | ⟨q, a1, a2, a3, a4, a5, a6⟩
    · exfalso
      rcases k2 with ⟨_, b⟩ | ⟨j, _, _, _, b, _⟩
      · have := cnt_0 (P := fun j => tPar T j = (i : Int)) (n := k) (fun j hj => b j (by omega) hj)
        omega
      · omega
    · rw [Nat.sub_zero] at a6
      have hK := wKd_A (m := m) (c := c) hW a2 a4
      rw [a6, List.append_assoc, hK] at e
      refine ⟨fun z2 => ?_, fun z2 => ?_⟩
      · rw [if_neg (by omega)] at e
        rw [a3]
        exact ⟨acc, h, rfl, Or.inr ⟨q, a2, rfl, by simpa using e⟩⟩
      · rw [if_pos (by omega)] at e
        have hle : acc.length + 1 ≤ 4096 := by
          rw [← e] at hF
          simp only [List.length_append, List.length_cons, List.length_nil] at hF
          omega
        refine cw_add hn h hle (r32c rfl) (fun σ1 h1 => ?_)
        have e2 : gI σ1 (t + 2) i = (q : Int) := by rw [h1.2.I (by unfold cwD; omega), ← h.2.I (by unfold cwD; omega), a3]
        rw [e2]
        exact ⟨_, h1, by rw [c59_a]; rfl, Or.inr ⟨q, a2, rfl, by simpa using e⟩⟩
theorem cw_round (hn : 73 ≤ n) {q : Nat → Nat} (hq : ZTx X q) (ht : zIsT t) (hC : CTr σ0 t m k c T) (hW : TW m k T) (hc0 : -200 ≤ c) (hc1 : c ≤ 200) (hF : (wF m c T k).length ≤ 4096) (h59 : c59 (wF m c T k) ≤ k) : ∀ (w : Nat) (acc : List Int) (x2 x3 : Int) (τ : ZSto), c59 (wF m c T k) < c59 acc + w → 0 ≤ x3 → x3 ≤ c59 acc → CWo σ0 acc τ →
    ((x2 = -1 ∧ acc ++ [41] = wF m c T k) ∨ ∃ i : Nat, i < k ∧ x2 = (i : Int) ∧ acc ++ (wS m c T k i ++ wA m c T k i) = wF m c T k) → L_X8_writeGame_21 X (d + 7) n (zpV (CWo σ0 (wF m c T k))) t x2 x3 τ := by
  have hk := hW.2.2.1
  have hle : ∀ a b : List Int, a ++ b = wF m c T k → a.length + b.length ≤ 4096 := fun a b e => by rw [← e, List.length_append] at hF; exact hF
  intro w
  induction w with
  | zero =>
    intro acc x2 x3 τ hw h0 h3 y hx
    exfalso
    have : ∃ b, acc ++ b = wF m c T k := by
      rcases hx with ⟨_, e⟩ | ⟨i, _, _, e⟩
      · exact ⟨_, e⟩
      · exact ⟨_, e⟩
    obtain ⟨b, e⟩ := this
    rw [← e, c59_a] at hw
    omega
  | succ w ih =>
    intro acc x2 x3 τ hw h0 h3 y hx
    have hcl : c59 acc ≤ k := by
      have : ∃ b, acc ++ b = wF m c T k := by
        rcases hx with ⟨_, e⟩ | ⟨i, _, _, e⟩
        · exact ⟨_, e⟩
        · exact ⟨_, e⟩
      obtain ⟨b, e⟩ := this
      rw [← e, c59_a] at h59
      omega
    rcases hx with ⟨rfl, e⟩ | ⟨i, hi, rfl, e⟩
    · have hl := hle _ _ e
      simp only [List.length_cons, List.length_nil] at hl
      refine b_X8_writeGame_21 hn ht ⟨fun _ => cw_add hn y (by omega) (r32c rfl) (fun σ1 h1 => by rw [e] at h1; exact h1), fun _ => (sp_thasN hn ht (y.ctr ht hC).2.2.1 hk (r32c rfl) (by omega)).mono ?_⟩
      rintro v _ - ⟨rfl, rfl⟩
      exact ⟨fun _ => cw_add hn y (by omega) (r32c rfl) (fun σ1 h1 => by rw [e] at h1; exact h1), fun z => absurd rfl z⟩
    · rw [wS_eq hW.fst hi] at e
      have e' : acc ++ wNd m c T i ++ (wKd T k (wS m c T k) i k ++ wA m c T k i) = wF m c T k := by rw [← e]; simp
      have hl := hle _ _ e'
      rw [List.length_append] at hl
      have hnd : 1 ≤ c59 (wNd m c T i) := by
        unfold wNd
        rw [c59_a]
        show 1 ≤ 1 + _
        omega
      have hlt : c59 acc + 1 ≤ k := by
        have := h59
        rw [← e', c59_a, c59_a] at this
        omega
      refine b_X8_writeGame_21 hn ht ⟨fun z => by omega, fun _ => (sp_thasY hn ht (y.ctr ht hC).2.2.1 hk hi).mono ?_⟩
      rintro v _ - ⟨rfl, rfl⟩
      refine ⟨fun z => by omega, fun _ => cw_node hn hq ht hC hW hc0 hc1 hi y (by omega) (fun σ1 h1 => (cw_next (d := d + 3) hn ht hC hW hF hi h1 e').mono ?_)⟩
      rintro v2 σ2 - ⟨acc2, y2, q59, hx2⟩
      have q59' : c59 acc2 = c59 acc + c59 (wNd m c T i) := by rw [q59, c59_a]
      exact ⟨⟨by omega, by omega⟩, ih acc2 v2 (x3 + 1) σ2 (by omega) (by omega) (by omega) y2 hx2⟩
theorem cw_game (hn : 73 ≤ n) {q : Nat → Nat} (hq : ZTx X q) (ht : zIsT t) (hC : CTr σ t m k c T) (hW : TW m k T) (hk0 : 0 < k) (hc0 : -200 ≤ c) (hc1 : c ≤ 200) (hF : (wF m c T k).length ≤ 4096) (h59 : c59 (wF m c T k) ≤ k) : ZkV X M_X8_writeGame (d + 8) n [.ref (zB X + 52), .ref (zB X + t)] σ (CWo σ (wF m c T k)) := by
  have y0 : CWo σ [] (sI σ 31 1 0) := ⟨⟨by rw [gI_same]; rfl, fun i hi => by simp at hi⟩, Fr.rf.sI (Or.inr ⟨rfl, rfl⟩)⟩
  refine w_X8_writeGame hn ht (cw_add hn y0 (by simp) (r32c rfl) (fun σ1 h1 => ?_))
  refine cw_round hn hq ht hC hW hc0 hc1 hF h59 (c59 (wF m c T k) + 1) ([] ++ [40]) 0 0 σ1 (by omega) (by omega) (by omega) h1 (Or.inr ⟨0, hk0, rfl, ?_⟩)
  rw [wA_0 hk0]
  rfl
theorem sx_write (hn : 73 ≤ n) {q : Nat → Nat} (hq : ZTx X q) (ht : zIsT t) (hg : gP σ 0 0 = some t) (hC : CTr σ t m k c T) (hW : TW m k T) (hk0 : 0 < k) (hc0 : -200 ≤ c) (hc1 : c ≤ 200) (hF : (wF m c T k).length ≤ 4096) (h59 : c59 (wF m c T k) ≤ k) : ZkI X M_X9_write (d + 9) n [.ref (zB X + 0)] σ (fun v σ' => v = ((wF m c T k).length : Int) ∧ CWo σ (wF m c T k) σ') := by
  refine w_X9_write hn ⟨t, hg, ht, (cw_game hn hq ht hC hW hk0 hc0 hc1 hF h59).mono ?_⟩
  rintro σ1 h1
  exact ⟨h1.1.1, h1⟩
end ZCW
