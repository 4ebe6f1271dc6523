/-! ===== the reference writes ===== -/
def RW (σ : ZSto) (acc : List Int) : Prop := gI σ 73 31 = (acc.length : Int) ∧ ∀ i, i < acc.length → gI σ 90 i = w8 (acc.getD i 0)
def rwD (a i : Nat) : Prop := a = 90 ∨ (a = 73 ∧ i = 31)
def RWo (σ0 : ZSto) (acc : List Int) (σ : ZSto) : Prop := RW σ acc ∧ Fr rwD σ0 σ
section ZRW
variable {X : ZX} {d n : Nat} {σ σ0 : ZSto} {P : ZSto → Prop} {acc : List Int}
theorem rw_add (hn : 104 ≤ n) {b : Int} (h : RWo σ0 acc σ) (hl : acc.length + 1 ≤ 4096) (hb : R32 b) (k : ∀ σ', RWo σ0 (acc ++ [b]) σ' → P σ') : ZkV X M_X10_puts (d + 1) n [.ref (zB X + 73), iV b] σ P := by
  refine w_X10_puts hn hb ?_
  rw [h.1.1]
  have tl : ((acc.length : Int)).toNat = acc.length := by omega
  rw [tl]
  refine ⟨⟨by omega, by omega⟩, ⟨by omega, by omega⟩, k _ ⟨⟨?_, fun i hi => ?_⟩, (h.2.sI (Or.inl rfl)).sI (Or.inr ⟨rfl, rfl⟩)⟩⟩
  · rw [gI_same]; simp
  · rw [gI_c (by omega)]
    by_cases e : i = acc.length
    · subst e
      rw [gI_same, getD_e]
    · have hi2 : i < acc.length := by simp at hi; omega
      rw [gI_f e, getD_l hi2]
      exact h.1.2 i hi2
theorem rw_point (hn : 104 ≤ n) {m : Nat} {p : Int} (hm : gI σ0 73 13 = (m : Int)) (h3 : 3 ≤ m) (h9 : m ≤ 9) (hp : p = -1 ∨ (0 ≤ p ∧ p < (m * m : Nat))) (h : RWo σ0 acc σ) (hl : acc.length + (wPt m p).length ≤ 4096) (k : ∀ σ', RWo σ0 (acc ++ wPt m p) σ' → P σ') : ZkV X M_X10_putsPoint (d + 2) n [.ref (zB X + 73), iV p] σ P := by
  have hmm : m * m ≤ 81 := sq_le h9
  have gm : ∀ τ acc', RWo σ0 acc' τ → gI τ 73 13 = (m : Int) := fun τ acc' q => by rw [q.2.I (by unfold rwD; omega)]; exact hm
  rcases hp with rfl | ⟨p0, p1⟩
  · rw [wPt_n (by decide)] at hl k
    simp at hl
    refine w_X10_putsPoint hn (r32c rfl) (rw_add hn h (by omega) (r32c rfl) (fun σ1 h1 => ⟨fun _ => rw_add hn h1 (by simp; omega) (r32c rfl) (fun σ2 h2 => k σ2 ?_), fun q => absurd (by decide) q⟩))
    rw [List.append_assoc] at h2
    exact h2
  · rw [wPt_y (by omega)] at hl k
    simp at hl
    obtain ⟨⟨r1, r2⟩, r3, r4⟩ := dm_r h3 h9 p0 p1
    refine w_X10_putsPoint hn ⟨by omega, by omega⟩ (rw_add hn h (by omega) (r32c rfl) (fun σ1 h1 => ⟨fun q => by omega, fun _ => ?_⟩))
    have g1 := gm _ _ h1
    rw [g1]
    refine ⟨⟨by omega, by omega⟩, ⟨by omega, by omega⟩, rw_add hn h1 (by simp; omega) ⟨by omega, by omega⟩ (fun σ2 h2 => ?_)⟩
    have g2 := gm _ _ h2
    rw [g2]
    refine ⟨⟨by omega, by omega⟩, rw_add hn h2 (by simp; omega) ⟨by omega, by omega⟩ (fun σ3 h3 => rw_add hn h3 (by simp; omega) (r32c rfl) (fun σ4 h4 => k σ4 ?_))⟩
    simpa using h4
theorem rw_num (hn : 104 ≤ n) {v : Int} (h0 : -200 ≤ v) (h1 : v ≤ 200) (h : RWo σ0 acc σ) (hl : acc.length + (wNum v).length ≤ 4096) (k : ∀ σ', RWo σ0 (acc ++ wNum v) σ' → P σ') : ZkV X M_X10_putsNumber (d + 2) n [.ref (zB X + 73), iV v] σ P := by
  obtain ⟨u, eu⟩ : ∃ u : Int, absI v = u := ⟨_, rfl⟩
  have hu : 0 ≤ u ∧ u ≤ 200 := by rw [← eu]; unfold absI; split <;> omega
  have hu2 : (0 ≤ v → u = v) ∧ (¬ 0 ≤ v → u = -v) := by rw [← eu]; unfold absI; split <;> omega
  unfold wNum at hl k
  rw [eu] at hl k
  obtain ⟨A, eA⟩ : ∃ A : List Int, (if v < 0 then [45] else []) = A := ⟨_, rfl⟩
  obtain ⟨B, eB⟩ : ∃ B : List Int, (if 100 ≤ u then [48 + u / 100] else []) = B := ⟨_, rfl⟩
  obtain ⟨C, eC⟩ : ∃ C : List Int, (if 10 ≤ u then [48 + u / 10 % 10] else []) = C := ⟨_, rfl⟩
  rw [eA, eB, eC] at hl k
  simp only [List.length_append, List.length_cons, List.length_nil] at hl
  have l3 : ∀ τ, RWo σ0 (acc ++ ([91] ++ (A ++ B))) τ → L_X10_putsNumber_44 X (d + 1) n (zpV P) u τ := by
    intro τ q
    refine b_X10_putsNumber_44 hn ⟨fun z => ⟨⟨by omega, by omega⟩, ?_⟩, fun z => ⟨⟨by omega, by omega⟩, ⟨by omega, by omega⟩, ?_⟩⟩
    · rw [if_neg (by omega)] at eC
      subst eC
      refine rw_add hn q (by simp; omega) ⟨by omega, by omega⟩ (fun σ2 h2 => rw_add hn h2 (by simp; omega) (r32c rfl) (fun σ3 h3 => k σ3 ?_))
      simpa using h3
    · rw [if_pos (by omega)] at eC
      subst eC
      refine rw_add hn q (by simp at hl ⊢; omega) ⟨by omega, by omega⟩ (fun σ2 h2 => rw_add hn h2 (by simp at hl ⊢; omega) ⟨by omega, by omega⟩ (fun σ3 h3 => rw_add hn h3 (by simp at hl ⊢; omega) (r32c rfl) (fun σ4 h4 => k σ4 ?_)))
      simpa using h4
  have l2 : ∀ τ, RWo σ0 (acc ++ ([91] ++ A)) τ → L_X10_putsNumber_27 X (d + 1) n (zpV P) u τ := by
    intro τ q
    refine b_X10_putsNumber_27 hn ⟨fun z => l3 τ ?_, fun z => ⟨⟨by omega, by omega⟩, ?_⟩⟩
    · rw [if_neg (by omega)] at eB
      subst eB
      simpa using q
    · rw [if_pos (by omega)] at eB
      subst eB
      refine rw_add hn q (by simp at hl ⊢; omega) ⟨by omega, by omega⟩ (fun σ2 h2 => l3 σ2 ?_)
      simpa using h2
  have l1 : ∀ τ, RWo σ0 (acc ++ [91]) τ → L_X10_putsNumber_16 X (d + 1) n (zpV P) v u τ := by
    intro τ q
    refine b_X10_putsNumber_16 hn ⟨fun z => l2 τ ?_, fun z => ?_⟩
    · rw [if_neg (by omega)] at eA
      subst eA
      simpa using q
    · rw [if_pos (by omega)] at eA
      subst eA
      refine rw_add hn q (by simp at hl ⊢; omega) (r32c rfl) (fun σ2 h2 => l2 σ2 ?_)
      simpa using h2
  refine w_X10_putsNumber hn ⟨by omega, by omega⟩ (rw_add hn h (by omega) (r32c rfl) (fun σ1 h1 => ⟨fun z => ?_, fun z => ⟨⟨by omega, by omega⟩, ?_⟩⟩))
  · have := l1 σ1 h1
    rw [hu2.1 z] at this
    exact this
  · have := l1 σ1 h1
    rw [hu2.2 z] at this
    exact this
theorem rw_set (hn : 104 ≤ n) {m x : Nat} {x2 b c : Int} {f : Nat → Int} (hm : gI σ0 73 13 = (m : Int)) (h3 : 3 ≤ m) (h9 : m ≤ 9) (hx : x < 500) (hb : (x2 = 1 ∧ b = 66 ∧ c = 1) ∨ (x2 = 2 ∧ b = 87 ∧ c = 2) ∨ (x2 = 3 ∧ b = 69 ∧ c = 0))
    (hs : ∀ p, p < 81 → gI σ0 80 (81 * x + p) = f p) (hl : acc.length + (wSe m f c b (m * m)).length ≤ 4096) (k : ∀ σ', RWo σ0 (acc ++ wSe m f c b (m * m)) σ' → L_X10_putsNode_120 X (d + 2) n (zpV P) (x : Int) (x2 + 1) σ') (h : RWo σ0 acc σ) : L_X10_putsNode_130 X (d + 2) n (zpV P) (x : Int) x2 0 0 σ := by
  have hmm : m * m ≤ 81 := sq_le h9
  have emm : (m : Int) * (m : Int) = ((m * m : Nat) : Int) := by simp
  have ec : x2 % 3 = c := by omega
  have key : ∀ r p τ (fl : Int), p + r = m * m → RWo σ0 (acc ++ wSe m f c b p) τ → ((wSp m f c p = [] ∧ fl = 0) ∨ (¬ wSp m f c p = [] ∧ fl = 1)) → L_X10_putsNode_130 X (d + 2) n (zpV P) (x : Int) x2 fl (p : Int) τ := by
    intro r
    induction r with
    | zero =>
      intro p τ fl hp q hfl
      have : p = m * m := by omega
      subst this
      refine b_X10_putsNode_130 hn ?_
      rw [q.2.I (by unfold rwD; omega), hm, emm]
      exact ⟨⟨by omega, by omega⟩, fun _ => ⟨⟨by omega, by omega⟩, k τ q⟩, fun z => by omega⟩
    | succ r ih =>
      intro p τ fl hp q hfl
      have hmo := wSe_mono (m := m) (f := f) (c := c) (b := b) (p := p + 1) r
      rw [show p + 1 + r = m * m by omega] at hmo
      have e80 : gI τ 80 ((81 * (x : Int) + (p : Int)).toNat) = f p := by
        rw [show (81 * (x : Int) + (p : Int)).toNat = 81 * x + p by omega, q.2.I (by unfold rwD; omega)]
        exact hs p (by omega)
      refine b_X10_putsNode_130 hn ?_
      rw [q.2.I (a := 73) (i := 13) (by unfold rwD; omega), hm, emm, e80, ec]
      refine ⟨⟨by omega, by omega⟩, fun z => by omega, fun _ => ⟨⟨by omega, by omega⟩, ⟨by omega, by omega⟩, ⟨by omega, by omega⟩, fun hy => ?_, fun hne => ⟨⟨by omega, by omega⟩, ?_⟩⟩⟩
      · rcases hfl with ⟨e, rfl⟩ | ⟨e, rfl⟩
        · rw [wSe_y0 hy e] at hmo
          simp only [List.length_append, List.length_cons, List.length_nil] at hmo
          have fin : ∀ σ2, RWo σ0 (acc ++ wSe m f c b p ++ [65] ++ [b] ++ wPt m (p : Int)) σ2 → R32 ((p : Int) + 1) ∧ L_X10_putsNode_130 X (d + 2) n (zpV P) (x : Int) x2 1 ((p : Int) + 1) σ2 := fun σ2 h2 => ⟨⟨by omega, by omega⟩, ih (p + 1) σ2 1 (by omega) (by rw [wSe_y0 hy e]; simpa using h2) (Or.inr ⟨by rw [wSp_y hy]; simpa using fun _ => wPt_ne, rfl⟩)⟩
          refine ⟨fun z2 => absurd rfl z2, fun _ => rw_add hn q (by simp; omega) (r32c rfl) (fun σ1 h1 => ?_)⟩
          rcases hb with ⟨rfl, rfl, rfl⟩ | ⟨rfl, rfl, rfl⟩ | ⟨rfl, rfl, rfl⟩
          · exact ⟨fun z => absurd rfl z, fun _ => rw_add hn h1 (by simp; omega) (r32c rfl) (fun σ2 h2 => rw_point hn hm h3 h9 (Or.inr ⟨by omega, by omega⟩) h2 (by simp; omega) fin)⟩
          · exact ⟨fun _ => ⟨fun z => absurd rfl z, fun _ => rw_add hn h1 (by simp; omega) (r32c rfl) (fun σ2 h2 => rw_point hn hm h3 h9 (Or.inr ⟨by omega, by omega⟩) h2 (by simp; omega) fin)⟩, fun z => absurd z (by decide)⟩
          · exact ⟨fun _ => ⟨fun _ => rw_add hn h1 (by simp; omega) (r32c rfl) (fun σ2 h2 => rw_point hn hm h3 h9 (Or.inr ⟨by omega, by omega⟩) h2 (by simp; omega) fin), fun z => absurd z (by decide)⟩, fun z => absurd z (by decide)⟩
        · rw [wSe_y1 hy e] at hmo
          simp only [List.length_append] at hmo
          refine ⟨fun _ => rw_point hn hm h3 h9 (Or.inr ⟨by omega, by omega⟩) q (by simp; omega) (fun σ2 h2 => ⟨⟨by omega, by omega⟩, ?_⟩), fun z2 => by omega⟩
          exact ih (p + 1) σ2 1 (by omega) (by rw [wSe_y1 hy e]; simpa using h2) (Or.inr ⟨by rw [wSp_y hy]; simp [e], rfl⟩)
      · exact ih (p + 1) τ fl (by omega) (by rw [wSe_n hne]; exact q) (by rw [wSp_n hne]; exact hfl)
  refine key (m * m) 0 σ 0 (by omega) ?_ (Or.inl ⟨rfl, rfl⟩)
  rw [wSe_0 rfl]
  simpa using h
theorem RWo.mtr {g m k : Nat} {c : Int} {T : ATr} (h : RWo σ0 acc σ) (hg : g < 2) (hk : k ≤ 250) (hM : MTr σ0 g m k c T) : MTr σ g m k c T := hM.kept hk h.2 (fun a i y => by unfold mtrD at y; unfold rwD; omega)
theorem rw_node (hn : 104 ≤ n) {g m k i : Nat} {c : Int} {T : ATr} (hg : g < 2) (hg2 : gI σ0 73 10 = (g : Int)) (hm : gI σ0 73 13 = (m : Int)) (hM : MTr σ0 g m k c T) (hW : TW m k T) (hc0 : -200 ≤ c) (hc1 : c ≤ 200) (hi : i < k) (h : RWo σ0 acc σ) (hl : acc.length + (wNd m c T i).length ≤ 4096) (kk : ∀ σ', RWo σ0 (acc ++ wNd m c T i) σ' → P σ') :
    ZkV X M_X10_putsNode (d + 3) n [.ref (zB X + 73), iV ((250 * g + i : Nat) : Int)] σ P := by
  have h3 := hW.1
  have h9 := hW.2.1
  have hk := hW.2.2.1
  have tx : (((250 * g + i : Nat) : Int)).toNat = 250 * g + i := by omega
  have tg : ((g : Int)).toNat = g := by omega
  obtain ⟨n1, n2, n3, n4, n5, n6, n7, n8, n9, n10, n11, n12, n13, n14, n15, n16, n17, n18, n19⟩ := hW.2.2.2 i hi
  obtain ⟨c1, c2, c3, c4, c5, c6, c7⟩ := hM.2.2.2 i hi
  unfold wNd at hl kk
  obtain ⟨A, eA⟩ : ∃ A : List Int, (if i = 0 then wHd m c else []) = A := ⟨_, rfl⟩
  rw [eA] at hl kk
  have ec : ∀ τ' acc' a, RWo σ0 acc' τ' → 74 ≤ a → a ≤ 83 → ∀ j, gI τ' a j = gI σ0 a j := fun τ' acc' a y' j1 j2 j => y'.2.I (by unfold rwD; omega)
  have rest : ∀ τ, RWo σ0 (acc ++ ([59] ++ A)) τ → L_X10_putsNode_77 X (d + 2) n (zpV P) ((250 * g + i : Nat) : Int) τ := by
    intro τ y
    refine b_X10_putsNode_77 hn ?_
    rw [tx, ec _ _ 75 y (by omega) (by omega), ec _ _ 76 y (by omega) (by omega), c2, c3]
    refine ⟨⟨by omega, by omega⟩, fun z => ?_, fun z => ?_⟩
    · rw [if_pos z] at hl kk
      simp only [List.length_append, List.length_cons, List.length_nil] at hl
      refine b_X10_putsNode_120 hn ⟨fun q => by omega, fun _ => ?_⟩
      refine rw_set hn (b := 66) (c := 1) hm h3 h9 (by omega) (Or.inl ⟨rfl, rfl, rfl⟩) c7 (by simp; omega) (fun σ1 h1 => ?_) y
      refine b_X10_putsNode_120 hn ⟨fun q => by omega, fun _ => ?_⟩
      refine rw_set hn (b := 87) (c := 2) hm h3 h9 (by omega) (Or.inr (Or.inl ⟨by decide, rfl, rfl⟩)) c7 (by simp; omega) (fun σ2 h2 => ?_) h1
      refine b_X10_putsNode_120 hn ⟨fun q => by omega, fun _ => ?_⟩
      refine rw_set hn (b := 69) (c := 0) hm h3 h9 (by omega) (Or.inr (Or.inr ⟨by decide, rfl, rfl⟩)) c7 (by simp; omega) (fun σ3 h3 => ?_) h2
      refine b_X10_putsNode_120 hn ⟨fun _ => kk σ3 ?_, fun q => by omega⟩
      simpa using h3
    · rw [if_neg z] at hl kk
      have hp : tPnt T i = -1 ∨ (0 ≤ tPnt T i ∧ tPnt T i < (m * m : Nat)) := by
        rcases n3 with e | e | e
        · exact absurd e z
        · exact Or.inr (n6 e)
        · exact Or.inl (n7 e)
      refine ⟨fun z2 => ?_, fun z2 => ?_⟩
      · rw [if_neg z2] at hl kk
        simp only [List.length_append, List.length_cons, List.length_nil] at hl
        refine rw_add hn y (by simp; omega) (r32c rfl) (fun σ1 h1 => ?_)
        rw [ec _ _ 77 h1 (by omega) (by omega), c4]
        refine rw_point hn hm h3 h9 hp h1 (by simp; omega) (fun σ2 h2 => kk σ2 ?_)
        simpa using h2
      · rw [if_pos z2] at hl kk
        simp only [List.length_append, List.length_cons, List.length_nil] at hl
        refine rw_add hn y (by simp; omega) (r32c rfl) (fun σ1 h1 => ?_)
        rw [ec _ _ 77 h1 (by omega) (by omega), c4]
        refine rw_point hn hm h3 h9 hp h1 (by simp; omega) (fun σ2 h2 => kk σ2 ?_)
        simpa using h2
  simp only [List.length_append, List.length_cons, List.length_nil] at hl
  have e10 : ∀ τ' acc', RWo σ0 acc' τ' → gI τ' 73 10 = (g : Int) := fun τ' acc' y' => by rw [y'.2.I (by unfold rwD; omega)]; exact hg2
  refine w_X10_putsNode hn ⟨by omega, by omega⟩ (rw_add hn h (by omega) (r32c rfl) (fun σ1 h1 => ?_))
  rw [tx, ec _ _ 74 h1 (by omega) (by omega), c1]
  refine ⟨⟨by omega, by omega⟩, fun z => ?_, fun z => ?_⟩
  · have hi0 : ¬ i = 0 := by
      intro e0
      rw [if_pos (by rw [n1 e0]; decide)] at z
      omega
    rw [if_neg hi0] at eA
    subst eA
    exact rest σ1 (by simpa using h1)
  · have hi0 : i = 0 := by
      rcases Nat.eq_zero_or_pos i with e0 | e0
      · exact e0
      · have := n2 e0
        rw [if_neg (by omega)] at z
        omega
    rw [if_pos hi0] at eA
    subst eA
    unfold wHd at hl rest
    simp only [List.length_append, List.length_cons, List.length_nil] at hl
    refine rw_add hn h1 (by simp; omega) (r32c rfl) (fun σ2 h2 => rw_add hn h2 (by simp; omega) (r32c rfl) (fun σ3 h3 => ?_))
    rw [e10 _ _ h3, tg, ec _ _ 82 h3 (by omega) (by omega), hM.1]
    refine ⟨⟨by omega, by omega⟩, rw_num hn (by omega) (by omega) h3 (by simp; omega) (fun σ4 h4 => ?_)⟩
    rw [e10 _ _ h4, tg, ec _ _ 83 h4 (by omega) (by omega), hM.2.1]
    refine ⟨⟨by omega, by omega⟩, fun z3 => ?_, fun z3 => ?_⟩
    · rw [if_pos z3] at rest
      exact rest σ4 (by simpa using h4)
    · rw [if_neg z3] at rest hl
      simp only [List.length_append, List.length_cons, List.length_nil] at hl
      refine rw_add hn h4 (by simp; omega) (r32c rfl) (fun σ5 h5 => rw_add hn h5 (by simp; omega) (r32c rfl) (fun σ6 h6 => ?_))
      rw [e10 _ _ h6, tg, ec _ _ 83 h6 (by omega) (by omega), hM.2.1]
      exact ⟨⟨by omega, by omega⟩, rw_num hn hc0 hc1 h6 (by simp; omega) (fun σ7 h7 => rest σ7 (by simpa using h7))⟩
end ZRW
