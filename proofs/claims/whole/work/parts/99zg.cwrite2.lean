/-! ===== the class writes: settings, nodes, the game ===== -/
section ZP
variable {m : Nat} {f : Nat → Int} {c b : Int}
theorem wPt_ne {p : Int} : wPt m p ≠ [] := by unfold wPt; split <;> simp
theorem wSp_y {p : Nat} (h : f p = c) : wSp m f c (p + 1) = wSp m f c p ++ wPt m (p : Int) := by
  show _ ++ _ = _
  rw [if_pos h]
theorem wSp_n {p : Nat} (h : ¬ f p = c) : wSp m f c (p + 1) = wSp m f c p := by
  show _ ++ _ = _
  rw [if_neg h]; simp
theorem wSe_n {p : Nat} (h : ¬ f p = c) : wSe m f c b (p + 1) = wSe m f c b p := by unfold wSe; rw [wSp_n h]
theorem wSe_0 {p : Nat} (h : wSp m f c p = []) : wSe m f c b p = [] := by unfold wSe; rw [if_pos h]
theorem wSe_1 {p : Nat} (h : ¬ wSp m f c p = []) : wSe m f c b p = [65, b] ++ wSp m f c p := by unfold wSe; rw [if_neg h]
theorem wSe_y0 {p : Nat} (h : f p = c) (e : wSp m f c p = []) : wSe m f c b (p + 1) = wSe m f c b p ++ ([65, b] ++ wPt m (p : Int)) := by
  have e2 : ¬ wSp m f c (p + 1) = [] := by rw [wSp_y h, e]; simpa using wPt_ne
  rw [wSe_1 e2, wSe_0 e, wSp_y h, e]; simp
theorem wSe_y1 {p : Nat} (h : f p = c) (e : ¬ wSp m f c p = []) : wSe m f c b (p + 1) = wSe m f c b p ++ wPt m (p : Int) := by
  have e2 : ¬ wSp m f c (p + 1) = [] := by rw [wSp_y h]; simp [e]
  rw [wSe_1 e2, wSe_1 e, wSp_y h]; simp
theorem wSe_mono {p : Nat} : ∀ r, (wSe m f c b p).length ≤ (wSe m f c b (p + r)).length := by
  intro r
  induction r with
  | zero => exact Nat.le_refl _
  | succ r ih =>
    refine Nat.le_trans ih ?_
    show (wSe m f c b (p + r)).length ≤ (wSe m f c b (p + r + 1)).length
    by_cases h : f (p + r) = c
    · by_cases e : wSp m f c (p + r) = []
      · rw [wSe_y0 h e, List.length_append]; omega
      · rw [wSe_y1 h e, List.length_append]; omega
    · rw [wSe_n h]; exact Nat.le_refl _
end ZP
section ZCW
variable {X : ZX} {d n : Nat} {σ σ0 : ZSto} {P : ZSto → Prop} {acc : List Int}
theorem cw_set (hn : 73 ≤ n) {t m s i : Nat} {b c cc : Int} {f : Nat → Int} (ht : zIsT t) (hm : gI σ0 t 13 = (m : Int)) (h3 : 3 ≤ m) (h9 : m ≤ 9) (hT : ZSta X) (hS : ZStr X s 65 b) (hb : 0 ≤ b ∧ b < 128) (hi : i < 250) (hf : B4 (m * m) (fun p => stC (f p)))
    (hw : ∀ w, w < 3 → gL σ0 (t + 13) (3 * i + w) = lN (pkW (fun p => stC (f p)) (m * m) w)) (hcc : ∀ p, stC (f p) = cc ↔ f p = c) (hr : R32 cc) (h : CWo σ0 acc σ) (hl : acc.length + (wSe m f c b (m * m)).length ≤ 4096) (k : ∀ σ', CWo σ0 (acc ++ wSe m f c b (m * m)) σ' → P σ') :
    ZkV X M_X8_writeSetting (d + 6) n [.ref (zB X + 52), .ref (zB X + t), iV (i : Int), iV cc, .ref s] σ P := by
  have hmm : m * m ≤ 81 := sq_le h9
  have emm : (m : Int) * (m : Int) = ((m * m : Nat) : Int) := by simp
  have ht2 : t = 1 ∨ t = 15 := ht
  have e3 : (i : Int) * 3 = ((3 * i : Nat) : Int) := by omega
  have key : ∀ r p τ (fl : Int), p + r = m * m → CWo σ0 (acc ++ wSe m f c b p) τ → ((wSp m f c p = [] ∧ fl = 0) ∨ (¬ wSp m f c p = [] ∧ fl = 1)) → L_X8_writeSetting_6 X (d + 5) n (zpV P) t (i : Int) cc s fl (p : Int) τ := by
    intro r
    induction r with
    | zero =>
      intro p τ fl hp q hfl
      have : p = m * m := by omega
      subst this
      refine b_X8_writeSetting_6 hn ht ?_
      rw [q.2.I (by unfold cwD; omega), hm, emm]
      exact ⟨⟨by omega, by omega⟩, fun _ => k τ q, fun z => by omega⟩
    | succ r ih =>
      intro p τ fl hp q hfl
      have hmo := wSe_mono (m := m) (f := f) (c := c) (b := b) (p := p + 1) r
      rw [show p + 1 + r = m * m by omega] at hmo
      refine b_X8_writeSetting_6 hn ht ?_
      rw [q.2.I (by unfold cwD; omega), hm, emm, e3]
      refine ⟨⟨by omega, by omega⟩, fun z => by omega, fun _ => ?_⟩
      have hsh : SH (t + 13) = some (.inl (.long, 750)) := by rcases ht2 with rfl | rfl <;> rfl
      refine (sp_pairAt hn (a := t + 13) (by omega) hsh hf (by omega) (by omega) (by omega) (fun w hw3 => by rw [q.2.L (by unfold cwD; omega)]; exact hw w hw3)).mono ?_
      rintro v _ - ⟨rfl, rfl⟩
      refine ⟨fun z => ⟨⟨by omega, by omega⟩, ?_⟩, fun z => ?_⟩
      · have hne : ¬ f p = c := fun y => z ((hcc p).mpr y)
        have := ih (p + 1) τ fl (by omega) (by rw [wSe_n hne]; exact q) (by rw [wSp_n hne]; exact hfl)
        exact this
      · have hy : f p = c := (hcc p).mp z
        rcases hfl with ⟨e, rfl⟩ | ⟨e, rfl⟩
        · rw [wSe_y0 hy e] at hmo
          simp only [List.length_append, List.length_cons, List.length_nil] at hmo
          refine ⟨fun z2 => absurd rfl z2, fun _ => cw_text hn hT hS (by decide) hb q (by simp; omega) (fun σ1 h1 => cw_point hn ht hm h3 h9 (Or.inr ⟨by omega, by omega⟩) h1 (by simp; omega) (fun σ2 h2 => ⟨⟨by omega, by omega⟩, ?_⟩))⟩
          exact ih (p + 1) σ2 1 (by omega) (by rw [wSe_y0 hy e]; simpa using h2) (Or.inr ⟨by rw [wSp_y hy]; simpa using fun _ => wPt_ne, rfl⟩)
        · rw [wSe_y1 hy e] at hmo
          simp only [List.length_append] at hmo
          refine ⟨fun _ => cw_point hn ht hm h3 h9 (Or.inr ⟨by omega, by omega⟩) q (by simp; omega) (fun σ2 h2 => ⟨⟨by omega, by omega⟩, ?_⟩), fun z2 => by omega⟩
          exact ih (p + 1) σ2 1 (by omega) (by rw [wSe_y1 hy e]; simpa using h2) (Or.inr ⟨by rw [wSp_y hy]; simp [e], rfl⟩)
  refine w_X8_writeSetting hn ht ⟨by omega, by omega⟩ hr (key (m * m) 0 σ 0 (by omega) ?_ (Or.inl ⟨rfl, rfl⟩))
  rw [wSe_0 rfl]
  simpa using h
theorem stC_1 {x : Int} (h0 : 0 ≤ x) (h3 : x ≤ 3) : (stC x = 1 ↔ x = 1) ∧ (stC x = 2 ↔ x = 2) ∧ (stC x = 3 ↔ x = 0) := by
  unfold stC
  by_cases a : x = 3
  · rw [if_pos a]; omega
  · rw [if_neg a]
    by_cases b : x = 0
    · rw [if_pos b]; omega
    · rw [if_neg b]; omega
theorem CWo.ctr {t m k : Nat} {c : Int} {T : ATr} (h : CWo σ0 acc σ) (ht : zIsT t) (hC : CTr σ0 t m k c T) : CTr σ t m k c T := hC.kept h.2 (fun a i y => by have ht2 : t = 1 ∨ t = 15 := ht; unfold ctrD at y; unfold cwD; omega)
theorem cw_node (hn : 73 ≤ n) {q : Nat → Nat} (hq : ZTx X q) {t m k i : Nat} {c : Int} {T : ATr} (ht : zIsT t) (hC : CTr σ0 t m k c T) (hW : TW m k T) (hc0 : -200 ≤ c) (hc1 : c ≤ 200) (hi : i < k) (h : CWo σ0 acc σ) (hl : acc.length + (wNd m c T i).length ≤ 4096) (kk : ∀ σ', CWo σ0 (acc ++ wNd m c T i) σ' → P σ') :
    ZkV X M_X8_writeNode (d + 7) n [.ref (zB X + 52), .ref (zB X + t), iV (i : Int)] σ P := by
  have h3 := hW.1
  have h9 := hW.2.1
  have hk := hW.2.2.1
  have ti : ((i : Int)).toNat = i := by omega
  obtain ⟨n1, n2, n3, n4, n5, n6, n7, n8, n9, n10, n11, n12, n13, n14, n15, n16, n17, n18, n19⟩ := hW.2.2.2 i hi
  obtain ⟨c1, c2, c3, c4, c5, c6, c7, c8, c9⟩ := hC.2.2.2.1 i hi
  have hB : B4 (m * m) (fun p => stC (tSet T i p)) := stC_b4 n18
  unfold wNd at hl kk
  obtain ⟨A, eA⟩ : ∃ A : List Int, (if i = 0 then wHd m c else []) = A := ⟨_, rfl⟩
  rw [eA] at hl kk
  have rest : ∀ τ, CWo σ0 (acc ++ ([59] ++ A)) τ → L_X8_writeNode_18 X (d + 6) n (zpV P) t (i : Int) τ := by
    intro τ y
    have ht2 : t = 1 ∨ t = 15 := ht
    have ec : ∀ τ' acc' j, CWo σ0 acc' τ' → 7 ≤ j → j ≤ 9 → gI τ' (t + j) i = gI σ0 (t + j) i := fun τ' acc' j y' j1 j2 => y'.2.I (by unfold cwD; omega)
    refine b_X8_writeNode_18 hn hq ht ?_
    rw [ti, ec _ _ 7 y (by omega) (by omega), ec _ _ 8 y (by omega) (by omega), c3, c4]
    refine ⟨⟨by omega, by omega⟩, fun z => ?_, fun z => ?_⟩
    · rw [if_neg z] at hl kk
      have hp : tPnt T i = -1 ∨ (0 ≤ tPnt T i ∧ tPnt T i < (m * m : Nat)) := by
        rcases n3 with e | e | e
        · exact absurd e z
        · exact Or.inr (n6 e)
        · exact Or.inl (n7 e)
      refine ⟨fun z2 => ?_, fun z2 => ?_⟩
      · rw [if_neg z2] at hl kk
        simp only [List.length_append, List.length_cons, List.length_nil] at hl
        refine cw_add hn y (by simp; omega) (r32c rfl) (fun σ1 h1 => ?_)
        rw [ec _ _ 9 h1 (by omega) (by omega), c5]
        refine cw_point hn ht hC.1 h3 h9 hp h1 (by simp; omega) (fun σ2 h2 => kk σ2 ?_)
        simpa using h2
      · rw [if_pos z2] at hl kk
        simp only [List.length_append, List.length_cons, List.length_nil] at hl
        refine cw_add hn y (by simp; omega) (r32c rfl) (fun σ1 h1 => ?_)
        rw [ec _ _ 9 h1 (by omega) (by omega), c5]
        refine cw_point hn ht hC.1 h3 h9 hp h1 (by simp; omega) (fun σ2 h2 => kk σ2 ?_)
        simpa using h2
    · rw [if_pos z] at hl kk
      simp only [List.length_append, List.length_cons, List.length_nil] at hl
      refine cw_set hn ht hC.1 h3 h9 hq.1 hq.2.2.2.1.2 (by decide) (by omega) hB c9 (fun p => (stC_1 (n18 p).1 (n18 p).2).1) (r32c rfl) y (by simp; omega) (fun σ1 h1 => ?_)
      refine cw_set hn ht hC.1 h3 h9 hq.1 hq.2.2.2.2.1.2 (by decide) (by omega) hB c9 (fun p => (stC_1 (n18 p).1 (n18 p).2).2.1) (r32c rfl) h1 (by simp; omega) (fun σ2 h2 => ?_)
      refine cw_set hn ht hC.1 h3 h9 hq.1 hq.2.2.2.2.2.2 (by decide) (by omega) hB c9 (fun p => (stC_1 (n18 p).1 (n18 p).2).2.2) (r32c rfl) h2 (by simp; omega) (fun σ3 h3 => kk σ3 ?_)
      simpa using h3
  simp only [List.length_append, List.length_cons, List.length_nil] at hl
  refine w_X8_writeNode hn hq ht ⟨by omega, by omega⟩ (cw_add hn h (by omega) (r32c rfl) (fun σ1 h1 => ⟨fun z => rest σ1 ?_, fun z => ?_⟩))
  · rw [if_neg (by omega)] at eA
    subst eA
    simpa using h1
  · rw [if_pos (by omega)] at eA
    subst eA
    refine cw_head hn hq ht hC.1 hC.2.1 h9 hc0 hc1 h1 (by simp; omega) (fun σ2 h2 => rest σ2 ?_)
    simpa using h2
end ZCW
