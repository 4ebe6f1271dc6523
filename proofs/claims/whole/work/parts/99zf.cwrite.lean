/-! ===== the class writes ===== -/
def CW (σ : ZSto) (acc : List Int) : Prop := gI σ 31 1 = (acc.length : Int) ∧ ∀ i, i < acc.length → gI σ 32 i = w8 (acc.getD i 0)
def cwD (a i : Nat) : Prop := a = 32 ∨ (a = 31 ∧ i = 1)
def CWo (σ0 : ZSto) (acc : List Int) (σ : ZSto) : Prop := CW σ acc ∧ Fr cwD σ0 σ
theorem getD_l {l l' : List Int} {i : Nat} (h : i < l.length) : (l ++ l').getD i 0 = l.getD i 0 := by
  simp [List.getD_eq_getElem?_getD, List.getElem?_append, h]
theorem getD_e {l : List Int} {b : Int} : (l ++ [b]).getD l.length 0 = b := by
  simp [List.getD_eq_getElem?_getD]
theorem wPt_n {m : Nat} {p : Int} (h : p < 0) : wPt m p = [91, 93] := by unfold wPt; rw [if_pos h]
theorem wPt_y {m : Nat} {p : Int} (h : ¬ p < 0) : wPt m p = [91, 97 + p % (m : Int), 97 + p / (m : Int), 93] := by unfold wPt; rw [if_neg h]
theorem dm_r {m : Nat} {p : Int} (h3 : 3 ≤ m) (h9 : m ≤ 9) (h0 : 0 ≤ p) (h1 : p < (m * m : Nat)) : (0 ≤ p % (m : Int) ∧ p % (m : Int) < 9) ∧ (0 ≤ p / (m : Int) ∧ p / (m : Int) ≤ 81) := by
  have hm : (0 : Int) < m := by omega
  have a1 := Int.emod_nonneg p (show (m : Int) ≠ 0 by omega)
  have a2 := Int.emod_lt_of_pos p hm
  have a3 := Int.ediv_nonneg h0 (show (0 : Int) ≤ m by omega)
  have hmm : m * m ≤ 81 := sq_le h9
  have a4 : p / (m : Int) ≤ p := Int.ediv_le_self _ h0
  omega
section ZCW
variable {X : ZX} {d n : Nat} {σ σ0 : ZSto} {P : ZSto → Prop} {acc : List Int}
theorem cw_add (hn : 73 ≤ n) {b : Int} (h : CWo σ0 acc σ) (hl : acc.length + 1 ≤ 4096) (hb : R32 b) (k : ∀ σ', CWo σ0 (acc ++ [b]) σ' → P σ') : ZkV X M_X1_addByte (d + 1) n [.ref (zB X + 31), iV b] σ P := by
  refine (sp_addByte hn (Or.inr rfl) hb h.1.1 (by show acc.length < zYn 31; have : zYn 31 = 4096 := rfl; omega)).mono ?_
  rintro _ rfl
  refine k _ ⟨⟨?_, fun i hi => ?_⟩, (h.2.sI (Or.inl rfl)).sI (Or.inr ⟨rfl, rfl⟩)⟩
  · rw [gI_same]; simp
  · rw [gI_c (by omega)]
    by_cases e : i = acc.length
    · subst e
      rw [gI_same, getD_e]
    · have hi2 : i < acc.length := by simp at hi; omega
      rw [gI_f e, getD_l hi2]
      exact h.1.2 i hi2
theorem cw_text (hn : 73 ≤ n) {a : Nat} {b0 b1 : Int} (hT : ZSta X) (hS : ZStr X a b0 b1) (hb0 : 0 ≤ b0 ∧ b0 < 128) (hb1 : 0 ≤ b1 ∧ b1 < 128) (h : CWo σ0 acc σ) (hl : acc.length + 2 ≤ 4096) (k : ∀ σ', CWo σ0 (acc ++ [b0, b1]) σ' → P σ') : ZkV X M_X1_addText (d + 5) n [.ref (zB X + 31), .ref a] σ P := by
  refine w_addText hn hT hS hb0 hb1 (cw_add hn h (by omega) ⟨by omega, by omega⟩ (fun σ1 h1 => cw_add hn h1 (by simp; omega) ⟨by omega, by omega⟩ (fun σ2 h2 => k σ2 ?_)))
  rw [List.append_assoc] at h2
  exact h2
theorem cw_point (hn : 73 ≤ n) {t m : Nat} {p : Int} (ht : zIsT t) (hm : gI σ0 t 13 = (m : Int)) (h3 : 3 ≤ m) (h9 : m ≤ 9) (hp : p = -1 ∨ (0 ≤ p ∧ p < (m * m : Nat))) (h : CWo σ0 acc σ) (hl : acc.length + (wPt m p).length ≤ 4096) (k : ∀ σ', CWo σ0 (acc ++ wPt m p) σ' → P σ') : ZkV X M_X8_writePoint (d + 2) n [.ref (zB X + 52), .ref (zB X + t), iV p] σ P := by
  have hmm : m * m ≤ 81 := sq_le h9
  have gm : ∀ τ acc', CWo σ0 acc' τ → gI τ t 13 = (m : Int) := fun τ acc' q => by rw [q.2.I (by unfold cwD; unfold zIsT at ht; omega)]; exact hm
  rcases hp with rfl | ⟨p0, p1⟩
  · rw [wPt_n (by decide)] at hl k
    simp at hl
    refine w_X8_writePoint hn ht (r32c rfl) (cw_add hn h (by omega) (r32c rfl) (fun σ1 h1 => ⟨fun _ => cw_add hn h1 (by simp; omega) (r32c rfl) (fun σ2 h2 => k σ2 ?_), fun q => absurd rfl q⟩))
    rw [List.append_assoc] at h2
    exact h2
  · rw [wPt_y (by omega)] at hl k
    simp at hl
    obtain ⟨⟨r1, r2⟩, r3, r4⟩ := dm_r h3 h9 p0 p1
    refine w_X8_writePoint hn ht ⟨by omega, by omega⟩ (cw_add hn h (by omega) (r32c rfl) (fun σ1 h1 => ⟨fun q => by omega, fun _ => ?_⟩))
    have g1 := gm _ _ h1
    rw [g1]
    refine ⟨fun q => by omega, fun _ => ⟨⟨by omega, by omega⟩, ⟨by omega, by omega⟩, cw_add hn h1 (by simp; omega) ⟨by omega, by omega⟩ (fun σ2 h2 => ?_)⟩⟩
    have g2 := gm _ _ h2
    rw [g2]
    refine ⟨⟨by omega, by omega⟩, cw_add hn h2 (by simp; omega) ⟨by omega, by omega⟩ (fun σ3 h3 => cw_add hn h3 (by simp; omega) (r32c rfl) (fun σ4 h4 => k σ4 ?_))⟩
    simpa using h4
theorem cw_num (hn : 73 ≤ n) {v : Int} (h0 : -200 ≤ v) (h1 : v ≤ 200) (h : CWo σ0 acc σ) (hl : acc.length + (wNum v).length ≤ 4096) (k : ∀ σ', CWo σ0 (acc ++ wNum v) σ' → P σ') : ZkV X M_X8_writeNumber (d + 2) n [.ref (zB X + 52), iV v] σ P := by
  obtain ⟨u, eu⟩ : ∃ u : Int, absI v = u := ⟨_, rfl⟩
  have hu : 0 ≤ u ∧ u ≤ 200 := by rw [← eu]; unfold absI; split <;> omega
  unfold wNum at hl k
  rw [eu] at hl k
  obtain ⟨A, eA⟩ : ∃ A : List Int, (if v < 0 then [45] else []) = A := ⟨_, rfl⟩
  obtain ⟨B, eB⟩ : ∃ B : List Int, (if 100 ≤ u then [48 + u / 100] else []) = B := ⟨_, rfl⟩
  obtain ⟨C, eC⟩ : ∃ C : List Int, (if 10 ≤ u then [48 + u / 10 % 10] else []) = C := ⟨_, rfl⟩
  rw [eA, eB, eC] at hl k
  simp only [List.length_append, List.length_cons, List.length_nil] at hl
  -- the last three
  have l3 : ∀ τ, CWo σ0 (acc ++ ([91] ++ (A ++ B))) τ → L_X8_writeNumber_50 X (d + 1) n (zpV P) u τ := by
    intro τ q
    refine b_X8_writeNumber_50 hn ⟨fun z => ⟨⟨by omega, by omega⟩, ?_⟩, fun z => ⟨⟨by omega, by omega⟩, ⟨by omega, by omega⟩, ?_⟩⟩
    · rw [if_neg (by omega)] at eC
      subst eC
      refine cw_add hn q (by simp; omega) ⟨by omega, by omega⟩ (fun σ2 h2 => cw_add hn h2 (by simp; omega) (r32c rfl) (fun σ3 h3 => k σ3 ?_))
      simpa using h3
    · rw [if_pos (by omega)] at eC
      subst eC
      refine cw_add hn q (by simp at hl ⊢; omega) ⟨by omega, by omega⟩ (fun σ2 h2 => cw_add hn h2 (by simp at hl ⊢; omega) ⟨by omega, by omega⟩ (fun σ3 h3 => cw_add hn h3 (by simp at hl ⊢; omega) (r32c rfl) (fun σ4 h4 => k σ4 ?_)))
      simpa using h4
  have l2 : ∀ τ, CWo σ0 (acc ++ ([91] ++ A)) τ → L_X8_writeNumber_22 X (d + 1) n (zpV P) v τ := by
    intro τ q
    refine b_X8_writeNumber_22 hn ?_
    rw [eu]
    refine ⟨⟨by omega, by omega⟩, fun z => l3 τ ?_, fun z => ⟨⟨by omega, by omega⟩, ⟨by omega, by omega⟩, ?_⟩⟩
    · rw [if_neg (by omega)] at eB
      subst eB
      simpa using q
    · rw [if_pos (by omega)] at eB
      have e1 : u / 100 % 10 = u / 100 := by omega
      rw [e1]
      subst eB
      refine cw_add hn q (by simp at hl ⊢; omega) ⟨by omega, by omega⟩ (fun σ2 h2 => l3 σ2 ?_)
      simpa using h2
  refine w_X8_writeNumber hn ⟨by omega, by omega⟩ (cw_add hn h (by omega) (r32c rfl) (fun σ1 h1 => ⟨fun z => l2 σ1 ?_, fun z => ?_⟩))
  · rw [if_neg (by omega)] at eA
    subst eA
    simpa using h1
  · rw [if_pos (by omega)] at eA
    subst eA
    refine cw_add hn h1 (by simp at hl ⊢; omega) (r32c rfl) (fun σ2 h2 => l2 σ2 ?_)
    simpa using h2
theorem cw_head (hn : 73 ≤ n) {q : Nat → Nat} (hq : ZTx X q) {t m : Nat} {c : Int} (ht : zIsT t) (hm : gI σ0 t 13 = (m : Int)) (hc : gI σ0 t 14 = c) (h9 : m ≤ 9) (hc0 : -200 ≤ c) (hc1 : c ≤ 200) (h : CWo σ0 acc σ) (hl : acc.length + (wHd m c).length ≤ 4096) (k : ∀ σ', CWo σ0 (acc ++ wHd m c) σ' → P σ') : ZkV X M_X8_writeHead (d + 6) n [.ref (zB X + 52), .ref (zB X + t)] σ P := by
  have gm : ∀ τ acc' j, CWo σ0 acc' τ → j = 13 ∨ j = 14 → gI τ t j = gI σ0 t j := fun τ acc' j q hj => q.2.I (by unfold cwD; unfold zIsT at ht; omega)
  unfold wHd at hl k
  simp only [List.length_append, List.length_cons, List.length_nil] at hl
  refine w_X8_writeHead hn hq ht (cw_text hn hq.1 hq.2.1.2 (by decide) (by decide) h (by omega) (fun σ1 h1 => ?_))
  rw [gm _ _ 13 h1 (Or.inl rfl), hm]
  refine cw_num hn (by omega) (by omega) h1 (by simp; omega) (fun σ2 h2 => ?_)
  rw [gm _ _ 14 h2 (Or.inr rfl), hc]
  refine ⟨fun z => k σ2 ?_, fun z => ?_⟩
  · rw [if_pos z]
    simpa using h2
  · rw [if_neg z] at hl k
    simp only [List.length_append, List.length_cons, List.length_nil] at hl
    refine cw_text hn hq.1 hq.2.2.1.2 (by decide) (by decide) h2 (by simp; omega) (fun σ3 h3 => ?_)
    rw [gm _ _ 14 h3 (Or.inr rfl), hc]
    refine cw_num hn hc0 hc1 h3 (by simp; omega) (fun σ4 h4 => k σ4 ?_)
    simpa using h4
end ZCW
