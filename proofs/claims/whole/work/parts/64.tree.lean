/-! ===== a loop that counts up ===== -/
theorem upto {I Q : Nat → ZSto → Prop} {N : Nat} (stop : ∀ σ, I N σ → Q N σ) (step : ∀ i σ, i < N → I i σ → (∀ σ', I (i + 1) σ' → Q (i + 1) σ') → Q i σ) : ∀ i σ, i ≤ N → I i σ → Q i σ := by
  have key : ∀ w i σ, N - i ≤ w → i ≤ N → I i σ → Q i σ := by
    intro w
    induction w with
    | zero =>
      intro i σ hw hi h
      have : i = N := by omega
      subst this
      exact stop σ h
    | succ w ih =>
      intro i σ hw hi h
      by_cases e : i = N
      · subst e; exact stop σ h
      · exact step i σ (by omega) h (fun σ' h' => ih (i + 1) σ' (by omega) (by omega) h')
  exact fun i σ hi h => key N i σ (by omega) hi h
/-! ===== games: nodes by number ===== -/
abbrev ATr : Type := (Nat → Nat → Int) × (Nat → Nat → Int) × (Nat → Nat → Int)
def tPar (T : ATr) (i : Nat) : Int := T.1 0 i
def tKnd (T : ATr) (i : Nat) : Int := T.1 1 i
def tCol (T : ATr) (i : Nat) : Int := T.1 2 i
def tPnt (T : ATr) (i : Nat) : Int := T.1 3 i
def tTok (T : ATr) (i : Nat) : Int := T.1 4 i
def tTrn (T : ATr) (i : Nat) : Int := T.1 5 i
def tDep (T : ATr) (i : Nat) : Int := T.1 6 i
def tBrd (T : ATr) (i : Nat) : Nat → Int := T.2.1 i
def tSet (T : ATr) (i : Nat) : Nat → Int := T.2.2 i
def addT (T : ATr) (k : Nat) (a0 a1 a2 a3 a4 a5 a6 : Int) (br st : Nat → Int) : ATr :=
  (fun c i => if i = k then (match c with | 0 => a0 | 1 => a1 | 2 => a2 | 3 => a3 | 4 => a4 | 5 => a5 | _ => a6) else T.1 c i, fun i => if i = k then br else T.2.1 i, fun i => if i = k then st else T.2.2 i)
section ZA
variable {T : ATr} {k : Nat} {a0 a1 a2 a3 a4 a5 a6 : Int} {br st : Nat → Int}
theorem addT_k : tPar (addT T k a0 a1 a2 a3 a4 a5 a6 br st) k = a0 ∧ tKnd (addT T k a0 a1 a2 a3 a4 a5 a6 br st) k = a1 ∧ tCol (addT T k a0 a1 a2 a3 a4 a5 a6 br st) k = a2 ∧ tPnt (addT T k a0 a1 a2 a3 a4 a5 a6 br st) k = a3 ∧ tTok (addT T k a0 a1 a2 a3 a4 a5 a6 br st) k = a4 ∧ tTrn (addT T k a0 a1 a2 a3 a4 a5 a6 br st) k = a5 ∧ tDep (addT T k a0 a1 a2 a3 a4 a5 a6 br st) k = a6 ∧ tBrd (addT T k a0 a1 a2 a3 a4 a5 a6 br st) k = br ∧ tSet (addT T k a0 a1 a2 a3 a4 a5 a6 br st) k = st := by
  refine ⟨?_, ?_, ?_, ?_, ?_, ?_, ?_, ?_, ?_⟩ <;> simp [addT, tPar, tKnd, tCol, tPnt, tTok, tTrn, tDep, tBrd, tSet]
theorem addT_n {i : Nat} (h : i ≠ k) : tPar (addT T k a0 a1 a2 a3 a4 a5 a6 br st) i = tPar T i ∧ tKnd (addT T k a0 a1 a2 a3 a4 a5 a6 br st) i = tKnd T i ∧ tCol (addT T k a0 a1 a2 a3 a4 a5 a6 br st) i = tCol T i ∧ tPnt (addT T k a0 a1 a2 a3 a4 a5 a6 br st) i = tPnt T i ∧ tTok (addT T k a0 a1 a2 a3 a4 a5 a6 br st) i = tTok T i ∧ tTrn (addT T k a0 a1 a2 a3 a4 a5 a6 br st) i = tTrn T i ∧ tDep (addT T k a0 a1 a2 a3 a4 a5 a6 br st) i = tDep T i ∧ tBrd (addT T k a0 a1 a2 a3 a4 a5 a6 br st) i = tBrd T i ∧ tSet (addT T k a0 a1 a2 a3 a4 a5 a6 br st) i = tSet T i := by
  refine ⟨?_, ?_, ?_, ?_, ?_, ?_, ?_, ?_, ?_⟩ <;> simp [addT, tPar, tKnd, tCol, tPnt, tTok, tTrn, tDep, tBrd, tSet, h]
end ZA
/-- a set content as the class packs it -/
def stC (x : Int) : Int := if x = 3 then 0 else if x = 0 then 3 else x
theorem stC_b4 {N : Nat} {f : Nat → Int} (h : ∀ p, 0 ≤ f p ∧ f p ≤ 3) : B4 N (fun p => stC (f p)) := by
  intro p _
  have := h p
  show 0 ≤ stC (f p) ∧ stC (f p) < 4
  unfold stC
  split
  · omega
  · split <;> omega
/-- the least, the greatest -/
def Lst (P : Nat → Prop) (lo hi : Nat) (v : Int) : Prop := (v = -1 ∧ ∀ j, lo ≤ j → j < hi → ¬ P j) ∨ (∃ j : Nat, lo ≤ j ∧ j < hi ∧ P j ∧ v = (j : Int) ∧ ∀ j', lo ≤ j' → j' < j → ¬ P j')
def Gst (P : Nat → Prop) (hi : Nat) (v : Int) : Prop := (v = -1 ∧ ∀ j, j < hi → ¬ P j) ∨ (∃ j : Nat, j < hi ∧ P j ∧ v = (j : Int) ∧ ∀ j', j < j' → j' < hi → ¬ P j')
theorem Lst.uniq {P : Nat → Prop} {lo hi : Nat} {v w : Int} (h1 : Lst P lo hi v) (h2 : Lst P lo hi w) : v = w := by
  rcases h1 with ⟨a, a1⟩ | ⟨j, a1, a2, a3, a4, a5⟩ <;> rcases h2 with ⟨b, b1⟩ | ⟨j', b1, b2, b3, b4, b5⟩
  · omega
  · exact absurd b3 (a1 j' b1 b2)
  · exact absurd a3 (b1 j a1 a2)
  · have h1 : ¬ j' < j := fun z => a5 j' b1 z b3
    have h2 : ¬ j < j' := fun z => b5 j a1 z a3
    omega
theorem Lst.congr {P Q : Nat → Prop} {lo hi : Nat} {v : Int} (h : Lst P lo hi v) (e : ∀ j, j < hi → (P j ↔ Q j)) : Lst Q lo hi v := by
  rcases h with ⟨a, a1⟩ | ⟨j, a1, a2, a3, a4, a5⟩
  · exact Or.inl ⟨a, fun j h1 h2 h3 => a1 j h1 h2 ((e j h2).mpr h3)⟩
  · exact Or.inr ⟨j, a1, a2, (e j a2).mp a3, a4, fun j' h1 h2 h3 => a5 j' h1 h2 ((e j' (by omega)).mpr h3)⟩
theorem Gst.congr {P Q : Nat → Prop} {hi : Nat} {v : Int} (h : Gst P hi v) (e : ∀ j, j < hi → (P j ↔ Q j)) : Gst Q hi v := by
  rcases h with ⟨a, a1⟩ | ⟨j, a2, a3, a4, a5⟩
  · exact Or.inl ⟨a, fun j h2 h3 => a1 j h2 ((e j h2).mpr h3)⟩
  · exact Or.inr ⟨j, a2, (e j a2).mp a3, a4, fun j' h1 h2 h3 => a5 j' h1 h2 ((e j' (by omega)).mpr h3)⟩
theorem Lst.no {P : Nat → Prop} {lo hi : Nat} {v : Int} (h : Lst P lo hi v) (hn : ¬ P hi) : Lst P lo (hi + 1) v := by
  rcases h with ⟨a, a1⟩ | ⟨j, a1, a2, a3, a4, a5⟩
  · refine Or.inl ⟨a, fun j h1 h2 => ?_⟩
    by_cases e : j = hi
    · rw [e]; exact hn
    · exact a1 j h1 (by omega)
  · exact Or.inr ⟨j, a1, by omega, a3, a4, a5⟩
theorem Lst.old {P : Nat → Prop} {lo hi : Nat} {v : Int} (h : Lst P lo hi v) (hv : v ≠ -1) : Lst P lo (hi + 1) v := by
  rcases h with ⟨a, a1⟩ | ⟨j, a1, a2, a3, a4, a5⟩
  · exact absurd a hv
  · exact Or.inr ⟨j, a1, by omega, a3, a4, a5⟩
theorem Lst.new {P : Nat → Prop} {lo hi : Nat} (h : Lst P lo hi (-1)) (hl : lo ≤ hi) (hp : P hi) : Lst P lo (hi + 1) (hi : Int) := by
  rcases h with ⟨a, a1⟩ | ⟨j, a1, a2, a3, a4, a5⟩
  · exact Or.inr ⟨hi, hl, by omega, hp, rfl, fun j' h1 h2 => a1 j' h1 h2⟩
  · omega
theorem Gst.no {P : Nat → Prop} {hi : Nat} {v : Int} (h : Gst P hi v) (hn : ¬ P hi) : Gst P (hi + 1) v := by
  rcases h with ⟨a, a1⟩ | ⟨j, a2, a3, a4, a5⟩
  · refine Or.inl ⟨a, fun j h2 => ?_⟩
    by_cases e : j = hi
    · rw [e]; exact hn
    · exact a1 j (by omega)
  · refine Or.inr ⟨j, by omega, a3, a4, fun j' h1 h2 => ?_⟩
    by_cases e : j' = hi
    · rw [e]; exact hn
    · exact a5 j' h1 (by omega)
theorem Gst.new {P : Nat → Prop} {hi : Nat} (hp : P hi) : Gst P (hi + 1) (hi : Int) := Or.inr ⟨hi, by omega, hp, rfl, fun j' h1 h2 => by omega⟩
/-- a node of a game, well made -/
def NW (m : Nat) (T : ATr) (i : Nat) : Prop :=
  (i = 0 → tPar T i = -1) ∧ (0 < i → 0 ≤ tPar T i ∧ tPar T i < i) ∧
  (tKnd T i = 0 ∨ tKnd T i = 1 ∨ tKnd T i = 2) ∧ (tKnd T i = 0 → tCol T i = 0 ∧ tPnt T i = -1) ∧ (tKnd T i ≠ 0 → tCol T i = 1 ∨ tCol T i = 2) ∧
  (tKnd T i = 1 → 0 ≤ tPnt T i ∧ tPnt T i < (m * m : Nat)) ∧ (tKnd T i = 2 → tPnt T i = -1) ∧ (0 ≤ tTok T i ∧ tTok T i ≤ 81) ∧
  (tTrn T i = 1 ∨ tTrn T i = 2) ∧ (tKnd T i ≠ 0 → tTrn T i = 3 - tCol T i) ∧ (tKnd T i = 0 → 0 < i → tTrn T i = tTrn T (tPar T i).toNat) ∧
  (tKnd T i = 0 → i = 0 → (tTrn T i = 2 ↔ ((∃ p, p < 81 ∧ tSet T i p = 1) ∧ ¬ ∃ p, p < 81 ∧ tSet T i p = 2))) ∧
  (i = 0 → tDep T i = 0) ∧ (0 < i → tDep T i = tDep T (tPar T i).toNat + 1) ∧ (0 ≤ tDep T i ∧ tDep T i ≤ i) ∧
  BCon m (tBrd T i) ∧ (∀ p, m * m ≤ p → tBrd T i p = 0) ∧ (∀ p, 0 ≤ tSet T i p ∧ tSet T i p ≤ 3) ∧ (∀ p, m * m ≤ p → tSet T i p = 3)
/-- the class's node i -/
def CRn (σ : ZSto) (t m : Nat) (T : ATr) (i : Nat) : Prop :=
  gI σ (t + 1) i = tPar T i ∧ gI σ (t + 6) i = tDep T i ∧ gI σ (t + 7) i = tKnd T i ∧ gI σ (t + 8) i = tCol T i ∧ gI σ (t + 9) i = tPnt T i ∧ gI σ (t + 10) i = tTrn T i ∧ gI σ (t + 11) i = tTok T i ∧
  (∀ w, w < 3 → gL σ (t + 12) (3 * i + w) = lN (pkW (tBrd T i) (m * m) w)) ∧ (∀ w, w < 3 → gL σ (t + 13) (3 * i + w) = lN (pkW (fun p => stC (tSet T i p)) (m * m) w))
def CLk (σ : ZSto) (t k : Nat) (T : ATr) : Prop := ∀ i : Nat, i < k → gI σ (t + 5) i = (cnt (fun j => tPar T j = (i : Int)) k : Nat) ∧ Lst (fun j => tPar T j = (i : Int)) 0 k (gI σ (t + 2) i) ∧ Gst (fun j => tPar T j = (i : Int)) k (gI σ (t + 3) i) ∧ Lst (fun j => tPar T j = tPar T i) (i + 1) k (gI σ (t + 4) i)
def CTr (σ : ZSto) (t m k : Nat) (c : Int) (T : ATr) : Prop := gI σ t 13 = (m : Int) ∧ gI σ t 14 = c ∧ gI σ t 15 = (k : Int) ∧ (∀ i, i < k → CRn σ t m T i) ∧ CLk σ t k T
/-- the reference's node i -/
def MRn (σ : ZSto) (g : Nat) (T : ATr) (i : Nat) : Prop :=
  gI σ 74 (250 * g + i) = (if tPar T i < 0 then -1 else 250 * (g : Int) + tPar T i) ∧ gI σ 75 (250 * g + i) = tKnd T i ∧ gI σ 76 (250 * g + i) = tCol T i ∧ gI σ 77 (250 * g + i) = tPnt T i ∧ gI σ 78 (250 * g + i) = tTok T i ∧
  (∀ p, p < 81 → gI σ 79 (81 * (250 * g + i) + p) = tBrd T i p) ∧ (∀ p, p < 81 → gI σ 80 (81 * (250 * g + i) + p) = tSet T i p)
def MTr (σ : ZSto) (g m k : Nat) (c : Int) (T : ATr) : Prop := gI σ 82 g = (m : Int) ∧ gI σ 83 g = c ∧ gI σ 81 g = (k : Int) ∧ ∀ i, i < k → MRn σ g T i
def TW (m k : Nat) (T : ATr) : Prop := 3 ≤ m ∧ m ≤ 9 ∧ k ≤ 250 ∧ ∀ i, i < k → NW m T i
/-- set points of all nodes -/
def TSum (T : ATr) (k : Nat) : Prop := 4 * cnt (fun j => tSet T (j / 81) (j % 81) ≠ 3) (81 * k) ≤ 1500
def ctrD (t a i : Nat) : Prop := (t + 1 ≤ a ∧ a ≤ t + 13) ∨ (a = t ∧ (i = 13 ∨ i = 14 ∨ i = 15))
def mtrD (g a i : Nat) : Prop := ((74 ≤ a ∧ a ≤ 78) ∧ 250 * g ≤ i ∧ i < 250 * g + 250) ∨ ((a = 79 ∨ a = 80) ∧ 20250 * g ≤ i ∧ i < 20250 * g + 20250) ∨ ((a = 81 ∨ a = 82 ∨ a = 83) ∧ i = g)
theorem CRn.kept {W : Nat → Nat → Prop} {σ σ' : ZSto} {t m i : Nat} {T : ATr} (h : CRn σ t m T i) (hf : Fr W σ σ') (hw : ∀ a, t + 1 ≤ a → a ≤ t + 11 → ¬ W a i) (hw2 : ∀ a w, t + 12 ≤ a → a ≤ t + 13 → w < 3 → ¬ W a (3 * i + w)) : CRn σ' t m T i := by
  obtain ⟨h1, h2, h3, h4, h5, h6, h7, h8, h9⟩ := h
  refine ⟨?_, ?_, ?_, ?_, ?_, ?_, ?_, fun w hw3 => ?_, fun w hw3 => ?_⟩
  · rw [hf.I (hw _ (by omega) (by omega))]; exact h1
  · rw [hf.I (hw _ (by omega) (by omega))]; exact h2
  · rw [hf.I (hw _ (by omega) (by omega))]; exact h3
  · rw [hf.I (hw _ (by omega) (by omega))]; exact h4
  · rw [hf.I (hw _ (by omega) (by omega))]; exact h5
  · rw [hf.I (hw _ (by omega) (by omega))]; exact h6
  · rw [hf.I (hw _ (by omega) (by omega))]; exact h7
  · rw [hf.L (hw2 _ _ (by omega) (by omega) hw3)]; exact h8 w hw3
  · rw [hf.L (hw2 _ _ (by omega) (by omega) hw3)]; exact h9 w hw3
theorem CLk.kept {W : Nat → Nat → Prop} {σ σ' : ZSto} {t k : Nat} {T : ATr} (h : CLk σ t k T) (hf : Fr W σ σ') (hw : ∀ a i, i < k → t + 2 ≤ a → a ≤ t + 5 → ¬ W a i) : CLk σ' t k T := by
  intro i hi
  rw [hf.I (hw (t + 5) i hi (by omega) (by omega)), hf.I (hw (t + 2) i hi (by omega) (by omega)), hf.I (hw (t + 3) i hi (by omega) (by omega)), hf.I (hw (t + 4) i hi (by omega) (by omega))]
  exact h i hi
theorem CTr.kept {W : Nat → Nat → Prop} {σ σ' : ZSto} {t m k : Nat} {c : Int} {T : ATr} (h : CTr σ t m k c T) (hf : Fr W σ σ') (hw : ∀ a i, ctrD t a i → ¬ W a i) : CTr σ' t m k c T := by
  obtain ⟨h1, h2, h3, h4, h5⟩ := h
  refine ⟨by rw [hf.I (hw _ _ (by unfold ctrD; omega))]; exact h1, by rw [hf.I (hw _ _ (by unfold ctrD; omega))]; exact h2, by rw [hf.I (hw _ _ (by unfold ctrD; omega))]; exact h3, fun i hi => (h4 i hi).kept hf (fun a q1 q2 => hw _ _ (by unfold ctrD; omega)) (fun a w q1 q2 q3 => hw _ _ (by unfold ctrD; omega)), h5.kept hf (fun a i _ q1 q2 => hw _ _ (by unfold ctrD; omega))⟩
theorem MRn.kept {W : Nat → Nat → Prop} {σ σ' : ZSto} {g i : Nat} {T : ATr} (h : MRn σ g T i) (hf : Fr W σ σ') (hw : ∀ a, 74 ≤ a → a ≤ 78 → ¬ W a (250 * g + i)) (hw2 : ∀ a p, a = 79 ∨ a = 80 → p < 81 → ¬ W a (81 * (250 * g + i) + p)) : MRn σ' g T i := by
  obtain ⟨h1, h2, h3, h4, h5, h6, h7⟩ := h
  refine ⟨?_, ?_, ?_, ?_, ?_, fun p hp => ?_, fun p hp => ?_⟩
  · rw [hf.I (hw _ (by omega) (by omega))]; exact h1
  · rw [hf.I (hw _ (by omega) (by omega))]; exact h2
  · rw [hf.I (hw _ (by omega) (by omega))]; exact h3
  · rw [hf.I (hw _ (by omega) (by omega))]; exact h4
  · rw [hf.I (hw _ (by omega) (by omega))]; exact h5
  · rw [hf.I (hw2 _ _ (by omega) hp)]; exact h6 p hp
  · rw [hf.I (hw2 _ _ (by omega) hp)]; exact h7 p hp
theorem MTr.kept {W : Nat → Nat → Prop} {σ σ' : ZSto} {g m k : Nat} {c : Int} {T : ATr} (h : MTr σ g m k c T) (hk : k ≤ 250) (hf : Fr W σ σ') (hw : ∀ a i, mtrD g a i → ¬ W a i) : MTr σ' g m k c T := by
  obtain ⟨h1, h2, h3, h4⟩ := h
  refine ⟨by rw [hf.I (hw _ _ (by unfold mtrD; omega))]; exact h1, by rw [hf.I (hw _ _ (by unfold mtrD; omega))]; exact h2, by rw [hf.I (hw _ _ (by unfold mtrD; omega))]; exact h3, fun i hi => (h4 i hi).kept hf (fun a q1 q2 => hw _ _ (by unfold mtrD; omega)) (fun a w q1 q2 => hw _ _ (by unfold mtrD; omega))⟩
/-- the game depends on its nodes alone -/
theorem CRn.congr {σ : ZSto} {t m i : Nat} {T T' : ATr} (h : CRn σ t m T i) (e : tPar T' i = tPar T i ∧ tKnd T' i = tKnd T i ∧ tCol T' i = tCol T i ∧ tPnt T' i = tPnt T i ∧ tTok T' i = tTok T i ∧ tTrn T' i = tTrn T i ∧ tDep T' i = tDep T i ∧ tBrd T' i = tBrd T i ∧ tSet T' i = tSet T i) : CRn σ t m T' i := by
  obtain ⟨e1, e2, e3, e4, e5, e6, e7, e8, e9⟩ := e
  unfold CRn
  rw [e1, e2, e3, e4, e5, e6, e7, e8, e9]
  exact h
theorem MRn.congr {σ : ZSto} {g i : Nat} {T T' : ATr} (h : MRn σ g T i) (e : tPar T' i = tPar T i ∧ tKnd T' i = tKnd T i ∧ tCol T' i = tCol T i ∧ tPnt T' i = tPnt T i ∧ tTok T' i = tTok T i ∧ tTrn T' i = tTrn T i ∧ tDep T' i = tDep T i ∧ tBrd T' i = tBrd T i ∧ tSet T' i = tSet T i) : MRn σ g T' i := by
  obtain ⟨e1, e2, e3, e4, e5, e6, e7, e8, e9⟩ := e
  unfold MRn
  rw [e1, e2, e3, e4, e5, e8, e9]
  exact h
theorem NW.add {T : ATr} {m k i : Nat} {a0 a1 a2 a3 a4 a5 a6 : Int} {br st : Nat → Int} (h : NW m T i) (hi : i < k) : NW m (addT T k a0 a1 a2 a3 a4 a5 a6 br st) i := by
  obtain ⟨e1, e2, e3, e4, e5, e6, e7, e8, e9⟩ := addT_n (T := T) (k := k) (i := i) (a0 := a0) (a1 := a1) (a2 := a2) (a3 := a3) (a4 := a4) (a5 := a5) (a6 := a6) (br := br) (st := st) (by omega)
  unfold NW
  rw [e1, e2, e3, e4, e5, e6, e7, e8, e9]
  by_cases z : 0 < i
  · have := h.2.1 z
    obtain ⟨f1, f2, f3, f4, f5, f6, f7, f8, f9⟩ := addT_n (T := T) (k := k) (i := (tPar T i).toNat) (a0 := a0) (a1 := a1) (a2 := a2) (a3 := a3) (a4 := a4) (a5 := a5) (a6 := a6) (br := br) (st := st) (by omega)
    rw [f6, f7]
    exact h
  · obtain ⟨h1, h2, h3, h4, h5, h6, h7, h8, h9, h10, h11, h12, h13, h14, h15⟩ := h
    exact ⟨h1, h2, h3, h4, h5, h6, h7, h8, h9, h10, fun _ q => absurd q z, h12, h13, fun q => absurd q z, h15⟩
/-- one node more: the links -/
theorem lnk_add {σ σ' : ZSto} {t k b : Nat} {T T' : ATr} (h : CLk σ t k T) (hp : ∀ i, i < k → tPar T' i = tPar T i) (hpk : tPar T' k = (b : Int)) (hb : b < k) (hlt : ∀ i, i < k → tPar T i < i)
    (e5 : ∀ i, i < k → i ≠ b → gI σ' (t + 5) i = gI σ (t + 5) i) (e5b : gI σ' (t + 5) b = gI σ (t + 5) b + 1) (e5k : gI σ' (t + 5) k = 0)
    (e3 : ∀ i, i < k → i ≠ b → gI σ' (t + 3) i = gI σ (t + 3) i) (e3b : gI σ' (t + 3) b = (k : Int)) (e3k : gI σ' (t + 3) k = -1)
    (e2 : ∀ i, i < k → ¬ (i = b ∧ gI σ (t + 3) b = -1) → gI σ' (t + 2) i = gI σ (t + 2) i) (e2b : gI σ (t + 3) b = -1 → gI σ' (t + 2) b = (k : Int)) (e2k : gI σ' (t + 2) k = -1)
    (e4 : ∀ i : Nat, i < k → ¬ gI σ (t + 3) b = (i : Int) → gI σ' (t + 4) i = gI σ (t + 4) i) (e4b : ∀ i : Nat, i < k → gI σ (t + 3) b = (i : Int) → gI σ' (t + 4) i = (k : Int)) (e4k : gI σ' (t + 4) k = -1) : CLk σ' t (k + 1) T' := by
  have lt' : ∀ j, j < k + 1 → tPar T' j < j := by
    intro j hj
    by_cases e : j = k
    · rw [e, hpk]; omega
    · rw [hp j (by omega)]; exact hlt j (by omega)
  have G := (h b hb).2.2.1
  intro i hi
  by_cases e : i = k
  · subst e
    rw [e5k, e2k, e3k, e4k]
    have no : ∀ j, j < i + 1 → ¬ tPar T' j = (i : Int) := fun j hj z => by have := lt' j hj; omega
    refine ⟨by rw [cnt_0 no]; rfl, Or.inl ⟨rfl, fun j _ h2 => no j h2⟩, Or.inl ⟨rfl, no⟩, Or.inl ⟨rfl, fun j h1 h2 => by omega⟩⟩
  · have hik : i < k := by omega
    obtain ⟨c1, c2, c3, c4⟩ := h i hik
    have c1' : cnt (fun j => tPar T' j = (i : Int)) k = cnt (fun j => tPar T j = (i : Int)) k := cnt_congr (fun j hj => by rw [hp j hj])
    have c2' : Lst (fun j => tPar T' j = (i : Int)) 0 k (gI σ (t + 2) i) := c2.congr (fun j hj => by rw [hp j hj])
    have c3' : Gst (fun j => tPar T' j = (i : Int)) k (gI σ (t + 3) i) := c3.congr (fun j hj => by rw [hp j hj])
    have c4' : Lst (fun j => tPar T' j = tPar T' i) (i + 1) k (gI σ (t + 4) i) := by rw [hp i hik]; exact c4.congr (fun j hj => by rw [hp j hj])
    refine ⟨?_, ?_, ?_, ?_⟩
    · by_cases eb : i = b
      · subst eb
        rw [e5b, c1, cnt_s (P := fun j => tPar T' j = (i : Int)) hpk, c1']; simp
      · rw [e5 i hik eb, c1, cnt_n (P := fun j => tPar T' j = (i : Int)) (by rw [hpk]; omega), c1']
    · by_cases eb : i = b
      · subst eb
        by_cases el : gI σ (t + 3) i = -1
        · rw [e2b el]
          have : gI σ (t + 2) i = -1 := by
            rcases c3 with ⟨_, n⟩ | ⟨j, j1, j2, j3, j4⟩
            · rcases c2 with ⟨q, _⟩ | ⟨j, j1, j2, j3, j4, j5⟩
              · exact q
              · exact absurd j3 (n j j2)
            · omega
          rw [this] at c2'
          exact c2'.new (by omega) hpk
        · rw [e2 i hik (fun z => el z.2)]
          refine c2'.old ?_
          intro z
          rcases c2 with ⟨q, n⟩ | ⟨j, j1, j2, j3, j4, j5⟩
          · rcases c3 with ⟨q2, _⟩ | ⟨j, j1, j2, j3, j4⟩
            · exact el q2
            · exact n j (by omega) j1 j2
          · omega
      · rw [e2 i hik (fun z => eb z.1)]
        exact c2'.no (by rw [hpk]; omega)
    · by_cases eb : i = b
      · subst eb
        rw [e3b]
        exact Gst.new hpk
      · rw [e3 i hik eb]
        exact c3'.no (by rw [hpk]; omega)
    · by_cases el : gI σ (t + 3) b = (i : Int)
      · rw [e4b i hik el]
        have hpi : tPar T i = (b : Int) := by
          rcases G with ⟨q, _⟩ | ⟨j, j1, j2, j3, j4⟩
          · omega
          · have : j = i := by omega
            rw [← this]; exact j2
        have : gI σ (t + 4) i = -1 := by
          rcases c4 with ⟨q, _⟩ | ⟨j, j1, j2, j3, j4, j5⟩
          · exact q
          · exfalso
            rcases G with ⟨q, _⟩ | ⟨j', k1, k2, k3, k4⟩
            · omega
            · exact k4 j (by omega) j2 (Eq.trans j3 hpi)
        rw [this] at c4'
        exact c4'.new (by omega) (show tPar T' k = tPar T' i by rw [hpk, hp i hik, hpi])
      · rw [e4 i hik el]
        by_cases ep : tPar T i = (b : Int)
        · refine c4'.old ?_
          intro z
          rcases c4 with ⟨q, n⟩ | ⟨j, j1, j2, j3, j4, j5⟩
          · rcases G with ⟨q2, n2⟩ | ⟨j', k1, k2, k3, k4⟩
            · exact n2 i hik ep
            · have h1 : ¬ i < j' := fun z => n j' (by omega) k1 (k2.trans ep.symm)
              have h2 : ¬ j' < i := fun z => k4 i z hik ep
              have : j' = i := by omega
              rw [this] at k3
              exact el k3
          · omega
        · exact c4'.no (by rw [hpk, hp i hik]; exact fun z => ep z.symm)
/-- the first node: the links -/
theorem lnk_one {σ' : ZSto} {t : Nat} {T' : ATr} (hp : tPar T' 0 = -1) (e5 : gI σ' (t + 5) 0 = 0) (e3 : gI σ' (t + 3) 0 = -1) (e2 : gI σ' (t + 2) 0 = -1) (e4 : gI σ' (t + 4) 0 = -1) : CLk σ' t 1 T' := by
  intro i hi
  have : i = 0 := by omega
  subst this
  have no : ∀ j, j < 1 → ¬ tPar T' j = ((0 : Nat) : Int) := fun j hj z => by
    have : j = 0 := by omega
    subst this; rw [hp] at z; omega
  rw [e5, e3, e2, e4]
  exact ⟨by rw [cnt_0 no]; rfl, Or.inl ⟨rfl, fun j _ h2 => no j h2⟩, Or.inl ⟨rfl, no⟩, Or.inl ⟨rfl, fun j h1 h2 => by omega⟩⟩
theorem pk4_zero {f : Nat → Nat} {k : Nat} (h : ∀ i, i < k → f i = 0) : pk4 f k = 0 := by
  induction k with
  | zero => rfl
  | succ k ih =>
    show pk4 f k + f k * 4 ^ k = 0
    rw [ih (fun i hi => h i (by omega)), h k (by omega)]; simp
theorem pkW_zero {bd : Nat → Int} {N w : Nat} (h : ∀ p, p < N → bd p = 0) : pkW bd N w = 0 := pk4_zero (fun i hi => by rw [h _ (by omega)]; rfl)
