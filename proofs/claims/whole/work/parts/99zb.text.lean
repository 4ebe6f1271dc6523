/-! ===== the text that is written ===== -/
def wPt (m : Nat) (p : Int) : List Int := if p < 0 then [91, 93] else [91, 97 + p % (m : Int), 97 + p / (m : Int), 93]
def wNum (v : Int) : List Int := [91] ++ ((if v < 0 then [45] else []) ++ ((if 100 ≤ absI v then [48 + absI v / 100] else []) ++ ((if 10 ≤ absI v then [48 + absI v / 10 % 10] else []) ++ [48 + absI v % 10, 93])))
def wSp (m : Nat) (f : Nat → Int) (c : Int) : Nat → List Int
  | 0 => []
  | p + 1 => wSp m f c p ++ (if f p = c then wPt m (p : Int) else [])
def wSe (m : Nat) (f : Nat → Int) (c b : Int) (p : Nat) : List Int := if wSp m f c p = [] then [] else [65, b] ++ wSp m f c p
def wHd (m : Nat) (c : Int) : List Int := [83, 90] ++ (wNum (m : Int) ++ (if c = 0 then [] else [75, 77] ++ wNum c))
def wNd (m : Nat) (c : Int) (T : ATr) (i : Nat) : List Int := [59] ++ ((if i = 0 then wHd m c else []) ++ (if tKnd T i = 0 then wSe m (tSet T i) 1 66 (m * m) ++ (wSe m (tSet T i) 2 87 (m * m) ++ wSe m (tSet T i) 0 69 (m * m)) else (if tCol T i = 1 then [66] else [87]) ++ wPt m (tPnt T i)))
noncomputable def wCh (T : ATr) (k i : Nat) : Nat := cnt (fun j => tPar T j = (i : Int)) k
noncomputable def wBr (T : ATr) (k i : Nat) (x : List Int) : List Int := if 1 < wCh T k i then [40] ++ (x ++ [41]) else x
noncomputable def wKd (T : ATr) (k : Nat) (S : Nat → List Int) (i : Nat) : Nat → List Int
  | 0 => []
  | r + 1 => (if tPar T (k - (r + 1)) = (i : Int) then wBr T k i (S (k - (r + 1))) else []) ++ wKd T k S i r
noncomputable def wSu (m : Nat) (c : Int) (T : ATr) (k : Nat) : Nat → Nat → List Int
  | 0, _ => []
  | f + 1, i => wNd m c T i ++ wKd T k (wSu m c T k f) i k
noncomputable def wAf (T : ATr) (k : Nat) (S : Nat → List Int) : Nat → Nat → List Int
  | 0, _ => []
  | f + 1, i => if i = 0 then [41] else (if 1 < wCh T k (tPar T i).toNat then [41] else []) ++ (wKd T k S (tPar T i).toNat (k - (i + 1)) ++ wAf T k S f (tPar T i).toNat)
/-- what hangs below i, what comes behind it, all -/
noncomputable def wS (m : Nat) (c : Int) (T : ATr) (k i : Nat) : List Int := wSu m c T k k i
noncomputable def wA (m : Nat) (c : Int) (T : ATr) (k i : Nat) : List Int := wAf T k (wS m c T k) k i
noncomputable def wF (m : Nat) (c : Int) (T : ATr) (k : Nat) : List Int := [40] ++ (wS m c T k 0 ++ [41])
/-- parents come first -/
def Fst (T : ATr) (k : Nat) : Prop := ∀ j, j < k → ∀ i : Nat, tPar T j = (i : Int) → i < j
theorem TW.fst {m k : Nat} {T : ATr} (h : TW m k T) : Fst T k := by
  intro j hj i e
  have a := (h.2.2.2 j hj).1
  have b := (h.2.2.2 j hj).2.1
  by_cases z : j = 0
  · have := a z; omega
  · have := b (by omega); omega
theorem wKd_congr {T : ATr} {k i : Nat} {S S' : Nat → List Int} (h : ∀ j, j < k → tPar T j = (i : Int) → S j = S' j) : ∀ r, r ≤ k → wKd T k S i r = wKd T k S' i r := by
  intro r
  induction r with
  | zero => intro _; rfl
  | succ r ih =>
    intro hr
    show _ ++ _ = _ ++ _
    rw [ih (by omega)]
    by_cases e : tPar T (k - (r + 1)) = (i : Int)
    · rw [if_pos e, if_pos e, h _ (by omega) e]
    · rw [if_neg e, if_neg e]
theorem wKd_no {T : ATr} {k i : Nat} {S : Nat → List Int} : ∀ r, r ≤ k → (∀ j, k - r ≤ j → j < k → ¬ tPar T j = (i : Int)) → wKd T k S i r = [] := by
  intro r
  induction r with
  | zero => intro _ _; rfl
  | succ r ih =>
    intro hr h
    show _ ++ _ = _
    rw [ih (by omega) (fun j h1 h2 => h j (by omega) h2), if_neg (h _ (by omega) (by omega))]
    rfl
theorem wKd_yes {T : ATr} {k i q : Nat} {S : Nat → List Int} (hq : q < k) (e : tPar T q = (i : Int)) : ∀ r, r ≤ k → k - r ≤ q → (∀ j, k - r ≤ j → j < q → ¬ tPar T j = (i : Int)) → wKd T k S i r = wBr T k i (S q) ++ wKd T k S i (k - (q + 1)) := by
  intro r
  induction r with
  | zero => intro _ h _; omega
  | succ r ih =>
    intro hr h1 h
    by_cases z : k - (r + 1) = q
    · show (if tPar T (k - (r + 1)) = (i : Int) then wBr T k i (S (k - (r + 1))) else []) ++ wKd T k S i r = _
      rw [z, if_pos e, show k - (q + 1) = r by omega]
    · show (if tPar T (k - (r + 1)) = (i : Int) then wBr T k i (S (k - (r + 1))) else []) ++ wKd T k S i r = _
      rw [if_neg (h _ (by omega) (by omega)), ih (by omega) (by omega) (fun j h1 h2 => h j (by omega) h2)]
      rfl
theorem wKd_L {T : ATr} {k i lo : Nat} {v : Int} {S : Nat → List Int} (hl : lo ≤ k) (h : Lst (fun j => tPar T j = (i : Int)) lo k v) :
    (v = -1 ∧ wKd T k S i (k - lo) = []) ∨ ∃ q : Nat, lo ≤ q ∧ q < k ∧ v = (q : Int) ∧ tPar T q = (i : Int) ∧ (∀ j, lo ≤ j → j < q → ¬ tPar T j = (i : Int)) ∧ wKd T k S i (k - lo) = wBr T k i (S q) ++ wKd T k S i (k - (q + 1)) := by
  rcases h with ⟨a, a1⟩ | ⟨q, a1, a2, a3, a4, a5⟩
  · exact Or.inl ⟨a, wKd_no _ (by omega) (fun j h1 h2 => a1 j (by omega) h2)⟩
  · exact Or.inr ⟨q, a1, a2, a4, a3, a5, wKd_yes a2 a3 _ (by omega) (by omega) (fun j h1 h2 => a5 j (by omega) h2)⟩
section ZW
variable {m k : Nat} {c : Int} {T : ATr}
theorem wSu_st (hF : Fst T k) : ∀ f q, k ≤ q + f → q < k → wSu m c T k (f + 1) q = wSu m c T k f q := by
  intro f
  induction f with
  | zero => intro q h1 h2; omega
  | succ f ih =>
    intro q h1 h2
    show wNd m c T q ++ wKd T k (wSu m c T k (f + 1)) q k = wNd m c T q ++ wKd T k (wSu m c T k f) q k
    rw [wKd_congr (fun j hj e => ih j (by have := hF j hj q e; omega) hj) k (Nat.le_refl k)]
theorem wS_eq (hF : Fst T k) {i : Nat} (hi : i < k) : wS m c T k i = wNd m c T i ++ wKd T k (wS m c T k) i k := (wSu_st hF k i (by omega) hi).symm
theorem wAf_st {S : Nat → List Int} (hF : Fst T k) (hz : ∀ j, 0 < j → j < k → 0 ≤ tPar T j) : ∀ f i, i < f → i < k → wAf T k S (f + 1) i = wAf T k S f i := by
  intro f
  induction f with
  | zero => intro i h1 _; omega
  | succ f ih =>
    intro i h1 h2
    show (if i = 0 then [41] else _ ++ (_ ++ wAf T k S (f + 1) _)) = (if i = 0 then [41] else _ ++ (_ ++ wAf T k S f _))
    by_cases e : i = 0
    · rw [if_pos e, if_pos e]
    · have q := hz i (by omega) h2
      have := hF i h2 (tPar T i).toNat (by omega)
      rw [if_neg e, if_neg e, ih _ (by omega) (by omega)]
theorem TW.par0 (h : TW m k T) : ∀ j, 0 < j → j < k → 0 ≤ tPar T j := fun j h1 h2 => ((h.2.2.2 j h2).2.1 h1).1
theorem wA_0 (hk : 0 < k) : wA m c T k 0 = [41] := by
  unfold wA
  cases k with
  | zero => omega
  | succ k => rfl
theorem wA_s (hW : TW m k T) {i : Nat} (h0 : 0 < i) (hi : i < k) : wA m c T k i = (if 1 < wCh T k (tPar T i).toNat then [41] else []) ++ (wKd T k (wS m c T k) (tPar T i).toNat (k - (i + 1)) ++ wA m c T k (tPar T i).toNat) := by
  have e := wAf_st (S := wS m c T k) hW.fst hW.par0 k i hi hi
  unfold wA
  rw [← e]
  show (if i = 0 then [41] else _) = _
  rw [if_neg (by omega)]
theorem wKd_skip {S : Nat → List Int} (hW : TW m k T) {q : Nat} (hq : q < k) : wKd T k S q k = wKd T k S q (k - (q + 1)) := by
  have key : ∀ e, k - (q + 1) + e ≤ k → wKd T k S q (k - (q + 1) + e) = wKd T k S q (k - (q + 1)) := by
    intro e
    induction e with
    | zero => intro _; rfl
    | succ e ih =>
      intro he
      show (if tPar T (k - (k - (q + 1) + e + 1)) = (q : Int) then _ else []) ++ wKd T k S q (k - (q + 1) + e) = _
      rw [ih (by omega), if_neg (fun z => by
        have := hW.fst _ (by omega) q z
        omega)]
      rfl
  have := key (q + 1) (by omega)
  rw [show k - (q + 1) + (q + 1) = k by omega] at this
  exact this
/-- behind a child: what comes behind it, and the rest of its parent's -/
theorem wKd_A (hW : TW m k T) {i q : Nat} (hq : q < k) (e : tPar T q = (i : Int)) : wBr T k i (wS m c T k q) ++ (wKd T k (wS m c T k) i (k - (q + 1)) ++ wA m c T k i) = (if 1 < wCh T k i then [40] else []) ++ (wS m c T k q ++ wA m c T k q) := by
  have hf := hW.fst q hq i e
  have et : (tPar T q).toNat = i := by rw [e]; omega
  rw [wA_s hW (by omega) hq, et]
  unfold wBr
  by_cases z : 1 < wCh T k i
  · rw [if_pos z, if_pos z, if_pos z]; simp
  · rw [if_neg z, if_neg z, if_neg z]; simp
/-! ===== measures of it ===== -/
variable {μ : List Int → Nat}
theorem wKd_mu (hμ : ∀ a b, μ (a ++ b) = μ a + μ b) {i : Nat} {S : Nat → List Int} {g : Nat → Nat} (hg : ∀ j, j < k → tPar T j = (i : Int) → μ (S j) + (μ [40] + μ [41]) ≤ g j) : ∀ r, r ≤ k → μ (wKd T k S i r) + smP (fun j => tPar T j = (i : Int)) g (k - r) ≤ smP (fun j => tPar T j = (i : Int)) g k := by
  have h0 : μ [] = 0 := by have := hμ [] []; simp at this; omega
  intro r
  induction r with
  | zero => intro _; show μ [] + _ ≤ _; rw [h0]; simp
  | succ r ih =>
    intro hr
    have h := ih (by omega)
    have e : k - r = (k - (r + 1)) + 1 := by omega
    show μ ((if tPar T (k - (r + 1)) = (i : Int) then wBr T k i (S (k - (r + 1))) else []) ++ wKd T k S i r) + _ ≤ _
    rw [hμ]
    rw [e] at h
    by_cases z : tPar T (k - (r + 1)) = (i : Int)
    · rw [smP_y (A := fun j => tPar T j = (i : Int)) z] at h
      rw [if_pos z]
      have q := hg _ (by omega) z
      have : μ (wBr T k i (S (k - (r + 1)))) ≤ g (k - (r + 1)) := by
        unfold wBr
        split
        · rw [hμ, hμ]; omega
        · omega
      omega
    · rw [smP_n (A := fun j => tPar T j = (i : Int)) z] at h
      rw [if_neg z, h0]; omega
theorem wSu_mu (hμ : ∀ a b, μ (a ++ b) = μ a + μ b) (hF : Fst T k) {w : Nat → Nat} (hw : ∀ i, i < k → μ (wNd m c T i) + (μ [40] + μ [41]) ≤ w i) : ∀ f i, k ≤ i + f → i < k → μ (wSu m c T k f i) + (μ [40] + μ [41]) ≤ wsub w (tPar T) k f i := by
  intro f
  induction f with
  | zero => intro i h1 h2; omega
  | succ f ih =>
    intro i h1 h2
    show μ (wNd m c T i ++ wKd T k (wSu m c T k f) i k) + _ ≤ w i + smP _ _ k
    rw [hμ]
    have h := wKd_mu hμ (T := T) (k := k) (i := i) (S := wSu m c T k f) (g := wsub w (tPar T) k f) (fun j hj e => ih j (by have := hF j hj i e; omega) hj) k (Nat.le_refl k)
    rw [show k - k = 0 by omega] at h
    have h3 : smP (fun j => tPar T j = (i : Int)) (wsub w (tPar T) k f) 0 = 0 := rfl
    have := hw i h2
    omega
theorem TW.dep (h : TW m k T) : ∀ j, j < k → ∀ i : Nat, tPar T j = (i : Int) → tDep T j = tDep T i + 1 := by
  intro j hj i e
  have a := (h.2.2.2 j hj).1
  have b := (h.2.2.2 j hj).2.2.2.2.2.2.2.2.2.2.2.2.2.1
  by_cases z : j = 0
  · have := a z; omega
  · have := b (by omega)
    rw [e] at this
    rw [this]
    congr 2
theorem wS_mu (hμ : ∀ a b, μ (a ++ b) = μ a + μ b) (hW : TW m k T) (hk : 0 < k) {w : Nat → Nat} (hw : ∀ i, i < k → μ (wNd m c T i) + (μ [40] + μ [41]) ≤ w i) : μ (wS m c T k 0) + (μ [40] + μ [41]) ≤ smP (fun _ => True) w k :=
  Nat.le_trans (wSu_mu hμ hW.fst hw k 0 (by omega) hk) (wsub_top hk hW.dep k)
end ZW
