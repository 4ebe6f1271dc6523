/-! ===== the text, as both read it ===== -/
def skF (B : Nat → Int) (L : Nat) : Nat → Nat → Nat
  | 0, i => i
  | w + 1, i => if i < L ∧ (B i = 32 ∨ B i = 10 ∨ B i = 13) then skF B L w (i + 1) else i
theorem skF_ge {B : Nat → Int} {L : Nat} : ∀ (w i : Nat), i ≤ skF B L w i ∧ (i ≤ L → skF B L w i ≤ L) := by
  intro w
  induction w with
  | zero => intro i; exact ⟨Nat.le_refl _, fun h => h⟩
  | succ w ih =>
    intro i
    unfold skF
    split
    · have := ih (i + 1)
      exact ⟨by omega, fun h => this.2 (by omega)⟩
    · exact ⟨Nat.le_refl _, fun h => h⟩
def skp (B : Nat → Int) (L i : Nat) : Nat := skF B L L i
theorem skp_ge {B : Nat → Int} {L : Nat} (i : Nat) : i ≤ skp B L i ∧ (i ≤ L → skp B L i ≤ L) := skF_ge L i
def grF (B : Nat → Int) (L : Nat) : Nat → Nat → Nat
  | 0, i => i
  | w + 1, i => if i < L ∧ (65 ≤ B i ∧ B i ≤ 90) then grF B L w (i + 1) else i
theorem grF_ge {B : Nat → Int} {L : Nat} : ∀ (w i : Nat), i ≤ grF B L w i ∧ (i ≤ L → grF B L w i ≤ L) := by
  intro w
  induction w with
  | zero => intro i; exact ⟨Nat.le_refl _, fun h => h⟩
  | succ w ih =>
    intro i
    unfold grF
    split
    · have := ih (i + 1)
      exact ⟨by omega, fun h => this.2 (by omega)⟩
    · exact ⟨Nat.le_refl _, fun h => h⟩
def clF (B : Nat → Int) (L : Nat) : Nat → Nat → Nat
  | 0, i => i
  | w + 1, i => if i < L ∧ B i ≠ 93 then clF B L w (if B i = 92 then i + 2 else i + 1) else i
theorem clF_ge {B : Nat → Int} {L : Nat} : ∀ (w i : Nat), i ≤ clF B L w i := by
  intro w
  induction w with
  | zero => intro i; exact Nat.le_refl _
  | succ w ih =>
    intro i
    unfold clF
    split
    · split
      · have := ih (i + 2); omega
      · have := ih (i + 1); omega
    · exact Nat.le_refl _
def nmF (B : Nat → Int) (i j : Nat) : Int :=
  if j = i + 1 then (if B i = 66 then 4 else if B i = 87 then 8 else 0) else
  if j = i + 2 then (if B i = 65 then (if B (i + 1) = 66 then 16 else if B (i + 1) = 87 then 32 else if B (i + 1) = 69 then 64 else 0) else if B i = 83 ∧ B (i + 1) = 90 then 1 else if B i = 75 ∧ B (i + 1) = 77 then 2 else 0) else 0
def isNm (x : Int) : Prop := x = 0 ∨ x = 1 ∨ x = 2 ∨ x = 4 ∨ x = 8 ∨ x = 16 ∨ x = 32 ∨ x = 64
theorem nmF_is {B : Nat → Int} {i j : Nat} : isNm (nmF B i j) := by
  unfold isNm nmF
  split
  · split
    · omega
    · split <;> omega
  · split
    · split
      · split
        · omega
        · split
          · omega
          · split <;> omega
      · split
        · omega
        · split <;> omega
    · omega
def msF (nm told : Int) (root : Bool) : Bool :=
  if nm = 0 then false else if ¬ andI told nm = 0 then true else if (nm = 1 ∨ nm = 2) ∧ root = false then true else if nm = 1 ∨ nm = 4 ∨ nm = 8 then decide (¬ andI told 124 = 0) else if 16 ≤ nm then decide (¬ andI told 12 = 0) else false
def dgF (B : Nat → Int) : Nat → Nat → Int → Int
  | 0, _, a => a
  | w + 1, i, a => if 48 ≤ B i ∧ B i ≤ 57 then dgF B w (i + 1) (10 * a + (B i - 48)) else -1
def nuF (B : Nat → Int) (i j : Nat) : Int := if j < i + 1 ∨ i + 3 < j then -1 else dgF B (j - i) i 0
theorem dgF_r {B : Nat → Int} : ∀ (w i : Nat) (a : Int), 0 ≤ a → (dgF B w i a = -1 ∨ (0 ≤ dgF B w i a ∧ dgF B w i a < (a + 1) * 10 ^ w)) := by
  intro w
  induction w with
  | zero => intro i a ha; exact Or.inr ⟨ha, by simp; show a < a + 1; omega⟩
  | succ w ih =>
    intro i a ha
    unfold dgF
    split
    · rcases ih (i + 1) (10 * a + (B i - 48)) (by omega) with h | ⟨h1, h2⟩
      · exact Or.inl h
      · refine Or.inr ⟨h1, Int.lt_of_lt_of_le h2 ?_⟩
        rw [Int.pow_succ, ← Int.mul_assoc, Int.mul_right_comm]
        exact Int.mul_le_mul_of_nonneg_right (by omega) (Int.le_of_lt (Int.pow_pos (by omega)))
    · exact Or.inl rfl
theorem nuF_r {B : Nat → Int} {i j : Nat} : -1 ≤ nuF B i j ∧ nuF B i j ≤ 999 := by
  unfold nuF
  split
  · omega
  · have e : j - i = 1 ∨ j - i = 2 ∨ j - i = 3 := by omega
    have h := dgF_r (B := B) (j - i) i 0 (by omega)
    rcases e with e | e | e <;> rw [e] at h ⊢ <;> (rcases h with h | ⟨h1, h2⟩ <;> omega)
def ptF (B : Nat → Int) (m i j : Nat) : Int := if j = i + 2 ∧ (97 ≤ B i ∧ B i < 97 + (m : Int)) ∧ (97 ≤ B (i + 1) ∧ B (i + 1) < 97 + (m : Int)) then (B (i + 1) - 97) * (m : Int) + (B i - 97) else -1
theorem ptF_r {B : Nat → Int} {m i j : Nat} : ptF B m i j = -1 ∨ ∃ p : Nat, ptF B m i j = (p : Int) ∧ p < m * m := by
  unfold ptF
  split
  · rename_i h
    obtain ⟨_, ⟨h1, h2⟩, h3, h4⟩ := h
    obtain ⟨r, hr⟩ : ∃ r : Nat, B (i + 1) - 97 = (r : Int) := ⟨(B (i + 1) - 97).toNat, by omega⟩
    obtain ⟨c, hc⟩ : ∃ c : Nat, B i - 97 = (c : Int) := ⟨(B i - 97).toNat, by omega⟩
    rw [hr, hc]
    refine Or.inr ⟨r * m + c, by simp, ?_⟩
    have : (r + 1) * m ≤ m * m := Nat.mul_le_mul_right m (by omega)
    rw [Nat.add_mul] at this
    omega
  · exact Or.inl rfl
/-- what a node has been told: names, mover, point, sets, and the game's size and komi -/
abbrev ND := Int × Int × Int × (Nat → Int) × Nat × Int
def nTold (x : ND) : Int := x.1
def nMvr (x : ND) : Int := x.2.1
def nPnt (x : ND) : Int := x.2.2.1
def nSet (x : ND) : Nat → Int := x.2.2.2.1
def nSz (x : ND) : Nat := x.2.2.2.2.1
def nKm (x : ND) : Int := x.2.2.2.2.2
def setN (f : Nat → Int) (p : Nat) (v : Int) : Nat → Int := fun q => if q = p then v else f q
def vlF (B : Nat → Int) (nm : Int) (od i j : Nat) (x : ND) : Option ND :=
  if nm = 0 then some x else
  if 16 ≤ nm then (if ptF B (nSz x) i j < 0 ∨ nSet x (ptF B (nSz x) i j).toNat ≠ 3 then none else some (nTold x, nMvr x, nPnt x, setN (nSet x) (ptF B (nSz x) i j).toNat (if nm = 16 then 1 else if nm = 32 then 2 else 0), nSz x, nKm x)) else
  if ¬ od = 0 then none else
  if nm = 4 ∨ nm = 8 then (if ptF B (nSz x) i j = -1 ∧ ¬ i = j then none else some (nTold x, (if nm = 4 then 1 else 2), ptF B (nSz x) i j, nSet x, nSz x, nKm x)) else
  if nm = 1 then (if nuF B i j < 3 ∨ 9 < nuF B i j then none else some (nTold x, nMvr x, nPnt x, nSet x, (nuF B i j).toNat, nKm x)) else
  if B i = 45 then (if nuF B (i + 1) j < 0 ∨ 200 < nuF B (i + 1) j then none else some (nTold x, nMvr x, nPnt x, nSet x, nSz x, -(nuF B (i + 1) j))) else
  (if nuF B i j < 0 ∨ 200 < nuF B i j then none else some (nTold x, nMvr x, nPnt x, nSet x, nSz x, nuF B i j))
def vsF (B : Nat → Int) (L : Nat) (nm : Int) : Nat → Nat → Nat → ND → (Int × Nat) ⊕ (Nat × ND)
  | 0, q, _, x => .inr (q, x)
  | w + 1, q, od, x => if q < L ∧ B q = 91 then (if L ≤ clF B L L (q + 1) then .inl (1, L) else match vlF B nm od (q + 1) (clF B L L (q + 1)) x with
      | none => .inl (3, q)
      | some y => vsF B L nm w (skp B L (clF B L L (q + 1) + 1)) (od + 1) y) else .inr (q, x)
def toldN (x : ND) (t : Int) : ND := (t, nMvr x, nPnt x, nSet x, nSz x, nKm x)
def prF (B : Nat → Int) (L : Nat) (root : Bool) (i : Nat) (x : ND) : (Int × Nat) ⊕ (Nat × ND) :=
  if msF (nmF B i (grF B L L i)) (nTold x) root = true then .inl (2, i) else
  if skp B L (grF B L L i) < L ∧ B (skp B L (grF B L L i)) = 91 then vsF B L (nmF B i (grF B L L i)) L (skp B L (grF B L L i)) 0 (toldN x (orI (nTold x) (nmF B i (grF B L L i)))) else .inl (1, skp B L (grF B L L i))
def psF (B : Nat → Int) (L : Nat) (root : Bool) : Nat → Nat → ND → (Int × Nat) ⊕ (Nat × ND)
  | 0, q, x => .inr (q, x)
  | w + 1, q, x => if q < L ∧ (65 ≤ B q ∧ B q ≤ 90) then (match prF B L root q x with
      | .inl f => .inl f
      | .inr (q', y) => psF B L root w (skp B L q') y) else .inr (q, x)
def nd0 (m : Nat) (c : Int) : ND := (0, 0, -1, fun _ => 3, m, c)
/-- the board behind a node's sets -/
def ovl (b s : Nat → Int) : Nat → Int := fun p => if s p = 3 then b p else s p
noncomputable def trnS (T : ATr) (bh : Int) (s : Nat → Int) : Int := if bh < 0 then iteP ((∃ p, p < 81 ∧ s p = 1) ∧ ¬ ∃ p, p < 81 ∧ s p = 2) 2 1 else tTrn T bh.toNat
noncomputable def stF (ko : Int) (k : Nat) (bh : Int) (T : ATr) (x : ND) : Int ⊕ ATr :=
  if nMvr x = 0 then iteP (Alive (nSz x) (ovl (bB T bh) (nSet x))) (.inr (addT T k bh 0 0 (-1) 0 (trnS T bh (nSet x)) (if bh < 0 then 0 else tDep T bh.toNat + 1) (ovl (bB T bh) (nSet x)) (nSet x))) (.inl 5)
  else iteP (nPnt x = -1 ∨ Why (nSz x) T ko (bB T bh) bh (nPnt x).toNat (nMvr x) 0) (.inr (addT T k bh (if nPnt x = -1 then 2 else 1) (nMvr x) (nPnt x) (if nPnt x = -1 then 0 else ((cnt (Dies (nSz x) (bB T bh) (nPnt x).toNat (nMvr x)) (nSz x * nSz x) : Nat) : Int)) (3 - nMvr x) (if bh < 0 then 0 else tDep T bh.toNat + 1) (if nPnt x = -1 then bB T bh else putB (nSz x) (bB T bh) (nPnt x).toNat (nMvr x)) (fun _ => 3))) (.inl 4)
noncomputable def mnF (B : Nat → Int) (L : Nat) (ko : Int) : Nat → Nat → Nat → List Int → Int → Nat → ATr → Nat → Int → (Int × Nat) ⊕ (Nat × ATr × Nat × Int)
  | 0, _, _, _, _, _, _, _, _ => .inl (0, 0)
  | w + 1, i, st, stk, bh, k, T, m, c =>
    if skp B L i < L ∧ B (skp B L i) = 59 ∧ (st = 1 ∨ st = 2) then
      (if k = 250 then .inl (6, skp B L i) else match psF B L (decide (k = 0)) L (skp B L (skp B L i + 1)) (nd0 m c) with
        | .inl f => .inl f
        | .inr (q', x) => match stF ko k bh T x with
          | .inl e => .inl (e, skp B L i)
          | .inr T' => mnF B L ko w q' 2 stk (k : Int) (k + 1) T' (nSz x) (nKm x))
    else if skp B L i < L ∧ B (skp B L i) = 40 ∧ ¬ st = 1 ∧ ¬ st = 4 then mnF B L ko w (skp B L i + 1) 1 (bh :: stk) bh k T m c
    else if skp B L i < L ∧ B (skp B L i) = 41 ∧ (st = 2 ∨ st = 3) then (match stk with
      | [] => .inl (0, 0)
      | y :: ys => mnF B L ko w (skp B L i + 1) (if ys = [] then 4 else 3) ys y k T m c)
    else if L ≤ skp B L i ∧ st = 4 then .inr (k, T, m, c)
    else .inl (1, skp B L i)
