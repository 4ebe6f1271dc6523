/-- the open trees, as the class keeps them -/
def StC (σ : ZSto) : List Int → Prop
  | [] => True
  | y :: ys => gI σ 50 ys.length = y ∧ StC σ ys
theorem StC.kept {W : Nat → Nat → Prop} {σ σ' : ZSto} (hf : Fr W σ σ') : ∀ {l : List Int}, StC σ l → (∀ i, i < l.length → ¬ W 50 i) → StC σ' l := by
  intro l
  induction l with
  | nil => intro _ _; trivial
  | cons y ys ih =>
    rintro ⟨h1, h2⟩ hw
    exact ⟨by rw [hf.I (hw _ (by simp))]; exact h1, ih h2 (fun i hi => hw i (by simp; omega))⟩
/-- the text's result, in the class -/
def TxR (σ : ZSto) (t : Nat) (v : Int) : (Int × Nat) ⊕ (Nat × ATr × Nat × Int) → Prop
  | .inl f => v = f.1 ∧ gI σ 49 9 = (f.2 : Int) ∧ ¬ f.1 = 0
  | .inr r => v = 0 ∧ gI σ 49 9 = -1 ∧ CTr σ t r.2.2.1 r.1 r.2.2.2 r.2.1 ∧ TW r.2.2.1 r.1 r.2.1 ∧ 4 * sumT r.2.1 r.1 ≤ 1500 ∧ 1 ≤ r.1 ∧ (-200 ≤ r.2.2.2 ∧ r.2.2.2 ≤ 200)
def rdW (t a j : Nat) : Prop := (t ≤ a ∧ a ≤ t + 13 ∧ ¬ (a = t ∧ j = 16)) ∨ brdW 41 a ∨ a = 50 ∨ a = 51 ∨ (a = 49 ∧ 5 ≤ j)
/-- where the class stands between the pieces -/
def RdC (σ : ZSto) (t : Nat) (ko : Int) (i st : Nat) (stk : List Int) (bh : Int) (k : Nat) (T : ATr) (m : Nat) (c : Int) : Prop :=
  gP σ 49 4 = some t ∧ gI σ 49 5 = ko ∧ gI σ 49 6 = (i : Int) ∧ gI σ 49 7 = (st : Int) ∧ gI σ 49 8 = 0 ∧ gI σ 49 9 = -1 ∧ gI σ 49 10 = (stk.length : Int) ∧ gI σ 49 11 = bh ∧ StC σ stk ∧ CTr σ t m k c T ∧ BPre σ 41
section ZC
variable {X : ZX} {d n : Nat} {B : Nat → Int} {L : Nat}
theorem sp_readNode (hn : 73 ≤ n) {t k m i st : Nat} {stk : List Int} {c bh ko : Int} {T : ATr} {σ : ZSto} (ht : zIsT t) (hT : TpC σ B L) (hR : RdC σ t ko i st stk bh k T m c) (hPI : PI st stk bh k T m c i) (hst : st = 1 ∨ st = 2) (hi : i < L) (hk : k < 250) (hko : R32 ko) (hg : gI σ 41 10 < 1999990000) :
    ZkV X M_X5_readNode (d + 6) n [.ref (zB X + 49)] σ (fun σ' => Fr (ndW t) σ σ' ∧ BPre σ' 41 ∧ gI σ' 41 10 ≤ gI σ 41 10 + 100 ∧ NrR σ' t k (ndR B L ko i bh k T m c) ∧ gI σ' 49 7 = 2) := by
  have ht2 : t = 1 ∨ t = 15 := ht
  have hL := hT.2.1
  obtain ⟨r1, r2, r3, r4, r5, r6, r7, r8, r9, r10, r11⟩ := hR
  obtain ⟨a1, a2, a3, a4, a5, a6, a7, a8, a9, a10, a11⟩ := hPI
  refine w_X5_readNode hn ⟨t, r1, ht, ?_⟩
  rw [r10.2.2.1, r3]
  refine ⟨fun _ => ?_, fun y => by omega⟩
  have fs : Fr (fun a j => a = 49 ∧ (j = 12 ∨ j = 13 ∨ j = 14 ∨ j = 15)) σ (sI (sI (sI (sI σ 49 12 (i : Int)) 49 13 0) 49 14 0) 49 15 (-1)) := (((Fr.rf.sI (by omega)).sI (by omega)).sI (by omega)).sI (by omega)
  have s12 : gI (sI (sI (sI (sI σ 49 12 (i : Int)) 49 13 0) 49 14 0) 49 15 (-1)) 49 12 = (i : Int) := by rw [gI_f (by omega), gI_f (by omega), gI_f (by omega), gI_same]
  have s13 : gI (sI (sI (sI (sI σ 49 12 (i : Int)) 49 13 0) 49 14 0) 49 15 (-1)) 49 13 = 0 := by rw [gI_f (by omega), gI_f (by omega), gI_same]
  have s14 : gI (sI (sI (sI (sI σ 49 12 (i : Int)) 49 13 0) 49 14 0) 49 15 (-1)) 49 14 = 0 := by rw [gI_f (by omega), gI_same]
  have s15 : gI (sI (sI (sI (sI σ 49 12 (i : Int)) 49 13 0) 49 14 0) 49 15 (-1)) 49 15 = -1 := gI_same _ _ _ _
  generalize sI (sI (sI (sI σ 49 12 (i : Int)) 49 13 0) 49 14 0) 49 15 (-1) = σ1 at fs s12 s13 s14 s15
  refine (sp_fillL hn).mono ?_
  rintro σ2 ⟨f2, z2⟩
  have e6 : gI σ2 49 6 = (i : Int) := by rw [f2.I (by omega), fs.I (by omega)]; exact r3
  rw [e6]
  refine ⟨⟨by omega, by omega⟩, ?_⟩
  have f3 : Fr (fun a j => a = 49 ∧ (j = 6 ∨ j = 7)) σ2 (sI (sI σ2 49 6 ((i : Int) + 1)) 49 7 2) := (Fr.rf.sI (by omega)).sI (by omega)
  have t6 : gI (sI (sI σ2 49 6 ((i : Int) + 1)) 49 7 2) 49 6 = ((i + 1 : Nat) : Int) := by rw [gI_f (by omega), gI_same]; omega
  have t7 : gI (sI (sI σ2 49 6 ((i : Int) + 1)) 49 7 2) 49 7 = 2 := gI_same _ _ _ _
  generalize sI (sI σ2 49 6 ((i : Int) + 1)) 49 7 2 = σ3 at f3 t6 t7
  have F3 : Fr (ndW t) σ σ3 := ((fs.mono (W' := ndW t) (fun a j y => by unfold ndW; omega)).tr (f2.mono (fun a j y => by unfold ndW; omega))).tr (f3.mono (fun a j y => by unfold ndW; omega))
  refine (sp_skip hn L (i + 1) σ3 (hT.kept F3 (fun i => by unfold ndW brdW; omega) (by unfold ndW brdW; omega)) (by omega) (by omega) t6).mono ?_
  rintro σ4 ⟨f4, e4⟩
  have F4 : Fr (ndW t) σ σ4 := F3.tr (f4.mono (fun a j y => by unfold ndW; omega))
  have F4' : Fr (fun a j => a = 51 ∨ (a = 49 ∧ (j = 6 ∨ j = 7 ∨ j = 12 ∨ j = 13 ∨ j = 14 ∨ j = 15))) σ σ4 := (((fs.mono (fun a j y => by omega)).tr (f2.mono (fun a j y => by omega))).tr (f3.mono (fun a j y => by omega))).tr (f4.mono (fun a j y => by omega))
  obtain ⟨i1, i2, i3⟩ := nd0_i (k := k) (m := m) (c := c) a1 a2
  have hsk := skp_ge (B := B) (L := L) (i + 1)
  have N4 : NdC σ4 t (nd0 m c) := by
    refine ⟨?_, ?_, ?_, fun w hw => ?_, ?_, ?_⟩
    · rw [f4.I (by omega), f3.I (by omega), f2.I (by omega)]; exact s13
    · rw [f4.I (by omega), f3.I (by omega), f2.I (by omega)]; exact s14
    · rw [f4.I (by omega), f3.I (by omega), f2.I (by omega)]; exact s15
    · rw [f4.L (by omega), f3.L (by omega), z2 w hw, pkW_0 (f := fun p => stC (nSet (nd0 m c) p)) (fun p => rfl)]; rfl
    · rw [F4'.I (by omega)]; exact r10.1
    · rw [F4'.I (by omega)]; exact r10.2.1
  have C4 : CxC σ4 t k m c bh ko T i := by
    refine ⟨by rw [F4'.P (by omega)]; exact r1, ⟨m, c, r10.kept F4' (fun a i y => by unfold ctrD at y; omega), fun _ => ⟨rfl, rfl⟩⟩, r11.kept2 F4' (fun a i y => by unfold brdX at y; omega), by rw [F4'.I (by omega)]; exact r8, ?_, by rw [F4'.I (by omega)]; exact r2, ?_⟩
    · rw [f4.I (by omega), f3.I (by omega), f2.I (by omega)]; exact s12
    · rw [f4.I (by omega)]; exact t7
  have := nd_loop (X := X) (d := d) (σ0 := σ) hn ht hT a3 hk (a6 (by omega)) (show i ≤ 1500 by omega) hko hg (res := ndR B L ko i bh k T m c) L (skp B L (i + 1)) 0 (nd0 m c) σ4 (by omega) (by omega) (hsk.2 (by omega)) F4 (by rw [F4'.I (by omega)]) C4 i1 i2 (by rw [i3]; omega) N4 e4 ⟨by rw [F4'.I (by omega)]; exact r5, by rw [F4'.I (by omega)]; exact r6⟩ rfl
  simpa using this
theorem mnF_node {B : Nat → Int} {L : Nat} {ko : Int} {w i st : Nat} {stk : List Int} {bh : Int} {k : Nat} {T : ATr} {m : Nat} {c : Int} (h : skp B L i < L ∧ B (skp B L i) = 59 ∧ (st = 1 ∨ st = 2)) : mnF B L ko (w + 1) i st stk bh k T m c = if k = 250 then .inl (6, skp B L i) else match ndR B L ko (skp B L i) bh k T m c with | .inl f => .inl f | .inr r => mnF B L ko w r.1 2 stk (k : Int) (k + 1) r.2.2 (nSz r.2.1) (nKm r.2.1) := by
  show (if skp B L i < L ∧ B (skp B L i) = 59 ∧ (st = 1 ∨ st = 2) then _ else _) = _
  rw [if_pos h]
  by_cases hk : k = 250
  · rw [if_pos hk, if_pos hk]
  · rw [if_neg hk, if_neg hk]
    unfold ndR
    cases psF B L (decide (k = 0)) L (skp B L (skp B L i + 1)) (nd0 m c) with
    | inl f => rfl
    | inr r =>
      obtain ⟨q', x⟩ := r
      cases hst : stF ko k bh T x with
      | inl e => simp only [hst]
      | inr T' => simp only [hst]
theorem mnF_rest {B : Nat → Int} {L : Nat} {ko : Int} {w i st : Nat} {stk : List Int} {bh : Int} {k : Nat} {T : ATr} {m : Nat} {c : Int} (h : ¬ (skp B L i < L ∧ B (skp B L i) = 59 ∧ (st = 1 ∨ st = 2))) :
    (skp B L i < L ∧ B (skp B L i) = 40 ∧ ¬ st = 1 ∧ ¬ st = 4 → mnF B L ko (w + 1) i st stk bh k T m c = mnF B L ko w (skp B L i + 1) 1 (bh :: stk) bh k T m c) ∧
    (∀ y ys, skp B L i < L ∧ B (skp B L i) = 41 ∧ (st = 2 ∨ st = 3) → stk = y :: ys → mnF B L ko (w + 1) i st stk bh k T m c = mnF B L ko w (skp B L i + 1) (if ys = [] then 4 else 3) ys y k T m c) ∧
    (L ≤ skp B L i ∧ st = 4 → mnF B L ko (w + 1) i st stk bh k T m c = .inr (k, T, m, c)) ∧
    (¬ (skp B L i < L ∧ B (skp B L i) = 40 ∧ ¬ st = 1 ∧ ¬ st = 4) → ¬ (skp B L i < L ∧ B (skp B L i) = 41 ∧ (st = 2 ∨ st = 3)) → ¬ (L ≤ skp B L i ∧ st = 4) → mnF B L ko (w + 1) i st stk bh k T m c = .inl (1, skp B L i)) := by
  have e : mnF B L ko (w + 1) i st stk bh k T m c = (if skp B L i < L ∧ B (skp B L i) = 40 ∧ ¬ st = 1 ∧ ¬ st = 4 then mnF B L ko w (skp B L i + 1) 1 (bh :: stk) bh k T m c else if skp B L i < L ∧ B (skp B L i) = 41 ∧ (st = 2 ∨ st = 3) then (match stk with | [] => .inl (0, 0) | y :: ys => mnF B L ko w (skp B L i + 1) (if ys = [] then 4 else 3) ys y k T m c) else if L ≤ skp B L i ∧ st = 4 then .inr (k, T, m, c) else .inl (1, skp B L i)) := by
    show (if skp B L i < L ∧ B (skp B L i) = 59 ∧ (st = 1 ∨ st = 2) then _ else _) = _
    rw [if_neg h]
    cases stk <;> rfl
  rw [e]
  refine ⟨fun h1 => by rw [if_pos h1], fun y ys h1 h2 => ?_, fun h1 => ?_, fun h1 h2 h3 => by rw [if_neg h1, if_neg h2, if_neg h3]⟩
  · rw [if_neg (fun z => by omega), if_pos h1, h2]
  · rw [if_neg (fun z => by omega), if_neg (fun z => by omega), if_pos h1]
end ZC
