/-! ===== the reference's flood ===== -/
def nbM (m p dd : Nat) : Int := match dd with
  | 0 => nbC m p 0
  | 1 => nbC m p 3
  | 2 => nbC m p 1
  | _ => nbC m p 2
theorem nbM_adj {m p : Nat} (hm : 2 ≤ m) (hp : p < m * m) {q : Nat} : Adj m p q ↔ ∃ dd, dd < 4 ∧ nbM m p dd = (q : Int) := by
  rw [nbC_adj hm hp]
  constructor
  · rintro ⟨dd, hd, h⟩
    match dd, hd, h with
    | 0, _, h => exact ⟨0, by omega, h⟩
    | 1, _, h => exact ⟨2, by omega, h⟩
    | 2, _, h => exact ⟨3, by omega, h⟩
    | 3, _, h => exact ⟨1, by omega, h⟩
  · rintro ⟨dd, hd, h⟩
    match dd, hd, h with
    | 0, _, h => exact ⟨0, by omega, h⟩
    | 1, _, h => exact ⟨3, by omega, h⟩
    | 2, _, h => exact ⟨1, by omega, h⟩
    | 3, _, h => exact ⟨2, by omega, h⟩
theorem nbM_in {m p dd : Nat} (hm : 2 ≤ m) (hp : p < m * m) (hd : dd < 4) : nbM m p dd = -1 ∨ ∃ q : Nat, q < m * m ∧ nbM m p dd = (q : Int) := by
  match dd, hd with
  | 0, _ => exact nbC_in hm hp (show 0 < 4 by omega)
  | 1, _ => exact nbC_in hm hp (show 3 < 4 by omega)
  | 2, _ => exact nbC_in hm hp (show 1 < 4 by omega)
  | 3, _ => exact nbC_in hm hp (show 2 < 4 by omega)
theorem nb_ar {m p : Nat} (h3 : 3 ≤ m) (h9 : m ≤ 9) (hp : p < m * m) : ((p : Int) / (m : Int) ≤ 0 ↔ ¬ m ≤ p) ∧ ((m : Int) - 1 ≤ (p : Int) / (m : Int) ↔ ¬ p + m < m * m) ∧ ((p : Int) % (m : Int) ≤ 0 ↔ ¬ p % m ≠ 0) ∧ ((m : Int) - 1 ≤ (p : Int) % (m : Int) ↔ ¬ (p + 1) % m ≠ 0) ∧ 0 ≤ (p : Int) / (m : Int) ∧ (p : Int) / (m : Int) ≤ 81 ∧ 0 ≤ (p : Int) % (m : Int) ∧ (p : Int) % (m : Int) ≤ 81 := by
  have : m = 3 ∨ m = 4 ∨ m = 5 ∨ m = 6 ∨ m = 7 ∨ m = 8 ∨ m = 9 := by omega
  rcases this with rfl | rfl | rfl | rfl | rfl | rfl | rfl <;> omega
section ZF1
variable {X : ZX} {d n : Nat} {σ : ZSto}
theorem sm_beside (hn : 104 ≤ n) {m p dd : Nat} (h3 : 3 ≤ m) (h9 : m ≤ 9) (hm : gI σ 73 13 = (m : Int)) (hp : p < m * m) (hd : dd < 4) :
    ZkI X M_X10_beside (d + 1) n [.ref (zB X + 73), iV (p : Int), iV (dd : Int)] σ (fun v σ' => σ = σ' ∧ v = nbM m p dd) := by
  have hN := sq_le h9
  obtain ⟨a1, a2, a3, a4, a5, a6, a7, a8⟩ := nb_ar h3 h9 hp
  refine w_X10_beside hn ⟨by omega, by omega⟩ ⟨by omega, by omega⟩ ?_
  rw [hm]
  refine ⟨by omega, by omega, fun y5 e5 y8 e8 => ?_⟩
  rw [← e5] at a1 a2 a5 a6
  rw [← e8] at a3 a4 a7 a8
  refine ⟨fun d0 => ⟨fun d1 => ⟨fun d2 => ?_, fun d2 => ?_⟩, fun d1 => ?_⟩, fun d0 => ?_⟩
  · have : dd = 3 := by omega
    subst this
    refine ⟨⟨by omega, by omega⟩, ⟨by omega, by omega⟩, fun q => ⟨rfl, ?_⟩, fun q => ⟨⟨by omega, by omega⟩, rfl, ?_⟩⟩
    · simp only [nbM, nbC]; rw [if_neg (a4.mp q)]
    · simp only [nbM, nbC]; rw [if_pos (Classical.byContradiction (fun z => q (a4.mpr z)))]
  · have : dd = 2 := by omega
    subst this
    refine ⟨⟨by omega, by omega⟩, fun q => ⟨rfl, ?_⟩, fun q => ⟨⟨by omega, by omega⟩, rfl, ?_⟩⟩
    · simp only [nbM, nbC]; rw [if_neg (a3.mp q)]
    · simp only [nbM, nbC]; rw [if_pos (Classical.byContradiction (fun z => q (a3.mpr z)))]
  · have : dd = 1 := by omega
    subst this
    refine ⟨⟨by omega, by omega⟩, ⟨by omega, by omega⟩, fun q => ⟨rfl, ?_⟩, fun q => ⟨⟨by omega, by omega⟩, rfl, ?_⟩⟩
    · simp only [nbM, nbC]; rw [if_neg (a2.mp q)]
    · simp only [nbM, nbC]; rw [if_pos (Classical.byContradiction (fun z => q (a2.mpr z)))]
  · have : dd = 0 := by omega
    subst this
    refine ⟨⟨by omega, by omega⟩, fun q => ⟨rfl, ?_⟩, fun q => ⟨⟨by omega, by omega⟩, rfl, ?_⟩⟩
    · simp only [nbM, nbC]; rw [if_neg (a1.mp q)]
    · simp only [nbM, nbC]; rw [if_pos (Classical.byContradiction (fun z => q (a1.mpr z)))]
end ZF1
def MSt (σ : ZSto) (m : Nat) (bd : Nat → Int) : Prop := ∀ p, p < m * m → gI σ 84 p = bd p
def fldW (a i : Nat) : Prop := a = 85 ∨ a = 86 ∨ a = 87
/-- liberties of the chain of s -/
def Lib (m : Nat) (bd : Nat → Int) (s q : Nat) : Prop := bd q = 0 ∧ ∃ a, Rch m (fun x => bd x = bd s) s a ∧ Adj m a q
/-- the chain of s -/
def Chn (m : Nat) (bd : Nat → Int) (s q : Nat) : Prop := Rch m (fun x => bd x = bd s) s q
def FI (σ0 σ : ZSto) (m : Nat) (bd : Nat → Int) (s w f : Nat) : Prop :=
  Fr fldW σ0 σ ∧ (∀ q, q < 81 → (gI σ 85 q = 0 ∨ gI σ 85 q = 1) ∧ (gI σ 86 q = 0 ∨ gI σ 86 q = 1)) ∧
  (∀ q, q < 81 → gI σ 85 q = 1 → q < m * m ∧ Chn m bd s q) ∧
  (∀ q, q < 81 → gI σ 86 q = 1 → q < m * m ∧ Lib m bd s q) ∧
  gI σ 85 s = 1 ∧ w ≤ cnt (fun q => gI σ 85 q = 1) (m * m) ∧ f = cnt (fun q => gI σ 86 q = 1) (m * m) ∧
  (∀ i, i < w → ∃ q : Nat, gI σ 87 i = (q : Int) ∧ q < m * m ∧ gI σ 85 q = 1)
/-- the neighbours of a are seen -/
def FDn (σ : ZSto) (m : Nat) (bd : Nat → Int) (s a : Nat) (k : Nat) : Prop := ∀ dd, dd < k → ∀ b : Nat, nbM m a dd = (b : Int) → (bd b = 0 → gI σ 86 b = 1) ∧ (bd b = bd s → gI σ 85 b = 1)
/-- every point that is in is on the stack, or seen, or the present one -/
def FAl (σ : ZSto) (m : Nat) (bd : Nat → Int) (s w : Nat) (cur : Option Nat) : Prop := ∀ a, a < m * m → gI σ 85 a = 1 → (∃ i, i < w ∧ gI σ 87 i = (a : Int)) ∨ FDn σ m bd s a 4 ∨ cur = some a
/-- what flood leaves, and answers -/
def Fld (σ0 σ : ZSto) (m : Nat) (bd : Nat → Int) (s : Nat) : Prop :=
  Fr fldW σ0 σ ∧ (∀ q, q < 81 → (gI σ 85 q = 0 ∨ gI σ 85 q = 1) ∧ (gI σ 86 q = 0 ∨ gI σ 86 q = 1)) ∧
  (∀ q, q < 81 → (gI σ 85 q = 1 ↔ Chn m bd s q)) ∧ (∀ q, q < 81 → (gI σ 86 q = 1 ↔ Lib m bd s q))
section ZF2
variable {X : ZX} {d n : Nat} {P : Int → ZSto → Prop}
theorem flood_loop (hn : 104 ≤ n) {m s : Nat} {bd : Nat → Int} {σ0 : ZSto} (h3 : 3 ≤ m) (h9 : m ≤ 9) (hm : gI σ0 73 13 = (m : Int)) (hst : MSt σ0 m bd) (hs : s < m * m) (hc : bd s ≠ 0) (hcr : R32 (bd s))
    (hP : ∀ (σ : ZSto) (f : Nat), FI σ0 σ m bd s 0 f → FAl σ m bd s 0 none → P (f : Int) σ) :
    ∀ (z : Nat), (∀ (σ : ZSto) (w f : Nat), FI σ0 σ m bd s w f → FAl σ m bd s w none → 10 * (2 * (81 - cnt (fun q => gI σ 85 q = 1) (m * m)) + w) ≤ z → L_X10_flood_54 X (d + 1) n (zpI P) (bd s) (w : Int) (f : Int) σ) ∧
      (∀ (σ : ZSto) (w f a j : Nat), FI σ0 σ m bd s w f → a < m * m → gI σ 85 a = 1 → j ≤ 4 → FDn σ m bd s a j → FAl σ m bd s w (some a) → 10 * (2 * (81 - cnt (fun q => gI σ 85 q = 1) (m * m)) + w) + (5 - j) ≤ z → L_X10_flood_72 X (d + 1) n (zpI P) (bd s) (w : Int) (f : Int) (a : Int) (j : Int) σ) := by
  have hN : m * m ≤ 81 := sq_le h9
  have hfle : ∀ (σ : ZSto), cnt (fun q => gI σ 86 q = 1) (m * m) ≤ 81 := fun σ => by have := cnt_le (fun q => gI σ 86 q = 1) (m * m); omega
  intro z
  induction z with
  | zero =>
    refine ⟨fun σ w f hI hA hz => ?_, fun σ w f a j hI ha haV hj hD hA hz => by omega⟩
    have hw : w = 0 := by omega
    subst hw
    exact b_X10_flood_54 hn ⟨fun _ => hP σ f hI hA, fun q => by omega⟩
  | succ z ih =>
    refine ⟨fun σ w f hI hA hz => ?_, fun σ w f a j hI ha haV hj hD hA hz => ?_⟩
    · refine b_X10_flood_54 hn ⟨fun q => ?_, fun q => ⟨?_, fun y hy => ⟨?_, ?_⟩⟩⟩
      · have hw : w = 0 := by omega
        subst hw
        exact hP σ f hI hA
      · have := hI.2.2.2.2.2.1
        have := cnt_le (fun q => gI σ 85 q = 1) (m * m)
        omega
      · have := hI.2.2.2.2.2.1
        have := cnt_le (fun q => gI σ 85 q = 1) (m * m)
        exact ⟨by omega, by omega⟩
      · obtain ⟨w', rfl⟩ : ∃ w', w = w' + 1 := ⟨w - 1, by omega⟩
        have tw : (((w' + 1 : Nat) : Int) + (-1)).toNat = w' := by omega
        have tw2 : ((w' + 1 : Nat) : Int) + (-1) = (w' : Int) := by omega
        rw [tw] at hy
        obtain ⟨a, ha1, ha2, ha3⟩ := hI.2.2.2.2.2.2.2 w' (by omega)
        rw [tw2, hy, ha1]
        refine ih.2 σ w' f a 0 ?_ ha2 ha3 (by omega) (fun dd hd => by omega) ?_ (by omega)
        · obtain ⟨i1, i2, i3, i4, i5, i6, i7, i8⟩ := hI
          exact ⟨i1, i2, i3, i4, i5, by omega, i7, fun i hi => i8 i (by omega)⟩
        · intro b hb hbV
          rcases hA b hb hbV with ⟨i, i1, i2⟩ | h | h
          · by_cases e : i = w'
            · subst e
              rw [ha1] at i2
              exact Or.inr (Or.inr (by congr 1; omega))
            · exact Or.inl ⟨i, by omega, i2⟩
          · exact Or.inr (Or.inl h)
          · cases h
    · refine b_X10_flood_72 hn ⟨fun q => ?_, fun q => ?_⟩
      · have ej : j = 4 := by omega
        subst ej
        refine ih.1 σ w f hI (fun b hb hbV => ?_) (by omega)
        rcases hA b hb hbV with h | h | h
        · exact Or.inl h
        · exact Or.inr (Or.inl h)
        · cases h
          exact Or.inr (Or.inl hD)
      · have hm1 : gI σ 73 13 = (m : Int) := by rw [hI.1.I (by unfold fldW; omega)]; exact hm
        refine (sm_beside hn h3 h9 hm1 ha (show j < 4 by omega)).mono ?_
        rintro v _ - ⟨rfl, hv⟩
        have next : ∀ (σ' : ZSto) (w' f' : Nat), FI σ0 σ' m bd s w' f' → (∀ q, gI σ 85 q = 1 → gI σ' 85 q = 1) → (∀ q, gI σ 86 q = 1 → gI σ' 86 q = 1) → FAl σ' m bd s w' (some a) → (∀ b : Nat, nbM m a j = (b : Int) → (bd b = 0 → gI σ' 86 b = 1) ∧ (bd b = bd s → gI σ' 85 b = 1)) → 2 * (81 - cnt (fun q => gI σ' 85 q = 1) (m * m)) + w' ≤ 2 * (81 - cnt (fun q => gI σ 85 q = 1) (m * m)) + w → L_X10_flood_72 X (d + 1) n (zpI P) (bd s) (w' : Int) (f' : Int) (a : Int) ((j : Int) + 1) σ' := by
          intro σ' w' f' hI' k5 k6 hA' hb' hz'
          have := ih.2 σ' w' f' a (j + 1) hI' ha (k5 a haV) (by omega) (fun dd hd b hb => ?_) hA' (by omega)
          · simpa using this
          · by_cases e : dd = j
            · subst e; exact hb' b hb
            · have := hD dd (by omega) b hb
              exact ⟨fun z1 => k6 b (this.1 z1), fun z1 => k5 b (this.2 z1)⟩
        have hj1 : R32 ((j : Int) + 1) := ⟨by omega, by omega⟩
        have skip : (∀ b : Nat, nbM m a j = (b : Int) → (bd b = 0 → gI σ 86 b = 1) ∧ (bd b = bd s → gI σ 85 b = 1)) → L_X10_flood_72 X (d + 1) n (zpI P) (bd s) (w : Int) (f : Int) (a : Int) ((j : Int) + 1) σ := fun hb => next σ w f hI (fun _ h => h) (fun _ h => h) hA hb (Nat.le_refl _)
        refine ⟨fun hv0 => ?_, fun hv0 => ⟨hj1, skip (fun b hb => by omega)⟩⟩
        obtain ⟨b, hbN, hb⟩ : ∃ q : Nat, q < m * m ∧ nbM m a j = (q : Int) := by
          rcases nbM_in (by omega) ha (show j < 4 by omega) with h | h
          · omega
          · exact h
        have hvb : v = (b : Int) := by rw [hv, hb]
        subst hvb
        have tb : ((b : Int)).toNat = b := by omega
        have hadj : Adj m a b := (nbM_adj (by omega) ha).mpr ⟨j, by omega, hb⟩
        have hbw : gI σ 84 b = bd b := by rw [hI.1.I (by unfold fldW; omega)]; exact hst b hbN
        have haC := (hI.2.2.1 a (by omega) haV).2
        have uniq : ∀ b' : Nat, nbM m a j = (b' : Int) → b' = b := fun b' h => by omega
        have bit := hI.2.1 b (by omega)
        rw [tb, hbw]
        -- the second test
        have second : (bd b = 0 → gI σ 86 b = 1) → L_X10_flood_130 X (d + 1) n (zpI P) (bd s) (w : Int) (f : Int) (a : Int) (j : Int) (b : Int) σ := by
          intro hfree
          refine b_X10_flood_130 hn ?_
          rw [tb, hbw]
          refine ⟨by omega, fun q1 => ⟨hj1, skip (fun b' hb' => ?_)⟩, fun q1 => ⟨fun q2 => ⟨hj1, skip (fun b' hb' => ?_)⟩, fun q2 => ?_⟩⟩
          · rw [uniq b' hb']; exact ⟨hfree, fun h => absurd h q1⟩
          · rw [uniq b' hb']; exact ⟨hfree, fun _ => by omega⟩
          · have hcl : cnt (fun q => gI σ 85 q = 1) (m * m) < m * m := cnt_lt hbN (by omega)
            have hw := hI.2.2.2.2.2.1
            have tw : ((w : Int)).toNat = w := by omega
            rw [tw]
            refine ⟨by omega, ⟨by omega, by omega⟩, hj1, ?_⟩
            obtain ⟨σ', eσ⟩ : ∃ σ', σ' = sI (sI σ 85 b 1) 87 w (b : Int) := ⟨_, rfl⟩
            have e5 : ∀ q, gI σ' 85 q = if q = b then 1 else gI σ 85 q := by intro q; rw [eσ]; simp [gI_if]
            have e6 : ∀ q, gI σ' 86 q = gI σ 86 q := by intro q; rw [eσ]; simp [gI_if]
            have e7 : ∀ q, gI σ' 87 q = if q = w then (b : Int) else gI σ 87 q := by intro q; rw [eσ]; simp [gI_if]
            have e5' : ∀ q, gI σ' 85 q = 1 ↔ (gI σ 85 q = 1 ∨ q = b) := by
              intro q; rw [e5]
              by_cases h : q = b
              · simp [h]
              · simp [h]
            have hcnt : cnt (fun q => gI σ' 85 q = 1) (m * m) = cnt (fun q => gI σ 85 q = 1) (m * m) + 1 := cnt_add hbN (by omega) ((e5' b).mpr (Or.inr rfl)) (fun i _ hi => by rw [e5']; simp [hi])
            rw [← eσ]
            obtain ⟨i1, i2, i3, i4, i5, i6, i7, i8⟩ := hI
            have hI' : FI σ0 σ' m bd s (w + 1) f := by
              refine ⟨by rw [eσ]; exact (i1.sI (by unfold fldW; omega)).sI (by unfold fldW; omega), fun q hq => ⟨?_, by rw [e6]; exact (i2 q hq).2⟩, fun q hq hqV => ?_, fun q hq hqF => ?_, (e5' s).mpr (Or.inl i5), by omega, ?_, fun i hi => ?_⟩
              · rw [e5]; split
                · exact Or.inr rfl
                · exact (i2 q hq).1
              · rcases (e5' q).mp hqV with h | h
                · exact i3 q hq h
                · rw [h]; exact ⟨hbN, Rch.step haC hadj q1⟩
              · rw [e6] at hqF; exact i4 q hq hqF
              · rw [i7]; exact cnt_congr (fun i _ => by rw [e6])
              · rw [e7]
                by_cases h : i = w
                · rw [if_pos h]; exact ⟨b, rfl, hbN, (e5' b).mpr (Or.inr rfl)⟩
                · rw [if_neg h]
                  obtain ⟨q, k1, k2, k3⟩ := i8 i (by omega)
                  exact ⟨q, k1, k2, (e5' q).mpr (Or.inl k3)⟩
            have fin := next σ' (w + 1) f hI' (fun q h => (e5' q).mpr (Or.inl h)) (fun q h => by rw [e6]; exact h) ?_ ?_ (by omega)
            · have e : ((w + 1 : Nat) : Int) = (w : Int) + 1 := by omega
              rw [e] at fin
              exact fin
            · intro q hq hqV
              rcases (e5' q).mp hqV with h | h
              · rcases hA q hq h with ⟨i, k1, k2⟩ | h2 | h2
                · exact Or.inl ⟨i, by omega, by rw [e7, if_neg (by omega)]; exact k2⟩
                · exact Or.inr (Or.inl (fun dd hd b' hb' => ⟨fun z1 => by rw [e6]; exact (h2 dd hd b' hb').1 z1, fun z1 => (e5' b').mpr (Or.inl ((h2 dd hd b' hb').2 z1))⟩))
                · exact Or.inr (Or.inr h2)
              · exact Or.inl ⟨w, by omega, by rw [e7, if_pos rfl, h]⟩
            · intro b' hb'
              rw [uniq b' hb']
              exact ⟨fun z1 => by rw [e6]; exact hfree z1, fun _ => (e5' b).mpr (Or.inr rfl)⟩
        refine ⟨by omega, fun q1 => second (fun h => absurd h q1), fun q1 => ⟨fun q2 => second (fun _ => by omega), fun q2 => ?_⟩⟩
        -- a new liberty
        have hfl := hfle σ
        have hff := hI.2.2.2.2.2.2.1
        obtain ⟨σ', eσ⟩ : ∃ σ', σ' = sI σ 86 b 1 := ⟨_, rfl⟩
        have e5 : ∀ q, gI σ' 85 q = gI σ 85 q := by intro q; rw [eσ]; simp [gI_if]
        have e6 : ∀ q, gI σ' 86 q = if q = b then 1 else gI σ 86 q := by intro q; rw [eσ]; simp [gI_if]
        have e7 : ∀ q, gI σ' 87 q = gI σ 87 q := by intro q; rw [eσ]; simp [gI_if]
        have e6' : ∀ q, gI σ' 86 q = 1 ↔ (gI σ 86 q = 1 ∨ q = b) := by
          intro q; rw [e6]
          by_cases h : q = b
          · simp [h]
          · simp [h]
        refine ⟨⟨by omega, by omega⟩, hj1, ?_⟩
        rw [← eσ]
        obtain ⟨i1, i2, i3, i4, i5, i6, i7, i8⟩ := hI
        have c5 : cnt (fun q => gI σ' 85 q = 1) (m * m) = cnt (fun q => gI σ 85 q = 1) (m * m) := cnt_congr (fun i _ => by rw [e5])
        have hI' : FI σ0 σ' m bd s w (f + 1) := by
          refine ⟨by rw [eσ]; exact i1.sI (by unfold fldW; omega), fun q hq => ⟨by rw [e5]; exact (i2 q hq).1, ?_⟩, fun q hq hqV => ?_, fun q hq hqF => ?_, by rw [e5]; exact i5, by omega, ?_, fun i hi => ?_⟩
          · rw [e6]; split
            · exact Or.inr rfl
            · exact (i2 q hq).2
          · rw [e5] at hqV; exact i3 q hq hqV
          · rcases (e6' q).mp hqF with h | h
            · exact i4 q hq h
            · rw [h]; exact ⟨hbN, q1, a, haC, hadj⟩
          · rw [cnt_add (P := fun q => gI σ 86 q = 1) hbN (by omega) ((e6' b).mpr (Or.inr rfl)) (fun i _ hi => by rw [e6']; simp [hi]), ← i7]
          · obtain ⟨q, k1, k2, k3⟩ := i8 i hi
            exact ⟨q, by rw [e7]; exact k1, k2, by rw [e5]; exact k3⟩
        have fin := next σ' w (f + 1) hI' (fun q h => by rw [e5]; exact h) (fun q h => (e6' q).mpr (Or.inl h)) ?_ ?_ (by omega)
        · have e : ((f + 1 : Nat) : Int) = (f : Int) + 1 := by omega
          rw [e] at fin
          exact fin
        · intro q hq hqV
          rw [e5] at hqV
          rcases hA q hq hqV with ⟨i, k1, k2⟩ | h2 | h2
          · exact Or.inl ⟨i, k1, by rw [e7]; exact k2⟩
          · exact Or.inr (Or.inl (fun dd hd b' hb' => ⟨fun z1 => (e6' b').mpr (Or.inl ((h2 dd hd b' hb').1 z1)), fun z1 => by rw [e5]; exact (h2 dd hd b' hb').2 z1⟩))
          · exact Or.inr (Or.inr h2)
        · intro b' hb'
          rw [uniq b' hb']
          exact ⟨fun _ => (e6' b).mpr (Or.inr rfl), fun z1 => by rw [q1] at z1; exact absurd z1.symm hc⟩
theorem flood_clear (hn : 104 ≤ n) {x : Int} {σ0 : ZSto} (hP : ∀ σ : ZSto, Fr fldW σ0 σ → (∀ q, q < 81 → gI σ 85 q = 0 ∧ gI σ 86 q = 0) → L_X10_flood_2 X d n (zpI P) x 81 σ) :
    ∀ (w : Nat) (σ : ZSto) (i : Nat), 81 - i ≤ w → i ≤ 81 → Fr fldW σ0 σ → (∀ q, q < i → gI σ 85 q = 0 ∧ gI σ 86 q = 0) → L_X10_flood_2 X d n (zpI P) x (i : Int) σ := by
  intro w
  induction w with
  | zero =>
    intro σ i hw hi hf hq
    have : i = 81 := by omega
    subst this
    exact hP σ hf hq
  | succ w ih =>
    intro σ i hw hi hf hq
    by_cases e : i = 81
    · subst e; exact hP σ hf hq
    · refine b_X10_flood_2 hn ⟨fun z => by omega, fun z => ⟨by omega, ⟨by omega, by omega⟩, ?_⟩⟩
      have ti : ((i : Int)).toNat = i := by omega
      rw [ti]
      have := ih (sI (sI σ 85 i 0) 86 i 0) (i + 1) (by omega) (by omega) ((hf.sI (by unfold fldW; omega)).sI (by unfold fldW; omega)) (fun q hq2 => ?_)
      · simpa using this
      · by_cases e2 : q = i
        · subst e2; simp [gI_if]
        · have := hq q (by omega)
          simp [gI_if, e2, this]
theorem sm_flood {σ : ZSto} (hn : 104 ≤ n) {m s : Nat} {bd : Nat → Int} (h3 : 3 ≤ m) (h9 : m ≤ 9) (hm : gI σ 73 13 = (m : Int)) (hst : MSt σ m bd) (hs : s < m * m) (hc : bd s ≠ 0) (hcr : R32 (bd s)) :
    ZkI X M_X10_flood (d + 2) n [.ref (zB X + 73), iV (s : Int)] σ (fun v σ' => Fld σ σ' m bd s ∧ v = (cnt (Lib m bd s) (m * m) : Nat)) := by
  have hN : m * m ≤ 81 := sq_le h9
  refine w_X10_flood hn ⟨by omega, by omega⟩ ?_
  refine flood_clear hn (σ0 := σ) (fun σ1 hf hz => ?_) 81 σ 0 (by omega) (by omega) Fr.rf (fun q hq => by omega)
  refine b_X10_flood_2 hn ⟨fun _ => ⟨by omega, fun y hy => ?_⟩, fun q => by omega⟩
  have ts : ((s : Int)).toNat = s := by omega
  rw [ts] at hy ⊢
  have hy2 : y = bd s := by rw [hy, hf.I (by unfold fldW; omega)]; exact hst s hs
  subst hy2
  obtain ⟨σ2, e2⟩ : ∃ σ2, σ2 = sI (sI σ1 87 0 (s : Int)) 85 s 1 := ⟨_, rfl⟩
  have f5 : ∀ q, gI σ2 85 q = if q = s then 1 else gI σ1 85 q := by intro q; rw [e2]; simp [gI_if]
  have f6 : ∀ q, gI σ2 86 q = gI σ1 86 q := by intro q; rw [e2]; simp [gI_if]
  have f5' : ∀ q, q < 81 → (gI σ2 85 q = 1 ↔ q = s) := by
    intro q hq; rw [f5]
    by_cases h : q = s
    · simp [h]
    · rw [if_neg h, (hz q hq).1]; simp [h]
  have hI : FI σ σ2 m bd s 1 0 := by
    refine ⟨by rw [e2]; exact (hf.sI (by unfold fldW; omega)).sI (by unfold fldW; omega), fun q hq => ⟨?_, by rw [f6, (hz q hq).2]; exact Or.inl rfl⟩, fun q hq h => ?_, fun q hq h => ?_, (f5' s (by omega)).mpr rfl, ?_, ?_, fun i hi => ?_⟩
    · rw [f5]; split
      · exact Or.inr rfl
      · exact Or.inl (hz q hq).1
    · rw [(f5' q hq).mp h]; exact ⟨hs, Rch.rf⟩
    · rw [f6, (hz q hq).2] at h; omega
    · rw [cnt_congr (Q := fun q => q = s) (fun i hi => f5' i (by omega)), cnt_one hs]; exact Nat.le_refl 1
    · rw [cnt_0 (fun i hi => by rw [f6, (hz i (by omega)).2]; omega)]
    · have : i = 0 := by omega
      subst this
      exact ⟨s, by rw [e2]; simp [gI_if], hs, (f5' s (by omega)).mpr rfl⟩
  have hA : FAl σ2 m bd s 1 none := by
    intro a ha haV
    rw [(f5' a (by omega)).mp haV]
    exact Or.inl ⟨0, by omega, by rw [e2]; simp [gI_if]⟩
  rw [← e2]
  refine (flood_loop (P := fun v σ' => Fld σ σ' m bd s ∧ v = (cnt (Lib m bd s) (m * m) : Nat)) hn h3 h9 hm hst hs hc hcr ?_ (10 * (2 * 81 + 1))).1 σ2 1 0 hI hA ?_
  · intro σ' f hI' hA'
    obtain ⟨i1, i2, i3, i4, i5, i6, i7, i8⟩ := hI'
    have dn : ∀ a, a < m * m → gI σ' 85 a = 1 → FDn σ' m bd s a 4 := by
      intro a ha haV
      rcases hA' a ha haV with ⟨i, k, -⟩ | h | h
      · omega
      · exact h
      · cases h
    have V : ∀ q, q < 81 → (gI σ' 85 q = 1 ↔ Chn m bd s q) := by
      intro q hq
      refine ⟨fun h => (i3 q hq h).2, fun h => ?_⟩
      have := h (fun x => x < m * m ∧ gI σ' 85 x = 1) ⟨hs, i5⟩ (fun a b ha hab hb => ⟨hab.2.1, ?_⟩)
      · exact this.2
      · obtain ⟨dd, k1, k2⟩ := (nbM_adj (by omega) ha.1).mp hab
        exact (dn a ha.1 ha.2 dd k1 b k2).2 hb
    have U : ∀ q, q < 81 → (gI σ' 86 q = 1 ↔ Lib m bd s q) := by
      intro q hq
      refine ⟨fun h => (i4 q hq h).2, fun h => ?_⟩
      obtain ⟨h0, a, ha, hab⟩ := h
      obtain ⟨dd, k1, k2⟩ := (nbM_adj (by omega) hab.1).mp hab
      exact (dn a hab.1 ((V a (by have := hab.1; omega)).mpr ha) dd k1 q k2).1 h0
    refine ⟨⟨i1, i2, V, U⟩, ?_⟩
    rw [i7]
    congr 1
    exact cnt_congr (fun i hi => U i (by omega))
  · omega
end ZF2
