/-! ===== the reference's owners ===== -/
def Hb (f c : Int) : Prop := f = c ∨ f = 3
theorem or_ok {f v : Int} (hf : f = 0 ∨ f = 1 ∨ f = 2 ∨ f = 3) (hv : v = 0 ∨ v = 1 ∨ v = 2) : (orI f v = 0 ∨ orI f v = 1 ∨ orI f v = 2 ∨ orI f v = 3) ∧ (Hb (orI f v) 1 ↔ (Hb f 1 ∨ v = 1)) ∧ (Hb (orI f v) 2 ↔ (Hb f 2 ∨ v = 2)) := by
  unfold Hb
  rcases hf with rfl | rfl | rfl | rfl <;> rcases hv with rfl | rfl | rfl <;> decide
def ownW (a i : Nat) : Prop := a = 85 ∨ a = 87
def OI (σ0 σ : ZSto) (m : Nat) (cl : Nat → Int) (s w : Nat) (f : Int) : Prop :=
  Fr ownW σ0 σ ∧ (∀ q, q < 81 → gI σ 85 q = 0 ∨ gI σ 85 q = 1) ∧ (∀ q, q < 81 → gI σ 85 q = 1 → q < m * m ∧ Rch m (fun x => cl x = 0) s q) ∧
  gI σ 85 s = 1 ∧ w ≤ cnt (fun q => gI σ 85 q = 1) (m * m) ∧ (∀ i, i < w → ∃ q : Nat, gI σ 87 i = (q : Int) ∧ q < m * m ∧ gI σ 85 q = 1) ∧
  (f = 0 ∨ f = 1 ∨ f = 2 ∨ f = 3) ∧ ∀ c : Int, c = 1 ∨ c = 2 → Hb f c → ∃ r, Rim m (fun x => cl x = 0) s r ∧ cl r = c
def ODn (σ : ZSto) (m : Nat) (cl : Nat → Int) (f : Int) (a k : Nat) : Prop := ∀ dd, dd < k → ∀ b : Nat, nbM m a dd = (b : Int) → (cl b = 0 → gI σ 85 b = 1) ∧ (∀ c : Int, c = 1 ∨ c = 2 → cl b = c → Hb f c)
def OAl (σ : ZSto) (m : Nat) (cl : Nat → Int) (f : Int) (w : Nat) (cur : Option Nat) : Prop := ∀ a, a < m * m → gI σ 85 a = 1 → (∃ i, i < w ∧ gI σ 87 i = (a : Int)) ∨ ODn σ m cl f a 4 ∨ cur = some a
section ZW
variable {X : ZX} {d n : Nat}
theorem sm_counts {σ : ZSto} (hn : 104 ≤ n) {p : Nat} {bd dd : Nat → Int} (hw : WAll σ bd) (hd : ∀ q, q < 81 → gI σ 92 q = dd q) (hp : p < 81) : ZkI X M_X10_counts (d + 1) n [.ref (zB X + 73), iV (p : Int)] σ (fun v σ' => σ = σ' ∧ v = clB bd dd p) := by
  have tp : ((p : Int)).toNat = p := by omega
  refine w_X10_counts hn ⟨by omega, by omega⟩ ?_
  rw [tp, hd p hp, hw p hp]
  unfold clB
  exact ⟨by omega, fun q => ⟨rfl, by rw [if_pos q]⟩, fun q => ⟨rfl, by rw [if_neg q]⟩⟩
theorem own_loop (hn : 104 ≤ n) {m s : Nat} {bd dd : Nat → Int} {σ0 : ZSto} {P : ZSto → Prop} {x1 : Int} (h3 : 3 ≤ m) (h9 : m ≤ 9) (hm : gI σ0 73 13 = (m : Int)) (hw0 : WAll σ0 bd) (hd0 : ∀ q, q < 81 → gI σ0 92 q = dd q) (hcon : BCon m bd) (hs : s < m * m) (hc : clB bd dd s = 0)
    (hP : ∀ (σ : ZSto) (f : Int), OI σ0 σ m (clB bd dd) s 0 f → OAl σ m (clB bd dd) f 0 none → L_X10_owners_206 X (d + 1) n (zpV P) x1 f 0 σ) :
    ∀ (z : Nat), (∀ (σ : ZSto) (w : Nat) (f : Int), OI σ0 σ m (clB bd dd) s w f → OAl σ m (clB bd dd) f w none → 10 * (2 * (81 - cnt (fun q => gI σ 85 q = 1) (m * m)) + w) ≤ z → L_X10_owners_102 X (d + 1) n (zpV P) x1 (w : Int) f σ) ∧
      (∀ (σ : ZSto) (w a j : Nat) (f : Int), OI σ0 σ m (clB bd dd) s w f → a < m * m → gI σ 85 a = 1 → j ≤ 4 → ODn σ m (clB bd dd) f a j → OAl σ m (clB bd dd) f w (some a) → 10 * (2 * (81 - cnt (fun q => gI σ 85 q = 1) (m * m)) + w) + (5 - j) ≤ z → L_X10_owners_120 X (d + 1) n (zpV P) x1 (w : Int) f (a : Int) (j : Int) σ) := by
  have hN : m * m ≤ 81 := sq_le h9
  have hcc := clB_con (dd := dd) hcon
  generalize hcl : clB bd dd = cl at hcc hc hP ⊢
  intro z
  induction z with
  | zero =>
    refine ⟨fun σ w f hI hA hz => ?_, fun σ w a j f hI ha haV hj hD hA hz => by omega⟩
    have hw : w = 0 := by omega
    subst hw
    exact b_X10_owners_102 hn ⟨fun _ => hP σ f hI hA, fun q => by omega⟩
  | succ z ih =>
    refine ⟨fun σ w f hI hA hz => ?_, fun σ w a j f hI ha haV hj hD hA hz => ?_⟩
    · have hwl := hI.2.2.2.2.1
      have hcn := cnt_le (fun q => gI σ 85 q = 1) (m * m)
      refine b_X10_owners_102 hn ⟨fun q => ?_, fun q => ⟨by omega, fun y hy => ⟨⟨by omega, by omega⟩, ?_⟩⟩⟩
      · have hw : w = 0 := by omega
        subst hw
        exact hP σ f hI hA
      · obtain ⟨w', rfl⟩ : ∃ w', w = w' + 1 := ⟨w - 1, by omega⟩
        have tw : (((w' + 1 : Nat) : Int) + (-1)).toNat = w' := by omega
        have tw2 : ((w' + 1 : Nat) : Int) + (-1) = (w' : Int) := by omega
        rw [tw] at hy
        obtain ⟨a, ha1, ha2, ha3⟩ := hI.2.2.2.2.2.1 w' (by omega)
        rw [tw2, hy, ha1]
        refine ih.2 σ w' a 0 f ?_ ha2 ha3 (by omega) (fun dd hd => by omega) ?_ (by omega)
        · obtain ⟨i1, i2, i3, i4, i5, i6, i7, i8⟩ := hI
          exact ⟨i1, i2, i3, i4, by omega, fun i hi => i6 i (by omega), i7, i8⟩
        · intro b hb hbV
          rcases hA b hb hbV with ⟨i, i1, i2⟩ | h | h
          · by_cases e : i = w'
            · subst e
              rw [ha1] at i2
              exact Or.inr (Or.inr (by congr 1; omega))
            · exact Or.inl ⟨i, by omega, i2⟩
          · exact Or.inr (Or.inl h)
          · cases h
    · refine b_X10_owners_120 hn ⟨fun q => ?_, fun q => ?_⟩
      · have ej : j = 4 := by omega
        subst ej
        refine ih.1 σ w f hI (fun b hb hbV => ?_) (by omega)
        rcases hA b hb hbV with h | h | h
        · exact Or.inl h
        · exact Or.inr (Or.inl h)
        · cases h
          exact Or.inr (Or.inl hD)
      · have hm1 : gI σ 73 13 = (m : Int) := by rw [hI.1.I (by unfold ownW; omega)]; exact hm
        have hw1 : WAll σ bd := fun p hp => by rw [hI.1.I (by unfold ownW; omega)]; exact hw0 p hp
        have hd1 : ∀ q, q < 81 → gI σ 92 q = dd q := fun q hq => by rw [hI.1.I (by unfold ownW; omega)]; exact hd0 q hq
        refine (sm_beside hn h3 h9 hm1 ha (show j < 4 by omega)).mono ?_
        rintro v _ - ⟨rfl, hv⟩
        have hj1 : R32 ((j : Int) + 1) := ⟨by omega, by omega⟩
        have next : ∀ (σ' : ZSto) (w' : Nat) (f' : Int), OI σ0 σ' m cl s w' f' → (∀ q, gI σ 85 q = 1 → gI σ' 85 q = 1) → (∀ c : Int, c = 1 ∨ c = 2 → Hb f c → Hb f' c) → OAl σ' m cl f' w' (some a) → (∀ b : Nat, nbM m a j = (b : Int) → (cl b = 0 → gI σ' 85 b = 1) ∧ (∀ c : Int, c = 1 ∨ c = 2 → cl b = c → Hb f' c)) → 2 * (81 - cnt (fun q => gI σ' 85 q = 1) (m * m)) + w' ≤ 2 * (81 - cnt (fun q => gI σ 85 q = 1) (m * m)) + w → L_X10_owners_120 X (d + 1) n (zpV P) x1 (w' : Int) f' (a : Int) ((j : Int) + 1) σ' := by
          intro σ' w' f' hI' k5 kf hA' hb' hz'
          have := ih.2 σ' w' a (j + 1) f' hI' ha (k5 a haV) (by omega) (fun dd hd b hb => ?_) hA' (by omega)
          · simpa using this
          · by_cases e : dd = j
            · subst e; exact hb' b hb
            · have := hD dd (by omega) b hb
              exact ⟨fun z1 => k5 b (this.1 z1), fun c hc2 z1 => kf c hc2 (this.2 c hc2 z1)⟩
        have skip : (∀ b : Nat, nbM m a j = (b : Int) → (cl b = 0 → gI σ 85 b = 1) ∧ (∀ c : Int, c = 1 ∨ c = 2 → cl b = c → Hb f c)) → L_X10_owners_120 X (d + 1) n (zpV P) x1 (w : Int) f (a : Int) ((j : Int) + 1) σ := fun hb => next σ w f hI (fun _ h => h) (fun _ _ h => h) hA hb (Nat.le_refl _)
        refine ⟨fun hv0 => ⟨hj1, skip (fun b hb => by omega)⟩, fun hv0 => ?_⟩
        obtain ⟨b, hbN, hb⟩ : ∃ q : Nat, q < m * m ∧ nbM m a j = (q : Int) := by
          rcases nbM_in (by omega) ha (show j < 4 by omega) with h | h
          · omega
          · exact h
        have hvb : v = (b : Int) := by rw [hv, hb]
        subst hvb
        have tb : ((b : Int)).toNat = b := by omega
        have hadj : Adj m a b := (nbM_adj (by omega) ha).mpr ⟨j, by omega, hb⟩
        have haC := (hI.2.2.1 a (by omega) haV).2
        have uniq : ∀ b' : Nat, nbM m a j = (b' : Int) → b' = b := fun b' h => by omega
        have bit := hI.2.1 b (by omega)
        have hcb := hcc b hbN
        rw [tb]
        refine ⟨by omega, fun q1 => ?_, fun q1 => ⟨hj1, skip (fun b' hb' => ?_)⟩⟩
        · refine (sm_counts hn hw1 hd1 (show b < 81 by omega)).mono ?_
          rintro v1 _ - ⟨rfl, ev1⟩
          refine (sm_counts hn hw1 hd1 (show b < 81 by omega)).mono ?_
          rintro v2 _ - ⟨rfl, ev2⟩
          rw [hcl] at ev1 ev2
          subst ev1
          subst ev2
          obtain ⟨o1, o2, o3⟩ := or_ok hI.2.2.2.2.2.2.1 hcb
          have oc : ∀ c : Int, c = 1 ∨ c = 2 → (Hb (orI f (cl b)) c ↔ (Hb f c ∨ cl b = c)) := by
            intro c hc2
            rcases hc2 with rfl | rfl
            · exact o2
            · exact o3
          refine ⟨fun q2 => ?_, fun q2 => ⟨hj1, ?_⟩⟩
          · have hcnl : cnt (fun q => gI σ 85 q = 1) (m * m) < m * m := cnt_lt hbN (by omega)
            have hw := hI.2.2.2.2.1
            have tw : ((w : Int)).toNat = w := by omega
            rw [tw]
            refine ⟨by omega, ⟨by omega, by omega⟩, hj1, ?_⟩
            obtain ⟨σ', eσ⟩ : ∃ σ', σ' = sI (sI σ 85 b 1) 87 w (b : Int) := ⟨_, rfl⟩
            have e5 : ∀ q, gI σ' 85 q = if q = b then 1 else gI σ 85 q := by intro q; rw [eσ]; simp [gI_if]
            have e7 : ∀ q, gI σ' 87 q = if q = w then (b : Int) else gI σ 87 q := by intro q; rw [eσ]; simp [gI_if]
            have e5' : ∀ q, gI σ' 85 q = 1 ↔ (gI σ 85 q = 1 ∨ q = b) := by
              intro q; rw [e5]
              by_cases h : q = b
              · simp [h]
              · simp [h]
            have hcnt : cnt (fun q => gI σ' 85 q = 1) (m * m) = cnt (fun q => gI σ 85 q = 1) (m * m) + 1 := cnt_add hbN (by omega) ((e5' b).mpr (Or.inr rfl)) (fun i _ hi => by rw [e5']; simp [hi])
            rw [← eσ]
            obtain ⟨i1, i2, i3, i4, i5, i6, i7, i8⟩ := hI
            have hI' : OI σ0 σ' m cl s (w + 1) (orI f (cl b)) := by
              refine ⟨by rw [eσ]; exact (i1.sI (by unfold ownW; omega)).sI (by unfold ownW; omega), fun q hq => ?_, fun q hq hqV => ?_, (e5' s).mpr (Or.inl i4), by omega, fun i hi => ?_, o1, fun c hc2 h => ?_⟩
              · rw [e5]; split
                · exact Or.inr rfl
                · exact i2 q hq
              · rcases (e5' q).mp hqV with h | h
                · exact i3 q hq h
                · rw [h]; exact ⟨hbN, Rch.step haC hadj q2⟩
              · rw [e7]
                by_cases h : i = w
                · rw [if_pos h]; exact ⟨b, rfl, hbN, (e5' b).mpr (Or.inr rfl)⟩
                · rw [if_neg h]
                  obtain ⟨q, k1, k2, k3⟩ := i6 i (by omega)
                  exact ⟨q, k1, k2, (e5' q).mpr (Or.inl k3)⟩
              · rcases (oc c hc2).mp h with h | h
                · exact i8 c hc2 h
                · omega
            have fin := next σ' (w + 1) (orI f (cl b)) hI' (fun q h => (e5' q).mpr (Or.inl h)) (fun c hc2 h => (oc c hc2).mpr (Or.inl h)) ?_ ?_ (by omega)
            · have e : ((w + 1 : Nat) : Int) = (w : Int) + 1 := by omega
              rw [e] at fin
              exact fin
            · intro q hq hqV
              rcases (e5' q).mp hqV with h | h
              · rcases hA q hq h with ⟨i, k1, k2⟩ | h2 | h2
                · exact Or.inl ⟨i, by omega, by rw [e7, if_neg (by omega)]; exact k2⟩
                · exact Or.inr (Or.inl (fun dd hd b' hb' => ⟨fun z1 => (e5' b').mpr (Or.inl ((h2 dd hd b' hb').1 z1)), fun c hc2 z1 => (oc c hc2).mpr (Or.inl ((h2 dd hd b' hb').2 c hc2 z1))⟩))
                · exact Or.inr (Or.inr h2)
              · exact Or.inl ⟨w, by omega, by rw [e7, if_pos rfl, h]⟩
            · intro b' hb'
              rw [uniq b' hb']
              exact ⟨fun _ => (e5' b).mpr (Or.inr rfl), fun c hc2 h => (oc c hc2).mpr (Or.inr h)⟩
          · obtain ⟨i1, i2, i3, i4, i5, i6, i7, i8⟩ := hI
            refine next σ w (orI f (cl b)) ⟨i1, i2, i3, i4, i5, i6, o1, fun c hc2 h => ?_⟩ (fun _ h => h) (fun c hc2 h => (oc c hc2).mpr (Or.inl h)) ?_ ?_ (Nat.le_refl _)
            · rcases (oc c hc2).mp h with h | h
              · exact i8 c hc2 h
              · exact ⟨b, ⟨q2, a, haC, hadj⟩, h⟩
            · intro q hq hqV
              rcases hA q hq hqV with h | h2 | h2
              · exact Or.inl h
              · exact Or.inr (Or.inl (fun dd hd b' hb' => ⟨(h2 dd hd b' hb').1, fun c hc2 z1 => (oc c hc2).mpr (Or.inl ((h2 dd hd b' hb').2 c hc2 z1))⟩))
              · exact Or.inr (Or.inr h2)
            · intro b' hb'
              rw [uniq b' hb']
              exact ⟨fun h => absurd h q2, fun c hc2 h => (oc c hc2).mpr (Or.inr h)⟩
        · rw [uniq b' hb']
          refine ⟨fun _ => by omega, fun c hc2 h => ?_⟩
          have := ((hI.2.2.1 b (by omega) (by omega)).2).inS (S := fun x => cl x = 0) hc
          have : cl b = 0 := this
          omega
end ZW
