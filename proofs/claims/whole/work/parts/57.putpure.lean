/-! ===== a stone is put: what is taken ===== -/
noncomputable def offB (b1 : Nat → Int) (D : Nat → Prop) : Nat → Int := fun q => @ite _ (D q) (Classical.propDecidable _) 0 (b1 q)
theorem offB_p {b1 : Nat → Int} {D : Nat → Prop} {q : Nat} (h : D q) : offB b1 D q = 0 := if_pos h
theorem offB_n {b1 : Nat → Int} {D : Nat → Prop} {q : Nat} (h : ¬ D q) : offB b1 D q = b1 q := if_neg h
def remD (m : Nat) (b1 : Nat → Int) (oc : Int) (nb : Nat → Int) (j q : Nat) : Prop := ∃ dd, dd < j ∧ ∃ b : Nat, nb dd = (b : Int) ∧ b1 b = oc ∧ Chn m b1 b q ∧ ∀ x, ¬ Lib m b1 b x
theorem Chn.col {m : Nat} {bd : Nat → Int} {s q : Nat} (h : Chn m bd s q) : bd q = bd s := Rch.inS (S := fun x => bd x = bd s) h rfl
theorem Chn.symm {m : Nat} {bd : Nat → Int} {s q : Nat} (h : Chn m bd s q) : Chn m bd q s := by
  have h1 := Rch.symm (S := fun x => bd x = bd s) h rfl
  have e : (fun x => bd x = bd s) = (fun x => bd x = bd q) := by funext x; rw [h.col]
  rw [e] at h1
  exact h1
theorem Chn.tr {m : Nat} {bd : Nat → Int} {s q r : Nat} (h : Chn m bd s q) (h2 : Chn m bd q r) : Chn m bd s r := by
  have e : (fun x => bd x = bd q) = (fun x => bd x = bd s) := by funext x; rw [h.col]
  unfold Chn at h2
  rw [e] at h2
  exact Rch.tr h h2
theorem Chn.step {m : Nat} {bd : Nat → Int} {s a b : Nat} (h : Chn m bd s a) (hab : Adj m a b) (hb : bd b = bd s) : Chn m bd s b := Rch.step h hab hb
theorem Chn.lt {m : Nat} {bd : Nat → Int} {s q : Nat} (h : Chn m bd s q) (hs : s < m * m) : q < m * m := Rch.lt h hs
theorem Lib.chn {m : Nat} {bd : Nat → Int} {s t : Nat} (h : Chn m bd s t) (q : Nat) : Lib m bd s q ↔ Lib m bd t q := by
  constructor
  · rintro ⟨h0, a, ha, hab⟩; exact ⟨h0, a, h.symm.tr ha, hab⟩
  · rintro ⟨h0, a, ha, hab⟩; exact ⟨h0, a, h.tr ha, hab⟩
/-- a set of points that is made of chains of one colour -/
def Sat (m : Nat) (b1 : Nat → Int) (oc : Int) (D : Nat → Prop) : Prop := (∀ q, D q → b1 q = oc) ∧ ∀ q r, D q → Chn m b1 q r → D r
theorem remD_sat {m : Nat} {b1 : Nat → Int} {oc : Int} {nb : Nat → Int} {j : Nat} : Sat m b1 oc (remD m b1 oc nb j) := by
  refine ⟨?_, ?_⟩
  · rintro q ⟨dd, hd, b, h1, h2, h3, h4⟩; rw [h3.col, h2]
  · rintro q r ⟨dd, hd, b, h1, h2, h3, h4⟩ hr; exact ⟨dd, hd, b, h1, h2, h3.tr hr, h4⟩
theorem off_chain {m : Nat} {b1 : Nat → Int} {oc : Int} {D : Nat → Prop} (hS : Sat m b1 oc D) (hoc : oc ≠ 0) {b : Nat} (hb : offB b1 D b = oc) :
    ¬ D b ∧ b1 b = oc ∧ (∀ q, Chn m (offB b1 D) b q ↔ Chn m b1 b q) ∧ (∀ q, Lib m (offB b1 D) b q ↔ Lib m b1 b q) := by
  have hD : ¬ D b := fun z => hoc (by rw [← hb, offB_p z])
  have hb1 : b1 b = oc := by rw [← offB_n (b1 := b1) hD]; exact hb
  have dis : ∀ q, Chn m b1 b q → ¬ D q := fun q hq z => hD (hS.2 q b z hq.symm)
  have C : ∀ q, Chn m (offB b1 D) b q ↔ Chn m b1 b q := by
    intro q
    constructor
    · intro h
      refine Rch.congr (fun x _ hx => ?_) h
      have hx : offB b1 D x = offB b1 D b := hx
      show b1 x = b1 b
      rw [hb] at hx
      have : ¬ D x := fun z => hoc (by rw [← hx, offB_p z])
      rw [offB_n this] at hx
      rw [hx, hb1]
    · intro h
      have := h (fun x => Chn m b1 b x ∧ Chn m (offB b1 D) b x) ⟨Rch.rf, Rch.rf⟩ (fun a c ha hac hc => by
        have h1 : Chn m b1 b c := Rch.step ha.1 hac hc
        refine ⟨h1, Rch.step ha.2 hac ?_⟩
        show offB b1 D c = offB b1 D b
        rw [offB_n (dis c h1), offB_n hD]
        exact hc)
      exact this.2
  refine ⟨hD, hb1, C, fun q => ?_⟩
  constructor
  · rintro ⟨h0, a, ha, hab⟩
    have ha := (C a).mp ha
    have hnD : ¬ D q := by
      intro z
      have : Chn m b1 b q := Chn.step ha hab (by rw [hS.1 q z, hb1])
      exact dis q this z
    exact ⟨by rw [← offB_n (b1 := b1) hnD]; exact h0, a, ha, hab⟩
  · rintro ⟨h0, a, ha, hab⟩
    have hnD : ¬ D q := fun z => hoc (by rw [← hS.1 q z, h0])
    exact ⟨by rw [offB_n hnD]; exact h0, a, (C a).mpr ha, hab⟩
theorem remD_0 {m : Nat} {b1 : Nat → Int} {oc : Int} {nb : Nat → Int} {q : Nat} : ¬ remD m b1 oc nb 0 q := by rintro ⟨dd, hd, -⟩; omega
theorem remD_s {m : Nat} {b1 : Nat → Int} {oc : Int} {nb : Nat → Int} {j q : Nat} : remD m b1 oc nb (j + 1) q ↔ (remD m b1 oc nb j q ∨ ∃ b : Nat, nb j = (b : Int) ∧ b1 b = oc ∧ Chn m b1 b q ∧ ∀ x, ¬ Lib m b1 b x) := by
  constructor
  · rintro ⟨dd, hd, h⟩
    by_cases e : dd = j
    · subst e; exact Or.inr h
    · exact Or.inl ⟨dd, by omega, h⟩
  · rintro (⟨dd, hd, h⟩ | h)
    · exact ⟨dd, by omega, h⟩
    · exact ⟨j, by omega, h⟩
/-- nothing is taken in direction j -/
theorem remD_skip {m : Nat} {b1 : Nat → Int} {oc : Int} {nb : Nat → Int} {j : Nat} (hoc : oc ≠ 0) (h : ∀ b : Nat, nb j = (b : Int) → offB b1 (remD m b1 oc nb j) b = oc → ∃ x, Lib m (offB b1 (remD m b1 oc nb j)) b x) :
    remD m b1 oc nb (j + 1) = remD m b1 oc nb j := by
  funext q
  apply propext
  rw [remD_s]
  refine ⟨fun hq => hq.elim id ?_, Or.inl⟩
  rintro ⟨b, h1, h2, h3, h4⟩
  by_cases hD : remD m b1 oc nb j b
  · exact remD_sat.2 b q hD h3
  · have e : offB b1 (remD m b1 oc nb j) b = oc := by rw [offB_n hD]; exact h2
    obtain ⟨x, hx⟩ := h b h1 e
    exact absurd (((off_chain remD_sat hoc e).2.2.2 x).mp hx) (h4 x)
/-- the chain in direction j is taken -/
theorem remD_take {m : Nat} {b1 : Nat → Int} {oc : Int} {nb : Nat → Int} {j b : Nat} (hoc : oc ≠ 0) (h1 : nb j = (b : Int)) (h2 : offB b1 (remD m b1 oc nb j) b = oc) (h4 : ∀ x, ¬ Lib m (offB b1 (remD m b1 oc nb j)) b x) :
    (∀ q, remD m b1 oc nb (j + 1) q ↔ (remD m b1 oc nb j q ∨ Chn m (offB b1 (remD m b1 oc nb j)) b q)) ∧ (∀ q, ¬ (remD m b1 oc nb j q ∧ Chn m (offB b1 (remD m b1 oc nb j)) b q)) := by
  obtain ⟨k1, k2, k3, k4⟩ := off_chain remD_sat hoc h2
  refine ⟨fun q => ?_, fun q => ?_⟩
  · rw [remD_s, k3]
    constructor
    · rintro (h | ⟨b', e1, e2, e3, e4⟩)
      · exact Or.inl h
      · have : b' = b := by omega
        subst this
        exact Or.inr e3
    · rintro (h | h)
      · exact Or.inl h
      · exact Or.inr ⟨b, h1, k2, h, fun x hx => h4 x ((k4 x).mpr hx)⟩
  · rintro ⟨ha, hb⟩
    exact k1 (remD_sat.2 q b ha ((k3 q).mp hb).symm)
/-- with a stone of colour c on p -/
def setB (bd : Nat → Int) (p : Nat) (c : Int) : Nat → Int := fun q => if q = p then c else bd q
theorem setB_eq (bd : Nat → Int) (p : Nat) (c : Int) : setB bd p c p = c := if_pos rfl
theorem setB_ne {bd : Nat → Int} {p : Nat} {c : Int} {q : Nat} (h : q ≠ p) : setB bd p c q = bd q := if_neg h
/-- what is taken by a stone of colour c on p -/
def Dies (m : Nat) (bd : Nat → Int) (p : Nat) (c : Int) (q : Nat) : Prop := ∃ b : Nat, Adj m p b ∧ setB bd p c b = 3 - c ∧ Chn m (setB bd p c) b q ∧ ∀ x, ¬ Lib m (setB bd p c) b x
/-- the board behind it -/
noncomputable def putB (m : Nat) (bd : Nat → Int) (p : Nat) (c : Int) : Nat → Int := offB (setB bd p c) (Dies m bd p c)
theorem remD_C {m : Nat} {bd : Nat → Int} {p : Nat} {c : Int} (hm : 2 ≤ m) (hp : p < m * m) : remD m (setB bd p c) (3 - c) (nbC m p) 4 = Dies m bd p c := by
  funext q
  apply propext
  constructor
  · rintro ⟨dd, hd, b, h1, h⟩; exact ⟨b, (nbC_adj hm hp).mpr ⟨dd, hd, h1⟩, h⟩
  · rintro ⟨b, h1, h⟩
    obtain ⟨dd, hd, e⟩ := (nbC_adj hm hp).mp h1
    exact ⟨dd, hd, b, e, h⟩
theorem remD_M {m : Nat} {bd : Nat → Int} {p : Nat} {c : Int} (hm : 2 ≤ m) (hp : p < m * m) : remD m (setB bd p c) (3 - c) (nbM m p) 4 = Dies m bd p c := by
  funext q
  apply propext
  constructor
  · rintro ⟨dd, hd, b, h1, h⟩; exact ⟨b, (nbM_adj hm hp).mpr ⟨dd, hd, h1⟩, h⟩
  · rintro ⟨b, h1, h⟩
    obtain ⟨dd, hd, e⟩ := (nbM_adj hm hp).mp h1
    exact ⟨dd, hd, b, e, h⟩
theorem offB_con {m : Nat} {b1 : Nat → Int} {D : Nat → Prop} (h : BCon m b1) : BCon m (offB b1 D) := by
  intro p hp
  by_cases z : D p
  · rw [offB_p z]; exact Or.inl rfl
  · rw [offB_n z]; exact h p hp
theorem setB_con {m : Nat} {bd : Nat → Int} {p : Nat} {c : Int} (h : BCon m bd) (hc : c = 1 ∨ c = 2) : BCon m (setB bd p c) := by
  intro q hq
  unfold setB
  split
  · omega
  · exact h q hq
theorem putB_p {m : Nat} {bd : Nat → Int} {p : Nat} {c : Int} (hc : c = 1 ∨ c = 2) : putB m bd p c p = c := by
  unfold putB
  rw [offB_n, setB_eq]
  rintro ⟨b, h1, h2, h3, h4⟩
  have := h3.col
  rw [setB_eq, h2] at this
  omega
theorem w8_small {x : Int} (h0 : -128 ≤ x) (h1 : x < 128) : w8 x = x := by
  rw [w8_eq, Int.bmod_def]; split <;> omega
