/-! ===== ladders: the search both do ===== -/
noncomputable def iteP {α : Type} (P : Prop) (a b : α) : α := @ite _ P (Classical.propDecidable _) a b
theorem iteP_t {α : Type} {P : Prop} {a b : α} (h : P) : iteP P a b = a := by unfold iteP; rw [if_pos h]
theorem iteP_f {α : Type} {P : Prop} {a b : α} (h : ¬ P) : iteP P a b = b := by unfold iteP; rw [if_neg h]
/-- moves of a level: a set in order, then one behind them -/
noncomputable def mvF (S : Nat → Prop) (la : Int) : Nat → Nat → List Nat
  | 0, _ => if la < 0 then [] else [la.toNat]
  | w + 1, x => iteP (S x) (x :: mvF S la w (x + 1)) (mvF S la w (x + 1))
theorem mvF_s {S : Nat → Prop} {la : Int} {w x : Nat} (h : S x) : mvF S la (w + 1) x = x :: mvF S la w (x + 1) := by
  show iteP _ _ _ = _
  rw [iteP_t h]
theorem mvF_n {S : Nat → Prop} {la : Int} {w x : Nat} (h : ¬ S x) : mvF S la (w + 1) x = mvF S la w (x + 1) := by
  show iteP _ _ _ = _
  rw [iteP_f h]
theorem mvF_0 {S : Nat → Prop} {la : Int} {x y : Nat} : mvF S la 0 x = mvF S la 0 y := rfl
theorem mvF_none {S : Nat → Prop} {la : Int} : ∀ (w x : Nat), (∀ q, x ≤ q → q < x + w → ¬ S q) → mvF S la w x = mvF S la 0 0 := by
  intro w
  induction w with
  | zero => intro x _; rfl
  | succ w ih =>
    intro x h
    rw [mvF_n (h x (by omega) (by omega))]
    exact ih (x + 1) (fun q h1 h2 => h q (by omega) (by omega))
theorem mvF_some {S : Nat → Prop} {la : Int} {q : Nat} (hq : S q) : ∀ (w x : Nat), x ≤ q → q < x + w → (∀ r, x ≤ r → r < q → ¬ S r) → mvF S la w x = q :: mvF S la (x + w - (q + 1)) (q + 1) := by
  intro w
  induction w with
  | zero => intro x h1 h2; omega
  | succ w ih =>
    intro x h1 h2 h3
    by_cases e : x = q
    · subst e
      rw [mvF_s hq]
      congr 2
      omega
    · rw [mvF_n (h3 x (by omega) (by omega)), ih (x + 1) (by omega) (by omega) (fun r r1 r2 => h3 r (by omega) r2)]
      congr 2
      omega
theorem mvF_congr {S S' : Nat → Prop} {la : Int} : ∀ (w x : Nat), (∀ q, x ≤ q → q < x + w → (S q ↔ S' q)) → mvF S la w x = mvF S' la w x := by
  intro w
  induction w with
  | zero => intro x _; rfl
  | succ w ih =>
    intro x h
    have e := ih (x + 1) (fun q h1 h2 => h q (by omega) (by omega))
    by_cases z : S x
    · rw [mvF_s z, mvF_s ((h x (by omega) (by omega)).mp z), e]
    · rw [mvF_n z, mvF_n (fun y => z ((h x (by omega) (by omega)).mpr y)), e]
theorem mvF_lt {S : Nat → Prop} {la : Int} {N : Nat} (hla : la < (N : Int)) : ∀ (w x : Nat), x + w ≤ N → ∀ p, p ∈ mvF S la w x → p < N := by
  intro w
  induction w with
  | zero =>
    intro x _ p hp
    unfold mvF at hp
    split at hp
    · simp at hp
    · simp at hp; omega
  | succ w ih =>
    intro x hx p hp
    by_cases z : S x
    · rw [mvF_s z, List.mem_cons] at hp
      rcases hp with h | h
      · omega
      · exact ih (x + 1) (by omega) p h
    · rw [mvF_n z] at hp
      exact ih (x + 1) (by omega) p hp
/-- moves in order: A tells what becomes of one, F answers where it goes deeper -/
noncomputable def goL (A : Nat → Int) (F : Nat → Nat → Int × Nat) : List Nat → Nat → Int × Nat
  | [], f => (-1, f)
  | _ :: _, 0 => (-2, 0)
  | p :: ps, f + 1 => if A p = 0 then goL A F ps f else if A p = 1 then ((p : Int), f) else if (F p f).1 = -2 then (-2, (F p f).2) else if (F p f).1 = -1 then ((p : Int), (F p f).2) else goL A F ps (F p f).2
theorem goL_le {A : Nat → Int} {F : Nat → Nat → Int × Nat} (hF : ∀ p f, (F p f).2 ≤ f) : ∀ (l : List Nat) (f : Nat), (goL A F l f).2 ≤ f := by
  intro l
  induction l with
  | nil => intro f; exact Nat.le_refl _
  | cons p ps ih =>
    intro f
    cases f with
    | zero => exact Nat.le_refl _
    | succ f =>
      have h1 := hF p f
      have h2 := ih f
      have h3 := ih (F p f).2
      unfold goL
      split
      · omega
      · split
        · show f ≤ f + 1; omega
        · split
          · show (F p f).2 ≤ f + 1; omega
          · split
            · show (F p f).2 ≤ f + 1; omega
            · omega
/-- the mover's colour -/
def mcl (c : Int) (hu : Bool) : Int := if hu = true then 3 - c else c
theorem mcl_r {c : Int} {hu : Bool} (hc : c = 1 ∨ c = 2) : mcl c hu = 1 ∨ mcl c hu = 2 := by
  unfold mcl; split <;> omega
def Back (m : Nat) (pv : Option (Nat → Int)) (b' : Nat → Int) : Prop := ∃ b, pv = some b ∧ ∀ q, q < m * m → b q = b' q
/-- what becomes of a move: 0 fails, 1 wins, 2 opens -/
noncomputable def attA (m tg : Nat) (c : Int) (hu : Bool) (bd : Nat → Int) (pv : Option (Nat → Int)) (p : Nat) : Int :=
  iteP (∀ x, ¬ Lib m (putB m bd p (mcl c hu)) p x) 0 (iteP (Back m pv (putB m bd p (mcl c hu))) 0 (iteP (putB m bd p (mcl c hu) tg ≠ c) 1
    (if hu = true then (if 1 < cnt (Lib m (putB m bd p (mcl c hu)) tg) (m * m) then 0 else 2) else (if 2 < cnt (Lib m (putB m bd p (mcl c hu)) tg) (m * m) then 1 else if cnt (Lib m (putB m bd p (mcl c hu)) tg) (m * m) = 2 then 2 else 0))))
theorem attA_r {m tg : Nat} {c : Int} {hu : Bool} {bd : Nat → Int} {pv : Option (Nat → Int)} {p : Nat} : attA m tg c hu bd pv p = 0 ∨ attA m tg c hu bd pv p = 1 ∨ attA m tg c hu bd pv p = 2 := by
  unfold attA
  by_cases h1 : ∀ x, ¬ Lib m (putB m bd p (mcl c hu)) p x
  · rw [iteP_t h1]; omega
  · rw [iteP_f h1]
    by_cases h2 : Back m pv (putB m bd p (mcl c hu))
    · rw [iteP_t h2]; omega
    · rw [iteP_f h2]
      by_cases h3 : putB m bd p (mcl c hu) tg ≠ c
      · rw [iteP_t h3]; omega
      · rw [iteP_f h3]
        split
        · split <;> omega
        · split
          · omega
          · split <;> omega
/-- the least point of a set ahead of N -/
noncomputable def lstF (P : Nat → Prop) : Nat → Nat → Int
  | 0, _ => -1
  | w + 1, x => iteP (P x) (x : Int) (lstF P w (x + 1))
theorem lstF_spec {P : Nat → Prop} : ∀ (w x : Nat), (lstF P w x = -1 ∧ ∀ q, x ≤ q → q < x + w → ¬ P q) ∨ ∃ q : Nat, lstF P w x = (q : Int) ∧ x ≤ q ∧ q < x + w ∧ P q ∧ ∀ r, x ≤ r → r < q → ¬ P r := by
  intro w
  induction w with
  | zero => intro x; exact Or.inl ⟨rfl, fun q h1 h2 => by omega⟩
  | succ w ih =>
    intro x
    by_cases z : P x
    · refine Or.inr ⟨x, ?_, by omega, by omega, z, fun r r1 r2 => by omega⟩
      show iteP _ _ _ = _
      rw [iteP_t z]
    · have e : lstF P (w + 1) x = lstF P w (x + 1) := by
        show iteP _ _ _ = _
        rw [iteP_f z]
      rw [e]
      rcases ih (x + 1) with ⟨h1, h2⟩ | ⟨q, h1, h2, h3, h4, h5⟩
      · refine Or.inl ⟨h1, fun q q1 q2 => ?_⟩
        by_cases e : q = x
        · rw [e]; exact z
        · exact h2 q (by omega) (by omega)
      · refine Or.inr ⟨q, h1, by omega, by omega, h4, fun r r1 r2 => ?_⟩
        by_cases e : r = x
        · rw [e]; exact z
        · exact h5 r (by omega) r2
/-- takes beside the hunted chain -/
def RscP (m : Nat) (bd : Nat → Int) (c : Int) (tg p q : Nat) : Prop := ∃ r, r < p ∧ bd r = 3 - c ∧ Rim m (fun x => bd x = bd tg) tg r ∧ cnt (Lib m bd r) (m * m) = 1 ∧ Lib m bd r q
def Rsc (m : Nat) (bd : Nat → Int) (c : Int) (tg q : Nat) : Prop := RscP m bd c tg (m * m) q
noncomputable def lastM (m : Nat) (bd : Nat → Int) (c : Int) (tg : Nat) : Int := lstF (fun q => cnt (Lib m bd tg) (m * m) = 1 ∧ Lib m bd tg q ∧ ¬ Rsc m bd c tg q) (m * m) 0
def mvS (m tg : Nat) (c : Int) (hu : Bool) (bd : Nat → Int) : Nat → Prop := fun q => if hu = true then Lib m bd tg q else Rsc m bd c tg q
noncomputable def mvL (m tg : Nat) (c : Int) (hu : Bool) (bd : Nat → Int) : Int := if hu = true then -1 else lastM m bd c tg
noncomputable def mvs (m tg : Nat) (c : Int) (hu : Bool) (bd : Nat → Int) : List Nat := mvF (mvS m tg c hu bd) (mvL m tg c hu bd) (m * m) 0
/-- the search: -1 no move does, p does, -2 the steps are used up; and the steps left -/
noncomputable def lev (m tg : Nat) (c : Int) : Nat → Bool → (Nat → Int) → Option (Nat → Int) → Nat → Int × Nat
  | 0, _, _, _, _ => (-2, 0)
  | g + 1, hu, bd, pv, f => goL (attA m tg c hu bd pv) (fun p f' => lev m tg c g (!hu) (putB m bd p (mcl c hu)) (some bd) f') (mvs m tg c hu bd) f
theorem lev_le {m tg : Nat} {c : Int} : ∀ (g : Nat) (hu : Bool) (bd : Nat → Int) (pv : Option (Nat → Int)) (f : Nat), (lev m tg c g hu bd pv f).2 ≤ f := by
  intro g
  induction g with
  | zero => intro hu bd pv f; exact Nat.zero_le _
  | succ g ih => intro hu bd pv f; exact goL_le (fun p f' => ih _ _ _ f') _ f
theorem goL_r {A : Nat → Int} {F : Nat → Nat → Int × Nat} : ∀ (l : List Nat) (f : Nat), (goL A F l f).1 = -1 ∨ (goL A F l f).1 = -2 ∨ ∃ p, p ∈ l ∧ (goL A F l f).1 = (p : Int) := by
  intro l
  induction l with
  | nil => intro f; exact Or.inl rfl
  | cons p ps ih =>
    intro f
    cases f with
    | zero => exact Or.inr (Or.inl rfl)
    | succ f =>
      have key : ∀ f', (goL A F ps f').1 = -1 ∨ (goL A F ps f').1 = -2 ∨ ∃ q, q ∈ p :: ps ∧ (goL A F ps f').1 = (q : Int) := fun f' => by
        rcases ih f' with h | h | ⟨q, h1, h2⟩
        · exact Or.inl h
        · exact Or.inr (Or.inl h)
        · exact Or.inr (Or.inr ⟨q, List.mem_cons_of_mem _ h1, h2⟩)
      unfold goL
      split
      · exact key f
      · split
        · exact Or.inr (Or.inr ⟨p, List.mem_cons_self, rfl⟩)
        · split
          · exact Or.inr (Or.inl rfl)
          · split
            · exact Or.inr (Or.inr ⟨p, List.mem_cons_self, rfl⟩)
            · exact key _
/-! ===== what a put leaves of the hunted chain ===== -/
/-- a stone of the mover's colour stays -/
theorem putB_own {m p q : Nat} {bd : Nat → Int} {c : Int} (hc : c = 1 ∨ c = 2) (hq : bd q = c) : putB m bd p c q = c := by
  unfold putB
  have e : setB bd p c q = c := by
    by_cases h : q = p
    · rw [h, setB_eq]
    · rw [setB_ne h]; exact hq
  rw [offB_n (fun y => ?_), e]
  obtain ⟨b, _, h2, h3, _⟩ := y
  have := h3.col
  omega
theorem set_rch {m p s q : Nat} {bd : Nat → Int} {c : Int} (hp : bd p = 0) (hs : bd s ≠ 0) (hcs : c ≠ bd s) (h : Chn m bd s q) : Chn m (setB bd p c) s q := by
  have hsp : s ≠ p := fun e => by rw [e] at hs; exact hs hp
  have e : (fun x => setB bd p c x = setB bd p c s) = (fun x => bd x = bd s) := by
    funext x
    rw [setB_ne hsp]
    by_cases hx : x = p
    · subst hx
      rw [setB_eq, hp]
      exact propext ⟨fun y => absurd y hcs, fun y => absurd y.symm hs⟩
    · rw [setB_ne hx]
  unfold Chn
  rw [e]
  exact h
theorem set_rch' {m p s q : Nat} {bd : Nat → Int} {c : Int} (hp : bd p = 0) (hs : bd s ≠ 0) (hcs : c ≠ bd s) (h : Chn m (setB bd p c) s q) : Chn m bd s q := by
  have hsp : s ≠ p := fun e => by rw [e] at hs; exact hs hp
  have e : (fun x => setB bd p c x = setB bd p c s) = (fun x => bd x = bd s) := by
    funext x
    rw [setB_ne hsp]
    by_cases hx : x = p
    · subst hx
      rw [setB_eq, hp]
      exact propext ⟨fun y => absurd y hcs, fun y => absurd y.symm hs⟩
    · rw [setB_ne hx]
  unfold Chn at h
  rw [e] at h
  exact h
/-- a chain that breathes elsewhere stays -/
theorem putB_stay {m p s x : Nat} {bd : Nat → Int} {c : Int} (hp : bd p = 0) (hs : bd s ≠ 0) (hcs : c ≠ bd s) (hx : Lib m bd s x) (hxp : x ≠ p) : putB m bd p c s = bd s := by
  have hsp : s ≠ p := fun e => by rw [e] at hs; exact hs hp
  unfold putB
  rw [offB_n (fun y => ?_), setB_ne hsp]
  obtain ⟨b, _, _, h3, h4⟩ := y
  refine h4 x ((Lib.chn h3 x).mpr ?_)
  obtain ⟨x0, a, x1, x2⟩ := hx
  exact ⟨by rw [setB_ne hxp]; exact x0, a, set_rch hp hs hcs x1, x2⟩
/-- a chain loses its last liberty -/
theorem putB_kill {m p s : Nat} {bd : Nat → Int} {c : Int} (hp : bd p = 0) (hs : bd s = 3 - c) (hc : c = 1 ∨ c = 2) (hl : Lib m bd s p) (ho : ∀ x, Lib m bd s x → x = p) : putB m bd p c s = 0 := by
  have hsp : s ≠ p := fun e => by rw [e] at hs; omega
  obtain ⟨_, a, a1, a2⟩ := hl
  unfold putB
  refine offB_p ⟨a, a2.symm, ?_, ?_, fun x y => ?_⟩
  · have := Chn.col a1
    have hap : a ≠ p := fun e => by rw [e] at this; omega
    rw [setB_ne hap]; omega
  · exact (set_rch hp (by omega) (by omega) a1).symm
  · have y' := (Lib.chn (set_rch hp (by omega) (by omega) a1) x).mpr y
    obtain ⟨y0, b, y1, y2⟩ := y'
    by_cases e : x = p
    · rw [e, setB_eq] at y0; omega
    · rw [setB_ne e] at y0
      exact e (ho x ⟨y0, b, set_rch' hp (by omega) (by omega) y1, y2⟩)
/-- the reference's way to say it -/
theorem Rsc_iff {m tg q : Nat} {bd : Nat → Int} {c : Int} (hc : c = 1 ∨ c = 2) (hq : q < m * m) (ht : bd tg = c) (htm : tg < m * m) : Rsc m bd c tg q ↔ (bd q = 0 ∧ ∃ b, Adj m q b ∧ bd b = 3 - c ∧ cnt (Lib m bd b) (m * m) = 1 ∧ ∃ a o, Chn m bd b a ∧ Adj m a o ∧ Chn m bd tg o) := by
  constructor
  · rintro ⟨r, r1, r2, ⟨r3, o, r4, r5⟩, r6, r0, a, r7, r8⟩
    refine ⟨r0, a, r8.symm, by rw [Chn.col r7]; exact r2, ?_, r, o, Chn.symm r7, r5.symm, r4⟩
    rw [← r6]
    exact cnt_congr (fun x _ => (Lib.chn r7 x).symm)
  · rintro ⟨h0, b, b1, b2, b3, a, o, b4, b5, b6⟩
    refine ⟨a, b5.1, by rw [Chn.col b4]; exact b2, ⟨?_, o, b6, b5.symm⟩, ?_, (Lib.chn b4 q).mp ⟨h0, b, Rch.rf, b1.symm⟩⟩
    · show ¬ bd a = bd tg
      rw [Chn.col b4, ht, b2]; omega
    · rw [← b3]
      exact cnt_congr (fun x _ => (Lib.chn b4 x).symm)
