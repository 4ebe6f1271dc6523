theorem goL_cons {A : Nat → Int} {F : Nat → Nat → Int × Nat} {p : Nat} {ps : List Nat} {f : Nat} (hA : A p = 0 ∨ A p = 1 ∨ A p = 2) : goL A F (p :: ps) f = if (goL A F [p] f).1 = -1 then goL A F ps (goL A F [p] f).2 else goL A F [p] f := by
  cases f with
  | zero => rfl
  | succ f =>
    rcases hA with h | h | h
    · rw [goL_0 h, goL_0 h]; rfl
    · rw [goL_1 h, goL_1 h, if_neg (show ¬ ((p : Int) = -1) by omega)]
    · rw [goL_2 h, goL_2 h]
      by_cases h1 : (F p f).1 = -2
      · rw [if_pos h1, if_pos h1, if_neg (show ¬ ((-2 : Int) = -1) by omega)]
      · rw [if_neg h1, if_neg h1]
        by_cases h2 : (F p f).1 = -1
        · rw [if_pos h2, if_pos h2, if_neg (show ¬ ((p : Int) = -1) by omega)]
        · rw [if_neg h2, if_neg h2]; rfl
def TkQ (σ0 σ : ZSto) (l : Nat) (bd : Nat → Int) (res : Int × Nat) (v : Int) : Prop := Fr (mlW l) σ0 σ ∧ gI σ 73 39 = (l : Int) ∧ gI σ 73 40 = 600 - (res.2 : Int) ∧ WAll σ bd ∧ ((res.1 = -1 ∧ v = 0 ∧ gI σ 73 43 = 0) ∨ (0 ≤ res.1 ∧ v = 1 ∧ gI σ 73 43 = 0) ∨ (res.1 = -2 ∧ v = 0 ∧ gI σ 73 43 = 1))
theorem TkQ.ml {σ0 σ : ZSto} {m tg l : Nat} {bd : Nat → Int} {res : Int × Nat} {v : Int} {f : Nat} (h : TkQ σ0 σ l bd res v) (h0 : MLd σ0 m tg l bd f) (hu : gI σ 73 43 = 0) : MLd σ m tg l bd res.2 := by
  obtain ⟨a1, a2, a3, a4, a5⟩ := h
  exact ⟨by rw [a1.I (by unfold mlW; omega)]; exact h0.1, by rw [a1.I (by unfold mlW; omega)]; exact h0.2.1, a2, a3, hu, a4⟩
noncomputable def tkR (m tg : Nat) (c : Int) (g : Nat) (hu : Bool) (bd : Nat → Int) (pv : Option (Nat → Int)) (ps : List Nat) (f : Nat) : Int × Nat := goL (attA m tg c hu bd pv) (fun p f' => lev m tg c g (!hu) (putB m bd p (mcl c hu)) (some bd) f') ps f
theorem tkR_le {m tg : Nat} {c : Int} {g : Nat} {hu : Bool} {bd : Nat → Int} {pv : Option (Nat → Int)} {ps : List Nat} {f : Nat} : (tkR m tg c g hu bd pv ps f).2 ≤ f := goL_le (fun p f' => lev_le g _ _ _ f') ps f
theorem tkR_cons {m tg : Nat} {c : Int} {g : Nat} {hu : Bool} {bd : Nat → Int} {pv : Option (Nat → Int)} {p : Nat} {ps : List Nat} {f : Nat} : tkR m tg c g hu bd pv (p :: ps) f = if (tkR m tg c g hu bd pv [p] f).1 = -1 then tkR m tg c g hu bd pv ps (tkR m tg c g hu bd pv [p] f).2 else tkR m tg c g hu bd pv [p] f := goL_cons attA_r
theorem tkR_nil {m tg : Nat} {c : Int} {g : Nat} {hu : Bool} {bd : Nat → Int} {pv : Option (Nat → Int)} {f : Nat} : tkR m tg c g hu bd pv [] f = (-1, f) := rfl
theorem tkR_lev {m tg : Nat} {c : Int} {g : Nat} {hu : Bool} {bd : Nat → Int} {pv : Option (Nat → Int)} {f : Nat} : lev m tg c (g + 1) hu bd pv f = tkR m tg c g hu bd pv (mvs m tg c hu bd) f := rfl
theorem tkR_z {m tg : Nat} {c : Int} {g : Nat} {hu : Bool} {bd : Nat → Int} {pv : Option (Nat → Int)} {p : Nat} {ps : List Nat} : tkR m tg c g hu bd pv (p :: ps) 0 = (-2, 0) := rfl
theorem tkR_0 {m tg : Nat} {c : Int} {g : Nat} {hu : Bool} {bd : Nat → Int} {pv : Option (Nat → Int)} {p f : Nat} (h : attA m tg c hu bd pv p = 0) : tkR m tg c g hu bd pv [p] (f + 1) = (-1, f) := by unfold tkR; rw [goL_0 h]; rfl
theorem tkR_1 {m tg : Nat} {c : Int} {g : Nat} {hu : Bool} {bd : Nat → Int} {pv : Option (Nat → Int)} {p f : Nat} (h : attA m tg c hu bd pv p = 1) : tkR m tg c g hu bd pv [p] (f + 1) = ((p : Int), f) := by unfold tkR; rw [goL_1 h]
theorem tkR_2 {m tg : Nat} {c : Int} {g : Nat} {hu : Bool} {bd : Nat → Int} {pv : Option (Nat → Int)} {p f : Nat} (h : attA m tg c hu bd pv p = 2) : tkR m tg c g hu bd pv [p] (f + 1) = if (lev m tg c g (!hu) (putB m bd p (mcl c hu)) (some bd) f).1 = -2 then (-2, (lev m tg c g (!hu) (putB m bd p (mcl c hu)) (some bd) f).2) else if (lev m tg c g (!hu) (putB m bd p (mcl c hu)) (some bd) f).1 = -1 then ((p : Int), (lev m tg c g (!hu) (putB m bd p (mcl c hu)) (some bd) f).2) else (-1, (lev m tg c g (!hu) (putB m bd p (mcl c hu)) (some bd) f).2) := by unfold tkR; rw [goL_2 h]; rfl
theorem att_no {m tg : Nat} {c : Int} {hu : Bool} {bd : Nat → Int} {pv : Option (Nat → Int)} {p : Nat} (h : (∀ x, ¬ Lib m (putB m bd p (mcl c hu)) p x) ∨ Back m pv (putB m bd p (mcl c hu))) : attA m tg c hu bd pv p = 0 := by
  unfold attA
  by_cases h1 : ∀ x, ¬ Lib m (putB m bd p (mcl c hu)) p x
  · rw [iteP_t h1]
  · rw [iteP_f h1, iteP_t (h.resolve_left h1)]
theorem att_go {m tg : Nat} {c : Int} {hu : Bool} {bd : Nat → Int} {pv : Option (Nat → Int)} {p : Nat} (h1 : ∃ x, Lib m (putB m bd p (mcl c hu)) p x) (h2 : ¬ Back m pv (putB m bd p (mcl c hu))) : attA m tg c hu bd pv p = iteP (putB m bd p (mcl c hu) tg ≠ c) 1
    (if hu = true then (if 1 < cnt (Lib m (putB m bd p (mcl c hu)) tg) (m * m) then 0 else 2) else (if 2 < cnt (Lib m (putB m bd p (mcl c hu)) tg) (m * m) then 1 else if cnt (Lib m (putB m bd p (mcl c hu)) tg) (m * m) = 2 then 2 else 0)) := by
  unfold attA
  rw [iteP_f (fun y => by obtain ⟨x, hx⟩ := h1; exact y x hx), iteP_f h2]
def TkH (X : ZX) (n m tg : Nat) (c : Int) (f : Nat) : Prop := ∀ (D g l : Nat) (bd : Nat → Int) (pv : Option (Nat → Int)) (σ : ZSto), 2 * f + 8 ≤ D → f ≤ g → l + f ≤ 600 → BCon m bd → Pad m bd → bd tg = c → MLd σ m tg l bd f → PvM σ m l pv → cnt (Lib m bd tg) (m * m) ≤ 2 →
  ZkZ X M_X10_takesChain D n [.ref (zB X + 73), iV c] σ (fun v σ' => TkQ σ σ' l bd (lev m tg c (g + 1) true bd pv f) v ∧ (cnt (Lib m bd tg) (m * m) = 2 → l = 0 → 0 ≤ (lev m tg c (g + 1) true bd pv f).1 → gI σ' 73 42 = (lev m tg c (g + 1) true bd pv f).1))
def IsH (X : ZX) (n m tg : Nat) (c : Int) (f : Nat) : Prop := ∀ (D g l : Nat) (bd : Nat → Int) (pv : Option (Nat → Int)) (σ : ZSto), 2 * f + 9 ≤ D → f ≤ g → l + f ≤ 600 → BCon m bd → Pad m bd → bd tg = c → MLd σ m tg l bd f → PvM σ m l pv → 1 ≤ l →
  ZkZ X M_X10_isSaved D n [.ref (zB X + 73), iV c] σ (fun v σ' => (1 < cnt (Lib m bd tg) (m * m) ∧ v = 1 ∧ Fr (mlW l) σ σ' ∧ MLd σ' m tg l bd f) ∨ (¬ 1 < cnt (Lib m bd tg) (m * m) ∧ TkQ σ σ' l bd (lev m tg c (g + 1) false bd pv f) v))
section ZM
variable {X : ZX} {d n : Nat} {σ : ZSto}
theorem sv_end (hn : 104 ≤ n) {m tg l : Nat} {bd : Nat → Int} {τ : ZSto} {P : ZSto → Prop} (h3 : 3 ≤ m) (h9 : m ≤ 9) (hl : l ≤ 600) (htm : tg < m * m) (ht : bd tg = 1 ∨ bd tg = 2) (h44 : gI σ 73 44 = (tg : Int)) (h13 : gI σ 73 13 = (m : Int)) (hf : Fr (mlW l) σ τ) (h39 : gI τ 73 39 = ((l + 1 : Nat) : Int)) (hL : LnR τ l bd)
    (hP : ∀ σ', Fr (mlW l) σ σ' → gI σ' 73 39 = (l : Int) → gI σ' 73 40 = gI τ 73 40 → gI σ' 73 43 = gI τ 73 43 → WAll σ' bd → MnR σ' m bd tg → P σ') :
    ZkV X M_X10_pops (d + 3) n [.ref (zB X + 73)] τ (fun σ18 => ZkV X M_X10_mine (d + 3) n [.ref (zB X + 73)] σ18 P) := by
  refine (sm_pops hn hl h39 hL).mono ?_
  rintro σ1 ⟨f1, l1, w1⟩
  have F1 : Fr (mlW l) σ σ1 := hf.tr (f1.mono (fun a i q => by unfold mlW; omega))
  refine (sm_mine hn h3 h9 (by rw [F1.I (by unfold mlW; omega)]; exact h13) (by rw [F1.I (by unfold mlW; omega)]; exact h44) w1 htm ht).mono ?_
  rintro σ2 ⟨f2, m2⟩
  exact hP σ2 (F1.tr (f2.mono (fun a i q => by unfold mlW; omega))) (by rw [f2.I (by omega)]; exact l1) (by rw [f2.I (by omega), f1.I (by omega)]) (by rw [f2.I (by omega), f1.I (by omega)]) (w1.kept f2 (fun i => by omega)) m2
theorem sm_saves (hn : 104 ≤ n) {m tg l p f g D : Nat} {bd : Nat → Int} {pv : Option (Nat → Int)} {c : Int} (h3 : 3 ≤ m) (h9 : m ≤ 9) (hc : c = 1 ∨ c = 2) (htm : tg < m * m) (hp : p < m * m) (hH : ∀ f', f' < f → TkH X n m tg c f') (hD : 2 * f + 8 ≤ D) (hfg : f ≤ g) (hlf : l + f ≤ 600) (hcon : BCon m bd) (hpad : Pad m bd) (ht : bd tg = c) (hS : MLd σ m tg l bd f) (hpv : PvM σ m l pv) :
    ZkZ X M_X10_saves D n [.ref (zB X + 73), iV (p : Int), iV c] σ (fun v σ' => TkQ σ σ' l bd (tkR m tg c g false bd pv [p] f) v ∧ MnR σ' m bd tg) := by
  have hN := sq_le h9
  obtain ⟨e, rfl⟩ : ∃ e, D = e + 7 + 1 := ⟨D - 8, by omega⟩
  have emc : mcl c false = c := rfl
  refine w_X10_saves hn ⟨by omega, by omega⟩ ⟨by omega, by omega⟩ ((sm_tries hn h3 h9 hc hp hcon hpad hS hlf hpv).mono ?_)
  rintro v σ1 - ⟨f1, -, ⟨rfl, rfl, e1⟩ | ⟨f2, rfl, ⟨rfl, S1, L1, hlib, hnb⟩ | ⟨rfl, S1, hno⟩⟩⟩
  · refine ⟨fun q => absurd rfl q, fun _ => ?_⟩
    obtain ⟨a1, a2, a3, a4, a5, a6⟩ := hS
    have fs : Fr (fun a i => a = 73 ∧ i = 43) σ σ1 := by rw [e1]; exact Fr.rf.sI ⟨rfl, rfl⟩
    have w1 := a6.kept fs (fun i => by omega)
    refine (sm_mine hn h3 h9 (by rw [fs.I (by omega)]; exact a2) (by rw [fs.I (by omega)]; exact a1) w1 htm (by omega)).mono ?_
    rintro σ2 ⟨f2, m2⟩
    refine ⟨⟨f1.tr (f2.mono (fun a i q => by unfold mlW; omega)), by rw [f2.I (by omega), fs.I (by omega)]; exact a3, by rw [f2.I (by omega), fs.I (by omega)]; exact a4, w1.kept f2 (fun i => by omega), Or.inr (Or.inr ⟨rfl, rfl, ?_⟩)⟩, m2⟩
    rw [f2.I (by omega), e1, gI_same]
  · refine ⟨fun _ => ?_, fun q => by omega⟩
    have hbt : putB m bd p c tg = c := putB_own hc ht
    obtain ⟨b1, b2, b3, b4, b5, b6⟩ := id S1
    have hcon' : BCon m (putB m bd p c) := offB_con (setB_con hcon hc)
    have hpad' := putB_pad (c := c) hpad hp
    have eA := att_go (m := m) (tg := tg) (c := c) (hu := false) (bd := bd) (pv := pv) (p := p) hlib hnb
    rw [emc, iteP_f (fun y => y hbt), if_neg (by simp)] at eA
    rw [b1]
    refine (sm_flood hn h3 h9 b2 (fun q hq => b6 q (by omega)) htm (by omega) ⟨by omega, by omega⟩).mono ?_
    rintro v2 σ2 - ⟨hF, e2⟩
    have F2 : Fr (mlW l) σ σ2 := f1.tr (hF.1.mono (fun a i q => by unfold fldW at q; unfold mlW; omega))
    have l2 : gI σ2 73 39 = ((l + 1 : Nat) : Int) := by rw [hF.1.I (by unfold fldW; omega)]; exact b3
    have L2 : LnR σ2 l bd := fun i hi => by rw [hF.1.I (by unfold fldW; omega)]; exact L1 i hi
    have s2 : gI σ2 73 40 = 600 - (f2 : Int) := by rw [hF.1.I (by unfold fldW; omega)]; exact b4
    have u2 : gI σ2 73 43 = 0 := by rw [hF.1.I (by unfold fldW; omega)]; exact b5
    refine ⟨fun z => ?_, fun z => ⟨fun z2 => ?_, fun z2 => ?_⟩⟩
    · rw [if_pos (by omega)] at eA
      rw [tkR_1 eA]
      exact sv_end hn h3 h9 (by omega) htm (by omega) hS.1 hS.2.1 F2 l2 L2 (fun σ' k1 k2 k3 k4 k5 k6 => ⟨⟨k1, k2, by rw [k3]; exact s2, k5, Or.inr (Or.inl ⟨by show (0 : Int) ≤ (p : Int); omega, rfl, by rw [k4]; exact u2⟩)⟩, k6⟩)
    · rw [if_neg (by omega), if_neg (by omega)] at eA
      rw [tkR_0 eA]
      exact sv_end hn h3 h9 (by omega) htm (by omega) hS.1 hS.2.1 F2 l2 L2 (fun σ' k1 k2 k3 k4 k5 k6 => ⟨⟨k1, k2, by rw [k3]; exact s2, k5, Or.inl ⟨rfl, rfl, by rw [k4]; exact u2⟩⟩, k6⟩)
    · rw [if_neg (by omega), if_pos (by omega)] at eA
      rw [tkR_2 eA, emc, show (!false) = true from rfl]
      obtain ⟨g', rfl⟩ : ∃ g', g = g' + 1 := ⟨g - 1, by omega⟩
      have S2 : MLd σ2 m tg (l + 1) (putB m bd p c) f2 := ⟨by rw [hF.1.I (by unfold fldW; omega)]; exact b1, by rw [hF.1.I (by unfold fldW; omega)]; exact b2, l2, s2, u2, b6.kept hF.1 (fun i => by unfold fldW; omega)⟩
      refine (hH f2 (by omega) (e + 7) g' (l + 1) (putB m bd p c) (some bd) σ2 (by omega) (by omega) (by omega) hcon' hpad' hbt S2 (Or.inr ⟨l, bd, rfl, rfl, hpad, L2⟩) (by omega)).mono ?_
      rintro v3 σ3 - ⟨⟨f3, l3, s3, -, hv3⟩, -⟩
      generalize lev m tg c (g' + 1) true (putB m bd p c) (some bd) f2 = res at s3 hv3
      have F3 : Fr (mlW l) σ σ3 := F2.tr (f3.mono (fun a i q => mlW_up q))
      have L3 : LnR σ3 l bd := fun i hi => by rw [f3.I (by unfold mlW; omega)]; exact L2 i hi
      rcases hv3 with ⟨r1, rfl, u3⟩ | ⟨r1, rfl, u3⟩ | ⟨r1, rfl, u3⟩
      · rw [if_neg (by omega), if_pos r1]
        refine ⟨fun q => absurd rfl q, fun _ => ⟨fun q => absurd u3 q, fun _ => ?_⟩⟩
        exact sv_end hn h3 h9 (by omega) htm (by omega) hS.1 hS.2.1 F3 l3 L3 (fun σ' k1 k2 k3 k4 k5 k6 => ⟨⟨k1, k2, by rw [k3]; exact s3, k5, Or.inr (Or.inl ⟨by show (0 : Int) ≤ (p : Int); omega, rfl, by rw [k4]; exact u3⟩)⟩, k6⟩)
      · rw [if_neg (by omega), if_neg (by omega)]
        refine ⟨fun _ => ?_, fun q => by omega⟩
        exact sv_end hn h3 h9 (by omega) htm (by omega) hS.1 hS.2.1 F3 l3 L3 (fun σ' k1 k2 k3 k4 k5 k6 => ⟨⟨k1, k2, by rw [k3]; exact s3, k5, Or.inl ⟨rfl, rfl, by rw [k4]; exact u3⟩⟩, k6⟩)
      · rw [if_pos r1]
        refine ⟨fun q => absurd rfl q, fun _ => ⟨fun _ => ?_, fun q => by omega⟩⟩
        exact sv_end hn h3 h9 (by omega) htm (by omega) hS.1 hS.2.1 F3 l3 L3 (fun σ' k1 k2 k3 k4 k5 k6 => ⟨⟨k1, k2, by rw [k3]; exact s3, k5, Or.inr (Or.inr ⟨rfl, rfl, by rw [k4]; exact u3⟩)⟩, k6⟩)
  · refine ⟨fun q => absurd rfl q, fun _ => ?_⟩
    rw [tkR_0 (att_no (hu := false) hno)]
    obtain ⟨b1, b2, b3, b4, b5, b6⟩ := S1
    refine (sm_mine hn h3 h9 b2 b1 b6 htm (by omega)).mono ?_
    rintro σ2 ⟨f2, m2⟩
    exact ⟨⟨f1.tr (f2.mono (fun a i q => by unfold mlW; omega)), by rw [f2.I (by omega)]; exact b3, by rw [f2.I (by omega)]; exact b4, b6.kept f2 (fun i => by omega), Or.inl ⟨rfl, rfl, by rw [f2.I (by omega)]; exact b5⟩⟩, m2⟩
end ZM
