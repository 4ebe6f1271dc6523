theorem cnt_two {S : Nat → Prop} {a b N : Nat} (hab : a ≠ b) (ha : a < N) (hb : b < N) (sa : S a) (sb : S b) : 2 ≤ cnt S N := by
  have h := cnt_or (P := fun i => i = a) (Q := fun i => i = b) (n := N) (fun i _ y => hab (by rw [← y.1, ← y.2]))
  rw [cnt_one ha, cnt_one hb] at h
  have := cnt_mono (P := fun i => i = a ∨ i = b) (Q := S) (n := N) (fun i _ y => y.elim (fun z => by rw [z]; exact sa) (fun z => by rw [z]; exact sb))
  omega
theorem cnt_three {S : Nat → Prop} {a b c N : Nat} (hab : a ≠ b) (hac : a ≠ c) (hbc : b ≠ c) (ha : a < N) (hb : b < N) (hc : c < N) (sa : S a) (sb : S b) (sc : S c) : 3 ≤ cnt S N := by
  have h := cnt_or (P := fun i => i = a) (Q := fun i => i = b) (n := N) (fun i _ y => hab (by rw [← y.1, ← y.2]))
  rw [cnt_one ha, cnt_one hb] at h
  have h' := cnt_or (P := fun i => i = a ∨ i = b) (Q := fun i => i = c) (n := N) (fun i _ y => by
    rcases y with ⟨y1 | y1, y2⟩
    · exact hac (by rw [← y1, ← y2])
    · exact hbc (by rw [← y1, ← y2]))
  rw [h, cnt_one hc] at h'
  have := cnt_mono (P := fun i => (i = a ∨ i = b) ∨ i = c) (Q := S) (n := N) (fun i _ y => by
    rcases y with (z | z) | z
    · rw [z]; exact sa
    · rw [z]; exact sb
    · rw [z]; exact sc)
  omega
theorem cnt_at1 {S : Nat → Prop} {a N : Nat} (h : ∀ i, i < N → S i → i = a) : cnt S N ≤ 1 := by
  by_cases ha : a < N
  · have := cnt_mono (P := S) (Q := fun i => i = a) (n := N) h
    rw [cnt_one ha] at this
    exact this
  · have : cnt S N = 0 := cnt_0 (fun i hi y => by have := h i hi y; omega)
    omega
theorem lastM_own {m tg q : Nat} {bd : Nat → Int} {c : Int} (h1 : cnt (Lib m bd tg) (m * m) ≤ 1) (hq : q < m * m) (hL : Lib m bd tg q) : (Rsc m bd c tg q → lastM m bd c tg = -1) ∧ (¬ Rsc m bd c tg q → lastM m bd c tg = (q : Int)) := by
  have hp := cnt_pos (P := Lib m bd tg) hq hL
  have e1 : cnt (Lib m bd tg) (m * m) = 1 := by omega
  unfold lastM
  rcases lstF_spec (P := fun q => cnt (Lib m bd tg) (m * m) = 1 ∧ Lib m bd tg q ∧ ¬ Rsc m bd c tg q) (m * m) 0 with ⟨u, u2⟩ | ⟨q', u, _, u2, u3, _⟩
  · exact ⟨fun _ => u, fun y => absurd ⟨e1, hL, y⟩ (u2 q (by omega) (by omega))⟩
  · have := cnt_1 e1 hq hL q' (by omega) u3.2.1
    subst this
    exact ⟨fun y => absurd y u3.2.2, fun _ => u⟩
theorem lastM_none {m tg : Nat} {bd : Nat → Int} {c : Int} (h : ∀ q, q < m * m → ¬ Lib m bd tg q) : lastM m bd c tg = -1 := by
  unfold lastM
  rcases lstF_spec (P := fun q => cnt (Lib m bd tg) (m * m) = 1 ∧ Lib m bd tg q ∧ ¬ Rsc m bd c tg q) (m * m) 0 with ⟨u, _⟩ | ⟨q', _, _, u2, u3, _⟩
  · exact u
  · exact absurd u3.2.1 (h q' (by omega))
section ZM
variable {X : ZX} {d n : Nat}
theorem is_exit (hn : 104 ≤ n) {m p : Nat} {x1 x3 x4 : Int} {P : Int → ZSto → Prop} {τ : ZSto} (h9 : m ≤ 9) (hm : gI τ 73 13 = (m : Int)) (hu : gI τ 73 43 = 1) (hP : P 0 τ) : L_X10_isSaved_54 X d n (zpZ P) x1 x3 x4 (p : Int) τ := by
  have hN := sq_le h9
  refine b_X10_isSaved_54 hn ?_
  rw [hm, hu, show (m : Int) * (m : Int) = ((m * m : Nat) : Int) by simp]
  exact ⟨⟨by omega, by omega⟩, fun _ => ⟨fun _ => hP, fun q => by omega⟩, fun _ => ⟨fun _ => ⟨fun _ => hP, fun q => by omega⟩, fun q => by omega⟩⟩
theorem is_loop (hn : 104 ≤ n) {m tg l g e : Nat} {bd : Nat → Int} {pv : Option (Nat → Int)} {c own : Int} {P : Int → ZSto → Prop} {σ0 : ZSto} {res : Int × Nat} {F : Nat} (h3 : 3 ≤ m) (h9 : m ≤ 9) (hc : c = 1 ∨ c = 2) (htm : tg < m * m) (hH : ∀ f', f' < F → TkH X n m tg c f') (hD : 2 * F ≤ e) (hFg : F ≤ g) (hlF : l + F ≤ 600) (hcon : BCon m bd) (hpad : Pad m bd) (ht : bd tg = c) (h1 : cnt (Lib m bd tg) (m * m) ≤ 1) (hpv : PvM σ0 m l pv)
    (hown : (own = -1 ∧ ∀ q, q < m * m → ¬ Lib m bd tg q) ∨ ∃ q : Nat, own = (q : Int) ∧ q < m * m ∧ Lib m bd tg q) (hP : ∀ v σ', TkQ σ0 σ' l bd res v → P v σ') :
    ∀ (w p f : Nat) (x4 : Int) (σ : ZSto), m * m - p ≤ w → p ≤ m * m → f ≤ F → Fr (mlW l) σ0 σ → MLd σ m tg l bd f → MnR σ m bd tg → ((x4 = 1 ∧ ExB p (fun q => Rsc m bd c tg q ∧ (q : Int) = own)) ∨ (x4 = 0 ∧ ¬ ExB p (fun q => Rsc m bd c tg q ∧ (q : Int) = own))) → res = tkR m tg c g false bd pv (mvF (Rsc m bd c tg) (lastM m bd c tg) (m * m - p) p) f → L_X10_isSaved_54 X (e + 8) n (zpZ P) c own x4 (p : Int) σ := by
  have hN := sq_le h9
  have mm : (m : Int) * (m : Int) = ((m * m : Nat) : Int) := by simp
  intro w
  induction w with
  | zero =>
    intro p f x4 σ hw hp hf hFr hS hM hx hres
    have : p = m * m := by omega
    subst this
    have hS' := hS
    obtain ⟨a1, a2, a3, a4, a5, a6⟩ := hS'
    refine b_X10_isSaved_54 hn ?_
    rw [a2, mm, a5]
    rw [show m * m - m * m = 0 by omega] at hres
    have nomore : mvF (Rsc m bd c tg) (lastM m bd c tg) 0 (m * m) = [] → P 0 σ := fun hnil => by
      rw [hnil, tkR_nil] at hres
      exact hP 0 σ ⟨hFr, a3, by rw [hres]; exact a4, a6, Or.inl ⟨by rw [hres], rfl, a5⟩⟩
    refine ⟨⟨by omega, by omega⟩, fun _ => ⟨fun q => absurd rfl q, fun _ => ⟨fun z => nomore ?_, fun z => ⟨fun z2 => nomore ?_, fun z2 => ?_⟩⟩⟩, fun q => by omega⟩
    · rcases hx with ⟨_, q, q1, q2, q3⟩ | u
      · rcases hown with v | ⟨q', v1, v2, v3⟩
        · omega
        · have : q' = q := by omega
          subst this
          show (if _ then _ else _) = _
          rw [(lastM_own (c := c) h1 v2 v3).1 q2, if_pos (by omega)]
      · omega
    · rcases hown with v | ⟨q', v1, v2, v3⟩
      · show (if _ then _ else _) = _
        rw [lastM_none v.2, if_pos (by omega)]
      · omega
    · rcases hown with v | ⟨q', v1, v2, v3⟩
      · omega
      have hno : ¬ Rsc m bd c tg q' := fun y => by
        rcases hx with u | u
        · omega
        · exact u.2 ⟨q', v2, y, v1.symm⟩
      have el : mvF (Rsc m bd c tg) (lastM m bd c tg) 0 (m * m) = [q'] := by
        show (if _ then _ else _) = _
        rw [(lastM_own (c := c) h1 v2 v3).2 hno, if_neg (by omega)]
        simp
      rw [el] at hres
      subst v1
      refine (sm_saves hn h3 h9 hc htm v2 (fun f' h' => hH f' (by omega)) (g := g) (by omega) (by omega) (by omega) hcon hpad ht hS (hpv.kept hFr (fun i hi => by unfold mlW; omega))).mono ?_
      rintro v σ1 - ⟨hQ, -⟩
      rw [← hres] at hQ
      obtain ⟨k1, k2⟩ := hQ
      refine ⟨fun y => hP 0 σ1 ⟨hFr.tr k1, ?_⟩, fun y => hP 1 σ1 ⟨hFr.tr k1, ?_⟩⟩
      · subst y; exact k2
      · have : v = 1 := by
          rcases k2.2.2.2 with u | u | u
          · omega
          · exact u.2.1
          · omega
        subst this; exact k2
  | succ w ih =>
    intro p f x4 σ hw hp hf hFr hS hM hx hres
    by_cases hpN : p = m * m
    · exact ih p f x4 σ (by omega) hp hf hFr hS hM hx hres
    have hpm : p < m * m := by omega
    have hS' := hS
    obtain ⟨a1, a2, a3, a4, a5, a6⟩ := hS'
    have rp : R32 ((p : Int) + 1) := ⟨by omega, by omega⟩
    rw [show m * m - p = (m * m - (p + 1)) + 1 by omega] at hres
    have skip : ∀ σ', Fr (mlW l) σ0 σ' → MLd σ' m tg l bd f → MnR σ' m bd tg → ¬ Rsc m bd c tg p → R32 ((p : Int) + 1) ∧ L_X10_isSaved_54 X (e + 8) n (zpZ P) c own x4 ((p : Int) + 1) σ' := by
      intro σ' k1 k2 k3 hno
      rw [mvF_n hno] at hres
      have := ih (p + 1) f x4 σ' (by omega) (by omega) hf k1 k2 k3 ?_ hres
      · exact ⟨rp, by simpa using this⟩
      · rcases hx with u | u
        · exact Or.inl ⟨u.1, exB_s.mpr (Or.inl u.2)⟩
        · exact Or.inr ⟨u.1, fun y => (exB_s.mp y).elim u.2 (fun z => hno z.1)⟩
    refine b_X10_isSaved_54 hn ?_
    rw [a2, mm, a5, show ((p : Int)).toNat = p by omega, a6 p (by omega)]
    refine ⟨⟨by omega, by omega⟩, fun q => by omega, fun _ => ⟨fun q => absurd rfl q, fun _ => ⟨by omega, fun z => skip σ hFr hS hM (fun y => ?_), fun z => ?_⟩⟩⟩
    · obtain ⟨r, _, _, _, _, y⟩ := y
      exact z y.1
    refine (sm_takesBeside hn h3 h9 a2 a6 hM ht htm hc hpm z).mono ?_
    rintro v σ1 - ⟨f1, hv⟩
    have F1 : Fr (mlW l) σ0 σ1 := hFr.tr (f1.mono (fun a i q => by unfold fldW at q; unfold mlW; omega))
    have S1 : MLd σ1 m tg l bd f := ⟨by rw [f1.I (by unfold fldW; omega)]; exact a1, by rw [f1.I (by unfold fldW; omega)]; exact a2, by rw [f1.I (by unfold fldW; omega)]; exact a3, by rw [f1.I (by unfold fldW; omega)]; exact a4, by rw [f1.I (by unfold fldW; omega)]; exact a5, a6.kept f1 (fun i => by unfold fldW; omega)⟩
    have M1 := hM.kept f1 (fun i => by unfold fldW; omega)
    refine ⟨fun zv => ?_, fun zv => skip σ1 F1 S1 M1 (by
      rcases hv with u | u
      · omega
      · exact u.2)⟩
    have hyes : Rsc m bd c tg p := by
      rcases hv with u | u
      · exact u.2
      · exact absurd u.1 zv
    rw [mvF_s hyes, tkR_cons] at hres
    -- a move tried
    have move : ∀ y4 : Int, ((y4 = 1 ∧ ExB (p + 1) (fun q => Rsc m bd c tg q ∧ (q : Int) = own)) ∨ (y4 = 0 ∧ ¬ ExB (p + 1) (fun q => Rsc m bd c tg q ∧ (q : Int) = own))) → ZkZ X M_X10_saves (e + 8) n [.ref (zB X + 73), iV (p : Int), iV c] σ1 (fun v72 σ73 => (v72 = 0 → R32 ((p : Int) + 1) ∧ L_X10_isSaved_54 X (e + 8) n (zpZ P) c own y4 ((p : Int) + 1) σ73) ∧ (¬ (v72 = 0) → P 1 σ73)) := by
      intro y4 hy4
      refine (sm_saves hn h3 h9 hc htm hpm (fun f' h' => hH f' (by omega)) (g := g) (by omega) (by omega) (by omega) hcon hpad ht S1 (hpv.kept F1 (fun i hi => by unfold mlW; omega))).mono ?_
      rintro v2 σ2 - ⟨hQ, M2⟩
      have hle := tkR_le (m := m) (tg := tg) (c := c) (g := g) (hu := false) (bd := bd) (pv := pv) (ps := [p]) (f := f)
      have hQ' := hQ
      obtain ⟨k1, k2, k3, k4, k5⟩ := hQ'
      rcases k5 with ⟨u1, rfl, u3⟩ | ⟨u1, rfl, u3⟩ | ⟨u1, rfl, u3⟩
      · refine ⟨fun _ => ⟨rp, ?_⟩, fun q => absurd rfl q⟩
        rw [if_pos u1] at hres
        have := ih (p + 1) (tkR m tg c g false bd pv [p] f).2 y4 σ2 (by omega) (by omega) (by omega) (F1.tr k1) (hQ.ml S1 u3) M2 hy4 hres
        simpa using this
      · refine ⟨fun q => by omega, fun _ => hP 1 σ2 ?_⟩
        rw [if_neg (by omega)] at hres
        rw [hres]
        exact ⟨F1.tr k1, k2, k3, k4, Or.inr (Or.inl ⟨u1, rfl, u3⟩)⟩
      · refine ⟨fun _ => ⟨rp, ?_⟩, fun q => absurd rfl q⟩
        rw [if_neg (by omega)] at hres
        have := is_exit (X := X) (d := e + 8) (x1 := c) (x3 := own) (x4 := y4) hn (p := p + 1) h9 (by rw [k1.I (by unfold mlW; omega)]; exact S1.2.1) u3 (hP 0 σ2 (by
          rw [hres]
          exact ⟨F1.tr k1, k2, k3, k4, Or.inr (Or.inr ⟨u1, rfl, u3⟩)⟩))
        simpa using this
    refine ⟨fun z4 => move 1 (Or.inl ⟨rfl, ?_⟩), fun z4 => ⟨fun z5 => move 0 (Or.inr ⟨rfl, fun y => ?_⟩), fun z5 => move 1 (Or.inl ⟨rfl, exB_s.mpr (Or.inr ⟨hyes, z5⟩)⟩)⟩⟩
    · rcases hx with u | u
      · exact exB_s.mpr (Or.inl u.2)
      · exact absurd u.1 z4
    · rcases hx with u | u
      · omega
      · exact (exB_s.mp y).elim u.2 (fun y2 => z5 y2.2)
theorem is_all (hn : 104 ≤ n) {m tg : Nat} {c : Int} (h3 : 3 ≤ m) (h9 : m ≤ 9) (hc : c = 1 ∨ c = 2) (htm : tg < m * m) {f : Nat} (hH : ∀ f', f' < f → TkH X n m tg c f') : IsH X n m tg c f := by
  intro D g l bd pv σ hD hfg hlf hcon hpad ht hS hpv hl1
  have hN := sq_le h9
  obtain ⟨e, rfl⟩ : ∃ e, D = e + 8 + 1 := ⟨D - 9, by omega⟩
  have hS' := hS
  obtain ⟨a1, a2, a3, a4, a5, a6⟩ := hS'
  refine w_X10_isSaved hn ⟨by omega, by omega⟩ ?_
  rw [a1]
  refine (sm_flood hn h3 h9 a2 (fun q hq => a6 q (by omega)) htm (by omega) ⟨by omega, by omega⟩).mono ?_
  rintro v σ1 - ⟨hF, ev⟩
  have F1 : Fr (mlW l) σ σ1 := hF.1.mono (fun a i q => by unfold fldW at q; unfold mlW; omega)
  have S1 : MLd σ1 m tg l bd f := ⟨by rw [hF.1.I (by unfold fldW; omega)]; exact a1, by rw [hF.1.I (by unfold fldW; omega)]; exact a2, by rw [hF.1.I (by unfold fldW; omega)]; exact a3, by rw [hF.1.I (by unfold fldW; omega)]; exact a4, by rw [hF.1.I (by unfold fldW; omega)]; exact a5, a6.kept hF.1 (fun i => by unfold fldW; omega)⟩
  refine ⟨fun z => ?_, fun z => Or.inl ⟨by omega, rfl, F1, S1⟩⟩
  have := upto (N := 81) (Q := fun j τ => L_X10_isSaved_18 X (e + 8) n (zpZ (fun v σ' => (1 < cnt (Lib m bd tg) (m * m) ∧ v = 1 ∧ Fr (mlW l) σ σ' ∧ MLd σ' m tg l bd f) ∨ (¬ 1 < cnt (Lib m bd tg) (m * m) ∧ TkQ σ σ' l bd (lev m tg c (g + 1) false bd pv f) v))) c (j : Int) τ) (I := fun j τ => Fr (fun a i => a = 98) σ1 τ ∧ ∀ i, i < j → gI τ 98 i = gI σ1 85 i) ?_ ?_ 0 σ1 (by omega) ⟨Fr.rf, fun i hi => by omega⟩
  · simpa using this
  · rintro τ ⟨f2, b⟩
    refine b_X10_isSaved_18 hn ⟨fun _ => ?_, fun q => by omega⟩
    have F2 : Fr (mlW l) σ τ := F1.tr (f2.mono (fun a i q => by unfold mlW; omega))
    have S2 : MLd τ m tg l bd f := ⟨by rw [F2.I (by unfold mlW; omega)]; exact a1, by rw [F2.I (by unfold mlW; omega)]; exact a2, by rw [f2.I (by omega)]; exact S1.2.2.1, by rw [f2.I (by omega)]; exact S1.2.2.2.1, by rw [f2.I (by omega)]; exact S1.2.2.2.2.1, S1.2.2.2.2.2.kept f2 (fun i => by omega)⟩
    have M2 : MnR τ m bd tg := fun q hq => by rw [b q hq]; exact ⟨(hF.2.1 q hq).1, hF.2.2.1 q hq⟩
    refine (sm_freeBehind hn (D := Lib m bd tg) h9 S2.2.1 (fun q hq => by rw [f2.I (by omega)]; exact hF.2.2.2 q hq) (fun q hq => by rw [f2.I (by omega)]; exact (hF.2.1 q hq).2) (x := -1) (by omega)).mono ?_
    rintro v2 _ - ⟨rfl, hv2⟩
    have := is_loop (F := f) (σ0 := σ) (own := v2) (res := lev m tg c (g + 1) false bd pv f) hn h3 h9 hc htm hH (show 2 * f ≤ e by omega) hfg hlf hcon hpad ht (by omega) hpv ?_ (P := fun v σ' => (1 < cnt (Lib m bd tg) (m * m) ∧ v = 1 ∧ Fr (mlW l) σ σ' ∧ MLd σ' m tg l bd f) ∨ (¬ 1 < cnt (Lib m bd tg) (m * m) ∧ TkQ σ σ' l bd (lev m tg c (g + 1) false bd pv f) v)) (fun v σ' hq => Or.inr ⟨by omega, hq⟩) (m * m) 0 f 0 τ (by omega) (by omega) (by omega) F2 S2 M2 (Or.inr ⟨rfl, exB_0⟩) ?_
    · simpa using this
    · rcases hv2 with ⟨u1, u2⟩ | ⟨q, u1, _, u2, u3, _⟩
      · exact Or.inl ⟨u1, fun q hq => u2 q (by omega) hq⟩
      · exact Or.inr ⟨q, u1, u2, u3⟩
    · rw [tkR_lev]; rfl
  · rintro j τ hj ⟨f2, b⟩ ih
    refine b_X10_isSaved_18 hn ⟨fun q => by omega, fun _ => ?_⟩
    rw [show ((j : Int)).toNat = j by omega, f2.I (show ¬ 85 = 98 by omega)]
    refine ⟨by omega, ⟨by omega, by omega⟩, ?_⟩
    have := ih (sI τ 98 j (gI σ1 85 j)) ⟨f2.sI rfl, fun i hi => ?_⟩
    · simpa using this
    · by_cases e' : i = j
      · rw [e', gI_same]
      · rw [gI_f e']; exact b i (by omega)
end ZM
