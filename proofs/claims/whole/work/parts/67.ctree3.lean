def brdX (o a i : Nat) : Prop := a = o + 1 ∨ a = o + 2 ∨ a = o + 4 ∨ a = o + 5 ∨ (a = o ∧ (i = 7 ∨ i = 8 ∨ i = 10))
theorem BOk.kept2 {W : Nat → Nat → Prop} {σ σ' : ZSto} {o m : Nat} {bd : Nat → Int} (h : BOk σ o m bd) (hf : Fr W σ σ') (hw : ∀ a i, brdX o a i → ¬ W a i) : BOk σ' o m bd := by
  have e : ∀ a i, brdX o a i → gI σ' a i = gI σ a i := fun a i q => hf.I (hw a i q)
  obtain ⟨⟨a1, a2, a3, a4, a5⟩, hc, hs, hm1, hm2⟩ := h
  refine ⟨⟨a1, a2, by rw [e o 7 (by unfold brdX; omega)]; exact a3, by rw [e o 8 (by unfold brdX; omega)]; exact a4, fun p hp dd hd => by rw [e (o + 2) _ (by unfold brdX; omega)]; exact a5 p hp dd hd⟩, hc, fun p hp => by rw [e (o + 1) p (by unfold brdX; omega)]; exact hs p hp, by rw [e o 10 (by unfold brdX; omega)]; exact hm1, fun q => ?_⟩
  rw [e o 10 (by unfold brdX; omega), e (o + 4) q (by unfold brdX; omega), e (o + 5) q (by unfold brdX; omega)]
  exact hm2 q
theorem BPre.kept2 {W : Nat → Nat → Prop} {σ σ' : ZSto} {o : Nat} (h : BPre σ o) (hf : Fr W σ σ') (hw : ∀ a i, brdX o a i → ¬ W a i) : BPre σ' o := by
  have e : ∀ a i, brdX o a i → gI σ' a i = gI σ a i := fun a i q => hf.I (hw a i q)
  refine ⟨fun m h1 h2 h3 => ?_, by rw [e o 10 (by unfold brdX; omega)]; exact h.2.1, fun q => ?_⟩
  · rw [e o 7 (by unfold brdX; omega)] at h1
    obtain ⟨a1, a2, a3, a4, a5⟩ := h.1 m h1 h2 h3
    exact ⟨a1, a2, by rw [e o 7 (by unfold brdX; omega)]; exact a3, by rw [e o 8 (by unfold brdX; omega)]; exact a4, fun p hp dd hd => by rw [e (o + 2) _ (by unfold brdX; omega)]; exact a5 p hp dd hd⟩
  · rw [e o 10 (by unfold brdX; omega), e (o + 4) q (by unfold brdX; omega), e (o + 5) q (by unfold brdX; omega)]
    exact h.2.2 q
/-- Q holds of a node on the way from x to the root -/
def Walk (Q : Nat → Prop) (T : ATr) : Nat → Int → Prop
  | 0, _ => False
  | f + 1, x => 0 ≤ x ∧ (Q x.toNat ∨ Walk Q T f (tPar T x.toNat))
def Barred (m : Nat) (T : ATr) (ko : Int) (bd : Nat → Int) (tb x : Int) : Prop :=
  (ko = 0 ∧ 0 ≤ x ∧ tKnd T x.toNat = 1 ∧ 0 ≤ tPar T x.toNat ∧ ∀ p, p < m * m → tBrd T (tPar T x.toNat).toNat p = bd p) ∨
  (ko ≠ 0 ∧ Walk (fun j => (∀ p, p < m * m → tBrd T j p = bd p) ∧ (ko = 1 ∨ tTrn T j = tb)) T 250 x)
/-- what a play at p by c behind node x comes to -/
def Why (m : Nat) (T : ATr) (ko : Int) (bd : Nat → Int) (x : Int) (p : Nat) (c v : Int) : Prop :=
  (v = 2 ∧ bd p ≠ 0) ∨ (bd p = 0 ∧ v = 3 ∧ ∀ y, ¬ Lib m (putB m bd p c) p y) ∨ (bd p = 0 ∧ (∃ y, Lib m (putB m bd p c) p y) ∧ ((v = 4 ∧ Barred m T ko (putB m bd p c) (3 - c) x) ∨ (v = 0 ∧ ¬ Barred m T ko (putB m bd p c) (3 - c) x)))
theorem Why.uniq {m : Nat} {T : ATr} {ko : Int} {bd : Nat → Int} {x : Int} {p : Nat} {c v w : Int} (h1 : Why m T ko bd x p c v) (h2 : Why m T ko bd x p c w) : v = w := by
  rcases h1 with ⟨a, b⟩ | ⟨a, b, e⟩ | ⟨a, ⟨y, b⟩, e⟩ <;> rcases h2 with ⟨a', b'⟩ | ⟨a', b', e'⟩ | ⟨a', ⟨y', b'⟩, e'⟩
  · omega
  · exact absurd a' b
  · exact absurd a' b
  · exact absurd a b'
  · omega
  · exact absurd b' (e y')
  · exact absurd a b'
  · exact absurd b (e' y)
  · rcases e with ⟨e1, e2⟩ | ⟨e1, e2⟩ <;> rcases e' with ⟨f1, f2⟩ | ⟨f1, f2⟩
    · omega
    · exact absurd e2 f2
    · exact absurd f2 e2
    · omega
def SumW (T : ATr) (c : Int) : Nat → Int → Int
  | 0, _ => 0
  | f + 1, x => if x < 0 then 0 else (if tCol T x.toNat = c then tTok T x.toNat else 0) + SumW T c f (tPar T x.toNat)
section ZT
variable {X : ZX} {d n : Nat} {σ : ZSto}
theorem nthc_loop (hn : 73 ≤ n) {t m k i : Nat} {c : Int} {T : ATr} {P : Int → ZSto → Prop} (ht : zIsT t) (hC : CTr σ t m k c T) (hk2 : k ≤ 250) {y : Nat} (hy : y < cnt (fun j => tPar T j = (i : Int)) k) (hi : i < k)
    (hP : ∀ j : Nat, j < k → tPar T j = (i : Int) → cnt (fun j => tPar T j = (i : Int)) j = y → P (j : Int) σ) :
    ∀ (w x j : Nat), y - x ≤ w → x ≤ y → j < k → tPar T j = (i : Int) → cnt (fun j => tPar T j = (i : Int)) j = x → L_X7_nthChild_34 X (d + 1) n (zpI P) t (y : Int) (j : Int) (x : Int) σ := by
  have hcl := cnt_le (fun j => tPar T j = (i : Int)) k
  intro w
  induction w with
  | zero =>
    intro x j hw hx hj hp hc
    have : x = y := by omega
    subst this
    exact b_X7_nthChild_34 hn ht ⟨fun _ => hP j hj hp hc, fun q => by omega⟩
  | succ w ih =>
    intro x j hw hx hj hp hc
    refine b_X7_nthChild_34 hn ht ⟨fun q => hP j hj hp (by omega), fun q => (sp_thasY hn ht hC.2.2.1 hk2 hj).mono ?_⟩
    rintro v _ - ⟨rfl, rfl⟩
    refine ⟨fun z => by omega, fun _ => ⟨by omega, fun y16 hy16 => ⟨⟨by omega, by omega⟩, ?_⟩⟩⟩
    have tj : ((j : Int)).toNat = j := by omega
    rw [tj] at hy16
    have L := (hC.2.2.2.2 j hj).2.2.2
    rw [hp, ← hy16] at L
    rcases L with ⟨e, nn⟩ | ⟨j', j1, j2, j3, j4, j5⟩
    · exfalso
      have := cnt_ext (P := fun j => tPar T j = (i : Int)) (n := j + 1) (k := k) (by omega) nn
      rw [cnt_s (P := fun j => tPar T j = (i : Int)) hp] at this
      omega
    · have := cnt_ext (P := fun j => tPar T j = (i : Int)) (n := j + 1) (k := j') (by omega) j5
      rw [cnt_s (P := fun j => tPar T j = (i : Int)) hp, hc] at this
      rw [j4]
      have := ih (x + 1) j' (by omega) (by omega) j2 j3 (by omega)
      simpa using this
theorem sp_nthChild (hn : 73 ≤ n) {t m k i : Nat} {c y : Int} {T : ATr} (ht : zIsT t) (hC : CTr σ t m k c T) (hk2 : k ≤ 250) (hi : i < k) (hy : R32 y) :
    ZkI X M_X7_nthChild (d + 2) n [.ref (zB X + t), iV (i : Int), iV y] σ (fun v σ' => σ = σ' ∧ Nth (fun j => tPar T j = (i : Int)) k y v) := by
  refine w_X7_nthChild hn ht ⟨by omega, by omega⟩ hy ((sp_thasY hn ht hC.2.2.1 hk2 hi).mono ?_)
  rintro v _ - ⟨rfl, rfl⟩
  have ti : ((i : Int)).toNat = i := by omega
  have hcl := cnt_le (fun j => tPar T j = (i : Int)) k
  rw [ti, (hC.2.2.2.2 i hi).1]
  refine ⟨fun z => by omega, fun _ => ⟨fun q => ⟨rfl, Or.inr ⟨fun j _ _ => by omega, rfl⟩⟩, fun q => ⟨by omega, fun q2 y19 hy19 => ?_, fun q2 => ⟨rfl, Or.inr ⟨fun j hj hp z => ?_, rfl⟩⟩⟩⟩⟩
  · obtain ⟨yn, ey⟩ : ∃ yn : Nat, y = (yn : Int) := ⟨y.toNat, by omega⟩
    subst ey
    have L := (hC.2.2.2.2 i hi).2.1
    rw [← hy19] at L
    rcases L with ⟨e, nn⟩ | ⟨j', j1, j2, j3, j4, j5⟩
    · exfalso
      have := cnt_0 (P := fun j => tPar T j = (i : Int)) (n := k) (fun j hj => nn j (by omega) hj)
      omega
    · rw [j4]
      have := nthc_loop (X := X) (d := d) hn ht hC hk2 (y := yn) (by omega) hi (P := fun v σ' => σ = σ' ∧ Nth (fun j => tPar T j = (i : Int)) k (yn : Int) v) (fun j a b e => ⟨rfl, Or.inl ⟨j, a, b, by omega, rfl⟩⟩) yn 0 j' (by omega) (by omega) j2 j3 (cnt_0 (fun j hj => j5 j (by omega) hj))
      simpa using this
  · have h1 := cnt_s (P := fun j => tPar T j = (i : Int)) hp
    have h2 : cnt (fun j => tPar T j = (i : Int)) (j + 1) ≤ cnt (fun j => tPar T j = (i : Int)) k := by
      have : ∀ a b, a ≤ b → cnt (fun j => tPar T j = (i : Int)) a ≤ cnt (fun j => tPar T j = (i : Int)) b := by
        intro a b hab
        induction hab with
        | refl => exact Nat.le_refl _
        | step _ ih =>
          rename_i b' _
          by_cases q : tPar T b' = (i : Int)
          · rw [cnt_s (P := fun j => tPar T j = (i : Int)) q]; omega
          · rw [cnt_n (P := fun j => tPar T j = (i : Int)) q]; exact ih
      exact this _ _ (by omega)
    omega
theorem childOf_loop (hn : 73 ≤ n) {t m k i : Nat} {c cc pp : Int} {T : ATr} {P : Int → ZSto → Prop} (ht : zIsT t) (hC : CTr σ t m k c T) (hk2 : k ≤ 250) (hi : i < k)
    (hP : ∀ v : Int, Lst (fun j => tPar T j = (i : Int) ∧ tCol T j = cc ∧ tPnt T j = pp) 0 k v → P v σ) :
    ∀ (w lo x : Nat) (v : Int), k - lo ≤ w → lo ≤ k → x ≤ lo → Lst (fun j => tPar T j = (i : Int)) lo k v → (∀ j, j < lo → ¬ (tPar T j = (i : Int) ∧ tCol T j = cc ∧ tPnt T j = pp)) → L_X7_childOf_23 X (d + 1) n (zpI P) t cc pp v (x : Int) σ := by
  intro w
  induction w with
  | zero =>
    intro lo x v hw hlo hx hL hno
    have : v = -1 := by
      rcases hL with ⟨e, _⟩ | ⟨j, j1, j2, _⟩
      · exact e
      · omega
    subst this
    have fin : P (-1) σ := hP (-1) (Or.inl ⟨rfl, fun j _ hj => hno j (by omega)⟩)
    refine b_X7_childOf_23 hn ht ⟨fun _ => fin, fun _ => (sp_thasN hn ht hC.2.2.1 hk2 ⟨by omega, by omega⟩ (by omega)).mono ?_⟩
    rintro v _ - ⟨rfl, rfl⟩
    exact ⟨fun _ => fin, fun z => by omega⟩
  | succ w ih =>
    intro lo x v hw hlo hx hL hno
    rcases hL with ⟨e, nn⟩ | ⟨j, j1, j2, j3, j4, j5⟩
    · subst e
      have fin : P (-1) σ := hP (-1) (Or.inl ⟨rfl, fun j _ hj z => by
        by_cases q : j < lo
        · exact hno j q z
        · exact nn j (by omega) hj z.1⟩)
      refine b_X7_childOf_23 hn ht ⟨fun _ => fin, fun _ => (sp_thasN hn ht hC.2.2.1 hk2 ⟨by omega, by omega⟩ (by omega)).mono ?_⟩
      rintro v _ - ⟨rfl, rfl⟩
      exact ⟨fun _ => fin, fun z => by omega⟩
    · subst j4
      have hno' : ∀ j', j' < j → ¬ (tPar T j' = (i : Int) ∧ tCol T j' = cc ∧ tPnt T j' = pp) := by
        intro j' hj' z
        by_cases q : j' < lo
        · exact hno j' q z
        · exact j5 j' (by omega) hj' z.1
      have tj : ((j : Int)).toNat = j := by omega
      obtain ⟨r1, r2, r3, r4, r5, r6, r7, -⟩ := hC.2.2.2.1 j j2
      have next : ¬ (tCol T j = cc ∧ tPnt T j = pp) → ∀ y : Int, y = gI σ (t + 4) j → R32 ((x : Int) + 1) ∧ L_X7_childOf_23 X (d + 1) n (zpI P) t cc pp y ((x : Int) + 1) σ := by
        intro hne y hy
        refine ⟨⟨by omega, by omega⟩, ?_⟩
        have L := (hC.2.2.2.2 j j2).2.2.2
        rw [j3, ← hy] at L
        have := ih (j + 1) (x + 1) y (by omega) (by omega) (by omega) L (fun j' hj' z => by
          by_cases q : j' = j
          · rw [q] at z; exact hne z.2
          · exact hno' j' (by omega) z)
        simpa using this
      refine b_X7_childOf_23 hn ht ⟨fun z => by omega, fun _ => (sp_thasY hn ht hC.2.2.1 hk2 j2).mono ?_⟩
      rintro v _ - ⟨rfl, rfl⟩
      rw [tj, r4, r5]
      exact ⟨fun z => by omega, fun _ => ⟨by omega, fun q => next (fun z => q z.1), fun q => ⟨fun q2 => next (fun z => q2 z.2), fun q2 => hP _ (Or.inr ⟨j, by omega, j2, ⟨j3, q, q2⟩, rfl, fun j' _ h => hno' j' h⟩)⟩⟩⟩
theorem sp_childOf (hn : 73 ≤ n) {t m k i : Nat} {c cc pp : Int} {T : ATr} (ht : zIsT t) (hC : CTr σ t m k c T) (hk2 : k ≤ 250) (hi : i < k) (hcc : R32 cc) (hpp : R32 pp) :
    ZkI X M_X7_childOf (d + 2) n [.ref (zB X + t), iV (i : Int), iV cc, iV pp] σ (fun v σ' => σ = σ' ∧ Lst (fun j => tPar T j = (i : Int) ∧ tCol T j = cc ∧ tPnt T j = pp) 0 k v) := by
  refine w_X7_childOf hn ht ⟨by omega, by omega⟩ hcc hpp ((sp_thasY hn ht hC.2.2.1 hk2 hi).mono ?_)
  rintro v _ - ⟨rfl, rfl⟩
  have ti : ((i : Int)).toNat = i := by omega
  rw [ti]
  refine ⟨fun z => by omega, fun _ => ⟨by omega, fun y hy => ?_⟩⟩
  have := childOf_loop (X := X) (d := d) hn ht hC hk2 hi (cc := cc) (pp := pp) (P := fun v σ' => σ = σ' ∧ Lst (fun j => tPar T j = (i : Int) ∧ tCol T j = cc ∧ tPnt T j = pp) 0 k v) (fun v h => ⟨rfl, h⟩) k 0 0 y (by omega) (by omega) (by omega) (by rw [hy]; exact (hC.2.2.2.2 i hi).2.1) (fun j hj => by omega)
  simpa using this
theorem barred_loop (hn : 73 ≤ n) {t o m k : Nat} {c ko tb : Int} {T : ATr} {bd : Nat → Int} {P : Int → ZSto → Prop} (ht : zIsT t) (ho : zIsB o) (hC : CTr σ t m k c T) (hW : TW m k T) (hbd : BCon m bd) (hpk : ∀ w, w < 3 → gL σ (o + 7) w = lN (pkW bd (m * m) w)) :
    ∀ (f : Nat) (x : Int) (z : Nat), -1 ≤ x → x < k → x < f → z + f ≤ 250 → (Walk (fun j => (∀ p, p < m * m → tBrd T j p = bd p) ∧ (ko = 1 ∨ tTrn T j = tb)) T f x → P 1 σ) → (¬ Walk (fun j => (∀ p, p < m * m → tBrd T j p = bd p) ∧ (ko = 1 ∨ tTrn T j = tb)) T f x → P 0 σ) → L_X7_isBarred_54 X (d + 1) n (zpZ P) t o tb ko x (z : Int) σ := by
  have hk2 := hW.2.2.1
  intro f
  induction f with
  | zero =>
    intro x z h1 h2 h3 hz p1 p0
    have fin := p0 (fun h => h)
    refine b_X7_isBarred_54 hn ht ho ⟨fun _ => fin, fun _ => (sp_thasN hn ht hC.2.2.1 hk2 ⟨by omega, by omega⟩ (by omega)).mono ?_⟩
    rintro v _ - ⟨rfl, rfl⟩
    exact ⟨fun _ => fin, fun q => by omega⟩
  | succ f ih =>
    intro x z h1 h2 h3 hz p1 p0
    by_cases hx : x = -1
    · subst hx
      have fin := p0 (fun h => by have := h.1; omega)
      refine b_X7_isBarred_54 hn ht ho ⟨fun _ => fin, fun _ => (sp_thasN hn ht hC.2.2.1 hk2 ⟨by omega, by omega⟩ (by omega)).mono ?_⟩
      rintro v _ - ⟨rfl, rfl⟩
      exact ⟨fun _ => fin, fun q => by omega⟩
    · obtain ⟨i, rfl⟩ : ∃ i : Nat, x = (i : Int) := ⟨x.toNat, by omega⟩
      have hi : i < k := by omega
      have ti : ((i : Int)).toNat = i := by omega
      obtain ⟨r1, r2, r3, r4, r5, r6, r7, r8, r9⟩ := hC.2.2.2.1 i hi
      have hNW := hW.2.2.2 i hi
      have hpar := hW.par hi
      have eW : Walk (fun j => (∀ p, p < m * m → tBrd T j p = bd p) ∧ (ko = 1 ∨ tTrn T j = tb)) T (f + 1) (i : Int) ↔ (((∀ p, p < m * m → tBrd T i p = bd p) ∧ (ko = 1 ∨ tTrn T i = tb)) ∨ Walk (fun j => (∀ p, p < m * m → tBrd T j p = bd p) ∧ (ko = 1 ∨ tTrn T j = tb)) T f (tPar T i)) := by
        show (0 ≤ (i : Int) ∧ _) ↔ _
        rw [ti]
        exact ⟨fun h => h.2, fun h => ⟨by omega, h⟩⟩
      have next : ¬ ((∀ p, p < m * m → tBrd T i p = bd p) ∧ (ko = 1 ∨ tTrn T i = tb)) → ∀ y : Int, y = gI σ (t + 1) i → R32 ((z : Int) + 1) ∧ L_X7_isBarred_54 X (d + 1) n (zpZ P) t o tb ko y ((z : Int) + 1) σ := by
        intro hne y hy
        rw [r1] at hy
        subst hy
        refine ⟨⟨by omega, by omega⟩, ?_⟩
        have := ih (tPar T i) (z + 1) (by rcases hpar with ⟨_, q⟩ | ⟨_, b, q1, q2⟩ <;> omega) (by rcases hpar with ⟨_, q⟩ | ⟨_, b, q1, q2⟩ <;> omega) (by rcases hpar with ⟨_, q⟩ | ⟨_, b, q1, q2⟩ <;> omega) (by omega) (fun h => p1 (eW.mpr (Or.inr h))) (fun h => p0 (fun q => (eW.mp q).elim hne h))
        simpa using this
      refine b_X7_isBarred_54 hn ht ho ⟨fun q => by omega, fun _ => (sp_thasY hn ht hC.2.2.1 hk2 hi).mono ?_⟩
      rintro v _ - ⟨rfl, rfl⟩
      refine ⟨fun q => by omega, fun _ => ?_⟩
      rw [show (i : Int) * 3 = ((3 * i : Nat) : Int) by omega, ti]
      refine (sp_packedAs hn ho (zT_l11 ht hn) (zT_s11 ht) hW.2.1 hNW.2.2.2.2.2.2.2.2.2.2.2.2.2.2.2.1 hbd (from_ := 3 * i) (by omega) r8 hpk).mono ?_
      rintro v _ - ⟨rfl, ⟨rfl, hv⟩ | ⟨rfl, hv⟩⟩
      · rw [r6]
        exact ⟨fun q => by omega, fun _ => ⟨fun q => p1 (eW.mpr (Or.inl ⟨hv, Or.inl q⟩)), fun q => ⟨by omega, fun q2 => next (fun h => h.2.elim q q2), fun q2 => p1 (eW.mpr (Or.inl ⟨hv, Or.inr q2⟩))⟩⟩⟩
      · exact ⟨fun _ => ⟨by omega, next (fun h => hv h.1)⟩, fun q => by omega⟩
theorem sp_isBarred (hn : 73 ≤ n) {t o m k : Nat} {c ko tb x : Int} {T : ATr} {bd : Nat → Int} (ht : zIsT t) (ho : zIsB o) (hC : CTr σ t m k c T) (hW : TW m k T) (hbd : BCon m bd) (hpk : ∀ w, w < 3 → gL σ (o + 7) w = lN (pkW bd (m * m) w)) (hx : -1 ≤ x ∧ x < k) (hko : R32 ko) (htb : R32 tb) :
    ZkZ X M_X7_isBarred (d + 2) n [.ref (zB X + t), .ref (zB X + o), iV x, iV tb, iV ko] σ (fun v σ' => σ = σ' ∧ ((v = 1 ∧ Barred m T ko bd tb x) ∨ (v = 0 ∧ ¬ Barred m T ko bd tb x))) := by
  have hk2 := hW.2.2.1
  refine w_X7_isBarred hn ht ho ⟨by omega, by omega⟩ htb hko ⟨fun hk => ?_, fun hk => ?_⟩
  · have := barred_loop (X := X) (d := d) (σ := σ) (ko := ko) (tb := tb) hn ht ho hC hW hbd hpk (P := fun v σ' => σ = σ' ∧ ((v = 1 ∧ Barred m T ko bd tb x) ∨ (v = 0 ∧ ¬ Barred m T ko bd tb x))) 250 x 0 (by omega) (by omega) (by omega) (by omega) (fun h => ⟨rfl, Or.inl ⟨rfl, Or.inr ⟨hk, h⟩⟩⟩) (fun h => ⟨rfl, Or.inr ⟨rfl, fun q => q.elim (fun z => hk z.1) (fun z => h z.2)⟩⟩)
    simpa using this
  · have no : (¬ (0 ≤ x ∧ tKnd T x.toNat = 1 ∧ 0 ≤ tPar T x.toNat ∧ ∀ p, p < m * m → tBrd T (tPar T x.toNat).toNat p = bd p)) → ¬ Barred m T ko bd tb x := fun h q => q.elim (fun z => h z.2) (fun z => z.1 hk)
    refine (sp_thas hn ht hC.2.2.1 hk2 ⟨by omega, by omega⟩).mono ?_
    rintro v _ - ⟨rfl, ⟨rfl, i, hi, rfl⟩ | ⟨rfl, h⟩⟩
    · have ti : ((i : Int)).toNat = i := by omega
      rw [ti]
      rw [ti] at no
      obtain ⟨r1, r2, r3, r4, r5, r6, r7, r8, r9⟩ := hC.2.2.2.1 i hi
      rw [r3, r1]
      refine ⟨fun q => by omega, fun _ => ⟨by omega, fun q => ⟨rfl, Or.inr ⟨rfl, no (fun z => q z.2.1)⟩⟩, fun q => ?_⟩⟩
      rcases hW.par hi with ⟨_, hp⟩ | ⟨_, b, hb, hp⟩
      · rw [hp]
        refine w_X0_packedAs hn ho (zT_l11 ht hn) (zT_s11 ht) ⟨by omega, by omega⟩ ⟨fun _ => ⟨fun _ => ⟨rfl, Or.inr ⟨rfl, no (fun z => by have := z.2.2.1; omega)⟩⟩, fun q => by omega⟩, fun q => by omega⟩
      · rw [hp] at no ⊢
        have tb' : ((b : Int)).toNat = b := by omega
        rw [tb'] at no
        rw [show (b : Int) * 3 = ((3 * b : Nat) : Int) by omega]
        obtain ⟨s1, s2, s3, s4, s5, s6, s7, s8, s9⟩ := hC.2.2.2.1 b (by omega)
        refine (sp_packedAs hn ho (zT_l11 ht hn) (zT_s11 ht) hW.2.1 (hW.2.2.2 b (by omega)).2.2.2.2.2.2.2.2.2.2.2.2.2.2.2.1 hbd (from_ := 3 * b) (by omega) s8 hpk).mono ?_
        rintro v _ - ⟨rfl, ⟨rfl, hv⟩ | ⟨rfl, hv⟩⟩
        · exact ⟨fun q => by omega, fun _ => ⟨rfl, Or.inl ⟨rfl, Or.inl ⟨hk, by omega, by rw [ti]; exact q, by rw [ti, hp]; omega, by rw [ti, hp, tb']; exact hv⟩⟩⟩⟩
        · exact ⟨fun _ => ⟨rfl, Or.inr ⟨rfl, no (fun z => hv z.2.2.2)⟩⟩, fun q => by omega⟩
    · exact ⟨fun _ => ⟨rfl, Or.inr ⟨rfl, no (fun z => h ⟨z.1, by omega⟩)⟩⟩, fun q => by omega⟩
theorem sp_tryPlay (hn : 73 ≤ n) {t o m k p : Nat} {c ko mv x : Int} {T : ATr} {bd : Nat → Int} (ht : zIsT t) (ho : zIsB o) (hC : CTr σ t m k c T) (hW : TW m k T) (hB : BOk σ o m bd) (hx : -1 ≤ x ∧ x < k) (hp : p < m * m) (hm : mv = 1 ∨ mv = 2) (hko : R32 ko) (hg : gI σ o 10 < 1999999000) :
    ZkI X M_X7_tryPlay (d + 4) n [.ref (zB X + t), .ref (zB X + o), iV x, iV (p : Int), iV mv, iV ko] σ (fun v σ' => Fr (fun a i => brdW o a) σ σ' ∧ gI σ' o 10 ≤ gI σ o 10 + 5 ∧ Why m T ko bd x p mv v ∧ (v = 2 → BOk σ' o m bd) ∧ (v ≠ 2 → BOk σ' o m (putB m bd p mv) ∧ gI σ' o 12 = (cnt (Dies m bd p mv) (m * m) : Nat))) := by
  have hN := sq_le hB.1.2.1
  have hk2 := hW.2.2.1
  have hd : ∀ a, brdW o a → ¬ (t ≤ a ∧ a ≤ t + 13) := by intro a; unfold brdW; unfold zIsT at ht; unfold zIsB at ho; omega
  refine w_X7_tryPlay hn ht ho ⟨by omega, by omega⟩ ⟨by omega, by omega⟩ ⟨by omega, by omega⟩ hko ((sp_contentAt hn ho hB.1 hB.2.2.1 hp).mono ?_)
  rintro v _ - ⟨rfl, rfl⟩
  refine ⟨fun h0 => (sp_put hn ho hB hm hp hg).mono ?_, fun h0 => ⟨Fr.rf, by omega, Or.inl ⟨rfl, h0⟩, fun _ => hB, fun q => by omega⟩⟩
  rintro v1 σ1 - ⟨f1, b1, t1, g1, hv⟩
  refine ⟨fun h1 => ?_, fun h1 => ⟨f1, g1, Or.inr (Or.inl ⟨h0, rfl, ?_⟩), fun q => by omega, fun _ => ⟨b1, t1⟩⟩⟩
  · have hl : ∃ x, Lib m (putB m bd p mv) p x := by rcases hv with ⟨_, q⟩ | ⟨q, _⟩; exact q; omega
    refine (sp_pack hn ho b1.1 b1.2.1 b1.2.2.1).mono ?_
    rintro σ2 ⟨f2, w2⟩
    refine (sp_otherColour hn hm).mono ?_
    rintro v2 _ - ⟨rfl, rfl⟩
    have f12 : Fr (fun a i => brdW o a) σ σ2 := f1.tr (f2.mono (fun a i q => by unfold brdW; omega))
    have hC2 : CTr σ2 t m k c T := hC.kept f12 (fun a i q z => hd a z (by unfold ctrD at q; omega))
    have b2 : BOk σ2 o m (putB m bd p mv) := b1.kept2 f2 (fun a i q z => by unfold brdX at q; omega)
    refine (sp_isBarred hn ht ho hC2 hW b1.2.1 w2 hx hko ⟨by omega, by omega⟩).mono ?_
    rintro v3 _ - ⟨rfl, hb⟩
    have g2 : gI σ2 o 10 = gI σ1 o 10 := f2.I (by omega)
    have t2 : gI σ2 o 12 = gI σ1 o 12 := f2.I (by omega)
    refine ⟨fun q => ⟨f12, by omega, Or.inr (Or.inr ⟨h0, hl, Or.inr ⟨rfl, ?_⟩⟩), fun q => by omega, fun _ => ⟨b2, by rw [t2]; exact t1⟩⟩, fun q => ⟨f12, by omega, Or.inr (Or.inr ⟨h0, hl, Or.inl ⟨rfl, ?_⟩⟩), fun q => by omega, fun _ => ⟨b2, by rw [t2]; exact t1⟩⟩⟩
    · rcases hb with ⟨z, _⟩ | ⟨_, z⟩
      · omega
      · exact z
    · rcases hb with ⟨_, z⟩ | ⟨z, _⟩
      · exact z
      · omega
  · rcases hv with ⟨q, _⟩ | ⟨_, q⟩
    · omega
    · exact q
theorem taken_loop (hn : 73 ≤ n) {t m k : Nat} {c tc : Int} {T : ATr} {P : Int → ZSto → Prop} (ht : zIsT t) (hC : CTr σ t m k c T) (hW : TW m k T) :
    ∀ (f : Nat) (x : Int) (z : Nat) (s : Int), -1 ≤ x → x < k → x < f → z + f ≤ 250 → 0 ≤ s → s ≤ 81 * z → (∀ v : Int, v = s + SumW T tc f x → 0 ≤ v → v ≤ 81 * 250 → P v σ) → L_X7_takenBy_10 X (d + 1) n (zpI P) t tc s x (z : Int) σ := by
  have hk2 := hW.2.2.1
  intro f
  induction f with
  | zero =>
    intro x z s h1 h2 h3 hz h4 h5 hP
    have fin : P s σ := hP s (by show s = s + 0; omega) h4 (by omega)
    refine b_X7_takenBy_10 hn ht ⟨fun _ => fin, fun _ => (sp_thasN hn ht hC.2.2.1 hk2 ⟨by omega, by omega⟩ (by omega)).mono ?_⟩
    rintro v _ - ⟨rfl, rfl⟩
    exact ⟨fun _ => fin, fun q => by omega⟩
  | succ f ih =>
    intro x z s h1 h2 h3 hz h4 h5 hP
    by_cases hx : x = -1
    · subst hx
      have fin : P s σ := hP s (by show s = s + (if (-1 : Int) < 0 then 0 else _); rw [if_pos (by omega)]; omega) h4 (by omega)
      refine b_X7_takenBy_10 hn ht ⟨fun _ => fin, fun _ => (sp_thasN hn ht hC.2.2.1 hk2 ⟨by omega, by omega⟩ (by omega)).mono ?_⟩
      rintro v _ - ⟨rfl, rfl⟩
      exact ⟨fun _ => fin, fun q => by omega⟩
    · obtain ⟨i, rfl⟩ : ∃ i : Nat, x = (i : Int) := ⟨x.toNat, by omega⟩
      have hi : i < k := by omega
      have ti : ((i : Int)).toNat = i := by omega
      obtain ⟨r1, r2, r3, r4, r5, r6, r7, r8, r9⟩ := hC.2.2.2.1 i hi
      have htok := (hW.2.2.2 i hi).2.2.2.2.2.2.2.1
      have hpar := hW.par hi
      have eS : SumW T tc (f + 1) (i : Int) = (if tCol T i = tc then tTok T i else 0) + SumW T tc f (tPar T i) := by
        show (if (i : Int) < 0 then 0 else _) = _
        rw [if_neg (by omega), ti]
      have next : ∀ s' : Int, s' = s + (if tCol T i = tc then tTok T i else 0) → 0 ≤ s' → s' ≤ 81 * ((z : Int) + 1) → L_X7_takenBy_10 X (d + 1) n (zpI P) t tc s' (tPar T i) ((z : Int) + 1) σ := by
        intro s' hs' h6 h7
        have := ih (tPar T i) (z + 1) s' (by rcases hpar with ⟨_, q⟩ | ⟨_, b, q1, q2⟩ <;> omega) (by rcases hpar with ⟨_, q⟩ | ⟨_, b, q1, q2⟩ <;> omega) (by rcases hpar with ⟨_, q⟩ | ⟨_, b, q1, q2⟩ <;> omega) (by omega) h6 (by omega) (fun v hv a b => hP v (by rw [hv, hs', eS]; omega) a b)
        simpa using this
      refine b_X7_takenBy_10 hn ht ⟨fun q => by omega, fun _ => (sp_thasY hn ht hC.2.2.1 hk2 hi).mono ?_⟩
      rintro v _ - ⟨rfl, rfl⟩
      rw [ti, r4, r1, r7]
      refine ⟨fun q => by omega, fun _ => ⟨by omega, fun q y hy => ⟨⟨by omega, by omega⟩, ?_⟩, fun q y hy y2 hy2 => ⟨⟨by omega, by omega⟩, ⟨by omega, by omega⟩, ?_⟩⟩⟩
      · subst hy
        exact next s (by rw [if_neg q]; omega) h4 (by omega)
      · subst hy2
        exact next y (by rw [if_pos q]; omega) (by omega) (by omega)
theorem sp_takenBy (hn : 73 ≤ n) {t m k pl : Nat} {c tc : Int} {T : ATr} (ht : zIsT t) (hC : CTr σ t m k c T) (hW : TW m k T) (hpl : gI σ t 16 = (pl : Int)) (hpk : pl < k) (htc : R32 tc) :
    ZkI X M_X7_takenBy (d + 2) n [.ref (zB X + t), iV tc] σ (fun v σ' => σ = σ' ∧ v = SumW T tc 250 (pl : Int) ∧ 0 ≤ v ∧ v ≤ 81 * 250) := by
  have hk2 := hW.2.2.1
  refine w_X7_takenBy hn ht htc (fun y hy => ?_)
  rw [hpl] at hy
  subst hy
  have := taken_loop (X := X) (d := d) (tc := tc) hn ht hC hW (P := fun v σ' => σ = σ' ∧ v = SumW T tc 250 (pl : Int) ∧ 0 ≤ v ∧ v ≤ 81 * 250) 250 (pl : Int) 0 0 (by omega) (by omega) (by omega) (by omega) (by omega) (by omega) (fun v hv a b => ⟨rfl, by omega, a, b⟩)
  simpa using this
end ZT
