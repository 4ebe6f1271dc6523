def WAll (σ : ZSto) (bd : Nat → Int) : Prop := ∀ p, p < 81 → gI σ 84 p = bd p
def Pad (m : Nat) (bd : Nat → Int) : Prop := ∀ p, m * m ≤ p → bd p = 0
theorem putB_pad {m p : Nat} {c : Int} {bd : Nat → Int} (h : Pad m bd) (hp : p < m * m) : Pad m (putB m bd p c) := by
  intro q hq
  have : ¬ Dies m bd p c q := by
    rintro ⟨b, h1, h2, h3, h4⟩
    have := h3.lt h1.2.1
    omega
  show offB _ _ q = 0
  rw [offB_n this, setB_ne (by omega)]
  exact h q hq
theorem bB_pad {m k : Nat} {T : ATr} {x : Int} (hW : TW m k T) (hx : x < k) : Pad m (bB T x) := (bB_con hW hx).2
theorem bd_ext {m : Nat} {f g : Nat → Int} (h9 : m ≤ 9) (hf : Pad m f) (hg : Pad m g) : (∀ p, p < 81 → f p = g p) ↔ ∀ p, p < m * m → f p = g p := by
  have hN := sq_le h9
  constructor
  · exact fun h p hp => h p (by omega)
  · intro h p hp
    by_cases z : p < m * m
    · exact h p z
    · rw [hf p (by omega), hg p (by omega)]
theorem TW.parb {m k : Nat} {T : ATr} (h : TW m k T) {i : Nat} (hi : i < k) : -1 ≤ tPar T i ∧ tPar T i < i := by
  rcases h.par hi with ⟨h1, h2⟩ | ⟨h1, b, h2, h3⟩ <;> omega
section ZM
variable {X : ZX} {d n : Nat} {σ : ZSto}
theorem sm_isBoardT (hn : 104 ≤ n) {g m k i : Nat} {T : ATr} {bd : Nat → Int} (hg : g < 2) (hM : ∀ i, i < k → MRn σ g T i) (hW : TW m k T) (hi : i < k) (hb : WAll σ bd) (hpd : Pad m bd) :
    ZkZ X M_X10_isBoard (d + 1) n [.ref (zB X + 73), iV ((250 * g + i : Nat) : Int)] σ (fun v σ' => σ = σ' ∧ ((v = 1 ∧ ∀ p, p < m * m → tBrd T i p = bd p) ∨ (v = 0 ∧ ¬ ∀ p, p < m * m → tBrd T i p = bd p))) := by
  have hk2 := hW.2.2.1
  have hNW := hW.2.2.2 i hi
  have e : (∀ p, p < 81 → gI σ 79 (81 * (250 * g + i) + p) = gI σ 84 p) ↔ ∀ p, p < m * m → tBrd T i p = bd p := by
    rw [← bd_ext hW.2.1 hNW.2.2.2.2.2.2.2.2.2.2.2.2.2.2.2.2.1 hpd]
    obtain ⟨r1, r2, r3, r4, r5, r6, r7⟩ := hM i hi
    constructor
    · intro h p hp; rw [← r6 p hp, ← hb p hp]; exact h p hp
    · intro h p hp; rw [r6 p hp, hb p hp]; exact h p hp
  refine (sm_isBoard hn (K := 250 * g + i) (by omega)).mono ?_
  rintro v _ - ⟨rfl, ⟨a, b⟩ | ⟨a, b⟩⟩
  · exact ⟨rfl, Or.inl ⟨a, e.mp b⟩⟩
  · exact ⟨rfl, Or.inr ⟨a, fun z => b (e.mpr z)⟩⟩
theorem mbarred_loop (hn : 104 ≤ n) {g m k : Nat} {ko c : Int} {T : ATr} {bd : Nat → Int} {P : Int → ZSto → Prop} (hg : g < 2) (hM : ∀ i, i < k → MRn σ g T i) (hW : TW m k T) (hb : WAll σ bd) (hpd : Pad m bd) (hko : gI σ 73 12 = ko) (hc : c = 1 ∨ c = 2) :
    ∀ (f : Nat) (x : Int), -1 ≤ x → x < k → x < f → (Walk (fun j => (∀ p, p < m * m → tBrd T j p = bd p) ∧ (ko = 1 ∨ tTrn T j = 3 - c)) T f x → P 1 σ) → (¬ Walk (fun j => (∀ p, p < m * m → tBrd T j p = bd p) ∧ (ko = 1 ∨ tTrn T j = 3 - c)) T f x → P 0 σ) → L_X10_isBarred_53 X (d + 1) n (zpZ P) c (mX g x) σ := by
  have hk2 := hW.2.2.1
  intro f
  induction f with
  | zero =>
    intro x h1 h2 h3 p1 p0
    rw [mX_n (by omega)]
    exact b_X10_isBarred_53 hn ⟨fun _ => p0 (fun h => h), fun q => by omega⟩
  | succ f ih =>
    intro x h1 h2 h3 p1 p0
    by_cases hx : x = -1
    · subst hx
      rw [mX_n (by omega)]
      exact b_X10_isBarred_53 hn ⟨fun _ => p0 (fun h => by have := h.1; omega), fun q => by omega⟩
    · obtain ⟨i, rfl⟩ : ∃ i : Nat, x = (i : Int) := ⟨x.toNat, by omega⟩
      have hi : i < k := by omega
      have ti : ((i : Int)).toNat = i := by omega
      have tK : (((250 * g + i : Nat)) : Int).toNat = 250 * g + i := by omega
      obtain ⟨r1, r2, r3, r4, r5, r6, r7⟩ := hM i hi
      have hpar := hW.parb hi
      have eW : Walk (fun j => (∀ p, p < m * m → tBrd T j p = bd p) ∧ (ko = 1 ∨ tTrn T j = 3 - c)) T (f + 1) (i : Int) ↔ (((∀ p, p < m * m → tBrd T i p = bd p) ∧ (ko = 1 ∨ tTrn T i = 3 - c)) ∨ Walk (fun j => (∀ p, p < m * m → tBrd T j p = bd p) ∧ (ko = 1 ∨ tTrn T j = 3 - c)) T f (tPar T i)) := by
        show (0 ≤ (i : Int) ∧ _) ↔ _
        rw [ti]
        exact ⟨fun h => h.2, fun h => ⟨by omega, h⟩⟩
      have next : ¬ ((∀ p, p < m * m → tBrd T i p = bd p) ∧ (ko = 1 ∨ tTrn T i = 3 - c)) → ∀ y : Int, y = gI σ 74 (250 * g + i) → L_X10_isBarred_53 X (d + 1) n (zpZ P) c y σ := by
        intro hne y hy
        rw [r1] at hy
        have hy : y = mX g (tPar T i) := hy
        rw [hy]
        exact ih (tPar T i) (by omega) (by omega) (by omega) (fun h => p1 (eW.mpr (Or.inr h))) (fun h => p0 (fun q => (eW.mp q).elim hne h))
      rw [mX_p]
      refine b_X10_isBarred_53 hn ⟨fun q => by omega, fun _ => (sm_isBoardT hn hg hM hW hi hb hpd).mono ?_⟩
      rintro v _ - ⟨rfl, ⟨rfl, hv⟩ | ⟨rfl, hv⟩⟩
      · rw [hko, tK]
        refine ⟨fun q => by omega, fun _ => ⟨fun q => p1 (eW.mpr (Or.inl ⟨hv, Or.inl q⟩)), fun q => (sm_turn hn hg hM hW hi).mono ?_⟩⟩
        rintro v2 _ - ⟨rfl, rfl⟩
        exact ⟨⟨by omega, by omega⟩, fun q2 => ⟨by omega, next (fun h => h.2.elim q q2)⟩, fun q2 => p1 (eW.mpr (Or.inl ⟨hv, Or.inr q2⟩))⟩
      · rw [tK]
        exact ⟨fun _ => ⟨by omega, next (fun h => hv h.1)⟩, fun q => by omega⟩
theorem sm_isBarred (hn : 104 ≤ n) {g m k : Nat} {ko c x : Int} {T : ATr} {bd : Nat → Int} (hg : g < 2) (hM : ∀ i, i < k → MRn σ g T i) (hW : TW m k T) (hb : WAll σ bd) (hpd : Pad m bd) (hko : gI σ 73 12 = ko) (hc : c = 1 ∨ c = 2) (hx : -1 ≤ x ∧ x < k) :
    ZkZ X M_X10_isBarred (d + 2) n [.ref (zB X + 73), iV (mX g x), iV c] σ (fun v σ' => σ = σ' ∧ ((v = 1 ∧ Barred m T ko bd (3 - c) x) ∨ (v = 0 ∧ ¬ Barred m T ko bd (3 - c) x))) := by
  have hk2 := hW.2.2.1
  have mr : R32 (mX g x) := by unfold mX; split <;> exact ⟨by omega, by omega⟩
  refine w_X10_isBarred hn mr ⟨by omega, by omega⟩ ?_
  rw [hko]
  by_cases hx0 : x < 0
  · rw [mX_n hx0]
    refine ⟨fun q => by omega, fun _ => ⟨rfl, Or.inr ⟨rfl, fun z => ?_⟩⟩⟩
    rcases z with z | z
    · have := z.2.1; omega
    · have h : Walk _ T 250 x := z.2
      have := h.1
      omega
  · have m0 : 0 ≤ mX g x := by unfold mX; rw [if_neg hx0]; omega
    refine ⟨fun _ => ⟨fun hk => ?_, fun hk => ?_⟩, fun q => by omega⟩
    · exact mbarred_loop (X := X) (d := d) (σ := σ) (ko := ko) hn hg hM hW hb hpd hko hc (P := fun v σ' => σ = σ' ∧ ((v = 1 ∧ Barred m T ko bd (3 - c) x) ∨ (v = 0 ∧ ¬ Barred m T ko bd (3 - c) x))) 250 x (by omega) (by omega) (by omega) (fun h => ⟨rfl, Or.inl ⟨rfl, Or.inr ⟨hk, h⟩⟩⟩) (fun h => ⟨rfl, Or.inr ⟨rfl, fun q => q.elim (fun z => hk z.1) (fun z => h z.2)⟩⟩)
    · obtain ⟨i, rfl⟩ : ∃ i : Nat, x = (i : Int) := ⟨x.toNat, by omega⟩
      have hi : i < k := by omega
      have ti : ((i : Int)).toNat = i := by omega
      have no : (¬ (0 ≤ (i : Int) ∧ tKnd T i = 1 ∧ 0 ≤ tPar T i ∧ ∀ p, p < m * m → tBrd T (tPar T i).toNat p = bd p)) → ¬ Barred m T ko bd (3 - c) (i : Int) := fun h q => q.elim (fun z => h (by have := z.2; rw [ti] at this; exact this)) (fun z => z.1 hk)
      obtain ⟨r1, r2, r3, r4, r5, r6, r7⟩ := hM i hi
      have tK : (((250 * g + i : Nat)) : Int).toNat = 250 * g + i := by omega
      rw [mX_p, tK, r1, r2]
      refine ⟨by omega, fun q => ⟨rfl, Or.inr ⟨rfl, no (fun z => q z.2.1)⟩⟩, fun q => ?_⟩
      rcases hW.par hi with ⟨_, hp⟩ | ⟨_, b, hbl, hp⟩
      · rw [hp, if_pos (by omega)]
        exact ⟨fun _ => ⟨rfl, Or.inr ⟨rfl, no (fun z => by have := z.2.2.1; omega)⟩⟩, fun q => by omega⟩
      · rw [hp] at no ⊢
        have tb' : ((b : Int)).toNat = b := by omega
        rw [tb'] at no
        rw [if_neg (by omega)]
        refine ⟨fun q => by omega, fun _ => ?_⟩
        rw [show 250 * (g : Int) + (b : Int) = ((250 * g + b : Nat) : Int) by omega]
        refine (sm_isBoardT hn hg hM hW (show b < k by omega) hb hpd).mono ?_
        rintro v _ - ⟨rfl, ⟨rfl, hv⟩ | ⟨rfl, hv⟩⟩
        · exact ⟨fun q => by omega, fun _ => ⟨rfl, Or.inl ⟨rfl, Or.inl ⟨hk, by omega, by rw [ti]; exact q, by rw [ti, hp]; omega, by rw [ti, hp, tb']; exact hv⟩⟩⟩⟩
        · exact ⟨fun _ => ⟨rfl, Or.inr ⟨rfl, no (fun z => hv z.2.2.2)⟩⟩, fun q => by omega⟩
/-- load the board ahead of a node behind x -/
theorem sm_loadT (hn : 104 ≤ n) {g m k : Nat} {x : Int} {T : ATr} (hg : g < 2) (hM : ∀ i, i < k → MRn σ g T i) (hW : TW m k T) (hx : -1 ≤ x ∧ x < k) :
    ZkV X M_X10_load (d + 1) n [.ref (zB X + 73), iV (mX g x)] σ (fun σ' => Fr (fun a i => a = 84 ∧ i < 81) σ σ' ∧ WAll σ' (bB T x)) := by
  have hk2 := hW.2.2.1
  refine (sm_load hn (x := mX g x) (by unfold mX; split <;> omega)).mono ?_
  rintro σ1 ⟨f1, w1⟩
  refine ⟨f1, fun p hp => ?_⟩
  rw [w1 p hp]
  by_cases h : x < 0
  · rw [mX_n h, bB_n h, if_pos (by omega)]
  · obtain ⟨i, rfl⟩ : ∃ i : Nat, x = (i : Int) := ⟨x.toNat, by omega⟩
    have tK : (((250 * g + i : Nat)) : Int).toNat = 250 * g + i := by omega
    rw [mX_p, bB_p, if_neg (by omega), tK]
    exact (hM i (by omega)).2.2.2.2.2.1 p hp
theorem sm_why (hn : 104 ≤ n) {g m k p : Nat} {ko c x : Int} {T : ATr} (hg : g < 2) (hM : ∀ i, i < k → MRn σ g T i) (hW : TW m k T) (hm : gI σ 73 13 = (m : Int)) (hko : gI σ 73 12 = ko) (hc : c = 1 ∨ c = 2) (hx : -1 ≤ x ∧ x < k) (hp : p < m * m) :
    ZkI X M_X10_why (d + 4) n [.ref (zB X + 73), iV (mX g x), iV (p : Int), iV c] σ (fun v σ' => Fr putW σ σ' ∧ Why m T ko (bB T x) x p c v) := by
  have hk2 := hW.2.2.1
  have hN := sq_le hW.2.1
  have mr : R32 (mX g x) := by unfold mX; split <;> exact ⟨by omega, by omega⟩
  have tp : ((p : Int)).toNat = p := by omega
  refine w_X10_why hn mr ⟨by omega, by omega⟩ ⟨by omega, by omega⟩ ((sm_loadT hn hg hM hW hx).mono ?_)
  rintro σ1 ⟨f1, w1⟩
  have f1' : Fr putW σ σ1 := f1.mono (fun a i q => Or.inl q.1)
  rw [tp, w1 p (by omega)]
  refine ⟨by omega, fun h0 => ?_, fun h0 => ⟨f1', Or.inl ⟨rfl, h0⟩⟩⟩
  have hcon := (bB_con hW hx.2).1
  refine (sm_put hn hW.1 hW.2.1 (by rw [f1.I (by omega)]; exact hm) hc hp hcon (fun q hq => w1 q (by omega))).mono ?_
  rintro v1 σ2 - ⟨f2, s2, r2, t2, hv⟩
  have f12 := f1'.tr f2
  have w2 : WAll σ2 (putB m (bB T x) p c) := by
    intro q hq
    by_cases z : q < m * m
    · exact s2 q z
    · rw [r2 q (by omega) hq, w1 q hq, bB_pad hW hx.2 q (by omega), putB_pad (bB_pad hW hx.2) hp q (by omega)]
  refine ⟨fun h1 => ?_, fun h1 => ⟨f12, Or.inr (Or.inl ⟨h0, rfl, ?_⟩)⟩⟩
  · have hl : ∃ y, Lib m (putB m (bB T x) p c) p y := by rcases hv with ⟨_, q⟩ | ⟨q, _⟩; exact q; omega
    refine (sm_isBarred (ko := ko) hn hg (fun i hi => (hM i hi).kept f12 (fun a h1 h2 q => by unfold putW at q; omega) (fun a p h1 _ q => by unfold putW at q; omega)) hW w2 (putB_pad (bB_pad hW hx.2) hp) (by rw [f12.I (by unfold putW; omega)]; exact hko) hc hx).mono ?_
    rintro v3 _ - ⟨rfl, hb⟩
    refine ⟨fun q => ⟨f12, Or.inr (Or.inr ⟨h0, hl, Or.inr ⟨rfl, ?_⟩⟩)⟩, fun q => ⟨f12, Or.inr (Or.inr ⟨h0, hl, Or.inl ⟨rfl, ?_⟩⟩)⟩⟩
    · rcases hb with ⟨z, _⟩ | ⟨_, z⟩
      · omega
      · exact z
    · rcases hb with ⟨_, z⟩ | ⟨z, _⟩
      · exact z
      · omega
  · rcases hv with ⟨q, _⟩ | ⟨_, q⟩
    · omega
    · exact q
theorem sm_isOver (hn : 104 ≤ n) {g m k i : Nat} {T : ATr} (hg : g < 2) (hM : ∀ i, i < k → MRn σ g T i) (hW : TW m k T) (hi : i < k) : ZkZ X M_X10_isOver (d + 1) n [.ref (zB X + 73), iV ((250 * g + i : Nat) : Int)] σ (fun v σ' => σ = σ' ∧ ((v = 1 ∧ Over T i) ∨ (v = 0 ∧ ¬ Over T i))) := by
  have hk2 := hW.2.2.1
  have tK : (((250 * g + i : Nat)) : Int).toNat = 250 * g + i := by omega
  obtain ⟨r1, r2, -⟩ := hM i hi
  refine w_X10_isOver hn ⟨by omega, by omega⟩ ?_
  rw [tK, r1, r2]
  refine ⟨by omega, fun q => ⟨rfl, Or.inr ⟨rfl, fun z => q z.1⟩⟩, fun q => ?_⟩
  rcases hW.par hi with ⟨_, hp⟩ | ⟨_, b, hb, hp⟩
  · rw [hp, if_pos (by omega)]
    exact ⟨fun _ => ⟨rfl, Or.inr ⟨rfl, fun z => by have := z.2.1; omega⟩⟩, fun q => by omega⟩
  · rw [hp, if_neg (by omega), show 250 * (g : Int) + (b : Int) = ((250 * g + b : Nat) : Int) by omega]
    have tB : (((250 * g + b : Nat)) : Int).toNat = 250 * g + b := by omega
    have tb : ((b : Int)).toNat = b := by omega
    rw [tB, (hM b (by omega)).2.1]
    refine ⟨fun q => by omega, fun _ => ⟨by omega, fun q2 => ⟨rfl, Or.inr ⟨rfl, fun z => q2 ?_⟩⟩, fun q2 => ⟨rfl, Or.inl ⟨rfl, q, by omega, by rw [hp, tb]; exact q2⟩⟩⟩⟩
    have := z.2.2
    rw [hp, tb] at this
    exact this
theorem sm_child (hn : 104 ≤ n) {g m k i : Nat} {cc pp : Int} {T : ATr} (hg : g < 2) (hM : ∀ i, i < k → MRn σ g T i) (hk : gI σ 81 g = (k : Int)) (hW : TW m k T) (hi : i < k) (hcc : cc = 1 ∨ cc = 2) (hpp : R32 pp) :
    ZkI X M_X10_child (d + 1) n [.ref (zB X + 73), iV ((250 * g + i : Nat) : Int), iV pp, iV cc] σ (fun v σ' => σ = σ' ∧ ∃ v' : Int, v = mX g v' ∧ Lst (fun j => tPar T j = (i : Int) ∧ tCol T j = cc ∧ tPnt T j = pp) 0 k v') := by
  have hk2 := hW.2.2.1
  refine w_X10_child hn ⟨by omega, by omega⟩ hpp ⟨by omega, by omega⟩ ⟨by omega, ⟨by omega, by omega⟩, ⟨by omega, by omega⟩, ?_⟩
  have eg : ((250 * g + i : Nat) : Int) / 250 = (g : Int) := by omega
  have tg : ((g : Int)).toNat = g := by omega
  rw [eg]
  have := upto (N := k) (Q := fun j τ => L_X10_child_12 X d n (zpI (fun v σ' => σ = σ' ∧ ∃ v' : Int, v = mX g v' ∧ Lst (fun j => tPar T j = (i : Int) ∧ tCol T j = cc ∧ tPnt T j = pp) 0 k v')) ((250 * g + i : Nat) : Int) pp cc (g : Int) ((250 * g + j : Nat) : Int) τ) (I := fun j τ => σ = τ ∧ ∀ j', j' < j → ¬ (tPar T j' = (i : Int) ∧ tCol T j' = cc ∧ tPnt T j' = pp))
    ?_ ?_ (i + 1) σ (by omega) ⟨rfl, fun j hj z => ?_⟩
  · have e : ((250 * g + i : Nat) : Int) + 1 = ((250 * g + (i + 1) : Nat) : Int) := by omega
    rw [e]; exact this
  · rintro _ ⟨rfl, hq⟩
    refine b_X10_child_12 hn ?_
    rw [tg, hk]
    exact ⟨by omega, ⟨by omega, by omega⟩, fun _ => ⟨rfl, -1, (mX_n (by omega)).symm, Or.inl ⟨rfl, fun j _ hj => hq j hj⟩⟩, fun q => by omega⟩
  · rintro j _ hj ⟨rfl, hq⟩ ih
    obtain ⟨r1, r2, r3, r4, -⟩ := hM j hj
    have tK : (((250 * g + j : Nat)) : Int).toNat = 250 * g + j := by omega
    have next : ¬ (tPar T j = (i : Int) ∧ tCol T j = cc ∧ tPnt T j = pp) → R32 (((250 * g + j : Nat) : Int) + 1) ∧ L_X10_child_12 X d n (zpI (fun v σ' => σ = σ' ∧ ∃ v' : Int, v = mX g v' ∧ Lst (fun j => tPar T j = (i : Int) ∧ tCol T j = cc ∧ tPnt T j = pp) 0 k v')) ((250 * g + i : Nat) : Int) pp cc (g : Int) (((250 * g + j : Nat) : Int) + 1) σ := by
      intro hne
      have := ih σ ⟨rfl, fun j' hj' z => ?_⟩
      · have e : ((250 * g + j : Nat) : Int) + 1 = ((250 * g + (j + 1) : Nat) : Int) := by omega
        rw [e]; exact ⟨⟨by omega, by omega⟩, this⟩
      · by_cases q : j' = j
        · rw [q] at z; exact hne z
        · exact hq j' (by omega) z
    have hNW := hW.2.2.2 j hj
    refine b_X10_child_12 hn ?_
    rw [tg, hk, tK, r1, r2, r3, r4]
    have ep : (if tPar T j < 0 then -1 else 250 * (g : Int) + tPar T j) = ((250 * g + i : Nat) : Int) ↔ tPar T j = (i : Int) := by
      split <;> omega
    refine ⟨by omega, ⟨by omega, by omega⟩, fun q => by omega, fun _ => ⟨by omega, fun q => next (fun z => q (ep.mpr z.1)), fun q => ⟨fun q2 => next (fun z => ?_), fun q2 => ⟨fun q3 => next (fun z => q3 z.2.1), fun q3 => ⟨fun q4 => next (fun z => q4 z.2.2), fun q4 => ⟨rfl, (j : Int), mX_p.symm, Or.inr ⟨j, by omega, hj, ⟨ep.mp q, q3, q4⟩, rfl, fun j' _ h => hq j' h⟩⟩⟩⟩⟩⟩⟩
    have := (hNW.2.2.2.1 q2).1
    have := z.2.1
    omega
  · rcases hW.par (show j < k by omega) with ⟨h1, h2⟩ | ⟨h1, b, h2, h3⟩
    · have := z.1; omega
    · have := z.1; omega
end ZM
