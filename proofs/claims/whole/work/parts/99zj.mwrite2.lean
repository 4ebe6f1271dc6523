/-! ===== the reference writes: along the text ===== -/
theorem cnt_lt_s {P : Nat → Prop} {a b : Nat} (h : a < b) (ha : P a) : cnt P a + 1 ≤ cnt P b := by
  have := cnt_up (P := P) (show a + 1 ≤ b by omega)
  rw [cnt_s ha] at this
  exact this
/-- the child that comes as number j -/
def Chd (T : ATr) (k i : Nat) (j : Nat) (g : Nat) (v : Int) : Prop := (v = -1 ∧ cnt (fun q => tPar T q = (i : Int)) k ≤ j) ∨ ∃ q : Nat, q < k ∧ i < q ∧ v = ((250 * g + q : Nat) : Int) ∧ tPar T q = (i : Int) ∧ cnt (fun q => tPar T q = (i : Int)) q = j
theorem Chd.sev {T : ATr} {k i g : Nat} {v : Int} (h : Chd T k i 1 g v) : (v < 0 ∧ ¬ 1 < wCh T k i) ∨ (¬ v < 0 ∧ 1 < wCh T k i) := by
  have e : wCh T k i = cnt (fun q => tPar T q = (i : Int)) k := rfl
  rcases h with ⟨a, b⟩ | ⟨q, a1, a2, a3, a4, a5⟩
  · exact Or.inl ⟨by omega, by omega⟩
  · have := cnt_lt_s (P := fun q => tPar T q = (i : Int)) a1 a4
    exact Or.inr ⟨by omega, by omega⟩
theorem Chd.lst {T : ATr} {k i l g : Nat} {v : Int} (hl : l < k) (h : Chd T k i (cnt (fun q => tPar T q = (i : Int)) (l + 1)) g v) : ∃ v' : Int, Lst (fun q => tPar T q = (i : Int)) (l + 1) k v' ∧ ((v' = -1 ∧ v < 0) ∨ ∃ q : Nat, v' = (q : Int) ∧ v = ((250 * g + q : Nat) : Int)) := by
  rcases h with ⟨a, b⟩ | ⟨q, a1, a2, a3, a4, a5⟩
  · refine ⟨-1, Or.inl ⟨rfl, fun j h1 h2 h3 => ?_⟩, Or.inl ⟨rfl, by omega⟩⟩
    have x1 := cnt_lt_s (P := fun q => tPar T q = (i : Int)) h2 h3
    have x2 := cnt_up (P := fun q => tPar T q = (i : Int)) h1
    omega
  · refine ⟨q, Or.inr ⟨q, ?_, a1, a4, rfl, fun j h1 h2 h3 => ?_⟩, Or.inr ⟨q, rfl, a3⟩⟩
    · rcases Nat.lt_or_ge q (l + 1) with z | z
      · have := cnt_lt_s (P := fun q => tPar T q = (i : Int)) z a4
        omega
      · exact z
    · have x1 := cnt_lt_s (P := fun q => tPar T q = (i : Int)) h2 h3
      have x2 := cnt_up (P := fun q => tPar T q = (i : Int)) h1
      omega
def PN (σ : ZSto) (T : ATr) : Nat → Nat → Prop
  | 0, _ => True
  | f + 1, i => i = 0 ∨ (gI σ 91 (tPar T i).toNat = (cnt (fun j => tPar T j = tPar T i) (i + 1) : Nat) ∧ PN σ T f (tPar T i).toNat)
theorem PN.kept {σ σ' : ZSto} {m k : Nat} {T : ATr} (hW : TW m k T) : ∀ (f i : Nat), i < k → (∀ j, j < i → gI σ' 91 j = gI σ 91 j) → PN σ T f i → PN σ' T f i := by
  intro f
  induction f with
  | zero => intro i _ _ _; trivial
  | succ f ih =>
    intro i hi h p
    rcases p with e | ⟨a, b⟩
    · exact Or.inl e
    · by_cases z : i = 0
      · exact Or.inl z
      · have := (hW.2.2.2 i hi).2.1 (by omega)
        exact Or.inr ⟨by rw [h _ (by omega)]; exact a, ih _ (by omega) (fun j hj => h j (by omega)) b⟩
def rwE (a i : Nat) : Prop := a = 90 ∨ a = 91 ∨ (a = 73 ∧ i = 31)
section ZRW
variable {X : ZX} {d n : Nat} {σ σ0 : ZSto} {g m k : Nat} {c : Int} {T : ATr}
theorem sm_childOf (hn : 104 ≤ n) (hg : g < 2) (hg2 : gI σ 73 10 = (g : Int)) (hM : MTr σ g m k c T) (hW : TW m k T) {i j : Nat} (hi : i < k) (hj : j ≤ 250) : ZkI X M_X10_childOf (d + 1) n [.ref (zB X + 73), iV ((250 * g + i : Nat) : Int), iV (j : Int)] σ (fun v σ' => σ = σ' ∧ Chd T k i j g v) := by
  have hk := hW.2.2.1
  have tg : ((g : Int)).toNat = g := by omega
  have key : ∀ r q, q + r = k → i < q → cnt (fun q => tPar T q = (i : Int)) q ≤ j → L_X10_childOf_7 X d n (zpI (fun v σ' => σ = σ' ∧ Chd T k i j g v)) ((250 * g + i : Nat) : Int) (j : Int) ((cnt (fun q => tPar T q = (i : Int)) q : Nat) : Int) ((250 * g + q : Nat) : Int) σ := by
    intro r
    induction r with
    | zero =>
      intro q hq h1 h2
      have : q = k := by omega
      subst this
      refine b_X10_childOf_7 hn ?_
      rw [hg2, tg, hM.2.2.1]
      exact ⟨⟨by omega, by omega⟩, ⟨by omega, by omega⟩, fun _ => ⟨rfl, Or.inl ⟨rfl, h2⟩⟩, fun z => by omega⟩
    | succ r ih =>
      intro q hq h1 h2
      have hqk : q < k := by omega
      have tq : (((250 * g + q : Nat) : Int)).toNat = 250 * g + q := by omega
      obtain ⟨c1, _⟩ := hM.2.2.2 q hqk
      refine b_X10_childOf_7 hn ?_
      rw [hg2, tg, hM.2.2.1, tq, c1]
      have hle := cnt_le (fun q => tPar T q = (i : Int)) q
      refine ⟨⟨by omega, by omega⟩, ⟨by omega, by omega⟩, fun z => by omega, fun _ => ⟨⟨by omega, by omega⟩, fun y => ?_, fun y => ⟨⟨by omega, by omega⟩, ?_⟩⟩⟩
      · have hp : tPar T q = (i : Int) := by
          by_cases z : tPar T q < 0
          · rw [if_pos z] at y; omega
          · rw [if_neg z] at y; omega
        refine ⟨fun z => ⟨⟨by omega, by omega⟩, ⟨by omega, by omega⟩, ?_⟩, fun z => ⟨rfl, Or.inr ⟨q, hqk, h1, rfl, hp, by omega⟩⟩⟩
        have := ih (q + 1) (by omega) (by omega) (by rw [cnt_s (P := fun q => tPar T q = (i : Int)) hp]; omega)
        rw [cnt_s (P := fun q => tPar T q = (i : Int)) hp] at this
        exact_mod_cast this
      · have hp : ¬ tPar T q = (i : Int) := by
          intro z
          rw [if_neg (by omega)] at y
          omega
        have := ih (q + 1) (by omega) (by omega) (by rw [cnt_n (P := fun q => tPar T q = (i : Int)) hp]; exact h2)
        rw [cnt_n (P := fun q => tPar T q = (i : Int)) hp] at this
        exact_mod_cast this
  have z0 : cnt (fun q => tPar T q = (i : Int)) (i + 1) = 0 := cnt_0 (fun q hq e => by
    have := hW.fst q (by omega) i e
    omega)
  refine w_X10_childOf hn ⟨by omega, by omega⟩ ⟨by omega, by omega⟩ ⟨⟨by omega, by omega⟩, ?_⟩
  have := key (k - (i + 1)) (i + 1) (by omega) (by omega) (by omega)
  rw [z0] at this
  exact_mod_cast this
theorem mw_loop {P : Int → ZSto → Prop} (hn : 104 ≤ n) (hPo : ∀ σ', RW σ' (wF m c T k) → Fr rwE σ0 σ' → P ((wF m c T k).length : Int) σ') (hg : g < 2) (hg2 : gI σ0 73 10 = (g : Int)) (hm : gI σ0 73 13 = (m : Int)) (hM : MTr σ0 g m k c T) (hW : TW m k T) (hc0 : -200 ≤ c) (hc1 : c ≤ 200) (hF : (wF m c T k).length ≤ 4096) :
    ∀ (w i l : Nat) (acc : List Int) (τ : ZSto), i < k → i ≤ l → l < k → 2 * c59 (wF m c T k) + (tDep T i).toNat < 2 * c59 acc + w → RW τ acc → Fr rwE σ0 τ → gI τ 91 i = (cnt (fun j => tPar T j = (i : Int)) (l + 1) : Nat) → (∀ f, PN τ T f i) → acc ++ (wKd T k (wS m c T k) i (k - (l + 1)) ++ wA m c T k i) = wF m c T k →
      L_X10_write_45 X (d + 3) n (zpI P) ((250 * g + i : Nat) : Int) τ := by
  have hk := hW.2.2.1
  have hle : ∀ a b : List Int, a ++ b = wF m c T k → a.length + b.length ≤ 4096 := fun a b e => by rw [← e, List.length_append] at hF; exact hF
  have keepM : ∀ τ : ZSto, Fr rwE σ0 τ → MTr τ g m k c T := fun τ hf => hM.kept hk hf (fun a i y => by unfold mtrD at y; unfold rwE; omega)
  have k10 : ∀ τ : ZSto, Fr rwE σ0 τ → gI τ 73 10 = (g : Int) := fun τ hf => by rw [hf.I (by unfold rwE; omega)]; exact hg2
  have k13 : ∀ τ : ZSto, Fr rwE σ0 τ → gI τ 73 13 = (m : Int) := fun τ hf => by rw [hf.I (by unfold rwE; omega)]; exact hm
  intro w
  induction w with
  | zero =>
    intro i l acc τ _ _ _ hw _ _ _ _ e
    exfalso
    rw [← e, c59_a] at hw
    omega
  | succ w ih =>
    intro i l acc τ hi hil hl hw hR hf h91 hPN e
    have hM' := keepM τ hf
    have e10 := k10 τ hf
    have tx : (((250 * g + i : Nat) : Int)).toNat = 250 * g + i := by omega
    have ti : (((250 * g + i : Nat) : Int) - 250 * (g : Int)).toNat = i := by omega
    have hcl := cnt_le (fun j => tPar T j = (i : Int)) (l + 1)
    obtain ⟨c1, _⟩ := hM'.2.2.2 i hi
    have hd0 := (hW.2.2.2 i hi).2.2.2.2.2.2.2.2.2.2.2.2.2.2.1
    -- behind the question whether there are several
    have main : ∀ sv : Int, ((sv = 0 ∧ ¬ 1 < wCh T k i) ∨ (sv = 1 ∧ 1 < wCh T k i)) → L_X10_write_79 X (d + 3) n (zpI P) ((250 * g + i : Nat) : Int) ((cnt (fun j => tPar T j = (i : Int)) (l + 1) : Nat) : Int) sv τ := by
      intro sv hsv
      refine b_X10_write_79 hn ((sm_childOf (d := d + 2) hn hg e10 hM' hW hi (by omega)).mono ?_)
      rintro v _ - ⟨rfl, hch⟩
      obtain ⟨v', hL, hv⟩ := hch.lst hl
      have hQ := wKd_L (S := wS m c T k) (show l + 1 ≤ k by omega) hL
      rw [e10, ti, tx, c1, h91]
      refine ⟨fun y => ?_, fun y => ?_⟩
      · -- down to the child
        have hq : ∃ q : Nat, v = ((250 * g + q : Nat) : Int) ∧ l + 1 ≤ q ∧ q < k ∧ tPar T q = (i : Int) ∧ (∀ j, l + 1 ≤ j → j < q → ¬ tPar T j = (i : Int)) ∧ wKd T k (wS m c T k) i (k - (l + 1)) = wBr T k i (wS m c T k q) ++ wKd T k (wS m c T k) i (k - (q + 1)) := by
          rcases hv with ⟨a, b⟩ | ⟨q, a, b⟩
          · omega
          · rcases hQ with ⟨z, _⟩ | ⟨q', z1, z2, z3, z4, z5, z6⟩
            · omega
            · have : q' = q := by omega
              subst this
              exact ⟨q', b, z1, z2, z4, z5, z6⟩
        obtain ⟨q, rfl, q1, q2, q3, q4, q5⟩ := hq
        have hK := wKd_A (m := m) (c := c) hW q2 q3
        rw [q5, List.append_assoc, hK, wS_eq hW.fst q2] at e
        have tq : (((250 * g + q : Nat) : Int) - 250 * (g : Int)).toNat = q := by omega
        have hnd : 1 ≤ c59 (wNd m c T q) := by
          unfold wNd
          rw [c59_a]
          show 1 ≤ 1 + _
          omega
        have hdq := hW.dep q q2 i q3
        have ecq : cnt (fun j => tPar T j = (i : Int)) (q + 1) = cnt (fun j => tPar T j = (i : Int)) (l + 1) + 1 := by
          rw [cnt_s (P := fun j => tPar T j = (i : Int)) q3, cnt_ext (P := fun j => tPar T j = (i : Int)) q1 (fun j j1 j2 => q4 j j1 j2)]
        have ecq0 : cnt (fun j => tPar T j = (q : Int)) (q + 1) = 0 := cnt_0 (fun j hj ee => by
          have := hW.fst j (by omega) q ee
          omega)
        -- the store with the count gone up
        have f1 : Fr rwE σ0 (sI τ 91 i (((cnt (fun j => tPar T j = (i : Int)) (l + 1) : Nat) : Int) + 1)) := hf.sI (Or.inr (Or.inl rfl))
        have R1 : RW (sI τ 91 i (((cnt (fun j => tPar T j = (i : Int)) (l + 1) : Nat) : Int) + 1)) acc := ⟨by rw [gI_c (by omega)]; exact hR.1, fun j hj => by rw [gI_c (by omega)]; exact hR.2 j hj⟩
        have down : ∀ (acc2 : List Int) (σ2 : ZSto), RWo (sI τ 91 i (((cnt (fun j => tPar T j = (i : Int)) (l + 1) : Nat) : Int) + 1)) acc2 σ2 → c59 acc < c59 acc2 → acc2 ++ (wKd T k (wS m c T k) q k ++ wA m c T k q) = wF m c T k → (0 ≤ ((250 * g + q : Nat) : Int) - 250 * gI σ2 73 10 ∧ ((250 * g + q : Nat) : Int) - 250 * gI σ2 73 10 < 250) ∧ L_X10_write_45 X (d + 3) n (zpI P) ((250 * g + q : Nat) : Int) (sI σ2 91 ((((250 * g + q : Nat) : Int) - 250 * gI σ2 73 10).toNat) 0) := by
          intro acc2 σ2 h2 h59 e2
          have f2 : Fr rwE σ0 σ2 := f1.tr (h2.2.mono (fun a j z => by unfold rwD at z; unfold rwE; omega))
          rw [k10 σ2 f2, tq]
          have e91 : ∀ j, j ≠ q → gI (sI σ2 91 q 0) 91 j = if j = i then ((cnt (fun j => tPar T j = (i : Int)) (q + 1) : Nat) : Int) else gI τ 91 j := by
            intro j hj
            rw [gI_f hj, h2.2.I (by unfold rwD; omega)]
            by_cases z : j = i
            · subst z
              rw [gI_same, if_pos rfl, ecq]
              omega
            · rw [gI_f z, if_neg z]
          refine ⟨⟨by omega, by omega⟩, ih q q acc2 _ q2 (Nat.le_refl q) q2 (by omega) ⟨by rw [gI_c (by omega)]; exact h2.1.1, fun j hj => by rw [gI_c (by omega)]; exact h2.1.2 j hj⟩ (f2.sI (Or.inr (Or.inl rfl))) (by rw [gI_same, ecq0]; rfl) (fun f => ?_) ?_⟩
          · cases f with
            | zero => trivial
            | succ f =>
              refine Or.inr ⟨?_, ?_⟩
              · rw [q3, show ((i : Int)).toNat = i by omega, e91 i (by omega), if_pos rfl]
              · rw [q3, show ((i : Int)).toNat = i by omega]
                refine PN.kept hW f i hi (fun j hj => ?_) (hPN f)
                rw [e91 j (by omega), if_neg (by omega)]
          · have z0 := (wKd_skip (S := wS m c T k) hW q2).symm
            rw [z0]
            exact e2
        refine ⟨⟨by omega, by omega⟩, ⟨by omega, by omega⟩, fun z => ?_, fun z => ?_⟩
        · have hs : ¬ 1 < wCh T k i := by
            rcases hsv with ⟨_, b⟩ | ⟨a, _⟩
            · exact b
            · omega
          rw [if_neg hs] at e
          have e' : acc ++ wNd m c T q ++ (wKd T k (wS m c T k) q k ++ wA m c T k q) = wF m c T k := by rw [← e]; simp
          have hl2 := hle _ _ e'
          rw [List.length_append] at hl2
          exact rw_node hn hg (k10 _ f1) (k13 _ f1) (keepM _ f1) hW hc0 hc1 q2 ⟨R1, Fr.rf⟩ (by omega) (fun σ2 h2 => down _ σ2 h2 (by rw [c59_a]; omega) e')
        · have hs : 1 < wCh T k i := by
            rcases hsv with ⟨a, _⟩ | ⟨_, b⟩
            · exact absurd a z
            · exact b
          rw [if_pos hs] at e
          have e' : acc ++ [40] ++ wNd m c T q ++ (wKd T k (wS m c T k) q k ++ wA m c T k q) = wF m c T k := by rw [← e]; simp
          have hl2 := hle _ _ e'
          rw [List.length_append, List.length_append] at hl2
          simp only [List.length_cons, List.length_nil] at hl2
          refine rw_add hn (σ0 := sI τ 91 i (((cnt (fun j => tPar T j = (i : Int)) (l + 1) : Nat) : Int) + 1)) ⟨R1, Fr.rf⟩ (by omega) (r32c rfl) (fun σ1 h1 => ?_)
          exact rw_node hn hg (k10 _ f1) (k13 _ f1) (keepM _ f1) hW hc0 hc1 q2 h1 (by simp; omega) (fun σ2 h2 => down _ σ2 h2 (by rw [c59_a, c59_a]; omega) e')
      · -- up to the parent
        have e0 : wKd T k (wS m c T k) i (k - (l + 1)) = [] := by
          rcases hv with ⟨a, b⟩ | ⟨q, a, b⟩
          · rcases hQ with ⟨_, z⟩ | ⟨q', z1, z2, z3, _⟩
            · exact z
            · omega
          · omega
        rw [e0, List.nil_append] at e
        clear hQ hv
        refine ⟨⟨by omega, by omega⟩, fun y2 => ?_, fun y2 => ?_⟩
        · have hi0 : i = 0 := by
            rcases Nat.eq_zero_or_pos i with z | z
            · exact z
            · have := (hW.2.2.2 i hi).2.1 z
              rw [if_neg (by omega)] at y2
              omega
          rw [hi0, wA_0 (by omega)] at e
          have hl2 := hle _ _ e
          simp only [List.length_cons, List.length_nil] at hl2
          refine rw_add hn (σ0 := τ) ⟨hR, Fr.rf⟩ (by omega) (r32c rfl) (fun σ1 h1 => ?_)
          intro y51 ey
          have f1 : Fr rwE σ0 σ1 := hf.tr (h1.2.mono (fun a j z => by unfold rwD at z; unfold rwE; omega))
          rw [h1.2.I (by unfold rwD; omega), c1] at ey
          rw [e] at h1
          exact b_X10_write_45 hn ⟨fun _ => by rw [h1.1.1]; exact hPo _ h1.1 f1, fun z => absurd (by rw [ey]; exact y2) z⟩
        · have hi0 : 0 < i := by
            rcases Nat.eq_zero_or_pos i with z | z
            · exfalso
              rw [if_pos (by rw [(hW.2.2.2 i hi).1 z]; decide)] at y2
              omega
            · exact z
          have hp0 := (hW.2.2.2 i hi).2.1 hi0
          obtain ⟨p, ep⟩ : ∃ p : Nat, tPar T i = (p : Int) := ⟨(tPar T i).toNat, by omega⟩
          have hpi : p < i := by omega
          have hpk : p < k := by omega
          have tp : ((p : Int)).toNat = p := by omega
          have ev : (if tPar T i < 0 then (-1 : Int) else 250 * (g : Int) + tPar T i) = ((250 * g + p : Nat) : Int) := by
            rw [if_neg (by omega), ep]; omega
          rw [ev]
          have hA := wA_s (m := m) (c := c) hW hi0 hi
          rw [ep, tp] at hA
          rw [hA] at e
          have hdp := hW.dep i hi p ep
          have hdp0 := (hW.2.2.2 p hpk).2.2.2.2.2.2.2.2.2.2.2.2.2.2.1
          have up : ∀ (acc2 : List Int) (σ2 : ZSto) (y : Int), RWo τ acc2 σ2 → c59 acc2 = c59 acc → y = gI σ2 74 (250 * g + i) → acc2 ++ (wKd T k (wS m c T k) p (k - (i + 1)) ++ wA m c T k p) = wF m c T k → L_X10_write_45 X (d + 3) n (zpI P) y σ2 := by
            intro acc2 σ2 y h2 h59 ey e2
            have f2 : Fr rwE σ0 σ2 := hf.tr (h2.2.mono (fun a j z => by unfold rwD at z; unfold rwE; omega))
            rw [h2.2.I (by unfold rwD; omega), c1, ev] at ey
            subst ey
            have h1 := hPN 1
            rcases h1 with z | ⟨z, _⟩
            · omega
            rw [ep, tp] at z
            refine ih p i acc2 σ2 hpk (by omega) hi (by omega) h2.1 f2 (by rw [h2.2.I (by unfold rwD; omega)]; exact z) (fun f => ?_) e2
            have hq := hPN (f + 1)
            rcases hq with z2 | ⟨_, z2⟩
            · omega
            rw [ep, tp] at z2
            exact PN.kept hW f p hpk (fun j _ => by rw [h2.2.I (by unfold rwD; omega)]) z2
          refine (sm_childOf (d := d + 2) (j := 1) hn hg e10 hM' hW hpk (by omega)).mono ?_
          rintro v2 _ - ⟨rfl, hch2⟩
          refine ⟨fun z => fun y64 ey => ?_, fun z => ?_⟩
          · have hs : ¬ 1 < wCh T k p := by
              rcases hch2.sev with ⟨_, b⟩ | ⟨a, _⟩
              · exact b
              · exact absurd z a
            rw [if_neg hs, List.nil_append] at e
            exact up acc _ y64 ⟨hR, Fr.rf⟩ rfl ey e
          · have hs : 1 < wCh T k p := by
              rcases hch2.sev with ⟨a, _⟩ | ⟨_, b⟩
              · exact absurd a z
              · exact b
            rw [if_pos hs] at e
            have hl2 := hle _ _ e
            rw [List.length_append] at hl2
            simp only [List.length_cons, List.length_nil] at hl2
            refine rw_add hn ⟨hR, Fr.rf⟩ (by omega) (r32c rfl) (fun σ1 h1 => ?_)
            intro y74 ey
            exact up _ σ1 y74 h1 (by rw [c59_a]; rfl) ey (by rw [List.append_assoc]; exact e)
    refine b_X10_write_45 hn ⟨fun z => by omega, fun _ => ?_⟩
    rw [e10, ti]
    refine ⟨⟨by omega, by omega⟩, fun y7 ey => ?_⟩
    rw [h91] at ey
    subst ey
    refine (sm_childOf (d := d + 2) (j := 1) hn hg e10 hM' hW hi (by omega)).mono ?_
    rintro v _ - ⟨rfl, hch⟩
    rcases hch.sev with ⟨a, b⟩ | ⟨a, b⟩
    · exact ⟨fun _ => main 0 (Or.inl ⟨rfl, b⟩), fun z => absurd a z⟩
    · exact ⟨fun z => absurd z a, fun _ => main 1 (Or.inr ⟨rfl, b⟩)⟩
theorem sm_write (hn : 104 ≤ n) (hg : g < 2) (hg2 : gI σ 73 10 = (g : Int)) (hM : MTr σ g m k c T) (hW : TW m k T) (hk0 : 0 < k) (hc0 : -200 ≤ c) (hc1 : c ≤ 200) (hF : (wF m c T k).length ≤ 4096) :
    ZkI X M_X10_write (d + 4) n [.ref (zB X + 73)] σ (fun v σ' => v = ((wF m c T k).length : Int) ∧ RW σ' (wF m c T k) ∧ Fr (fun a i => rwE a i ∨ (a = 73 ∧ i = 13)) σ σ') := by
  have hk := hW.2.2.1
  have tg : ((g : Int)).toNat = g := by omega
  refine w_X10_write hn ?_
  rw [hg2, tg, hM.1]
  refine ⟨⟨by omega, by omega⟩, fun y5 ey => ?_⟩
  have ey : y5 = ((250 * g + 0 : Nat) : Int) := by omega
  subst ey
  obtain ⟨σb, eb⟩ : ∃ τ, τ = sI (sI σ 73 13 (m : Int)) 73 31 0 := ⟨_, rfl⟩
  rw [← eb]
  have fb : Fr (fun a i => rwE a i ∨ (a = 73 ∧ i = 13)) σ σb := by
    rw [eb]
    exact (Fr.rf.sI (Or.inr ⟨rfl, rfl⟩)).sI (Or.inl (Or.inr (Or.inr ⟨rfl, rfl⟩)))
  have Rb : RW σb [] := ⟨by rw [eb, gI_same]; rfl, fun j hj => by simp at hj⟩
  have b10 : gI σb 73 10 = (g : Int) := by rw [eb, gI_f (by omega), gI_f (by omega)]; exact hg2
  have b13 : gI σb 73 13 = (m : Int) := by rw [eb, gI_f (by omega), gI_same]
  have bM : MTr σb g m k c T := hM.kept hk fb (fun a i y => by unfold mtrD at y; unfold rwE; omega)
  have eF : [40] ++ wNd m c T 0 ++ (wKd T k (wS m c T k) 0 k ++ wA m c T k 0) = wF m c T k := by
    unfold wF
    rw [wS_eq hW.fst hk0, wA_0 hk0]
    simp
  have hl : ([40] ++ wNd m c T 0).length ≤ 4096 := by
    rw [← eF, List.length_append] at hF
    omega
  rw [List.length_append] at hl
  simp only [List.length_cons, List.length_nil] at hl
  refine rw_add hn (σ0 := σb) ⟨Rb, Fr.rf⟩ (by simp) (r32c rfl) (fun σ1 h1 => ?_)
  refine rw_node hn hg b10 b13 bM hW hc0 hc1 hk0 h1 (by simp; omega) (fun σ2 h2 => ⟨⟨by omega, by omega⟩, ?_⟩)
  have f2 : Fr rwE σb σ2 := h2.2.mono (fun a j z => by unfold rwD at z; unfold rwE; omega)
  have z1 : cnt (fun j => tPar T j = ((0 : Nat) : Int)) (0 + 1) = 0 := cnt_0 (fun j hj ee => by
    have := hW.fst j (by omega) 0 ee
    omega)
  exact mw_loop (d := d) hn (fun σ' h6 h7 => ⟨rfl, h6, fb.tr (h7.mono (fun a j z => Or.inl z))⟩) hg b10 b13 bM hW hc0 hc1 hF (2 * c59 (wF m c T k) + (tDep T 0).toNat + 1) 0 0 ([] ++ [40] ++ wNd m c T 0) (sI σ2 91 0 0) hk0 (Nat.le_refl 0) hk0 (by omega) ⟨by rw [gI_c (by omega)]; exact h2.1.1, fun j hj => by rw [gI_c (by omega)]; exact h2.1.2 j hj⟩ (f2.sI (Or.inr (Or.inl rfl))) (by rw [gI_same, z1]; rfl) (fun f => by cases f with | zero => trivial | succ f => exact Or.inl rfl) (by rw [← wKd_skip hW hk0]; exact eF)
end ZRW
