/-! ===== put, on both sides ===== -/
section ZP
variable {X : ZX} {d n : Nat} {σ : ZSto}
/-- the class -/
theorem put_loop (hn : 73 ≤ n) {o m p : Nat} {c : Int} (ho : zIsB o) {b1 : Nat → Int} {P : Int → ZSto → Prop} {σ0 : ZSto} {g0 : Int} (hm3 : 3 ≤ m) (hm9 : m ≤ 9) (hc : c = 1 ∨ c = 2) (hp : p < m * m) (hg0 : 0 ≤ g0 ∧ g0 < 1999999000)
    (hP : ∀ σ : ZSto, Fr (fun a i => brdW o a) σ0 σ → BOk σ o m (offB b1 (remD m b1 (3 - c) (nbC m p) 4)) → gI σ o 12 = (cnt (remD m b1 (3 - c) (nbC m p) 4) (m * m) : Nat) → gI σ o 10 ≤ g0 + 4 → ZkV X M_X0_gather (d + 2) n [.ref (zB X + o), iV (p : Int), iV (shlI 1 c)] σ (fun σ5 => ZkI X M_X0_liberties (d + 2) n [.ref (zB X + o)] σ5 (fun v9 σ10 => (v9 ≤ 0 → P 0 σ10) ∧ (¬ (v9 ≤ 0) → P 1 σ10)))) :
    ∀ (w : Nat) (σ : ZSto) (j : Nat), 4 - j ≤ w → j ≤ 4 → Fr (fun a i => brdW o a) σ0 σ → BOk σ o m (offB b1 (remD m b1 (3 - c) (nbC m p) j)) → gI σ o 12 = (cnt (remD m b1 (3 - c) (nbC m p) j) (m * m) : Nat) → gI σ o 10 ≤ g0 + j → L_X0_put_35 X (d + 2) n (zpZ P) o (p : Int) c (3 - c) (j : Int) σ := by
  have hN := sq_le hm9
  have hoc : (3 - c : Int) ≠ 0 := by omega
  intro w
  induction w with
  | zero =>
    intro σ j hw hj hf hB ht hg
    have : j = 4 := by omega
    subst this
    exact b_X0_put_35 hn ho ⟨fun _ => hP σ hf hB ht (by omega), fun q => by omega⟩
  | succ w ih =>
    intro σ j hw hj hf hB ht hg
    by_cases e : j = 4
    · subst e
      exact b_X0_put_35 hn ho ⟨fun _ => hP σ hf hB ht (by omega), fun q => by omega⟩
    · refine b_X0_put_35 hn ho ⟨fun q => by omega, fun _ => ?_⟩
      have hj1 : R32 ((j : Int) + 1) := ⟨by omega, by omega⟩
      have skip : ∀ σ' : ZSto, Fr (fun a i => brdW o a) σ σ' → BOk σ' o m (offB b1 (remD m b1 (3 - c) (nbC m p) j)) → gI σ' o 12 = gI σ o 12 → gI σ' o 10 ≤ g0 + (j + 1 : Nat) → (∀ b : Nat, nbC m p j = (b : Int) → offB b1 (remD m b1 (3 - c) (nbC m p) j) b = 3 - c → ∃ x, Lib m (offB b1 (remD m b1 (3 - c) (nbC m p) j)) b x) → L_X0_put_35 X (d + 2) n (zpZ P) o (p : Int) c (3 - c) ((j : Int) + 1) σ' := by
        intro σ' hf' hB' ht' hg' hs
        have es := remD_skip hoc hs
        have := ih σ' (j + 1) (by omega) (by omega) (hf.tr hf') (by rw [es]; exact hB') (by rw [es, ht', ht]) hg'
        simpa using this
      refine (sp_neighbour hn ho hB.1 hp (show j < 4 by omega)).mono ?_
      rintro v _ - ⟨rfl, hv⟩
      rcases nbC_in (show 2 ≤ m by omega) hp (show j < 4 by omega) with hneg | ⟨b, hbN, hb⟩
      · rw [hneg] at hv
        subst hv
        refine (sp_contentOf hn ho hB.1 hB.2.2.1 (r32c rfl)).mono ?_
        rintro v2 _ - ⟨rfl, hv2⟩
        rw [if_neg (by omega)] at hv2
        exact ⟨fun _ => ⟨hj1, skip σ Fr.rf hB rfl (by omega) (fun b hb => by omega)⟩, fun q => by omega⟩
      · rw [hb] at hv
        subst hv
        refine (sp_contentAt hn ho hB.1 hB.2.2.1 hbN).mono ?_
        rintro v2 _ - ⟨rfl, hv2⟩
        have uniq : ∀ b' : Nat, nbC m p j = (b' : Int) → b' = b := fun b' h => by omega
        refine ⟨fun q => ⟨hj1, skip σ Fr.rf hB rfl (by omega) (fun b' hb' hz => ?_)⟩, fun q => ?_⟩
        · rw [uniq b' hb'] at hz; exact absurd (hv2.trans hz) q
        · have hbc : offB b1 (remD m b1 (3 - c) (nbC m p) j) b = 3 - c := by rw [← hv2]; exact q
          refine (sp_gatherC hn ho hB hbN hbc (by omega)).mono ?_
          intro σ1 hG
          have ht1 : gI σ1 o 12 = gI σ o 12 := hG.1.I (by unfold gatW; omega)
          have hcn := cnt_le (remD m b1 (3 - c) (nbC m p) j) (m * m)
          refine (sp_takeIfStifled hn ho hB hG hbN (by rw [hbc]; exact hoc) (by rw [ht1, ht]; omega)).mono ?_
          rintro σ2 (⟨hx, rfl⟩ | ⟨hx, hf2, hB2, ht2⟩)
          · refine ⟨hj1, skip σ1 (hG.1.mono (fun a i q => gat_brd q)) (hG.ok hB) ht1 (by rw [hG.2.1]; omega) (fun b' hb' _ => ?_)⟩
            rw [uniq b' hb']; exact hx
          · refine ⟨hj1, ?_⟩
            obtain ⟨k1, k2⟩ := remD_take hoc hb hbc hx
            have eD : offB (offB b1 (remD m b1 (3 - c) (nbC m p) j)) (Chn m (offB b1 (remD m b1 (3 - c) (nbC m p) j)) b) = offB b1 (remD m b1 (3 - c) (nbC m p) (j + 1)) := by
              funext q
              by_cases z1 : remD m b1 (3 - c) (nbC m p) j q
              · rw [offB_p ((k1 q).mpr (Or.inl z1))]
                by_cases z2 : Chn m (offB b1 (remD m b1 (3 - c) (nbC m p) j)) b q
                · rw [offB_p z2]
                · rw [offB_n z2, offB_p z1]
              · by_cases z2 : Chn m (offB b1 (remD m b1 (3 - c) (nbC m p) j)) b q
                · rw [offB_p z2, offB_p ((k1 q).mpr (Or.inr z2))]
                · rw [offB_n z2, offB_n z1, offB_n (fun z => ((k1 q).mp z).elim z1 z2)]
            have hf12 : Fr (fun a i => brdW o a) σ σ2 := (hG.1.mono (fun a i q => gat_brd q)).tr (hf2.mono (fun a i q => by unfold brdW; omega))
            have := ih σ2 (j + 1) (by omega) (by omega) (hf.tr hf12) (by rw [← eD]; exact hB2) ?_ (by rw [hf2.I (by omega), hG.2.1]; omega)
            · simpa using this
            · rw [ht2, ht1, ht, cnt_congr (fun i _ => k1 i), cnt_or (fun i _ => k2 i)]
              simp
theorem sp_put (hn : 73 ≤ n) {o m p : Nat} {c : Int} (ho : zIsB o) {bd : Nat → Int} (hB : BOk σ o m bd) (hc : c = 1 ∨ c = 2) (hp : p < m * m) (hg0 : gI σ o 10 < 1999999000) :
    ZkZ X M_X0_put (d + 3) n [.ref (zB X + o), iV (p : Int), iV c] σ (fun v σ' => Fr (fun a i => brdW o a) σ σ' ∧ BOk σ' o m (putB m bd p c) ∧ gI σ' o 12 = (cnt (Dies m bd p c) (m * m) : Nat) ∧ gI σ' o 10 ≤ gI σ o 10 + 5 ∧ ((v = 1 ∧ ∃ x, Lib m (putB m bd p c) p x) ∨ (v = 0 ∧ ∀ x, ¬ Lib m (putB m bd p c) p x))) := by
  have hN := sq_le hB.1.2.1
  refine w_X0_put hn ho ⟨by omega, by omega⟩ ⟨by omega, by omega⟩ ?_
  rw [hB.1.2.2.2.1]
  refine ⟨fun q => by omega, fun _ => ⟨fun _ => (sp_otherColour hn hc).mono ?_, fun q => by omega⟩⟩
  rintro v _ - ⟨rfl, rfl⟩
  have tp : ((p : Int)).toNat = p := by omega
  rw [tp, w8_small (by omega) (by omega)]
  refine ⟨by omega, ?_⟩
  have eD := remD_C (m := m) (bd := bd) (p := p) (c := c) (by have := hB.1.1; omega) hp
  have := put_loop (X := X) (d := d) (σ0 := σ) (b1 := setB bd p c) (c := c) hn ho (P := fun v σ' => Fr (fun a i => brdW o a) σ σ' ∧ BOk σ' o m (putB m bd p c) ∧ gI σ' o 12 = (cnt (Dies m bd p c) (m * m) : Nat) ∧ gI σ' o 10 ≤ gI σ o 10 + 5 ∧ ((v = 1 ∧ ∃ x, Lib m (putB m bd p c) p x) ∨ (v = 0 ∧ ∀ x, ¬ Lib m (putB m bd p c) p x))) hB.1.1 hB.1.2.1 hc hp ⟨hB.2.2.2.1, hg0⟩ ?_ 4 (sI (sI σ (o + 1) p c) o 12 0) 0 (by omega) (by omega) ((Fr.rf.sI (by unfold brdW; omega)).sI (by unfold brdW; omega)) ?_ ?_ ?_
  · simpa using this
  · intro σ1 hf hB1 ht hg
    rw [eD] at hB1 ht
    have hB1 : BOk σ1 o m (putB m bd p c) := hB1
    have hpc : putB m bd p c p = c := putB_p hc
    refine (sp_gatherC hn ho hB1 hp hpc (by omega)).mono ?_
    intro σ2 hG
    refine (sp_liberties hn ho).mono ?_
    rintro v _ - ⟨rfl, hv⟩
    rw [hG.libs (by omega)] at hv
    have hf2 : Fr (fun a i => brdW o a) σ σ2 := hf.tr (hG.1.mono (fun a i q => gat_brd q))
    have base : ∀ v' : Int, ((v' = 1 ∧ ∃ x, Lib m (putB m bd p c) p x) ∨ (v' = 0 ∧ ∀ x, ¬ Lib m (putB m bd p c) p x)) → Fr (fun a i => brdW o a) σ σ2 ∧ BOk σ2 o m (putB m bd p c) ∧ gI σ2 o 12 = (cnt (Dies m bd p c) (m * m) : Nat) ∧ gI σ2 o 10 ≤ gI σ o 10 + 5 ∧ ((v' = 1 ∧ ∃ x, Lib m (putB m bd p c) p x) ∨ (v' = 0 ∧ ∀ x, ¬ Lib m (putB m bd p c) p x)) := fun v' hv' => ⟨hf2, hG.ok hB1, by rw [hG.1.I (by unfold gatW; omega)]; exact ht, by rw [hG.2.1]; omega, hv'⟩
    refine ⟨fun q => base 0 (Or.inr ⟨rfl, fun x hx => ?_⟩), fun q => base 1 (Or.inl ⟨rfl, ?_⟩)⟩
    · have hx2 : x < m * m := by obtain ⟨-, a, -, h3⟩ := hx; exact h3.2.1
      exact cnt_0' (by omega) x hx2 hx
    · have : ¬ cnt (Lib m (putB m bd p c) p) (m * m) = 0 := by omega
      exact Classical.byContradiction (fun z => this (cnt_0 (fun i _ hi => z ⟨i, hi⟩)))
  · obtain ⟨⟨a1, a2, a3, a4, a5⟩, hcn, hst, hm1, hm2⟩ := hB
    have e : ∀ a i, a ≠ o + 1 → ¬ (a = o ∧ i = 12) → gI (sI (sI σ (o + 1) p c) o 12 0) a i = gI σ a i := by
      intro a i z1 z2
      rw [gI_if, if_neg z2, gI_c z1]
    refine ⟨⟨a1, a2, by rw [e o 7 (by omega) (by omega)]; exact a3, by rw [e o 8 (by omega) (by omega)]; exact a4, fun q hq dd hd => by rw [e (o + 2) _ (by omega) (by omega)]; exact a5 q hq dd hd⟩, offB_con (setB_con hcn hc), fun q hq => ?_, by rw [e o 10 (by omega) (by omega)]; exact hm1, fun q => by rw [e o 10 (by omega) (by omega), e (o + 4) q (by omega) (by omega), e (o + 5) q (by omega) (by omega)]; exact hm2 q⟩
    rw [offB_n remD_0, gI_c (by omega)]
    by_cases z : q = p
    · subst z; rw [gI_same, setB_eq]
    · rw [gI_f z, setB_ne z]; exact hst q hq
  · rw [cnt_0 (fun i _ => remD_0)]; simp [gI_if]
  · rw [gI_f (by omega), gI_c (by omega)]; omega
/-! the reference -/
def putW (a i : Nat) : Prop := a = 84 ∨ a = 85 ∨ a = 86 ∨ a = 87 ∨ (a = 73 ∧ i = 18)
/-- takes() behind a flood -/
theorem takes_loop (hn : 104 ≤ n) {P : Int → ZSto → Prop} {σ0 : ZSto} {D : Nat → Prop} (hD : ∀ q, q < 81 → (gI σ0 85 q = 1 ↔ D q)) (hb : ∀ q, q < 81 → gI σ0 85 q = 0 ∨ gI σ0 85 q = 1)
    (hP : ∀ σ : ZSto, Fr (fun a i => a = 84) σ0 σ → (∀ q, q < 81 → (D q → gI σ 84 q = 0) ∧ (¬ D q → gI σ 84 q = gI σ0 84 q)) → P (cnt D 81 : Nat) σ) :
    ∀ (w : Nat) (σ : ZSto) (i : Nat), 81 - i ≤ w → i ≤ 81 → Fr (fun a i => a = 84) σ0 σ → (∀ q, q < i → (D q → gI σ 84 q = 0) ∧ (¬ D q → gI σ 84 q = gI σ0 84 q)) → (∀ q, i ≤ q → gI σ 84 q = gI σ0 84 q) → L_X10_takes_4 X d n (zpI P) (cnt D i : Nat) (i : Int) σ := by
  intro w
  induction w with
  | zero =>
    intro σ i hw hi hf h1 h2
    have : i = 81 := by omega
    subst this
    exact b_X10_takes_4 hn ⟨fun _ => hP σ hf h1, fun q => by omega⟩
  | succ w ih =>
    intro σ i hw hi hf h1 h2
    by_cases e : i = 81
    · subst e
      exact b_X10_takes_4 hn ⟨fun _ => hP σ hf h1, fun q => by omega⟩
    · refine b_X10_takes_4 hn ⟨fun q => by omega, fun _ => ⟨by omega, ?_⟩⟩
      have ti : ((i : Int)).toNat = i := by omega
      rw [ti, hf.I (a := 85) (by omega)]
      have hbi := hb i (by omega)
      have hDi := hD i (by omega)
      have hcl := cnt_le D i
      refine ⟨fun q => ⟨⟨by omega, by omega⟩, ⟨by omega, by omega⟩, ?_⟩, fun q => ⟨⟨by omega, by omega⟩, ?_⟩⟩
      · have dD : D i := hDi.mp (by omega)
        have := ih (sI σ 84 i 0) (i + 1) (by omega) (by omega) (hf.sI rfl) (fun r hr => ?_) (fun r hr => ?_)
        · rw [cnt_s dD] at this; simpa using this
        · by_cases z : r = i
          · subst z; exact ⟨fun _ => gI_same _ _ _ _, fun h => absurd dD h⟩
          · rw [gI_f z]; exact h1 r (by omega)
        · rw [gI_f (by omega)]; exact h2 r (by omega)
      · have dD : ¬ D i := fun h => by have := hDi.mpr h; omega
        have := ih σ (i + 1) (by omega) (by omega) hf (fun r hr => ?_) (fun r hr => h2 r (by omega))
        · rw [cnt_n dD] at this; simpa using this
        · by_cases z : r = i
          · subst z; exact ⟨fun h => absurd h dD, fun _ => h2 r (Nat.le_refl r)⟩
          · exact h1 r (by omega)
theorem mput_loop (hn : 104 ≤ n) {m p : Nat} {c : Int} {b1 : Nat → Int} {P : Int → ZSto → Prop} {σ0 : ZSto} (hm3 : 3 ≤ m) (hm9 : m ≤ 9) (hmn : gI σ0 73 13 = (m : Int)) (hc : c = 1 ∨ c = 2) (hp : p < m * m) (hcon : BCon m b1)
    (hP : ∀ σ : ZSto, Fr putW σ0 σ → MSt σ m (offB b1 (remD m b1 (3 - c) (nbM m p) 4)) → (∀ q, m * m ≤ q → q < 81 → gI σ 84 q = gI σ0 84 q) → gI σ 73 18 = (cnt (remD m b1 (3 - c) (nbM m p) 4) (m * m) : Nat) → ZkI X M_X10_flood (d + 2) n [.ref (zB X + 73), iV (p : Int)] σ (fun v4 σ5 => (v4 ≤ 0 → P 0 σ5) ∧ (¬ (v4 ≤ 0) → P 1 σ5))) :
    ∀ (w : Nat) (σ : ZSto) (j : Nat), 4 - j ≤ w → j ≤ 4 → Fr putW σ0 σ → MSt σ m (offB b1 (remD m b1 (3 - c) (nbM m p) j)) → (∀ q, m * m ≤ q → q < 81 → gI σ 84 q = gI σ0 84 q) → gI σ 73 18 = (cnt (remD m b1 (3 - c) (nbM m p) j) (m * m) : Nat) → L_X10_put_15 X (d + 2) n (zpZ P) (p : Int) c (j : Int) σ := by
  have hN := sq_le hm9
  have hoc : (3 - c : Int) ≠ 0 := by omega
  intro w
  induction w with
  | zero =>
    intro σ j hw hj hf hB hrest ht
    have : j = 4 := by omega
    subst this
    exact b_X10_put_15 hn ⟨fun _ => hP σ hf hB hrest ht, fun q => by omega⟩
  | succ w ih =>
    intro σ j hw hj hf hB hrest ht
    by_cases e : j = 4
    · subst e
      exact b_X10_put_15 hn ⟨fun _ => hP σ hf hB hrest ht, fun q => by omega⟩
    · refine b_X10_put_15 hn ⟨fun q => by omega, fun _ => ?_⟩
      have hj1 : R32 ((j : Int) + 1) := ⟨by omega, by omega⟩
      have hmn' : gI σ 73 13 = (m : Int) := by rw [hf.I (by unfold putW; omega)]; exact hmn
      have hcon' : BCon m (offB b1 (remD m b1 (3 - c) (nbM m p) j)) := offB_con hcon
      have skip : ∀ σ' : ZSto, Fr fldW σ σ' → (∀ b : Nat, nbM m p j = (b : Int) → offB b1 (remD m b1 (3 - c) (nbM m p) j) b = 3 - c → ∃ x, Lib m (offB b1 (remD m b1 (3 - c) (nbM m p) j)) b x) → L_X10_put_15 X (d + 2) n (zpZ P) (p : Int) c ((j : Int) + 1) σ' := by
        intro σ' hf' hs
        have es := remD_skip hoc hs
        have := ih σ' (j + 1) (by omega) (by omega) (hf.tr (hf'.mono (fun a i q => by unfold fldW at q; unfold putW; omega))) (by rw [es]; intro q hq; rw [hf'.I (by unfold fldW; omega)]; exact hB q hq) (fun q h1 h2 => by rw [hf'.I (by unfold fldW; omega)]; exact hrest q h1 h2) (by rw [es, hf'.I (by unfold fldW; omega)]; exact ht)
        simpa using this
      refine (sm_beside hn hm3 hm9 hmn' hp (show j < 4 by omega)).mono ?_
      rintro v _ - ⟨rfl, hv⟩
      rcases nbM_in (show 2 ≤ m by omega) hp (show j < 4 by omega) with hneg | ⟨b, hbN, hb⟩
      · exact ⟨fun _ => ⟨hj1, skip σ Fr.rf (fun b hb => by omega)⟩, fun q => by omega⟩
      · rw [hb] at hv
        subst hv
        have tb : ((b : Int)).toNat = b := by omega
        have uniq : ∀ b' : Nat, nbM m p j = (b' : Int) → b' = b := fun b' h => by omega
        rw [tb, hB b hbN]
        refine ⟨fun q => by omega, fun _ => ⟨by omega, ⟨by omega, by omega⟩, fun q => ⟨hj1, skip σ Fr.rf (fun b' hb' hz => ?_)⟩, fun hbc => ?_⟩⟩
        · rw [uniq b' hb'] at hz; exact absurd hz q
        · have hcb := hcon' b hbN
          refine (sm_flood hn hm3 hm9 hmn' hB hbN (by rw [hbc]; exact hoc) ⟨by omega, by omega⟩).mono ?_
          rintro v2 σ1 - ⟨hF, hv2⟩
          refine ⟨fun q => ⟨hj1, skip σ1 hF.1 (fun b' hb' _ => ?_)⟩, fun q => ?_⟩
          · rw [uniq b' hb']
            have : ¬ cnt (Lib m (offB b1 (remD m b1 (3 - c) (nbM m p) j)) b) (m * m) = 0 := by omega
            exact Classical.byContradiction (fun z => this (cnt_0 (fun i _ hi => z ⟨i, hi⟩)))
          · have hx : ∀ x, ¬ Lib m (offB b1 (remD m b1 (3 - c) (nbM m p) j)) b x := by
              intro x hx
              have hx2 : x < m * m := by obtain ⟨-, a, -, h3⟩ := hx; exact h3.2.1
              exact cnt_0' (by omega) x hx2 hx
            obtain ⟨k1, k2⟩ := remD_take hoc hb hbc hx
            have hlt : ∀ q, Chn m (offB b1 (remD m b1 (3 - c) (nbM m p) j)) b q → q < m * m := fun q h => h.lt hbN
            refine w_X10_takes hn ?_
            have fin := takes_loop (X := X) (d := d + 1) (σ0 := σ1) hn (P := fun v46 σ47 => R32 ((gI σ1 73 18) + v46) ∧ R32 ((j : Int) + 1) ∧ L_X10_put_15 X (d + 2) n (zpZ P) (p : Int) c ((j : Int) + 1) (sI σ47 73 18 ((gI σ1 73 18) + v46))) hF.2.2.1 (fun q hq => (hF.2.1 q hq).1) ?_ 81 σ1 0 (by omega) (by omega) Fr.rf (fun q hq => by omega) (fun q _ => rfl)
            · simpa [cnt] using fin
            · intro σ2 hf2 h2
              have c81 : cnt (Chn m (offB b1 (remD m b1 (3 - c) (nbM m p) j)) b) 81 = cnt (Chn m (offB b1 (remD m b1 (3 - c) (nbM m p) j)) b) (m * m) := cnt_ext hN (fun i h1 _ hz => by have := hlt i hz; omega)
              have cl1 := cnt_le (remD m b1 (3 - c) (nbM m p) j) (m * m)
              have cl2 := cnt_le (Chn m (offB b1 (remD m b1 (3 - c) (nbM m p) j)) b) (m * m)
              have e18 : gI σ1 73 18 = (cnt (remD m b1 (3 - c) (nbM m p) j) (m * m) : Nat) := by rw [hF.1.I (by unfold fldW; omega)]; exact ht
              have esum : gI σ1 73 18 + (cnt (Chn m (offB b1 (remD m b1 (3 - c) (nbM m p) j)) b) 81 : Nat) = (cnt (remD m b1 (3 - c) (nbM m p) (j + 1)) (m * m) : Nat) := by
                rw [e18, c81, cnt_congr (fun i _ => k1 i), cnt_or (fun i _ => k2 i)]; simp
              rw [esum]
              have cl3 := cnt_le (remD m b1 (3 - c) (nbM m p) (j + 1)) (m * m)
              refine ⟨⟨by omega, by omega⟩, hj1, ?_⟩
              have := ih (sI σ2 73 18 (cnt (remD m b1 (3 - c) (nbM m p) (j + 1)) (m * m) : Nat)) (j + 1) (by omega) (by omega) ?_ ?_ ?_ (gI_same _ _ _ _)
              · simpa using this
              · exact ((hf.tr (hF.1.mono (fun a i q => by unfold fldW at q; unfold putW; omega))).tr (hf2.mono (fun a i q => by unfold putW; omega))).sI (by unfold putW; omega)
              · intro q hq
                rw [gI_c (by omega)]
                have h2q := h2 q (by omega)
                by_cases z2 : Chn m (offB b1 (remD m b1 (3 - c) (nbM m p) j)) b q
                · rw [h2q.1 z2, offB_p ((k1 q).mpr (Or.inr z2))]
                · rw [h2q.2 z2, hF.1.I (by unfold fldW; omega), hB q hq]
                  by_cases z1 : remD m b1 (3 - c) (nbM m p) j q
                  · rw [offB_p z1, offB_p ((k1 q).mpr (Or.inl z1))]
                  · rw [offB_n z1, offB_n (fun z => ((k1 q).mp z).elim z1 z2)]
              · intro q h1 hq
                rw [gI_c (by omega), (h2 q hq).2 (fun z => by have := hlt q z; omega), hF.1.I (by unfold fldW; omega)]
                exact hrest q h1 hq
theorem sm_put (hn : 104 ≤ n) {m p : Nat} {c : Int} {bd : Nat → Int} (hm3 : 3 ≤ m) (hm9 : m ≤ 9) (hmn : gI σ 73 13 = (m : Int)) (hc : c = 1 ∨ c = 2) (hp : p < m * m) (hcon : BCon m bd) (hst : MSt σ m bd) :
    ZkZ X M_X10_put (d + 3) n [.ref (zB X + 73), iV (p : Int), iV c] σ (fun v σ' => Fr putW σ σ' ∧ MSt σ' m (putB m bd p c) ∧ (∀ q, m * m ≤ q → q < 81 → gI σ' 84 q = gI σ 84 q) ∧ gI σ' 73 18 = (cnt (Dies m bd p c) (m * m) : Nat) ∧ ((v = 1 ∧ ∃ x, Lib m (putB m bd p c) p x) ∨ (v = 0 ∧ ∀ x, ¬ Lib m (putB m bd p c) p x))) := by
  have hN := sq_le hm9
  refine w_X10_put hn ⟨by omega, by omega⟩ ⟨by omega, by omega⟩ ⟨by omega, ?_⟩
  have tp : ((p : Int)).toNat = p := by omega
  rw [tp, w8_small (by omega) (by omega)]
  have eD := remD_M (m := m) (bd := bd) (p := p) (c := c) (by omega) hp
  have := mput_loop (X := X) (d := d) (σ0 := sI (sI σ 84 p c) 73 18 0) (b1 := setB bd p c) (c := c) hn (P := fun v σ' => Fr putW σ σ' ∧ MSt σ' m (putB m bd p c) ∧ (∀ q, m * m ≤ q → q < 81 → gI σ' 84 q = gI σ 84 q) ∧ gI σ' 73 18 = (cnt (Dies m bd p c) (m * m) : Nat) ∧ ((v = 1 ∧ ∃ x, Lib m (putB m bd p c) p x) ∨ (v = 0 ∧ ∀ x, ¬ Lib m (putB m bd p c) p x))) hm3 hm9 (by rw [gI_f (by omega), gI_c (by omega)]; exact hmn) hc hp (setB_con hcon hc) ?_ 4 (sI (sI σ 84 p c) 73 18 0) 0 (by omega) (by omega) Fr.rf ?_ (fun q _ _ => rfl) ?_
  · simpa using this
  · intro σ1 hf hB1 hrest ht
    rw [eD] at hB1 ht
    have hB1 : MSt σ1 m (putB m bd p c) := hB1
    have hpc : putB m bd p c p = c := putB_p hc
    have hf0 : Fr putW σ σ1 := ((Fr.rf.sI (by unfold putW; omega)).sI (by unfold putW; omega)).tr hf
    refine (sm_flood hn hm3 hm9 (by rw [hf0.I (by unfold putW; omega)]; exact hmn) hB1 hp (by omega) (by rw [hpc]; exact ⟨by omega, by omega⟩)).mono ?_
    rintro v σ2 - ⟨hF, hv⟩
    have base : ∀ v' : Int, ((v' = 1 ∧ ∃ x, Lib m (putB m bd p c) p x) ∨ (v' = 0 ∧ ∀ x, ¬ Lib m (putB m bd p c) p x)) → Fr putW σ σ2 ∧ MSt σ2 m (putB m bd p c) ∧ (∀ q, m * m ≤ q → q < 81 → gI σ2 84 q = gI σ 84 q) ∧ gI σ2 73 18 = (cnt (Dies m bd p c) (m * m) : Nat) ∧ ((v' = 1 ∧ ∃ x, Lib m (putB m bd p c) p x) ∨ (v' = 0 ∧ ∀ x, ¬ Lib m (putB m bd p c) p x)) := by
      intro v' hv'
      refine ⟨hf0.tr (hF.1.mono (fun a i q => by unfold fldW at q; unfold putW; omega)), fun q hq => by rw [hF.1.I (by unfold fldW; omega)]; exact hB1 q hq, fun q h1 h2 => ?_, by rw [hF.1.I (by unfold fldW; omega)]; exact ht, hv'⟩
      rw [hF.1.I (by unfold fldW; omega), hrest q h1 h2, gI_c (by omega), gI_f (by omega)]
    refine ⟨fun q => base 0 (Or.inr ⟨rfl, fun x hx => ?_⟩), fun q => base 1 (Or.inl ⟨rfl, ?_⟩)⟩
    · have hx2 : x < m * m := by obtain ⟨-, a, -, h3⟩ := hx; exact h3.2.1
      exact cnt_0' (by omega) x hx2 hx
    · have : ¬ cnt (Lib m (putB m bd p c) p) (m * m) = 0 := by omega
      exact Classical.byContradiction (fun z => this (cnt_0 (fun i _ hi => z ⟨i, hi⟩)))
  · intro q hq
    rw [offB_n remD_0, gI_c (by omega)]
    by_cases z : q = p
    · subst z; rw [gI_same, setB_eq]
    · rw [gI_f z, setB_ne z]; exact hst q hq
  · rw [cnt_0 (fun i _ => remD_0)]; simp [gI_if]
end ZP
