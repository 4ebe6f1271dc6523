theorem cnt_strict {P Q : Nat → Prop} {n b : Nat} (h : ∀ i, i < n → P i → Q i) (hb : b < n) (hq : Q b) (hp : ¬ P b) : cnt P n < cnt Q n := by
  have e := cnt_add (P := P) (Q := fun i => P i ∨ i = b) hb hp (Or.inr rfl) (fun i _ hi => by simp [hi])
  have := cnt_mono (P := fun i => P i ∨ i = b) (Q := Q) (n := n) (fun i hi y => y.elim (h i hi) (fun z => by rw [z]; exact hq))
  omega
theorem TB_h {m p h : Nat} {bd : Nat → Int} {c : Int} (hh : HdS m (Sc bd c) h) : TB m bd c p (cnt (HdS m (Sc bd c)) h) ↔ ∃ b, Adj m p b ∧ Sc bd c b ∧ Rch m (Sc bd c) h b := by
  constructor
  · rintro ⟨b, h', h1, h2, h3, h4, h5⟩
    have : h' = h := ix_inj h3 hh h5
    subst this
    exact ⟨b, h1, h2, h4⟩
  · rintro ⟨b, h1, h2, h3⟩; exact ⟨b, h, h1, h2, hh, h3, rfl⟩
theorem VB_h {m q h : Nat} {bd : Nat → Int} {c : Int} (hh : HdS m (Sc bd c) h) : VB m bd c q (cnt (HdS m (Sc bd c)) h) ↔ Vit m bd c q h := by
  constructor
  · rintro ⟨h1, h2⟩; exact ⟨h1, fun p a b => (TB_h hh).mp (h2 p a b)⟩
  · rintro ⟨h1, h2⟩; exact ⟨h1, fun p a b => (TB_h hh).mpr (h2 p a b)⟩
theorem RB_h {m q h : Nat} {bd : Nat → Int} {c : Int} (hh : HdS m (Sc bd c) h) : RB m bd c q (cnt (HdS m (Sc bd c)) h) ↔ Tch m bd c q h := by
  constructor
  · rintro ⟨p, h1, h2⟩
    obtain ⟨b, a1, a2, a3⟩ := (TB_h hh).mp h2
    exact ⟨p, b, h1, a1, a2, a3⟩
  · rintro ⟨p, b, h1, a1, a2, a3⟩; exact ⟨p, h1, (TB_h hh).mpr ⟨b, a1, a2, a3⟩⟩
section ZL
variable {X : ZX} {d n : Nat} {σ : ZSto}
theorem sp_chainsWithTwo (hn : 73 ≤ n) {L : Nat} {l1 : Int64} (h9 : gI σ 53 9 = (L : Int)) (hL : L ≤ 45) :
    ZkL X M_X4_chainsWithTwo (d + 1) n [.ref (zB X + 53), .long l1] σ (fun v σ' => σ = σ' ∧ ∀ i, i < 64 → (lB v i = true ↔ 2 ≤ cnt (fun j => lB l1 j = true ∧ lB (gL σ 59 j) i = true) L)) := by
  refine w_X4_chainsWithTwo hn ?_
  have key : ∀ (w x : Nat) (l3 l5 : Int64), L - x ≤ w → x ≤ L → (∀ i, i < 64 → (lB l3 i = true ↔ 1 ≤ cnt (fun j => lB l1 j = true ∧ lB (gL σ 59 j) i = true) x)) → (∀ i, i < 64 → (lB l5 i = true ↔ 2 ≤ cnt (fun j => lB l1 j = true ∧ lB (gL σ 59 j) i = true) x)) → L_X4_chainsWithTwo_8 X d n (zpL (fun v σ' => σ = σ' ∧ ∀ i, i < 64 → (lB v i = true ↔ 2 ≤ cnt (fun j => lB l1 j = true ∧ lB (gL σ 59 j) i = true) L))) l1 l3 l5 (x : Int) σ := by
    intro w
    induction w with
    | zero =>
      intro x l3 l5 hw hx a3 a5
      have : x = L := by omega
      subst this
      refine b_X4_chainsWithTwo_8 hn ?_
      rw [h9]
      exact ⟨fun _ => ⟨rfl, a5⟩, fun q => by omega⟩
    | succ w ih =>
      intro x l3 l5 hw hx a3 a5
      refine b_X4_chainsWithTwo_8 hn ?_
      rw [h9]
      refine ⟨fun q => ?_, fun q => ⟨fun q2 => by omega, fun _ => ?_⟩⟩
      · have : x = L := by omega
        subst this
        exact ⟨rfl, a5⟩
      · have tx : ((x : Int)).toNat = x := by omega
        have rx : R32 ((x : Int) + 1) := ⟨by omega, by omega⟩
        rw [lB_sh (show x < 64 by omega), tx]
        refine ⟨fun z => ⟨rx, ?_⟩, fun z => ⟨by omega, rx, ?_⟩⟩
        · have e : ∀ i, cnt (fun j => lB l1 j = true ∧ lB (gL σ 59 j) i = true) (x + 1) = cnt (fun j => lB l1 j = true ∧ lB (gL σ 59 j) i = true) x := fun i => cnt_n (fun y => by rw [z] at y; exact absurd y.1 (by simp))
          have := ih (x + 1) l3 l5 (by omega) (by omega) (fun i hi => by rw [e]; exact a3 i hi) (fun i hi => by rw [e]; exact a5 i hi)
          simpa using this
        · have z : lB l1 x = true := by simpa using z
          have e : ∀ i, (lB (gL σ 59 x) i = true → cnt (fun j => lB l1 j = true ∧ lB (gL σ 59 j) i = true) (x + 1) = cnt (fun j => lB l1 j = true ∧ lB (gL σ 59 j) i = true) x + 1) ∧ (¬ lB (gL σ 59 x) i = true → cnt (fun j => lB l1 j = true ∧ lB (gL σ 59 j) i = true) (x + 1) = cnt (fun j => lB l1 j = true ∧ lB (gL σ 59 j) i = true) x) := fun i => ⟨fun y => cnt_s (P := fun j => lB l1 j = true ∧ lB (gL σ 59 j) i = true) ⟨z, y⟩, fun y => cnt_n (P := fun j => lB l1 j = true ∧ lB (gL σ 59 j) i = true) (fun w => y w.2)⟩
          have := ih (x + 1) (l3 ||| gL σ 59 x) (l5 ||| (l3 &&& gL σ 59 x)) (by omega) (by omega) (fun i hi => ?_) (fun i hi => ?_)
          · simpa using this
          · rw [lB_or, Bool.or_eq_true, a3 i hi]
            by_cases y : lB (gL σ 59 x) i = true
            · rw [(e i).1 y]; exact ⟨fun _ => by omega, fun _ => Or.inr y⟩
            · rw [(e i).2 y]; exact ⟨fun w => w.resolve_right y, fun w => Or.inl w⟩
          · rw [lB_or, lB_and, Bool.or_eq_true, Bool.and_eq_true, a5 i hi, a3 i hi]
            by_cases y : lB (gL σ 59 x) i = true
            · rw [(e i).1 y]
              constructor
              · rintro (w | w)
                · omega
                · have := w.1; omega
              · intro w; exact Or.inr ⟨by omega, y⟩
            · rw [(e i).2 y]; exact ⟨fun w => w.elim id (fun u => absurd u.2 y), fun w => Or.inl w⟩
  have := key L 0 0 0 (by omega) (by omega) (fun i hi => by rw [lB_0]; exact ⟨fun y => by simp at y, fun y => by simp [cnt] at y⟩) (fun i hi => by rw [lB_0]; exact ⟨fun y => by simp at y, fun y => by simp [cnt] at y⟩)
  simpa using this
theorem sub_iff {a b : Int64} : lcmpF (a &&& (b ^^^ (-1 : Int64))) (0 : Int64) = 0 ↔ ∀ i, i < 64 → lB a i = true → lB b i = true := by
  rw [lcmp0]
  constructor
  · intro h i hi ha
    have e : lB (a &&& (b ^^^ (-1 : Int64))) i = false := by rw [h]; exact lB_0 i
    rw [lB_and, lB_not hi, ha] at e
    simpa using e
  · intro h
    refine lB_ext (fun i hi => ?_)
    rw [lB_and, lB_not hi, lB_0]
    by_cases ha : lB a i = true
    · rw [ha, h i hi ha]; rfl
    · have : lB a i = false := by simpa using ha
      rw [this]; rfl
theorem sp_regionsAmong (hn : 73 ≤ n) {L : Nat} {l1 : Int64} (h9 : gI σ 53 9 = (L : Int)) (hL : L ≤ 45) :
    ZkL X M_X4_regionsAmong (d + 1) n [.ref (zB X + 53), .long l1] σ (fun v σ' => σ = σ' ∧ ∀ j, j < 64 → (lB v j = true ↔ (j < L ∧ ∀ i, i < 64 → lB (gL σ 60 j) i = true → lB l1 i = true))) := by
  refine w_X4_regionsAmong hn ?_
  have key : ∀ (w x : Nat) (l3 : Int64), L - x ≤ w → x ≤ L → (∀ j, j < 64 → (lB l3 j = true ↔ (j < x ∧ ∀ i, i < 64 → lB (gL σ 60 j) i = true → lB l1 i = true))) → L_X4_regionsAmong_5 X d n (zpL (fun v σ' => σ = σ' ∧ ∀ j, j < 64 → (lB v j = true ↔ (j < L ∧ ∀ i, i < 64 → lB (gL σ 60 j) i = true → lB l1 i = true)))) l1 l3 (x : Int) σ := by
    intro w
    induction w with
    | zero =>
      intro x l3 hw hx a3
      have : x = L := by omega
      subst this
      refine b_X4_regionsAmong_5 hn ?_
      rw [h9]
      exact ⟨fun _ => ⟨rfl, a3⟩, fun q => by omega⟩
    | succ w ih =>
      intro x l3 hw hx a3
      refine b_X4_regionsAmong_5 hn ?_
      rw [h9]
      refine ⟨fun q => ?_, fun q => ⟨fun q2 => by omega, fun _ => ?_⟩⟩
      · have : x = L := by omega
        subst this
        exact ⟨rfl, a3⟩
      · have tx : ((x : Int)).toNat = x := by omega
        have rx : R32 ((x : Int) + 1) := ⟨by omega, by omega⟩
        rw [tx, sub_iff]
        refine ⟨by omega, fun z => ⟨rx, ?_⟩, fun z => ⟨rx, ?_⟩⟩
        · have := ih (x + 1) l3 (by omega) (by omega) (fun j hj => ?_)
          · simpa using this
          · rw [a3 j hj]
            constructor
            · rintro ⟨h1, h2⟩; exact ⟨by omega, h2⟩
            · rintro ⟨h1, h2⟩
              by_cases e : j = x
              · subst e; exact absurd h2 z
              · exact ⟨by omega, h2⟩
        · have := ih (x + 1) (l3 ||| lshlF (1 : Int64) (x : Int)) (by omega) (by omega) (fun j hj => ?_)
          · simpa using this
          · rw [lB_or, Bool.or_eq_true, a3 j hj, lB_one (show x < 64 by omega) hj]
            constructor
            · rintro (⟨h1, h2⟩ | h)
              · exact ⟨by omega, h2⟩
              · have := of_decide_eq_true h
                subst this
                exact ⟨by omega, z⟩
            · rintro ⟨h1, h2⟩
              by_cases e : x = j
              · exact Or.inr (decide_eq_true e)
              · exact Or.inl ⟨by omega, h2⟩
  have := key L 0 0 (by omega) (by omega) (fun j hj => by rw [lB_0]; exact ⟨fun y => by simp at y, fun y => by omega⟩)
  simpa using this
theorem sp_livingChains (hn : 73 ≤ n) {m : Nat} {bd : Nat → Int} {c : Int} (h9m : m ≤ 9) (hL : LfO σ m bd c) :
    ZkL X M_X4_livingChains (d + 2) n [.ref (zB X + 53)] σ (fun v σ' => σ = σ' ∧ ∀ h, HdS m (Sc bd c) h → (lB v (cnt (HdS m (Sc bd c)) h) = true ↔ Live m bd c h)) := by
  obtain ⟨e8, e9, hC, hR, hq⟩ := hL
  have hK := heads_lt (S := Sc bd c) h9m
  have hLl := heads_lt (S := Sr bd c) h9m
  obtain ⟨K, eK⟩ : ∃ K, K = cnt (HdS m (Sc bd c)) (m * m) := ⟨_, rfl⟩
  obtain ⟨L, eL⟩ : ∃ L, L = cnt (HdS m (Sr bd c)) (m * m) := ⟨_, rfl⟩
  rw [← eK] at e8 hK
  rw [← eL] at e9 hLl
  have ixC : ∀ h, HdS m (Sc bd c) h → cnt (HdS m (Sc bd c)) h < K := fun h hh => by rw [eK]; exact ix_lt hh.1 hh
  have ixR : ∀ h, HdS m (Sr bd c) h → cnt (HdS m (Sr bd c)) h < L := fun h hh => by rw [eL]; exact ix_lt hh.1 hh
  -- vital regions of a set, by number and by head
  have vit : ∀ (l3 : Int64) (h : Nat), HdS m (Sc bd c) h → cnt (fun j => lB l3 j = true ∧ lB (gL σ 59 j) (cnt (HdS m (Sc bd c)) h) = true) L = cnt (fun q => (HdS m (Sr bd c) q ∧ lB l3 (cnt (HdS m (Sr bd c)) q) = true) ∧ Vit m bd c q h) (m * m) := by
    intro l3 h hh
    rw [eL, ← cnt_ix]
    refine cnt_congr (fun q _ => ?_)
    constructor
    · rintro ⟨a1, a2, a3⟩
      exact ⟨⟨a1, a2⟩, (VB_h hh).mp (((hR q a1).2.2.2 _ (by have := ixC h hh; omega)).1.mp a3)⟩
    · rintro ⟨⟨a1, a2⟩, a3⟩
      exact ⟨a1, a2, ((hR q a1).2.2.2 _ (by have := ixC h hh; omega)).1.mpr ((VB_h hh).mpr a3)⟩
  have key : ∀ (w : Nat) (l1 l3 : Int64) (x : Nat), cnt (fun i => lB l1 i = true) 64 + cnt (fun i => lB l3 i = true) 64 ≤ w → x + (cnt (fun i => lB l1 i = true) 64 + cnt (fun i => lB l3 i = true) 64) ≤ 128 → (∀ i, i < 64 → lB l1 i = true → i < K) → (∀ j, j < 64 → lB l3 j = true → j < L) → (∀ C R, Keep m bd c C R → (∀ h, C h → lB l1 (cnt (HdS m (Sc bd c)) h) = true) ∧ ∀ q, R q → lB l3 (cnt (HdS m (Sr bd c)) q) = true) → L_X4_livingChains_51 X (d + 1) n (zpL (fun v σ' => σ = σ' ∧ ∀ h, HdS m (Sc bd c) h → (lB v (cnt (HdS m (Sc bd c)) h) = true ↔ Live m bd c h))) l1 l3 (x : Int) σ := by
    intro w
    induction w using Nat.strongRecOn with
    | _ w ih =>
      intro l1 l3 x hw hx b1 b3 inv
      refine b_X4_livingChains_51 hn ⟨fun q => by omega, fun _ => (sp_chainsWithTwo hn e9 hLl).mono ?_⟩
      rintro v _ ⟨rfl, hv⟩
      refine (sp_regionsAmong hn e9 hLl).mono ?_
      rintro v2 _ ⟨rfl, hv2⟩
      have c1 : ∀ i, i < 64 → (lB (l1 &&& v) i = true ↔ (lB l1 i = true ∧ 2 ≤ cnt (fun j => lB l3 j = true ∧ lB (gL σ 59 j) i = true) L)) := fun i hi => by rw [lB_and, Bool.and_eq_true, hv i hi]
      have c3 : ∀ j, j < 64 → (lB (l3 &&& v2) j = true ↔ (lB l3 j = true ∧ j < L ∧ ∀ i, i < 64 → lB (gL σ 60 j) i = true → lB (l1 &&& v) i = true)) := fun j hj => by rw [lB_and, Bool.and_eq_true, hv2 j hj]
      have rx : R32 ((x : Int) + 1) := ⟨by omega, by omega⟩
      have m1 := cnt_mono (P := fun i => lB (l1 &&& v) i = true) (Q := fun i => lB l1 i = true) (n := 64) (fun i hi y => ((c1 i hi).mp y).1)
      have m3 := cnt_mono (P := fun i => lB (l3 &&& v2) i = true) (Q := fun i => lB l3 i = true) (n := 64) (fun i hi y => ((c3 i hi).mp y).1)
      have next : ¬ (l1 &&& v = l1 ∧ l3 &&& v2 = l3) → L_X4_livingChains_51 X (d + 1) n (zpL (fun v σ' => σ = σ' ∧ ∀ h, HdS m (Sc bd c) h → (lB v (cnt (HdS m (Sc bd c)) h) = true ↔ Live m bd c h))) (l1 &&& v) (l3 &&& v2) ((x : Int) + 1) σ := by
        intro hne
        have less : cnt (fun i => lB (l1 &&& v) i = true) 64 + cnt (fun i => lB (l3 &&& v2) i = true) 64 < cnt (fun i => lB l1 i = true) 64 + cnt (fun i => lB l3 i = true) 64 := by
          by_cases z : l1 &&& v = l1
          · have z3 : ¬ l3 &&& v2 = l3 := fun y => hne ⟨z, y⟩
            have : ∃ j, j < 64 ∧ lB l3 j = true ∧ ¬ lB (l3 &&& v2) j = true := Classical.byContradiction (fun y => z3 (lB_ext (fun j hj => by
              by_cases u : lB l3 j = true
              · rw [u]; exact Classical.byContradiction (fun t => y ⟨j, hj, u, t⟩)
              · have u' : lB l3 j = false := by simpa using u
                rw [u']
                have : ¬ lB (l3 &&& v2) j = true := fun t => u ((c3 j hj).mp t).1
                simpa using this)))
            obtain ⟨j, j1, j2, j3⟩ := this
            have := cnt_strict (P := fun i => lB (l3 &&& v2) i = true) (Q := fun i => lB l3 i = true) (n := 64) (fun i hi y => ((c3 i hi).mp y).1) j1 j2 j3
            omega
          · have : ∃ j, j < 64 ∧ lB l1 j = true ∧ ¬ lB (l1 &&& v) j = true := Classical.byContradiction (fun y => z (lB_ext (fun j hj => by
              by_cases u : lB l1 j = true
              · rw [u]; exact Classical.byContradiction (fun t => y ⟨j, hj, u, t⟩)
              · have u' : lB l1 j = false := by simpa using u
                rw [u']
                have : ¬ lB (l1 &&& v) j = true := fun t => u ((c1 j hj).mp t).1
                simpa using this)))
            obtain ⟨j, j1, j2, j3⟩ := this
            have := cnt_strict (P := fun i => lB (l1 &&& v) i = true) (Q := fun i => lB l1 i = true) (n := 64) (fun i hi y => ((c1 i hi).mp y).1) j1 j2 j3
            omega
        have := ih (cnt (fun i => lB (l1 &&& v) i = true) 64 + cnt (fun i => lB (l3 &&& v2) i = true) 64) (by omega) (l1 &&& v) (l3 &&& v2) (x + 1) (Nat.le_refl _) (by omega) (fun i hi y => b1 i hi ((c1 i hi).mp y).1) (fun j hj y => b3 j hj ((c3 j hj).mp y).1) (fun C R hk => ?_)
        · simpa using this
        · obtain ⟨i1, i3⟩ := inv C R hk
          have k1 : ∀ h, C h → lB (l1 &&& v) (cnt (HdS m (Sc bd c)) h) = true := by
            intro h hh
            have hd := (hk.1 h hh).1
            have hlt := ixC h hd
            refine (c1 _ (by omega)).mpr ⟨i1 h hh, ?_⟩
            rw [vit l3 h hd]
            have := cnt_mono (P := fun q => R q ∧ Vit m bd c q h) (Q := fun q => (HdS m (Sr bd c) q ∧ lB l3 (cnt (HdS m (Sr bd c)) q) = true) ∧ Vit m bd c q h) (n := m * m) (fun q _ y => ⟨⟨(hk.2 q y.1).1, i3 q y.1⟩, y.2⟩)
            have := (hk.1 h hh).2
            omega
          refine ⟨k1, fun q hq' => ?_⟩
          have hd := (hk.2 q hq').1
          have hlt := ixR q hd
          refine (c3 _ (by omega)).mpr ⟨i3 q hq', hlt, fun i hi y => ?_⟩
          obtain ⟨p, p1, b, h, p2, p3, p4, p5, p6⟩ := ((hR q hd).2.2.2 i hi).2.mp y
          rw [← p6]
          exact k1 h ((hk.2 q hq').2 h p4 ⟨p, b, p1, p2, p3, p5⟩)
      rw [lcmp0, lcmp0]
      refine ⟨fun z => ⟨rx, next (fun y => z y.1)⟩, fun z1 => ⟨fun z => ⟨rx, next (fun y => z y.2)⟩, fun z3 => ⟨rfl, fun h hh => ⟨fun y => ?_, fun y => ?_⟩⟩⟩⟩
      · refine ⟨fun g => HdS m (Sc bd c) g ∧ lB l1 (cnt (HdS m (Sc bd c)) g) = true, fun q => HdS m (Sr bd c) q ∧ lB l3 (cnt (HdS m (Sr bd c)) q) = true, ⟨fun g hg => ⟨hg.1, ?_⟩, fun q hq' => ⟨hq'.1, fun g hg ht => ⟨hg, ?_⟩⟩⟩, hh, y⟩
        · have hlt := ixC g hg.1
          have := (c1 _ (show cnt (HdS m (Sc bd c)) g < 64 by omega)).mp (by rw [z1]; exact hg.2)
          rw [← vit l3 g hg.1]
          exact this.2
        · have hlt := ixR q hq'.1
          have hlt2 := ixC g hg
          have := (c3 _ (show cnt (HdS m (Sr bd c)) q < 64 by omega)).mp (by rw [z3]; exact hq'.2)
          have := this.2.2 (cnt (HdS m (Sc bd c)) g) (by omega) (((hR q hq'.1).2.2.2 _ (by omega)).2.mpr ((RB_h hg).mpr ht))
          rw [z1] at this
          exact this
      · obtain ⟨C, R, hk, hch⟩ := y
        exact (inv C R hk).1 h hch
  have b1 : ∀ i, i < 64 → (lB (lshlF (1 : Int64) (K : Int) - (1 : Int64)) i = true ↔ i < K) := fun i hi => by rw [lB_low (by omega) hi]; simp
  have b3 : ∀ i, i < 64 → (lB (lshlF (1 : Int64) (L : Int) - (1 : Int64)) i = true ↔ i < L) := fun i hi => by rw [lB_low (by omega) hi]; simp
  have n1 : cnt (fun i => lB (lshlF (1 : Int64) (K : Int) - (1 : Int64)) i = true) 64 ≤ 45 := by
    rw [cnt_congr (Q := fun i => i < K) (fun i hi => b1 i hi), cnt_ext (n := K) (by omega) (fun i h _ => by omega)]
    have := cnt_le (fun i => i < K) K
    omega
  have n3 : cnt (fun i => lB (lshlF (1 : Int64) (L : Int) - (1 : Int64)) i = true) 64 ≤ 45 := by
    rw [cnt_congr (Q := fun i => i < L) (fun i hi => b3 i hi), cnt_ext (n := L) (by omega) (fun i h _ => by omega)]
    have := cnt_le (fun i => i < L) L
    omega
  have start := key _ (lshlF (1 : Int64) (K : Int) - (1 : Int64)) (lshlF (1 : Int64) (L : Int) - (1 : Int64)) 0 (Nat.le_refl _) (by omega) (fun i hi y => (b1 i hi).mp y) (fun j hj y => (b3 j hj).mp y) (fun C R hk => ⟨fun h hh => (b1 _ (by have := ixC h (hk.1 h hh).1; omega)).mpr (ixC h (hk.1 h hh).1), fun q hq' => (b3 _ (by have := ixR q (hk.2 q hq').1; omega)).mpr (ixR q (hk.2 q hq').1)⟩)
  refine w_X4_livingChains hn ?_
  rw [e8, e9]
  exact ⟨fun _ => ⟨fun _ => by simpa using start, fun q => by omega⟩, fun q => by omega⟩
theorem sp_lives (hn : 73 ≤ n) {m s : Nat} {bd : Nat → Int} (hB : BOk σ 33 m bd) (hs : s < m * m) (hb : bd s ≠ 0) (hg : gI σ 33 10 < 1999990000) :
    ZkZ X M_X4_lives (d + 5) n [.ref (zB X + 53), iV (s : Int)] σ (fun v σ' => Fr lfW σ σ' ∧ BOk σ' 33 m bd ∧ gI σ' 33 10 ≤ gI σ 33 10 + 162 ∧ ∀ h, HdS m (Sc bd (bd s)) h → Rch m (Sc bd (bd s)) h s → ((v = 1 ∧ Live m bd (bd s) h) ∨ (v = 0 ∧ ¬ Live m bd (bd s) h))) := by
  have hN := sq_le hB.1.2.1
  have hcb := hB.2.1 s hs
  have ts : ((s : Int)).toNat = s := by omega
  refine w_X4_lives hn ⟨by omega, by omega⟩ ((sp_hasStone hn (Or.inl rfl) hB.1 hB.2.1 hB.2.2.1 (x := (s : Int)) ⟨by omega, by omega⟩).mono ?_)
  rintro v _ - ⟨rfl, ⟨rfl, hv⟩ | ⟨rfl, hv⟩⟩
  · refine ⟨fun _ => (sp_contentAt hn (Or.inl rfl) hB.1 hB.2.2.1 hs).mono ?_, fun q => by omega⟩
    rintro v _ - ⟨rfl, rfl⟩
    refine (sp_lsurvey hn hB (c := bd s) (by omega) hg).mono ?_
    rintro σ1 ⟨f1, b1, g1, l1⟩
    refine (sp_livingChains hn hB.1.2.1 l1).mono ?_
    rintro l _ ⟨rfl, hl⟩
    obtain ⟨h, h1, h2⟩ := HdS.ex (S := Sc bd (bd s)) s hs rfl
    have e := (l1.2.2.1 s hs).1 rfl h h1 h2
    have hlt := ix_lt (H := HdS m (Sc bd (bd s))) h1.1 h1
    have hK := heads_lt (S := Sc bd (bd s)) hB.1.2.1
    rw [ts, e, lB_sh (by omega)]
    refine ⟨by omega, fun z => ⟨f1, b1, g1, fun h' a b => Or.inr ⟨rfl, fun y => ?_⟩⟩, fun z => ⟨f1, b1, g1, fun h' a b => Or.inl ⟨rfl, ?_⟩⟩⟩
    · rw [HdS.uniq a h1 b h2] at y
      have := (hl h h1).mpr y
      rw [z] at this; exact absurd this (by simp)
    · rw [HdS.uniq a h1 b h2]
      exact (hl h h1).mp (by simpa using z)
  · rw [ts] at hv
    exact absurd ⟨by omega, by omega, hb⟩ hv
end ZL
