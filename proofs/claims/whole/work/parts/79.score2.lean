theorem own_val {f c : Int} (hf : f = 0 ∨ f = 1 ∨ f = 2 ∨ f = 3) (hc : c = 1 ∨ c = 2) : (if f = 3 then 0 else f) = c ↔ (Hb f c ∧ ¬ Hb f (3 - c)) := by
  unfold Hb
  rcases hf with rfl | rfl | rfl | rfl <;> rcases hc with rfl | rfl <;> decide
theorem c3 {c : Int} (hc : c = 1 ∨ c = 2) : 3 - c = 1 ∨ 3 - c = 2 := by omega
section ZW
variable {X : ZX} {d n : Nat} {σ : ZSto}
/-- behind one flood of owners -/
theorem own_one (hn : 104 ≤ n) {m s : Nat} {bd dd : Nat → Int} {P : ZSto → Prop} (h3 : 3 ≤ m) (h9 : m ≤ 9) (hm : gI σ 73 13 = (m : Int)) (hw0 : WAll σ bd) (hd0 : ∀ q, q < 81 → gI σ 92 q = dd q) (hcon : BCon m bd) (hs : s < m * m) (hc : clB bd dd s = 0)
    (hP : ∀ (τ : ZSto) (f : Int), Fr ownW σ τ → (∀ q, q < 81 → gI τ 85 q = 0 ∨ gI τ 85 q = 1) → (∀ q, q < 81 → (gI τ 85 q = 1 ↔ Rch m (fun x => clB bd dd x = 0) s q)) → (f = 0 ∨ f = 1 ∨ f = 2 ∨ f = 3) → (∀ c : Int, c = 1 ∨ c = 2 → (Hb f c ↔ ∃ r, Rim m (fun x => clB bd dd x = 0) s r ∧ clB bd dd r = c)) → L_X10_owners_206 X (d + 1) n (zpV P) (s : Int) f 0 τ) :
    L_X10_owners_65 X (d + 1) n (zpV P) (s : Int) 0 σ := by
  have hN := sq_le h9
  have ts : ((s : Int)).toNat = s := by omega
  have := upto (N := 81) (Q := fun i τ => L_X10_owners_65 X (d + 1) n (zpV P) (s : Int) (i : Int) τ) (I := fun i τ => Fr ownW σ τ ∧ ∀ q, q < i → gI τ 85 q = 0) ?_ ?_ 0 σ (by omega) ⟨Fr.rf, fun q hq => by omega⟩
  · simpa using this
  · rintro τ ⟨hf, hz⟩
    refine b_X10_owners_65 hn ⟨fun _ => ⟨by omega, ?_⟩, fun q => by omega⟩
    rw [ts]
    obtain ⟨σ2, e2⟩ : ∃ σ2, σ2 = sI (sI τ 87 0 (s : Int)) 85 s 1 := ⟨_, rfl⟩
    have f5 : ∀ q, gI σ2 85 q = if q = s then 1 else gI τ 85 q := by intro q; rw [e2]; simp [gI_if]
    have f5' : ∀ q, q < 81 → (gI σ2 85 q = 1 ↔ q = s) := by
      intro q hq; rw [f5]
      by_cases h : q = s
      · simp [h]
      · rw [if_neg h, hz q hq]; simp [h]
    rw [← e2]
    have hI : OI σ σ2 m (clB bd dd) s 1 0 := by
      refine ⟨by rw [e2]; exact (hf.sI (by unfold ownW; omega)).sI (by unfold ownW; omega), fun q hq => ?_, fun q hq h => ?_, (f5' s (by omega)).mpr rfl, ?_, fun i hi => ?_, Or.inl rfl, fun c hc2 h => ?_⟩
      · rw [f5]; split
        · exact Or.inr rfl
        · exact Or.inl (hz q hq)
      · rw [(f5' q hq).mp h]; exact ⟨hs, Rch.rf⟩
      · rw [cnt_congr (Q := fun q => q = s) (fun i hi => f5' i (by omega)), cnt_one hs]; exact Nat.le_refl 1
      · have : i = 0 := by omega
        subst this
        exact ⟨s, by rw [e2]; simp [gI_if], hs, (f5' s (by omega)).mpr rfl⟩
      · unfold Hb at h; omega
    have hA : OAl σ2 m (clB bd dd) 0 1 none := by
      intro a ha haV
      rw [(f5' a (by omega)).mp haV]
      exact Or.inl ⟨0, by omega, by rw [e2]; simp [gI_if]⟩
    refine (own_loop (X := X) (d := d) (x1 := (s : Int)) hn h3 h9 hm hw0 hd0 hcon hs hc (P := P) ?_ (10 * (2 * 81 + 1))).1 σ2 1 0 hI hA (by omega)
    intro τ' f hI' hA'
    obtain ⟨i1, i2, i3, i4, i5, i6, i7, i8⟩ := hI'
    have dn : ∀ a, a < m * m → gI τ' 85 a = 1 → ODn τ' m (clB bd dd) f a 4 := by
      intro a ha haV
      rcases hA' a ha haV with ⟨i, k, -⟩ | h | h
      · omega
      · exact h
      · cases h
    have V : ∀ q, q < 81 → (gI τ' 85 q = 1 ↔ Rch m (fun x => clB bd dd x = 0) s q) := by
      intro q hq
      refine ⟨fun h => (i3 q hq h).2, fun h => ?_⟩
      have := h (fun x => x < m * m ∧ gI τ' 85 x = 1) ⟨hs, i4⟩ (fun a b ha hab hb => ⟨hab.2.1, ?_⟩)
      · exact this.2
      · obtain ⟨k, k1, k2⟩ := (nbM_adj (by omega) ha.1).mp hab
        exact (dn a ha.1 ha.2 k k1 b k2).1 hb
    refine hP τ' f i1 i2 V i7 (fun c hc2 => ⟨i8 c hc2, ?_⟩)
    rintro ⟨r, ⟨h1, a, h2, h3⟩, h4⟩
    obtain ⟨k, k1, k2⟩ := (nbM_adj (by omega) h3.1).mp h3
    exact (dn a h3.1 ((V a (by have := h3.1; omega)).mpr h2) k k1 r k2).2 c hc2 h4
  · rintro i τ hi ⟨hf, hz⟩ ih
    have ti : ((i : Int)).toNat = i := by omega
    refine b_X10_owners_65 hn ⟨fun q => by omega, fun _ => ⟨by omega, ⟨by omega, by omega⟩, ?_⟩⟩
    rw [ti]
    have := ih (sI τ 85 i 0) ⟨hf.sI (Or.inl rfl), fun q hq => ?_⟩
    · simpa using this
    · by_cases e : q = i
      · subst e; exact gI_same _ _ _ _
      · rw [gI_f e]; exact hz q (by omega)
/-- what owners has told of the points seen -/
def OwI (σ : ZSto) (m : Nat) (cl : Nat → Int) (p : Nat) : Prop := (∀ q, q < m * m → (¬ gI σ 100 q = 0 ↔ ∃ r, r < p ∧ cl r = 0 ∧ Rch m (fun x => cl x = 0) r q)) ∧ ∀ q, q < m * m → ¬ gI σ 100 q = 0 → ∀ c : Int, c = 1 ∨ c = 2 → (gI σ 99 q = c ↔ Own m cl c q)
def owsW (a i : Nat) : Prop := a = 85 ∨ a = 87 ∨ a = 99 ∨ a = 100
theorem sm_owners (hn : 104 ≤ n) {m : Nat} {bd dd : Nat → Int} (h3 : 3 ≤ m) (h9 : m ≤ 9) (hm : gI σ 73 13 = (m : Int)) (hw0 : WAll σ bd) (hd0 : ∀ q, q < 81 → gI σ 92 q = dd q) (hcon : BCon m bd) :
    ZkV X M_X10_owners (d + 2) n [.ref (zB X + 73)] σ (fun σ' => Fr owsW σ σ' ∧ ∀ q, q < m * m → clB bd dd q = 0 → ∀ c : Int, c = 1 ∨ c = 2 → (gI σ' 99 q = c ↔ Own m (clB bd dd) c q)) := by
  have hN := sq_le h9
  have mm : (m : Int) * (m : Int) = ((m * m : Nat) : Int) := by simp
  refine w_X10_owners hn ?_
  have := upto (N := 81) (Q := fun i τ => L_X10_owners_2 X (d + 1) n (zpV (fun σ' => Fr owsW σ σ' ∧ ∀ q, q < m * m → clB bd dd q = 0 → ∀ c : Int, c = 1 ∨ c = 2 → (gI σ' 99 q = c ↔ Own m (clB bd dd) c q))) (i : Int) τ) (I := fun i τ => Fr owsW σ τ ∧ ∀ q, q < i → gI τ 100 q = 0) ?_ ?_ 0 σ (by omega) ⟨Fr.rf, fun q hq => by omega⟩
  · simpa using this
  · rintro τ0 ⟨hf0, hz0⟩
    refine b_X10_owners_2 hn ⟨fun _ => ?_, fun q => by omega⟩
    have := upto (N := m * m) (Q := fun i τ => L_X10_owners_30 X (d + 1) n (zpV (fun σ' => Fr owsW σ σ' ∧ ∀ q, q < m * m → clB bd dd q = 0 → ∀ c : Int, c = 1 ∨ c = 2 → (gI σ' 99 q = c ↔ Own m (clB bd dd) c q))) (i : Int) τ) (I := fun i τ => Fr owsW σ τ ∧ OwI τ m (clB bd dd) i) ?_ ?_ 0 τ0 (by omega) ⟨hf0, fun q hq => ⟨fun z => absurd (hz0 q (by omega)) z, fun ⟨r, h, _⟩ => by omega⟩, fun q hq z => absurd (hz0 q (by omega)) z⟩
    · simpa using this
    · rintro τ ⟨hf, hI⟩
      refine b_X10_owners_30 hn ?_
      rw [hf.I (by unfold owsW; omega), hm, mm]
      exact ⟨⟨by omega, by omega⟩, fun _ => ⟨hf, fun q hq hq0 => hI.2 q hq ((hI.1 q hq).mpr ⟨q, hq, hq0, Rch.rf⟩)⟩, fun q => by omega⟩
    · rintro p τ hp ⟨hf, hI⟩ ih
      have tp : ((p : Int)).toNat = p := by omega
      have r1 : R32 ((p : Int) + 1) := ⟨by omega, by omega⟩
      have hm' : gI τ 73 13 = (m : Int) := by rw [hf.I (by unfold owsW; omega)]; exact hm
      have hw' : WAll τ bd := fun q hq => by rw [hf.I (by unfold owsW; omega)]; exact hw0 q hq
      have hd' : ∀ q, q < 81 → gI τ 92 q = dd q := fun q hq => by rw [hf.I (by unfold owsW; omega)]; exact hd0 q hq
      have skip : (¬ clB bd dd p = 0 ∨ ¬ gI τ 100 p = 0) → L_X10_owners_30 X (d + 1) n (zpV (fun σ' => Fr owsW σ σ' ∧ ∀ q, q < m * m → clB bd dd q = 0 → ∀ c : Int, c = 1 ∨ c = 2 → (gI σ' 99 q = c ↔ Own m (clB bd dd) c q))) ((p : Int) + 1) τ := by
        intro hz
        have := ih τ ⟨hf, fun q hq => ?_, hI.2⟩
        · simpa using this
        · rw [hI.1 q hq]
          constructor
          · rintro ⟨r, r1, r2, r3⟩; exact ⟨r, by omega, r2, r3⟩
          · rintro ⟨r, r1, r2, r3⟩
            by_cases e : r = p
            · subst e
              rcases hz with z | z
              · exact absurd r2 z
              · obtain ⟨t, t1, t2, t3⟩ := (hI.1 r hp).mp z
                exact ⟨t, t1, t2, t3.tr r3⟩
            · exact ⟨r, by omega, r2, r3⟩
      refine b_X10_owners_30 hn ?_
      rw [hm', mm, tp]
      refine ⟨⟨by omega, by omega⟩, fun q => by omega, fun _ => (sm_counts hn hw' hd' (show p < 81 by omega)).mono ?_⟩
      rintro v _ - ⟨rfl, rfl⟩
      refine ⟨fun q => ⟨r1, skip (Or.inl q)⟩, fun q => ⟨by omega, fun q2 => ?_, fun q2 => ⟨r1, skip (Or.inr q2)⟩⟩⟩
      refine own_one hn h3 h9 hm' hw' hd' hcon hp q (fun τ1 f f1 b1 V hf4 hfc => ?_)
      have fo : Fr owsW τ τ1 := f1.mono (fun a i z => by unfold ownW at z; unfold owsW; omega)
      have ownf : ∀ c : Int, c = 1 ∨ c = 2 → ((if f = 3 then 0 else f) = c ↔ Own m (clB bd dd) c p) := by
        intro c hc2
        rw [own_val hf4 hc2, hfc c hc2, hfc (3 - c) (c3 hc2)]
        exact ⟨fun z => ⟨q, z⟩, fun z => z.2⟩
      -- the points of the flood are marked
      have := upto (N := m * m) (Q := fun i τ' => L_X10_owners_206 X (d + 1) n (zpV (fun σ' => Fr owsW σ σ' ∧ ∀ q, q < m * m → clB bd dd q = 0 → ∀ c : Int, c = 1 ∨ c = 2 → (gI σ' 99 q = c ↔ Own m (clB bd dd) c q))) (p : Int) f (i : Int) τ') (I := fun i τ' => Fr (fun a i => a = 99 ∨ a = 100) τ1 τ' ∧ (∀ r, r < i → Rch m (fun x => clB bd dd x = 0) p r → gI τ' 100 r = 1 ∧ gI τ' 99 r = (if f = 3 then 0 else f)) ∧ ∀ r, (i ≤ r ∨ ¬ Rch m (fun x => clB bd dd x = 0) p r) → gI τ' 100 r = gI τ1 100 r ∧ gI τ' 99 r = gI τ1 99 r) ?_ ?_ 0 τ1 (by omega) ⟨Fr.rf, fun r hr => by omega, fun _ _ => ⟨rfl, rfl⟩⟩
      · simpa using this
      · rintro τ' ⟨f', a1, a2⟩
        have ff : Fr owsW σ τ' := (hf.tr fo).tr (f'.mono (fun a i z => by unfold owsW; omega))
        have e100 : ∀ r, gI τ1 100 r = gI τ 100 r := fun r => f1.I (by unfold ownW; omega)
        have e99 : ∀ r, gI τ1 99 r = gI τ 99 r := fun r => f1.I (by unfold ownW; omega)
        refine b_X10_owners_206 hn ?_
        rw [ff.I (by unfold owsW; omega), hm, mm]
        refine ⟨⟨by omega, by omega⟩, fun _ => ⟨r1, ?_⟩, fun z => by omega⟩
        have := ih τ' ⟨ff, fun r hr => ?_, fun r hr hz c hc2 => ?_⟩
        · simpa using this
        · by_cases z : Rch m (fun x => clB bd dd x = 0) p r
          · rw [(a1 r hr z).1]
            exact ⟨fun _ => ⟨p, by omega, q, z⟩, fun _ => by omega⟩
          · rw [(a2 r (Or.inr z)).1, e100, hI.1 r hr]
            constructor
            · rintro ⟨s, s1, s2, s3⟩; exact ⟨s, by omega, s2, s3⟩
            · rintro ⟨s, s1, s2, s3⟩
              by_cases e : s = p
              · subst e; exact absurd s3 z
              · exact ⟨s, by omega, s2, s3⟩
        · by_cases z : Rch m (fun x => clB bd dd x = 0) p r
          · rw [(a1 r hr z).2, ownf c hc2, Own.same q z]
          · rw [(a2 r (Or.inr z)).1, e100] at hz
            rw [(a2 r (Or.inr z)).2, e99]
            exact hI.2 r hr hz c hc2
      · rintro i τ' hi ⟨f', a1, a2⟩ ih2
        have ti : ((i : Int)).toNat = i := by omega
        have ff : Fr owsW σ τ' := (hf.tr fo).tr (f'.mono (fun a i z => by unfold owsW; omega))
        have hV := V i (by omega)
        have hbi := b1 i (by omega)
        have ri : R32 ((i : Int) + 1) := ⟨by omega, by omega⟩
        refine b_X10_owners_206 hn ?_
        rw [ff.I (a := 73) (by unfold owsW; omega), hm, mm, ti, f'.I (a := 85) (by omega)]
        have mark : gI τ1 85 i = 1 → ∀ y : Int, y = (if f = 3 then 0 else f) → L_X10_owners_206 X (d + 1) n (zpV (fun σ' => Fr owsW σ σ' ∧ ∀ q, q < m * m → clB bd dd q = 0 → ∀ c : Int, c = 1 ∨ c = 2 → (gI σ' 99 q = c ↔ Own m (clB bd dd) c q))) (p : Int) f ((i : Int) + 1) (sI (sI τ' 100 i 1) 99 i y) := by
          intro hin y hy
          have := ih2 (sI (sI τ' 100 i 1) 99 i y) ⟨(f'.sI (Or.inr rfl)).sI (Or.inl rfl), fun r hr hz => ?_, fun r hr => ?_⟩
          · simpa using this
          · by_cases e : r = i
            · subst e; simp [gI_if, hy]
            · have := a1 r (by omega) hz
              simp [gI_if, e, this]
          · have e : r ≠ i := by
              intro e
              subst e
              rcases hr with hr | hr
              · omega
              · exact hr (hV.mp hin)
            have := a2 r (by rcases hr with hr | hr; exact Or.inl (by omega); exact Or.inr hr)
            simp [gI_if, e, this]
        refine ⟨⟨by omega, by omega⟩, fun z => by omega, fun _ => ⟨by omega, fun z => ⟨fun z2 => ⟨ri, mark (by omega) f (by rw [if_neg z2])⟩, fun z2 => ⟨ri, mark (by omega) 0 (by rw [if_pos z2])⟩⟩, fun z => ⟨ri, ?_⟩⟩⟩
        have hno : ¬ Rch m (fun x => clB bd dd x = 0) p i := fun w => by have := hV.mpr w; omega
        have := ih2 τ' ⟨f', fun r hr hz => ?_, fun r hr => a2 r (by rcases hr with hr | hr; exact Or.inl (by omega); exact Or.inr hr)⟩
        · simpa using this
        · by_cases e : r = i
          · rw [e] at hz; exact absurd hz hno
          · exact a1 r (by omega) hz
  · rintro i τ hi ⟨hf, hz⟩ ih
    have ti : ((i : Int)).toNat = i := by omega
    refine b_X10_owners_2 hn ⟨fun q => by omega, fun _ => ⟨by omega, ⟨by omega, by omega⟩, ?_⟩⟩
    rw [ti]
    have := ih (sI (sI τ 99 i 0) 100 i 0) ⟨(hf.sI (by unfold owsW; omega)).sI (by unfold owsW; omega), fun q hq => ?_⟩
    · simpa using this
    · by_cases e : q = i
      · subst e; exact gI_same _ _ _ _
      · rw [gI_f e, gI_c (by omega)]; exact hz q (by omega)
theorem mtaken_loop (hn : 104 ≤ n) {g m k : Nat} {c tc : Int} {T : ATr} {P : Int → ZSto → Prop} (hg : g < 2) (hM : MTr σ g m k c T) (hW : TW m k T) :
    ∀ (f : Nat) (x : Int) (z : Nat) (s : Int), -1 ≤ x → x < k → x < f → z + f ≤ 250 → 0 ≤ s → s ≤ 81 * z → P (s + SumW T tc f x) σ → L_X10_taken_7 X d n (zpI P) tc s (mX g x) σ := by
  have hk2 := hW.2.2.1
  intro f
  induction f with
  | zero =>
    intro x z s h1 h2 h3 hz h4 h5 hP
    rw [mX_n (by omega)]
    have fin : P s σ := by have : s + SumW T tc 0 x = s := by show s + 0 = s; omega
                           rw [this] at hP; exact hP
    exact b_X10_taken_7 hn ⟨fun _ => fin, fun q => by omega⟩
  | succ f ih =>
    intro x z s h1 h2 h3 hz h4 h5 hP
    by_cases hx : x = -1
    · subst hx
      rw [mX_n (by omega)]
      have fin : P s σ := by have : s + SumW T tc (f + 1) (-1) = s := by show s + (if (-1 : Int) < 0 then 0 else _) = s; rw [if_pos (by omega)]; omega
                             rw [this] at hP; exact hP
      exact b_X10_taken_7 hn ⟨fun _ => fin, fun q => by omega⟩
    · obtain ⟨i, rfl⟩ : ∃ i : Nat, x = (i : Int) := ⟨x.toNat, by omega⟩
      have hi : i < k := by omega
      have ti : ((i : Int)).toNat = i := by omega
      obtain ⟨r1, r2, r3, r4, r5, -⟩ := hM.2.2.2 i hi
      have htok := (hW.2.2.2 i hi).2.2.2.2.2.2.2.1
      have hpb := hW.parb hi
      have tK : (((250 * g + i : Nat)) : Int).toNat = 250 * g + i := by omega
      have eS : SumW T tc (f + 1) (i : Int) = (if tCol T i = tc then tTok T i else 0) + SumW T tc f (tPar T i) := by
        show (if (i : Int) < 0 then 0 else _) = _
        rw [if_neg (by omega), ti]
      rw [eS] at hP
      rw [mX_p]
      refine b_X10_taken_7 hn ?_
      rw [tK, r1, r3, r5]
      refine ⟨fun q => by omega, fun _ => ⟨by omega, fun q y hy => ⟨⟨by omega, by omega⟩, ?_⟩, fun q y hy y2 hy2 => ⟨⟨by omega, by omega⟩, ?_⟩⟩⟩
      · have hy : y = mX g (tPar T i) := hy
        rw [hy]
        rw [if_neg q] at hP
        exact ih (tPar T i) (z + 1) (s + 0) (by omega) (by omega) (by omega) (by omega) (by omega) (by omega) (by rw [show s + 0 + SumW T tc f (tPar T i) = s + (0 + SumW T tc f (tPar T i)) by omega]; exact hP)
      · have hy2 : y2 = mX g (tPar T i) := hy2
        rw [hy2]
        rw [if_pos q] at hP
        exact ih (tPar T i) (z + 1) y (by omega) (by omega) (by omega) (by omega) (by omega) (by omega) (by rw [show y + SumW T tc f (tPar T i) = s + (tTok T i + SumW T tc f (tPar T i)) by omega]; exact hP)
theorem sm_taken (hn : 104 ≤ n) {g m k pl : Nat} {c tc : Int} {T : ATr} (hg : g < 2) (hM : MTr σ g m k c T) (hW : TW m k T) (e11 : gI σ 73 11 = ((250 * g + pl : Nat) : Int)) (hpk : pl < k) (htc : R32 tc) :
    ZkI X M_X10_taken (d + 1) n [.ref (zB X + 73), iV tc] σ (fun v σ' => σ = σ' ∧ v = SumW T tc 250 (pl : Int)) := by
  have hk2 := hW.2.2.1
  refine w_X10_taken hn htc (fun y hy => ?_)
  rw [e11, ← mX_p] at hy
  rw [hy]
  exact mtaken_loop hn hg hM hW 250 (pl : Int) 0 0 (by omega) (by omega) (by omega) (by omega) (by omega) (by omega) ⟨rfl, by omega⟩
end ZW
