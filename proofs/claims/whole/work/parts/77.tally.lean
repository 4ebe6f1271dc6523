/-! ===== parts of a board, gathered one after the other ===== -/
def VisS (σ : ZSto) (o m : Nat) (S : Nat → Prop) (e : Int) (p : Nat) : Prop := ∀ q, q < m * m → (e < gI σ (o + 4) q ↔ ∃ r, r < p ∧ S r ∧ Rch m S r q)
theorem VisS.skip {σ : ZSto} {o m p : Nat} {S : Nat → Prop} {e : Int} (h : VisS σ o m S e p) (hp : p < m * m) (hz : ¬ S p ∨ e < gI σ (o + 4) p) : VisS σ o m S e (p + 1) := by
  intro q hq
  rw [h q hq]
  constructor
  · rintro ⟨r, r1, r2, r3⟩; exact ⟨r, by omega, r2, r3⟩
  · rintro ⟨r, r1, r2, r3⟩
    by_cases e1 : r = p
    · subst e1
      rcases hz with z | z
      · exact absurd r2 z
      · obtain ⟨t, t1, t2, t3⟩ := (h r hp).mp z
        exact ⟨t, t1, t2, t3.tr r3⟩
    · exact ⟨r, by omega, r2, r3⟩
theorem VisS.go {σ σ' : ZSto} {o m p : Nat} {bd : Nat → Int} {S : Nat → Prop} {e : Int} (h : VisS σ o m S e p) (hs : S p) (he : e ≤ gI σ o 10) (hG : Gth σ σ' o m bd S p) : VisS σ' o m S e (p + 1) := by
  intro q hq
  have hV := hG.2.2.1 q
  constructor
  · intro hz
    by_cases z : gI σ' (o + 4) q = gI σ o 10 + 1
    · exact ⟨p, by omega, hs, hV.mp z⟩
    · rw [(hG.2.2.2.2.2.2.2.2.2.2 q).1 z] at hz
      obtain ⟨r, r1, r2, r3⟩ := (h q hq).mp hz
      exact ⟨r, by omega, r2, r3⟩
  · rintro ⟨r, r1, r2, r3⟩
    by_cases e1 : r = p
    · subst e1
      rw [hV.mpr r3]; omega
    · have := (h q hq).mpr ⟨r, by omega, r2, r3⟩
      by_cases z : gI σ' (o + 4) q = gI σ o 10 + 1
      · omega
      · rw [(hG.2.2.2.2.2.2.2.2.2.2 q).1 z]; exact this
theorem VisS.start {σ : ZSto} {o m : Nat} {S : Nat → Prop} (h : BMk σ o) : VisS σ o m S (gI σ o 10) 0 := by
  intro q _
  have := (h.2 q).1
  constructor
  · intro z; omega
  · rintro ⟨r, r1, -⟩; omega
theorem Rim.same {m p q : Nat} {S : Nat → Prop} (hp : S p) (h : Rch m S p q) (r : Nat) : Rim m S q r ↔ Rim m S p r := by
  constructor
  · rintro ⟨h1, a, h2, h3⟩; exact ⟨h1, a, h.tr h2, h3⟩
  · rintro ⟨h1, a, h2, h3⟩; exact ⟨h1, a, (h.symm hp).tr h2, h3⟩
/-- the board without the dead -/
def clB (bd dd : Nat → Int) : Nat → Int := fun p => if dd p = 0 then bd p else 0
theorem clB_con {m : Nat} {bd dd : Nat → Int} (h : BCon m bd) : BCon m (clB bd dd) := by
  intro p hp
  unfold clB
  split
  · exact h p hp
  · exact Or.inl rfl
/-- an empty point of the cleared board that borders on c alone -/
def Own (m : Nat) (cl : Nat → Int) (c : Int) (q : Nat) : Prop := cl q = 0 ∧ (∃ r, Rim m (fun x => cl x = 0) q r ∧ cl r = c) ∧ ¬ ∃ r, Rim m (fun x => cl x = 0) q r ∧ cl r = 3 - c
theorem Own.same {m p q : Nat} {cl : Nat → Int} {c : Int} (hp : cl p = 0) (h : Rch m (fun x => cl x = 0) p q) : Own m cl c q ↔ Own m cl c p := by
  have hq : cl q = 0 := h.inS (S := fun x => cl x = 0) hp
  have e : ∀ v : Int, (∃ r, Rim m (fun x => cl x = 0) q r ∧ cl r = v) ↔ ∃ r, Rim m (fun x => cl x = 0) p r ∧ cl r = v := by
    intro v
    constructor
    · rintro ⟨r, h1, h2⟩; exact ⟨r, (Rim.same (S := fun x => cl x = 0) hp h r).mp h1, h2⟩
    · rintro ⟨r, h1, h2⟩; exact ⟨r, (Rim.same (S := fun x => cl x = 0) hp h r).mpr h1, h2⟩
  unfold Own
  rw [e, e]
  constructor
  · rintro ⟨_, h⟩; exact ⟨hp, h⟩
  · rintro ⟨_, h⟩; exact ⟨hq, h⟩
section ZY
variable {X : ZX} {d n : Nat} {σ : ZSto}
theorem sp_fillI (hn : 73 ≤ n) {a z : Nat} {x : Int} (ha : a < n) (hs : SH a = some (.inl (.int, z))) (hx : R32 x) : ZkV X M_J7_fill_53178 (d + 1) n [.ref (zB X + a), iV x] σ (fun σ' => Fr (fun b i => b = a) σ σ' ∧ ∀ i, i < z → gI σ' a i = x) := by
  have hl := zSh_len hs
  refine w_J7_fill_53178 hn ha hs hx ?_
  have := upto (N := z) (Q := fun i τ => L_J7_fill_53178_5 X d n (zpV (fun σ' => Fr (fun b i => b = a) σ σ' ∧ ∀ i, i < z → gI σ' a i = x)) a z x (i : Int) (z : Int) τ) (I := fun i τ => Fr (fun b i => b = a) σ τ ∧ ∀ j, j < i → gI τ a j = x) (fun τ h => b_J7_fill_53178_5 hn ha hs ⟨fun _ => h, fun q => by omega⟩) ?_ 0 σ (by omega) ⟨Fr.rf, fun j hj => by omega⟩
  · simpa using this
  · rintro i τ hi ⟨hf, hq⟩ ih
    refine b_J7_fill_53178_5 hn ha hs ⟨fun q => by omega, fun q => ⟨by omega, ⟨by omega, by omega⟩, ?_⟩⟩
    have ti : ((i : Int)).toNat = i := by omega
    rw [ti]
    have := ih (sI τ a i x) ⟨hf.sI rfl, fun j hj => ?_⟩
    · simpa using this
    · by_cases e : j = i
      · subst e; exact gI_same _ _ _ _
      · rw [gI_f e]; exact hq j (by omega)
theorem surv1_loop (hn : 73 ≤ n) {m : Nat} {bd dd : Nat → Int} {P : ZSto → Prop} {σ0 : ZSto} (hB : BOk σ0 33 m bd) (hT : BOk σ0 41 m bd) (hd : ∀ p, p < m * m → gI σ0 68 p = dd p) (h70 : ∀ c : Nat, c < 3 → gI σ0 70 c = 0)
    (hP : ∀ τ : ZSto, Fr (fun a i => a = 70 ∨ a = 42) σ0 τ → BOk τ 41 m (clB bd dd) → (∀ c : Nat, c = 1 ∨ c = 2 → gI τ 70 c = (cnt (fun q => dd q ≠ 0 ∧ bd q = (c : Int)) (m * m) : Nat)) → L_X6_survey_102 X (d + 2) n (zpV P) (gI τ 41 10) 0 τ) :
    L_X6_survey_29 X (d + 2) n (zpV P) 0 σ0 := by
  have hN := sq_le hB.1.2.1
  have := upto (N := m * m) (Q := fun i τ => L_X6_survey_29 X (d + 2) n (zpV P) (i : Int) τ) (I := fun i τ => Fr (fun a i => a = 70 ∨ a = 42) σ0 τ ∧ (∀ c : Nat, c = 1 ∨ c = 2 → gI τ 70 c = (cnt (fun q => dd q ≠ 0 ∧ bd q = (c : Int)) i : Nat)) ∧ ∀ q, q < m * m → gI τ 42 q = if q < i then clB bd dd q else bd q) ?_ ?_ 0 σ0 (by omega) ⟨Fr.rf, fun c hc => by rw [h70 c (by omega)]; rfl, fun q hq => by rw [if_neg (by omega)]; exact hT.2.2.1 q hq⟩
  · simpa using this
  · rintro τ ⟨hf, hc, hs⟩
    have hT' : BOk τ 41 m (clB bd dd) := by
      obtain ⟨⟨a1, a2, a3, a4, a5⟩, -, -, m1, m2⟩ := hT
      exact ⟨⟨a1, a2, by rw [hf.I (by omega)]; exact a3, by rw [hf.I (by omega)]; exact a4, fun p hp dd hd => by rw [hf.I (by omega)]; exact a5 p hp dd hd⟩, clB_con hB.2.1, fun p hp => by rw [hs p hp, if_pos hp], by rw [hf.I (by omega)]; exact m1, fun q => by rw [hf.I (by omega), hf.I (by omega), hf.I (by omega)]; exact m2 q⟩
    refine b_X6_survey_29 hn ?_
    rw [hf.I (a := 33) (by omega), hB.1.2.2.2.1]
    exact ⟨fun _ y hy => by rw [hy]; exact hP τ hf hT' hc, fun q => by omega⟩
  · rintro i τ hi ⟨hf, hc, hs⟩ ih
    have ti : ((i : Int)).toNat = i := by omega
    have hB' : BOk τ 33 m bd := hB.kept hf (fun a i q => by unfold brdW at q; omega)
    have hbi := hB.2.1 i hi
    have r1 : R32 ((i : Int) + 1) := ⟨by omega, by omega⟩
    -- nothing changes at i
    have same : (dd i = 0 ∨ bd i = 0) → L_X6_survey_29 X (d + 2) n (zpV P) ((i : Int) + 1) τ := by
      intro hz
      have := ih τ ⟨hf, fun c hc2 => ?_, fun q hq => ?_⟩
      · simpa using this
      · rw [cnt_n (P := fun q => dd q ≠ 0 ∧ bd q = (c : Int)) (n := i) (fun z => by omega)]; exact hc c hc2
      · rw [hs q hq]
        by_cases e : q = i
        · subst e
          rw [if_neg (by omega), if_pos (by omega)]
          unfold clB
          split <;> omega
        · by_cases e2 : q < i
          · rw [if_pos e2, if_pos (by omega)]
          · rw [if_neg e2, if_neg (by omega)]
    refine b_X6_survey_29 hn ?_
    rw [hf.I (a := 33) (by omega), hB.1.2.2.2.1, ti, hf.I (a := 68) (by omega), hd i hi]
    refine ⟨fun q => by omega, fun _ => ⟨by omega, fun q => ⟨r1, same (Or.inl q)⟩, fun q => (sp_hasStone hn (Or.inl rfl) hB'.1 hB'.2.1 hB'.2.2.1 (x := (i : Int)) ⟨by omega, by omega⟩).mono ?_⟩⟩
    rintro v _ - ⟨rfl, ⟨rfl, hv⟩ | ⟨rfl, hv⟩⟩
    · rw [ti] at hv
      refine ⟨fun z => by omega, fun _ => (sp_contentAt hn (Or.inl rfl) hB'.1 hB'.2.2.1 hi).mono ?_⟩
      rintro v2 _ - ⟨rfl, rfl⟩
      obtain ⟨c, hc2, ec⟩ : ∃ c : Nat, (c = 1 ∨ c = 2) ∧ bd i = (c : Int) := by
        have := hv.2.2
        rcases hbi with z | z | z
        · omega
        · exact ⟨1, Or.inl rfl, z⟩
        · exact ⟨2, Or.inr rfl, z⟩
      have tc : (bd i).toNat = c := by omega
      have hcl := cnt_le (fun q => dd q ≠ 0 ∧ bd q = (c : Int)) i
      rw [tc, hc c hc2]
      refine ⟨by omega, ⟨by omega, by omega⟩, ?_⟩
      obtain ⟨τ1, e1⟩ : ∃ τ1, τ1 = sI τ 70 c (((cnt (fun q => dd q ≠ 0 ∧ bd q = (c : Int)) i : Nat) : Int) + 1) := ⟨_, rfl⟩
      rw [← e1]
      have f1 : Fr (fun a i => a = 70 ∨ a = 42) σ0 τ1 := by rw [e1]; exact hf.sI (Or.inl rfl)
      have hg : BGeo τ1 41 m := by
        obtain ⟨⟨a1, a2, a3, a4, a5⟩, -⟩ := hT
        exact ⟨a1, a2, by rw [f1.I (by omega)]; exact a3, by rw [f1.I (by omega)]; exact a4, fun p hp dd hd => by rw [f1.I (by omega)]; exact a5 p hp dd hd⟩
      refine (sp_lay hn (Or.inr rfl) hg hi (by omega)).mono ?_
      rintro τ2 rfl
      refine ⟨r1, ?_⟩
      have := ih (sI τ1 42 i 0) ⟨f1.sI (Or.inr rfl), fun c' hc' => ?_, fun q hq => ?_⟩
      · simpa using this
      · rw [gI_c (by omega), e1]
        by_cases e : c' = c
        · subst e
          rw [gI_same, cnt_s (P := fun q => dd q ≠ 0 ∧ bd q = (c' : Int)) (n := i) ⟨q, ec⟩]; simp
        · rw [gI_f e, hc c' hc', cnt_n (P := fun q => dd q ≠ 0 ∧ bd q = (c' : Int)) (n := i) (fun z => by omega)]
      · by_cases e : q = i
        · subst e
          rw [gI_same, if_pos (by omega)]
          unfold clB
          rw [if_neg ‹_›]
        · rw [gI_f e, e1, gI_c (by omega), hs q hq]
          by_cases e2 : q < i
          · rw [if_pos e2, if_pos (by omega)]
          · rw [if_neg e2, if_neg (by omega)]
    · rw [ti] at hv
      exact ⟨fun _ => ⟨r1, same (Or.inr (by omega))⟩, fun z => by omega⟩
theorem sp_giveToOwner (hn : 73 ≤ n) {b w : Prop} {k x1 x2 : Nat} (h1 : gI σ 47 1 ≤ 0 ↔ ¬ b) (h2 : gI σ 47 2 ≤ 0 ↔ ¬ w) (hk : gI σ 41 9 = (k : Int)) (e1 : gI σ 69 1 = (x1 : Int)) (e2 : gI σ 69 2 = (x2 : Int)) (hk2 : k ≤ 1000) (hx1 : x1 ≤ 1000) (hx2 : x2 ≤ 1000) :
    ZkV X M_X6_giveToOwner (d + 1) n [.ref (zB X + 67)] σ (fun σ' => Fr (fun a i => a = 69) σ σ' ∧ ((b ∧ ¬ w → gI σ' 69 1 = ((x1 + k : Nat) : Int)) ∧ (¬ (b ∧ ¬ w) → gI σ' 69 1 = (x1 : Int))) ∧ ((w ∧ ¬ b → gI σ' 69 2 = ((x2 + k : Nat) : Int)) ∧ (¬ (w ∧ ¬ b) → gI σ' 69 2 = (x2 : Int)))) := by
  refine w_X6_giveToOwner hn ⟨fun q1 => b_X6_giveToOwner_17 hn ⟨fun q2 => b_X6_giveToOwner_35 hn ?_, fun q2 => b_X6_giveToOwner_35 hn ?_⟩, fun q1 => b_X6_giveToOwner_17 hn ⟨fun q2 => b_X6_giveToOwner_35 hn ?_, fun q2 => b_X6_giveToOwner_35 hn ?_⟩⟩
  · have z1 := h1.mp q1
    have z2 := h2.mp q2
    exact ⟨fun _ => ⟨Fr.rf, ⟨fun z => absurd z.1 z1, fun _ => e1⟩, ⟨fun z => absurd z.1 z2, fun _ => e2⟩⟩, fun z => absurd rfl z⟩
  · have z1 := h1.mp q1
    have z2 : w := Classical.byContradiction (fun z => q2 (h2.mpr z))
    rw [hk, e1, e2]
    refine ⟨fun z => by omega, fun _ => ⟨fun _ => ⟨⟨by omega, by omega⟩, Fr.rf.sI rfl, ⟨fun z => absurd z.1 z1, fun _ => by rw [gI_f (by omega)]; exact e1⟩, ⟨fun _ => by rw [gI_same]; omega, fun z => absurd ⟨z2, z1⟩ z⟩⟩, fun z => absurd rfl z⟩⟩
  · have z1 : b := Classical.byContradiction (fun z => q1 (h1.mpr z))
    have z2 := h2.mp q2
    rw [hk, e1, e2]
    refine ⟨fun z => by omega, fun _ => ⟨fun z => by omega, fun _ => ⟨⟨by omega, by omega⟩, Fr.rf.sI rfl, ⟨fun _ => by rw [gI_same]; omega, fun z => absurd ⟨z1, z2⟩ z⟩, ⟨fun z => absurd z.1 z2, fun _ => by rw [gI_f (by omega)]; exact e2⟩⟩⟩⟩
  · have z1 : b := Classical.byContradiction (fun z => q1 (h1.mpr z))
    have z2 : w := Classical.byContradiction (fun z => q2 (h2.mpr z))
    exact ⟨fun _ => ⟨Fr.rf, ⟨fun z => absurd z2 z.2, fun _ => e1⟩, ⟨fun z => absurd z1 z.2, fun _ => e2⟩⟩, fun z => absurd rfl z⟩
theorem surv2_loop (hn : 73 ≤ n) {m : Nat} {cl : Nat → Int} {P : ZSto → Prop} {σ0 : ZSto} (hB : BOk σ0 41 m cl) (hg : gI σ0 41 10 < 1999999000) (h69 : gI σ0 69 1 = 0 ∧ gI σ0 69 2 = 0)
    (hP : ∀ τ : ZSto, Fr (fun a i => gatW 41 a i ∨ a = 69) σ0 τ → BOk τ 41 m cl → gI τ 41 10 ≤ gI σ0 41 10 + 81 → (∀ c : Nat, c = 1 ∨ c = 2 → gI τ 69 c = (cnt (Own m cl (c : Int)) (m * m) : Nat)) → P τ) :
    L_X6_survey_102 X (d + 2) n (zpV P) (gI σ0 41 10) 0 σ0 := by
  have hN := sq_le hB.1.2.1
  have hg0 := hB.2.2.2.1
  obtain ⟨g0, eg0⟩ : ∃ g0, g0 = gI σ0 41 10 := ⟨_, rfl⟩
  rw [← eg0] at hg hg0 hP ⊢
  have := upto (N := m * m) (Q := fun i τ => L_X6_survey_102 X (d + 2) n (zpV P) g0 (i : Int) τ) (I := fun i τ => Fr (fun a i => gatW 41 a i ∨ a = 69) σ0 τ ∧ BOk τ 41 m cl ∧ g0 ≤ gI τ 41 10 ∧ gI τ 41 10 ≤ g0 + i ∧ VisS τ 41 m (fun x => cl x = 0) g0 i ∧ ∀ c : Nat, c = 1 ∨ c = 2 → gI τ 69 c = (cnt (fun q => (∃ r, r < i ∧ cl r = 0 ∧ Rch m (fun x => cl x = 0) r q) ∧ Own m cl (c : Int) q) (m * m) : Nat)) ?_ ?_ 0 σ0 (by omega) ⟨Fr.rf, hB, by omega, by omega, by rw [eg0]; exact VisS.start hB.2.2.2, fun c hc => ?_⟩
  · simpa using this
  · rintro τ ⟨hf, hb, g1, g2, hv, hc⟩
    refine b_X6_survey_102 hn ?_
    rw [hb.1.2.2.2.1]
    refine ⟨fun _ => hP τ hf hb (by omega) (fun c hc2 => ?_), fun q => by omega⟩
    rw [hc c hc2]
    congr 1
    exact cnt_congr (fun q hq => ⟨fun z => z.2, fun z => ⟨⟨q, hq, z.1, Rch.rf⟩, z⟩⟩)
  · rintro i τ hi ⟨hf, hb, g1, g2, hv, hc⟩ ih
    have r1 : R32 ((i : Int) + 1) := ⟨by omega, by omega⟩
    have skip : (¬ cl i = 0 ∨ g0 < gI τ (41 + 4) i) → L_X6_survey_102 X (d + 2) n (zpV P) g0 ((i : Int) + 1) τ := by
      intro hz
      have hv' := hv.skip hi hz
      have := ih τ ⟨hf, hb, g1, by omega, hv', fun c hc2 => ?_⟩
      · simpa using this
      · rw [hc c hc2]
        congr 1
        exact cnt_congr (fun q hq => by rw [← hv q hq, ← hv' q hq])
    refine b_X6_survey_102 hn ?_
    rw [hb.1.2.2.2.1]
    refine ⟨fun q => by omega, fun _ => (sp_contentAt hn (Or.inr rfl) hb.1 hb.2.2.1 hi).mono ?_⟩
    rintro v _ - ⟨rfl, rfl⟩
    refine ⟨fun q => ⟨r1, skip (Or.inl q)⟩, fun q => (sp_gatheredSince hn (Or.inr rfl) hb.1 hi ⟨by omega, by omega⟩).mono ?_⟩
    rintro v _ - ⟨rfl, ⟨rfl, hz⟩ | ⟨rfl, hz⟩⟩
    · exact ⟨fun _ => ⟨r1, skip (Or.inr hz)⟩, fun z => by omega⟩
    · refine ⟨fun z => absurd rfl z, fun _ => ?_⟩
      have hG := sp_gather (X := X) (d := d + 1) (mask := 1) (S := fun x => cl x = 0) hn (Or.inr rfl) hb.1 hb.2.1 hb.2.2.1 hb.2.2.2 hi q (by omega) ⟨by omega, by omega⟩ (fun r hr => by rcases hb.2.1 r hr with z | z | z <;> rw [z] <;> decide)
      refine hG.mono ?_
      intro τ1 hG1
      have hb1 := hG1.ok hb
      have hcl : ∀ c : Nat, c = 1 ∨ c = 2 → cnt (fun q => (∃ r, r < i ∧ cl r = 0 ∧ Rch m (fun x => cl x = 0) r q) ∧ Own m cl (c : Int) q) (m * m) ≤ 81 := fun c _ => by have := cnt_le (fun q => (∃ r, r < i ∧ cl r = 0 ∧ Rch m (fun x => cl x = 0) r q) ∧ Own m cl (c : Int) q) (m * m); omega
      have hkl := cnt_le (Rch m (fun x => cl x = 0) i) (m * m)
      have rimC : ∀ c : Nat, c = 1 ∨ c = 2 → (gI τ1 47 c ≤ 0 ↔ ¬ ∃ r, Rim m (fun x => cl x = 0) i r ∧ cl r = (c : Int)) := by
        intro c hc2
        have e := hG1.2.2.2.2.2.2.2.1 c (by omega)
        rw [show 41 + 6 = 47 by omega] at e
        rw [e]
        constructor
        · rintro z ⟨r, h1, h2⟩
          have := cnt_pos (P := fun q => Rim m (fun x => cl x = 0) i q ∧ cl q = (c : Int)) h1.lt ⟨h1, h2⟩
          omega
        · intro z
          rw [cnt_0 (fun r _ h => z ⟨r, h⟩)]; simp
      have e69 : ∀ c : Nat, gI τ1 69 c = gI τ 69 c := fun c => hG1.1.I (by unfold gatW; omega)
      refine (sp_giveToOwner hn (rimC 1 (Or.inl rfl)) (rimC 2 (Or.inr rfl)) hG1.2.2.2.2.1 (by rw [e69]; exact hc 1 (Or.inl rfl)) (by rw [e69]; exact hc 2 (Or.inr rfl)) (by omega) (by have := hcl 1 (Or.inl rfl); omega) (by have := hcl 2 (Or.inr rfl); omega)).mono ?_
      rintro τ2 ⟨f2, ⟨p1, p2⟩, ⟨p3, p4⟩⟩
      refine ⟨r1, ?_⟩
      have hv1 := hv.go (S := fun x => cl x = 0) q (by omega) hG1
      have g1' : gI τ2 41 10 = gI τ 41 10 + 1 := by rw [f2.I (by omega)]; exact hG1.2.1
      have hv2 : VisS τ2 41 m (fun x => cl x = 0) g0 (i + 1) := fun r hr => by rw [f2.I (by omega)]; exact hv1 r hr
      -- the count grows by the region if it is owned
      have grow : ∀ c : Nat, c = 1 ∨ c = 2 → (Own m cl (c : Int) i → cnt (fun q => (∃ r, r < i + 1 ∧ cl r = 0 ∧ Rch m (fun x => cl x = 0) r q) ∧ Own m cl (c : Int) q) (m * m) = cnt (fun q => (∃ r, r < i ∧ cl r = 0 ∧ Rch m (fun x => cl x = 0) r q) ∧ Own m cl (c : Int) q) (m * m) + cnt (Rch m (fun x => cl x = 0) i) (m * m)) ∧ (¬ Own m cl (c : Int) i → cnt (fun q => (∃ r, r < i + 1 ∧ cl r = 0 ∧ Rch m (fun x => cl x = 0) r q) ∧ Own m cl (c : Int) q) (m * m) = cnt (fun q => (∃ r, r < i ∧ cl r = 0 ∧ Rch m (fun x => cl x = 0) r q) ∧ Own m cl (c : Int) q) (m * m)) := by
        intro c hc2
        have hnv : ¬ ∃ r, r < i ∧ cl r = 0 ∧ Rch m (fun x => cl x = 0) r i := fun z => hz ((hv i hi).mpr z)
        have split : ∀ r : Nat, (∃ s, s < i + 1 ∧ cl s = 0 ∧ Rch m (fun x => cl x = 0) s r) ↔ ((∃ s, s < i ∧ cl s = 0 ∧ Rch m (fun x => cl x = 0) s r) ∨ Rch m (fun x => cl x = 0) i r) := by
          intro r
          constructor
          · rintro ⟨s, s1, s2, s3⟩
            by_cases e : s = i
            · subst e; exact Or.inr s3
            · exact Or.inl ⟨s, by omega, s2, s3⟩
          · rintro (⟨s, s1, s2, s3⟩ | s3)
            · exact ⟨s, by omega, s2, s3⟩
            · exact ⟨i, by omega, q, s3⟩
        refine ⟨fun ho => ?_, fun ho => cnt_congr (fun r hr => ?_)⟩
        · rw [← cnt_or]
          · refine cnt_congr (fun r hr => ?_)
            rw [split]
            constructor
            · rintro ⟨a | a, b⟩
              · exact Or.inl ⟨a, b⟩
              · exact Or.inr a
            · rintro (⟨a, b⟩ | a)
              · exact ⟨Or.inl a, b⟩
              · exact ⟨Or.inr a, (Own.same q a).mpr ho⟩
          · rintro r hr ⟨⟨⟨s, s1, s2, s3⟩, _⟩, a⟩
            exact hnv ⟨s, s1, s2, s3.tr (a.symm (S := fun x => cl x = 0) q)⟩
        · rw [split]
          constructor
          · rintro ⟨a | a, b⟩
            · exact ⟨a, b⟩
            · exact absurd ((Own.same q a).mp b) ho
          · rintro ⟨a, b⟩; exact ⟨Or.inl a, b⟩
      have own1 : Own m cl ((1 : Nat) : Int) i ↔ ((∃ r, Rim m (fun x => cl x = 0) i r ∧ cl r = ((1 : Nat) : Int)) ∧ ¬ ∃ r, Rim m (fun x => cl x = 0) i r ∧ cl r = ((2 : Nat) : Int)) := ⟨fun z => z.2, fun z => ⟨q, z⟩⟩
      have own2 : Own m cl ((2 : Nat) : Int) i ↔ ((∃ r, Rim m (fun x => cl x = 0) i r ∧ cl r = ((2 : Nat) : Int)) ∧ ¬ ∃ r, Rim m (fun x => cl x = 0) i r ∧ cl r = ((1 : Nat) : Int)) := ⟨fun z => z.2, fun z => ⟨q, z⟩⟩
      have := ih τ2 ⟨(hf.tr (hG1.1.mono (fun a i z => Or.inl z))).tr (f2.mono (fun a i z => Or.inr z)), hb1.kept f2 (fun a i z => by unfold brdW at z; omega), by omega, by omega, hv2, fun c hc2 => ?_⟩
      · simpa using this
      · rcases hc2 with rfl | rfl
        · by_cases ho : Own m cl ((1 : Nat) : Int) i
          · rw [p1 (own1.mp ho), (grow 1 (Or.inl rfl)).1 ho]
          · rw [p2 (fun z => ho (own1.mpr z)), (grow 1 (Or.inl rfl)).2 ho]
        · by_cases ho : Own m cl ((2 : Nat) : Int) i
          · rw [p3 (own2.mp ho), (grow 2 (Or.inr rfl)).1 ho]
          · rw [p4 (fun z => ho (own2.mpr z)), (grow 2 (Or.inr rfl)).2 ho]
  · rw [cnt_0 (fun q _ z => by obtain ⟨⟨r, h, _⟩, _⟩ := z; omega)]
    rcases hc with rfl | rfl
    · exact h69.1
    · exact h69.2
theorem sp_survey (hn : 73 ≤ n) {m : Nat} {bd dd : Nat → Int} (hB : BOk σ 33 m bd) (hT : BPre σ 41) (hg : gI σ 41 10 < 1999999000) (hd : ∀ p, p < m * m → gI σ 68 p = dd p) :
    ZkV X M_X6_survey (d + 5) n [.ref (zB X + 67)] σ (fun σ' => Fr (fun a i => (41 ≤ a ∧ a ≤ 48) ∨ a = 69 ∨ a = 70) σ σ' ∧ BOk σ' 41 m (clB bd dd) ∧ gI σ' 41 10 ≤ gI σ 41 10 + 81 ∧ ∀ c : Nat, c = 1 ∨ c = 2 → gI σ' 69 c = (cnt (Own m (clB bd dd) (c : Int)) (m * m) : Nat) ∧ gI σ' 70 c = (cnt (fun q => dd q ≠ 0 ∧ bd q = (c : Int)) (m * m) : Nat)) := by
  refine w_X6_survey hn ((sp_fillI hn (a := 69) (z := 3) (by omega) rfl ⟨by omega, by omega⟩).mono ?_)
  rintro σ1 ⟨f1, z1⟩
  refine (sp_fillI hn (a := 70) (z := 3) (by omega) rfl ⟨by omega, by omega⟩).mono ?_
  rintro σ2 ⟨f2, z2⟩
  have f12 : Fr (fun a i => a = 69 ∨ a = 70) σ σ2 := (f1.mono (fun a i q => Or.inl q)).tr (f2.mono (fun a i q => Or.inr q))
  refine (sp_copyOf hn (Or.inr rfl) (Or.inl rfl) (by omega) (hT.kept2 f12 (fun a i q => by unfold brdX at q; omega)) (hB.kept f12 (fun a i q => by unfold brdW at q; omega))).mono ?_
  rintro σ3 ⟨f3, b3⟩
  have f13 : Fr (fun a i => (41 ≤ a ∧ a ≤ 48) ∨ a = 69 ∨ a = 70) σ σ3 := (f12.mono (fun a i q => by omega)).tr (f3.mono (fun a i q => by omega))
  refine surv1_loop hn (hB.kept f13 (fun a i q => by unfold brdW at q; omega)) b3 (dd := dd) (fun p hp => by rw [f13.I (by omega)]; exact hd p hp) (fun c hc => by rw [f3.I (by omega)]; exact z2 c hc) (fun τ hf hb hc => ?_)
  have g3 : gI τ 41 10 = gI σ 41 10 := by rw [hf.I (by omega), f3.I (by omega), f12.I (by omega)]
  refine surv2_loop hn hb (by omega) ⟨by rw [hf.I (by omega), f3.I (by omega), f2.I (by omega)]; exact z1 1 (by omega), by rw [hf.I (by omega), f3.I (by omega), f2.I (by omega)]; exact z1 2 (by omega)⟩ (fun τ' hf' hb' hg' hc' => ?_)
  refine ⟨(f13.tr (hf.mono (fun a i q => by omega))).tr (hf'.mono (fun a i q => by unfold gatW at q; omega)), hb', by omega, fun c hc2 => ⟨hc' c hc2, ?_⟩⟩
  rw [hf'.I (by unfold gatW; omega)]
  exact hc c hc2
end ZY
