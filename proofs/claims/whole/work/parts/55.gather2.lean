/-- the rim of what hangs together with s -/
def Rim (m : Nat) (S : Nat → Prop) (s q : Nat) : Prop := ¬ S q ∧ ∃ a, Rch m S s a ∧ Adj m a q
theorem Rim.lt {m : Nat} {S : Nat → Prop} {s q : Nat} (h : Rim m S s q) : q < m * m := by
  obtain ⟨-, a, -, h2⟩ := h
  exact h2.2.1
/-- what gather leaves -/
def Gth (σ0 σ : ZSto) (o m : Nat) (bd : Nat → Int) (S : Nat → Prop) (s : Nat) : Prop :=
  Fr (gatW o) σ0 σ ∧ gI σ o 10 = gI σ0 o 10 + 1 ∧
  (∀ q, gI σ (o + 4) q = gI σ0 o 10 + 1 ↔ Rch m S s q) ∧ (∀ q, gI σ (o + 5) q = gI σ0 o 10 + 1 ↔ Rim m S s q) ∧
  gI σ o 9 = (cnt (Rch m S s) (m * m) : Nat) ∧
  (∀ i : Nat, (i : Int) < gI σ o 9 → ∃ q : Nat, gI σ (o + 3) i = (q : Int) ∧ Rch m S s q) ∧
  (∀ q, Rch m S s q → ∃ i : Nat, (i : Int) < gI σ o 9 ∧ gI σ (o + 3) i = (q : Int)) ∧
  (∀ c : Nat, c < 3 → gI σ (o + 6) c = (cnt (fun q => Rim m S s q ∧ bd q = (c : Int)) (m * m) : Nat)) ∧
  ((∃ q, Rim m S s q ∧ bd q = 0) → ∃ q : Nat, gI σ o 11 = (q : Int) ∧ Rim m S s q ∧ bd q = 0) ∧
  ((∀ q, Rim m S s q → bd q ≠ 0) → gI σ o 11 = -1) ∧
  (∀ q, (gI σ (o + 4) q ≠ gI σ0 o 10 + 1 → gI σ (o + 4) q = gI σ0 (o + 4) q) ∧ (gI σ (o + 5) q ≠ gI σ0 o 10 + 1 → gI σ (o + 5) q = gI σ0 (o + 5) q))
theorem Gth.mk {σ0 σ : ZSto} {o m : Nat} {bd : Nat → Int} {S : Nat → Prop} {s : Nat} (h : Gth σ0 σ o m bd S s) (hm : BMk σ0 o) : BMk σ o := by
  obtain ⟨-, h10, -, -, -, -, -, -, -, -, hk⟩ := h
  refine ⟨by rw [h10]; have := hm.1; omega, fun q => ?_⟩
  have := hm.2 q
  rw [h10]
  refine ⟨?_, ?_⟩
  · by_cases z : gI σ (o + 4) q = gI σ0 o 10 + 1
    · omega
    · rw [(hk q).1 z]; omega
  · by_cases z : gI σ (o + 5) q = gI σ0 o 10 + 1
    · omega
    · rw [(hk q).2 z]; omega
theorem Gth.geo {σ0 σ : ZSto} {o m : Nat} {bd : Nat → Int} {S : Nat → Prop} {s : Nat} (h : Gth σ0 σ o m bd S s) (hg : BGeo σ0 o m) : BGeo σ o m := by
  obtain ⟨a1, a2, a3, a4, a5⟩ := hg
  refine ⟨a1, a2, by rw [h.1.I (by unfold gatW; omega)]; exact a3, by rw [h.1.I (by unfold gatW; omega)]; exact a4, fun p hp dd hd => by rw [h.1.I (by unfold gatW; omega)]; exact a5 p hp dd hd⟩
theorem Gth.st {σ0 σ : ZSto} {o m : Nat} {bd bd' : Nat → Int} {S : Nat → Prop} {s : Nat} (h : Gth σ0 σ o m bd S s) (hg : BSt σ0 o m bd') : BSt σ o m bd' := fun p hp => by rw [h.1.I (by unfold gatW; omega)]; exact hg p hp
section ZG
variable {X : ZX} {d n : Nat} {σ : ZSto}
theorem sp_gather (hn : 73 ≤ n) {o m : Nat} (ho : zIsB o) {bd : Nat → Int} {mask : Int} {S : Nat → Prop} {s : Nat} (hgeo : BGeo σ o m) (hcon : BCon m bd) (hst : BSt σ o m bd) (hmk : BMk σ o) (hs : s < m * m) (hss : S s) (hb : gI σ o 10 < 2000000000) (hmr : R32 mask)
    (hmask : ∀ q, q < m * m → (andI (shrI mask (bd q)) 1 = 0 ↔ ¬ S q)) :
    ZkV X M_X0_gather (d + 1) n [.ref (zB X + o), iV (s : Int), iV mask] σ (fun σ' => Gth σ σ' o m bd S s) := by
  have hN : m * m ≤ 81 := sq_le hgeo.2.1
  have hg0 := hmk.1
  obtain ⟨g, eg⟩ : ∃ g, g = gI σ o 10 + 1 := ⟨_, rfl⟩
  refine w_X0_gather hn ho ⟨by omega, by omega⟩ hmr ?_
  rw [← eg, hgeo.2.2.2.1]
  refine ⟨⟨by omega, by omega⟩, fun q => by omega, fun q => ⟨fun q2 => ⟨by omega, ?_⟩, fun q2 => by omega⟩⟩
  have ts : ((s : Int)).toNat = s := by omega
  rw [ts]
  obtain ⟨σ1, e1⟩ : ∃ σ1, σ1 = sI (sI (sI (sI (sI (sI (sI (sI (sI σ o 10 g) o 9 0) o 11 (-1)) (o + 6) 0 0) (o + 6) 1 0) (o + 6) 2 0) (o + 4) s g) (o + 3) 0 (s : Int)) o 9 1 := ⟨_, rfl⟩
  have f4 : ∀ q, gI σ1 (o + 4) q = if q = s then g else gI σ (o + 4) q := by intro q; rw [e1]; simp [gI_if]
  have f5 : ∀ q, gI σ1 (o + 5) q = gI σ (o + 5) q := by intro q; rw [e1]; simp [gI_if]
  have n4 : ∀ q, gI σ1 (o + 4) q = g ↔ q = s := by
    intro q; rw [f4]
    by_cases z : q = s
    · simp [z]
    · rw [if_neg z]; have := (hmk.2 q).1; constructor
      · intro w; omega
      · intro w; exact absurd w z
  have n5 : ∀ q, gI σ1 (o + 5) q ≠ g := by intro q; rw [f5]; have := (hmk.2 q).2; omega
  have hfr : Fr (gatW o) σ σ1 := by
    rw [e1]
    refine ((((((((Fr.rf.sI ?_).sI ?_).sI ?_).sI ?_).sI ?_).sI ?_).sI ?_).sI ?_).sI ?_ <;> (unfold gatW; omega)
  have hI : GI σ σ1 o m bd g S s 1 := by
    refine ⟨hfr, by rw [e1]; simp [gI_if], by rw [e1]; simp [gI_if], fun q hq => ?_, fun q hq => absurd hq (n5 q), (n4 s).mpr rfl, ?_, fun i hi => ?_, fun q hq => ?_, fun c hc => ?_, ?_, fun _ => by rw [e1]; simp [gI_if], fun q => ⟨fun z => ?_, fun z => f5 q⟩⟩
    · rw [(n4 q).mp hq]; exact ⟨hs, Rch.rf⟩
    · rw [cnt_congr (Q := fun q => q = s) (fun i _ => n4 i), cnt_one hs]
    · have : i = 0 := by omega
      subst this
      exact ⟨s, by rw [e1]; simp [gI_if], (n4 s).mpr rfl⟩
    · rw [(n4 q).mp hq]; exact ⟨0, by omega, by rw [e1]; simp [gI_if]⟩
    · rw [cnt_0 (fun i _ z => n5 i z.1)]
      have : c = 0 ∨ c = 1 ∨ c = 2 := by omega
      rcases this with rfl | rfl | rfl <;> (rw [e1]; simp [gI_if])
    · rintro ⟨q, q1, -⟩; exact absurd q1 (n5 q)
    · rw [f4, if_neg (fun w => z ((n4 q).mpr w))]
  have hD : GD σ1 o m g 0 0 := ⟨fun i' hi' => by omega, fun j' hj' => by omega⟩
  have fin : ∀ (σ' : ZSto) (k : Nat), GI σ σ' o m bd g S s k → GD σ' o m g k 0 → Gth σ σ' o m bd S s := by
    intro σ' k ⟨fr, h10, h9, hV, hU, hsV, hk, hg1, hg2, hc, hl1, hl2, hm⟩ hD
    have clo : ∀ q, Rch m S s q → gI σ' (o + 4) q = g := by
      intro q hq
      refine hq (fun x => gI σ' (o + 4) x = g) hsV (fun a b ha hab hSb => ?_)
      obtain ⟨i, i1, i2⟩ := hg2 a ha
      rcases hD.1 i i1 a b i2 hab with z | z
      · exact z
      · exact absurd hSb (hU b z).2.1
    have V : ∀ q, gI σ' (o + 4) q = g ↔ Rch m S s q := fun q => ⟨fun z => (hV q z).2, clo q⟩
    have U : ∀ q, gI σ' (o + 5) q = g ↔ Rim m S s q := by
      intro q
      constructor
      · intro z
        obtain ⟨-, a2, a, a3, a4⟩ := hU q z
        exact ⟨a2, a, (V a).mp a3, a4⟩
      · rintro ⟨a2, a, a3, a4⟩
        obtain ⟨i, i1, i2⟩ := hg2 a ((V a).mpr a3)
        rcases hD.1 i i1 a q i2 a4 with z | z
        · exact absurd (((V q).mp z).inS hss) a2
        · exact z
    refine ⟨fr, h10.trans eg, by rw [← eg]; exact V, by rw [← eg]; exact U, ?_, ?_, ?_, ?_, ?_, ?_, by rw [← eg]; exact hm⟩
    · rw [h9, hk]; congr 1; exact cnt_congr (fun i _ => V i)
    · intro i hi
      obtain ⟨q, q1, q2⟩ := hg1 i (by omega)
      exact ⟨q, q1, (V q).mp q2⟩
    · intro q hq
      obtain ⟨i, i1, i2⟩ := hg2 q ((V q).mpr hq)
      exact ⟨i, by omega, i2⟩
    · intro c hc3
      rw [hc c hc3]; congr 1; exact cnt_congr (fun i _ => by rw [U])
    · rintro ⟨q, q1, q2⟩
      obtain ⟨r, r1, r2, r3⟩ := hl1 ⟨q, (U q).mpr q1, q2⟩
      exact ⟨r, r1, (U r).mp r2, r3⟩
    · intro hq
      exact hl2 (fun q z => hq q ((U q).mp z))
  rw [← e1]
  refine b_X0_gather_78 hn ho ?_
  rw [hI.2.2.1]
  refine ⟨fun q => by simp at q, fun _ => ⟨fun q => by simp at q, fun _ => ?_⟩⟩
  have := gather_loop (X := X) (d := d) hn ho hgeo hcon hst hss (show R32 g from ⟨by omega, by omega⟩) hmask fin (5 * 82) σ1 1 0 0 hI (by omega) (by omega) hD (by omega)
  simpa using this
end ZG
