/-- what is told of the chain of s -/
def ChA (σ : ZSto) (m : Nat) (bd : Nat → Int) (s : Nat) (w v : Int) : Prop := (w = 0 → ∃ x : Nat, v = (x : Int) ∧ Chn m bd s x ∧ ∀ q, Chn m bd s q → x ≤ q) ∧ (w = 1 → v = (cnt (Chn m bd s) (m * m) : Nat)) ∧ (w = 2 → v = (cnt (Lib m bd s) (m * m) : Nat)) ∧ (w = 3 → ∀ h, HdS m (Sc bd (bd s)) h → Rch m (Sc bd (bd s)) h s → ((v = 1 ∧ Live m bd (bd s) h) ∨ (v = 0 ∧ ¬ Live m bd (bd s) h))) ∧ (w = 4 → v = gI σ 68 s) ∧ (w < 0 ∨ 4 < w → v = -1)
theorem ChA.uniq {σ : ZSto} {m : Nat} {bd : Nat → Int} {s : Nat} {w v v' : Int} (hs : s < m * m) (a : ChA σ m bd s w v) (b : ChA σ m bd s w v') : v = v' := by
  obtain ⟨a0, a1, a2, a3, a4, a5⟩ := a
  obtain ⟨b0, b1, b2, b3, b4, b5⟩ := b
  rcases (show w = 0 ∨ w = 1 ∨ w = 2 ∨ w = 3 ∨ w = 4 ∨ (w < 0 ∨ 4 < w) by omega) with z | z | z | z | z | z
  · obtain ⟨x, e1, e2, e3⟩ := a0 z
    obtain ⟨y, f1, f2, f3⟩ := b0 z
    have := e3 y f2
    have := f3 x e2
    omega
  · rw [a1 z, b1 z]
  · rw [a2 z, b2 z]
  · obtain ⟨h, h1, h2⟩ := HdS.ex (S := Sc bd (bd s)) (m := m) s hs rfl
    rcases a3 z h h1 h2 with ⟨u, u2⟩ | ⟨u, u2⟩ <;> rcases b3 z h h1 h2 with ⟨w, w2⟩ | ⟨w, w2⟩
    · omega
    · exact absurd u2 w2
    · exact absurd w2 u2
    · omega
  · rw [a4 z, b4 z]
  · rw [a5 z, b5 z]
section ZL
variable {X : ZX} {d n : Nat} {σ : ZSto}
theorem sx_chain {G : Int} (hn : 73 ≤ n) {m s : Nat} {bd : Nat → Int} {w : Int} (hB : BOk σ 33 m bd) (hg : gI σ 33 10 ≤ G) (hG : G ≤ 1900000000) (hd : gI σ 68 s = 0 ∨ gI σ 68 s = 1) (hs : s < m * m) (hb : bd s ≠ 0) (hw : R32 w) :
    ZkI X M_X9_chain (d + 6) n [.ref (zB X + 0), iV (s : Int), iV w] σ (fun v σ' => Fr lfW σ σ' ∧ BOk σ' 33 m bd ∧ gI σ' 33 10 ≤ gI σ 33 10 + 200 ∧ ChA σ m bd s w v) := by
  have hN := sq_le hB.1.2.1
  have ts : ((s : Int)).toNat = s := by omega
  refine w_X9_chain hn ⟨by omega, by omega⟩ hw ((sp_hasStone hn (Or.inl rfl) hB.1 hB.2.1 hB.2.2.1 ⟨by omega, by omega⟩).mono ?_)
  rintro v _ - ⟨rfl, ⟨rfl, hv⟩ | ⟨rfl, hv⟩⟩
  · refine ⟨fun _ => (sp_gatherChain hn (Or.inl rfl) hB hs hb (by omega)).mono ?_, fun q => by omega⟩
    intro σ1 hG1
    have f1 : Fr lfW σ σ1 := hG1.1.mono (fun a i q => Or.inl q)
    have b1 := hG1.ok hB
    have c1 := hG1.2.1
    have fin : ∀ v, ChA σ m bd s w v → Fr lfW σ σ1 ∧ BOk σ1 33 m bd ∧ gI σ1 33 10 ≤ gI σ 33 10 + 200 ∧ ChA σ m bd s w v := fun v hv => ⟨f1, b1, by omega, hv⟩
    refine ⟨fun z => (sp_leastGathered hn (Or.inl rfl) b1.1 hG1 hs).mono ?_, fun z => fin _ ⟨fun _ => by omega, fun _ => hG1.2.2.2.2.1, fun _ => by omega, fun _ => by omega, fun _ => by omega, fun _ => by omega⟩, fun z => (sp_liberties hn (Or.inl rfl)).mono ?_, fun z => (sp_lives hn b1 hs hb (by omega)).mono ?_, fun z => w_X6_isDead hn ⟨by omega, by omega⟩ ⟨fun q => by omega, fun _ => ⟨fun q => by omega, fun _ => ?_⟩⟩, fun z => fin _ ⟨fun _ => by omega, fun _ => by omega, fun _ => by omega, fun _ => by omega, fun _ => by omega, fun _ => rfl⟩⟩
    · rintro v _ - ⟨rfl, x, e1, e2, e3⟩
      exact fin _ ⟨fun _ => ⟨x, e1, e2, e3⟩, fun _ => by omega, fun _ => by omega, fun _ => by omega, fun _ => by omega, fun _ => by omega⟩
    · rintro v _ - ⟨rfl, e⟩
      rw [hG1.libs hb] at e
      exact fin _ ⟨fun _ => by omega, fun _ => by omega, fun _ => e, fun _ => by omega, fun _ => by omega, fun _ => by omega⟩
    · rintro v σ2 - ⟨f2, b2, g2, hv2⟩
      have fin2 : ∀ u, (∀ h, HdS m (Sc bd (bd s)) h → Rch m (Sc bd (bd s)) h s → ((u = 1 ∧ Live m bd (bd s) h) ∨ (u = 0 ∧ ¬ Live m bd (bd s) h))) → Fr lfW σ σ2 ∧ BOk σ2 33 m bd ∧ gI σ2 33 10 ≤ gI σ 33 10 + 200 ∧ ChA σ m bd s w u := fun u hu => ⟨f1.tr f2, b2, by omega, ⟨fun _ => by omega, fun _ => by omega, fun _ => by omega, fun _ => hu, fun _ => by omega, fun _ => by omega⟩⟩
      refine ⟨fun q => fin2 0 (fun h k1 k2 => ?_), fun q => fin2 1 (fun h k1 k2 => ?_)⟩
      · rcases hv2 h k1 k2 with u | u
        · omega
        · exact Or.inr ⟨rfl, u.2⟩
      · rcases hv2 h k1 k2 with u | u
        · exact Or.inl ⟨rfl, u.2⟩
        · omega
    · rw [ts, hG1.1.I (show ¬ gatW 33 68 s by unfold gatW; omega)]
      refine ⟨by omega, fun q => ⟨fun _ => fin 0 ⟨fun _ => by omega, fun _ => by omega, fun _ => by omega, fun _ => by omega, fun _ => by omega, fun _ => by omega⟩, fun q2 => by omega⟩, fun q => ⟨fun q2 => by omega, fun _ => fin 1 ⟨fun _ => by omega, fun _ => by omega, fun _ => by omega, fun _ => by omega, fun _ => by omega, fun _ => by omega⟩⟩⟩
  · exact absurd ⟨by omega, by omega, by rw [ts]; exact hb⟩ hv
theorem sx_chain0 (hn : 73 ≤ n) {m : Nat} {bd : Nat → Int} {x w : Int} (hx : R32 x) (hB : BOk σ 33 m bd) (hno : ¬ (0 ≤ x ∧ x < (m * m : Nat) ∧ bd x.toNat ≠ 0)) (hw : R32 w) :
    ZkI X M_X9_chain (d + 6) n [.ref (zB X + 0), iV x, iV w] σ (fun v σ' => σ = σ' ∧ v = -1) := by
  refine w_X9_chain hn hx hw ((sp_hasStone hn (Or.inl rfl) hB.1 hB.2.1 hB.2.2.1 hx).mono ?_)
  rintro v _ - ⟨rfl, ⟨rfl, hv⟩ | ⟨rfl, hv⟩⟩
  · exact absurd hv hno
  · exact ⟨fun q => by omega, fun _ => ⟨rfl, rfl⟩⟩
theorem sm_chain (hn : 104 ≤ n) {σ0 : ZSto} {g m k pl s : Nat} {c w : Int} {T : ATr} (hg : g < 2) (e10 : gI σ 73 10 = (g : Int)) (e11 : gI σ 73 11 = ((250 * g + pl : Nat) : Int)) (hM : MTr σ g m k c T) (hW : TW m k T) (hpk : pl < k) (hd : gI σ 92 s = gI σ0 68 s ∧ (gI σ0 68 s = 0 ∨ gI σ0 68 s = 1)) (hs : s < m * m) (hb : tBrd T pl s ≠ 0) (hw : R32 w) :
    ZkI X M_X10_chain (d + 5) n [.ref (zB X + 73), iV (s : Int), iV w] σ (fun v σ' => Fr lrW σ σ' ∧ ChA σ0 m (tBrd T pl) s w v) := by
  have hN := sq_le hW.2.1
  have ts : ((s : Int)).toNat = s := by omega
  have hcon := hW.con hpk
  have hcs := hcon s hs
  refine w_X10_chain hn ⟨by omega, by omega⟩ hw ((sm_isStone hn hg e10 e11 hM hW hpk ⟨by omega, by omega⟩).mono ?_)
  rintro v σ1 - ⟨f1, w1, m1, ⟨rfl, hv⟩ | ⟨rfl, hv⟩⟩
  · refine ⟨fun _ => ?_, fun q => by omega⟩
    refine (sm_flood hn hW.1 hW.2.1 m1 (fun p hp => w1 p (by omega)) hs hb ⟨by omega, by omega⟩).mono ?_
    rintro v4 σ4 - ⟨hF, e4⟩
    have F4 : Fr lrW σ σ4 := (f1.mono (W' := lrW) (fun a i q => Or.inl q)).tr (hF.1.mono (fun a i q => by unfold fldW at q; unfold lrW; omega))
    have m4 : gI σ4 73 13 = (m : Int) := by rw [hF.1.I (by unfold fldW; omega)]; exact m1
    have w4 := w1.kept hF.1 (fun i => by unfold fldW; omega)
    have fin : ∀ v, ChA σ0 m (tBrd T pl) s w v → Fr lrW σ σ4 ∧ ChA σ0 m (tBrd T pl) s w v := fun v hv => ⟨F4, hv⟩
    refine ⟨fun z => (sm_head hn hF.2.2.1 (fun q hq => (hF.2.1 q hq).1) (show s < 81 by omega) Rch.rf).mono ?_, fun z => (sm_stones hn hF.2.2.1 (fun q hq => (hF.2.1 q hq).1)).mono ?_, fun z => fin _ ⟨fun _ => by omega, fun _ => by omega, fun _ => e4, fun _ => by omega, fun _ => by omega, fun _ => by omega⟩, fun z => (sm_lives hn hW.1 hW.2.1 m4 w4 hcon hs (by omega)).mono ?_, fun z => ?_, fun z => fin _ ⟨fun _ => by omega, fun _ => by omega, fun _ => by omega, fun _ => by omega, fun _ => by omega, fun _ => rfl⟩⟩
    · rintro v _ - ⟨rfl, x, y1, y2, y3, y4⟩
      exact fin _ ⟨fun _ => ⟨x, y1, y2, y4⟩, fun _ => by omega, fun _ => by omega, fun _ => by omega, fun _ => by omega, fun _ => by omega⟩
    · rintro v _ - ⟨rfl, e⟩
      rw [cnt_ext (P := Chn m (tBrd T pl) s) hN (fun i hi _ y => by have := y.lt hs; omega)] at e
      exact fin _ ⟨fun _ => by omega, fun _ => e, fun _ => by omega, fun _ => by omega, fun _ => by omega, fun _ => by omega⟩
    · rintro v σ5 - ⟨f5, hv5⟩
      have F5 : Fr lrW σ σ5 := F4.tr (f5.mono (fun a i q => by unfold lvW at q; unfold lrW; omega))
      have fin2 : ∀ u, (∀ h, HdS m (Sc (tBrd T pl) (tBrd T pl s)) h → Rch m (Sc (tBrd T pl) (tBrd T pl s)) h s → ((u = 1 ∧ Live m (tBrd T pl) (tBrd T pl s) h) ∨ (u = 0 ∧ ¬ Live m (tBrd T pl) (tBrd T pl s) h))) → Fr lrW σ σ5 ∧ ChA σ0 m (tBrd T pl) s w u := fun u hu => ⟨F5, ⟨fun _ => by omega, fun _ => by omega, fun _ => by omega, fun _ => hu, fun _ => by omega, fun _ => by omega⟩⟩
      refine ⟨fun q => fin2 0 (fun h k1 k2 => ?_), fun q => fin2 1 (fun h k1 k2 => ?_)⟩
      · rcases hv5 h k1 k2 with u | u
        · omega
        · exact Or.inr ⟨rfl, u.2⟩
      · rcases hv5 h k1 k2 with u | u
        · exact Or.inl ⟨rfl, u.2⟩
        · omega
    · rw [ts, F4.I (show ¬ lrW 92 s by unfold lrW shwW; omega)]
      exact ⟨by omega, fun q => fin 0 ⟨fun _ => by omega, fun _ => by omega, fun _ => by omega, fun _ => by omega, fun _ => by omega, fun _ => by omega⟩, fun q => fin 1 ⟨fun _ => by omega, fun _ => by omega, fun _ => by omega, fun _ => by omega, fun _ => by omega, fun _ => by omega⟩⟩
  · exact absurd ⟨by omega, by omega, by rw [ts]; exact hb⟩ hv
theorem op_chain {G : Int} (hn : 104 ≤ n) (h : Rel σ G) (hG : G ≤ 1900000000) {x w : Int} (hx : R32 x) (hw : R32 w) : ZkI X M_X9_chain (d + 6) n [.ref (zB X + 0), iV x, iV w] σ (fun v σ1 => ZkI X M_X10_chain (d + 5) n [.ref (zB X + 73), iV x, iV w] σ1 (fun w σ2 => v = w ∧ Rel σ2 (G + 60000))) := by
  have hR := h
  have hn' : 73 ≤ n := by omega
  obtain ⟨h1, h2, h3, t, g, m, k, pl, c, T, hGm, hB, hB2, g1, g2⟩ := h
  obtain ⟨ht, hg, p0, p1, e10, e11, e16, hpk, hW, hTS, hc, hC, hM⟩ := hGm
  have hN := sq_le hW.2.1
  by_cases hst : 0 ≤ x ∧ x < (m * m : Nat) ∧ tBrd T pl x.toNat ≠ 0
  · obtain ⟨s, rfl⟩ : ∃ s : Nat, x = (s : Int) := ⟨x.toNat, by omega⟩
    have ts : ((s : Int)).toNat = s := by omega
    rw [ts] at hst
    have hs : s < m * m := by omega
    refine (sx_chain hn' hB g1 hG (h3 s (by omega)).1 hs hst.2.2 hw).mono ?_
    rintro v σ1 - ⟨f1, b1, g3, a1⟩
    refine (sm_chain (σ0 := σ) hn hg (by rw [f1.I (by unfold lfW gatW; omega)]; exact e10) (by rw [f1.I (by unfold lfW gatW; omega)]; exact e11) (hM.kept hW.2.2.1 f1 (fun a i q => by unfold mtrD at q; unfold lfW gatW; omega)) hW hpk ⟨by rw [f1.I (by unfold lfW gatW; omega)]; exact (h3 s (by omega)).2, (h3 s (by omega)).1⟩ hs hst.2.2 hw).mono ?_
    rintro v2 σ2 - ⟨f2, a2⟩
    refine ⟨a1.uniq hs a2, hR.qry ((f1.mono (W' := qW) (fun a i q => by unfold lfW at q; unfold qW; unfold gatW at *; omega)).tr (f2.mono (W' := qW) (fun a i q => by unfold lrW shwW at q; unfold qW; omega))) (fun m' bd' hb => ?_) ((hB2.kept2 f1 (fun a i q => by unfold brdX at q; unfold lfW gatW; omega)).kept2 f2 (fun a i q => by unfold brdX at q; unfold lrW shwW; omega)) (by rw [f2.I (by unfold lrW shwW; omega)]; omega) (by rw [f2.I (by unfold lrW shwW; omega), f1.I (by unfold lfW gatW; omega)]; omega)⟩
    exact (hb.lfk f1 b1.2.2.2).kept f2 (fun a i q => by unfold brdW at q; unfold lrW shwW; omega)
  · refine (sx_chain0 hn' hx hB hst hw).mono ?_
    rintro v _ - ⟨rfl, rfl⟩
    refine w_X10_chain hn hx hw ((sm_isStone hn hg e10 e11 hM hW hpk hx).mono ?_)
    rintro w2 σ3 - ⟨f3, w3, m3, ⟨rfl, hw⟩ | ⟨rfl, hw⟩⟩
    · exact absurd hw hst
    · exact ⟨fun q => by omega, fun _ => ⟨rfl, hR.shw (f3.mono (fun a i q => Or.inl q))⟩⟩
end ZL
