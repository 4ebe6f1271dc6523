def v1F (B : Nat → Int) (L : Nat) (nm : Int) (od q : Nat) (x : ND) : (Int × Nat) ⊕ (Nat × ND) := if L ≤ clF B L L (q + 1) then .inl (1, L) else match vlF B nm od (q + 1) (clF B L L (q + 1)) x with
  | none => .inl (3, q)
  | some y => .inr (clF B L L (q + 1) + 1, y)
/-- no fault yet -/
def NoF (σ : ZSto) : Prop := gI σ 49 8 = 0 ∧ gI σ 49 9 = -1
theorem NoF.kept {W : Nat → Nat → Prop} {σ σ' : ZSto} (h : NoF σ) (hf : Fr W σ σ') (h8 : ¬ W 49 8) (h9 : ¬ W 49 9) : NoF σ' := ⟨by rw [hf.I h8]; exact h.1, by rw [hf.I h9]; exact h.2⟩
def RvR (σ : ZSto) (t L : Nat) : (Int × Nat) ⊕ (Nat × ND) → Prop
  | .inl f => gI σ 49 8 = f.1 ∧ gI σ 49 9 = (f.2 : Int) ∧ ¬ f.1 = 0 ∧ (0 ≤ gI σ 49 6 ∧ gI σ 49 6 ≤ L)
  | .inr r => NoF σ ∧ gI σ 49 6 = (r.1 : Int) ∧ NdC σ t r.2
theorem NdC.kept {W : Nat → Nat → Prop} {σ σ' : ZSto} {t : Nat} {x : ND} (h : NdC σ t x) (hf : Fr W σ σ') (hw : ¬ W 49 13 ∧ ¬ W 49 14 ∧ ¬ W 49 15 ∧ ¬ W t 13 ∧ ¬ W t 14 ∧ ∀ w, ¬ W 51 w) : NdC σ' t x := by
  obtain ⟨h1, h2, h3, h4, h5, h6⟩ := h
  obtain ⟨w1, w2, w3, w4, w5, w6⟩ := hw
  exact ⟨by rw [hf.I w1]; exact h1, by rw [hf.I w2]; exact h2, by rw [hf.I w3]; exact h3, fun w hw => by rw [hf.L (w6 w)]; exact h4 w hw, by rw [hf.I w4]; exact h5, by rw [hf.I w5]; exact h6⟩
theorem pkW_0 {f : Nat → Int} (h : ∀ p, f p = 0) (N w : Nat) : pkW f N w = 0 := by
  have : ∀ k, pk4 (fun i => (f (32 * w + i)).toNat) k = 0 := by
    intro k
    induction k with
    | zero => rfl
    | succ k ih =>
      show pk4 _ k + (f (32 * w + k)).toNat * 4 ^ k = 0
      rw [ih, h]; simp
  exact this _
theorem and_nm {nm : Int} (h : isNm nm) : (andI nm 112 = 0 ↔ ¬ 16 ≤ nm) ∧ (andI nm 12 = 0 ↔ ¬ (nm = 4 ∨ nm = 8)) := by
  rcases h with rfl | rfl | rfl | rfl | rfl | rfl | rfl | rfl <;> decide
section ZC
variable {X : ZX} {d n : Nat} {σ : ZSto} {B : Nat → Int} {L : Nat}
theorem rv_fail (hn : 73 ≤ n) {t q : Nat} {σ0 : ZSto} {res : (Int × Nat) ⊕ (Nat × ND)} (hf : Fr (vlW t) σ0 σ) (hr : res = .inl (3, q)) (hq : q ≤ L) (hL : L ≤ 1500) (h6 : 0 ≤ gI σ 49 6 ∧ gI σ 49 6 ≤ L) : ZkV X M_X5_fail (d + 1) n [.ref (zB X + 49), iV 3, iV (q : Int)] σ (fun σ' => Fr (vlW t) σ0 σ' ∧ RvR σ' t L res) := by
  refine (sp_fail hn ⟨by omega, by omega⟩ ⟨by omega, by omega⟩).mono ?_
  rintro σ1 ⟨f1, e1, e2⟩
  rw [hr]
  exact ⟨hf.tr (f1.mono (fun a j y => by unfold vlW; omega)), e1, e2, by show ¬ (3 : Int) = 0; omega, by rw [f1.I (by omega)]; exact h6⟩
theorem rv_komi (hn : 73 ≤ n) {t od q u i : Nat} {mi : Int} {x : ND} {σ0 : ZSto} {res : (Int × Nat) ⊕ (Nat × ND)} (ht : zIsT t) (hT : TpC σ B L) (hp : gP σ 49 4 = some t) (hC : NdC σ t x) (hq : q < L) (hu : u < L) (hqu : q + 1 ≤ u) (h6 : gI σ 49 6 = ((u + 1 : Nat) : Int)) (h8 : NoF σ) (hf : Fr (vlW t) σ0 σ) (hr0 : vlF B 2 od (q + 1) u x = none → res = .inl (3, q)) (hr1 : ∀ y, vlF B 2 od (q + 1) u x = some y → res = .inr (u + 1, y)) (hi : (mi = 1 ∧ B (q + 1) = 45 ∧ i = q + 2) ∨ (mi = 0 ∧ ¬ B (q + 1) = 45 ∧ i = q + 1)) (ho : od = 0) : ZkI X M_X5_numberIn (d + 2) n [.ref (zB X + 49), iV (i : Int), iV (u : Int)] σ (fun v14 σ15 => ZkZ X M_X5_takeKomi (d + 2) n [.ref (zB X + 49), iV v14, iV mi] σ15 (fun v19 σ20 => (v19 = 0 → ZkV X M_X5_fail (d + 2) n [.ref (zB X + 49), iV 3, iV (q : Int)] σ20 (fun σ29 => Fr (vlW t) σ0 σ29 ∧ RvR σ29 t L res)) ∧ (¬ (v19 = 0) → Fr (vlW t) σ0 σ20 ∧ RvR σ20 t L res))) := by
  have hL := hT.2.1
  have ht2 : ¬ t = 49 ∧ ¬ t = 51 := by unfold zIsT at ht; omega
  have h6r : 0 ≤ gI σ 49 6 ∧ gI σ 49 6 ≤ L := by omega
  obtain ⟨c1, c2, c3, c4, c5, c6⟩ := hC
  have hqL : q ≤ L := by omega
  refine (sp_numberIn hn hT (by omega) (by omega)).mono ?_
  rintro v _ hvr ⟨rfl, hv⟩
  have hnr := nuF_r (B := B) (i := i) (j := u)
  rw [← hv] at hnr
  have bad : v < 0 ∨ 200 < v → res = .inl (3, q) := by
    intro hb
    refine hr0 ?_
    unfold vlF
    rw [if_neg (by decide), if_neg (by decide), if_neg (fun z => z ho), if_neg (by decide), if_neg (by decide)]
    rcases hi with ⟨_, e, e2⟩ | ⟨_, e, e2⟩
    · rw [if_pos e, show q + 1 + 1 = i by omega, ← hv, if_pos hb]
    · rw [if_neg e, ← e2, ← hv, if_pos hb]
  have good : 0 ≤ v → v ≤ 200 → res = .inr (u + 1, (nTold x, nMvr x, nPnt x, nSet x, nSz x, if mi = 0 then v else -v)) := by
    intro hb1 hb2
    have hb : ¬ (v < 0 ∨ 200 < v) := by omega
    refine hr1 _ ?_
    unfold vlF
    rw [if_neg (by decide), if_neg (by decide), if_neg (fun z => z ho), if_neg (by decide), if_neg (by decide)]
    rcases hi with ⟨em, e, e2⟩ | ⟨em, e, e2⟩
    · rw [if_pos e, show q + 1 + 1 = i by omega, ← hv, if_neg hb, if_neg (by rw [em]; decide)]
    · rw [if_neg e, ← e2, ← hv, if_neg hb, if_pos em]
  have done : ∀ w : Int, (if mi = 0 then v else -v) = w → 0 ≤ v → v ≤ 200 → Fr (vlW t) σ0 (sI σ t 14 w) ∧ RvR (sI σ t 14 w) t L res := by
    intro w hw hb1 hb2
    rw [good hb1 hb2]
    refine ⟨hf.sI (by unfold vlW; omega), h8.kept (W := fun a j => a = t ∧ j = 14) (Fr.rf.sI ⟨rfl, rfl⟩) (by omega) (by omega), by rw [gI_c (by omega)]; exact h6, ?_⟩
    refine ⟨by rw [gI_c (by omega)]; exact c1, by rw [gI_c (by omega)]; exact c2, by rw [gI_c (by omega)]; exact c3, fun w hw => c4 w hw, by rw [gI_f (by omega)]; exact c5, ?_⟩
    rw [gI_same]; exact hw.symm
  have rmi : R32 mi := by rcases hi with u | u <;> exact ⟨by omega, by omega⟩
  clear hi hr0 hr1 good
  refine w_X5_takeKomi hn hvr rmi ⟨fun y => ⟨fun _ => rv_fail hn hf (bad (by omega)) hqL hL h6r, fun y2 => absurd rfl y2⟩, fun y => (sp_isKomi hn hvr).mono ?_⟩
  rintro v2 _ - ⟨rfl, hv2⟩
  by_cases hk : v ≤ 200
  · rw [if_pos (by omega)] at hv2
    refine ⟨fun _ => ⟨t, hp, ht, fun y2 => ⟨fun y3 => by omega, fun _ => done v (by rw [if_pos y2]) (by omega) hk⟩, fun y2 => ⟨⟨by omega, by omega⟩, fun y3 => by omega, fun _ => done (-v) (by rw [if_neg y2]) (by omega) hk⟩⟩, fun y2 => by omega⟩
  · rw [if_neg (by omega)] at hv2
    exact ⟨fun y2 => absurd hv2 y2, fun _ => ⟨fun _ => rv_fail hn hf (bad (by omega)) hqL hL h6r, fun y3 => absurd rfl y3⟩⟩
theorem rv_size (hn : 73 ≤ n) {t od q u : Nat} {x : ND} {σ0 : ZSto} {res : (Int × Nat) ⊕ (Nat × ND)} (ht : zIsT t) (hT : TpC σ B L) (hp : gP σ 49 4 = some t) (hC : NdC σ t x) (hs3 : ∀ p, nSet x p = 3) (hq : q < L) (hu : u < L) (hqu : q + 1 ≤ u) (h6 : gI σ 49 6 = ((u + 1 : Nat) : Int)) (h8 : NoF σ) (hf : Fr (vlW t) σ0 σ) (hr0 : vlF B 1 od (q + 1) u x = none → res = .inl (3, q)) (hr1 : ∀ y, vlF B 1 od (q + 1) u x = some y → res = .inr (u + 1, y)) (ho : od = 0) : ZkI X M_X5_numberIn (d + 2) n [.ref (zB X + 49), iV ((q + 1 : Nat) : Int), iV (u : Int)] σ (fun v33 σ34 => ZkZ X M_X5_takeSize (d + 2) n [.ref (zB X + 49), iV v33] σ34 (fun v38 σ39 => (v38 = 0 → ZkV X M_X5_fail (d + 2) n [.ref (zB X + 49), iV 3, iV (q : Int)] σ39 (fun σ48 => Fr (vlW t) σ0 σ48 ∧ RvR σ48 t L res)) ∧ (¬ (v38 = 0) → Fr (vlW t) σ0 σ39 ∧ RvR σ39 t L res))) := by
  have hL := hT.2.1
  have ht2 : ¬ t = 49 ∧ ¬ t = 51 := by unfold zIsT at ht; omega
  have h6r : 0 ≤ gI σ 49 6 ∧ gI σ 49 6 ≤ L := by omega
  obtain ⟨c1, c2, c3, c4, c5, c6⟩ := hC
  have hqL : q ≤ L := by omega
  refine (sp_numberIn hn hT (by omega) (by omega)).mono ?_
  rintro v _ hvr ⟨rfl, hv⟩
  refine w_X5_takeSize hn hvr ((sp_isSize hn hvr).mono ?_)
  rintro v2 _ - ⟨rfl, hv2⟩
  by_cases hk : 3 ≤ v ∧ v ≤ 9
  · rw [if_pos hk] at hv2
    refine ⟨fun _ => ⟨t, hp, ht, fun y3 => by omega, fun _ => ?_⟩, fun y2 => by omega⟩
    have e := hr1 (nTold x, nMvr x, nPnt x, nSet x, v.toNat, nKm x) (by
      unfold vlF
      rw [if_neg (by decide), if_neg (by decide), if_neg (fun z => z ho), if_neg (by decide), if_pos rfl, ← hv, if_neg (by omega)])
    rw [e]
    refine ⟨hf.sI (by unfold vlW; omega), h8.kept (W := fun a j => a = t ∧ j = 13) (Fr.rf.sI ⟨rfl, rfl⟩) (by omega) (by omega), by rw [gI_c (by omega)]; exact h6, ?_⟩
    refine ⟨by rw [gI_c (by omega)]; exact c1, by rw [gI_c (by omega)]; exact c2, by rw [gI_c (by omega)]; exact c3, fun w hw => ?_, ?_, by rw [gI_f (by omega)]; exact c6⟩
    · have ez : ∀ p, (fun p => stC (nSet x p)) p = 0 := fun p => by show stC (nSet x p) = 0; rw [hs3 p]; rfl
      rw [gL_sI, c4 w hw, pkW_0 ez]
      show lN 0 = lN (pkW (fun p => stC (nSet x p)) _ w)
      rw [pkW_0 ez]
    · rw [gI_same]
      show v = ((v.toNat : Nat) : Int)
      omega
  · rw [if_neg hk] at hv2
    refine ⟨fun y2 => absurd hv2 y2, fun _ => ⟨fun _ => rv_fail hn hf (hr0 ?_) hqL hL h6r, fun y3 => absurd rfl y3⟩⟩
    unfold vlF
    rw [if_neg (by decide), if_neg (by decide), if_neg (fun z => z ho), if_neg (by decide), if_pos rfl, ← hv, if_pos (by omega)]
theorem rv_move (hn : 73 ≤ n) {t od q u : Nat} {nm mv x20 : Int} {x : ND} {σ0 : ZSto} {res : (Int × Nat) ⊕ (Nat × ND)} (ht : zIsT t) (hT : TpC σ B L) (hp : gP σ 49 4 = some t) (hC : NdC σ t x) (h9 : nSz x ≤ 9) (hq : q < L) (hu : u < L) (hqu : q + 1 ≤ u) (h6 : gI σ 49 6 = ((u + 1 : Nat) : Int)) (h8 : NoF σ) (hf : Fr (vlW t) σ0 σ) (n48 : nm = 4 ∨ nm = 8) (hr0 : vlF B nm od (q + 1) u x = none → res = .inl (3, q)) (hr1 : ∀ y, vlF B nm od (q + 1) u x = some y → res = .inr (u + 1, y)) (o20 : x20 = 0 → ¬ od = 0) (o21 : ¬ x20 = 0 → od = 0) (hmv : mv = (if nm = 4 then 1 else 2)) : ZkI X M_X5_pointIn (d + 2) n [.ref (zB X + 49), iV ((q + 1 : Nat) : Int), iV (u : Int)] (sI σ 49 14 mv) (fun v59 σ60 => (x20 = 0 → ZkV X M_X5_fail (d + 2) n [.ref (zB X + 49), iV 3, iV (q : Int)] (sI σ60 49 15 v59) (fun σ70 => Fr (vlW t) σ0 σ70 ∧ RvR σ70 t L res)) ∧ (¬ (x20 = 0) → (¬ v59 = (-1) → Fr (vlW t) σ0 (sI σ60 49 15 v59) ∧ RvR (sI σ60 49 15 v59) t L res) ∧ (v59 = (-1) → (¬ ((q + 1 : Nat) : Int) = (u : Int) → ZkV X M_X5_fail (d + 2) n [.ref (zB X + 49), iV 3, iV (q : Int)] (sI σ60 49 15 v59) (fun σ85 => Fr (vlW t) σ0 σ85 ∧ RvR σ85 t L res)) ∧ (((q + 1 : Nat) : Int) = (u : Int) → Fr (vlW t) σ0 (sI σ60 49 15 v59) ∧ RvR (sI σ60 49 15 v59) t L res)))) := by
  have hL := hT.2.1
  have ht2 : ¬ t = 49 ∧ ¬ t = 51 := by unfold zIsT at ht; omega
  have h6r : 0 ≤ gI σ 49 6 ∧ gI σ 49 6 ≤ L := by omega
  obtain ⟨c1, c2, c3, c4, c5, c6⟩ := hC
  have hqL : q ≤ L := by omega
  have n0 : ¬ nm = 0 := by omega
  have n16 : ¬ 16 ≤ nm := by omega
  have fs : Fr (fun a j => a = 49 ∧ j = 14) σ (sI σ 49 14 mv) := Fr.rf.sI ⟨rfl, rfl⟩
  refine (sp_pointIn hn (hT.kept fs (fun i => by omega) (by omega)) (m := nSz x) (by omega) (by omega) ht (by rw [gP_sI]; exact hp) (by rw [gI_c (by omega)]; exact c5) h9).mono ?_
  rintro v _ - ⟨rfl, hv⟩
  have fs2 : Fr (fun a j => a = 49 ∧ (j = 14 ∨ j = 15)) σ (sI (sI σ 49 14 mv) 49 15 v) := (Fr.rf.sI (by omega)).sI (by omega)
  have F2 : Fr (vlW t) σ0 (sI (sI σ 49 14 mv) 49 15 v) := hf.tr (fs2.mono (fun a j y => by unfold vlW; omega))
  have h6' : 0 ≤ gI (sI (sI σ 49 14 mv) 49 15 v) 49 6 ∧ gI (sI (sI σ 49 14 mv) 49 15 v) 49 6 ≤ L := by rw [fs2.I (by omega)]; exact h6r
  have good : od = 0 → ¬ (v = -1 ∧ ¬ q + 1 = u) → Fr (vlW t) σ0 (sI (sI σ 49 14 mv) 49 15 v) ∧ RvR (sI (sI σ 49 14 mv) 49 15 v) t L res := by
    intro ho hg
    have e := hr1 (nTold x, (if nm = 4 then 1 else 2), v, nSet x, nSz x, nKm x) (by
      unfold vlF
      rw [if_neg n0, if_neg n16, if_neg (fun z => z ho), if_pos n48, ← hv, if_neg hg])
    rw [e]
    refine ⟨F2, h8.kept fs2 (by omega) (by omega), by rw [fs2.I (by omega)]; exact h6, by rw [fs2.I (by omega)]; exact c1, ?_, ?_, fun w hw => by rw [fs2.L (by omega)]; exact c4 w hw, by rw [fs2.I (by omega)]; exact c5, by rw [fs2.I (by omega)]; exact c6⟩
    · rw [gI_f (by omega), gI_same]; exact hmv
    · rw [gI_same]; rfl
  have bad : ¬ od = 0 ∨ (v = -1 ∧ ¬ q + 1 = u) → res = .inl (3, q) := by
    intro hb
    refine hr0 ?_
    unfold vlF
    rw [if_neg n0, if_neg n16]
    by_cases ho : od = 0
    · rw [if_neg (fun z => z ho), if_pos n48, ← hv, if_pos (hb.resolve_left (fun z => z ho))]
    · rw [if_pos ho]
  refine ⟨fun y => rv_fail hn F2 (bad (Or.inl (o20 y))) hqL hL h6', fun y => ⟨fun y2 => good (o21 y) (fun z => y2 z.1), fun y2 => ⟨fun y3 => rv_fail hn F2 (bad (Or.inr ⟨y2, fun z => y3 (by rw [z])⟩)) hqL hL h6', fun y3 => good (o21 y) (fun z => z.2 (by exact_mod_cast y3))⟩⟩⟩
theorem rv_set (hn : 73 ≤ n) {t k m od q u : Nat} {c nm : Int} {x : ND} {σ0 : ZSto} {res : (Int × Nat) ⊕ (Nat × ND)} (ht : zIsT t) (hT : TpC σ B L) (hp : gP σ 49 4 = some t) (hx : NDI k m c x) (hC : NdC σ t x) (hq : q < L) (hu : u < L) (hqu : q + 1 ≤ u) (h6 : gI σ 49 6 = ((u + 1 : Nat) : Int)) (h8 : NoF σ) (hf : Fr (vlW t) σ0 σ) (nm3 : nm = 16 ∨ nm = 32 ∨ nm = 64) (hr0 : vlF B nm od (q + 1) u x = none → res = .inl (3, q)) (hr1 : ∀ y, vlF B nm od (q + 1) u x = some y → res = .inr (u + 1, y)) : ZkI X M_X5_pointIn (d + 2) n [.ref (zB X + 49), iV ((q + 1 : Nat) : Int), iV (u : Int)] σ (fun v126 σ127 => ZkZ X M_X5_takeSetting (d + 2) n [.ref (zB X + 49), iV nm, iV v126] σ127 (fun v131 σ132 => (¬ v131 = 0 → Fr (vlW t) σ0 σ132 ∧ RvR σ132 t L res) ∧ (v131 = 0 → ZkV X M_X5_fail (d + 2) n [.ref (zB X + 49), iV 3, iV (q : Int)] σ132 (fun σ141 => Fr (vlW t) σ0 σ141 ∧ RvR σ141 t L res)))) := by
  have hL := hT.2.1
  have ht2 : ¬ t = 49 ∧ ¬ t = 51 := by unfold zIsT at ht; omega
  have h6r : 0 ≤ gI σ 49 6 ∧ gI σ 49 6 ≤ L := by omega
  obtain ⟨c1, c2, c3, c4, c5, c6⟩ := id hC
  have hqL : q ≤ L := by omega
  have n0 : ¬ nm = 0 := by omega
  have n16 : 16 ≤ nm := by omega
  have rnm : R32 nm := ⟨by omega, by omega⟩
  refine (sp_pointIn hn hT (m := nSz x) (by omega) (by omega) ht hp c5 hx.1.2).mono ?_
  rintro v _ hvr ⟨rfl, hv⟩
  rcases ptF_r (B := B) (m := nSz x) (i := q + 1) (j := u) with e | ⟨p, e, hpN⟩
  · rw [← hv] at e
    refine w_X5_takeSetting hn rnm hvr ⟨fun _ => ⟨fun y => absurd rfl y, fun _ => rv_fail hn hf (hr0 ?_) hqL hL h6r⟩, fun y => absurd e y⟩
    unfold vlF
    rw [if_neg n0, if_pos n16, if_pos (Or.inl (by rw [← hv, e]; decide))]
  · rw [← hv] at e
    subst e
    have tp : ((p : Int)).toNat = p := by omega
    refine (sp_takeSetting hn ht hx hC hpN nm3).mono ?_
    rintro v2 σ2 - (⟨rfl, h3, rfl⟩ | ⟨rfl, h3, f2, w2⟩)
    · refine ⟨fun y => absurd rfl y, fun _ => rv_fail hn hf (hr0 ?_) hqL hL h6r⟩
      unfold vlF
      rw [if_neg n0, if_pos n16, if_pos (Or.inr (by rw [← hv, tp]; exact h3))]
    · refine ⟨fun _ => ?_, fun y => by omega⟩
      have e := hr1 (nTold x, nMvr x, nPnt x, setN (nSet x) p (if nm = 16 then 1 else if nm = 32 then 2 else 0), nSz x, nKm x) (by
        unfold vlF
        rw [if_neg n0, if_pos n16, ← hv, tp, if_neg (by
          rintro (y | y)
          · omega
          · exact y h3)])
      rw [e]
      exact ⟨hf.tr (f2.mono (fun a j y => by unfold vlW; omega)), h8.kept f2 (by omega) (by omega), by rw [f2.I (by omega)]; exact h6, by rw [f2.I (by omega)]; exact c1, by rw [f2.I (by omega)]; exact c2, by rw [f2.I (by omega)]; exact c3, w2, by rw [f2.I (by omega)]; exact c5, by rw [f2.I (by omega)]; exact c6⟩
theorem rv_59 (hn : 73 ≤ n) {t k m od q u : Nat} {c nm : Int} {x : ND} {σ0 : ZSto} (ht : zIsT t) (hnm : isNm nm) (hT : TpC σ B L) (hp : gP σ 49 4 = some t) (hx : NDI k m c x) (hC : NdC σ t x) (hs3 : nm = 1 → ∀ p, nSet x p = 3) (hq : q < L) (hu : u < L) (hqu : q + 1 ≤ u) (h6 : gI σ 49 6 = ((u + 1 : Nat) : Int)) (h8 : NoF σ) (hf : Fr (vlW t) σ0 σ) (res : (Int × Nat) ⊕ (Nat × ND)) (hr0 : vlF B nm od (q + 1) u x = none → res = .inl (3, q)) (hr1 : ∀ y, vlF B nm od (q + 1) u x = some y → res = .inr (u + 1, y)) (x20 : Int) (h20 : (x20 = 1 ∧ od = 0) ∨ (x20 = 0 ∧ ¬ od = 0)) :
    L_X5_readValue_59 X (d + 2) n (zpV (fun σ' => Fr (vlW t) σ0 σ' ∧ RvR σ' t L res)) nm (q : Int) ((q + 1 : Nat) : Int) (u : Int) x20 σ := by
  have hL := hT.2.1
  have h6r : 0 ≤ gI σ 49 6 ∧ gI σ 49 6 ≤ L := by omega
  have hqL : q ≤ L := by omega
  obtain ⟨an1, an2⟩ := and_nm hnm
  have o20 : x20 = 0 → ¬ od = 0 := by omega
  have o21 : ¬ x20 = 0 → od = 0 := by omega
  have odbad : nm = 1 ∨ nm = 2 → ¬ od = 0 → res = .inl (3, q) := by
    intro h12 ho
    refine hr0 ?_
    unfold vlF
    rw [if_neg (by omega), if_neg (by omega), if_pos ho]
  refine b_X5_readValue_59 hn ⟨fun z0 => ⟨fun z1 => ⟨fun z2 => ⟨fun z3 => ?_, fun z3 => ?_⟩, fun z2 => ?_⟩, fun z1 => ?_⟩, fun z0 => ?_⟩
  · -- komi
    have n2 : nm = 2 := by
      have h16 := an1.mp z1
      have h4 := an2.mp z2
      unfold isNm at hnm; omega
    subst n2
    refine (sp_byte hn hT (q + 1) (by omega)).mono ?_
    rintro b _ - ⟨rfl, hb⟩
    have hb' : b = B (q + 1) := by omega
    subst hb'
    refine ⟨fun y => b_X5_readValue_213 hn ⟨fun y2 => rv_fail hn hf (odbad (Or.inr rfl) (o20 y2)) hqL hL h6r, fun y2 => ⟨fun _ => rv_komi hn ht hT hp hC hq hu hqu h6 h8 hf hr0 hr1 (i := q + 1) (Or.inr ⟨rfl, y, rfl⟩) (o21 y2), fun y3 => absurd rfl y3⟩⟩, fun y => b_X5_readValue_213 hn ⟨fun y2 => rv_fail hn hf (odbad (Or.inr rfl) (o20 y2)) hqL hL h6r, fun y2 => ⟨fun y3 => absurd y3 (by decide), fun _ => ?_⟩⟩⟩
    rw [show ((q + 1 : Nat) : Int) + 1 = ((q + 2 : Nat) : Int) by omega]
    exact rv_komi hn ht hT hp hC hq hu hqu h6 h8 hf hr0 hr1 (i := q + 2) (Or.inl ⟨rfl, y, rfl⟩) (o21 y2)
  · -- size
    subst z3
    exact ⟨fun y => rv_fail hn hf (odbad (Or.inl rfl) (o20 y)) hqL hL h6r, fun y => rv_size hn ht hT hp hC (hs3 rfl) hq hu hqu h6 h8 hf hr0 hr1 (o21 y)⟩
  · -- a move
    have n48 : nm = 4 ∨ nm = 8 := Classical.byContradiction (fun y => z2 (an2.mpr y))
    exact ⟨fun y => rv_move hn ht hT hp hC hx.1.2 hq hu hqu h6 h8 hf n48 hr0 hr1 o20 o21 (by rw [if_neg y]), fun y => rv_move hn ht hT hp hC hx.1.2 hq hu hqu h6 h8 hf n48 hr0 hr1 o20 o21 (by rw [if_pos y])⟩
  · -- a setting
    have n16 : 16 ≤ nm := Classical.byContradiction (fun y => z1 (an1.mpr y))
    have nm3 : nm = 16 ∨ nm = 32 ∨ nm = 64 := by unfold isNm at hnm; omega
    exact rv_set hn ht hT hp hx hC hq hu hqu h6 h8 hf nm3 hr0 hr1
  · -- a name that counts nothing
    have e := hr1 x (by unfold vlF; rw [if_pos z0])
    rw [e]
    exact ⟨hf, h8, h6, hC⟩
theorem sp_readValue (hn : 73 ≤ n) {t k m od q : Nat} {c nm : Int} {x : ND} (ht : zIsT t) (hnm : isNm nm) (hT : TpC σ B L) (hp : gP σ 49 4 = some t) (hx : NDI k m c x) (hC : NdC σ t x) (hs3 : nm = 1 → od = 0 → ∀ p, nSet x p = 3) (hod : od ≤ 1500) (hq : q < L) (h6 : gI σ 49 6 = (q : Int)) (h8 : NoF σ) :
    ZkV X M_X5_readValue (d + 3) n [.ref (zB X + 49), iV nm, iV (od : Int)] σ (fun σ' => Fr (vlW t) σ σ' ∧ RvR σ' t L (v1F B L nm od q x)) := by
  have hL := hT.2.1
  have rnm : R32 nm := by unfold isNm at hnm; exact ⟨by omega, by omega⟩
  have ht2 : ¬ t = 49 := by unfold zIsT at ht; omega
  refine w_X5_readValue hn rnm ⟨by omega, by omega⟩ (fun y1 ey => ?_)
  rw [h6] at ey
  subst ey
  refine (sp_closing hn hT hq).mono ?_
  rintro v _ - ⟨rfl, hv⟩
  have hge := clF_ge (B := B) (L := L) L (q + 1)
  have hres : ∀ u, u = clF B L L (q + 1) → v1F B L nm od q x = (if L ≤ u then .inl (1, L) else match vlF B nm od (q + 1) u x with | none => .inl (3, q) | some y => .inr (u + 1, y)) := fun u hu => by rw [hu]; rfl
  have hres' := hres _ rfl
  rw [hres']
  generalize clF B L L (q + 1) = u at hv hge
  subst hv
  rw [hT.1]
  refine ⟨fun z => ?_, fun z => ?_⟩
  · rw [if_neg (by omega)]
    have fs : Fr (fun a j => a = 49 ∧ j = 6) σ (sI σ 49 6 ((u : Int) + 1)) := Fr.rf.sI ⟨rfl, rfl⟩
    have go : ∀ x20 : Int, ((x20 = 1 ∧ od = 0) ∨ (x20 = 0 ∧ ¬ od = 0)) → (od ≠ 0 → nm = 1 → ∀ p, nSet x p = 3) → L_X5_readValue_59 X (d + 2) n (zpV (fun σ' => Fr (vlW t) σ σ' ∧ RvR σ' t L (match vlF B nm od (q + 1) u x with | none => .inl (3, q) | some y => .inr (u + 1, y)))) nm (q : Int) ((q + 1 : Nat) : Int) (u : Int) x20 (sI σ 49 6 ((u : Int) + 1)) := fun x20 h20 h0 => rv_59 hn ht hnm (hT.kept fs (fun i => by omega) (by omega)) (by rw [gP_sI]; exact hp) hx (hC.kept fs ⟨by omega, by omega, by omega, by omega, by omega, fun w => by omega⟩) (fun y => by
        by_cases ho : od = 0
        · exact hs3 y ho
        · exact h0 ho y) hq (by omega) (by omega) (by rw [gI_same]; omega) (h8.kept fs (by omega) (by omega)) (fs.mono (fun a j y => by unfold vlW; omega)) _ (fun e => by rw [e]) (fun y e => by rw [e]) x20 h20
    refine ⟨⟨by omega, by omega⟩, fun y => ⟨⟨by omega, by omega⟩, ?_⟩, fun y => ⟨⟨by omega, by omega⟩, ?_⟩⟩
    · by_cases h1 : nm = 1
      · -- more than one size: fails whatever the sets are
        have fs' : Fr (vlW t) σ (sI σ 49 6 ((u : Int) + 1)) := fs.mono (fun a j y => by unfold vlW; omega)
        have e : vlF B nm od (q + 1) u x = none := by
          unfold vlF
          rw [if_neg (by omega), if_neg (by omega), if_pos (by omega)]
        rw [e]
        refine b_X5_readValue_59 hn ⟨fun _ => ⟨fun _ => ⟨fun _ => ⟨fun w => absurd h1 w, fun _ => ⟨fun _ => rv_fail hn fs' rfl (by omega) hL (by rw [gI_same]; omega), fun w => absurd rfl w⟩⟩, fun w => ?_⟩, fun w => ?_⟩, fun w => by omega⟩
        · exact absurd (by rw [h1]; decide) w
        · exact absurd (by rw [h1]; decide) w
      · have := go 0 (Or.inr ⟨rfl, by omega⟩) (fun _ y => absurd y h1)
        simpa using this
    · have := go 1 (Or.inl ⟨rfl, by omega⟩) (fun y => by omega)
      simpa using this
  · rw [if_pos (by omega)]
    refine (sp_fail hn ⟨by omega, by omega⟩ ⟨by omega, by omega⟩).mono ?_
    rintro σ1 ⟨f1, e1, e2⟩
    exact ⟨f1.mono (fun a j y => by unfold vlW; omega), e1, e2, by show ¬ (1 : Int) = 0; omega, by rw [f1.I (by omega), h6]; omega⟩
end ZC
