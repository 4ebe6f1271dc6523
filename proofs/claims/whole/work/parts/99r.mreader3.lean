/-- what the reference has noted of a node -/
def NdM (σ : ZSto) (g k : Nat) (x : ND) : Prop := gI σ 73 29 = nTold x ∧ gI σ 75 (250 * g + k) = (if nMvr x = 0 then 0 else if nPnt x = -1 then 2 else 1) ∧ gI σ 76 (250 * g + k) = nMvr x ∧ gI σ 77 (250 * g + k) = nPnt x ∧ (∀ p, p < 81 → gI σ 80 (81 * (250 * g + k) + p) = nSet x p) ∧ gI σ 73 13 = (nSz x : Int) ∧ gI σ 82 g = (nSz x : Int) ∧ gI σ 83 g = nKm x
def vmW (g k a j : Nat) : Prop := ((a = 75 ∨ a = 76 ∨ a = 77) ∧ j = 250 * g + k) ∨ (a = 80 ∧ 81 * (250 * g + k) ≤ j ∧ j < 81 * (250 * g + k) + 81) ∨ (a = 73 ∧ j = 13) ∨ ((a = 82 ∨ a = 83) ∧ j = g)
theorem NdM.kept {W : Nat → Nat → Prop} {σ σ' : ZSto} {g k : Nat} {x : ND} (h : NdM σ g k x) (hf : Fr W σ σ') (hw : ∀ a j, W a j → (a = 73 ∧ (j = 24 ∨ j = 21 ∨ j = 22 ∨ j = 27)) ∨ (84 ≤ a ∧ a ≤ 87)) : NdM σ' g k x := by
  obtain ⟨h1, h2, h3, h4, h5, h6, h7, h8⟩ := h
  have e : ∀ a j, ¬ ((a = 73 ∧ (j = 24 ∨ j = 21 ∨ j = 22 ∨ j = 27)) ∨ (84 ≤ a ∧ a ≤ 87)) → gI σ' a j = gI σ a j := fun a j q => hf.I (fun y => q (hw a j y))
  exact ⟨by rw [e 73 29 (by omega)]; exact h1, by rw [e 75 _ (by omega)]; exact h2, by rw [e 76 _ (by omega)]; exact h3, by rw [e 77 _ (by omega)]; exact h4, fun p hp => by rw [e 80 _ (by omega)]; exact h5 p hp, by rw [e 73 13 (by omega)]; exact h6, by rw [e 82 _ (by omega)]; exact h7, by rw [e 83 _ (by omega)]; exact h8⟩
section ZQ
variable {X : ZX} {d n : Nat} {B : Nat → Int} {L : Nat}
theorem mv_komi (hn : 104 ≤ n) {σ : ZSto} {g k q u : Nat} {mi : Int} {x : ND} (hg : g < 2) (hT : TpM σ B L) (h28 : gI σ 73 28 = (g : Int)) (hN : NdM σ g k x) (hqu : q + 1 ≤ u) (hu : u < L) (h24 : gI σ 73 24 = (u : Int)) (hi : (mi = 1 ∧ B (q + 1) = 45) ∨ (mi = 0 ∧ ¬ B (q + 1) = 45)) :
    L_X10_isValue_75 X (d + 1) n (zpZ (fun v σ' => Fr (vmW g k) σ σ' ∧ ((v = 1 ∧ ∃ y, vlF B 2 0 (q + 1) u x = some y ∧ NdM σ' g k y) ∨ (v = 0 ∧ vlF B 2 0 (q + 1) u x = none)))) ((q + 1 : Nat) : Int) mi σ := by
  have hL := hT.2.1
  obtain ⟨h1, h2, h3, h4, h5, h6, h7, h8⟩ := hN
  have tg : ((g : Int)).toNat = g := by omega
  have key : ∀ (i : Nat) (w : Int → Int), vlF B 2 0 (q + 1) u x = (if nuF B i u < 0 ∨ 200 < nuF B i u then none else some (nTold x, nMvr x, nPnt x, nSet x, nSz x, w (nuF B i u))) → ∀ v, v = nuF B i u → (v < 0 → Fr (vmW g k) σ (sI σ 83 g (w v)) ∧ (((0 : Int) = 1 ∧ ∃ y, vlF B 2 0 (q + 1) u x = some y ∧ NdM (sI σ 83 g (w v)) g k y) ∨ ((0 : Int) = 0 ∧ vlF B 2 0 (q + 1) u x = none))) ∧ (¬ v < 0 → (200 < v → Fr (vmW g k) σ (sI σ 83 g (w v)) ∧ (((0 : Int) = 1 ∧ ∃ y, vlF B 2 0 (q + 1) u x = some y ∧ NdM (sI σ 83 g (w v)) g k y) ∨ ((0 : Int) = 0 ∧ vlF B 2 0 (q + 1) u x = none))) ∧ (¬ 200 < v → Fr (vmW g k) σ (sI σ 83 g (w v)) ∧ (((1 : Int) = 1 ∧ ∃ y, vlF B 2 0 (q + 1) u x = some y ∧ NdM (sI σ 83 g (w v)) g k y) ∨ ((1 : Int) = 0 ∧ vlF B 2 0 (q + 1) u x = none)))) := by
    intro i w he v hv
    have fs : Fr (fun a j => a = 83 ∧ j = g) σ (sI σ 83 g (w v)) := Fr.rf.sI ⟨rfl, rfl⟩
    have F : Fr (vmW g k) σ (sI σ 83 g (w v)) := fs.mono (fun a j y => by unfold vmW; omega)
    rw [he, ← hv]
    refine ⟨fun y => ⟨F, Or.inr ⟨rfl, by rw [if_pos (Or.inl y)]⟩⟩, fun y => ⟨fun y2 => ⟨F, Or.inr ⟨rfl, by rw [if_pos (Or.inr y2)]⟩⟩, fun y2 => ⟨F, Or.inl ⟨rfl, _, by rw [if_neg (by omega)], by rw [fs.I (by omega)]; exact h1, by rw [fs.I (by omega)]; exact h2, by rw [fs.I (by omega)]; exact h3, by rw [fs.I (by omega)]; exact h4, fun p hp => by rw [fs.I (by omega)]; exact h5 p hp, by rw [fs.I (by omega)]; exact h6, by rw [fs.I (by omega)]; exact h7, by rw [gI_same]; rfl⟩⟩⟩⟩
  have e1 : B (q + 1) = 45 → vlF B 2 0 (q + 1) u x = (if nuF B (q + 2) u < 0 ∨ 200 < nuF B (q + 2) u then none else some (nTold x, nMvr x, nPnt x, nSet x, nSz x, -(nuF B (q + 2) u))) := by
    intro e
    unfold vlF
    rw [if_neg (by decide), if_neg (by decide), if_neg (by decide), if_neg (by decide), if_neg (by decide), if_pos e]
  have e0 : ¬ B (q + 1) = 45 → vlF B 2 0 (q + 1) u x = (if nuF B (q + 1) u < 0 ∨ 200 < nuF B (q + 1) u then none else some (nTold x, nMvr x, nPnt x, nSet x, nSz x, nuF B (q + 1) u)) := by
    intro e
    unfold vlF
    rw [if_neg (by decide), if_neg (by decide), if_neg (by decide), if_neg (by decide), if_neg (by decide), if_neg e]
  refine b_X10_isValue_75 hn ⟨fun z => (sm_digits hn hT (i := q + 1) (j := u) (by omega) (by omega) h24).mono ?_, fun z => ?_⟩
  · rintro v _ - ⟨rfl, hv⟩
    rw [h28, tg]
    have k0 := key (q + 1) (fun v => v) (e0 (by omega)) v hv
    exact ⟨fun _ => ⟨by omega, k0.1, k0.2⟩, fun y => absurd z y⟩
  · rw [show ((q + 1 : Nat) : Int) + 1 = ((q + 2 : Nat) : Int) by omega]
    refine (sm_digits hn hT (i := q + 2) (j := u) (by omega) (by omega) h24).mono ?_
    rintro v _ - ⟨rfl, hv⟩
    rw [h28, tg]
    have hnr := nuF_r (B := B) (i := q + 2) (j := u)
    rw [← hv] at hnr
    have k1 := key (q + 2) (fun v => -v) (e1 (by omega)) v hv
    exact ⟨fun y => absurd y z, fun _ => ⟨by omega, ⟨by omega, by omega⟩, k1.1, k1.2⟩⟩
theorem mv_move (hn : 104 ≤ n) {σ : ZSto} {g k q u : Nat} {nm p : Int} {x : ND} (hg : g < 2) (hk : k < 250) (hN : NdM σ g k x) (hqu : q + 1 ≤ u) (h24 : gI σ 73 24 = (u : Int)) (n48 : nm = 4 ∨ nm = 8) (hp : p = ptF B (nSz x) (q + 1) u) (hr : R32 p) :
    L_X10_isValue_154 X (d + 1) n (zpZ (fun v σ' => Fr (vmW g k) σ σ' ∧ ((v = 1 ∧ ∃ y, vlF B nm 0 (q + 1) u x = some y ∧ NdM σ' g k y) ∨ (v = 0 ∧ vlF B nm 0 (q + 1) u x = none)))) ((250 * g + k : Nat) : Int) nm ((q + 1 : Nat) : Int) p σ := by
  obtain ⟨h1, h2, h3, h4, h5, h6, h7, h8⟩ := hN
  have tK : (((250 * g + k : Nat) : Int)).toNat = 250 * g + k := by omega
  have pr : p = -1 ∨ (0 ≤ p ∧ u = q + 3) := by
    rw [hp]
    unfold ptF
    split
    · rename_i h
      refine Or.inr ⟨?_, by omega⟩
      have : 0 ≤ (B (q + 1 + 1) - 97) * (nSz x : Int) := Int.mul_nonneg (by omega) (by omega)
      omega
    · exact Or.inl rfl
  have ev : vlF B nm 0 (q + 1) u x = (if p = -1 ∧ ¬ q + 1 = u then none else some (nTold x, (if nm = 4 then (1 : Int) else 2), p, nSet x, nSz x, nKm x)) := by
    unfold vlF
    rw [if_neg (by omega), if_neg (by omega), if_neg (by decide), if_pos n48, ← hp]
  rw [ev]
  have go : ∀ (kd cl : Int), kd = (if p = -1 then 2 else 1) → cl = (if nm = 4 then 1 else 2) → ¬ (p = -1 ∧ ¬ q + 1 = u) → Fr (vmW g k) σ (sI (sI (sI σ 75 (250 * g + k) kd) 76 (250 * g + k) cl) 77 (250 * g + k) p) ∧ (((1 : Int) = 1 ∧ ∃ y, (if p = -1 ∧ ¬ q + 1 = u then none else some (nTold x, (if nm = 4 then (1 : Int) else 2), p, nSet x, nSz x, nKm x)) = some y ∧ NdM (sI (sI (sI σ 75 (250 * g + k) kd) 76 (250 * g + k) cl) 77 (250 * g + k) p) g k y) ∨ ((1 : Int) = 0 ∧ (if p = -1 ∧ ¬ q + 1 = u then none else some (nTold x, (if nm = 4 then (1 : Int) else 2), p, nSet x, nSz x, nKm x)) = none)) := by
    intro kd cl hkd hcl hok
    have fs : Fr (fun a j => (a = 75 ∨ a = 76 ∨ a = 77) ∧ j = 250 * g + k) σ (sI (sI (sI σ 75 (250 * g + k) kd) 76 (250 * g + k) cl) 77 (250 * g + k) p) := ((Fr.rf.sI (by omega)).sI (by omega)).sI (by omega)
    refine ⟨fs.mono (fun a j y => by unfold vmW; omega), Or.inl ⟨rfl, _, by rw [if_neg hok], by rw [fs.I (by omega)]; exact h1, ?_, ?_, ?_, fun p hp => by rw [fs.I (by omega)]; exact h5 p hp, by rw [fs.I (by omega)]; exact h6, by rw [fs.I (by omega)]; exact h7, by rw [fs.I (by omega)]; exact h8⟩⟩
    · rw [gI_c (by omega), gI_c (by omega), gI_same, hkd]
      show (if p = -1 then (2 : Int) else 1) = (if (if nm = 4 then (1 : Int) else 2) = 0 then 0 else if p = -1 then 2 else 1)
      have : ¬ (if nm = 4 then (1 : Int) else 2) = 0 := by split <;> omega
      rw [if_neg this]
    · rw [gI_c (by omega), gI_same]; exact hcl
    · rw [gI_same]; rfl
  have no : ∀ (kd cl : Int), (p = -1 ∧ ¬ q + 1 = u) → Fr (vmW g k) σ (sI (sI (sI σ 75 (250 * g + k) kd) 76 (250 * g + k) cl) 77 (250 * g + k) p) ∧ (((0 : Int) = 1 ∧ ∃ y, (if p = -1 ∧ ¬ q + 1 = u then none else some (nTold x, (if nm = 4 then (1 : Int) else 2), p, nSet x, nSz x, nKm x)) = some y ∧ NdM (sI (sI (sI σ 75 (250 * g + k) kd) 76 (250 * g + k) cl) 77 (250 * g + k) p) g k y) ∨ ((0 : Int) = 0 ∧ (if p = -1 ∧ ¬ q + 1 = u then none else some (nTold x, (if nm = 4 then (1 : Int) else 2), p, nSet x, nSz x, nKm x)) = none)) := by
    intro kd cl hb
    have fs : Fr (fun a j => (a = 75 ∨ a = 76 ∨ a = 77) ∧ j = 250 * g + k) σ (sI (sI (sI σ 75 (250 * g + k) kd) 76 (250 * g + k) cl) 77 (250 * g + k) p) := ((Fr.rf.sI (by omega)).sI (by omega)).sI (by omega)
    exact ⟨fs.mono (fun a j y => by unfold vmW; omega), Or.inr ⟨rfl, by rw [if_pos hb]⟩⟩
  refine b_X10_isValue_154 hn ?_
  rw [h24, tK]
  refine ⟨fun z => ⟨by omega, fun y => ⟨fun y2 => go 1 2 (by rw [if_neg (by omega)]) (by rw [if_neg y]) (by omega), fun y2 => ⟨fun y3 => no 1 2 (by omega), fun y3 => absurd y3 z⟩⟩, fun y => ⟨fun y2 => go 1 1 (by rw [if_neg (by omega)]) (by rw [if_pos y]) (by omega), fun y2 => ⟨fun y3 => no 1 1 (by omega), fun y3 => absurd y3 z⟩⟩⟩, fun z => ⟨by omega, fun y => ⟨fun y2 => by omega, fun y2 => ⟨fun y3 => absurd z y3, fun y3 => go 2 2 (by rw [if_pos (by omega)]) (by rw [if_neg y]) (by omega)⟩⟩, fun y => ⟨fun y2 => by omega, fun y2 => ⟨fun y3 => absurd z y3, fun y3 => go 2 1 (by rw [if_pos (by omega)]) (by rw [if_pos y]) (by omega)⟩⟩⟩⟩
theorem mv_set (hn : 104 ≤ n) {σ : ZSto} {g k m q u : Nat} {c nm v : Int} {od : Nat} {x : ND} (hg : g < 2) (hk : k < 250) (hx : NDI k m c x) (hN : NdM σ g k x) (nm3 : nm = 16 ∨ nm = 32 ∨ nm = 64) (hv : v = ptF B (nSz x) (q + 1) u) :
    (v < 0 → Fr (vmW g k) σ σ ∧ (((0 : Int) = 1 ∧ ∃ y, vlF B nm od (q + 1) u x = some y ∧ NdM σ g k y) ∨ ((0 : Int) = 0 ∧ vlF B nm od (q + 1) u x = none))) ∧ (¬ v < 0 → (0 ≤ 81 * ((250 * g + k : Nat) : Int) + v ∧ 81 * ((250 * g + k : Nat) : Int) + v < 40500) ∧ (3 ≤ gI σ 80 ((81 * ((250 * g + k : Nat) : Int) + v).toNat) → (¬ nm = 16 → (¬ nm = 32 → Fr (vmW g k) σ (sI σ 80 ((81 * ((250 * g + k : Nat) : Int) + v).toNat) (w8 0)) ∧ (((1 : Int) = 1 ∧ ∃ y, vlF B nm od (q + 1) u x = some y ∧ NdM (sI σ 80 ((81 * ((250 * g + k : Nat) : Int) + v).toNat) (w8 0)) g k y) ∨ ((1 : Int) = 0 ∧ vlF B nm od (q + 1) u x = none))) ∧ (nm = 32 → Fr (vmW g k) σ (sI σ 80 ((81 * ((250 * g + k : Nat) : Int) + v).toNat) (w8 2)) ∧ (((1 : Int) = 1 ∧ ∃ y, vlF B nm od (q + 1) u x = some y ∧ NdM (sI σ 80 ((81 * ((250 * g + k : Nat) : Int) + v).toNat) (w8 2)) g k y) ∨ ((1 : Int) = 0 ∧ vlF B nm od (q + 1) u x = none)))) ∧ (nm = 16 → Fr (vmW g k) σ (sI σ 80 ((81 * ((250 * g + k : Nat) : Int) + v).toNat) (w8 1)) ∧ (((1 : Int) = 1 ∧ ∃ y, vlF B nm od (q + 1) u x = some y ∧ NdM (sI σ 80 ((81 * ((250 * g + k : Nat) : Int) + v).toNat) (w8 1)) g k y) ∨ ((1 : Int) = 0 ∧ vlF B nm od (q + 1) u x = none)))) ∧ (¬ 3 ≤ gI σ 80 ((81 * ((250 * g + k : Nat) : Int) + v).toNat) → Fr (vmW g k) σ σ ∧ (((0 : Int) = 1 ∧ ∃ y, vlF B nm od (q + 1) u x = some y ∧ NdM σ g k y) ∨ ((0 : Int) = 0 ∧ vlF B nm od (q + 1) u x = none)))) := by
  obtain ⟨h1, h2, h3, h4, h5, h6, h7, h8⟩ := hN
  obtain ⟨a1, -, -, a4, -⟩ := hx
  have hN9 := sq_le a1.2
  have n0 : ¬ nm = 0 := by omega
  have n16 : 16 ≤ nm := by omega
  have ev : vlF B nm od (q + 1) u x = (if v < 0 ∨ nSet x v.toNat ≠ 3 then none else some (nTold x, nMvr x, nPnt x, setN (nSet x) v.toNat (if nm = 16 then 1 else if nm = 32 then 2 else 0), nSz x, nKm x)) := by
    unfold vlF
    rw [if_neg n0, if_pos n16, ← hv]
  rw [ev]
  refine ⟨fun z => ⟨Fr.rf, Or.inr ⟨rfl, by rw [if_pos (Or.inl z)]⟩⟩, fun z => ?_⟩
  rcases ptF_r (B := B) (m := nSz x) (i := q + 1) (j := u) with e | ⟨p, e, hpN⟩
  · omega
  have hvp : v = (p : Int) := by rw [hv, e]
  subst hvp
  have tp : ((p : Int)).toNat = p := by omega
  have ti : (81 * ((250 * g + k : Nat) : Int) + (p : Int)).toNat = 81 * (250 * g + k) + p := by omega
  rw [tp, ti, h5 p (by omega)]
  have a4p := a4 p
  have go : ∀ s : Int, s = (if nm = 16 then 1 else if nm = 32 then 2 else 0) → (0 ≤ s ∧ s ≤ 2) → 3 ≤ nSet x p → Fr (vmW g k) σ (sI σ 80 (81 * (250 * g + k) + p) (w8 s)) ∧ (((1 : Int) = 1 ∧ ∃ y, (if (p : Int) < 0 ∨ nSet x p ≠ 3 then none else some (nTold x, nMvr x, nPnt x, setN (nSet x) p (if nm = 16 then 1 else if nm = 32 then 2 else 0), nSz x, nKm x)) = some y ∧ NdM (sI σ 80 (81 * (250 * g + k) + p) (w8 s)) g k y) ∨ ((1 : Int) = 0 ∧ (if (p : Int) < 0 ∨ nSet x p ≠ 3 then none else some (nTold x, nMvr x, nPnt x, setN (nSet x) p (if nm = 16 then 1 else if nm = 32 then 2 else 0), nSz x, nKm x)) = none)) := by
    intro s hs hsr h3'
    rw [w8_small (by omega) (by omega)]
    have fs : Fr (fun a j => a = 80 ∧ j = 81 * (250 * g + k) + p) σ (sI σ 80 (81 * (250 * g + k) + p) s) := Fr.rf.sI ⟨rfl, rfl⟩
    refine ⟨fs.mono (fun a j y => by unfold vmW; omega), Or.inl ⟨rfl, _, by rw [if_neg (by omega)], by rw [fs.I (by omega)]; exact h1, by rw [fs.I (by omega)]; exact h2, by rw [fs.I (by omega)]; exact h3, by rw [fs.I (by omega)]; exact h4, fun q hq => ?_, by rw [fs.I (by omega)]; exact h6, by rw [fs.I (by omega)]; exact h7, by rw [fs.I (by omega)]; exact h8⟩⟩
    show _ = setN (nSet x) p _ q
    by_cases e : q = p
    · rw [e, gI_same, setN_eq]; exact hs
    · rw [gI_f (by omega), setN_ne e]; exact h5 q hq
  refine ⟨by omega, fun y => ⟨fun y2 => ⟨fun y3 => go 0 (by rw [if_neg y2, if_neg y3]) (by omega) y, fun y3 => go 2 (by rw [if_neg y2, if_pos y3]) (by omega) y⟩, fun y2 => go 1 (by rw [if_pos y2]) (by omega) y⟩, fun y => ⟨Fr.rf, Or.inr ⟨rfl, by rw [if_pos (Or.inr (by omega))]⟩⟩⟩
theorem sm_isValue (hn : 104 ≤ n) {σ : ZSto} {g k m od q u : Nat} {c nm : Int} {x : ND} (hg : g < 2) (hk : k < 250) (hT : TpM σ B L) (h28 : gI σ 73 28 = (g : Int)) (hnm : isNm nm) (hn0 : ¬ nm = 0) (hod : nm < 16 → od = 0) (hx : NDI k m c x) (hN : NdM σ g k x) (hqu : q + 1 ≤ u) (hu : u < L) (hBu : B u = 93) (h24 : gI σ 73 24 = (u : Int)) :
    ZkZ X M_X10_isValue (d + 2) n [.ref (zB X + 73), iV ((250 * g + k : Nat) : Int), iV nm, iV ((q + 1 : Nat) : Int)] σ (fun v σ' => Fr (vmW g k) σ σ' ∧ ((v = 1 ∧ ∃ y, vlF B nm od (q + 1) u x = some y ∧ NdM σ' g k y) ∨ (v = 0 ∧ vlF B nm od (q + 1) u x = none))) := by
  have hL := hT.2.1
  have rnm : R32 nm := by unfold isNm at hnm; exact ⟨by omega, by omega⟩
  have tg : ((g : Int)).toNat = g := by omega
  have nm16 : 16 ≤ nm → nm = 16 ∨ nm = 32 ∨ nm = 64 := by unfold isNm at hnm; omega
  have nmc : ¬ nm = 1 → ¬ nm = 2 → ¬ nm = 4 → ¬ nm = 8 → 16 ≤ nm := by unfold isNm at hnm; omega
  have h13 := hN.2.2.2.2.2.1
  refine w_X10_isValue hn ⟨by omega, by omega⟩ rnm ⟨by omega, by omega⟩ ⟨fun z1 => ⟨fun z2 => ?_, fun z2 => ?_⟩, fun z1 => ?_⟩
  · refine (sm_pointFrom hn hT (i := q + 1) (j := u) hqu (by omega) h24 h13 hx.1.2).mono ?_
    rintro v _ hvr ⟨rfl, hv⟩
    refine ⟨fun z4 => ?_, fun z4 => ⟨fun z8 => ?_, fun z8 => ?_⟩⟩
    · have ho := hod (by omega)
      subst ho
      exact mv_move hn hg hk hN hqu h24 (Or.inl z4) hv hvr
    · exact mv_set hn hg hk hx hN (nm16 (nmc z1 z2 z4 z8)) hv
    · have ho := hod (by omega)
      subst ho
      exact mv_move hn hg hk hN hqu h24 (Or.inr z8) hv hvr
  · subst z2
    have ho := hod (by omega)
    subst ho
    rw [h24]
    obtain ⟨-, u1, u2, u3, u4⟩ := hT.2.2 (q + 1) (by omega)
    rw [show (((q + 1 : Nat) : Int)).toNat = q + 1 by omega]
    refine ⟨fun y => b_X10_isValue_74 hn (mv_komi hn hg hT h28 hN hqu hu h24 (Or.inr ⟨rfl, ?_⟩)), fun y => ⟨by omega, fun y2 => b_X10_isValue_74 hn (mv_komi hn hg hT h28 hN hqu hu h24 (Or.inr ⟨rfl, by omega⟩)), fun y2 => mv_komi hn hg hT h28 hN hqu hu h24 (Or.inl ⟨rfl, by omega⟩)⟩⟩
    have : u = q + 1 := by omega
    rw [← this, hBu]; omega
  · subst z1
    have ho := hod (by omega)
    subst ho
    refine (sm_digits hn hT (i := q + 1) (j := u) (by omega) (by omega) h24).mono ?_
    rintro v _ - ⟨rfl, hv⟩
    have ev : vlF B 1 0 (q + 1) u x = (if v < 3 ∨ 9 < v then none else some (nTold x, nMvr x, nPnt x, nSet x, v.toNat, nKm x)) := by
      unfold vlF
      rw [if_neg (by decide), if_neg (by decide), if_neg (by decide), if_neg (by decide), if_pos rfl, ← hv]
    rw [ev, h28, tg]
    obtain ⟨h1, h2, h3, h4, h5, h6, h7, h8⟩ := hN
    refine ⟨fun y => ⟨Fr.rf, Or.inr ⟨rfl, by rw [if_pos (Or.inl y)]⟩⟩, fun y => ⟨fun y2 => ⟨by omega, ?_⟩, fun y2 => ⟨Fr.rf, Or.inr ⟨rfl, by rw [if_pos (Or.inr (by omega))]⟩⟩⟩⟩
    have fs : Fr (fun a j => (a = 73 ∧ j = 13) ∨ (a = 82 ∧ j = g)) σ (sI (sI σ 73 13 v) 82 g v) := (Fr.rf.sI (by omega)).sI (by omega)
    refine ⟨fs.mono (fun a j y => by unfold vmW; omega), Or.inl ⟨rfl, _, by rw [if_neg (by omega)], by rw [fs.I (by omega)]; exact h1, by rw [fs.I (by omega)]; exact h2, by rw [fs.I (by omega)]; exact h3, by rw [fs.I (by omega)]; exact h4, fun p hp => by rw [fs.I (by omega)]; exact h5 p hp, ?_, ?_, by rw [fs.I (by omega)]; exact h8⟩⟩
    · rw [gI_c (by omega), gI_same]
      show v = ((v.toNat : Nat) : Int)
      omega
    · rw [gI_same]
      show v = ((v.toNat : Nat) : Int)
      omega
end ZQ
