section ZC
variable {X : ZX} {d n : Nat} {σ : ZSto} {B : Nat → Int} {L : Nat}
theorem sp_numberIn (hn : 73 ≤ n) (hT : TpC σ B L) {i j : Nat} (hij : i ≤ j + 1) (hj : j ≤ L) : ZkI X M_X5_numberIn (d + 2) n [.ref (zB X + 49), iV (i : Int), iV (j : Int)] σ (fun v σ' => σ = σ' ∧ v = nuF B i j) := by
  have hL := hT.2.1
  refine w_X5_numberIn hn ⟨by omega, by omega⟩ ⟨by omega, by omega⟩ ⟨⟨by omega, by omega⟩, fun z => ⟨rfl, ?_⟩, fun z => ⟨fun z2 => ?_, fun z2 => ⟨rfl, ?_⟩⟩⟩
  · unfold nuF; rw [if_pos (by omega)]
  · have e : nuF B i j = dgF B (j - i) i 0 := by unfold nuF; rw [if_neg (by omega)]
    rw [e]
    have key : ∀ (w x : Nat) (a : Int), j = x + w → w ≤ 3 → 0 ≤ a → (w = 3 → a < 100) → (w = 2 → a < 1000) → (w = 1 → a < 10000) → ∀ r : Int, r = dgF B w x a → L_X5_numberIn_21 X (d + 1) n (zpI (fun v σ' => σ = σ' ∧ v = r)) (j : Int) a (x : Int) σ := by
      intro w
      induction w with
      | zero =>
        intro x a hx _ _ _ _ _ r hr
        exact b_X5_numberIn_21 hn ⟨fun _ => ⟨rfl, by rw [hr]; rfl⟩, fun q => by omega⟩
      | succ w ih =>
        intro x a hx hw ha h3 h2 h1 r hr
        refine b_X5_numberIn_21 hn ⟨fun q => by omega, fun _ => (sp_byte hn hT x (by omega)).mono ?_⟩
        rintro b _ - ⟨rfl, hb⟩
        have hb' : b = B x := by omega
        subst hb'
        have hr2 := (hT.2.2 x (by omega)).2
        unfold dgF at hr
        refine ⟨⟨by omega, by omega⟩, fun y => ⟨rfl, ?_⟩, fun y => ⟨fun y2 => ⟨⟨by omega, by omega⟩, ⟨by omega, by omega⟩, ?_⟩, fun y2 => ⟨rfl, ?_⟩⟩⟩
        · rw [if_neg (by omega)] at hr; exact hr.symm
        · rw [if_pos (by omega)] at hr
          have := ih (x + 1) (10 * a + (B x - 48)) (by omega) (by omega) (by omega) (by omega) (by omega) (by omega) r hr
          simpa using this
        · rw [if_neg (by omega)] at hr; exact hr.symm
    exact key (j - i) i 0 (by omega) (by omega) (by omega) (by omega) (by omega) (by omega) _ rfl
  · unfold nuF; rw [if_pos (by omega)]
theorem sp_pointIn (hn : 73 ≤ n) (hT : TpC σ B L) {i j t m : Nat} (hij : i ≤ j) (hj : j ≤ L) (ht : zIsT t) (hp : gP σ 49 4 = some t) (hm : gI σ t 13 = (m : Int)) (h9 : m ≤ 9) : ZkI X M_X5_pointIn (d + 2) n [.ref (zB X + 49), iV (i : Int), iV (j : Int)] σ (fun v σ' => σ = σ' ∧ v = ptF B m i j) := by
  have hL := hT.2.1
  refine w_X5_pointIn hn ⟨by omega, by omega⟩ ⟨by omega, by omega⟩ ⟨⟨by omega, by omega⟩, fun z => (sp_byte hn hT i (by omega)).mono ?_, fun z => ⟨rfl, ?_⟩⟩
  · rintro b _ - ⟨rfl, hb⟩
    have hb' : b = B i := by omega
    subst hb'
    rw [show (i : Int) + 1 = ((i + 1 : Nat) : Int) by omega]
    refine (sp_byte hn hT (i + 1) (by omega)).mono ?_
    rintro b2 _ - ⟨rfl, hb2⟩
    have hb2' : b2 = B (i + 1) := by omega
    subst hb2'
    have r1 := (hT.2.2 i (by omega)).2
    have r2 := (hT.2.2 (i + 1) (by omega)).2
    unfold ptF
    refine ⟨⟨by omega, by omega⟩, fun y => ⟨rfl, ?_⟩, fun y => ⟨t, hp, ht, ?_⟩⟩
    · rw [if_neg (by omega)]
    · rw [hm]
      refine ⟨fun y2 => ⟨rfl, ?_⟩, fun y2 => ⟨⟨by omega, by omega⟩, fun y3 => ⟨rfl, ?_⟩, fun y3 => ⟨fun y4 => ⟨?_, rfl, ?_⟩, fun y4 => ⟨rfl, ?_⟩⟩⟩⟩
      · rw [if_neg (by omega)]
      · rw [if_neg (by omega)]
      · have h1 : 0 ≤ (B (i + 1) - 97) * (m : Int) := Int.mul_nonneg (by omega) (by omega)
        have h2 : (B (i + 1) - 97) * (m : Int) ≤ 9 * 9 := Int.mul_le_mul (by omega) (by omega) (by omega) (by omega)
        exact ⟨by omega, by omega⟩
      · rw [if_pos ⟨by omega, ⟨by omega, by omega⟩, by omega, by omega⟩]
      · rw [if_neg (by omega)]
  · unfold ptF; rw [if_neg (by omega)]
theorem sp_closing (hn : 73 ≤ n) (hT : TpC σ B L) {q : Nat} (hq : q < L) : ZkI X M_X5_closingBehind (d + 2) n [.ref (zB X + 49), iV (q : Int)] σ (fun v σ' => σ = σ' ∧ v = (clF B L L (q + 1) : Nat)) := by
  have hL := hT.2.1
  refine w_X5_closingBehind hn ⟨by omega, by omega⟩ ⟨⟨by omega, by omega⟩, ?_⟩
  have key : ∀ (w x : Nat), L - x ≤ w → x ≤ L + 1 → ∀ r : Nat, r = clF B L w x → L_X5_closingBehind_4 X (d + 1) n (zpI (fun v σ' => σ = σ' ∧ v = (r : Int))) (x : Int) σ := by
    intro w
    induction w with
    | zero =>
      intro x hw hx r hr
      refine b_X5_closingBehind_4 hn ?_
      rw [hT.1]
      exact ⟨fun _ => ⟨rfl, by rw [hr]; rfl⟩, fun z => by omega⟩
    | succ w ih =>
      intro x hw hx r hr
      unfold clF at hr
      refine b_X5_closingBehind_4 hn ?_
      rw [hT.1]
      refine ⟨fun z => ⟨rfl, ?_⟩, fun z => (sp_byte hn hT x (by omega)).mono ?_⟩
      · rw [if_neg (by omega)] at hr; rw [hr]
      · rintro b _ - ⟨rfl, hb⟩
        have hb' : b = B x := by omega
        subst hb'
        refine ⟨fun y => ⟨rfl, ?_⟩, fun y => (sp_byte hn hT x (by omega)).mono ?_⟩
        · rw [if_neg (fun u => u.2 y)] at hr; rw [hr]
        · rintro b _ - ⟨rfl, hb⟩
          have hb' : b = B x := by omega
          subst hb'
          rw [if_pos ⟨by omega, y⟩] at hr
          refine ⟨fun y2 => ⟨⟨by omega, by omega⟩, ?_⟩, fun y2 => ⟨⟨by omega, by omega⟩, ?_⟩⟩
          · rw [if_neg y2] at hr
            have := ih (x + 1) (by omega) (by omega) r hr
            simpa using this
          · rw [if_pos y2] at hr
            have := ih (x + 2) (by omega) (by omega) r hr
            simpa using this
  have := key L (q + 1) (by omega) (by omega) _ rfl
  simpa using this
/-- what the class has noted of a node -/
def NdC (σ : ZSto) (t : Nat) (x : ND) : Prop := gI σ 49 13 = nTold x ∧ gI σ 49 14 = nMvr x ∧ gI σ 49 15 = nPnt x ∧ (∀ w, w < 3 → gL σ 51 w = lN (pkW (fun p => stC (nSet x p)) (nSz x * nSz x) w)) ∧ gI σ t 13 = (nSz x : Int) ∧ gI σ t 14 = nKm x
def vlW (t a j : Nat) : Prop := (a = 49 ∧ (j = 6 ∨ j = 8 ∨ j = 9 ∨ j = 14 ∨ j = 15)) ∨ a = 51 ∨ (a = t ∧ (j = 13 ∨ j = 14))
theorem sp_fail (hn : 73 ≤ n) {e z : Int} (he : R32 e) (hz : R32 z) : ZkV X M_X5_fail (d + 1) n [.ref (zB X + 49), iV e, iV z] σ (fun σ' => Fr (fun a j => a = 49 ∧ (j = 8 ∨ j = 9)) σ σ' ∧ gI σ' 49 8 = e ∧ gI σ' 49 9 = z) :=
  w_X5_fail hn he hz ⟨(Fr.rf.sI (by omega)).sI (by omega), by rw [gI_f (by omega), gI_same], gI_same _ _ _ _⟩
theorem sp_takeSetting (hn : 73 ≤ n) {t p : Nat} {nm : Int} {x : ND} {k m : Nat} {c : Int} (ht : zIsT t) (hx : NDI k m c x) (hC : NdC σ t x) (hp : p < nSz x * nSz x) (hnm : nm = 16 ∨ nm = 32 ∨ nm = 64) :
    ZkZ X M_X5_takeSetting (d + 2) n [.ref (zB X + 49), iV nm, iV (p : Int)] σ (fun v σ' => (v = 0 ∧ nSet x p ≠ 3 ∧ σ = σ') ∨ (v = 1 ∧ nSet x p = 3 ∧ Fr (fun a j => a = 51) σ σ' ∧ ∀ w, w < 3 → gL σ' 51 w = lN (pkW (fun q => stC (setN (nSet x) p (if nm = 16 then 1 else if nm = 32 then 2 else 0) q)) (nSz x * nSz x) w))) := by
  obtain ⟨a1, a2, a3, a4, a5, a6, a7, a8⟩ := hx
  have hN := sq_le a1.2
  refine w_X5_takeSetting hn ⟨by omega, by omega⟩ ⟨by omega, by omega⟩ ⟨fun z => by omega, fun _ => ?_⟩
  have hb4 : B4 (nSz x * nSz x) (fun q => stC (nSet x q)) := stC_b4 a4
  have := sp_pairAt (X := X) (d := d) (σ := σ) hn (a := 51) (z := 3) (from_ := 0) (N := nSz x * nSz x) (p := p) (by omega) sh_51 hb4 hp (by omega) (by omega) (fun w hw => by rw [Nat.zero_add]; exact hC.2.2.2.1 w hw)
  refine this.mono ?_
  rintro v _ - ⟨rfl, hv⟩
  have s0 : stC (nSet x p) = 0 ↔ nSet x p = 3 := by
    have := a4 p
    unfold stC
    split
    · simp_all
    · split
      · constructor
        · intro h; omega
        · intro h; omega
      · constructor
        · intro h; omega
        · intro h; omega
  have go : ∀ c0 : Int, (0 ≤ c0 ∧ c0 < 4) → stC (if nm = 16 then 1 else if nm = 32 then 2 else 0) = c0 → nSet x p = 3 → L_X5_takeSetting_40 X (d + 1) n (zpZ (fun v σ' => (v = 0 ∧ nSet x p ≠ 3 ∧ σ = σ') ∨ (v = 1 ∧ nSet x p = 3 ∧ Fr (fun a j => a = 51) σ σ' ∧ ∀ w, w < 3 → gL σ' 51 w = lN (pkW (fun q => stC (setN (nSet x) p (if nm = 16 then 1 else if nm = 32 then 2 else 0) q)) (nSz x * nSz x) w)))) (p : Int) c0 σ := by
    intro c0 hc0 es h3
    refine b_X5_takeSetting_40 hn ?_
    rw [shr5 (by omega), and31 (by omega)]
    refine ⟨fun z => by omega, fun _ => ⟨fun z => by omega, fun _ => ⟨by omega, Or.inr ⟨rfl, h3, Fr.rf.sL rfl, fun w hw => ?_⟩⟩⟩⟩
    rw [show (((p / 32 : Nat) : Int)).toNat = p / 32 by omega, gL_if]
    have ef : (fun q => stC (setN (nSet x) p (if nm = 16 then 1 else if nm = 32 then 2 else 0) q)) = fun q => if q = p then c0 else (fun q => stC (nSet x q)) q := by
      funext q
      by_cases e : q = p
      · rw [e, setN_eq, if_pos rfl]; exact es
      · rw [setN_ne e, if_neg e]
    rw [ef, pkW_set hb4 hp (by omega) (s0.mpr h3) hc0 w hw]
    by_cases e : w = p / 32
    · rw [if_pos ⟨rfl, e⟩, if_pos e, ← e, hC.2.2.2.1 w hw]
      congr 1
      have := shl_dig (x := c0.toNat) (k := p % 32) (by omega) (by omega)
      rw [show ((c0.toNat : Nat) : Int) = c0 by omega] at this
      exact this
    · rw [if_neg (fun u => e u.2), if_neg e]
      exact hC.2.2.2.1 w hw
  refine ⟨fun z => ?_, fun z => Or.inl ⟨rfl, fun u => z (by rw [hv]; exact s0.mpr u), rfl⟩⟩
  have h3 := s0.mp (by rw [← hv]; exact z)
  refine ⟨fun z1 => ⟨fun z2 => go 3 (by omega) ?_ h3, fun z2 => go 2 (by omega) ?_ h3⟩, fun z1 => go 1 (by omega) ?_ h3⟩
  · rw [if_neg z1, if_neg z2]; rfl
  · rw [if_neg z1, if_pos z2]; rfl
  · rw [if_pos z1]; rfl
end ZC
