/-! ===== the class's reader ===== -/
def TpC (σ : ZSto) (B : Nat → Int) (L : Nat) : Prop := gI σ 29 1 = (L : Int) ∧ L ≤ 1500 ∧ ∀ i, i < L → andI (gI σ 30 i) 255 = B i ∧ 0 ≤ B i ∧ B i ≤ 255
theorem TpC.kept {W : Nat → Nat → Prop} {σ σ' : ZSto} {B : Nat → Int} {L : Nat} (h : TpC σ B L) (hf : Fr W σ σ') (hw : ∀ i, ¬ W 30 i) (hw2 : ¬ W 29 1) : TpC σ' B L := by
  obtain ⟨h1, h2, h3⟩ := h
  exact ⟨by rw [hf.I hw2]; exact h1, h2, fun i hi => by rw [hf.I (hw i)]; exact h3 i hi⟩
theorem pk4_set {f : Nat → Nat} {i c : Nat} (h0 : f i = 0) : ∀ k, i < k → pk4 (fun j => if j = i then c else f j) k = pk4 f k + c * 4 ^ i := by
  have low : ∀ k, k ≤ i → pk4 (fun j => if j = i then c else f j) k = pk4 f k := fun k hk => pk4_congr (fun j hj => by show (if j = i then c else f j) = f j; rw [if_neg (by omega)])
  intro k
  induction k with
  | zero => intro h; omega
  | succ k ih =>
    intro hk
    show pk4 _ k + (if k = i then c else f k) * 4 ^ k = (pk4 f k + f k * 4 ^ k) + c * 4 ^ i
    by_cases e : k = i
    · subst e
      rw [if_pos rfl, low k (Nat.le_refl _), h0]
      omega
    · rw [if_neg e, ih (by omega)]
      omega
theorem or_dig {a i c : Nat} (ha : a < 2 ^ 64) (hi : i < 32) (hc : c < 4) (h0 : a / 4 ^ i % 4 = 0) : lN a ||| lN (c * 4 ^ i) = lN (a + c * 4 ^ i) := by
  have hp : 0 < 4 ^ i := Nat.pow_pos (by omega)
  have p1 : (4 : Nat) ^ i = 2 ^ (2 * i) := by rw [Nat.pow_mul]
  have p2 : (4 : Nat) ^ (i + 1) = 2 ^ (2 * (i + 1)) := by rw [Nat.pow_mul]
  have hlt : c * 4 ^ i + a % 4 ^ i < 4 ^ (i + 1) := by
    have h1 : c * 4 ^ i ≤ 3 * 4 ^ i := Nat.mul_le_mul_right _ (by omega)
    have h2 := Nat.mod_lt a hp
    rw [Nat.pow_succ]; omega
  have hd : a = a / 4 ^ (i + 1) * 4 ^ (i + 1) + a % 4 ^ i := by
    have e1 := Nat.div_add_mod a (4 ^ i)
    have e2 := Nat.div_add_mod (a / 4 ^ i) 4
    rw [h0, Nat.div_div_eq_div_mul, ← Nat.pow_succ] at e2
    rw [← e2] at e1
    rw [Nat.pow_succ] at *
    have : 4 ^ i * (4 * (a / (4 ^ i * 4)) + 0) = a / (4 ^ i * 4) * (4 ^ i * 4) := by
      rw [Nat.add_zero, ← Nat.mul_assoc, Nat.mul_comm]
    omega
  have hsum : a / 4 ^ (i + 1) * 4 ^ (i + 1) + (c * 4 ^ i + a % 4 ^ i) < 2 ^ 64 := by
    have hq : 2 ^ (2 * (i + 1)) ∣ 2 ^ 64 := Nat.pow_dvd_pow 2 (by omega)
    rw [← p2] at hq
    obtain ⟨z, hz⟩ := hq
    have h1 : a / 4 ^ (i + 1) < z := by
      rw [Nat.div_lt_iff_lt_mul (Nat.pow_pos (by omega)), Nat.mul_comm]
      rw [← hz]; exact ha
    have h2 : (a / 4 ^ (i + 1) + 1) * 4 ^ (i + 1) ≤ z * 4 ^ (i + 1) := Nat.mul_le_mul_right _ h1
    rw [Nat.add_mul] at h2
    rw [hz, Nat.mul_comm (4 ^ (i + 1)) z]
    omega
  have e1 : lN (a / 4 ^ (i + 1) * 4 ^ (i + 1)) ||| lN (a % 4 ^ i) = lN a := by
    have h2 := Nat.mod_lt a hp
    have := g_or (k := 2 * (i + 1)) (p := 4 ^ (i + 1)) (a := a % 4 ^ i) (b := a / 4 ^ (i + 1)) p2.symm (by rw [Nat.pow_succ]; omega) (by omega)
    rw [this, ← hd]
  have e2 : lN (c * 4 ^ i) ||| lN (a % 4 ^ i) = lN (c * 4 ^ i + a % 4 ^ i) := g_or (k := 2 * i) p1.symm (Nat.mod_lt a hp) (by omega)
  have e3 : lN (a / 4 ^ (i + 1) * 4 ^ (i + 1)) ||| lN (c * 4 ^ i + a % 4 ^ i) = lN (a / 4 ^ (i + 1) * 4 ^ (i + 1) + (c * 4 ^ i + a % 4 ^ i)) := g_or (k := 2 * (i + 1)) p2.symm hlt hsum
  rw [← e1, Int64.or_assoc, Int64.or_comm (lN (a % 4 ^ i)), e2, e3]
  congr 1
  omega
theorem pkW_set {f : Nat → Int} {N p : Nat} {c : Int} (hf : B4 N f) (hp : p < N) (hN : N ≤ 96) (h0 : f p = 0) (hc : 0 ≤ c ∧ c < 4) : ∀ w, w < 3 → lN (pkW (fun q => if q = p then c else f q) N w) = if w = p / 32 then lN (pkW f N w) ||| lN (c.toNat * 4 ^ (p % 32)) else lN (pkW f N w) := by
  intro w hw
  by_cases e : w = p / 32
  · rw [if_pos e]
    have hd := pkW_dig hf hp
    rw [← e, h0] at hd
    rw [or_dig (pkW_lt hf) (by omega) (by omega) hd]
    congr 1
    unfold pkW
    have := pk4_set (f := fun i => (f (32 * w + i)).toNat) (i := p % 32) (c := c.toNat) (by show (f (32 * w + p % 32)).toNat = 0; rw [show 32 * w + p % 32 = p by omega, h0]; rfl) (min 32 (N - 32 * w)) (by omega)
    rw [← this]
    refine pk4_congr (fun i hi => ?_)
    show (if 32 * w + i = p then c else f (32 * w + i)).toNat = if i = p % 32 then c.toNat else (f (32 * w + i)).toNat
    by_cases z : i = p % 32
    · rw [if_pos z, if_pos (by omega)]
    · rw [if_neg z, if_neg (by omega)]
  · rw [if_neg e]
    congr 1
    unfold pkW
    refine pk4_congr (fun i hi => ?_)
    show (if 32 * w + i = p then c else f (32 * w + i)).toNat = _
    rw [if_neg (by omega)]
section ZC
variable {X : ZX} {d n : Nat} {σ : ZSto} {B : Nat → Int} {L : Nat}
theorem sp_byte (hn : 73 ≤ n) (hT : TpC σ B L) (i : Nat) (hi : i ≤ 4000) : ZkI X M_X1_byteAt (d + 1) n [.ref (zB X + 29), iV (i : Int)] σ (fun v σ' => σ = σ' ∧ ((i < L ∧ v = B i) ∨ (L ≤ i ∧ v = -1))) := by
  obtain ⟨h1, h2, h3⟩ := hT
  have hz : zYn 29 = 1500 := rfl
  refine w_X1_byteAt hn (Or.inl rfl) ⟨by omega, by omega⟩ ?_
  rw [h1, hz, show ((i : Int)).toNat = i by omega]
  exact ⟨fun q => by omega, fun _ => ⟨fun q => ⟨rfl, Or.inr ⟨by omega, rfl⟩⟩, fun q => ⟨fun _ => ⟨by omega, rfl, Or.inl ⟨by omega, (h3 i (by omega)).1⟩⟩, fun q2 => by omega⟩⟩⟩
theorem sp_skip (hn : 73 ≤ n) : ∀ (w i : Nat) (σ : ZSto), TpC σ B L → L - i ≤ w → i ≤ 3000 → gI σ 49 6 = (i : Int) → ZkV X M_X5_skipBlanks (d + 2) n [.ref (zB X + 49)] σ (fun σ' => Fr (fun a j => a = 49 ∧ j = 6) σ σ' ∧ gI σ' 49 6 = (skF B L w i : Nat)) := by
  intro w i σ hT hw hi h6
  refine w_X5_skipBlanks hn ?_
  have key : ∀ (w i : Nat) (τ : ZSto), L - i ≤ w → i ≤ 3000 → Fr (fun a j => a = 49 ∧ j = 6) σ τ → gI τ 49 6 = (i : Int) → ∀ v : Nat, v = skF B L w i → L_X5_skipBlanks_0 X (d + 1) n (zpV (fun σ' => Fr (fun a j => a = 49 ∧ j = 6) σ σ' ∧ gI σ' 49 6 = (v : Int))) τ := by
    intro w
    induction w with
    | zero =>
      intro i τ hw hi hf h6 v hv
      have hT' := hT.kept hf (fun i => by omega) (by omega)
      refine b_X5_skipBlanks_0 hn ?_
      rw [h6, hT'.1]
      exact ⟨fun _ => ⟨hf, by rw [hv]; rfl⟩, fun q => by omega⟩
    | succ w ih =>
      intro i τ hw hi hf h6 v hv
      have hT' := hT.kept hf (fun i => by omega) (by omega)
      have hL := hT'.2.1
      refine b_X5_skipBlanks_0 hn ?_
      rw [h6, hT'.1]
      unfold skF at hv
      refine ⟨fun q => ⟨hf, ?_⟩, fun q => (sp_byte hn hT' i (by omega)).mono ?_⟩
      · rw [if_neg (by omega)] at hv
        rw [hv]
      · rintro b _ - ⟨rfl, hb⟩
        have hb' : b = B i := by omega
        subst hb'
        have hr := (hT'.2.2 i (by omega)).2
        have yes : (B i = 32 ∨ B i = 10 ∨ B i = 13) → R32 (gI τ 49 6 + 1) ∧ L_X5_skipBlanks_0 X (d + 1) n (zpV (fun σ' => Fr (fun a j => a = 49 ∧ j = 6) σ σ' ∧ gI σ' 49 6 = (v : Int))) (sI τ 49 6 (gI τ 49 6 + 1)) := by
          intro hy
          rw [if_pos ⟨by omega, hy⟩] at hv
          rw [h6]
          exact ⟨⟨by omega, by omega⟩, ih (i + 1) _ (by omega) (by omega) (hf.sI ⟨rfl, rfl⟩) (by rw [gI_same]; omega) v hv⟩
        have no : ¬ (B i = 32 ∨ B i = 10 ∨ B i = 13) → Fr (fun a j => a = 49 ∧ j = 6) σ τ ∧ gI τ 49 6 = (v : Int) := by
          intro hno
          rw [if_neg (fun z => hno z.2)] at hv
          exact ⟨hf, by rw [h6, hv]⟩
        refine w_X5_isBlank hn ⟨by omega, by omega⟩ ⟨fun z => ⟨fun u => by omega, fun _ => yes (Or.inl z)⟩, fun z => ⟨fun z2 => ⟨fun u => by omega, fun _ => yes (Or.inr (Or.inl z2))⟩, fun z2 => ⟨fun z3 => ⟨fun _ => no (by omega), fun u => absurd rfl u⟩, fun z3 => ⟨fun u => by omega, fun _ => yes (Or.inr (Or.inr z3))⟩⟩⟩⟩
  exact key w i σ hw hi Fr.rf h6 _ rfl
theorem sp_isGreat (hn : 73 ≤ n) {x : Int} (hx : R32 x) : ZkZ X M_X5_isGreat (d + 1) n [iV x] σ (fun v σ' => σ = σ' ∧ ((v = 1 ∧ 65 ≤ x ∧ x ≤ 90) ∨ (v = 0 ∧ ¬ (65 ≤ x ∧ x ≤ 90)))) :=
  w_X5_isGreat hn hx ⟨fun z => ⟨rfl, Or.inr ⟨rfl, by omega⟩⟩, fun z => ⟨fun z2 => ⟨rfl, Or.inr ⟨rfl, by omega⟩⟩, fun z2 => ⟨rfl, Or.inl ⟨rfl, by omega, by omega⟩⟩⟩⟩
theorem rp_5 (hn : 73 ≤ n) {P : ZSto → Prop} {x1 : Int} {σ0 : ZSto} (hT0 : TpC σ0 B L) {v : Nat} (hP : ∀ τ, Fr (fun a j => a = 49 ∧ j = 6) σ0 τ → gI τ 49 6 = (v : Int) → L_X5_readProperty_49 X (d + 1) n (zpV P) x1 τ) : ∀ (w i : Nat) (τ : ZSto), L - i ≤ w → i ≤ 3000 → Fr (fun a j => a = 49 ∧ j = 6) σ0 τ → gI τ 49 6 = (i : Int) → v = grF B L w i → L_X5_readProperty_5 X (d + 1) n (zpV P) x1 τ := by
  intro w
  induction w with
  | zero =>
    intro i τ hw hi hf h6 hv
    have hT' := hT0.kept hf (fun i => by omega) (by omega)
    refine b_X5_readProperty_5 hn ?_
    rw [h6, hT'.1]
    exact ⟨fun _ => hP τ hf (by rw [h6, hv]; rfl), fun q => by omega⟩
  | succ w ih =>
    intro i τ hw hi hf h6 hv
    have hT' := hT0.kept hf (fun i => by omega) (by omega)
    have hL := hT'.2.1
    refine b_X5_readProperty_5 hn ?_
    rw [h6, hT'.1]
    unfold grF at hv
    refine ⟨fun q => hP τ hf ?_, fun q => (sp_byte hn hT' i (by omega)).mono ?_⟩
    · rw [if_neg (by omega)] at hv
      rw [h6, hv]
    · rintro b _ - ⟨rfl, hb⟩
      have hb' : b = B i := by omega
      subst hb'
      have hr := (hT'.2.2 i (by omega)).2
      refine (sp_isGreat hn ⟨by omega, by omega⟩).mono ?_
      rintro g _ - ⟨rfl, hg⟩
      refine ⟨fun z => hP τ hf ?_, fun z => ?_⟩
      · rw [if_neg (by omega)] at hv
        rw [h6, hv]
      · rw [if_pos ⟨by omega, by omega, by omega⟩] at hv
        rw [h6]
        exact ⟨⟨by omega, by omega⟩, ih (i + 1) _ (by omega) (by omega) (hf.sI ⟨rfl, rfl⟩) (by rw [gI_same]; omega) hv⟩
theorem sp_nameOf (hn : 73 ≤ n) (hT : TpC σ B L) {i j : Nat} (hi : i < L) (hij : i ≤ j) (hj : j ≤ L) : ZkI X M_X5_nameOf (d + 2) n [.ref (zB X + 49), iV (i : Int), iV ((j : Int) - (i : Int))] σ (fun v σ' => σ = σ' ∧ v = nmF B i j) := by
  have hL := hT.2.1
  refine w_X5_nameOf hn ⟨by omega, by omega⟩ ⟨by omega, by omega⟩ ((sp_byte hn hT i (by omega)).mono ?_)
  rintro b _ - ⟨rfl, hb⟩
  have hb' : b = B i := by omega
  subst hb'
  refine ⟨fun z => ⟨fun z2 => ?_, fun z2 => ⟨rfl, ?_⟩⟩, fun z => ?_⟩
  · rw [show (i : Int) + 1 = ((i + 1 : Nat) : Int) by omega]
    refine (sp_byte hn hT (i + 1) (by omega)).mono ?_
    rintro b2 _ - ⟨rfl, hb2⟩
    have hb2' : b2 = B (i + 1) := by omega
    subst hb2'
    have e : nmF B i j = (if B i = 65 then (if B (i + 1) = 66 then 16 else if B (i + 1) = 87 then 32 else if B (i + 1) = 69 then 64 else 0) else if B i = 83 ∧ B (i + 1) = 90 then 1 else if B i = 75 ∧ B (i + 1) = 77 then 2 else 0) := by
      unfold nmF; rw [if_neg (by omega), if_pos (by omega)]
    rw [e]
    refine ⟨fun y => ⟨fun y2 => ⟨fun y3 => ⟨rfl, ?_⟩, fun y3 => ⟨fun y4 => ⟨rfl, ?_⟩, fun y4 => ⟨rfl, ?_⟩⟩⟩, fun y2 => ⟨fun y5 => ⟨fun y3 => ⟨rfl, ?_⟩, fun y3 => ⟨fun y4 => ⟨rfl, ?_⟩, fun y4 => ⟨rfl, ?_⟩⟩⟩, fun y5 => ⟨rfl, ?_⟩⟩⟩, fun y => ⟨fun y2 => ⟨fun y3 => ⟨fun y4 => ⟨rfl, ?_⟩, fun y4 => ⟨rfl, ?_⟩⟩, fun y3 => ⟨rfl, ?_⟩⟩, fun y2 => ⟨rfl, ?_⟩⟩⟩
    · rw [if_neg y, if_neg (fun u => y2 u.1), if_neg (fun u => y3 u.1)]
    · rw [if_neg y, if_neg (fun u => y2 u.1), if_neg (fun u => y4 u.2)]
    · rw [if_neg y, if_neg (fun u => y2 u.1), if_pos ⟨y3, y4⟩]
    · rw [if_neg y, if_neg (fun u => y5 u.2), if_neg (fun u => y3 u.1)]
    · rw [if_neg y, if_neg (fun u => y5 u.2), if_neg (fun u => y4 u.2)]
    · rw [if_neg y, if_neg (fun u => y5 u.2), if_pos ⟨y3, y4⟩]
    · rw [if_neg y, if_pos ⟨y2, y5⟩]
    · rw [if_pos y, if_neg y2, if_neg y3, if_neg y4]
    · rw [if_pos y, if_neg y2, if_neg y3, if_pos y4]
    · rw [if_pos y, if_neg y2, if_pos y3]
    · rw [if_pos y, if_pos y2]
  · unfold nmF; rw [if_neg (by omega), if_neg (by omega)]
  · have e : nmF B i j = (if B i = 66 then 4 else if B i = 87 then 8 else 0) := by
      unfold nmF; rw [if_pos (by omega)]
    rw [e]
    refine ⟨fun y => ⟨fun y2 => ⟨rfl, ?_⟩, fun y2 => ⟨rfl, ?_⟩⟩, fun y => ⟨rfl, ?_⟩⟩
    · rw [if_neg y, if_neg y2]
    · rw [if_neg y, if_pos y2]
    · rw [if_pos y]
theorem sp_misplaced (hn : 73 ≤ n) {t k : Nat} {nm told : Int} (hn1 : isNm nm) (ht : zIsT t) (hp : gP σ 49 4 = some t) (h13 : gI σ 49 13 = told) (h15 : gI σ t 15 = (k : Int)) : ZkZ X M_X5_isMisplaced (d + 1) n [.ref (zB X + 49), iV nm] σ (fun v σ' => σ = σ' ∧ ((v = 1 ∧ msF nm told (decide (k = 0)) = true) ∨ (v = 0 ∧ ¬ msF nm told (decide (k = 0)) = true))) := by
  have r : R32 nm := by unfold isNm at hn1; exact ⟨by omega, by omega⟩
  refine w_X5_isMisplaced hn r ?_
  rw [h13]
  have t0 : andI told 0 = 0 := by
    unfold andI
    rw [i32_z, i32_b]
    intro i
    rw [Int32.toBitVec_and, BitVec.getLsbD_and, show (Int32.ofInt 0).toBitVec = 0#32 from rfl]
    simp
  have rest : nm = 0 ∨ andI told nm = 0 → ¬ ((nm = 1 ∨ nm = 2) ∧ decide (k = 0) = false) → L_X5_isMisplaced_29 X d n (zpZ (fun v σ' => σ = σ' ∧ ((v = 1 ∧ msF nm told (decide (k = 0)) = true) ∨ (v = 0 ∧ ¬ msF nm told (decide (k = 0)) = true)))) nm σ := by
    intro h1 h2
    refine b_X5_isMisplaced_29 hn ?_
    rw [h13]
    rcases hn1 with rfl | rfl | rfl | rfl | rfl | rfl | rfl | rfl
    · refine ⟨fun q => by omega, fun _ => ⟨fun _ => ⟨fun _ => ⟨rfl, Or.inr ⟨rfl, by unfold msF; simp⟩⟩, fun q => absurd (by decide) q⟩, fun q => absurd (by decide) q⟩⟩
    · have h1' : andI told 1 = 0 := h1.resolve_left (by omega)
      have e : msF 1 told (decide (k = 0)) = decide (¬ andI told 124 = 0) := by
        unfold msF; rw [if_neg (by omega), if_neg (fun z => z h1'), if_neg h2, if_pos (by omega)]
      rw [e]
      exact ⟨fun _ => ⟨fun q => ⟨rfl, Or.inr ⟨rfl, by simp [q]⟩⟩, fun q => ⟨rfl, Or.inl ⟨rfl, by simp [q]⟩⟩⟩, fun q => absurd rfl q⟩
    · have h1' : andI told 2 = 0 := h1.resolve_left (by omega)
      have e : msF 2 told (decide (k = 0)) = false := by
        unfold msF; rw [if_neg (by omega), if_neg (fun z => z h1'), if_neg h2, if_neg (by omega), if_neg (by omega)]
      rw [e]
      exact ⟨fun q => by omega, fun _ => ⟨fun _ => ⟨fun _ => ⟨rfl, Or.inr ⟨rfl, by simp⟩⟩, fun q => absurd (by decide) q⟩, fun q => absurd (by decide) q⟩⟩
    · have h1' : andI told 4 = 0 := h1.resolve_left (by omega)
      have e : msF 4 told (decide (k = 0)) = decide (¬ andI told 124 = 0) := by
        unfold msF; rw [if_neg (by omega), if_neg (fun z => z h1'), if_neg h2, if_pos (by omega)]
      rw [e]
      exact ⟨fun q => by omega, fun _ => ⟨fun q => absurd q (by decide), fun _ => ⟨fun q => ⟨rfl, Or.inr ⟨rfl, by simp [q]⟩⟩, fun q => ⟨rfl, Or.inl ⟨rfl, by simp [q]⟩⟩⟩⟩⟩
    · have h1' : andI told 8 = 0 := h1.resolve_left (by omega)
      have e : msF 8 told (decide (k = 0)) = decide (¬ andI told 124 = 0) := by
        unfold msF; rw [if_neg (by omega), if_neg (fun z => z h1'), if_neg h2, if_pos (by omega)]
      rw [e]
      exact ⟨fun q => by omega, fun _ => ⟨fun q => absurd q (by decide), fun _ => ⟨fun q => ⟨rfl, Or.inr ⟨rfl, by simp [q]⟩⟩, fun q => ⟨rfl, Or.inl ⟨rfl, by simp [q]⟩⟩⟩⟩⟩
    · have h1' : andI told 16 = 0 := h1.resolve_left (by omega)
      have e : msF 16 told (decide (k = 0)) = decide (¬ andI told 12 = 0) := by
        unfold msF; rw [if_neg (by omega), if_neg (fun z => z h1'), if_neg h2, if_neg (by omega), if_pos (by omega)]
      rw [e]
      exact ⟨fun q => by omega, fun _ => ⟨fun _ => ⟨fun q => absurd q (by decide), fun _ => ⟨fun q => ⟨rfl, Or.inr ⟨rfl, by simp [q]⟩⟩, fun q => ⟨rfl, Or.inl ⟨rfl, by simp [q]⟩⟩⟩⟩, fun q => absurd (by decide) q⟩⟩
    · have h1' : andI told 32 = 0 := h1.resolve_left (by omega)
      have e : msF 32 told (decide (k = 0)) = decide (¬ andI told 12 = 0) := by
        unfold msF; rw [if_neg (by omega), if_neg (fun z => z h1'), if_neg h2, if_neg (by omega), if_pos (by omega)]
      rw [e]
      exact ⟨fun q => by omega, fun _ => ⟨fun _ => ⟨fun q => absurd q (by decide), fun _ => ⟨fun q => ⟨rfl, Or.inr ⟨rfl, by simp [q]⟩⟩, fun q => ⟨rfl, Or.inl ⟨rfl, by simp [q]⟩⟩⟩⟩, fun q => absurd (by decide) q⟩⟩
    · have h1' : andI told 64 = 0 := h1.resolve_left (by omega)
      have e : msF 64 told (decide (k = 0)) = decide (¬ andI told 12 = 0) := by
        unfold msF; rw [if_neg (by omega), if_neg (fun z => z h1'), if_neg h2, if_neg (by omega), if_pos (by omega)]
      rw [e]
      exact ⟨fun q => by omega, fun _ => ⟨fun _ => ⟨fun q => absurd q (by decide), fun _ => ⟨fun q => ⟨rfl, Or.inr ⟨rfl, by simp [q]⟩⟩, fun q => ⟨rfl, Or.inl ⟨rfl, by simp [q]⟩⟩⟩⟩, fun q => absurd (by decide) q⟩⟩
  have a3 : andI nm 3 = 0 ↔ ¬ (nm = 1 ∨ nm = 2) := by
    rcases hn1 with rfl | rfl | rfl | rfl | rfl | rfl | rfl | rfl <;> decide
  refine ⟨fun z => ⟨fun z2 => rest (Or.inr z) (fun u => (a3.mp z2) u.1), fun z2 => ⟨t, hp, ht, fun z3 => rest (Or.inr z) (fun u => ?_), fun z3 => ⟨rfl, Or.inl ⟨rfl, ?_⟩⟩⟩⟩, fun z => ⟨rfl, Or.inl ⟨rfl, ?_⟩⟩⟩
  · rw [h15] at z3
    have : k = 0 := by omega
    simp [this] at u
  · rw [h15] at z3
    have h12 : nm = 1 ∨ nm = 2 := Classical.byContradiction (fun u => z2 (a3.mpr u))
    unfold msF
    rw [if_neg (by omega), if_neg (fun u => u z), if_pos ⟨h12, by simp; omega⟩]
  · have : ¬ nm = 0 := fun u => by rw [u] at z; exact z t0
    unfold msF
    rw [if_neg this, if_pos z]
end ZC
