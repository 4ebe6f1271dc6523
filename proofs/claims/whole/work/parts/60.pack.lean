theorem wb_tb (n : Nat) : (lN n).toBitVec = BitVec.ofNat 64 n := rfl
theorem wb_inj {a b : Int64} (h : a.toBitVec = b.toBitVec) : a = b := Int64.toBitVec_inj.mp h
theorem wb_tn {n : Nat} (h : n < 2 ^ 64) : (lN n).toBitVec.toNat = n := by rw [wb_tb, BitVec.toNat_ofNat, Nat.mod_eq_of_lt h]
theorem wb_of (x : Int64) : ∃ n, n < 2 ^ 64 ∧ x = lN n := ⟨x.toBitVec.toNat, x.toBitVec.isLt, wb_inj (by rw [wb_tb]; simp)⟩
theorem wb_of32 (x : Int32) : ∃ n, n < 2 ^ 32 ∧ x = nI n := ⟨x.toBitVec.toNat, x.toBitVec.isLt, Int32.toBitVec_inj.mp (by show _ = BitVec.ofNat 32 _; simp)⟩
theorem wb_c : ∀ k, k < 64 → ((nI k).toInt64 &&& 63) = lN k := by decide +kernel
theorem wb_cu : ∀ k, k < 64 → ((nI k).toInt64.toUInt64 &&& Int64.toUInt64 63) = UInt64.ofNat k := by decide +kernel
theorem wb_sm : ∀ k, k < 64 → (BitVec.ofNat 64 k).smod 64 = BitVec.ofNat 64 k := by decide +kernel
theorem wb_pw {a b : Nat} (h : a ≤ b) : 2 ^ b = 2 ^ a * 2 ^ (b - a) := by rw [← Nat.pow_add]; congr 1; omega
theorem wb_lt2 {a b : Nat} (h : a < b) : 2 ^ a < 2 ^ b := Nat.pow_lt_pow_right (by decide) h
theorem wb_mod (n : Nat) : lN n = lN (n % 2 ^ 64) := wb_inj (by rw [wb_tb, wb_tb]; apply BitVec.eq_of_toNat_eq; rw [BitVec.toNat_ofNat, BitVec.toNat_ofNat, Nat.mod_mod])
theorem wb_shr {n k : Nat} (hn : n < 2 ^ 64) (hk : k < 64) : ((lN n).toUInt64 >>> ((nI k).toInt64.toUInt64 &&& Int64.toUInt64 63)).toInt64 = lN (n / 2 ^ k) := by
  rw [wb_cu k hk]
  apply wb_inj
  apply BitVec.eq_of_toNat_eq
  show ((lN n).toUInt64 >>> UInt64.ofNat k).toNat = (BitVec.ofNat 64 _).toNat
  have h1 : (UInt64.ofNat k).toNat = k := by
    show (BitVec.ofNat 64 k).toNat = k
    rw [BitVec.toNat_ofNat, Nat.mod_eq_of_lt (by omega)]
  have h2 : (lN n).toUInt64.toNat = n := wb_tn hn
  rw [UInt64.toNat_shiftRight, h1, h2, Nat.mod_eq_of_lt hk, Nat.shiftRight_eq_div_pow, BitVec.toNat_ofNat, Nat.mod_eq_of_lt (Nat.lt_of_le_of_lt (Nat.div_le_self _ _) hn)]
theorem wb_shl (n : Nat) {k : Nat} (hk : k < 64) : lN n <<< ((nI k).toInt64 &&& 63) = lN (n * 2 ^ k) := by
  rw [wb_c k hk]
  apply wb_inj
  rw [Int64.toBitVec_shiftLeft, wb_tb, wb_tb, wb_tb, wb_sm k hk]
  apply BitVec.eq_of_toNat_eq
  rw [BitVec.shiftLeft_eq', BitVec.toNat_shiftLeft, BitVec.toNat_ofNat, BitVec.toNat_ofNat, BitVec.toNat_ofNat, Nat.mod_eq_of_lt (show k < 2 ^ 64 by omega), Nat.shiftLeft_eq, Nat.mul_mod, Nat.mod_mod, ← Nat.mul_mod]
theorem wb_and {a b : Nat} (ha : a < 2 ^ 64) (hb : b < 2 ^ 64) : lN a &&& lN b = lN (a &&& b) := by
  apply wb_inj
  rw [Int64.toBitVec_and, wb_tb, wb_tb, wb_tb]
  apply BitVec.eq_of_toNat_eq
  rw [BitVec.toNat_and, BitVec.toNat_ofNat, BitVec.toNat_ofNat, BitVec.toNat_ofNat, Nat.mod_eq_of_lt ha, Nat.mod_eq_of_lt hb, Nat.mod_eq_of_lt (Nat.and_lt_two_pow _ hb)]
theorem wb_or {a b : Nat} (ha : a < 2 ^ 64) (hb : b < 2 ^ 64) : lN a ||| lN b = lN (a ||| b) := by
  apply wb_inj
  rw [Int64.toBitVec_or, wb_tb, wb_tb, wb_tb]
  apply BitVec.eq_of_toNat_eq
  rw [BitVec.toNat_or, BitVec.toNat_ofNat, BitVec.toNat_ofNat, BitVec.toNat_ofNat, Nat.mod_eq_of_lt ha, Nat.mod_eq_of_lt hb, Nat.mod_eq_of_lt (Nat.or_lt_two_pow ha hb)]
theorem wb_mask {n k : Nat} (hn : n < 2 ^ 64) (hk : k < 64) : lN n &&& lN (2 ^ k - 1) = lN (n % 2 ^ k) := by
  rw [wb_and hn (by have := wb_lt2 hk; omega), Nat.and_two_pow_sub_one_eq_mod]
theorem wb_a1 {n : Nat} (hn : n < 2 ^ 64) : lN n &&& 1 = lN (n % 2) := wb_mask (k := 1) hn (by decide)
theorem wb_bit {n k : Nat} (hn : n < 2 ^ 64) (hk : k < 64) : ((lN n).toUInt64 >>> ((nI k).toInt64.toUInt64 &&& Int64.toUInt64 63)).toInt64 &&& 1 = lN (n / 2 ^ k % 2) := by
  rw [wb_shr hn hk, wb_a1 (Nat.lt_of_le_of_lt (Nat.div_le_self _ _) hn)]
theorem u_tn {n : Nat} (h : n < 2 ^ 64) : (UInt64.ofNat n).toNat = n := Nat.mod_eq_of_lt h
theorem g_or {k p a b : Nat} (hp : 2 ^ k = p) (ha : a < p) (h : b * p + a < 2 ^ 64) : lN (b * p) ||| lN a = lN (b * p + a) := by
  subst hp
  have h1 : b * 2 ^ k ||| a = b * 2 ^ k + a := by rw [← Nat.shiftLeft_eq, Nat.shiftLeft_add_eq_or_of_lt ha]
  have h3 : UInt64.ofNat (b * 2 ^ k) ||| UInt64.ofNat a = UInt64.ofNat (b * 2 ^ k + a) := UInt64.toNat_inj.mp (by rw [UInt64.toNat_or, u_tn (by omega), u_tn (by omega), u_tn h, h1])
  have h2 := congrArg UInt64.toInt64 h3
  exact h2
theorem g_or' {k p a b : Nat} (hp : 2 ^ k = p) (ha : a < p) (h : a + b * p < 2 ^ 64) : lN a ||| lN (b * p) = lN (a + b * p) := by
  rw [Int64.or_comm, g_or hp ha (by omega), Nat.add_comm]
/-! ===== boards as base-four numbers in longs ===== -/
def pk4 (f : Nat → Nat) : Nat → Nat
  | 0 => 0
  | k + 1 => pk4 f k + f k * 4 ^ k
theorem pk4_lt {f : Nat → Nat} {k : Nat} (h : ∀ i, i < k → f i < 4) : pk4 f k < 4 ^ k := by
  induction k with
  | zero => simp [pk4]
  | succ k ih =>
    have h1 := ih (fun i hi => h i (by omega))
    have h2 := h k (by omega)
    have h3 : f k * 4 ^ k ≤ 3 * 4 ^ k := Nat.mul_le_mul_right _ (by omega)
    show pk4 f k + f k * 4 ^ k < 4 ^ (k + 1)
    rw [Nat.pow_succ]
    omega
theorem pk4_dig {f : Nat → Nat} {k : Nat} (h : ∀ i, i < k → f i < 4) {i : Nat} (hi : i < k) : pk4 f k / 4 ^ i % 4 = f i := by
  induction k with
  | zero => omega
  | succ k ih =>
    have hk := fun i (hi : i < k) => h i (by omega : i < k + 1)
    show (pk4 f k + f k * 4 ^ k) / 4 ^ i % 4 = f i
    by_cases e : i = k
    · subst e
      have h1 := pk4_lt hk
      have h2 := h i (by omega)
      have hp : 0 < 4 ^ i := Nat.pow_pos (by decide)
      rw [Nat.add_mul_div_right _ _ hp, Nat.div_eq_of_lt h1, Nat.zero_add, Nat.mod_eq_of_lt h2]
    · have hik : i < k := by omega
      have hp : 0 < 4 ^ i := Nat.pow_pos (by decide)
      have e1 : f k * 4 ^ k = (f k * 4 ^ (k - i)) * 4 ^ i := by rw [Nat.mul_assoc, ← Nat.pow_add]; congr 2; omega
      have e2 : f k * 4 ^ (k - i) = (f k * 4 ^ (k - i - 1)) * 4 := by rw [Nat.mul_assoc, ← Nat.pow_succ]; congr 2; omega
      rw [e1, Nat.add_mul_div_right _ _ hp, e2, Nat.add_mul_mod_self_right]
      exact ih hk hik
theorem pk4_congr {f g : Nat → Nat} {k : Nat} (h : ∀ i, i < k → f i = g i) : pk4 f k = pk4 g k := by
  induction k with
  | zero => rfl
  | succ k ih =>
    show pk4 f k + f k * 4 ^ k = pk4 g k + g k * 4 ^ k
    rw [ih (fun i hi => h i (by omega)), h k (by omega)]
/-- word w of a board of N points -/
def pkW (bd : Nat → Int) (N w : Nat) : Nat := pk4 (fun i => (bd (32 * w + i)).toNat) (min 32 (N - 32 * w))
/-- contents that fit two bits -/
def B4 (N : Nat) (bd : Nat → Int) : Prop := ∀ p, p < N → 0 ≤ bd p ∧ bd p < 4
theorem BCon.b4 {m : Nat} {bd : Nat → Int} (h : BCon m bd) : B4 (m * m) bd := fun p hp => by have := h p hp; omega
theorem pkW_lt {bd : Nat → Int} {N w : Nat} (h : B4 N bd) : pkW bd N w < 2 ^ 64 := by
  have h1 : pkW bd N w < 4 ^ (min 32 (N - 32 * w)) := pk4_lt (fun i hi => by have := h (32 * w + i) (by omega); omega)
  have h2 : 4 ^ (min 32 (N - 32 * w)) ≤ 4 ^ 32 := Nat.pow_le_pow_right (by decide) (by omega)
  have h3 : (4 : Nat) ^ 32 = 2 ^ 64 := by decide
  omega
theorem pkW_dig {bd : Nat → Int} {N p : Nat} (h : B4 N bd) (hp : p < N) : pkW bd N (p / 32) / 4 ^ (p % 32) % 4 = (bd p).toNat := by
  have := pk4_dig (f := fun i => (bd (32 * (p / 32) + i)).toNat) (k := min 32 (N - 32 * (p / 32))) (fun i hi => by have := h (32 * (p / 32) + i) (by omega); omega) (i := p % 32) (by omega)
  rw [show 32 * (p / 32) + p % 32 = p by omega] at this
  exact this
theorem lN_inj {a b : Nat} (ha : a < 2 ^ 64) (hb : b < 2 ^ 64) (h : lN a = lN b) : a = b := by
  have := congrArg (fun x => x.toBitVec.toNat) h
  simp only [wb_tn ha, wb_tn hb] at this
  exact this
theorem pkW_inj {bd bd' : Nat → Int} {N : Nat} (h : B4 N bd) (h' : B4 N bd') (hN : N ≤ 96) : (∀ w, w < 3 → lN (pkW bd N w) = lN (pkW bd' N w)) ↔ ∀ p, p < N → bd p = bd' p := by
  constructor
  · intro hw p hp
    have e := lN_inj (pkW_lt h) (pkW_lt h') (hw (p / 32) (by omega))
    have h1 := pkW_dig h hp
    have h2 := pkW_dig h' hp
    rw [e, h2] at h1
    have := h p hp
    have := h' p hp
    omega
  · intro he w hw
    congr 1
    exact pk4_congr (fun i hi => by rw [he (32 * w + i) (by omega)])
theorem and31 {p : Nat} (hp : p < 2 ^ 31) : andI (p : Int) 31 = ((p % 32 : Nat) : Int) := by
  unfold andI
  rw [show Int32.ofInt (p : Int) = nI p from Int32.ofInt_eq_ofNat, pk_andN (by omega) 5 (by decide), nI_toInt (by omega)]
theorem shr5 {p : Nat} (hp : p < 2 ^ 31) : shrI (p : Int) 5 = ((p / 32 : Nat) : Int) := by
  unfold shrI
  rw [show Int32.ofInt (p : Int) = nI p from Int32.ofInt_eq_ofNat, pk_shrN hp _ 5 (by decide), nI_toInt (by omega)]
theorem shl_dig {x k : Nat} (hx : x < 4) (hk : k < 32) : lshlF (i2lF (x : Int)) (2 * (k : Int)) = lN (x * 4 ^ k) := by
  unfold lshlF i2lF
  rw [show Int32.ofInt (x : Int) = nI x from Int32.ofInt_eq_ofNat, show (2 * (k : Int)) = ((2 * k : Nat) : Int) by omega, show Int32.ofInt ((2 * k : Nat) : Int) = nI (2 * k) from Int32.ofInt_eq_ofNat, nI_l (by omega), wb_shl x (by omega)]
  congr 2
  rw [Nat.pow_mul]
theorem ushr_dig {q k : Nat} (hq : q < 2 ^ 64) (hk : k < 32) : andI (l2iF (lushrF (lN q) (2 * (k : Int)))) 3 = ((q / 4 ^ k % 4 : Nat) : Int) := by
  unfold lushrF l2iF andI
  rw [show (2 * (k : Int)) = ((2 * k : Nat) : Int) by omega, show Int32.ofInt ((2 * k : Nat) : Int) = nI (2 * k) from Int32.ofInt_eq_ofNat, wb_shr hq (by omega), lN_i]
  rw [show ∀ v : Int32, Int32.ofInt v.toInt = v from fun v => by simp]
  rw [pk_and (nI (q / 2 ^ (2 * k))) 2 (m := Int32.ofInt 3) (by decide), nI_toInt (by omega)]
  have e1 : (nI (q / 2 ^ (2 * k))).toBitVec.toNat = q / 2 ^ (2 * k) % 2 ^ 32 := by
    show (BitVec.ofNat 32 _).toNat = _
    exact BitVec.toNat_ofNat _ _
  rw [e1, show (4 : Nat) ^ k = 2 ^ (2 * k) by rw [Nat.pow_mul]]
  congr 1
  generalize q / 2 ^ (2 * k) = r
  omega
theorem lcmp0 {x y : Int64} : lcmpF x y = 0 ↔ x = y := by
  unfold lcmpF lg_cmp
  constructor
  · intro h
    split at h
    · exact absurd h (by decide)
    · split at h
      next e => exact e
      next => exact absurd h (by decide)
  · rintro rfl
    simp
