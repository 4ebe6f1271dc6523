/-! ===== bits of longs ===== -/
def lB (x : Int64) (i : Nat) : Bool := x.toBitVec.getLsbD i
theorem lB_or (a b : Int64) (i : Nat) : lB (a ||| b) i = (lB a i || lB b i) := by simp [lB]
theorem lB_and (a b : Int64) (i : Nat) : lB (a &&& b) i = (lB a i && lB b i) := by simp [lB]
theorem lB_N {n i : Nat} (hi : i < 64) : lB (lN n) i = n.testBit i := by
  unfold lB
  rw [wb_tb, BitVec.getLsbD_ofNat]
  simp [hi]
theorem lB_0 (i : Nat) : lB (0 : Int64) i = false := by simp [lB]
theorem lB_m1 {i : Nat} (hi : i < 64) : lB (-1 : Int64) i = true := by
  have e : (-1 : Int64).toBitVec = BitVec.allOnes 64 := by decide
  unfold lB
  rw [e, BitVec.getLsbD_allOnes]
  simp [hi]
theorem lB_not {a : Int64} {i : Nat} (hi : i < 64) : lB (a ^^^ (-1 : Int64)) i = !(lB a i) := by
  have e : (-1 : Int64).toBitVec = BitVec.allOnes 64 := by decide
  unfold lB
  rw [Int64.toBitVec_xor, e, BitVec.getLsbD_xor, BitVec.getLsbD_allOnes]
  simp [hi]
theorem lB_ext {a b : Int64} (h : ∀ i, i < 64 → lB a i = lB b i) : a = b := wb_inj (BitVec.eq_of_getLsbD_eq (fun i hi => h i hi))
theorem lshl1 {k : Nat} (hk : k < 64) : lshlF (1 : Int64) (k : Int) = lN (2 ^ k) := by
  unfold lshlF
  rw [show Int32.ofInt (k : Int) = nI k from Int32.ofInt_eq_ofNat]
  have := wb_shl 1 hk
  rw [Nat.one_mul] at this
  exact this
theorem lB_one {k i : Nat} (hk : k < 64) (hi : i < 64) : lB (lshlF (1 : Int64) (k : Int)) i = decide (k = i) := by
  rw [lshl1 hk, lB_N hi, Nat.testBit_two_pow]
theorem lB_low {k i : Nat} (hk : k < 64) (hi : i < 64) : lB (lshlF (1 : Int64) (k : Int) - (1 : Int64)) i = decide (i < k) := by
  have h1 : 2 ^ k < 2 ^ 64 := wb_lt2 hk
  have h2 : 1 ≤ 2 ^ k := Nat.one_le_two_pow
  have e : lshlF (1 : Int64) (k : Int) - (1 : Int64) = lN (2 ^ k - 1) := by
    rw [lshl1 hk]
    exact lN_sub h2
  rw [e, lB_N hi, Nat.testBit_two_pow_sub_one]
theorem lushr_N {n k : Nat} (hn : n < 2 ^ 64) (hk : k < 64) : lushrF (lN n) (k : Int) = lN (n / 2 ^ k) := by
  unfold lushrF
  rw [show Int32.ofInt (k : Int) = nI k from Int32.ofInt_eq_ofNat]
  exact wb_shr hn hk
theorem lB_sh {v : Int64} {k : Nat} (hk : k < 64) : lcmpF ((lushrF v (k : Int)) &&& (1 : Int64)) (0 : Int64) = 0 ↔ lB v k = false := by
  obtain ⟨n, hn, rfl⟩ := wb_of v
  rw [lcmp0, lushr_N hn hk, wb_a1 (Nat.lt_of_le_of_lt (Nat.div_le_self _ _) hn), lB_N hk, Nat.testBit_eq_decide_div_mod_eq]
  constructor
  · intro h
    have := lN_inj (b := 0) (by omega) (by omega) h
    simp; omega
  · intro h
    simp at h
    rw [h]; rfl
/-! ===== bitCount ===== -/
theorem and_rec (a c M : Nat) (hc : c < 256) : a &&& (c + 256 * M) = (a % 256 &&& c) + 256 * (a / 256 &&& M) := by
  have h1 : (a % 256 &&& c) < 2 ^ 8 := Nat.and_lt_two_pow _ hc
  apply Nat.eq_of_testBit_eq
  intro i
  rw [Nat.testBit_and]
  have e1 : c + 256 * M = 2 ^ 8 * M + c := by omega
  have e2 : (a % 256 &&& c) + 256 * (a / 256 &&& M) = 2 ^ 8 * (a / 256 &&& M) + (a % 256 &&& c) := by omega
  rw [e1, e2, Nat.testBit_two_pow_mul_add _ hc, Nat.testBit_two_pow_mul_add _ h1]
  by_cases hi : i < 8
  · rw [if_pos hi, if_pos hi, Nat.testBit_and]
    have : (a % 256).testBit i = a.testBit i := by
      rw [show (256 : Nat) = 2 ^ 8 by decide, Nat.testBit_mod_two_pow]; simp [hi]
    rw [this]
  · rw [if_neg hi, if_neg hi, Nat.testBit_and]
    have : (a / 256).testBit (i - 8) = a.testBit i := by
      rw [show (256 : Nat) = 2 ^ 8 by decide, Nat.testBit_div_two_pow]; congr 1; omega
    rw [this]
def rep8 (c : Nat) : Nat := c + 256 * (c + 256 * (c + 256 * (c + 256 * (c + 256 * (c + 256 * (c + 256 * (c + 256 * 0)))))))
def by8 (f : Nat → Nat) : Nat := f 0 + 256 * (f 1 + 256 * (f 2 + 256 * (f 3 + 256 * (f 4 + 256 * (f 5 + 256 * (f 6 + 256 * f 7))))))
theorem and_by8 {f : Nat → Nat} {c : Nat} (hc : c < 256) (hf : ∀ i, i < 8 → f i < 256) : by8 f &&& rep8 c = by8 (fun i => f i &&& c) := by
  have h0 := hf 0 (by omega)
  have h1 := hf 1 (by omega)
  have h2 := hf 2 (by omega)
  have h3 := hf 3 (by omega)
  have h4 := hf 4 (by omega)
  have h5 := hf 5 (by omega)
  have h6 := hf 6 (by omega)
  have h7 := hf 7 (by omega)
  have st : ∀ a y M, a < 256 → (a + 256 * y) &&& (c + 256 * M) = (a &&& c) + 256 * (y &&& M) := by
    intro a y M ha
    rw [and_rec _ _ _ hc, show (a + 256 * y) % 256 = a by omega, show (a + 256 * y) / 256 = y by omega]
  unfold by8 rep8
  rw [st _ _ _ h0, st _ _ _ h1, st _ _ _ h2, st _ _ _ h3, st _ _ _ h4, st _ _ _ h5, st _ _ _ h6]
  have := and_rec (f 7) c 0 hc
  rw [this, show f 7 % 256 = f 7 by omega]
  simp
/-- bits of a byte -/
def pc8 (b : Nat) : Nat := b % 2 + b / 2 % 2 + b / 4 % 2 + b / 8 % 2 + b / 16 % 2 + b / 32 % 2 + b / 64 % 2 + b / 128 % 2
theorem pc8_t : ∀ b, b < 256 → ∀ t, t < 2 → (b / 2 + t * 128) &&& 85 ≤ b ∧ (b / 2 + t * 128) &&& 85 = (b / 2) &&& 85 := by decide +kernel
theorem pc8_u : ∀ v, v < 256 → ∀ t, t < 4 → (v / 4 + t * 64) &&& 51 = (v / 4) &&& 51 ∧ (v / 4) &&& 51 ≤ 51 ∧ v &&& 51 ≤ 51 := by decide +kernel
theorem pc8_v : ∀ b, b < 256 → (((b - (b / 2 &&& 85)) &&& 51) + ((b - (b / 2 &&& 85)) / 4 &&& 51)) % 16 + (((b - (b / 2 &&& 85)) &&& 51) + ((b - (b / 2 &&& 85)) / 4 &&& 51)) / 16 = pc8 b ∧ (((b - (b / 2 &&& 85)) &&& 51) + ((b - (b / 2 &&& 85)) / 4 &&& 51)) % 16 ≤ 4 ∧ (((b - (b / 2 &&& 85)) &&& 51) + ((b - (b / 2 &&& 85)) / 4 &&& 51)) / 16 ≤ 4 := by decide +kernel
theorem pc8_w : ∀ l, l < 16 → ∀ h, h < 16 → (l + 16 * h) &&& 15 = l := by decide +kernel
theorem pc8_le {b : Nat} : pc8 b ≤ 8 := by unfold pc8; omega

theorem bc_sum {a b c d e f g h y : Nat} (ha : a ≤ 8) (hb : b ≤ 8) (hc : c ≤ 8) (hd : d ≤ 8) (he : e ≤ 8) (hf : f ≤ 8) (hg : g ≤ 8) (hh : h ≤ 8) (hy : y = a + 256 * (b + 256 * (c + 256 * (d + 256 * (e + 256 * (f + 256 * (g + 256 * h))))))) :
    (y + y / 256 + (y + y / 256) / 65536 + (y + y / 256 + (y + y / 256) / 65536) / 4294967296) % 128 = a + b + c + d + e + f + g + h := by
  have q1 : y / 256 = b + 256 * (c + 256 * (d + 256 * (e + 256 * (f + 256 * (g + 256 * h))))) := by omega
  obtain ⟨y1, e1⟩ : ∃ y1, y1 = y + y / 256 := ⟨_, rfl⟩
  rw [← e1]
  have q2 : y1 = (a + b) + 256 * ((b + c) + 256 * ((c + d) + 256 * ((d + e) + 256 * ((e + f) + 256 * ((f + g) + 256 * ((g + h) + 256 * h)))))) := by rw [e1, q1, hy]; omega
  clear e1 q1 hy
  have q3 : y1 / 65536 = (c + d) + 256 * ((d + e) + 256 * ((e + f) + 256 * ((f + g) + 256 * ((g + h) + 256 * h)))) := by omega
  obtain ⟨y2, e2⟩ : ∃ y2, y2 = y1 + y1 / 65536 := ⟨_, rfl⟩
  rw [← e2]
  have q4 : y2 = (a + b + c + d) + 256 * ((b + c + d + e) + 256 * ((c + d + e + f) + 256 * ((d + e + f + g) + 256 * ((e + f + g + h) + 256 * ((f + g + h) + 256 * ((g + h) + 256 * h)))))) := by rw [e2, q3, q2]; omega
  clear e2 q3 q2
  have q5 : y2 / 4294967296 = (e + f + g + h) + 256 * ((f + g + h) + 256 * ((g + h) + 256 * h)) := by omega
  rw [q5, q4]
  omega
theorem bc_nat {n : Nat} (f : Nat → Nat) (hf : ∀ i, f i < 256) (h8 : f 8 = 0) (hn : n = by8 f) :
    ∃ v1 v2 v3 y : Nat, n / 2 &&& rep8 85 ≤ n ∧ v1 = n - (n / 2 &&& rep8 85) ∧ v2 = (v1 &&& rep8 51) + (v1 / 4 &&& rep8 51) ∧ v3 = v2 + v2 / 16 ∧ y = v3 &&& rep8 15 ∧ v1 < 2 ^ 64 ∧ v2 < 2 ^ 64 ∧ v3 < 2 ^ 64 ∧ y < 2 ^ 64 ∧ y + y / 256 < 2 ^ 64 ∧ y + y / 256 + (y + y / 256) / 65536 < 2 ^ 64 ∧
      (y + y / 256 + (y + y / 256) / 65536 + (y + y / 256 + (y + y / 256) / 65536) / 4294967296) % 128 = pc8 (f 0) + pc8 (f 1) + pc8 (f 2) + pc8 (f 3) + pc8 (f 4) + pc8 (f 5) + pc8 (f 6) + pc8 (f 7) := by
  have e1 : n / 2 = by8 (fun i => f i / 2 + f (i + 1) % 2 * 128) := by
    rw [hn]; simp only [by8, Nat.zero_add, Nat.reduceAdd, h8]; omega
  have a1 : n / 2 &&& rep8 85 = by8 (fun i => f i / 2 &&& 85) := by
    rw [e1, and_by8 (by omega) (fun i _ => by have := hf i; omega)]
    congr 1
    funext i
    exact (pc8_t (f i) (hf i) (f (i + 1) % 2) (by omega)).2
  have le1 : ∀ i, (f i / 2 &&& 85) ≤ f i := fun i => by
    have := pc8_t (f i) (hf i) 0 (by omega)
    simpa using this.1
  obtain ⟨c, ec⟩ : ∃ c : Nat → Nat, c = fun i => f i - (f i / 2 &&& 85) := ⟨_, rfl⟩
  have hc : ∀ i, c i < 256 := fun i => by rw [ec]; have := hf i; show f i - _ < 256; omega
  have hc8 : c 8 = 0 := by rw [ec]; show f 8 - _ = 0; omega
  have ev1 : n - (n / 2 &&& rep8 85) = by8 c ∧ n / 2 &&& rep8 85 ≤ n := by
    rw [a1, hn, ec]
    simp only [by8]
    have h0 := le1 0
    have h1 := le1 1
    have h2 := le1 2
    have h3 := le1 3
    have h4 := le1 4
    have h5 := le1 5
    have h6 := le1 6
    have h7 := le1 7
    generalize f 0 / 2 &&& 85 = g0 at *
    generalize f 1 / 2 &&& 85 = g1 at *
    generalize f 2 / 2 &&& 85 = g2 at *
    generalize f 3 / 2 &&& 85 = g3 at *
    generalize f 4 / 2 &&& 85 = g4 at *
    generalize f 5 / 2 &&& 85 = g5 at *
    generalize f 6 / 2 &&& 85 = g6 at *
    generalize f 7 / 2 &&& 85 = g7 at *
    omega
  have e2 : by8 c / 4 = by8 (fun i => c i / 4 + c (i + 1) % 4 * 64) := by simp only [by8, Nat.zero_add, Nat.reduceAdd, hc8]; omega
  have a2 : by8 c / 4 &&& rep8 51 = by8 (fun i => c i / 4 &&& 51) := by
    rw [e2, and_by8 (by omega) (fun i _ => by have := hc i; omega)]
    congr 1
    funext i
    exact (pc8_u (c i) (hc i) (c (i + 1) % 4) (by omega)).1
  have a3 : by8 c &&& rep8 51 = by8 (fun i => c i &&& 51) := and_by8 (by omega) (fun i _ => hc i)
  obtain ⟨g, eg⟩ : ∃ g : Nat → Nat, g = fun i => (c i &&& 51) + (c i / 4 &&& 51) := ⟨_, rfl⟩
  have ev2 : (by8 c &&& rep8 51) + (by8 c / 4 &&& rep8 51) = by8 g := by
    rw [a2, a3, eg]; simp only [by8]; omega
  have hg : ∀ i, g i % 16 + g i / 16 = pc8 (f i) ∧ g i % 16 ≤ 4 ∧ g i / 16 ≤ 4 := fun i => by
    have := pc8_v (f i) (hf i)
    rw [eg, ec]; exact this
  have hg8 : g 8 = 0 := by
    rw [eg]
    show (c 8 &&& 51) + (c 8 / 4 &&& 51) = 0
    rw [hc8]; rfl
  have ev3 : by8 g + by8 g / 16 = by8 (fun i => (g i % 16 + g i / 16) + 16 * (g i / 16 + g (i + 1) % 16)) := by simp only [by8, Nat.zero_add, Nat.reduceAdd, hg8]; omega
  have ey : by8 (fun i => (g i % 16 + g i / 16) + 16 * (g i / 16 + g (i + 1) % 16)) &&& rep8 15 = by8 (fun i => pc8 (f i)) := by
    rw [and_by8 (by omega) (fun i _ => by have h1 := hg i; have h2 := hg (i + 1); omega)]
    congr 1
    funext i
    have h1 := hg i
    have h2 := hg (i + 1)
    rw [pc8_w _ (by omega) _ (by omega)]
    exact h1.1
  have bd : ∀ h : Nat → Nat, (∀ i, h i < 256) → by8 h < 2 ^ 64 := by
    intro h hh
    have h0 := hh 0
    have h1 := hh 1
    have h2 := hh 2
    have h3 := hh 3
    have h4 := hh 4
    have h5 := hh 5
    have h6 := hh 6
    have h7 := hh 7
    unfold by8; omega
  have p0 := @pc8_le (f 0)
  have p1 := @pc8_le (f 1)
  have p2 := @pc8_le (f 2)
  have p3 := @pc8_le (f 3)
  have p4 := @pc8_le (f 4)
  have p5 := @pc8_le (f 5)
  have p6 := @pc8_le (f 6)
  have p7 := @pc8_le (f 7)
  refine ⟨by8 c, by8 g, by8 g + by8 g / 16, by8 (fun i => pc8 (f i)), ev1.2, ev1.1.symm, ev2.symm, rfl, by rw [ev3, ey], bd c hc, bd g (fun i => by have := hg i; omega), ?_, bd _ (fun i => by have := @pc8_le (f i); show pc8 (f i) < 256; omega), ?_, ?_, ?_⟩
  · rw [ev3]; exact bd _ (fun i => by have h1 := hg i; have h2 := hg (i + 1); show _ + 16 * _ < 256; omega)
  · simp only [by8]; omega
  · simp only [by8]; omega
  · exact bc_sum p0 p1 p2 p3 p4 p5 p6 p7 rfl
theorem rep_85 : rep8 85 = 6148914691236517205 := by decide
theorem rep_51 : rep8 51 = 3689348814741910323 := by decide
theorem rep_15 : rep8 15 = 1085102592571150095 := by decide
def byt (n i : Nat) : Nat := n / 256 ^ i % 256
theorem byt_8 {n : Nat} (hn : n < 2 ^ 64) : n = by8 (byt n) ∧ byt n 8 = 0 := by
  unfold by8 byt
  refine ⟨?_, ?_⟩
  · simp only [Nat.pow_zero, Nat.pow_succ, Nat.one_mul, Nat.div_one]; omega
  · have : n / 256 ^ 8 = 0 := Nat.div_eq_of_lt (by have : (256 : Nat) ^ 8 = 2 ^ 64 := by decide
                                                   omega)
    rw [this]
theorem and127 {v : Nat} : andI (l2iF (lN v)) 127 = ((v % 128 : Nat) : Int) := by
  unfold l2iF andI
  rw [lN_i, show ∀ w : Int32, Int32.ofInt w.toInt = w from fun w => by simp, pk_and (nI v) 7 (m := Int32.ofInt 127) (by decide)]
  have e1 : (nI v).toBitVec.toNat = v % 2 ^ 32 := by
    show (BitVec.ofNat 32 _).toNat = _
    exact BitVec.toNat_ofNat _ _
  rw [e1, nI_toInt (by omega)]
  congr 1
  omega
section ZJ
variable {X : ZX} {d n : Nat} {σ : ZSto}
theorem sp_bitCount (hn : 73 ≤ n) {k : Nat} (hk : k < 2 ^ 64) : ZkI X M_J13_bitCount_95d88 (d + 1) n [.long (lN k)] σ (fun v σ' => σ = σ' ∧ v = ((pc8 (byt k 0) + pc8 (byt k 1) + pc8 (byt k 2) + pc8 (byt k 3) + pc8 (byt k 4) + pc8 (byt k 5) + pc8 (byt k 6) + pc8 (byt k 7) : Nat) : Int)) := by
  obtain ⟨h8, h80⟩ := byt_8 hk
  obtain ⟨v1, v2, v3, y, b0, e1, e2, e3, e4, b1, b2, b3, b4, b5, b6, fin⟩ := bc_nat (byt k) (fun i => Nat.mod_lt _ (by omega)) h80 h8
  have r85 : (6148914691236517205 : Int64) = lN (rep8 85) := by rw [rep_85]; rfl
  have r51 : (3689348814741910323 : Int64) = lN (rep8 51) := by rw [rep_51]; rfl
  have r15 : (1085102592571150095 : Int64) = lN (rep8 15) := by rw [rep_15]; rfl
  have m85 : rep8 85 < 2 ^ 64 := by decide
  have m51 : rep8 51 < 2 ^ 64 := by decide
  have m15 : rep8 15 < 2 ^ 64 := by decide
  have s1 : lN k - ((lushrF (lN k) 1) &&& (6148914691236517205 : Int64)) = lN v1 := by
    have q : lushrF (lN k) 1 = lN (k / 2) := lushr_N (k := 1) hk (by omega)
    rw [q, r85, wb_and (by omega) m85, lN_sub b0, ← e1]
  have s2 : (lN v1 &&& (3689348814741910323 : Int64)) + ((lushrF (lN v1) 2) &&& (3689348814741910323 : Int64)) = lN v2 := by
    have q : lushrF (lN v1) 2 = lN (v1 / 4) := lushr_N (k := 2) b1 (by omega)
    rw [q, r51, wb_and b1 m51, wb_and (by omega) m51, lN_add, ← e2]
  have s3 : (lN v2 + lushrF (lN v2) 4) &&& (1085102592571150095 : Int64) = lN y := by
    have q : lushrF (lN v2) 4 = lN (v2 / 16) := lushr_N (k := 4) b2 (by omega)
    rw [q, r15, lN_add, ← e3, wb_and b3 m15, ← e4]
  have s4 : lN y + lushrF (lN y) 8 = lN (y + y / 256) := by
    have q : lushrF (lN y) 8 = lN (y / 256) := lushr_N (k := 8) b4 (by omega)
    rw [q, lN_add]
  have s5 : lN (y + y / 256) + lushrF (lN (y + y / 256)) 16 = lN (y + y / 256 + (y + y / 256) / 65536) := by
    have q : lushrF (lN (y + y / 256)) 16 = lN ((y + y / 256) / 65536) := lushr_N (k := 16) b5 (by omega)
    rw [q, lN_add]
  have s6 : lN (y + y / 256 + (y + y / 256) / 65536) + lushrF (lN (y + y / 256 + (y + y / 256) / 65536)) 32 = lN (y + y / 256 + (y + y / 256) / 65536 + (y + y / 256 + (y + y / 256) / 65536) / 4294967296) := by
    have q : lushrF (lN (y + y / 256 + (y + y / 256) / 65536)) 32 = lN ((y + y / 256 + (y + y / 256) / 65536) / 4294967296) := lushr_N (k := 32) b6 (by omega)
    rw [q, lN_add]
  refine w_J13_bitCount_95d88 hn ?_
  rw [s1, s2, s3, s4, s5, s6, and127, fin]
  exact ⟨rfl, rfl⟩
end ZJ
