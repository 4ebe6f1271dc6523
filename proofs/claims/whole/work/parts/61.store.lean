section ZQ
variable {X : ZX} {d n : Nat} {σ : ZSto}
theorem sp_pairAt (hn : 73 ≤ n) {a z from_ N p : Nat} (ha : a < n) (hs : SH a = some (.inl (.long, z))) {f : Nat → Int} (hf : B4 N f) (hp : p < N) (hN : N ≤ 96) (hz : from_ + 3 ≤ z) (hw : ∀ w, w < 3 → gL σ a (from_ + w) = lN (pkW f N w)) :
    ZkI X M_X9_pairAt (d + 1) n [.ref (zB X + a), iV (from_ : Int), iV (p : Int)] σ (fun v σ' => σ = σ' ∧ v = f p) := by
  have hl := zSh_len hs
  refine w_X9_pairAt hn ha hs ⟨by omega, by omega⟩ ⟨by omega, by omega⟩ ?_
  rw [shr5 (by omega), and31 (by omega)]
  refine ⟨⟨by omega, by omega⟩, fun q => by omega, fun _ => ⟨fun _ => ⟨by omega, rfl, ?_⟩, fun q => by omega⟩⟩
  have e : ((from_ : Int) + ((p / 32 : Nat) : Int)).toNat = from_ + p / 32 := by omega
  rw [e, hw (p / 32) (by omega), ushr_dig (pkW_lt hf) (by omega), pkW_dig hf hp]
  have := hf p hp
  omega
/-- store's inner loop: one word -/
theorem store_word (hn : 73 ≤ n) {o m a z from_ : Nat} (ho : zIsB o) (ha : a < n) (hs : SH a = some (.inl (.long, z))) {bd : Nat → Int} {P : ZSto → Prop} (hg : BGeo σ o m) (hc : BCon m bd) (hst : BSt σ o m bd) {w : Nat} (hw : w < 3) (hz : from_ + 3 ≤ z)
    (hP : L_X0_store_15 X d n (zpV P) o a z (from_ : Int) ((w : Int) + 1) (sL σ a (from_ + w) (lN (pkW bd (m * m) w)))) :
    ∀ (k i : Nat), min 32 (m * m - 32 * w) - i ≤ k → i ≤ min 32 (m * m - 32 * w) → L_X0_store_29 X d n (zpV P) o a z (from_ : Int) (w : Int) (lN (pk4 (fun i => (bd (32 * w + i)).toNat) i)) (((32 * w + i : Nat)) : Int) σ := by
  have hN := sq_le hg.2.1
  have hl := zSh_len hs
  have done : ∀ i, i = min 32 (m * m - 32 * w) → L_X0_store_29 X d n (zpV P) o a z (from_ : Int) (w : Int) (lN (pk4 (fun i => (bd (32 * w + i)).toNat) i)) (((32 * w + i : Nat)) : Int) σ := by
    intro i hi
    have e : ((from_ : Int) + (w : Int)).toNat = from_ + w := by omega
    have hP' : L_X0_store_15 X d n (zpV P) o a z (from_ : Int) ((w : Int) + 1) (sL σ a (from_ + w) (lN (pk4 (fun i => (bd (32 * w + i)).toNat) i))) := by rw [hi]; exact hP
    refine b_X0_store_29 hn ho ha hs ?_
    rw [hg.2.2.2.1, e]
    refine ⟨⟨by omega, by omega⟩, fun _ => ⟨by omega, ⟨by omega, by omega⟩, hP'⟩, fun _ => ⟨fun _ => ⟨by omega, ⟨by omega, by omega⟩, hP'⟩, fun q => by omega⟩⟩
  intro k
  induction k with
  | zero => intro i hk hi; exact done i (by omega)
  | succ k ih =>
    intro i hk hi
    by_cases e : i = min 32 (m * m - 32 * w)
    · exact done i e
    · have hp : 32 * w + i < m * m := by omega
      have hbc := hc _ hp
      refine b_X0_store_29 hn ho ha hs ?_
      rw [hg.2.2.2.1]
      refine ⟨⟨by omega, by omega⟩, fun q => by omega, fun _ => ⟨fun q => by omega, fun _ => ⟨by omega, ⟨by omega, by omega⟩, ?_⟩⟩⟩
      have tp : (((32 * w + i : Nat)) : Int).toNat = 32 * w + i := by omega
      obtain ⟨x, hx⟩ : ∃ x : Nat, bd (32 * w + i) = (x : Int) := ⟨(bd (32 * w + i)).toNat, by omega⟩
      rw [tp, hst _ hp, hx, and31 (by omega), show ((32 * w + i) % 32 : Nat) = i by omega, shl_dig (by omega) (by omega)]
      have hlt : pk4 (fun i => (bd (32 * w + i)).toNat) i < 4 ^ i := pk4_lt (fun j hj => by have := hc (32 * w + j) (by omega); omega)
      have e4 : (2 : Nat) ^ (2 * i) = 4 ^ i := by rw [Nat.pow_mul]
      have hpw : 4 ^ (i + 1) ≤ 4 ^ 32 := Nat.pow_le_pow_right (by decide) (by omega)
      have h64 : (4 : Nat) ^ 32 = 2 ^ 64 := by decide
      have hx3 : x * 4 ^ i ≤ 3 * 4 ^ i := Nat.mul_le_mul_right _ (by omega)
      rw [Nat.pow_succ] at hpw
      rw [g_or' e4 hlt (by omega)]
      have := ih (i + 1) (by omega) (by omega)
      have e5 : pk4 (fun i => (bd (32 * w + i)).toNat) (i + 1) = pk4 (fun i => (bd (32 * w + i)).toNat) i + x * 4 ^ i := by
        show _ + (bd (32 * w + i)).toNat * 4 ^ i = _
        rw [hx]; simp
      rw [e5] at this
      have e6 : (((32 * w + (i + 1) : Nat)) : Int) = (((32 * w + i : Nat)) : Int) + 1 := by omega
      rw [e6] at this
      exact this
theorem sp_store (hn : 73 ≤ n) {o m a z from_ : Nat} (ho : zIsB o) (ha : a < n) (hs : SH a = some (.inl (.long, z))) {bd : Nat → Int} (hg : BGeo σ o m) (hc : BCon m bd) (hst : BSt σ o m bd) (hz : from_ + 3 ≤ z) :
    ZkV X M_X0_store (d + 1) n [.ref (zB X + o), .ref (zB X + a), iV (from_ : Int)] σ (fun σ' => Fr (fun b i => b = a ∧ from_ ≤ i ∧ i < from_ + 3) σ σ' ∧ ∀ w, w < 3 → gL σ' a (from_ + w) = lN (pkW bd (m * m) w)) := by
  have hl := zSh_len hs
  have hN := sq_le hg.2.1
  refine w_X0_store hn ho ha hs ⟨by omega, by omega⟩ ⟨fun q => by omega, fun _ => ⟨⟨by omega, by omega⟩, fun _ => ?_, fun q => by omega⟩⟩
  have goL : ∀ σ', BGeo σ o m → (∀ b i, gI σ' b i = gI σ b i) → BGeo σ' o m ∧ BSt σ' o m bd := by
    intro σ' hg' he
    obtain ⟨a1, a2, a3, a4, a5⟩ := hg'
    exact ⟨⟨a1, a2, by rw [he]; exact a3, by rw [he]; exact a4, fun p hp dd hd => by rw [he]; exact a5 p hp dd hd⟩, fun p hp => by rw [he]; exact hst p hp⟩
  have step : ∀ (σ' : ZSto) (w : Nat), w < 3 → (∀ b i, gI σ' b i = gI σ b i) → L_X0_store_15 X d n (zpV (fun σ' => Fr (fun b i => b = a ∧ from_ ≤ i ∧ i < from_ + 3) σ σ' ∧ ∀ w, w < 3 → gL σ' a (from_ + w) = lN (pkW bd (m * m) w))) o a z (from_ : Int) ((w : Int) + 1) (sL σ' a (from_ + w) (lN (pkW bd (m * m) w))) → L_X0_store_15 X d n (zpV (fun σ' => Fr (fun b i => b = a ∧ from_ ≤ i ∧ i < from_ + 3) σ σ' ∧ ∀ w, w < 3 → gL σ' a (from_ + w) = lN (pkW bd (m * m) w))) o a z (from_ : Int) (w : Int) σ' := by
    intro σ' w hw he hP
    obtain ⟨g1, g2⟩ := goL σ' hg he
    refine b_X0_store_15 hn ho ha hs ⟨fun q => by omega, fun _ => ⟨⟨by omega, by omega⟩, ?_⟩⟩
    have := store_word (X := X) (d := d) hn ho ha hs g1 hc g2 hw hz hP (min 32 (m * m - 32 * w)) 0 (by omega) (by omega)
    have e : (((32 * w + 0 : Nat)) : Int) = 32 * (w : Int) := by omega
    rw [e] at this
    exact this
  refine step σ 0 (by omega) (fun _ _ => rfl) (step _ 1 (by omega) (fun _ _ => rfl) (step _ 2 (by omega) (fun _ _ => rfl) (b_X0_store_15 hn ho ha hs ⟨fun _ => ⟨?_, fun w hw => ?_⟩, fun q => by omega⟩)))
  · refine ((Fr.rf.sL ?_).sL ?_).sL ?_ <;> omega
  · have : w = 0 ∨ w = 1 ∨ w = 2 := by omega
    rcases this with rfl | rfl | rfl <;> simp [gL_if]
theorem load_loop (hn : 73 ≤ n) {o m a z from_ : Nat} (ho : zIsB o) (ha : a < n) (hs : SH a = some (.inl (.long, z))) {f : Nat → Int} {P : ZSto → Prop} {σ0 : ZSto} (hg : BGeo σ0 o m) (hao : a ≠ o + 1) (hc : BCon m f) (hz : from_ + 3 ≤ z) (hw : ∀ w, w < 3 → gL σ0 a (from_ + w) = lN (pkW f (m * m) w))
    (hP : ∀ σ : ZSto, Fr (fun b i => b = o + 1) σ0 σ → BSt σ o m f → P σ) :
    ∀ (k : Nat) (σ : ZSto) (p : Nat), m * m - p ≤ k → p ≤ m * m → Fr (fun b i => b = o + 1) σ0 σ → (∀ q, q < p → gI σ (o + 1) q = f q) → L_X0_load_2 X (d + 1) n (zpV P) o a z (from_ : Int) (p : Int) σ := by
  have hN := sq_le hg.2.1
  intro k
  induction k with
  | zero =>
    intro σ p hk hp hf hq
    have : p = m * m := by omega
    subst this
    refine b_X0_load_2 hn ho ha hs ?_
    rw [hf.I (a := o) (by omega), hg.2.2.2.1]
    exact ⟨fun _ => hP σ hf hq, fun q => by omega⟩
  | succ k ih =>
    intro σ p hk hp hf hq
    refine b_X0_load_2 hn ho ha hs ?_
    rw [hf.I (a := o) (by omega), hg.2.2.2.1]
    refine ⟨fun z => ?_, fun z => ?_⟩
    · have : p = m * m := by omega
      subst this
      exact hP σ hf hq
    · refine (sp_pairAt hn ha hs hc.b4 (show p < m * m by omega) (by omega) hz (fun w hw' => by rw [hf.L (by omega)]; exact hw w hw')).mono ?_
      rintro v _ - ⟨rfl, rfl⟩
      have := hc p (by omega)
      have tp : ((p : Int)).toNat = p := by omega
      rw [tp, w8_small (by omega) (by omega)]
      refine ⟨by omega, ⟨by omega, by omega⟩, ?_⟩
      have := ih (sI σ (o + 1) p (f p)) (p + 1) (by omega) (by omega) (hf.sI rfl) (fun q hq' => ?_)
      · simpa using this
      · by_cases e : q = p
        · subst e; exact gI_same _ _ _ _
        · rw [gI_f e]; exact hq q (by omega)
theorem sp_load (hn : 73 ≤ n) {o m a z from_ : Nat} (ho : zIsB o) (ha : a < n) (hs : SH a = some (.inl (.long, z))) {f : Nat → Int} (hg : BGeo σ o m) (hao : a ≠ o + 1) (hc : BCon m f) (hz : from_ + 3 ≤ z) (hw : ∀ w, w < 3 → gL σ a (from_ + w) = lN (pkW f (m * m) w)) :
    ZkV X M_X0_load (d + 2) n [.ref (zB X + o), .ref (zB X + a), iV (from_ : Int)] σ (fun σ' => Fr (fun b i => b = o + 1) σ σ' ∧ BSt σ' o m f) := by
  have hl := zSh_len hs
  refine w_X0_load hn ho ha hs ⟨by omega, by omega⟩ ?_
  exact load_loop (X := X) (d := d) hn ho ha hs hg hao hc hz hw (fun σ' h1 h2 => ⟨h1, h2⟩) (m * m) σ 0 (by omega) (by omega) Fr.rf (fun q hq => by omega)
theorem sp_pack (hn : 73 ≤ n) {o m : Nat} (ho : zIsB o) {bd : Nat → Int} (hg : BGeo σ o m) (hc : BCon m bd) (hst : BSt σ o m bd) :
    ZkV X M_X0_pack (d + 2) n [.ref (zB X + o)] σ (fun σ' => Fr (fun b i => b = o + 7) σ σ' ∧ ∀ w, w < 3 → gL σ' (o + 7) w = lN (pkW bd (m * m) w)) := by
  refine w_X0_pack hn ho ?_
  have := (sp_store (X := X) (d := d) hn ho (zB_l6 ho hn) (zB_s6 ho) (from_ := 0) hg hc hst (by omega)).mono (P' := fun σ' => Fr (fun b i => b = o + 7) σ σ' ∧ ∀ w, w < 3 → gL σ' (o + 7) w = lN (pkW bd (m * m) w)) (fun σ' h => ⟨h.1.mono (fun a i q => q.1), fun w hw => by have := h.2 w hw; simpa using this⟩)
  simpa using this
theorem sp_packedAs (hn : 73 ≤ n) {o m a z from_ : Nat} (ho : zIsB o) (ha : a < n) (hs : SH a = some (.inl (.long, z))) {f g : Nat → Int} (hm9 : m ≤ 9) (hf : BCon m f) (hg : BCon m g) (hz : from_ + 3 ≤ z) (hw : ∀ w, w < 3 → gL σ a (from_ + w) = lN (pkW f (m * m) w)) (hw2 : ∀ w, w < 3 → gL σ (o + 7) w = lN (pkW g (m * m) w)) :
    ZkZ X M_X0_packedAs (d + 1) n [.ref (zB X + o), .ref (zB X + a), iV (from_ : Int)] σ (fun v σ' => σ = σ' ∧ ((v = 1 ∧ ∀ p, p < m * m → f p = g p) ∨ (v = 0 ∧ ¬ ∀ p, p < m * m → f p = g p))) := by
  have hl := zSh_len hs
  have hN := sq_le hm9
  have iff := pkW_inj hf.b4 hg.b4 (show m * m ≤ 96 by omega)
  have t0 : ((from_ : Int)).toNat = from_ + 0 := by omega
  have t1 : ((from_ : Int) + 1).toNat = from_ + 1 := by omega
  have t2 : ((from_ : Int) + 2).toNat = from_ + 2 := by omega
  refine w_X0_packedAs hn ho ha hs ⟨by omega, by omega⟩ ⟨fun q => by omega, fun _ => ⟨⟨by omega, by omega⟩, fun q => by omega, fun _ => ?_⟩⟩
  rw [t0, t1, t2, hw 0 (by omega), hw 1 (by omega), hw 2 (by omega), hw2 0 (by omega), hw2 1 (by omega), hw2 2 (by omega)]
  refine ⟨by omega, fun q => ⟨rfl, Or.inr ⟨rfl, fun z => q (lcmp0.mpr (iff.mpr z 0 (by omega)))⟩⟩, fun q0 => ⟨by omega, fun q => ⟨rfl, Or.inr ⟨rfl, fun z => q (lcmp0.mpr (iff.mpr z 1 (by omega)))⟩⟩, fun q1 => ⟨by omega, fun q => ⟨rfl, Or.inr ⟨rfl, fun z => q (lcmp0.mpr (iff.mpr z 2 (by omega)))⟩⟩, fun q2 => ⟨rfl, Or.inl ⟨rfl, iff.mp (fun w hw' => ?_)⟩⟩⟩⟩⟩
  have : w = 0 ∨ w = 1 ∨ w = 2 := by omega
  have q0 := lcmp0.mp q0
  have q1 := lcmp0.mp q1
  have q2 := lcmp0.mp q2
  rcases this with rfl | rfl | rfl <;> assumption
end ZQ
