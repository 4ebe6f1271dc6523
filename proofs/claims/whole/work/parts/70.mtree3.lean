section ZM
variable {X : ZX} {d n : Nat} {σ : ZSto}
theorem sm_comes (hn : 104 ≤ n) {g k : Nat} {x : Int} (hg : g < 2) (hk : gI σ 81 g = (k : Int)) (hk2 : k < 250) (hx : R32 x) :
    ZkI X M_X10_comes (d + 1) n [.ref (zB X + 73), iV (g : Int), iV x] σ (fun v σ' => v = ((250 * g + k : Nat) : Int) ∧ Fr (fun a i => ((74 ≤ a ∧ a ≤ 78) ∧ i = 250 * g + k) ∨ (a = 80 ∧ 81 * (250 * g + k) ≤ i ∧ i < 81 * (250 * g + k) + 81) ∨ (a = 81 ∧ i = g)) σ σ' ∧ gI σ' 74 (250 * g + k) = x ∧ gI σ' 75 (250 * g + k) = 0 ∧ gI σ' 76 (250 * g + k) = 0 ∧ gI σ' 77 (250 * g + k) = -1 ∧ gI σ' 78 (250 * g + k) = 0 ∧ (∀ p, p < 81 → gI σ' 80 (81 * (250 * g + k) + p) = 3) ∧ gI σ' 81 g = (k : Int) + 1) := by
  have tg : ((g : Int)).toNat = g := by omega
  refine w_X10_comes hn ⟨by omega, by omega⟩ hx ⟨by omega, fun y hy => ?_⟩
  rw [tg, hk] at hy
  obtain ⟨K, eK⟩ : ∃ K : Nat, K = 250 * g + k := ⟨_, rfl⟩
  have hyK : y = (K : Int) := by omega
  subst hyK
  have tK : ((K : Int)).toNat = K := by omega
  rw [tK, ← eK]
  refine ⟨by omega, ⟨by omega, by omega⟩, ?_⟩
  obtain ⟨σ1, e1⟩ : ∃ σ1, σ1 = sI (sI (sI (sI (sI σ 74 K x) 75 K 0) 76 K 0) 77 K (-1)) 78 K 0 := ⟨_, rfl⟩
  rw [← e1]
  have f1 : Fr (fun a i => ((74 ≤ a ∧ a ≤ 78) ∧ i = K) ∨ (a = 80 ∧ 81 * K ≤ i ∧ i < 81 * K + 81) ∨ (a = 81 ∧ i = g)) σ σ1 := by
    rw [e1]
    refine ((((Fr.rf.sI ?_).sI ?_).sI ?_).sI ?_).sI ?_ <;> omega
  have v1 : gI σ1 74 K = x ∧ gI σ1 75 K = 0 ∧ gI σ1 76 K = 0 ∧ gI σ1 77 K = -1 ∧ gI σ1 78 K = 0 := by rw [e1]; simp [gI_if]
  have := upto (N := 81) (Q := fun i τ => L_X10_comes_51 X d n (zpI (fun v σ' => v = (K : Int) ∧ Fr (fun a i => ((74 ≤ a ∧ a ≤ 78) ∧ i = K) ∨ (a = 80 ∧ 81 * K ≤ i ∧ i < 81 * K + 81) ∨ (a = 81 ∧ i = g)) σ σ' ∧ gI σ' 74 K = x ∧ gI σ' 75 K = 0 ∧ gI σ' 76 K = 0 ∧ gI σ' 77 K = -1 ∧ gI σ' 78 K = 0 ∧ (∀ p, p < 81 → gI σ' 80 (81 * K + p) = 3) ∧ gI σ' 81 g = (k : Int) + 1)) (g : Int) (K : Int) (i : Int) τ) (I := fun i τ => Fr (fun a i => a = 80 ∧ 81 * K ≤ i ∧ i < 81 * K + 81) σ1 τ ∧ ∀ p, p < i → gI τ 80 (81 * K + p) = 3)
    ?_ ?_ 0 σ1 (by omega) ⟨Fr.rf, fun p hp => by omega⟩
  · simpa using this
  · rintro τ ⟨hf, hq⟩
    have e81 : gI τ 81 g = (k : Int) := by rw [hf.I (by omega), e1]; simp [gI_if]; exact hk
    refine b_X10_comes_51 hn ?_
    rw [tg, e81]
    refine ⟨fun _ => ⟨by omega, ⟨by omega, by omega⟩, rfl, (f1.tr (hf.mono (fun a i q => by omega))).sI (by omega), ?_, ?_, ?_, ?_, ?_, fun p hp => ?_, gI_same _ _ _ _⟩, fun q => by omega⟩
    · rw [gI_c (by omega), hf.I (by omega)]; exact v1.1
    · rw [gI_c (by omega), hf.I (by omega)]; exact v1.2.1
    · rw [gI_c (by omega), hf.I (by omega)]; exact v1.2.2.1
    · rw [gI_c (by omega), hf.I (by omega)]; exact v1.2.2.2.1
    · rw [gI_c (by omega), hf.I (by omega)]; exact v1.2.2.2.2
    · rw [gI_c (by omega)]; exact hq p hp
  · rintro i τ hi ⟨hf, hq⟩ ih
    have tk : ((81 * (K : Int)) + (i : Int)).toNat = 81 * K + i := by omega
    refine b_X10_comes_51 hn ⟨fun q => by omega, fun _ => ⟨by omega, ⟨by omega, by omega⟩, ?_⟩⟩
    rw [tk]
    have := ih (sI τ 80 (81 * K + i) 3) ⟨hf.sI (by omega), fun p hp => ?_⟩
    · simpa using this
    · by_cases e : p = i
      · subst e; exact gI_same _ _ _ _
      · rw [gI_f (by omega)]; exact hq p (by omega)
/-- what comes and moves write -/
def movW (K a i : Nat) : Prop := ((75 ≤ a ∧ a ≤ 78) ∧ i = K) ∨ (a = 79 ∧ 81 * K ≤ i ∧ i < 81 * K + 81) ∨ putW a i
theorem sm_moves (hn : 104 ≤ n) {g m k K : Nat} {x w c : Int} {T : ATr} (hg : g < 2) (hM : ∀ i, i < k → MRn σ g T i) (hW : TW m k T) (hm : gI σ 73 13 = (m : Int)) (hc : c = 1 ∨ c = 2) (hx : -1 ≤ x ∧ x < k) (hK : K < 500) (hKk : 250 * g + k ≤ K) (hpar : gI σ 74 K = mX g x) (hw : w = -1 ∨ (0 ≤ w ∧ w < (m * m : Nat))) :
    ZkV X M_X10_moves (d + 4) n [.ref (zB X + 73), iV (K : Int), iV w, iV c] σ (fun σ' => Fr (movW K) σ σ' ∧ gI σ' 75 K = (if w = -1 then 2 else 1) ∧ gI σ' 76 K = c ∧ gI σ' 77 K = w ∧ gI σ' 78 K = (if w = -1 then 0 else (cnt (Dies m (bB T x) w.toNat c) (m * m) : Nat)) ∧ ∀ q, q < 81 → gI σ' 79 (81 * K + q) = (if w = -1 then bB T x else putB m (bB T x) w.toNat c) q) := by
  have hk2 := hW.2.2.1
  have hN := sq_le hW.2.1
  have tK : ((K : Int)).toNat = K := by omega
  have hMk : ∀ τ : ZSto, Fr (movW K) σ τ → ∀ i, i < k → MRn τ g T i := fun τ hf i hi => (hM i hi).kept hf (fun a h1 h2 q => by unfold movW putW at q; omega) (fun a p h1 h2 q => by unfold movW putW at q; omega)
  refine w_X10_moves hn ⟨by omega, by omega⟩ ⟨by omega, by omega⟩ ⟨by omega, by omega⟩ ?_
  rw [tK, hpar]
  have start : ∀ y : Int, ∃ τ, τ = sI (sI (sI σ 75 K y) 76 K c) 77 K w ∧ Fr (movW K) σ τ ∧ gI τ 75 K = y ∧ gI τ 76 K = c ∧ gI τ 77 K = w := by
    intro y
    refine ⟨_, rfl, ?_, ?_, ?_, ?_⟩
    · refine ((Fr.rf.sI ?_).sI ?_).sI ?_ <;> (unfold movW; omega)
    · simp [gI_if]
    · simp [gI_if]
    · simp [gI_if]
  refine ⟨fun q => ⟨by omega, ?_⟩, fun q => ⟨by omega, ?_⟩⟩
  · obtain ⟨τ, e, hf, v1, v2, v3⟩ := start 1
    rw [← e]
    obtain ⟨p, rfl⟩ : ∃ p : Nat, w = (p : Int) := ⟨w.toNat, by omega⟩
    have hp : p < m * m := by omega
    have tp : ((p : Int)).toNat = p := by omega
    rw [tp]
    refine (sm_loadT hn hg (hMk τ hf) hW hx).mono ?_
    rintro σ1 ⟨f1, w1⟩
    refine ⟨fun z => absurd z q, fun _ => ?_⟩
    refine (sm_put hn hW.1 hW.2.1 (by rw [f1.I (by omega), hf.I (by unfold movW putW; omega)]; exact hm) hc hp (bB_con hW hx.2).1 (fun r hr => w1 r (by omega))).mono ?_
    rintro v σ2 - ⟨f2, s2, r2, t2, -⟩
    have w2 : WAll σ2 (putB m (bB T x) p c) := by
      intro r hr
      by_cases z : r < m * m
      · exact s2 r z
      · rw [r2 r (by omega) hr, w1 r hr, bB_pad hW hx.2 r (by omega), putB_pad (bB_pad hW hx.2) hp r (by omega)]
    have fin : ZkV X M_X10_keep (d + 3) n [.ref (zB X + 73), iV (K : Int)] (sI σ2 78 K (gI σ2 73 18)) (fun σ' => Fr (movW K) σ σ' ∧ gI σ' 75 K = (if (p : Int) = -1 then 2 else 1) ∧ gI σ' 76 K = c ∧ gI σ' 77 K = (p : Int) ∧ gI σ' 78 K = (if (p : Int) = -1 then 0 else (cnt (Dies m (bB T x) p c) (m * m) : Nat)) ∧ ∀ q, q < 81 → gI σ' 79 (81 * K + q) = (if (p : Int) = -1 then bB T x else putB m (bB T x) p c) q) := by
      refine (sm_keep hn hK).mono ?_
      rintro σ3 ⟨f3, w3⟩
      rw [if_neg q, if_neg q, if_neg q]
      have o : ∀ a, 75 ≤ a → a ≤ 77 → gI σ3 a K = gI τ a K := fun a h1 h2 => by rw [f3.I (by omega), gI_c (by omega), f2.I (by unfold putW; omega), f1.I (by omega)]
      refine ⟨(((hf.tr (f1.mono (fun a i z => by unfold movW putW; omega))).tr (f2.mono (fun a i z => Or.inr (Or.inr z)))).sI (by unfold movW; omega)).tr (f3.mono (fun a i z => Or.inr (Or.inl z))), by rw [o _ (by omega) (by omega)]; exact v1, by rw [o _ (by omega) (by omega)]; exact v2, by rw [o _ (by omega) (by omega)]; exact v3, by rw [f3.I (by omega), gI_same]; exact t2, fun r hr => ?_⟩
      rw [w3 r hr, gI_c (by omega)]
      exact w2 r hr
    exact ⟨fun _ => ⟨fun _ => fin, fun z => absurd z q⟩, fun _ => ⟨fun _ => fin, fun z => absurd z q⟩⟩
  · subst q
    obtain ⟨τ, e, hf, v1, v2, v3⟩ := start 2
    rw [← e]
    refine (sm_loadT hn hg (hMk τ hf) hW hx).mono ?_
    rintro σ1 ⟨f1, w1⟩
    refine ⟨fun _ => ⟨fun z => absurd rfl z, fun _ => (sm_keep hn hK).mono ?_⟩, fun z => absurd rfl z⟩
    rintro σ3 ⟨f3, w3⟩
    rw [if_pos rfl, if_pos rfl, if_pos rfl]
    have o : ∀ a, 75 ≤ a → a ≤ 77 → gI σ3 a K = gI τ a K := fun a h1 h2 => by rw [f3.I (by omega), gI_c (by omega), f1.I (by omega)]
    refine ⟨((hf.tr (f1.mono (fun a i z => by unfold movW putW; omega))).sI (by unfold movW; omega)).tr (f3.mono (fun a i z => Or.inr (Or.inl z))), by rw [o _ (by omega) (by omega)]; exact v1, by rw [o _ (by omega) (by omega)]; exact v2, by rw [o _ (by omega) (by omega)]; exact v3, by rw [f3.I (by omega), gI_same]; rfl, fun r hr => ?_⟩
    rw [w3 r hr, gI_c (by omega)]
    exact w1 r hr
theorem sm_clears (hn : 104 ≤ n) : ZkV X M_X10_clears (d + 1) n [.ref (zB X + 73)] σ (fun σ' => Fr (fun a i => a = 92) σ σ' ∧ ∀ p, p < 81 → gI σ' 92 p = 0) := by
  refine w_X10_clears hn ?_
  have := upto (N := 81) (Q := fun i τ => L_X10_clears_2 X d n (zpV (fun σ' => Fr (fun a i => a = 92) σ σ' ∧ ∀ p, p < 81 → gI σ' 92 p = 0)) (i : Int) τ) (I := fun i τ => Fr (fun a i => a = 92) σ τ ∧ ∀ p, p < i → gI τ 92 p = 0)
    (fun τ h => b_X10_clears_2 hn ⟨fun _ => h, fun q => by omega⟩) ?_ 0 σ (by omega) ⟨Fr.rf, fun p hp => by omega⟩
  · simpa using this
  · rintro i τ hi ⟨hf, hp⟩ ih
    have ti : ((i : Int)).toNat = i := by omega
    refine b_X10_clears_2 hn ⟨fun q => by omega, fun _ => ⟨by omega, ⟨by omega, by omega⟩, ?_⟩⟩
    rw [ti]
    have := ih (sI τ 92 i 0) ⟨hf.sI rfl, fun p hp2 => ?_⟩
    · simpa using this
    · by_cases e : p = i
      · subst e; exact gI_same _ _ _ _
      · rw [gI_f e]; exact hp p (by omega)
theorem sp_forgetDead (hn : 73 ≤ n) : ZkV X M_X6_forgetDead (d + 1) n [.ref (zB X + 67)] σ (fun σ' => Fr (fun a i => a = 68) σ σ' ∧ ∀ p, p < 81 → gI σ' 68 p = 0) := by
  refine w_X6_forgetDead hn ?_
  have := upto (N := 81) (Q := fun i τ => L_X6_forgetDead_2 X d n (zpV (fun σ' => Fr (fun a i => a = 68) σ σ' ∧ ∀ p, p < 81 → gI σ' 68 p = 0)) (i : Int) τ) (I := fun i τ => Fr (fun a i => a = 68) σ τ ∧ ∀ p, p < i → gI τ 68 p = 0)
    (fun τ h => b_X6_forgetDead_2 hn ⟨fun _ => h, fun q => by omega⟩) ?_ 0 σ (by omega) ⟨Fr.rf, fun p hp => by omega⟩
  · simpa using this
  · rintro i τ hi ⟨hf, hp⟩ ih
    have ti : ((i : Int)).toNat = i := by omega
    refine b_X6_forgetDead_2 hn ⟨fun q => by omega, fun _ => ⟨by omega, ⟨by omega, by omega⟩, ?_⟩⟩
    rw [ti]
    have := ih (sI τ 68 i 0) ⟨hf.sI rfl, fun p hp2 => ?_⟩
    · simpa using this
    · by_cases e : p = i
      · subst e; exact gI_same _ _ _ _
      · rw [gI_f e]; exact hp p (by omega)
/-- stones, head behind a flood -/
theorem sm_stones (hn : 104 ≤ n) {D : Nat → Prop} (hD : ∀ q, q < 81 → (gI σ 85 q = 1 ↔ D q)) (hb : ∀ q, q < 81 → gI σ 85 q = 0 ∨ gI σ 85 q = 1) : ZkI X M_X10_stones (d + 1) n [.ref (zB X + 73)] σ (fun v σ' => σ = σ' ∧ v = (cnt D 81 : Nat)) := by
  refine w_X10_stones hn ?_
  have := upto (N := 81) (Q := fun i τ => L_X10_stones_4 X d n (zpI (fun v σ' => σ = σ' ∧ v = (cnt D 81 : Nat))) (cnt D i : Nat) (i : Int) τ) (I := fun i τ => σ = τ)
    ?_ ?_ 0 σ (by omega) rfl
  · simpa [cnt] using this
  · rintro _ rfl
    exact b_X10_stones_4 hn ⟨fun _ => ⟨rfl, rfl⟩, fun q => by omega⟩
  · rintro i _ hi rfl ih
    have ti : ((i : Int)).toNat = i := by omega
    have hcl := cnt_le D i
    have := ih σ rfl
    refine b_X10_stones_4 hn ?_
    rw [ti]
    refine ⟨fun q => by omega, fun _ => ⟨by omega, fun q => ⟨⟨by omega, by omega⟩, ⟨by omega, by omega⟩, ?_⟩, fun q => ⟨⟨by omega, by omega⟩, ⟨by omega, by omega⟩, ?_⟩⟩⟩
    · rw [cnt_n (P := D) (n := i) (fun z => by have := (hD i hi).mpr z; omega)] at this
      simpa using this
    · rw [cnt_s (P := D) (n := i) ((hD i hi).mp (by have := hb i hi; omega))] at this
      simpa using this
theorem sm_head (hn : 104 ≤ n) {D : Nat → Prop} {s : Nat} (hD : ∀ q, q < 81 → (gI σ 85 q = 1 ↔ D q)) (hb : ∀ q, q < 81 → gI σ 85 q = 0 ∨ gI σ 85 q = 1) (hs : s < 81) (hsD : D s) : ZkI X M_X10_head (d + 1) n [.ref (zB X + 73)] σ (fun v σ' => σ = σ' ∧ ∃ x : Nat, v = (x : Int) ∧ D x ∧ x < 81 ∧ ∀ q, D q → x ≤ q) := by
  refine w_X10_head hn ?_
  have := upto (N := s) (Q := fun i τ => L_X10_head_2 X d n (zpI (fun v σ' => σ = σ' ∧ ∃ x : Nat, v = (x : Int) ∧ D x ∧ x < 81 ∧ ∀ q, D q → x ≤ q)) (i : Int) τ) (I := fun i τ => σ = τ ∧ ∀ q, q < i → ¬ D q)
    ?_ ?_ 0 σ (by omega) ⟨rfl, fun q hq => by omega⟩
  · simpa using this
  · rintro _ ⟨rfl, hq⟩
    have ts : ((s : Int)).toNat = s := by omega
    refine b_X10_head_2 hn ?_
    rw [ts]
    refine ⟨by omega, fun _ => ⟨rfl, s, rfl, hsD, hs, fun q hqD => ?_⟩, fun z => by have := (hD s hs).mpr hsD; omega⟩
    have : ¬ q < s := fun z => hq q z hqD
    omega
  · rintro i _ hi ⟨rfl, hq⟩ ih
    have ti : ((i : Int)).toNat = i := by omega
    have hbi := hb i (by omega)
    have hDi := hD i (by omega)
    refine b_X10_head_2 hn ?_
    rw [ti]
    refine ⟨by omega, fun z => ⟨rfl, i, rfl, hDi.mp (by omega), by omega, fun q hqD => ?_⟩, fun z => ⟨⟨by omega, by omega⟩, ?_⟩⟩
    · have : ¬ q < i := fun z => hq q z hqD
      omega
    · have := ih σ ⟨rfl, fun q hq2 hqD => ?_⟩
      · simpa using this
      · by_cases e : q = i
        · rw [e] at hqD; have := hDi.mpr hqD; omega
        · exact hq q (by omega) hqD
end ZM
