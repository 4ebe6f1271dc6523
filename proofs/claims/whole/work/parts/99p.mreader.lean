section ZC
variable {X : ZX} {d n : Nat} {B : Nat → Int} {L : Nat}
def rdX (t a : Nat) : Prop := (t ≤ a ∧ a ≤ t + 13) ∨ brdW 41 a ∨ (49 ≤ a ∧ a ≤ 51)
theorem PI_0 {T : ATr} : PI 0 [] (-1) 0 T 9 0 0 := by
  refine ⟨by omega, by omega, TW.zero T (by omega) (by omega), ?_, trivial, fun _ => Or.inl ⟨rfl, rfl⟩, fun _ => ⟨rfl, rfl⟩, fun z => by omega, fun z => by omega, fun z => by omega, by omega⟩
  show 4 * cnt _ (81 * 0) ≤ 0
  simp [cnt]
theorem sp_readText (hn : 73 ≤ n) {t : Nat} {ko : Int} {σ : ZSto} (T : ATr) (ht : zIsT t) (hT : TpC σ B L) (hko : R32 ko) (hB : BPre σ 41) (hg : gI σ 41 10 < 1999900000) :
    ZkI X M_X5_readText (d + 7) n [.ref (zB X + 49), .ref (zB X + t), iV ko] σ (fun v σ' => Fr (fun a _ => rdX t a) σ σ' ∧ BPre σ' 41 ∧ gI σ' 41 10 ≤ gI σ 41 10 + 25200 ∧ TxR σ' t v (mnF B L ko (L + 1) 0 0 [] (-1) 0 T 9 0)) := by
  have ht2 : t = 1 ∨ t = 15 := ht
  refine w_X5_readText hn ht hko (w_X5_startText hn ht hko ?_)
  have f0 : Fr (fun a j => a = 49 ∧ j = 4) σ (sP σ 49 4 (some t)) := Fr.rf.sP ⟨rfl, rfl⟩
  have e4 : gP (sP σ 49 4 (some t)) 49 4 = some t := gP_same _ _ _ _
  generalize sP σ 49 4 (some t) = σ1 at f0 e4
  refine (sp_clear hn (m := 9) (c := 0) T ht (by omega) (by omega)).mono ?_
  rintro σ2 ⟨f2, c2, -⟩
  have fs : Fr (fun a j => a = 49 ∧ 5 ≤ j ∧ j ≤ 11) σ2 (sI (sI (sI (sI (sI (sI (sI σ2 49 5 ko) 49 6 0) 49 7 0) 49 8 0) 49 9 (-1)) 49 10 0) 49 11 (-1)) := ((((((Fr.rf.sI (by omega)).sI (by omega)).sI (by omega)).sI (by omega)).sI (by omega)).sI (by omega)).sI (by omega)
  have s5 : gI (sI (sI (sI (sI (sI (sI (sI σ2 49 5 ko) 49 6 0) 49 7 0) 49 8 0) 49 9 (-1)) 49 10 0) 49 11 (-1)) 49 5 = ko := by rw [gI_f (by omega), gI_f (by omega), gI_f (by omega), gI_f (by omega), gI_f (by omega), gI_f (by omega), gI_same]
  have s6 : gI (sI (sI (sI (sI (sI (sI (sI σ2 49 5 ko) 49 6 0) 49 7 0) 49 8 0) 49 9 (-1)) 49 10 0) 49 11 (-1)) 49 6 = 0 := by rw [gI_f (by omega), gI_f (by omega), gI_f (by omega), gI_f (by omega), gI_f (by omega), gI_same]
  have s7 : gI (sI (sI (sI (sI (sI (sI (sI σ2 49 5 ko) 49 6 0) 49 7 0) 49 8 0) 49 9 (-1)) 49 10 0) 49 11 (-1)) 49 7 = 0 := by rw [gI_f (by omega), gI_f (by omega), gI_f (by omega), gI_f (by omega), gI_same]
  have s8 : gI (sI (sI (sI (sI (sI (sI (sI σ2 49 5 ko) 49 6 0) 49 7 0) 49 8 0) 49 9 (-1)) 49 10 0) 49 11 (-1)) 49 8 = 0 := by rw [gI_f (by omega), gI_f (by omega), gI_f (by omega), gI_same]
  have s9 : gI (sI (sI (sI (sI (sI (sI (sI σ2 49 5 ko) 49 6 0) 49 7 0) 49 8 0) 49 9 (-1)) 49 10 0) 49 11 (-1)) 49 9 = -1 := by rw [gI_f (by omega), gI_f (by omega), gI_same]
  have s10 : gI (sI (sI (sI (sI (sI (sI (sI σ2 49 5 ko) 49 6 0) 49 7 0) 49 8 0) 49 9 (-1)) 49 10 0) 49 11 (-1)) 49 10 = 0 := by rw [gI_f (by omega), gI_same]
  have s11 : gI (sI (sI (sI (sI (sI (sI (sI σ2 49 5 ko) 49 6 0) 49 7 0) 49 8 0) 49 9 (-1)) 49 10 0) 49 11 (-1)) 49 11 = -1 := gI_same _ _ _ _
  generalize sI (sI (sI (sI (sI (sI (sI σ2 49 5 ko) 49 6 0) 49 7 0) 49 8 0) 49 9 (-1)) 49 10 0) 49 11 (-1) = σ3 at fs s5 s6 s7 s8 s9 s10 s11
  have F3 : Fr (fun a j => (a = 49 ∧ 4 ≤ j) ∨ (a = t ∧ 13 ≤ j ∧ j ≤ 16)) σ σ3 := ((f0.mono (fun a j y => by omega)).tr (f2.mono (fun a j y => by omega))).tr (fs.mono (fun a j y => by omega))
  have g3 : gI σ3 41 10 = gI σ 41 10 := F3.I (by omega)
  have conv : ∀ v σ', TxP t σ3 (mnF B L ko (L + 1) 0 0 [] (-1) 0 T 9 0) v σ' → Fr (fun a _ => rdX t a) σ σ' ∧ BPre σ' 41 ∧ gI σ' 41 10 ≤ gI σ 41 10 + 25200 ∧ TxR σ' t v (mnF B L ko (L + 1) 0 0 [] (-1) 0 T 9 0) := by
    rintro v σ' ⟨h1, h2, h3, h4⟩
    exact ⟨(F3.mono (fun a j y => by unfold rdX; omega)).tr (h1.mono (fun a j y => by unfold rdW at y; unfold rdX; unfold brdW at *; omega)), h2, by omega, h4⟩
  have := tx_loop (X := X) (d := d) (σ0 := σ3) hn ht (hT.kept F3 (fun i => by omega) (by omega)) hko (by omega) (res := mnF B L ko (L + 1) 0 0 [] (-1) 0 T 9 0) conv (L + 1) 0 0 [] (-1) 0 T 9 0 0 σ3 (by omega) (by omega) (by omega) Fr.rf ⟨by rw [fs.P (by omega), f2.P (by omega)]; exact e4, s5, s6, s7, s8, s9, s10, s11, trivial, c2.kept fs (fun a i y => by unfold ctrD at y; omega), hB.kept2 F3 (fun a i y => by unfold brdX at y; omega)⟩ PI_0 (by omega) rfl
  simpa using this
end ZC
