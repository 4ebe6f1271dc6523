theorem mvF_mem {S : Nat → Prop} {p : Nat} : ∀ (w x : Nat), p ∈ mvF S (-1) w x → S p := by
  intro w
  induction w with
  | zero => intro x h; exact absurd h (by unfold mvF; simp)
  | succ w ih =>
    intro x h
    by_cases z : S x
    · rw [mvF_s z, List.mem_cons] at h
      rcases h with h | h
      · rw [h]; exact z
      · exact ih (x + 1) h
    · rw [mvF_n z] at h
      exact ih (x + 1) h
def LdV (res : Int × Nat) (v : Int) : Prop := (res.1 = -1 ∧ v = 0) ∨ (0 ≤ res.1 ∧ v = 1) ∨ (res.1 = -2 ∧ v = 2)
theorem LdV.uniq {res : Int × Nat} {v w : Int} (h1 : LdV res v) (h2 : LdV res w) : v = w := by
  unfold LdV at *; omega
def tkrV (res : Int × Nat) (t : Int) : Prop := (0 ≤ res.1 ∧ t = res.1) ∨ (res.1 < 0 ∧ t = -1)
section ZD
variable {X : ZX} {d n : Nat} {σ : ZSto}
theorem ro_end (hn : 73 ≤ n) {P : Int → ZSto → Prop} {x3 : Int} {r : Nat} (h : x3 ≠ 3) (hP : L_X3_readOut_61 X d n (zpI P) x3 σ) : L_X3_readOut_37 X d n (zpI P) x3 ((r : Int) + 1) σ :=
  b_X3_readOut_37 hn ⟨fun _ => hP, fun _ => ⟨fun _ => hP, fun q => absurd q h⟩⟩
theorem sp_readOut (hn : 73 ≤ n) {m tg : Nat} {bd : Nat → Int} {c : Int} (hc : c = 1 ∨ c = 2) (hB : BOk σ 33 m bd) (hB2 : BPre σ 41) (ht : bd tg = c) (htm : tg < m * m) (h10 : gI σ 41 10 < 1999900000) :
    ZkI X M_X3_readOut (d + 6) n [.ref (zB X + 61), .ref (zB X + 33), iV (tg : Int)] σ (fun v σ' => Fr (fun a i => brdW 41 a ∨ (61 ≤ a ∧ a ≤ 66)) σ σ' ∧ LdV (lev m tg c 601 true bd none 600) v ∧ gI σ' 61 9 = 600 - ((lev m tg c 601 true bd none 600).2 : Int) ∧ tkrV (lev m tg c 601 true bd none 600) (gI σ' 61 10) ∧ (∃ b, BOk σ' 41 m b) ∧ gI σ' 41 10 ≤ gI σ 41 10 + 55000) := by
  have hN := sq_le hB.1.2.1
  have hle := lev_le (m := m) (tg := tg) (c := c) 601 true bd none 600
  refine w_X3_readOut hn (Or.inl rfl) ⟨by omega, by omega⟩ ((sp_copyOf hn (Or.inr rfl) (Or.inl rfl) (by omega) hB2 hB).mono ?_)
  rintro σ1 ⟨f1, b1⟩
  have F1 : Fr (fun a i => brdW 41 a ∨ (61 ≤ a ∧ a ≤ 66)) σ σ1 := f1.mono (fun a i q => by unfold brdW; omega)
  have B33 := hB.kept (W := fun a i => brdW 41 a ∨ (61 ≤ a ∧ a ≤ 66)) (F1.sI (a := 61) (i := 6) (x := (tg : Int)) (by omega)) (fun a i q => by unfold brdW at *; omega)
  refine (sp_contentOf hn (Or.inl rfl) B33.1 B33.2.2.1 ⟨by omega, by omega⟩).mono ?_
  rintro v _ - ⟨rfl, hv⟩
  rw [if_pos (by omega), show ((tg : Int)).toNat = tg by omega, ht] at hv
  subst hv
  have fs : Fr (fun a i => a = 61 ∧ (i = 6 ∨ i = 7 ∨ i = 9)) σ1 (sI (sI (sI σ1 61 6 (tg : Int)) 61 7 v) 61 9 0) := ((Fr.rf.sI (by omega)).sI (by omega)).sI (by omega)
  have s6 : gI (sI (sI (sI σ1 61 6 (tg : Int)) 61 7 v) 61 9 0) 61 6 = (tg : Int) := by rw [gI_f (by omega), gI_f (by omega), gI_same]
  have s7 : gI (sI (sI (sI σ1 61 6 (tg : Int)) 61 7 v) 61 9 0) 61 7 = v := by rw [gI_f (by omega), gI_same]
  have s9 : gI (sI (sI (sI σ1 61 6 (tg : Int)) 61 7 v) 61 9 0) 61 9 = 0 := gI_same _ _ _ _
  generalize sI (sI (sI σ1 61 6 (tg : Int)) 61 7 v) 61 9 0 = σ2 at fs s6 s7 s9
  have b2 := b1.kept fs (fun a i q => by unfold brdW at q; omega)
  have k2 : gI σ2 41 10 = gI σ 41 10 := by rw [fs.I (by omega), f1.I (by omega)]
  have F2 : Fr (fun a i => brdW 41 a ∨ (61 ≤ a ∧ a ≤ 66)) σ σ2 := F1.tr (fs.mono (fun a i q => by omega))
  refine (sp_enterLevel hn (l := 0) (by omega) s6 s7 hc b2 ht htm (by omega)).mono ?_
  rintro σ3 ⟨f3, b3, h83, g3, w3, m3, l3, t3⟩
  have F3 : Fr (fun a i => brdW 41 a ∨ (61 ≤ a ∧ a ≤ 66)) σ σ3 := F2.tr (f3.mono (fun a i q => by unfold entW at q; unfold brdW at *; omega))
  have hu0 : huB 0 = true := rfl
  rw [hu0] at l3 m3
  have l3' : gI σ3 65 0 = -1 := l3
  have eM : ldL σ3 0 (m * m) = mvs m tg v true bd := by
    unfold ldL mvs
    rw [t3, l3]
    have z0 : ((-1 : Int) + 1).toNat = 0 := by omega
    rw [z0]
    exact mvF_congr _ _ (fun q _ hq => m3 q (by omega))
  have S3 : LdS σ3 m tg v 0 bd none 600 (gI σ 41 10 + 82) := ⟨by rw [f3.I (by unfold entW brdW; omega)]; exact s6, by rw [f3.I (by unfold entW brdW; omega)]; exact s7, h83, by rw [f3.I (by unfold entW brdW; omega), s9]; omega, ⟨_, b3⟩, by omega, w3, Or.inl ⟨rfl, rfl⟩, by rw [hu0]; exact m3, by rw [t3]; omega, by rw [l3']; omega⟩
  have := cl_run (X := X) (d := d) (P := fun v_1 σ' => Fr (fun a i => brdW 41 a ∨ (61 ≤ a ∧ a ≤ 66)) σ σ' ∧ LdV (lev m tg v 601 true bd none 600) v_1 ∧ gI σ' 61 9 = 600 - ((lev m tg v 601 true bd none 600).2 : Int) ∧ tkrV (lev m tg v 601 true bd none 600) (gI σ' 61 10) ∧ (∃ b, BOk σ' 41 m b) ∧ gI σ' 41 10 ≤ gI σ 41 10 + 55000) hn (B := 1200) hB.1.2.1 hc htm (by omega) 600 600 0 bd none σ3 0 (gI σ 41 10 + 82) (by omega) (by omega) hB.2.1 ht (by omega) S3 (by omega) ?_
  · simpa using this
  · rw [eM, hu0]
    have eR : goL (attA m tg v true bd none) (fun p f' => lev m tg v 600 (!true) (putB m bd p (mcl v true)) (some bd) f') (mvs m tg v true bd) 600 = lev m tg v 601 true bd none 600 := rfl
    rw [eR]
    generalize lev m tg v 601 true bd none 600 = res at hle
    intro σ4 r f4 s4 b4 g4 hr
    have F4 : Fr (fun a i => brdW 41 a ∨ (61 ≤ a ∧ a ≤ 66)) σ σ4 := F3.tr (f4.mono (fun a i q => by unfold runW at q; unfold brdW at *; omega))
    have fin : ∀ (t v_1 : Int), LdV res v_1 → tkrV res t → Fr (fun a i => brdW 41 a ∨ (61 ≤ a ∧ a ≤ 66)) σ (sI σ4 61 10 t) ∧ LdV res v_1 ∧ gI (sI σ4 61 10 t) 61 9 = 600 - (res.2 : Int) ∧ tkrV res (gI (sI σ4 61 10 t) 61 10) ∧ (∃ b, BOk (sI σ4 61 10 t) 41 m b) ∧ gI (sI σ4 61 10 t) 41 10 ≤ gI σ 41 10 + 55000 := by
      intro t v_1 h1 h2
      refine ⟨F4.sI (by omega), h1, by rw [gI_f (by omega)]; exact s4, by rw [gI_same]; exact h2, ?_, by rw [gI_c (by omega)]; omega⟩
      obtain ⟨b, hb⟩ := b4
      exact ⟨b, hb.kept (W := fun a i => a = 61) (Fr.rf.sI rfl) (fun a i q => by unfold brdW at q; omega)⟩
    refine ⟨fun z => ⟨fun _ => ro_end hn (by omega) (b_X3_readOut_61 hn ⟨fun _ => ⟨fun _ => fin (-1) 0 (Or.inl ⟨z, rfl⟩) (Or.inr ⟨by omega, rfl⟩), fun q => by omega⟩, fun q => by omega⟩), fun j hj => by omega⟩, fun z ht4 => ⟨fun _ => ro_end hn (by omega) (b_X3_readOut_61 hn ⟨fun q => absurd rfl q, fun _ => ⟨fun _ => fin (gI σ4 66 0) 1 (Or.inr (Or.inl ⟨z, rfl⟩)) (Or.inl ⟨z, ht4 l3'⟩), fun q => by omega⟩⟩), fun j hj => by omega⟩, fun z => ro_end hn (by omega) (b_X3_readOut_61 hn ⟨fun _ => ⟨fun _ => fin (-1) 2 (Or.inr (Or.inr ⟨z, rfl⟩)) (Or.inr ⟨by omega, rfl⟩), fun q => by omega⟩, fun q => by omega⟩)⟩
def mrdW (a i : Nat) : Prop := shwW a i ∨ mlW 0 a i ∨ (a = 73 ∧ (i = 41 ∨ i = 44))
theorem sm_ladder (hn : 104 ≤ n) {g m k pl tg D : Nat} {c : Int} {T : ATr} (hD : 1208 ≤ D) (hg : g < 2) (e10 : gI σ 73 10 = (g : Int)) (e11 : gI σ 73 11 = ((250 * g + pl : Nat) : Int)) (hM : MTr σ g m k c T) (hW : TW m k T) (hpk : pl < k) (htm : tg < m * m) (ht : tBrd T pl tg ≠ 0) (hl2 : cnt (Lib m (tBrd T pl) tg) (m * m) ≤ 2) :
    ZkI X M_X10_ladder (D + 1) n [.ref (zB X + 73), iV (tg : Int)] σ (fun v σ' => Fr mrdW σ σ' ∧ LdV (lev m tg (tBrd T pl tg) 601 true (tBrd T pl) none 600) v ∧ gI σ' 73 41 = 600 - ((lev m tg (tBrd T pl tg) 601 true (tBrd T pl) none 600).2 : Int) ∧ tkrV (lev m tg (tBrd T pl tg) 601 true (tBrd T pl) none 600) (gI σ' 73 42)) := by
  have hN := sq_le hW.2.1
  have hcon := hW.con hpk
  have hpad : Pad m (tBrd T pl) := (hW.2.2.2 pl hpk).2.2.2.2.2.2.2.2.2.2.2.2.2.2.2.2.1
  have hcs := hcon tg htm
  have hc12 : tBrd T pl tg = 1 ∨ tBrd T pl tg = 2 := by omega
  obtain ⟨e, rfl⟩ : ∃ e, D = e + 8 := ⟨D - 8, by omega⟩
  have hD' : 2 * 600 + 8 ≤ e + 8 := by omega
  have ttg : ((tg : Int)).toNat = tg := by omega
  refine w_X10_ladder hn ⟨by omega, by omega⟩ ((sm_isStone hn hg e10 e11 hM hW hpk ⟨by omega, by omega⟩).mono ?_)
  rintro v σ1 - ⟨f1, w1, m1, hvv⟩
  have hv1 : v = 1 := by
    rcases hvv with u | u
    · exact u.1
    · exact absurd ⟨by omega, by omega, by rw [ttg]; exact ht⟩ u.2
  subst hv1
  have f1m : Fr mrdW σ σ1 := f1.mono (fun a i q => Or.inl q)
  refine ⟨fun q => by omega, fun _ => (sm_flood hn hW.1 hW.2.1 m1 (fun q hq => w1 q (by omega)) htm ht ⟨by omega, by omega⟩).mono ?_⟩
  rintro v2 σ2 - ⟨hF, ev⟩
  refine ⟨fun _ => ⟨by omega, fun y25 ey => ?_⟩, fun q => by omega⟩
  rw [ttg, hF.1.I (show ¬ fldW 84 tg by unfold fldW; omega), w1 tg (by omega)] at ey
  subst ey
  have fs : Fr (fun a i => a = 73 ∧ (i = 39 ∨ i = 40 ∨ i = 42 ∨ i = 43 ∨ i = 44)) σ2 (sI (sI (sI (sI (sI σ2 73 44 (tg : Int)) 73 39 0) 73 40 0) 73 43 0) 73 42 (-1)) := ((((Fr.rf.sI (by omega)).sI (by omega)).sI (by omega)).sI (by omega)).sI (by omega)
  have s44 : gI (sI (sI (sI (sI (sI σ2 73 44 (tg : Int)) 73 39 0) 73 40 0) 73 43 0) 73 42 (-1)) 73 44 = (tg : Int) := by rw [gI_f (by omega), gI_f (by omega), gI_f (by omega), gI_f (by omega), gI_same]
  have s39 : gI (sI (sI (sI (sI (sI σ2 73 44 (tg : Int)) 73 39 0) 73 40 0) 73 43 0) 73 42 (-1)) 73 39 = 0 := by rw [gI_f (by omega), gI_f (by omega), gI_f (by omega), gI_same]
  have s40 : gI (sI (sI (sI (sI (sI σ2 73 44 (tg : Int)) 73 39 0) 73 40 0) 73 43 0) 73 42 (-1)) 73 40 = 0 := by rw [gI_f (by omega), gI_f (by omega), gI_same]
  have s43 : gI (sI (sI (sI (sI (sI σ2 73 44 (tg : Int)) 73 39 0) 73 40 0) 73 43 0) 73 42 (-1)) 73 43 = 0 := by rw [gI_f (by omega), gI_same]
  generalize sI (sI (sI (sI (sI σ2 73 44 (tg : Int)) 73 39 0) 73 40 0) 73 43 0) 73 42 (-1) = σ3 at fs s44 s39 s40 s43
  have m2 : gI σ3 73 13 = (m : Int) := by rw [fs.I (by omega), hF.1.I (by unfold fldW; omega)]; exact m1
  have w3 : WAll σ3 (tBrd T pl) := (w1.kept hF.1 (fun i => by unfold fldW; omega)).kept fs (fun i => by omega)
  have F3 : Fr mrdW σ σ3 := (f1m.tr (hF.1.mono (fun a i q => by unfold fldW at q; unfold mrdW mlW; omega))).tr (fs.mono (fun a i q => by unfold mrdW mlW; omega))
  refine (sm_freeBehind hn (D := Lib m (tBrd T pl) tg) hW.2.1 m2 (fun q hq => by rw [fs.I (by omega)]; exact hF.2.2.2 q hq) (fun q hq => by rw [fs.I (by omega)]; exact (hF.2.1 q hq).2) (x := -1) (by omega)).mono ?_
  rintro v4 _ - ⟨rfl, hv4⟩
  refine (sm_flood hn hW.1 hW.2.1 m2 (fun q hq => w3 q (by omega)) htm ht ⟨by omega, by omega⟩).mono ?_
  rintro v5 σ5 - ⟨hF5, ev5⟩
  have F5 : Fr mrdW σ σ5 := F3.tr (hF5.1.mono (fun a i q => by unfold fldW at q; unfold mrdW mlW; omega))
  have S5 : MLd σ5 m tg 0 (tBrd T pl) 600 := ⟨by rw [hF5.1.I (by unfold fldW; omega)]; exact s44, by rw [hF5.1.I (by unfold fldW; omega)]; exact m2, by rw [hF5.1.I (by unfold fldW; omega)]; exact s39, by rw [hF5.1.I (by unfold fldW; omega), s40]; omega, by rw [hF5.1.I (by unfold fldW; omega)]; exact s43, w3.kept hF5.1 (fun i => by unfold fldW; omega)⟩
  refine ((lad_all hn hW.1 hW.2.1 (c := tBrd T pl tg) hc12 htm 600).1 (e + 8) 600 0 (tBrd T pl) none σ5 hD' (Nat.le_refl _) (Nat.le_refl _) hcon hpad rfl S5 (Or.inl ⟨rfl, rfl⟩) hl2).mono ?_
  rintro v6 σ6 - ⟨⟨f6, -, s6, -, hv6⟩, h42⟩
  -- what the list holds
  have hmem : ∀ p : Nat, (lev m tg (tBrd T pl tg) 601 true (tBrd T pl) none 600).1 = (p : Int) → Lib m (tBrd T pl) tg p := by
    intro p hp
    have : lev m tg (tBrd T pl tg) 601 true (tBrd T pl) none 600 = goL (attA m tg (tBrd T pl tg) true (tBrd T pl) none) (fun p f' => lev m tg (tBrd T pl tg) 600 (!true) (putB m (tBrd T pl) p (mcl (tBrd T pl tg) true)) (some (tBrd T pl)) f') (mvs m tg (tBrd T pl tg) true (tBrd T pl)) 600 := rfl
    rw [this] at hp
    rcases goL_r (A := attA m tg (tBrd T pl tg) true (tBrd T pl) none) (F := fun p f' => lev m tg (tBrd T pl tg) 600 (!true) (putB m (tBrd T pl) p (mcl (tBrd T pl tg) true)) (some (tBrd T pl)) f') (mvs m tg (tBrd T pl tg) true (tBrd T pl)) 600 with u | u | ⟨q, u1, u2⟩
    · omega
    · omega
    · have : q = p := by omega
      subst this
      exact mvF_mem (S := mvS m tg (tBrd T pl tg) true (tBrd T pl)) _ _ u1
  generalize lev m tg (tBrd T pl tg) 601 true (tBrd T pl) none 600 = res at *
  have F6 : Fr mrdW σ σ6 := F5.tr (f6.mono (fun a i q => Or.inr (Or.inl q)))
  have fin : ∀ τ : ZSto, Fr (fun a i => a = 73 ∧ (i = 41 ∨ i = 42)) σ6 τ → gI τ 73 41 = 600 - (res.2 : Int) → (0 ≤ res.1 → gI τ 73 42 = res.1) → L_X10_ladder_90 X (e + 8) n (zpI (fun v σ' => Fr mrdW σ σ' ∧ LdV res v ∧ gI σ' 73 41 = 600 - (res.2 : Int) ∧ tkrV res (gI σ' 73 42))) v6 τ := by
    intro τ ft h41 h42'
    have Ft : Fr mrdW σ τ := F6.tr (ft.mono (fun a i q => by unfold mrdW mlW; omega))
    have u43 : gI τ 73 43 = gI σ6 73 43 := ft.I (by omega)
    refine b_X10_ladder_90 hn ?_
    rw [u43]
    have none : ∀ v, LdV res v → res.1 < 0 → Fr mrdW σ (sI τ 73 42 (-1)) ∧ LdV res v ∧ gI (sI τ 73 42 (-1)) 73 41 = 600 - (res.2 : Int) ∧ tkrV res (gI (sI τ 73 42 (-1)) 73 42) := fun v h1 h2 => ⟨Ft.sI (by unfold mrdW mlW; omega), h1, by rw [gI_f (by omega)]; exact h41, by rw [gI_same]; exact Or.inr ⟨h2, rfl⟩⟩
    rcases hv6 with ⟨r1, r2, r3⟩ | ⟨r1, r2, r3⟩ | ⟨r1, r2, r3⟩
    · rw [r3]
      exact ⟨fun q => absurd rfl q, fun _ => ⟨fun q => absurd r2 q, fun _ => ⟨fun _ => ⟨fun _ => none 0 (Or.inl ⟨r1, rfl⟩) (by omega), fun q => absurd r2 q⟩, fun q => absurd rfl q⟩⟩⟩
    · rw [r3]
      exact ⟨fun q => absurd rfl q, fun _ => ⟨fun _ => ⟨fun _ => ⟨fun q => by omega, fun _ => ⟨Ft, Or.inr (Or.inl ⟨r1, rfl⟩), h41, Or.inl ⟨r1, h42' r1⟩⟩⟩, fun q => absurd rfl q⟩, fun q => by omega⟩⟩
    · rw [r3]
      exact ⟨fun _ => ⟨fun q => by omega, fun _ => none 2 (Or.inr (Or.inr ⟨r1, rfl⟩)) (by omega)⟩, fun q => by omega⟩
  rw [s6]
  refine ⟨fun z => fin _ (Fr.rf.sI (by omega)) (gI_same _ _ _ _) (fun y => ?_), fun z => fin _ ((Fr.rf.sI (by omega)).sI (by omega)) (by rw [gI_f (by omega), gI_same]) (fun y => ?_)⟩
  · rw [gI_f (by omega)]
    obtain ⟨p, ep⟩ : ∃ p : Nat, res.1 = (p : Int) := ⟨res.1.toNat, by omega⟩
    have hL := hmem p ep
    have hp : p < m * m := by obtain ⟨_, a, _, a2⟩ := id hL; exact a2.2.1
    have := cnt_pos (P := Lib m (tBrd T pl) tg) hp hL
    exact h42 (by omega) rfl y
  · rw [gI_same]
    obtain ⟨p, ep⟩ : ∃ p : Nat, res.1 = (p : Int) := ⟨res.1.toNat, by omega⟩
    have hL := hmem p ep
    have hp : p < m * m := by obtain ⟨_, a, _, a2⟩ := id hL; exact a2.2.1
    rcases hv4 with ⟨u1, u2⟩ | ⟨q, u1, _, u2, u3, _⟩
    · exact absurd hL (u2 p (by omega) hp)
    · have := cnt_1 (show cnt (Lib m (tBrd T pl) tg) (m * m) = 1 by omega) hp hL q u2 u3
      rw [u1, ep, this]
theorem op_ladder {G : Int} {D : Nat} (hn : 104 ≤ n) (h : Rel σ G) (hG : G ≤ 1900000000) {x : Int} (hx : R32 x) (hD : 1208 ≤ D) : ZkI X M_X9_ladder (d + 7) n [.ref (zB X + 0), iV x] σ (fun v σ1 => ZkI X M_X10_ladder (D + 1) n [.ref (zB X + 73), iV x] σ1 (fun w σ2 => v = w ∧ Rel σ2 (G + 60000))) := by
  have hR := h
  have hn' : 73 ≤ n := by omega
  obtain ⟨h1, h2, h3, t, g, m, k, pl, c, T, hGm, hB, hB2, g1, g2⟩ := h
  have hGm' := hGm
  obtain ⟨ht, hg, p0, p1, e10, e11, e16, hpk, hW, hTS, hc, hC, hM⟩ := hGm
  have hN := sq_le hW.2.1
  obtain ⟨e, rfl⟩ : ∃ e, D = e + 8 := ⟨D - 8, by omega⟩
  refine w_X9_ladder hn' hx ((sp_hasStone hn' (Or.inl rfl) hB.1 hB.2.1 hB.2.2.1 hx).mono ?_)
  rintro v _ - ⟨rfl, ⟨rfl, hv⟩ | ⟨rfl, hv⟩⟩
  · refine ⟨fun _ => ?_, fun q => by omega⟩
    obtain ⟨xn, rfl⟩ : ∃ xn : Nat, x = (xn : Int) := ⟨x.toNat, by omega⟩
    have txn : ((xn : Int)).toNat = xn := by omega
    rw [txn] at hv
    have hlt : xn < m * m := by omega
    have hcs := hW.con hpk xn hlt
    refine (sp_gatherChain hn' (Or.inl rfl) hB hlt hv.2.2 (by omega)).mono ?_
    intro σ1 hG1
    have k33 := hG1.2.1
    have b1 := hG1.ok hB
    refine (sp_liberties hn' (Or.inl rfl)).mono ?_
    rintro v1 _ - ⟨rfl, e1⟩
    rw [hG1.libs hv.2.2] at e1
    have e10' : gI σ1 73 10 = (g : Int) := by rw [hG1.1.I (by unfold gatW; omega)]; exact e10
    have e11' : gI σ1 73 11 = ((250 * g + pl : Nat) : Int) := by rw [hG1.1.I (by unfold gatW; omega)]; exact e11
    have hM' := hM.kept hW.2.2.1 hG1.1 (fun a i q => by unfold mtrD at q; unfold gatW; omega)
    refine ⟨fun q => ?_, fun q => ?_⟩
    · have hb2 : BPre σ1 41 := hB2.kept2 hG1.1 (fun a i q => by unfold brdX at q; unfold gatW; omega)
      refine (sp_readOut hn' (c := tBrd T pl xn) (by omega) b1 hb2 rfl hlt (by rw [hG1.1.I (by unfold gatW; omega)]; omega)).mono ?_
      rintro v2 σ2 - ⟨f2, V2, s2, t2, b2, g3⟩
      refine (sm_ladder hn hD hg (by rw [f2.I (by unfold brdW; omega)]; exact e10') (by rw [f2.I (by unfold brdW; omega)]; exact e11') (hM'.kept hW.2.2.1 f2 (fun a i q => by unfold mtrD at q; unfold brdW; omega)) hW hpk hlt hv.2.2 (by omega)).mono ?_
      rintro v3 σ3 - ⟨f3, V3, s3, t3⟩
      have hle := lev_le (m := m) (tg := xn) (c := tBrd T pl xn) 601 true (tBrd T pl) none 600
      generalize lev m xn (tBrd T pl xn) 601 true (tBrd T pl) none 600 = res at V2 s2 t2 V3 s3 t3 hle
      have F3 : Fr (fun a i => gatW 33 a i ∨ brdW 41 a ∨ (61 ≤ a ∧ a ≤ 66) ∨ mrdW a i) σ σ3 := ((hG1.1.mono (fun a i q => Or.inl q)).tr (f2.mono (fun a i q => by
        rcases q with q | q
        · exact Or.inr (Or.inl q)
        · exact Or.inr (Or.inr (Or.inl q))))).tr (f3.mono (fun a i q => Or.inr (Or.inr (Or.inr q))))
      refine ⟨V2.uniq V3, h1.kept F3 (fun a i q => by unfold clkD tapeD outD plcD koD at q; unfold gatW brdW mrdW shwW mlW; omega), ?_, h3.kept F3 (fun a i q => by unfold gatW brdW mrdW shwW mlW; omega), t, g, m, k, pl, c, T, hGm'.kept F3 (fun a i q => ?_), ?_, ?_, ?_, ?_⟩
      · refine Or.inr ?_
        have o9 : gI σ3 61 9 = gI σ2 61 9 := f3.I (by unfold mrdW shwW mlW; omega)
        have o10 : gI σ3 61 10 = gI σ2 61 10 := f3.I (by unfold mrdW shwW mlW; omega)
        unfold tkrV at t2 t3
        rw [o9, o10]
        refine ⟨by omega, by omega, by omega⟩
      · unfold zIsT at ht
        unfold gmD ctrD mtrD at q
        unfold gatW brdW mrdW shwW mlW
        omega
      · exact (b1.kept f2 (fun a i q => by unfold brdW at *; omega)).kept f3 (fun a i q => by unfold brdW at q; unfold mrdW shwW mlW; omega)
      · obtain ⟨b, hb⟩ := b2
        exact (hb.kept f3 (fun a i q => by unfold brdW at q; unfold mrdW shwW mlW; omega)).pre
      · rw [f3.I (by unfold mrdW shwW mlW; omega), f2.I (by unfold brdW; omega)]; omega
      · have o41 : gI σ1 41 10 = gI σ 41 10 := hG1.1.I (by unfold gatW; omega)
        rw [f3.I (by unfold mrdW shwW mlW; omega)]; omega
    · refine w_X10_ladder hn hx ((sm_isStone hn hg e10' e11' hM' hW hpk hx).mono ?_)
      rintro w σ3 - ⟨f3, w3, m3, ⟨rfl, hw⟩ | ⟨rfl, hw⟩⟩
      · refine ⟨fun q => by omega, fun _ => (sm_flood hn hW.1 hW.2.1 m3 (fun p hp => w3 p (by omega)) hlt hv.2.2 ⟨by omega, by omega⟩).mono ?_⟩
        rintro v4 σ4 - ⟨hF, e4⟩
        refine ⟨fun q2 => by omega, fun _ => ⟨rfl, hR.ask hG1.1 (fun m bd hb => hb.gat hG1.1 (hG1.mk hb.2.2.2)) (by rw [hG1.2.1]; omega) ((f3.mono (fun a i q => Or.inl q)).tr (hF.1.mono (fun a i q => Or.inr q)))⟩⟩
      · exact absurd ⟨hv.1, hv.2.1, by rw [txn]; exact hv.2.2⟩ hw
  · refine ⟨fun q => by omega, fun _ => w_X10_ladder hn hx ((sm_isStone hn hg e10 e11 hM hW hpk hx).mono ?_)⟩
    rintro w σ3 - ⟨f3, w3, m3, ⟨rfl, hw⟩ | ⟨rfl, hw⟩⟩
    · exact absurd hw hv
    · exact ⟨fun _ => ⟨rfl, hR.shw (f3.mono (fun a i q => Or.inl q))⟩, fun q => by omega⟩
end ZD
