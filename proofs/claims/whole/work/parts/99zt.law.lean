/-! ===== the law's loop ===== -/
section ZLl
variable {X : ZX} {nm : String} {b L : Nat} {s : Nat → Int}
theorem law_loop {q : Nat → Nat} (hTx : ZTx X q) (hS : Scr X b L s) (hr : ∀ j, R32 (s j)) : ∀ (w j : Nat) (σ : ZSto), L ≤ 6 * j + w → 6 * j ≤ L → ZOk 104 σ → Rel σ (60000 * (j : Int)) → Zm X (M_law nm) room_1 lw_Z 0 104 18 [some (.ref b), some (.ref (zB X + 0)), some (.ref (zB X + 73)), some (iV ((6 * j : Nat) : Int))] [] σ := by
  have hL := hS.2
  have hn : 104 ≤ 104 := Nat.le_refl 104
  intro w
  induction w with
  | zero =>
    intro j σ h1 h2 hok hR
    refine r_iload_n dL_law_18 rfl ?_
    refine r_aload_n dL_law_19 rfl ?_
    refine r_slen hS dL_law_20 ?_
    refine r_bipush dL_law_21 rfl ?_
    refine r_isub dL_law_23 ?_
    refine r_icmp_gt (t := 929) dL_law_24 rfl ⟨by omega, by omega⟩ ⟨by omega, by omega⟩ (fun _ => ?_) (fun c => absurd (show (L : Int) - 6 < ((6 * j : Nat) : Int) by omega) c)
    refine r_iconst dL_law_929 ?_
    exact r_lawend
  | succ w ih =>
    intro j σ h1 h2 hok hR
    refine r_iload_n dL_law_18 rfl ?_
    refine r_aload_n dL_law_19 rfl ?_
    refine r_slen hS dL_law_20 ?_
    refine r_bipush dL_law_21 rfl ?_
    refine r_isub dL_law_23 ?_
    refine r_icmp_gt (t := 929) dL_law_24 rfl ⟨by omega, by omega⟩ ⟨by omega, by omega⟩ (fun _ => ?_) (fun c => ?_)
    · refine r_iconst dL_law_929 ?_
      exact r_lawend
    have hi : 6 * j + 6 ≤ L := by omega
    have hG : 60000 * (j : Int) ≤ 1900000000 - 100000 := by omega
    have hG2 : 60000 * (j : Int) ≤ 1900000000 := by omega
    have nx : ∀ σ', ZOk 104 σ' → Rel σ' (60000 * (j : Int) + 60000) → Zm X (M_law nm) room_1 lw_Z 0 104 923 [some (.ref b), some (.ref (zB X + 0)), some (.ref (zB X + 73)), some (iV ((6 * j : Nat) : Int))] [] σ' := by
      intro σ' k' R'
      refine r_iinc dL_law_923 rfl rfl rfl ?_
      refine r_goto (t := 18) dL_law_926 rfl ?_
      have e1 : ((6 * j : Nat) : Int) + 6 = ((6 * (j + 1) : Nat) : Int) := by omega
      have e2 : 60000 * (j : Int) + 60000 = 60000 * ((j + 1 : Nat) : Int) := by omega
      rw [e2] at R'
      rw [e1]
      exact ih (j + 1) σ' (by omega) (by omega) k' R'
    refine r_aload_n dL_law_27 rfl ?_
    refine r_iload_n dL_law_28 rfl ?_
    refine r_sc0 hS dL_law_29 (by omega) ?_
    refine r_bipush dL_law_30 rfl ?_
    refine r_iand dL_law_32 ?_
    have rx := r32_and (s (6 * j)) 31
    by_cases c0 : andI (s (6 * j)) 31 = 0
    · refine r_tabIn (t := 156) dL_law_33 rx (by rw [c0]; decide) (by rw [c0]; decide) (by rw [c0]; rfl) rfl ?_
      exact lawc_0 hS hi hok (by decide) (by decide) (op_begin (d := 0) hn hR (hr _) (hr _)) nx
    by_cases c1 : andI (s (6 * j)) 31 = 1
    · refine r_tabIn (t := 189) dL_law_33 rx (by rw [c1]; decide) (by rw [c1]; decide) (by rw [c1]; rfl) rfl ?_
      exact lawc_1 hS hi hok (by decide) (by decide) (op_ko' (d := 0) hn hR (hr _)) nx
    by_cases c2 : andI (s (6 * j)) 31 = 2
    · refine r_tabIn (t := 212) dL_law_33 rx (by rw [c2]; decide) (by rw [c2]; decide) (by rw [c2]; rfl) rfl ?_
      exact lawc_2 hS hi hok (by decide) (by decide) (op_feed' (d := 0) hn hR (hr _) (hr _) (hr _) (hr _) (hr _)) nx
    by_cases c3 : andI (s (6 * j)) 31 = 3
    · refine r_tabIn (t := 275) dL_law_33 rx (by rw [c3]; decide) (by rw [c3]; decide) (by rw [c3]; rfl) rfl ?_
      exact lawc_3 hS hi hok (by decide) (by decide) (op_end' (d := 0) hn hR (hr _)) nx
    by_cases c4 : andI (s (6 * j)) 31 = 4
    · refine r_tabIn (t := 298) dL_law_33 rx (by rw [c4]; decide) (by rw [c4]; decide) (by rw [c4]; rfl) rfl ?_
      exact lawc_4 hS hi hok (by decide) (by decide) (op_read (d := 0) hn hR hG) nx
    by_cases c5 : andI (s (6 * j)) 31 = 5
    · refine r_tabIn (t := 311) dL_law_33 rx (by rw [c5]; decide) (by rw [c5]; decide) (by rw [c5]; rfl) rfl ?_
      exact lawc_5 hS hi hok (by decide) (by decide) (op_place' (d := 0) hn hR) nx
    by_cases c6 : andI (s (6 * j)) 31 = 6
    · refine r_tabIn (t := 324) dL_law_33 rx (by rw [c6]; decide) (by rw [c6]; decide) (by rw [c6]; rfl) rfl ?_
      exact lawc_6 hS hi hok (by decide) (by decide) (op_write (d := 0) hn hTx hR) nx
    by_cases c7 : andI (s (6 * j)) 31 = 7
    · refine r_tabIn (t := 337) dL_law_33 rx (by rw [c7]; decide) (by rw [c7]; decide) (by rw [c7]; rfl) rfl ?_
      exact lawc_7 hS hi hok (by decide) (by decide) (op_octet' (d := 0) hn hR (hr _)) nx
    by_cases c8 : andI (s (6 * j)) 31 = 8
    · refine r_tabIn (t := 360) dL_law_33 rx (by rw [c8]; decide) (by rw [c8]; decide) (by rw [c8]; rfl) rfl ?_
      exact lawc_8 hS hi hok (by decide) (by decide) (op_let (d := 0) hn hR hG2 (hr _)) nx
    by_cases c9 : andI (s (6 * j)) 31 = 9
    · refine r_tabIn (t := 383) dL_law_33 rx (by rw [c9]; decide) (by rw [c9]; decide) (by rw [c9]; rfl) rfl ?_
      exact lawc_9 hS hi hok (by decide) (by decide) (op_play (d := 0) hn hR hG2 (hr _)) nx
    by_cases c10 : andI (s (6 * j)) 31 = 10
    · refine r_tabIn (t := 406) dL_law_33 rx (by rw [c10]; decide) (by rw [c10]; decide) (by rw [c10]; rfl) rfl ?_
      exact lawc_10 hS hi hok (by decide) (by decide) (op_back (d := 0) hn hR (hr _)) nx
    by_cases c11 : andI (s (6 * j)) 31 = 11
    · refine r_tabIn (t := 429) dL_law_33 rx (by rw [c11]; decide) (by rw [c11]; decide) (by rw [c11]; rfl) rfl ?_
      exact lawc_11 hS hi hok (by decide) (by decide) (op_on (d := 0) hn hR (hr _)) nx
    by_cases c12 : andI (s (6 * j)) 31 = 12
    · refine r_tabIn (t := 452) dL_law_33 rx (by rw [c12]; decide) (by rw [c12]; decide) (by rw [c12]; rfl) rfl ?_
      exact lawc_12 hS hi hok (by decide) (by decide) (op_to (d := 0) hn hR (hr _)) nx
    by_cases c13 : andI (s (6 * j)) 31 = 13
    · refine r_tabIn (t := 475) dL_law_33 rx (by rw [c13]; decide) (by rw [c13]; decide) (by rw [c13]; rfl) rfl ?_
      exact lawc_13 hS hi hok (by decide) (by decide) (op_node (d := 0) hn hR (hr _) (hr _)) nx
    by_cases c14 : andI (s (6 * j)) 31 = 14
    · refine r_tabIn (t := 508) dL_law_33 rx (by rw [c14]; decide) (by rw [c14]; decide) (by rw [c14]; rfl) rfl ?_
      exact lawc_14 hS hi hok (by decide) (by decide) (op_at (d := 0) hn hR (hr _)) nx
    by_cases c15 : andI (s (6 * j)) 31 = 15
    · refine r_tabIn (t := 531) dL_law_33 rx (by rw [c15]; decide) (by rw [c15]; decide) (by rw [c15]; rfl) rfl ?_
      exact lawc_15 hS hi hok (by decide) (by decide) (op_chain (d := 0) hn hR hG2 (hr _) (hr _)) nx
    by_cases c16 : andI (s (6 * j)) 31 = 16
    · refine r_tabIn (t := 564) dL_law_33 rx (by rw [c16]; decide) (by rw [c16]; decide) (by rw [c16]; rfl) rfl ?_
      exact lawc_16 hS hi hok (by decide) (by decide) (op_liberty (d := 0) hn hR hG2 (hr _) (hr _)) nx
    by_cases c17 : andI (s (6 * j)) 31 = 17
    · refine r_tabIn (t := 597) dL_law_33 rx (by rw [c17]; decide) (by rw [c17]; decide) (by rw [c17]; rfl) rfl ?_
      exact lawc_17 hS hi hok (by decide) (by decide) (op_region (d := 0) hn hR hG2 (hr _) (hr _) (hr _)) nx
    by_cases c18 : andI (s (6 * j)) 31 = 18
    · refine r_tabIn (t := 640) dL_law_33 rx (by rw [c18]; decide) (by rw [c18]; decide) (by rw [c18]; rfl) rfl ?_
      exact lawc_18 hS hi hok (by decide) (by decide) (op_ladder (d := 0) (D := 1208) hn hR hG2 (hr _) (Nat.le_refl 1208)) nx
    by_cases c19 : andI (s (6 * j)) 31 = 19
    · refine r_tabIn (t := 663) dL_law_33 rx (by rw [c19]; decide) (by rw [c19]; decide) (by rw [c19]; rfl) rfl ?_
      exact lawc_19 hS hi hok (by decide) (by decide) (op_steps' (d := 0) hn hR (hr _)) nx
    by_cases c20 : andI (s (6 * j)) 31 = 20
    · refine r_tabIn (t := 686) dL_law_33 rx (by rw [c20]; decide) (by rw [c20]; decide) (by rw [c20]; rfl) rfl ?_
      by_cases hz : s (6 * j + 2) = 0
      · exact lawc_20z hr hz hS hi hok (by decide) (by decide) (op_dead (d := 0) hn hR hG2 (hr _) (Or.inl rfl)) nx
      · exact lawc_20y hr hz hS hi hok (by decide) (by decide) (op_dead (d := 0) hn hR hG2 (hr _) (Or.inr rfl)) nx
    by_cases c21 : andI (s (6 * j)) 31 = 21
    · refine r_tabIn (t := 735) dL_law_33 rx (by rw [c21]; decide) (by rw [c21]; decide) (by rw [c21]; rfl) rfl ?_
      exact lawc_21 hS hi hok (by decide) (by decide) (op_score (d := 0) hn hR hG2 (hr _) (hr _)) nx
    by_cases c22 : andI (s (6 * j)) 31 = 22
    · refine r_tabIn (t := 768) dL_law_33 rx (by rw [c22]; decide) (by rw [c22]; decide) (by rw [c22]; rfl) rfl ?_
      exact lawc_22 hS hi hok (by decide) (by decide) (op_ahead (d := 0) hn hR hG2 (hr _)) nx
    by_cases c23 : andI (s (6 * j)) 31 = 23
    · refine r_tabIn (t := 791) dL_law_33 rx (by rw [c23]; decide) (by rw [c23]; decide) (by rw [c23]; rfl) rfl ?_
      exact lawc_23 hS hi hok (by decide) (by decide) (op_clocks' (d := 0) hn hR (hr _) (hr _) (hr _)) nx
    by_cases c24 : andI (s (6 * j)) 31 = 24
    · refine r_tabIn (t := 834) dL_law_33 rx (by rw [c24]; decide) (by rw [c24]; decide) (by rw [c24]; rfl) rfl ?_
      exact lawc_24 hS hi hok (by decide) (by decide) (op_clock' (d := 0) hn hR (hr _) (hr _)) nx
    by_cases c25 : andI (s (6 * j)) 31 = 25
    · refine r_tabIn (t := 867) dL_law_33 rx (by rw [c25]; decide) (by rw [c25]; decide) (by rw [c25]; rfl) rfl ?_
      exact lawc_25 hS hi hok (by decide) (by decide) (op_time' (d := 0) hn hR (hr _) (hr _)) nx
    by_cases c26 : andI (s (6 * j)) 31 = 26
    · refine r_tabIn (t := 900) dL_law_33 rx (by rw [c26]; decide) (by rw [c26]; decide) (by rw [c26]; rfl) rfl ?_
      exact lawc_26 hS hi hok (by decide) (by decide) (op_count (d := 0) hn hR hG2 (hr _)) nx
    refine r_tabOut (t := 923) dL_law_33 rx (by omega) rfl ?_
    exact nx σ hok (hR.mono (by omega))
theorem law_walk {q : Nat → Nat} (hTx : ZTx X q) (hS : Scr X b L s) (hr : ∀ j, R32 (s j)) : Zm X (M_law nm) room_1 lw_Z 0 0 0 [some (.ref b), none, none, none] [] zS0 := by
  refine r_newO (d := 1209) (q := (RX9, TX9, 14)) dL_law_0 rfl knl_7 kin_9 kii_9 sh_0 (zS0_b 0) (zR (Nat.le_refl 1209) (by decide)) ?_
  refine r_dup dL_law_3 rfl ?_
  refine r_callI (d := 1209) (N := M_X9_init) (As := []) (st := [.ref (zB X + 0)]) dL_law_4 mk_X9_init km_law_9 kd_X9_init rfl (zR (n' := 73) (Nat.le_refl 1209) (by decide)) (by decide) (Nat.le_of_ble_eq_true rfl) rfl ((ini1 (d := 1204)).mono ?_)
  rintro _ σ1 ⟨rfl, k1, h1⟩
  change Zm _ _ _ _ _ _ 7 _ [.ref (zB X + 0)] _
  refine r_astore_n dL_law_7 rfl rfl ?_
  refine r_newO (d := 1209) (q := (RX10, TX10, 52)) dL_law_8 rfl knl_10 kin_10 kii_10 sh_73 h1.blk (zR (Nat.le_refl 1209) (by decide)) ?_
  refine r_dup dL_law_11 rfl ?_
  refine r_callI (d := 1209) (N := M_X10_init) (As := []) (st := [.ref (zB X + 73)]) dL_law_12 mk_X10_init km_law_12 kd_X10_init rfl (zR (n' := 104) (Nat.le_refl 1209) (by decide)) (by decide) (Nat.le_of_ble_eq_true rfl) rfl ((ini2 (d := 1205) k1 h1).mono ?_)
  rintro _ σ2 ⟨rfl, k2, h2⟩
  change Zm _ _ _ _ _ _ 15 _ [.ref (zB X + 73)] _
  refine r_astore_n dL_law_15 rfl rfl ?_
  refine r_iconst dL_law_16 ?_
  refine r_istore_n dL_law_17 rfl rfl ?_
  exact law_loop hTx hS hr L 0 σ2 (by omega) (by omega) k2 (by rw [show 60000 * ((0 : Nat) : Int) = 0 from rfl]; exact h2)
end ZLl
