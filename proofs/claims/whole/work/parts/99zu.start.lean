/-! ===== the start of the law ===== -/
theorem zinst : ∀ (ci : Nat) (q : vw_C), zCl[ci]? = some q → Cond.instantiable q.1 q.2.2 ∈ lw_tbl := by
  intro ci q h
  match ci, h with
  | 0, h => cases h; exact kin_0
  | 1, h => cases h; exact kin_1
  | 2, h => cases h; exact kin_2
  | 3, h => cases h; exact kin_3
  | 4, h => cases h; exact kin_4
  | 5, h => cases h; exact kin_5
  | 6, h => cases h; exact kin_6
  | 7, h => cases h; exact kin_7
  | 8, h => cases h; exact kin_8
  | 9, h => cases h; exact kin_9
  | 10, h => cases h; exact kin_10
  | ci + 11, h => simp [zCl] at h
theorem va_T.congr {ty : FieldType} {t N : Nat} {f g : Nat → Value} {A : Nat → Prop} {U : State} {H : Heap} (h : va_T ty t N f A U H) (e : ∀ j, j < N → f j = g j) : va_T ty t N g A U H := by
  obtain ⟨cell, h1, h2, h3, h4, h5, h6, h7⟩ := h
  exact ⟨cell, h1, h2, h3, h4, h5, fun j hj => by rw [h6 j hj, e j hj], h7⟩
theorem zarr {args : Array Value} {s : State} {ty : FieldType} (ht : ty = .int ∨ ty = .byte ∨ ty = .boolean ∨ ty = .long) (h : (Cond.arrayClass ty).before args s = true) : ∃ c : ClassId, ArrOfT s c ty ∧ va_RA s c ty := by
  obtain ⟨c, k, comp, h1, h2, h3⟩ := Cond.arrayClass_spec h
  refine ⟨c, fun n z => ⟨fun k h => (by cases h), k, h2, comp, h3⟩, ?_⟩
  rcases ht with e | e | e | e <;> subst e <;> exact h1
theorem zstr_of {args : Array Value} {X : ZX} {idx : Nat} {tx : String} {b0 b1 : Int} {c0 c1 : Int32} (e0 : Int32.ofInt b0 = c0) (e1 : Int32.ofInt b1 = c1)
    (h1 : (Cond.exactly (.string RX8 idx) "java/lang/String").before args X.2.1 = true) (h2 : (Cond.eq (.field (.string RX8 idx) "java/lang/String" "coder" "B") (.int 0)).before args X.2.1 = true) (h3 : (Cond.arrayOf (.field (.string RX8 idx) "java/lang/String" "value" "[B") .byte).before args X.2.1 = true)
    (h4 : (Cond.eq (.length (.field (.string RX8 idx) "java/lang/String" "value" "[B")) (.int 2)).before args X.2.1 = true) (h5 : (Cond.eq (.elem (.field (.string RX8 idx) "java/lang/String" "value" "[B") (.int 0)) (.int c0)).before args X.2.1 = true) (h6 : (Cond.eq (.elem (.field (.string RX8 idx) "java/lang/String" "value" "[B") (.int 1)) (.int c1)).before args X.2.1 = true)
    (h7 : (Cond.stringRef RX8 idx tx).before args X.2.1 = true) : ∃ a : Nat, vk_R RX8 idx tx a X.2.1 ∧ ZStr X a b0 b1 := by
  obtain ⟨adK, adV, hS, hE⟩ := vk_Sof (args := args) (s := X.2.1) (N := 1) (tm := fun _ => .string RX8 idx) (len := [2]) (byt := [[c0, c1]]) (A := zFree X) (fun i hi => by rw [show i = 0 by omega]; decide) (fun i hi => h1) (fun i hi => h2) (fun i hi => h3) (fun i hi => by rw [show i = 0 by omega]; exact h4)
    (fun i hi j hj => by
      have ei : i = 0 := by omega
      subst ei
      have hj2 : j < 2 := hj
      have : j = 0 ∨ j = 1 := by omega
      rcases this with rfl | rfl
      · exact h5
      · exact h6)
    (fun i j hi hj hne => by omega) (fun a ha => by show ¬ zB X ≤ a; show ¬ X.2.1.heap.size ≤ a; omega)
  obtain ⟨q1, q2, q3, q4⟩ := hS.1 0 (by decide)
  refine ⟨adK 0, vk_R.of h7 (hE 0 (by decide)), adV 0, q1, q2, q3, ?_⟩
  refine va_T.congr q4 (fun j hj => ?_)
  have hj2 : j < 2 := hj
  have : j = 0 ∨ j = 1 := by omega
  rcases this with rfl | rfl
  · show Value.int c0 = iV b0
    rw [← e0]; rfl
  · show Value.int c1 = iV b1
    rw [← e1]; rfl
set_option maxHeartbeats 4000000 in
set_option maxRecDepth 100000 in
theorem ztx_of {X : ZX} {args : Array Value} (hts : ∀ w ∈ lw_tbl, w.before args X.2.1 = true) (hgv : (Jvm.Cond.and given_1 narrow_1).before args X.2.1 = true) : ∃ q : Nat → Nat, ZTx X q := by
  have hs := flat_of_before _ hgv
  have hA : ∀ a : Nat, a < X.2.1.heap.size → ¬ zFree X a := fun a ha => by show ¬ X.2.1.heap.size ≤ a; omega
  have z1 : va_Z "java/lang/String" "COMPACT_STRINGS" "Z" (iV 1) (zFree X) X.2.1 X.2.1.heap := va_Zof (hts _ (tm_4 (List.mem_of_getElem? (i := 7) (by decide +kernel)))) (hts _ (tm_1 (List.mem_of_getElem? (i := 15) (by decide +kernel)))) (va_eqt (z := 1) (hs _ (by decide +kernel))) hA
  have z2 : va_Zq "jdk/internal/util/Preconditions" "SIOOBE_FORMATTER" "Ljava/util/function/BiFunction;" (zFree X) X.2.1 X.2.1.heap := va_Zqof (hts _ (tm_4 (List.mem_of_getElem? (i := 23) (by decide +kernel)))) (hts _ (tm_1 (List.mem_of_getElem? (i := 17) (by decide +kernel)))) (hs _ (by decide +kernel)) hA
  obtain ⟨a0, r0, s0⟩ := zstr_of (X := X) (args := args) (idx := 82) (tx := "SZ") (b0 := 83) (b1 := 90) (c0 := 83) (c1 := 90) rfl rfl (hs _ (by decide +kernel)) (hs _ (by decide +kernel)) (hs _ (by decide +kernel)) (hs _ (by decide +kernel)) (hs _ (by decide +kernel)) (hs _ (by decide +kernel)) (hts _ (tm_3 (List.mem_of_getElem? (i := 233) (by decide +kernel))))
  obtain ⟨a1, r1, s1⟩ := zstr_of (X := X) (args := args) (idx := 97) (tx := "KM") (b0 := 75) (b1 := 77) (c0 := 75) (c1 := 77) rfl rfl (hs _ (by decide +kernel)) (hs _ (by decide +kernel)) (hs _ (by decide +kernel)) (hs _ (by decide +kernel)) (hs _ (by decide +kernel)) (hs _ (by decide +kernel)) (hts _ (tm_4 (List.mem_of_getElem? (i := 53) (by decide +kernel))))
  obtain ⟨a2, r2, s2⟩ := zstr_of (X := X) (args := args) (idx := 63) (tx := "AB") (b0 := 65) (b1 := 66) (c0 := 65) (c1 := 66) rfl rfl (hs _ (by decide +kernel)) (hs _ (by decide +kernel)) (hs _ (by decide +kernel)) (hs _ (by decide +kernel)) (hs _ (by decide +kernel)) (hs _ (by decide +kernel)) (hts _ (tm_4 (List.mem_of_getElem? (i := 54) (by decide +kernel))))
  obtain ⟨a3, r3, s3⟩ := zstr_of (X := X) (args := args) (idx := 69) (tx := "AW") (b0 := 65) (b1 := 87) (c0 := 65) (c1 := 87) rfl rfl (hs _ (by decide +kernel)) (hs _ (by decide +kernel)) (hs _ (by decide +kernel)) (hs _ (by decide +kernel)) (hs _ (by decide +kernel)) (hs _ (by decide +kernel)) (hts _ (tm_4 (List.mem_of_getElem? (i := 64) (by decide +kernel))))
  obtain ⟨a4, r4, s4⟩ := zstr_of (X := X) (args := args) (idx := 71) (tx := "AE") (b0 := 65) (b1 := 69) (c0 := 65) (c1 := 69) rfl rfl (hs _ (by decide +kernel)) (hs _ (by decide +kernel)) (hs _ (by decide +kernel)) (hs _ (by decide +kernel)) (hs _ (by decide +kernel)) (hs _ (by decide +kernel)) (hts _ (tm_4 (List.mem_of_getElem? (i := 65) (by decide +kernel))))
  exact ⟨fun j => match j with | 0 => a0 | 1 => a1 | 2 => a2 | 3 => a3 | _ => a4, ⟨z1, z2⟩, ⟨r0, s0⟩, ⟨r1, s1⟩, ⟨r2, s2⟩, ⟨r3, s3⟩, ⟨r4, s4⟩⟩
/-- from the entry, for every script of at most 3072 ints, the law comes to its end with true -/
theorem whole_start {p : Program} {e : Env} {s : State} {m : MethodId} {below : List Frame} {meth : Method} {c : Code} (l : Launch) {b L : Nat} {xs : Nat → Int32} (hL : L ≤ 3072) (C0 : lw_At p s m meth c b L xs) : W p l e room_1 s m #[Value.ref b] below meth c s.heap [] 0 0 (lw_Z below #[Value.ref b] s) (entryFrame m ([Value.ref b] : List Value).toArray 4) := by
  obtain ⟨hx, hb, hr, hml, hown, hts, hXs, hbl, hlocks, hgv⟩ := C0
  have hKc : ∀ ci : Nat, ∃ q : ClassId × (Nat → Nat), ∀ r : vw_C, zCl[ci]? = some r → u_Kn s r.1 r.2.1 r.2.2 q.1 q.2 := by
    intro ci
    cases h : zCl[ci]? with
    | none => exact ⟨(0, fun _ => 0), fun r hr => by cases hr⟩
    | some q =>
      obtain ⟨cC, iS, hk⟩ := u_known (C := q.1) (T := q.2.1) (N := q.2.2) (n := q.2.2) hts (fun w hw => (zGW_all ci q h w hw).1) (hts _ (zinst ci q h))
      exact ⟨(cC, iS), fun r hr => by cases hr; exact hk⟩
  obtain ⟨f, hf⟩ := Classical.axiomOfChoice hKc
  obtain ⟨cI, i1, i2⟩ := zarr (Or.inl rfl) (hts _ kar_int)
  obtain ⟨cB, b1, b2⟩ := zarr (Or.inr (Or.inl rfl)) (hts _ kar_byte)
  obtain ⟨cZ, z1, z2⟩ := zarr (Or.inr (Or.inr (Or.inl rfl))) (hts _ kar_boolean)
  obtain ⟨cJ, j1, j2⟩ := zarr (Or.inr (Or.inr (Or.inr rfl))) (hts _ kar_long)
  obtain ⟨X, eX⟩ : ∃ X : ZX, X = (l, s, (fun ci => (f ci).1, fun ci => (f ci).2), fun ty => match ty with | .int => cI | .byte => cB | .boolean => cZ | _ => cJ) := ⟨_, rfl⟩
  have x1 : X.1 = l := by rw [eX]
  have x2 : X.2.1 = s := by rw [eX]
  have G : ZGood X := by
    rw [eX]
    refine ⟨⟨#[Value.ref b], hts⟩, fun ci q h => hf ci q h, fun k q h => ?_⟩
    match k, h with
    | 0, h => cases h; exact ⟨i1, i2⟩
    | 1, h => cases h; exact ⟨b1, b2⟩
    | 2, h => cases h; exact ⟨z1, z2⟩
    | 3, h => cases h; exact ⟨j1, j2⟩
    | k + 4, h => simp at h
  obtain ⟨q, hq⟩ := ztx_of (X := X) (args := #[Value.ref b]) (by rw [x2]; exact hts) (by rw [x2]; exact hgv)
  have hS : Scr X b L (fun j => (xs j).toInt) := by
    refine ⟨?_, hL⟩
    rw [x2]
    obtain ⟨scr, s1, s2, s3, s4, s5⟩ := hXs
    refine ⟨scr, s1, s2, s3, by omega, by rw [s4], fun j hj => ?_, ?_⟩
    · rw [s5 j hj, iV_of]
    · show ¬ X.2.1.heap.size ≤ b
      rw [x2]; omega
  have K := law_walk (X := X) (nm := meth.name) hq hS (fun j => r32_v (xs j)) G p e s m #[Value.ref b] below meth c s.heap [] ((lg_sl [Value.ref b] ++ List.replicate (4 - (lg_sl [Value.ref b]).length) Slot.unset).toArray)
    ⟨hx, hb, hml, hr, hlocks, hown, rfl, by rw [x2]; exact State.WarmedH.refl s, by show s.heap.size = X.2.1.heap.size + 0; rw [x2]; rfl, fun q hq => by rw [x2]⟩
    (zEnt_L (vs := [Value.ref b]) (mL := 4) (Nat.le_of_ble_eq_true rfl)) ⟨Nat.le_refl 0, fun k q h => by simp [zW] at h, va_S.rf⟩
  rw [x1] at K
  rw [lg_entry_eq]
  exact K
