/-! ===== Strings: the five constants, and the JDK's methods over them ===== -/
/-- a constant of two letters -/
def ZStr (X : ZX) (a : Nat) (b0 b1 : Int) : Prop := ∃ v : Nat, va_O "java/lang/String" a (zFree X) X.2.1 X.2.1.heap ∧ va_OF "java/lang/String" "coder" "B" (iV 0) a (zFree X) X.2.1 X.2.1.heap ∧ va_OF "java/lang/String" "value" "[B" (.ref v) a (zFree X) X.2.1 X.2.1.heap ∧ va_T .byte v 2 (fun j => if j = 0 then iV b0 else iV b1) (zFree X) X.2.1 X.2.1.heap
def ZSta (X : ZX) : Prop := va_Z "java/lang/String" "COMPACT_STRINGS" "Z" (iV 1) (zFree X) X.2.1 X.2.1.heap ∧ va_Zq "jdk/internal/util/Preconditions" "SIOOBE_FORMATTER" "Ljava/util/function/BiFunction;" (zFree X) X.2.1 X.2.1.heap
/-- what is known of the texts -/
def ZTx (X : ZX) (q : Nat → Nat) : Prop := ZSta X ∧ (vk_R RX8 82 "SZ" (q 0) X.2.1 ∧ ZStr X (q 0) 83 90) ∧ (vk_R RX8 97 "KM" (q 1) X.2.1 ∧ ZStr X (q 1) 75 77) ∧ (vk_R RX8 63 "AB" (q 2) X.2.1 ∧ ZStr X (q 2) 65 66) ∧ (vk_R RX8 69 "AW" (q 3) X.2.1 ∧ ZStr X (q 3) 65 87) ∧ (vk_R RX8 71 "AE" (q 4) X.2.1 ∧ ZStr X (q 4) 65 69)
theorem ch_and : ∀ n : Fin 128, andI (n.val : Int) 255 = (n.val : Int) := by decide +kernel
theorem ch_2c : ∀ n : Fin 128, ((Int32.ofInt (n.val : Int)).toUInt32 % 65536).toInt32 = Int32.ofInt (n.val : Int) := by decide +kernel
theorem ch_nar {x : Int} (h0 : 0 ≤ x) (h1 : x < 128) : narrow .char (iV x) = iV x := by
  obtain ⟨k, rfl⟩ : ∃ k : Nat, x = (k : Int) := ⟨x.toNat, by omega⟩
  have := (pk_charN (q := k) (by omega)).1
  rw [show nI k = Int32.ofInt (k : Int) from (Int32.ofInt_eq_ofNat (n := k)).symm] at this
  exact this
section ZSt
variable {X : ZX} {M N : ZM} {R : Room} {Z : List Frame → Array Value → State → State → Prop} {d n0 n pc idx : Nat} {ls : List (Option Value)} {st As : List Value} {σ : ZSto}
theorem zKeep {p : Program} {s : State} {m : MethodId} {meth : Method} {c : Code} (hF : ZFix X M n0 p s m meth c) : ∀ q : Nat, q < X.2.1.heap.size → ¬ zFree X q → s.heap[q]? = X.2.1.heap[q]? := fun q h _ => hF.2.2.2.2.2.2.2.2.2 q h
theorem r_getOF {o nm ds : String} {q : Nat} {v : Value} (hE : va_OF o nm ds v q (zFree X) X.2.1 X.2.1.heap) (hd : decode M.2.1 pc = .ok (.getfield idx, 3)) (hl : Cond.fieldLink M.1.cls idx o nm ds ∈ lw_tbl) (k : Zm X M R Z n0 n (pc + 3) ls (v :: st) σ) : Zm X M R Z n0 n pc ls (.ref q :: st) σ := by
  intro G p e s m args below meth c H locs lsA hF hL hP
  have kk := k G p e s m args below meth c H locs lsA hF hL hP
  have hW := hF.2.2.2.2.2.2.2.1
  exact vk_getf hF.1 hF.2.1 ((va_OF.moved hW.alike hE).kept (zKeep hF)) hP.2.2 hF.2.2.2.2.2.1 (zGood_word G hW hl rfl args) (fun _ h => h) hd kk
theorem r_gets {o nm ds : String} {v : Value} (hE : va_Z o nm ds v (zFree X) X.2.1 X.2.1.heap) (hd : decode M.2.1 pc = .ok (.getstatic idx, 3)) (hl : Cond.fieldLink M.1.cls idx o nm ds ∈ lw_tbl) (k : Zm X M R Z n0 n (pc + 3) ls (v :: st) σ) : Zm X M R Z n0 n pc ls st σ := by
  intro G p e s m args below meth c H locs lsA hF hL hP
  have kk := k G p e s m args below meth c H locs lsA hF hL hP
  have hW := hF.2.2.2.2.2.2.2.1
  exact va_gets hF.1 hF.2.1 ((va_Z.moved hW.alike hE).kept (zKeep hF)) hP.2.2 hF.2.2.2.2.2.1 (zGood_word G hW hl rfl args) (fun _ h => h) hd kk
theorem r_ldcS {tx : String} {a : Nat} (hZ : vk_R M.1.cls idx tx a X.2.1) (hd : decode M.2.1 pc = .ok (.ldc idx, 2)) (k : Zm X M R Z n0 n (pc + 2) ls (.ref a :: st) σ) : Zm X M R Z n0 n pc ls st σ := by
  intro G p e s m args below meth c H locs lsA hF hL hP
  have kk := k G p e s m args below meth c H locs lsA hF hL hP
  have hW := hF.2.2.2.2.2.2.2.1
  exact va_ldcS hF.1 hF.2.1 hF.2.2.2.2.2.1 (vk_R.warm hW hZ) hd kk
theorem r_tlen {v N2 : Nat} {f : Nat → Value} (hT : va_T .byte v N2 f (zFree X) X.2.1 X.2.1.heap) (hd : decode M.2.1 pc = .ok (.arraylength, 1)) (k : Zm X M R Z n0 n (pc + 1) ls (iV (N2 : Int) :: st) σ) : Zm X M R Z n0 n pc ls (.ref v :: st) σ := by
  intro G p e s m args below meth c H locs lsA hF hL hP
  have kk := k G p e s m args below meth c H locs lsA hF hL hP
  have hW := hF.2.2.2.2.2.2.2.1
  exact va_tlen hF.1 hF.2.1 ((va_T.moved hW.alike hT).kept (zKeep hF)) hP.2.2 (Int32.ofInt_eq_ofNat (n := N2)).symm hd kk
theorem r_tb {v N2 : Nat} {f : Nat → Value} {x y : Int} (hT : va_T .byte v N2 f (zFree X) X.2.1 X.2.1.heap) (hd : decode M.2.1 pc = .ok (.baload, 1)) (hb : N2 < 2147483648) (h0 : 0 ≤ x) (h1 : x < N2) (hv : f x.toNat = iV y) (k : Zm X M R Z n0 n (pc + 1) ls (iV y :: st) σ) : Zm X M R Z n0 n pc ls (iV x :: .ref v :: st) σ := by
  intro G p e s m args below meth c H locs lsA hF hL hP
  have kk := k G p e s m args below meth c H locs lsA hF hL hP
  have hW := hF.2.2.2.2.2.2.2.1
  exact va_tb hF.1 hF.2.1 ((va_T.moved hW.alike hT).kept (zKeep hF)) hP.2.2 (i32_in h0 h1 (by omega)) (by rw [i32_cl h0 (by omega)]; exact hv) hd kk
theorem r_i2c {x : Int} (hd : decode M.2.1 pc = .ok (.i2c, 1)) (h0 : 0 ≤ x) (h1 : x < 128) (k : Zm X M R Z n0 n (pc + 1) ls (iV x :: st) σ) : Zm X M R Z n0 n pc ls (iV x :: st) σ := by
  intro G p e s m args below meth c H locs lsA hF hL hP
  have kk := k G p e s m args below meth c H locs lsA hF hL hP
  refine lv_i2c hF.1 hF.2.1 hd ?_ kk
  obtain ⟨j, rfl⟩ : ∃ j : Nat, x = (j : Int) := ⟨x.toNat, by omega⟩
  exact ch_2c ⟨j, by omega⟩
theorem r_nreturn {x : Int} {ty : FieldType} {Q : Option Value → ZSto → Prop} (hd : decode M.2.1 pc = .ok (.ireturn, 1)) (hr : M.2.2.2 = some ty) (hx : narrow ty (iV x) = iV x) (hQ : Q (some (iV x)) σ) : Zm X M R (zZ X n0 n Q) n0 n pc ls [iV x] σ := by
  intro G p e s m args below meth c H locs lsA hF hL hP T hT S
  have hlocks := hF.2.2.2.2.1
  exact W.zret hF.1 hF.2.1 (hF.2.2.2.1.trans hr) hx (zEndW hF hP (zSize hF hP hT S) hQ args) hP.2.2.2.2 hd hlocks T hT S
theorem r_callO {a k : Nat} {z : List Value} (hO : va_O N.1.cls a (zFree X) X.2.1 X.2.1.heap) (hd : decode M.2.1 pc = .ok (.invokevirtual idx, 3)) (hN : ZMi N) (hl : ZLk M.1.cls idx N) (hk : (parseMethodDescriptor N.1.desc).map (fun d => d.parameters.length) = some k) (hA : As.length = k) (hR : zFits R d n0 n) (hcat : (st.map fun v => v.category).sum ≤ 8) (hz : z = As.reverse ++ .ref a :: st)
    (K : Zc X N d n n (.ref a :: As) σ (fun r σ' => Zm X M R Z n0 n (pc + 3) ls (r.toList ++ st) σ')) : Zm X M R Z n0 n pc ls z σ := by
  subst hz
  intro G p e s m args below meth c H locs lsA hF hL hP T hT S
  have hsz := zSize hF hP hT S
  have hW := hF.2.2.2.2.2.2.2.1
  obtain ⟨⟨hco, hini, hy, h50⟩, him, hsel⟩ := hN
  obtain ⟨cell, q1, q2, q3, -⟩ := ((va_O.moved hW.alike hO).kept (zKeep hF)).kept hP.2.2.2.1
  have hlen : ∀ sig, parseMethodDescriptor N.1.desc = some sig → k = sig.parameters.length := fun sig h => by rw [h] at hk; exact (Option.some.inj hk).symm
  have hpre : PreV s H N.1.cls a (va_Pc (.ref a :: As) (fun U => ZWorld X U σ n)) As := ⟨zBlind X _ σ n, ⟨cell, q1, q2, q3⟩, fun U hU hWU => ⟨rfl, zWorldAt G hF hP hsz U hU hWU⟩⟩
  have hcode := zGood_word G hW hco rfl args
  have hinit := zGood_word G hW hini rfl args
  have hfr : (zRm d n n).frames + 1 ≤ R.frames := hR.1
  have hlo : 8 + (N.2.2.1 + 11) + (zRm d n n).locals ≤ R.locals := by show 8 + (N.2.2.1 + 11) + (69 * d + 11) ≤ R.locals; have := hR.2.1; omega
  have hm2 := zSl_mono hP.1
  have hroom : n - n0 + (n - n) ≤ R.cells ∧ zSl n - zSl n0 + (zSl n - zSl n) ≤ R.slots := ⟨by have := hR.2.2.1; have := hP.1; omega, by have := hR.2.2.2; omega⟩
  rcases hl with hl | ⟨host, hl⟩
  · exact zAfter (free := zFree X) G hF hL hP (Nat.le_refl n) (fun _ h => h) (fun _ _ _ h => h)
      (va_runV (As := As) (rest := st) (Ts := []) ⟨hF.1, hF.2.1, hF.2.2.1, hF.2.2.2.2.2.1, fun _ h => by cases h⟩ (K G)
        ⟨⟨rfl, rfl, hfr, hlo, zPay G hW hco, List.mem_singleton.mpr rfl, hcode, hinit, hy, hlen, zGood_word G hW hl rfl args⟩, zGood_word G hW him rfl args, zGood_word G hW hsel rfl args⟩ hpre rfl hA hL.1 rfl (lv_room hcat) hd hroom) hT S
  · exact zAfter (free := zFree X) G hF hL hP (Nat.le_refl n) (fun _ h => h) (fun _ _ _ h => h)
      (va_runVN (As := As) (rest := st) (Ts := []) ⟨hF.1, hF.2.1, hF.2.2.1, hF.2.2.2.2.2.1, fun _ h => by cases h⟩ (K G)
        ⟨⟨⟨rfl, rfl, hfr, hlo, zPay G hW hco, List.mem_singleton.mpr rfl⟩, hcode, hinit, hy, hlen, va_Nw.use rfl (zNestM_at G hW hl)⟩, zGood_word G hW him rfl args, zGood_word G hW hsel rfl args⟩ hpre rfl hA hL.1 rfl (lv_room hcat) hd hroom) hT S
theorem n_callO {a k : Nat} {z : List Value} {P : Option Value → ZSto → Prop} (hO : va_O N.1.cls a (zFree X) X.2.1 X.2.1.heap) (hd : decode M.2.1 pc = .ok (.invokevirtual idx, 3)) (hN : ZMi N) (hl : ZLk M.1.cls idx N) (hk : (parseMethodDescriptor N.1.desc).map (fun d => d.parameters.length) = some k) (hA : As.length = k) (hR : zFits R d n0 n) (hcat : (st.map fun v => v.category).sum ≤ 8) (hz : z = As.reverse ++ .ref a :: st) (hok : ZOk n σ)
    (K : Zk X N d n (.ref a :: As) σ P) (kk : ∀ r σ', ZOk n σ' → P r σ' → Zm X M R Z n0 n (pc + 3) ls (r.toList ++ st) σ') : Zm X M R Z n0 n pc ls z σ :=
  r_callO hO hd hN hl hk hA hR hcat hz ((K hok).mono (fun r σ' h => kk r σ' h.1 h.2))
end ZSt
section ZSj
variable {X : ZX} {d n a : Nat} {σ : ZSto} {b0 b1 : Int}
theorem sj_coder (hT : ZSta X) (hS : ZStr X a b0 b1) : ZkI X M_J0_coder_7d493 (d + 1) n [.ref a] σ (fun v σ' => v = 0 ∧ σ' = σ) := by
  obtain ⟨v, h1, h2, h3, h4⟩ := hS
  refine zk_of (ls := [some (.ref a)]) pl_RJ0 (Nat.le_of_ble_eq_true rfl) rfl (fun k0 => ?_)
  unfold Zn
  refine r_gets hT.1 dJ0_coder_7d493_0 kg_RJ0_38 ?_
  refine r_if_eq (t := 13) dJ0_coder_7d493_3 rfl (r32c rfl) (fun c => absurd c (by decide)) (fun _ => ?_)
  refine r_aload_n dJ0_coder_7d493_6 rfl ?_
  refine r_getOF h2 dJ0_coder_7d493_7 kg_RJ0_15 ?_
  refine r_goto (t := 14) dJ0_coder_7d493_10 rfl ?_
  exact r_nreturn dJ0_coder_7d493_14 rfl rfl ⟨k0, _, rfl, r32c rfl, rfl, rfl⟩
theorem sj_isLatin1 (hT : ZSta X) (hS : ZStr X a b0 b1) : ZkZ X M_J0_isLatin1_aae02 (d + 1) n [.ref a] σ (fun v σ' => v = 1 ∧ σ' = σ) := by
  obtain ⟨v, h1, h2, h3, h4⟩ := hS
  refine zk_of (ls := [some (.ref a)]) pl_RJ0 (Nat.le_of_ble_eq_true rfl) rfl (fun k0 => ?_)
  unfold Zn
  refine r_gets hT.1 dJ0_isLatin1_aae02_0 kg_RJ0_38 ?_
  refine r_if_eq (t := 17) dJ0_isLatin1_aae02_3 rfl (r32c rfl) (fun c => absurd c (by decide)) (fun _ => ?_)
  refine r_aload_n dJ0_isLatin1_aae02_6 rfl ?_
  refine r_getOF h2 dJ0_isLatin1_aae02_7 kg_RJ0_15 ?_
  refine r_if_ne (t := 17) dJ0_isLatin1_aae02_10 rfl (r32c rfl) (fun c => absurd c (by decide)) (fun _ => ?_)
  refine r_iconst dJ0_isLatin1_aae02_13 ?_
  refine r_goto (t := 18) dJ0_isLatin1_aae02_14 rfl ?_
  exact r_zreturn dJ0_isLatin1_aae02_18 rfl (Or.inr rfl) ⟨k0, _, rfl, Or.inr rfl, rfl, rfl⟩
theorem sj_length (hT : ZSta X) (hS : ZStr X a b0 b1) : ZkI X M_J0_length_8abf5 (d + 2) n [.ref a] σ (fun v σ' => v = 2 ∧ σ' = σ) := by
  have hS' := hS
  obtain ⟨v, h1, h2, h3, h4⟩ := hS
  refine zk_of (ls := [some (.ref a)]) pl_RJ0 (Nat.le_of_ble_eq_true rfl) rfl (fun k0 => ?_)
  unfold Zn
  refine r_aload_n dJ0_length_8abf5_0 rfl ?_
  refine r_getOF h3 dJ0_length_8abf5_1 kg_RJ0_9 ?_
  refine r_tlen h4 dJ0_length_8abf5_4 ?_
  refine r_aload_n dJ0_length_8abf5_5 rfl ?_
  refine n_callO (N := M_J0_coder_7d493) (As := []) (st := [iV 2]) h1 dJ0_length_8abf5_6 mk_J0_coder_7d493 km_RJ0_335 kd_J0_coder_7d493 rfl (zFits_rm (d + 1) n n n (Nat.le_refl n)) (Nat.le_of_ble_eq_true rfl) rfl k0 (sj_coder (d := d) hT hS') ?_
  rintro _ σ1 k1 ⟨w, rfl, _, rfl, rfl⟩
  change Zm _ _ _ _ _ _ 9 _ [iV 0, iV 2] _
  refine r_ishr dJ0_length_8abf5_9 ?_
  exact r_ireturn dJ0_length_8abf5_10 rfl ⟨k1, _, rfl, r32_shr _ _, by decide, rfl⟩
theorem sj_check3 {i l : Int} {w : Value} (hw : w = .null ∨ ∃ t : Nat, w = .ref t) (hi : 0 ≤ i) (hl : i < l) (hr : R32 l) : ZkI X M_J3_checkIndex_8e157 (d + 1) n [iV i, iV l, w] σ (fun v σ' => σ' = σ) := by
  have hri : R32 i := ⟨by omega, by have := hr.2; omega⟩
  rcases hw with rfl | ⟨t, rfl⟩
  · refine zk_of (ls := [some (iV i), some (iV l), some .null]) pl_RJ3 (Nat.le_of_ble_eq_true rfl) rfl (fun k0 => ?_)
    unfold Zn
    refine r_iload_n dJ3_checkIndex_8e157_0 rfl ?_
    refine r_if_lt (t := 9) dJ3_checkIndex_8e157_1 rfl hri (fun c => absurd c (by omega)) (fun _ => ?_)
    refine r_iload_n dJ3_checkIndex_8e157_4 rfl ?_
    refine r_iload_n dJ3_checkIndex_8e157_5 rfl ?_
    refine r_icmp_lt (t := 16) dJ3_checkIndex_8e157_6 rfl hri hr (fun _ => ?_) (fun c => absurd hl c)
    refine r_iload_n dJ3_checkIndex_8e157_16 rfl ?_
    exact r_ireturn dJ3_checkIndex_8e157_17 rfl ⟨k0, _, rfl, hri, rfl⟩
  · refine zk_of (ls := [some (iV i), some (iV l), some (.ref t)]) pl_RJ3 (Nat.le_of_ble_eq_true rfl) rfl (fun k0 => ?_)
    unfold Zn
    refine r_iload_n dJ3_checkIndex_8e157_0 rfl ?_
    refine r_if_lt (t := 9) dJ3_checkIndex_8e157_1 rfl hri (fun c => absurd c (by omega)) (fun _ => ?_)
    refine r_iload_n dJ3_checkIndex_8e157_4 rfl ?_
    refine r_iload_n dJ3_checkIndex_8e157_5 rfl ?_
    refine r_icmp_lt (t := 16) dJ3_checkIndex_8e157_6 rfl hri hr (fun _ => ?_) (fun c => absurd hl c)
    refine r_iload_n dJ3_checkIndex_8e157_16 rfl ?_
    exact r_ireturn dJ3_checkIndex_8e157_17 rfl ⟨k0, _, rfl, hri, rfl⟩
theorem sj_check {i l : Int} (hT : ZSta X) (hi : 0 ≤ i) (hl : i < l) (hr : R32 l) : ZkV X M_J0_checkIndex_df160 (d + 2) n [iV i, iV l] σ (fun σ' => σ' = σ) := by
  have key : ∀ w : Value, (w = .null ∨ ∃ t : Nat, w = .ref t) → va_Z "jdk/internal/util/Preconditions" "SIOOBE_FORMATTER" "Ljava/util/function/BiFunction;" w (zFree X) X.2.1 X.2.1.heap → ZkV X M_J0_checkIndex_df160 (d + 2) n [iV i, iV l] σ (fun σ' => σ' = σ) := by
    intro w hw hz
    refine zk_of (ls := [some (iV i), some (iV l)]) pl_RJ0 (Nat.le_of_ble_eq_true rfl) rfl (fun k0 => ?_)
    unfold Zn
    refine r_iload_n dJ0_checkIndex_df160_0 rfl ?_
    refine r_iload_n dJ0_checkIndex_df160_1 rfl ?_
    refine r_gets hz dJ0_checkIndex_df160_2 kg_RJ0_1053 ?_
    refine n_callS (N := M_J3_checkIndex_8e157) (As := [iV i, iV l, w]) (st := []) dJ0_checkIndex_df160_5 mk_J3_checkIndex_8e157 km_RJ0_1059 kd_J3_checkIndex_8e157 rfl (zFits_rm (d + 1) n n n (Nat.le_refl n)) (Nat.le_of_ble_eq_true rfl) rfl k0 (sj_check3 (d := d) hw hi hl hr) ?_
    rintro _ σ1 k1 ⟨v, rfl, _, rfl⟩
    change Zm _ _ _ _ _ _ 8 _ [iV v] _
    refine r_pop dJ0_checkIndex_df160_8 rfl ?_
    exact r_return dJ0_checkIndex_df160_9 rfl ⟨k1, rfl, rfl⟩
  rcases hT.2 with h | ⟨t, h⟩
  · exact key _ (Or.inl rfl) h
  · exact key _ (Or.inr ⟨t, rfl⟩) h
theorem sj_charAt1 {i y : Int} {v : Nat} (hT : ZSta X) (h4 : va_T .byte v 2 (fun j => if j = 0 then iV b0 else iV b1) (zFree X) X.2.1 X.2.1.heap) (hi : (i = 0 ∧ y = b0) ∨ (i = 1 ∧ y = b1)) (hy : 0 ≤ y) (hy2 : y < 128) : ZkI X M_J1_charAt_3b067 (d + 3) n [.ref v, iV i] σ (fun w σ' => w = y ∧ σ' = σ) := by
  refine zk_of (ls := [some (.ref v), some (iV i)]) pl_RJ1 (Nat.le_of_ble_eq_true rfl) rfl (fun k0 => ?_)
  unfold Zn
  refine r_iload_n dJ1_charAt_3b067_0 rfl ?_
  refine r_aload_n dJ1_charAt_3b067_1 rfl ?_
  refine r_tlen h4 dJ1_charAt_3b067_2 ?_
  refine n_callS (N := M_J0_checkIndex_df160) (As := [iV i, iV 2]) (st := []) dJ1_charAt_3b067_3 mk_J0_checkIndex_df160 km_RJ1_9 kd_J0_checkIndex_df160 rfl (zFits_rm (d + 2) n n n (Nat.le_refl n)) (Nat.le_of_ble_eq_true rfl) rfl k0 (sj_check (d := d) hT (by omega) (by omega) (r32c rfl)) ?_
  rintro _ σ1 k1 ⟨rfl, rfl⟩
  change Zm _ _ _ _ _ _ 6 _ [] _
  refine r_aload_n dJ1_charAt_3b067_6 rfl ?_
  refine r_iload_n dJ1_charAt_3b067_7 rfl ?_
  refine r_tb (y := y) h4 dJ1_charAt_3b067_8 (by decide) (by omega) (by omega) ?_ ?_
  · rcases hi with ⟨rfl, rfl⟩ | ⟨rfl, rfl⟩ <;> rfl
  refine r_sipush dJ1_charAt_3b067_9 rfl ?_
  refine r_iand dJ1_charAt_3b067_12 ?_
  have e : andI y 255 = y := by
    obtain ⟨j, rfl⟩ : ∃ j : Nat, y = (j : Int) := ⟨y.toNat, by omega⟩
    exact ch_and ⟨j, by omega⟩
  rw [e]
  refine r_i2c dJ1_charAt_3b067_13 hy hy2 ?_
  exact r_nreturn dJ1_charAt_3b067_14 rfl (ch_nar hy hy2) ⟨k1, _, rfl, ⟨by omega, by omega⟩, rfl, rfl⟩
theorem sj_charAt {i y : Int} (hT : ZSta X) (hS : ZStr X a b0 b1) (hi : (i = 0 ∧ y = b0) ∨ (i = 1 ∧ y = b1)) (hy : 0 ≤ y) (hy2 : y < 128) : ZkI X M_J0_charAt_5068e (d + 4) n [.ref a, iV i] σ (fun w σ' => w = y ∧ σ' = σ) := by
  have hS' := hS
  obtain ⟨v, h1, h2, h3, h4⟩ := hS
  refine zk_of (ls := [some (.ref a), some (iV i)]) pl_RJ0 (Nat.le_of_ble_eq_true rfl) rfl (fun k0 => ?_)
  unfold Zn
  refine r_aload_n dJ0_charAt_5068e_0 rfl ?_
  refine n_callO (N := M_J0_isLatin1_aae02) (As := []) (st := []) h1 dJ0_charAt_5068e_1 mk_J0_isLatin1_aae02 km_RJ0_492 kd_J0_isLatin1_aae02 rfl (zFits_rm (d + 3) n n n (Nat.le_refl n)) (Nat.le_of_ble_eq_true rfl) rfl k0 (sj_isLatin1 (d := d + 2) hT hS') ?_
  rintro _ σ1 k1 ⟨w, rfl, _, rfl, rfl⟩
  change Zm _ _ _ _ _ _ 4 _ [iV 1] _
  refine r_if_eq (t := 16) dJ0_charAt_5068e_4 rfl (r32c rfl) (fun c => absurd c (by decide)) (fun _ => ?_)
  refine r_aload_n dJ0_charAt_5068e_7 rfl ?_
  refine r_getOF h3 dJ0_charAt_5068e_8 kg_RJ0_9 ?_
  refine r_iload_n dJ0_charAt_5068e_11 rfl ?_
  refine n_callS (N := M_J1_charAt_3b067) (As := [.ref v, iV i]) (st := []) dJ0_charAt_5068e_12 mk_J1_charAt_3b067 km_RJ0_495 kd_J1_charAt_3b067 rfl (zFits_rm (d + 3) n n n (Nat.le_refl n)) (Nat.le_of_ble_eq_true rfl) rfl k1 (sj_charAt1 (d := d) hT h4 hi hy hy2) ?_
  rintro _ σ2 k2 ⟨w, rfl, hr, rfl, rfl⟩
  change Zm _ _ _ _ _ _ 15 _ [iV w] _
  exact r_nreturn dJ0_charAt_5068e_15 rfl (ch_nar hy hy2) ⟨k2, _, rfl, hr, rfl, rfl⟩
/-- addText, a constant of two letters -/
theorem w_addText {P : ZSto → Prop} (hn : 73 ≤ n) (hT : ZSta X) (hS : ZStr X a b0 b1) (hb0 : 0 ≤ b0 ∧ b0 < 128) (hb1 : 0 ≤ b1 ∧ b1 < 128)
    (h : ZkV X M_X1_addByte (d + 4) n [.ref (zB X + 31), iV b0] σ (fun σ1 => ZkV X M_X1_addByte (d + 4) n [.ref (zB X + 31), iV b1] σ1 P)) : ZkV X M_X1_addText (d + 5) n [.ref (zB X + 31), .ref a] σ P := by
  have hO : va_O M_J0_length_8abf5.1.cls a (zFree X) X.2.1 X.2.1.heap := by obtain ⟨v, h1, _⟩ := hS; exact h1
  have hF := zFits_rm (d + 4) n n n (Nat.le_refl n)
  refine zk_of (ls := [some (.ref (zB X + 31)), some (.ref a), none]) pl_RX1 (Nat.le_of_ble_eq_true rfl) rfl (fun k0 => ?_)
  unfold Zn
  refine r_iconst dX1_addText_0 ?_
  refine r_istore_n dX1_addText_1 rfl rfl ?_
  refine r_iload_n dX1_addText_2 rfl ?_
  refine r_aload_n dX1_addText_3 rfl ?_
  refine n_callO (N := M_J0_length_8abf5) (As := []) (st := [iV 0]) hO dX1_addText_4 mk_J0_length_8abf5 km_RX1_29 kd_J0_length_8abf5 rfl hF (Nat.le_of_ble_eq_true rfl) rfl k0 (sj_length (d := d + 2) hT hS) ?_
  rintro _ _ k1 ⟨w, rfl, _, rfl, rfl⟩
  change Zm _ _ _ _ _ _ 7 _ [iV 2, iV 0] _
  refine r_icmp_ge (t := 25) dX1_addText_7 rfl (r32c rfl) (r32c rfl) (fun c => absurd c (by decide)) (fun _ => ?_)
  refine r_aload_n dX1_addText_10 rfl ?_
  refine r_aload_n dX1_addText_11 rfl ?_
  refine r_iload_n dX1_addText_12 rfl ?_
  refine n_callO (N := M_J0_charAt_5068e) (As := [iV 0]) (st := [.ref (zB X + 31)]) hO dX1_addText_13 mk_J0_charAt_5068e km_RX1_34 kd_J0_charAt_5068e rfl hF (Nat.le_of_ble_eq_true rfl) rfl k1 (sj_charAt (d := d) (y := b0) hT hS (Or.inl ⟨rfl, rfl⟩) hb0.1 hb0.2) ?_
  rintro _ _ k2 ⟨w, rfl, _, rfl, rfl⟩
  change Zm _ _ _ _ _ _ 16 _ [iV w, .ref (zB X + 31)] _
  refine n_callV (N := M_X1_addByte) (As := [iV w]) (st := []) dX1_addText_16 mk_X1_addByte km_RX1_25 kd_X1_addByte rfl (zlt hn rfl) sh_31 (q := (RX1, TX1, 2)) rfl rfl hF (Nat.le_of_ble_eq_true rfl) rfl k2 h ?_
  rintro _ σ1 k3 ⟨rfl, h⟩
  change Zm _ _ _ _ _ _ 19 _ [] _
  refine r_iinc dX1_addText_19 rfl rfl rfl ?_
  refine r_goto (t := 2) dX1_addText_22 rfl ?_
  refine r_iload_n dX1_addText_2 rfl ?_
  refine r_aload_n dX1_addText_3 rfl ?_
  refine n_callO (N := M_J0_length_8abf5) (As := []) (st := [iV (0 + 1)]) hO dX1_addText_4 mk_J0_length_8abf5 km_RX1_29 kd_J0_length_8abf5 rfl hF (Nat.le_of_ble_eq_true rfl) rfl k3 (sj_length (d := d + 2) hT hS) ?_
  rintro _ _ k4 ⟨w2, rfl, _, rfl, rfl⟩
  change Zm _ _ _ _ _ _ 7 _ [iV 2, iV (0 + 1)] _
  refine r_icmp_ge (t := 25) dX1_addText_7 rfl (r32c rfl) (r32c rfl) (fun c => absurd c (by decide)) (fun _ => ?_)
  refine r_aload_n dX1_addText_10 rfl ?_
  refine r_aload_n dX1_addText_11 rfl ?_
  refine r_iload_n dX1_addText_12 rfl ?_
  refine n_callO (N := M_J0_charAt_5068e) (As := [iV (0 + 1)]) (st := [.ref (zB X + 31)]) hO dX1_addText_13 mk_J0_charAt_5068e km_RX1_34 kd_J0_charAt_5068e rfl hF (Nat.le_of_ble_eq_true rfl) rfl k4 (sj_charAt (d := d) (y := b1) hT hS (Or.inr ⟨rfl, rfl⟩) hb1.1 hb1.2) ?_
  rintro _ _ k5 ⟨w3, rfl, _, rfl, rfl⟩
  change Zm _ _ _ _ _ _ 16 _ [iV w3, .ref (zB X + 31)] _
  refine n_callV (N := M_X1_addByte) (As := [iV w3]) (st := []) dX1_addText_16 mk_X1_addByte km_RX1_25 kd_X1_addByte rfl (zlt hn rfl) sh_31 (q := (RX1, TX1, 2)) rfl rfl hF (Nat.le_of_ble_eq_true rfl) rfl k5 h ?_
  rintro _ σ2 k6 ⟨rfl, h⟩
  change Zm _ _ _ _ _ _ 19 _ [] _
  refine r_iinc dX1_addText_19 rfl rfl rfl ?_
  refine r_goto (t := 2) dX1_addText_22 rfl ?_
  refine r_iload_n dX1_addText_2 rfl ?_
  refine r_aload_n dX1_addText_3 rfl ?_
  refine n_callO (N := M_J0_length_8abf5) (As := []) (st := [iV (0 + 1 + 1)]) hO dX1_addText_4 mk_J0_length_8abf5 km_RX1_29 kd_J0_length_8abf5 rfl hF (Nat.le_of_ble_eq_true rfl) rfl k6 (sj_length (d := d + 2) hT hS) ?_
  rintro _ _ k7 ⟨w4, rfl, _, rfl, rfl⟩
  change Zm _ _ _ _ _ _ 7 _ [iV 2, iV (0 + 1 + 1)] _
  refine r_icmp_ge (t := 25) dX1_addText_7 rfl (r32c rfl) (r32c rfl) (fun _ => ?_) (fun c => absurd (by decide) c)
  exact r_return dX1_addText_25 rfl ⟨k7, rfl, h⟩
end ZSj
