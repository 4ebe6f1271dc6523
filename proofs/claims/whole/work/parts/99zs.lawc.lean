section ZLw
variable {X : ZX} {nm : String} {b L i d1 d2 : Nat} {s : Nat → Int} {σ : ZSto} {G : Int}
theorem lawc_0 (hS : Scr X b L s) (hi : i + 6 ≤ L) (hok : ZOk 104 σ) (h1 : d1 ≤ 1209) (h2 : d2 ≤ 1209) (K : ZkZ X M_X9_begin d1 104 [.ref (zB X + 0), iV (s (i + 1)), iV (s (i + 2))] σ (fun v σ1 => ZkZ X M_X10_begin d2 104 [.ref (zB X + 73), iV (s (i + 1)), iV (s (i + 2))] σ1 (fun w σ2 => v = w ∧ Rel σ2 G))) (nx : ∀ σ', ZOk 104 σ' → Rel σ' G → Zm X (M_law nm) room_1 lw_Z 0 104 923 [some (.ref b), some (.ref (zB X + 0)), some (.ref (zB X + 73)), some (iV (i : Int))] [] σ') : Zm X (M_law nm) room_1 lw_Z 0 104 156 [some (.ref b), some (.ref (zB X + 0)), some (.ref (zB X + 73)), some (iV (i : Int))] [] σ := by
  refine r_aload_n dL_law_156 rfl ?_
  refine r_aload_n dL_law_157 rfl ?_
  refine r_iload_n dL_law_158 rfl ?_
  refine r_iconst dL_law_159 ?_
  refine r_iadd dL_law_160 ?_
  refine r_sc (i := i) (k := 1) hS dL_law_161 rfl (by omega) ?_
  refine r_aload_n dL_law_162 rfl ?_
  refine r_iload_n dL_law_163 rfl ?_
  refine r_iconst dL_law_164 ?_
  refine r_iadd dL_law_165 ?_
  refine r_sc (i := i) (k := 2) hS dL_law_166 rfl (by omega) ?_
  refine n_callV (d := d1) (N := M_X9_begin) (As := [iV (s (i + 1)), iV (s (i + 2))]) (st := []) dL_law_167 mk_X9_begin km_law_13 kd_X9_begin rfl (by decide) sh_0 (q := (RX9, TX9, 14)) rfl rfl (zR h1 (Nat.le_refl 104)) (Nat.le_of_ble_eq_true rfl) rfl hok K ?_
  rintro _ σ1 k1 ⟨v1, rfl, r1, K1⟩
  change Zm _ _ _ _ _ _ 170 _ [iV v1] _
  refine r_aload_n dL_law_170 rfl ?_
  refine r_aload_n dL_law_171 rfl ?_
  refine r_iload_n dL_law_172 rfl ?_
  refine r_iconst dL_law_173 ?_
  refine r_iadd dL_law_174 ?_
  refine r_sc (i := i) (k := 1) hS dL_law_175 rfl (by omega) ?_
  refine r_aload_n dL_law_176 rfl ?_
  refine r_iload_n dL_law_177 rfl ?_
  refine r_iconst dL_law_178 ?_
  refine r_iadd dL_law_179 ?_
  refine r_sc (i := i) (k := 2) hS dL_law_180 rfl (by omega) ?_
  refine n_callV (d := d2) (N := M_X10_begin) (As := [iV (s (i + 1)), iV (s (i + 2))]) (st := [iV v1]) dL_law_181 mk_X10_begin km_law_17 kd_X10_begin rfl (by decide) sh_73 (q := (RX10, TX10, 52)) rfl rfl (zR h2 (Nat.le_refl 104)) (Nat.le_of_ble_eq_true rfl) rfl k1 K1 ?_
  rintro _ σ2 k2 ⟨v2, rfl, r2, K2⟩
  change Zm _ _ _ _ _ _ 184 _ [iV v2, iV v1] _
  exact r_icmp_eq (t := 923) dL_law_184 rfl (r32_z r1) (r32_z r2) (fun _ => nx σ2 k2 K2.2) (fun c => absurd K2.1 c)
theorem lawc_1 (hS : Scr X b L s) (hi : i + 6 ≤ L) (hok : ZOk 104 σ) (h1 : d1 ≤ 1209) (h2 : d2 ≤ 1209) (K : ZkI X M_X9_ko d1 104 [.ref (zB X + 0), iV (s (i + 1))] σ (fun v σ1 => ZkI X M_X10_ko d2 104 [.ref (zB X + 73), iV (s (i + 1))] σ1 (fun w σ2 => v = w ∧ Rel σ2 G))) (nx : ∀ σ', ZOk 104 σ' → Rel σ' G → Zm X (M_law nm) room_1 lw_Z 0 104 923 [some (.ref b), some (.ref (zB X + 0)), some (.ref (zB X + 73)), some (iV (i : Int))] [] σ') : Zm X (M_law nm) room_1 lw_Z 0 104 189 [some (.ref b), some (.ref (zB X + 0)), some (.ref (zB X + 73)), some (iV (i : Int))] [] σ := by
  refine r_aload_n dL_law_189 rfl ?_
  refine r_aload_n dL_law_190 rfl ?_
  refine r_iload_n dL_law_191 rfl ?_
  refine r_iconst dL_law_192 ?_
  refine r_iadd dL_law_193 ?_
  refine r_sc (i := i) (k := 1) hS dL_law_194 rfl (by omega) ?_
  refine n_callV (d := d1) (N := M_X9_ko) (As := [iV (s (i + 1))]) (st := []) dL_law_195 mk_X9_ko km_law_18 kd_X9_ko rfl (by decide) sh_0 (q := (RX9, TX9, 14)) rfl rfl (zR h1 (Nat.le_refl 104)) (Nat.le_of_ble_eq_true rfl) rfl hok K ?_
  rintro _ σ1 k1 ⟨v1, rfl, r1, K1⟩
  change Zm _ _ _ _ _ _ 198 _ [iV v1] _
  refine r_aload_n dL_law_198 rfl ?_
  refine r_aload_n dL_law_199 rfl ?_
  refine r_iload_n dL_law_200 rfl ?_
  refine r_iconst dL_law_201 ?_
  refine r_iadd dL_law_202 ?_
  refine r_sc (i := i) (k := 1) hS dL_law_203 rfl (by omega) ?_
  refine n_callV (d := d2) (N := M_X10_ko) (As := [iV (s (i + 1))]) (st := [iV v1]) dL_law_204 mk_X10_ko km_law_22 kd_X10_ko rfl (by decide) sh_73 (q := (RX10, TX10, 52)) rfl rfl (zR h2 (Nat.le_refl 104)) (Nat.le_of_ble_eq_true rfl) rfl k1 K1 ?_
  rintro _ σ2 k2 ⟨v2, rfl, r2, K2⟩
  change Zm _ _ _ _ _ _ 207 _ [iV v2, iV v1] _
  exact r_icmp_eq (t := 923) dL_law_207 rfl r1 r2 (fun _ => nx σ2 k2 K2.2) (fun c => absurd K2.1 c)
theorem lawc_2 (hS : Scr X b L s) (hi : i + 6 ≤ L) (hok : ZOk 104 σ) (h1 : d1 ≤ 1209) (h2 : d2 ≤ 1209) (K : ZkI X M_X9_feed d1 104 [.ref (zB X + 0), iV (s (i + 1)), iV (s (i + 2)), iV (s (i + 3)), iV (s (i + 4)), iV (s (i + 5))] σ (fun v σ1 => ZkI X M_X10_feed d2 104 [.ref (zB X + 73), iV (s (i + 1)), iV (s (i + 2)), iV (s (i + 3)), iV (s (i + 4)), iV (s (i + 5))] σ1 (fun w σ2 => v = w ∧ Rel σ2 G))) (nx : ∀ σ', ZOk 104 σ' → Rel σ' G → Zm X (M_law nm) room_1 lw_Z 0 104 923 [some (.ref b), some (.ref (zB X + 0)), some (.ref (zB X + 73)), some (iV (i : Int))] [] σ') : Zm X (M_law nm) room_1 lw_Z 0 104 212 [some (.ref b), some (.ref (zB X + 0)), some (.ref (zB X + 73)), some (iV (i : Int))] [] σ := by
  refine r_aload_n dL_law_212 rfl ?_
  refine r_aload_n dL_law_213 rfl ?_
  refine r_iload_n dL_law_214 rfl ?_
  refine r_iconst dL_law_215 ?_
  refine r_iadd dL_law_216 ?_
  refine r_sc (i := i) (k := 1) hS dL_law_217 rfl (by omega) ?_
  refine r_aload_n dL_law_218 rfl ?_
  refine r_iload_n dL_law_219 rfl ?_
  refine r_iconst dL_law_220 ?_
  refine r_iadd dL_law_221 ?_
  refine r_sc (i := i) (k := 2) hS dL_law_222 rfl (by omega) ?_
  refine r_aload_n dL_law_223 rfl ?_
  refine r_iload_n dL_law_224 rfl ?_
  refine r_iconst dL_law_225 ?_
  refine r_iadd dL_law_226 ?_
  refine r_sc (i := i) (k := 3) hS dL_law_227 rfl (by omega) ?_
  refine r_aload_n dL_law_228 rfl ?_
  refine r_iload_n dL_law_229 rfl ?_
  refine r_iconst dL_law_230 ?_
  refine r_iadd dL_law_231 ?_
  refine r_sc (i := i) (k := 4) hS dL_law_232 rfl (by omega) ?_
  refine r_aload_n dL_law_233 rfl ?_
  refine r_iload_n dL_law_234 rfl ?_
  refine r_iconst dL_law_235 ?_
  refine r_iadd dL_law_236 ?_
  refine r_sc (i := i) (k := 5) hS dL_law_237 rfl (by omega) ?_
  refine n_callV (d := d1) (N := M_X9_feed) (As := [iV (s (i + 1)), iV (s (i + 2)), iV (s (i + 3)), iV (s (i + 4)), iV (s (i + 5))]) (st := []) dL_law_238 mk_X9_feed km_law_23 kd_X9_feed rfl (by decide) sh_0 (q := (RX9, TX9, 14)) rfl rfl (zR h1 (Nat.le_refl 104)) (Nat.le_of_ble_eq_true rfl) rfl hok K ?_
  rintro _ σ1 k1 ⟨v1, rfl, r1, K1⟩
  change Zm _ _ _ _ _ _ 241 _ [iV v1] _
  refine r_aload_n dL_law_241 rfl ?_
  refine r_aload_n dL_law_242 rfl ?_
  refine r_iload_n dL_law_243 rfl ?_
  refine r_iconst dL_law_244 ?_
  refine r_iadd dL_law_245 ?_
  refine r_sc (i := i) (k := 1) hS dL_law_246 rfl (by omega) ?_
  refine r_aload_n dL_law_247 rfl ?_
  refine r_iload_n dL_law_248 rfl ?_
  refine r_iconst dL_law_249 ?_
  refine r_iadd dL_law_250 ?_
  refine r_sc (i := i) (k := 2) hS dL_law_251 rfl (by omega) ?_
  refine r_aload_n dL_law_252 rfl ?_
  refine r_iload_n dL_law_253 rfl ?_
  refine r_iconst dL_law_254 ?_
  refine r_iadd dL_law_255 ?_
  refine r_sc (i := i) (k := 3) hS dL_law_256 rfl (by omega) ?_
  refine r_aload_n dL_law_257 rfl ?_
  refine r_iload_n dL_law_258 rfl ?_
  refine r_iconst dL_law_259 ?_
  refine r_iadd dL_law_260 ?_
  refine r_sc (i := i) (k := 4) hS dL_law_261 rfl (by omega) ?_
  refine r_aload_n dL_law_262 rfl ?_
  refine r_iload_n dL_law_263 rfl ?_
  refine r_iconst dL_law_264 ?_
  refine r_iadd dL_law_265 ?_
  refine r_sc (i := i) (k := 5) hS dL_law_266 rfl (by omega) ?_
  refine n_callV (d := d2) (N := M_X10_feed) (As := [iV (s (i + 1)), iV (s (i + 2)), iV (s (i + 3)), iV (s (i + 4)), iV (s (i + 5))]) (st := [iV v1]) dL_law_267 mk_X10_feed km_law_27 kd_X10_feed rfl (by decide) sh_73 (q := (RX10, TX10, 52)) rfl rfl (zR h2 (Nat.le_refl 104)) (Nat.le_of_ble_eq_true rfl) rfl k1 K1 ?_
  rintro _ σ2 k2 ⟨v2, rfl, r2, K2⟩
  change Zm _ _ _ _ _ _ 270 _ [iV v2, iV v1] _
  exact r_icmp_eq (t := 923) dL_law_270 rfl r1 r2 (fun _ => nx σ2 k2 K2.2) (fun c => absurd K2.1 c)
theorem lawc_3 (hS : Scr X b L s) (hi : i + 6 ≤ L) (hok : ZOk 104 σ) (h1 : d1 ≤ 1209) (h2 : d2 ≤ 1209) (K : ZkI X M_X9_end d1 104 [.ref (zB X + 0), iV (s (i + 1))] σ (fun v σ1 => ZkI X M_X10_end d2 104 [.ref (zB X + 73), iV (s (i + 1))] σ1 (fun w σ2 => v = w ∧ Rel σ2 G))) (nx : ∀ σ', ZOk 104 σ' → Rel σ' G → Zm X (M_law nm) room_1 lw_Z 0 104 923 [some (.ref b), some (.ref (zB X + 0)), some (.ref (zB X + 73)), some (iV (i : Int))] [] σ') : Zm X (M_law nm) room_1 lw_Z 0 104 275 [some (.ref b), some (.ref (zB X + 0)), some (.ref (zB X + 73)), some (iV (i : Int))] [] σ := by
  refine r_aload_n dL_law_275 rfl ?_
  refine r_aload_n dL_law_276 rfl ?_
  refine r_iload_n dL_law_277 rfl ?_
  refine r_iconst dL_law_278 ?_
  refine r_iadd dL_law_279 ?_
  refine r_sc (i := i) (k := 1) hS dL_law_280 rfl (by omega) ?_
  refine n_callV (d := d1) (N := M_X9_end) (As := [iV (s (i + 1))]) (st := []) dL_law_281 mk_X9_end km_law_28 kd_X9_end rfl (by decide) sh_0 (q := (RX9, TX9, 14)) rfl rfl (zR h1 (Nat.le_refl 104)) (Nat.le_of_ble_eq_true rfl) rfl hok K ?_
  rintro _ σ1 k1 ⟨v1, rfl, r1, K1⟩
  change Zm _ _ _ _ _ _ 284 _ [iV v1] _
  refine r_aload_n dL_law_284 rfl ?_
  refine r_aload_n dL_law_285 rfl ?_
  refine r_iload_n dL_law_286 rfl ?_
  refine r_iconst dL_law_287 ?_
  refine r_iadd dL_law_288 ?_
  refine r_sc (i := i) (k := 1) hS dL_law_289 rfl (by omega) ?_
  refine n_callV (d := d2) (N := M_X10_end) (As := [iV (s (i + 1))]) (st := [iV v1]) dL_law_290 mk_X10_end km_law_31 kd_X10_end rfl (by decide) sh_73 (q := (RX10, TX10, 52)) rfl rfl (zR h2 (Nat.le_refl 104)) (Nat.le_of_ble_eq_true rfl) rfl k1 K1 ?_
  rintro _ σ2 k2 ⟨v2, rfl, r2, K2⟩
  change Zm _ _ _ _ _ _ 293 _ [iV v2, iV v1] _
  exact r_icmp_eq (t := 923) dL_law_293 rfl r1 r2 (fun _ => nx σ2 k2 K2.2) (fun c => absurd K2.1 c)
theorem lawc_4 (hS : Scr X b L s) (hi : i + 6 ≤ L) (hok : ZOk 104 σ) (h1 : d1 ≤ 1209) (h2 : d2 ≤ 1209) (K : ZkI X M_X9_read d1 104 [.ref (zB X + 0)] σ (fun v σ1 => ZkI X M_X10_read d2 104 [.ref (zB X + 73)] σ1 (fun w σ2 => v = w ∧ Rel σ2 G))) (nx : ∀ σ', ZOk 104 σ' → Rel σ' G → Zm X (M_law nm) room_1 lw_Z 0 104 923 [some (.ref b), some (.ref (zB X + 0)), some (.ref (zB X + 73)), some (iV (i : Int))] [] σ') : Zm X (M_law nm) room_1 lw_Z 0 104 298 [some (.ref b), some (.ref (zB X + 0)), some (.ref (zB X + 73)), some (iV (i : Int))] [] σ := by
  refine r_aload_n dL_law_298 rfl ?_
  refine n_callV (d := d1) (N := M_X9_read) (As := []) (st := []) dL_law_299 mk_X9_read km_law_32 kd_X9_read rfl (by decide) sh_0 (q := (RX9, TX9, 14)) rfl rfl (zR h1 (Nat.le_refl 104)) (Nat.le_of_ble_eq_true rfl) rfl hok K ?_
  rintro _ σ1 k1 ⟨v1, rfl, r1, K1⟩
  change Zm _ _ _ _ _ _ 302 _ [iV v1] _
  refine r_aload_n dL_law_302 rfl ?_
  refine n_callV (d := d2) (N := M_X10_read) (As := []) (st := [iV v1]) dL_law_303 mk_X10_read km_law_36 kd_X10_read rfl (by decide) sh_73 (q := (RX10, TX10, 52)) rfl rfl (zR h2 (Nat.le_refl 104)) (Nat.le_of_ble_eq_true rfl) rfl k1 K1 ?_
  rintro _ σ2 k2 ⟨v2, rfl, r2, K2⟩
  change Zm _ _ _ _ _ _ 306 _ [iV v2, iV v1] _
  exact r_icmp_eq (t := 923) dL_law_306 rfl r1 r2 (fun _ => nx σ2 k2 K2.2) (fun c => absurd K2.1 c)
theorem lawc_5 (hS : Scr X b L s) (hi : i + 6 ≤ L) (hok : ZOk 104 σ) (h1 : d1 ≤ 1209) (h2 : d2 ≤ 1209) (K : ZkI X M_X9_place d1 104 [.ref (zB X + 0)] σ (fun v σ1 => ZkI X M_X10_place d2 104 [.ref (zB X + 73)] σ1 (fun w σ2 => v = w ∧ Rel σ2 G))) (nx : ∀ σ', ZOk 104 σ' → Rel σ' G → Zm X (M_law nm) room_1 lw_Z 0 104 923 [some (.ref b), some (.ref (zB X + 0)), some (.ref (zB X + 73)), some (iV (i : Int))] [] σ') : Zm X (M_law nm) room_1 lw_Z 0 104 311 [some (.ref b), some (.ref (zB X + 0)), some (.ref (zB X + 73)), some (iV (i : Int))] [] σ := by
  refine r_aload_n dL_law_311 rfl ?_
  refine n_callV (d := d1) (N := M_X9_place) (As := []) (st := []) dL_law_312 mk_X9_place km_law_37 kd_X9_place rfl (by decide) sh_0 (q := (RX9, TX9, 14)) rfl rfl (zR h1 (Nat.le_refl 104)) (Nat.le_of_ble_eq_true rfl) rfl hok K ?_
  rintro _ σ1 k1 ⟨v1, rfl, r1, K1⟩
  change Zm _ _ _ _ _ _ 315 _ [iV v1] _
  refine r_aload_n dL_law_315 rfl ?_
  refine n_callV (d := d2) (N := M_X10_place) (As := []) (st := [iV v1]) dL_law_316 mk_X10_place km_law_40 kd_X10_place rfl (by decide) sh_73 (q := (RX10, TX10, 52)) rfl rfl (zR h2 (Nat.le_refl 104)) (Nat.le_of_ble_eq_true rfl) rfl k1 K1 ?_
  rintro _ σ2 k2 ⟨v2, rfl, r2, K2⟩
  change Zm _ _ _ _ _ _ 319 _ [iV v2, iV v1] _
  exact r_icmp_eq (t := 923) dL_law_319 rfl r1 r2 (fun _ => nx σ2 k2 K2.2) (fun c => absurd K2.1 c)
theorem lawc_6 (hS : Scr X b L s) (hi : i + 6 ≤ L) (hok : ZOk 104 σ) (h1 : d1 ≤ 1209) (h2 : d2 ≤ 1209) (K : ZkI X M_X9_write d1 104 [.ref (zB X + 0)] σ (fun v σ1 => ZkI X M_X10_write d2 104 [.ref (zB X + 73)] σ1 (fun w σ2 => v = w ∧ Rel σ2 G))) (nx : ∀ σ', ZOk 104 σ' → Rel σ' G → Zm X (M_law nm) room_1 lw_Z 0 104 923 [some (.ref b), some (.ref (zB X + 0)), some (.ref (zB X + 73)), some (iV (i : Int))] [] σ') : Zm X (M_law nm) room_1 lw_Z 0 104 324 [some (.ref b), some (.ref (zB X + 0)), some (.ref (zB X + 73)), some (iV (i : Int))] [] σ := by
  refine r_aload_n dL_law_324 rfl ?_
  refine n_callV (d := d1) (N := M_X9_write) (As := []) (st := []) dL_law_325 mk_X9_write km_law_41 kd_X9_write rfl (by decide) sh_0 (q := (RX9, TX9, 14)) rfl rfl (zR h1 (Nat.le_refl 104)) (Nat.le_of_ble_eq_true rfl) rfl hok K ?_
  rintro _ σ1 k1 ⟨v1, rfl, r1, K1⟩
  change Zm _ _ _ _ _ _ 328 _ [iV v1] _
  refine r_aload_n dL_law_328 rfl ?_
  refine n_callV (d := d2) (N := M_X10_write) (As := []) (st := [iV v1]) dL_law_329 mk_X10_write km_law_44 kd_X10_write rfl (by decide) sh_73 (q := (RX10, TX10, 52)) rfl rfl (zR h2 (Nat.le_refl 104)) (Nat.le_of_ble_eq_true rfl) rfl k1 K1 ?_
  rintro _ σ2 k2 ⟨v2, rfl, r2, K2⟩
  change Zm _ _ _ _ _ _ 332 _ [iV v2, iV v1] _
  exact r_icmp_eq (t := 923) dL_law_332 rfl r1 r2 (fun _ => nx σ2 k2 K2.2) (fun c => absurd K2.1 c)
theorem lawc_7 (hS : Scr X b L s) (hi : i + 6 ≤ L) (hok : ZOk 104 σ) (h1 : d1 ≤ 1209) (h2 : d2 ≤ 1209) (K : ZkI X M_X9_octet d1 104 [.ref (zB X + 0), iV (s (i + 1))] σ (fun v σ1 => ZkI X M_X10_octet d2 104 [.ref (zB X + 73), iV (s (i + 1))] σ1 (fun w σ2 => v = w ∧ Rel σ2 G))) (nx : ∀ σ', ZOk 104 σ' → Rel σ' G → Zm X (M_law nm) room_1 lw_Z 0 104 923 [some (.ref b), some (.ref (zB X + 0)), some (.ref (zB X + 73)), some (iV (i : Int))] [] σ') : Zm X (M_law nm) room_1 lw_Z 0 104 337 [some (.ref b), some (.ref (zB X + 0)), some (.ref (zB X + 73)), some (iV (i : Int))] [] σ := by
  refine r_aload_n dL_law_337 rfl ?_
  refine r_aload_n dL_law_338 rfl ?_
  refine r_iload_n dL_law_339 rfl ?_
  refine r_iconst dL_law_340 ?_
  refine r_iadd dL_law_341 ?_
  refine r_sc (i := i) (k := 1) hS dL_law_342 rfl (by omega) ?_
  refine n_callV (d := d1) (N := M_X9_octet) (As := [iV (s (i + 1))]) (st := []) dL_law_343 mk_X9_octet km_law_45 kd_X9_octet rfl (by decide) sh_0 (q := (RX9, TX9, 14)) rfl rfl (zR h1 (Nat.le_refl 104)) (Nat.le_of_ble_eq_true rfl) rfl hok K ?_
  rintro _ σ1 k1 ⟨v1, rfl, r1, K1⟩
  change Zm _ _ _ _ _ _ 346 _ [iV v1] _
  refine r_aload_n dL_law_346 rfl ?_
  refine r_aload_n dL_law_347 rfl ?_
  refine r_iload_n dL_law_348 rfl ?_
  refine r_iconst dL_law_349 ?_
  refine r_iadd dL_law_350 ?_
  refine r_sc (i := i) (k := 1) hS dL_law_351 rfl (by omega) ?_
  refine n_callV (d := d2) (N := M_X10_octet) (As := [iV (s (i + 1))]) (st := [iV v1]) dL_law_352 mk_X10_octet km_law_48 kd_X10_octet rfl (by decide) sh_73 (q := (RX10, TX10, 52)) rfl rfl (zR h2 (Nat.le_refl 104)) (Nat.le_of_ble_eq_true rfl) rfl k1 K1 ?_
  rintro _ σ2 k2 ⟨v2, rfl, r2, K2⟩
  change Zm _ _ _ _ _ _ 355 _ [iV v2, iV v1] _
  exact r_icmp_eq (t := 923) dL_law_355 rfl r1 r2 (fun _ => nx σ2 k2 K2.2) (fun c => absurd K2.1 c)
theorem lawc_8 (hS : Scr X b L s) (hi : i + 6 ≤ L) (hok : ZOk 104 σ) (h1 : d1 ≤ 1209) (h2 : d2 ≤ 1209) (K : ZkI X M_X9_let d1 104 [.ref (zB X + 0), iV (s (i + 1))] σ (fun v σ1 => ZkI X M_X10_let d2 104 [.ref (zB X + 73), iV (s (i + 1))] σ1 (fun w σ2 => v = w ∧ Rel σ2 G))) (nx : ∀ σ', ZOk 104 σ' → Rel σ' G → Zm X (M_law nm) room_1 lw_Z 0 104 923 [some (.ref b), some (.ref (zB X + 0)), some (.ref (zB X + 73)), some (iV (i : Int))] [] σ') : Zm X (M_law nm) room_1 lw_Z 0 104 360 [some (.ref b), some (.ref (zB X + 0)), some (.ref (zB X + 73)), some (iV (i : Int))] [] σ := by
  refine r_aload_n dL_law_360 rfl ?_
  refine r_aload_n dL_law_361 rfl ?_
  refine r_iload_n dL_law_362 rfl ?_
  refine r_iconst dL_law_363 ?_
  refine r_iadd dL_law_364 ?_
  refine r_sc (i := i) (k := 1) hS dL_law_365 rfl (by omega) ?_
  refine n_callV (d := d1) (N := M_X9_let) (As := [iV (s (i + 1))]) (st := []) dL_law_366 mk_X9_let km_law_49 kd_X9_let rfl (by decide) sh_0 (q := (RX9, TX9, 14)) rfl rfl (zR h1 (Nat.le_refl 104)) (Nat.le_of_ble_eq_true rfl) rfl hok K ?_
  rintro _ σ1 k1 ⟨v1, rfl, r1, K1⟩
  change Zm _ _ _ _ _ _ 369 _ [iV v1] _
  refine r_aload_n dL_law_369 rfl ?_
  refine r_aload_n dL_law_370 rfl ?_
  refine r_iload_n dL_law_371 rfl ?_
  refine r_iconst dL_law_372 ?_
  refine r_iadd dL_law_373 ?_
  refine r_sc (i := i) (k := 1) hS dL_law_374 rfl (by omega) ?_
  refine n_callV (d := d2) (N := M_X10_let) (As := [iV (s (i + 1))]) (st := [iV v1]) dL_law_375 mk_X10_let km_law_52 kd_X10_let rfl (by decide) sh_73 (q := (RX10, TX10, 52)) rfl rfl (zR h2 (Nat.le_refl 104)) (Nat.le_of_ble_eq_true rfl) rfl k1 K1 ?_
  rintro _ σ2 k2 ⟨v2, rfl, r2, K2⟩
  change Zm _ _ _ _ _ _ 378 _ [iV v2, iV v1] _
  exact r_icmp_eq (t := 923) dL_law_378 rfl r1 r2 (fun _ => nx σ2 k2 K2.2) (fun c => absurd K2.1 c)
theorem lawc_9 (hS : Scr X b L s) (hi : i + 6 ≤ L) (hok : ZOk 104 σ) (h1 : d1 ≤ 1209) (h2 : d2 ≤ 1209) (K : ZkI X M_X9_play d1 104 [.ref (zB X + 0), iV (s (i + 1))] σ (fun v σ1 => ZkI X M_X10_play d2 104 [.ref (zB X + 73), iV (s (i + 1))] σ1 (fun w σ2 => v = w ∧ Rel σ2 G))) (nx : ∀ σ', ZOk 104 σ' → Rel σ' G → Zm X (M_law nm) room_1 lw_Z 0 104 923 [some (.ref b), some (.ref (zB X + 0)), some (.ref (zB X + 73)), some (iV (i : Int))] [] σ') : Zm X (M_law nm) room_1 lw_Z 0 104 383 [some (.ref b), some (.ref (zB X + 0)), some (.ref (zB X + 73)), some (iV (i : Int))] [] σ := by
  refine r_aload_n dL_law_383 rfl ?_
  refine r_aload_n dL_law_384 rfl ?_
  refine r_iload_n dL_law_385 rfl ?_
  refine r_iconst dL_law_386 ?_
  refine r_iadd dL_law_387 ?_
  refine r_sc (i := i) (k := 1) hS dL_law_388 rfl (by omega) ?_
  refine n_callV (d := d1) (N := M_X9_play) (As := [iV (s (i + 1))]) (st := []) dL_law_389 mk_X9_play km_law_53 kd_X9_play rfl (by decide) sh_0 (q := (RX9, TX9, 14)) rfl rfl (zR h1 (Nat.le_refl 104)) (Nat.le_of_ble_eq_true rfl) rfl hok K ?_
  rintro _ σ1 k1 ⟨v1, rfl, r1, K1⟩
  change Zm _ _ _ _ _ _ 392 _ [iV v1] _
  refine r_aload_n dL_law_392 rfl ?_
  refine r_aload_n dL_law_393 rfl ?_
  refine r_iload_n dL_law_394 rfl ?_
  refine r_iconst dL_law_395 ?_
  refine r_iadd dL_law_396 ?_
  refine r_sc (i := i) (k := 1) hS dL_law_397 rfl (by omega) ?_
  refine n_callV (d := d2) (N := M_X10_play) (As := [iV (s (i + 1))]) (st := [iV v1]) dL_law_398 mk_X10_play km_law_56 kd_X10_play rfl (by decide) sh_73 (q := (RX10, TX10, 52)) rfl rfl (zR h2 (Nat.le_refl 104)) (Nat.le_of_ble_eq_true rfl) rfl k1 K1 ?_
  rintro _ σ2 k2 ⟨v2, rfl, r2, K2⟩
  change Zm _ _ _ _ _ _ 401 _ [iV v2, iV v1] _
  exact r_icmp_eq (t := 923) dL_law_401 rfl r1 r2 (fun _ => nx σ2 k2 K2.2) (fun c => absurd K2.1 c)
theorem lawc_10 (hS : Scr X b L s) (hi : i + 6 ≤ L) (hok : ZOk 104 σ) (h1 : d1 ≤ 1209) (h2 : d2 ≤ 1209) (K : ZkI X M_X9_back d1 104 [.ref (zB X + 0), iV (s (i + 1))] σ (fun v σ1 => ZkI X M_X10_back d2 104 [.ref (zB X + 73), iV (s (i + 1))] σ1 (fun w σ2 => v = w ∧ Rel σ2 G))) (nx : ∀ σ', ZOk 104 σ' → Rel σ' G → Zm X (M_law nm) room_1 lw_Z 0 104 923 [some (.ref b), some (.ref (zB X + 0)), some (.ref (zB X + 73)), some (iV (i : Int))] [] σ') : Zm X (M_law nm) room_1 lw_Z 0 104 406 [some (.ref b), some (.ref (zB X + 0)), some (.ref (zB X + 73)), some (iV (i : Int))] [] σ := by
  refine r_aload_n dL_law_406 rfl ?_
  refine r_aload_n dL_law_407 rfl ?_
  refine r_iload_n dL_law_408 rfl ?_
  refine r_iconst dL_law_409 ?_
  refine r_iadd dL_law_410 ?_
  refine r_sc (i := i) (k := 1) hS dL_law_411 rfl (by omega) ?_
  refine n_callV (d := d1) (N := M_X9_back) (As := [iV (s (i + 1))]) (st := []) dL_law_412 mk_X9_back km_law_57 kd_X9_back rfl (by decide) sh_0 (q := (RX9, TX9, 14)) rfl rfl (zR h1 (Nat.le_refl 104)) (Nat.le_of_ble_eq_true rfl) rfl hok K ?_
  rintro _ σ1 k1 ⟨v1, rfl, r1, K1⟩
  change Zm _ _ _ _ _ _ 415 _ [iV v1] _
  refine r_aload_n dL_law_415 rfl ?_
  refine r_aload_n dL_law_416 rfl ?_
  refine r_iload_n dL_law_417 rfl ?_
  refine r_iconst dL_law_418 ?_
  refine r_iadd dL_law_419 ?_
  refine r_sc (i := i) (k := 1) hS dL_law_420 rfl (by omega) ?_
  refine n_callV (d := d2) (N := M_X10_back) (As := [iV (s (i + 1))]) (st := [iV v1]) dL_law_421 mk_X10_back km_law_60 kd_X10_back rfl (by decide) sh_73 (q := (RX10, TX10, 52)) rfl rfl (zR h2 (Nat.le_refl 104)) (Nat.le_of_ble_eq_true rfl) rfl k1 K1 ?_
  rintro _ σ2 k2 ⟨v2, rfl, r2, K2⟩
  change Zm _ _ _ _ _ _ 424 _ [iV v2, iV v1] _
  exact r_icmp_eq (t := 923) dL_law_424 rfl r1 r2 (fun _ => nx σ2 k2 K2.2) (fun c => absurd K2.1 c)
theorem lawc_11 (hS : Scr X b L s) (hi : i + 6 ≤ L) (hok : ZOk 104 σ) (h1 : d1 ≤ 1209) (h2 : d2 ≤ 1209) (K : ZkZ X M_X9_on d1 104 [.ref (zB X + 0), iV (s (i + 1))] σ (fun v σ1 => ZkZ X M_X10_on d2 104 [.ref (zB X + 73), iV (s (i + 1))] σ1 (fun w σ2 => v = w ∧ Rel σ2 G))) (nx : ∀ σ', ZOk 104 σ' → Rel σ' G → Zm X (M_law nm) room_1 lw_Z 0 104 923 [some (.ref b), some (.ref (zB X + 0)), some (.ref (zB X + 73)), some (iV (i : Int))] [] σ') : Zm X (M_law nm) room_1 lw_Z 0 104 429 [some (.ref b), some (.ref (zB X + 0)), some (.ref (zB X + 73)), some (iV (i : Int))] [] σ := by
  refine r_aload_n dL_law_429 rfl ?_
  refine r_aload_n dL_law_430 rfl ?_
  refine r_iload_n dL_law_431 rfl ?_
  refine r_iconst dL_law_432 ?_
  refine r_iadd dL_law_433 ?_
  refine r_sc (i := i) (k := 1) hS dL_law_434 rfl (by omega) ?_
  refine n_callV (d := d1) (N := M_X9_on) (As := [iV (s (i + 1))]) (st := []) dL_law_435 mk_X9_on km_law_61 kd_X9_on rfl (by decide) sh_0 (q := (RX9, TX9, 14)) rfl rfl (zR h1 (Nat.le_refl 104)) (Nat.le_of_ble_eq_true rfl) rfl hok K ?_
  rintro _ σ1 k1 ⟨v1, rfl, r1, K1⟩
  change Zm _ _ _ _ _ _ 438 _ [iV v1] _
  refine r_aload_n dL_law_438 rfl ?_
  refine r_aload_n dL_law_439 rfl ?_
  refine r_iload_n dL_law_440 rfl ?_
  refine r_iconst dL_law_441 ?_
  refine r_iadd dL_law_442 ?_
  refine r_sc (i := i) (k := 1) hS dL_law_443 rfl (by omega) ?_
  refine n_callV (d := d2) (N := M_X10_on) (As := [iV (s (i + 1))]) (st := [iV v1]) dL_law_444 mk_X10_on km_law_65 kd_X10_on rfl (by decide) sh_73 (q := (RX10, TX10, 52)) rfl rfl (zR h2 (Nat.le_refl 104)) (Nat.le_of_ble_eq_true rfl) rfl k1 K1 ?_
  rintro _ σ2 k2 ⟨v2, rfl, r2, K2⟩
  change Zm _ _ _ _ _ _ 447 _ [iV v2, iV v1] _
  exact r_icmp_eq (t := 923) dL_law_447 rfl (r32_z r1) (r32_z r2) (fun _ => nx σ2 k2 K2.2) (fun c => absurd K2.1 c)
theorem lawc_12 (hS : Scr X b L s) (hi : i + 6 ≤ L) (hok : ZOk 104 σ) (h1 : d1 ≤ 1209) (h2 : d2 ≤ 1209) (K : ZkZ X M_X9_to d1 104 [.ref (zB X + 0), iV (s (i + 1))] σ (fun v σ1 => ZkZ X M_X10_to d2 104 [.ref (zB X + 73), iV (s (i + 1))] σ1 (fun w σ2 => v = w ∧ Rel σ2 G))) (nx : ∀ σ', ZOk 104 σ' → Rel σ' G → Zm X (M_law nm) room_1 lw_Z 0 104 923 [some (.ref b), some (.ref (zB X + 0)), some (.ref (zB X + 73)), some (iV (i : Int))] [] σ') : Zm X (M_law nm) room_1 lw_Z 0 104 452 [some (.ref b), some (.ref (zB X + 0)), some (.ref (zB X + 73)), some (iV (i : Int))] [] σ := by
  refine r_aload_n dL_law_452 rfl ?_
  refine r_aload_n dL_law_453 rfl ?_
  refine r_iload_n dL_law_454 rfl ?_
  refine r_iconst dL_law_455 ?_
  refine r_iadd dL_law_456 ?_
  refine r_sc (i := i) (k := 1) hS dL_law_457 rfl (by omega) ?_
  refine n_callV (d := d1) (N := M_X9_to) (As := [iV (s (i + 1))]) (st := []) dL_law_458 mk_X9_to km_law_66 kd_X9_to rfl (by decide) sh_0 (q := (RX9, TX9, 14)) rfl rfl (zR h1 (Nat.le_refl 104)) (Nat.le_of_ble_eq_true rfl) rfl hok K ?_
  rintro _ σ1 k1 ⟨v1, rfl, r1, K1⟩
  change Zm _ _ _ _ _ _ 461 _ [iV v1] _
  refine r_aload_n dL_law_461 rfl ?_
  refine r_aload_n dL_law_462 rfl ?_
  refine r_iload_n dL_law_463 rfl ?_
  refine r_iconst dL_law_464 ?_
  refine r_iadd dL_law_465 ?_
  refine r_sc (i := i) (k := 1) hS dL_law_466 rfl (by omega) ?_
  refine n_callV (d := d2) (N := M_X10_to) (As := [iV (s (i + 1))]) (st := [iV v1]) dL_law_467 mk_X10_to km_law_69 kd_X10_to rfl (by decide) sh_73 (q := (RX10, TX10, 52)) rfl rfl (zR h2 (Nat.le_refl 104)) (Nat.le_of_ble_eq_true rfl) rfl k1 K1 ?_
  rintro _ σ2 k2 ⟨v2, rfl, r2, K2⟩
  change Zm _ _ _ _ _ _ 470 _ [iV v2, iV v1] _
  exact r_icmp_eq (t := 923) dL_law_470 rfl (r32_z r1) (r32_z r2) (fun _ => nx σ2 k2 K2.2) (fun c => absurd K2.1 c)
theorem lawc_13 (hS : Scr X b L s) (hi : i + 6 ≤ L) (hok : ZOk 104 σ) (h1 : d1 ≤ 1209) (h2 : d2 ≤ 1209) (K : ZkI X M_X9_node d1 104 [.ref (zB X + 0), iV (s (i + 1)), iV (s (i + 2))] σ (fun v σ1 => ZkI X M_X10_node d2 104 [.ref (zB X + 73), iV (s (i + 1)), iV (s (i + 2))] σ1 (fun w σ2 => v = w ∧ Rel σ2 G))) (nx : ∀ σ', ZOk 104 σ' → Rel σ' G → Zm X (M_law nm) room_1 lw_Z 0 104 923 [some (.ref b), some (.ref (zB X + 0)), some (.ref (zB X + 73)), some (iV (i : Int))] [] σ') : Zm X (M_law nm) room_1 lw_Z 0 104 475 [some (.ref b), some (.ref (zB X + 0)), some (.ref (zB X + 73)), some (iV (i : Int))] [] σ := by
  refine r_aload_n dL_law_475 rfl ?_
  refine r_aload_n dL_law_476 rfl ?_
  refine r_iload_n dL_law_477 rfl ?_
  refine r_iconst dL_law_478 ?_
  refine r_iadd dL_law_479 ?_
  refine r_sc (i := i) (k := 1) hS dL_law_480 rfl (by omega) ?_
  refine r_aload_n dL_law_481 rfl ?_
  refine r_iload_n dL_law_482 rfl ?_
  refine r_iconst dL_law_483 ?_
  refine r_iadd dL_law_484 ?_
  refine r_sc (i := i) (k := 2) hS dL_law_485 rfl (by omega) ?_
  refine n_callV (d := d1) (N := M_X9_node) (As := [iV (s (i + 1)), iV (s (i + 2))]) (st := []) dL_law_486 mk_X9_node km_law_70 kd_X9_node rfl (by decide) sh_0 (q := (RX9, TX9, 14)) rfl rfl (zR h1 (Nat.le_refl 104)) (Nat.le_of_ble_eq_true rfl) rfl hok K ?_
  rintro _ σ1 k1 ⟨v1, rfl, r1, K1⟩
  change Zm _ _ _ _ _ _ 489 _ [iV v1] _
  refine r_aload_n dL_law_489 rfl ?_
  refine r_aload_n dL_law_490 rfl ?_
  refine r_iload_n dL_law_491 rfl ?_
  refine r_iconst dL_law_492 ?_
  refine r_iadd dL_law_493 ?_
  refine r_sc (i := i) (k := 1) hS dL_law_494 rfl (by omega) ?_
  refine r_aload_n dL_law_495 rfl ?_
  refine r_iload_n dL_law_496 rfl ?_
  refine r_iconst dL_law_497 ?_
  refine r_iadd dL_law_498 ?_
  refine r_sc (i := i) (k := 2) hS dL_law_499 rfl (by omega) ?_
  refine n_callV (d := d2) (N := M_X10_node) (As := [iV (s (i + 1)), iV (s (i + 2))]) (st := [iV v1]) dL_law_500 mk_X10_node km_law_74 kd_X10_node rfl (by decide) sh_73 (q := (RX10, TX10, 52)) rfl rfl (zR h2 (Nat.le_refl 104)) (Nat.le_of_ble_eq_true rfl) rfl k1 K1 ?_
  rintro _ σ2 k2 ⟨v2, rfl, r2, K2⟩
  change Zm _ _ _ _ _ _ 503 _ [iV v2, iV v1] _
  exact r_icmp_eq (t := 923) dL_law_503 rfl r1 r2 (fun _ => nx σ2 k2 K2.2) (fun c => absurd K2.1 c)
theorem lawc_14 (hS : Scr X b L s) (hi : i + 6 ≤ L) (hok : ZOk 104 σ) (h1 : d1 ≤ 1209) (h2 : d2 ≤ 1209) (K : ZkI X M_X9_at d1 104 [.ref (zB X + 0), iV (s (i + 1))] σ (fun v σ1 => ZkI X M_X10_at d2 104 [.ref (zB X + 73), iV (s (i + 1))] σ1 (fun w σ2 => v = w ∧ Rel σ2 G))) (nx : ∀ σ', ZOk 104 σ' → Rel σ' G → Zm X (M_law nm) room_1 lw_Z 0 104 923 [some (.ref b), some (.ref (zB X + 0)), some (.ref (zB X + 73)), some (iV (i : Int))] [] σ') : Zm X (M_law nm) room_1 lw_Z 0 104 508 [some (.ref b), some (.ref (zB X + 0)), some (.ref (zB X + 73)), some (iV (i : Int))] [] σ := by
  refine r_aload_n dL_law_508 rfl ?_
  refine r_aload_n dL_law_509 rfl ?_
  refine r_iload_n dL_law_510 rfl ?_
  refine r_iconst dL_law_511 ?_
  refine r_iadd dL_law_512 ?_
  refine r_sc (i := i) (k := 1) hS dL_law_513 rfl (by omega) ?_
  refine n_callV (d := d1) (N := M_X9_at) (As := [iV (s (i + 1))]) (st := []) dL_law_514 mk_X9_at km_law_75 kd_X9_at rfl (by decide) sh_0 (q := (RX9, TX9, 14)) rfl rfl (zR h1 (Nat.le_refl 104)) (Nat.le_of_ble_eq_true rfl) rfl hok K ?_
  rintro _ σ1 k1 ⟨v1, rfl, r1, K1⟩
  change Zm _ _ _ _ _ _ 517 _ [iV v1] _
  refine r_aload_n dL_law_517 rfl ?_
  refine r_aload_n dL_law_518 rfl ?_
  refine r_iload_n dL_law_519 rfl ?_
  refine r_iconst dL_law_520 ?_
  refine r_iadd dL_law_521 ?_
  refine r_sc (i := i) (k := 1) hS dL_law_522 rfl (by omega) ?_
  refine n_callV (d := d2) (N := M_X10_at) (As := [iV (s (i + 1))]) (st := [iV v1]) dL_law_523 mk_X10_at km_law_78 kd_X10_at rfl (by decide) sh_73 (q := (RX10, TX10, 52)) rfl rfl (zR h2 (Nat.le_refl 104)) (Nat.le_of_ble_eq_true rfl) rfl k1 K1 ?_
  rintro _ σ2 k2 ⟨v2, rfl, r2, K2⟩
  change Zm _ _ _ _ _ _ 526 _ [iV v2, iV v1] _
  exact r_icmp_eq (t := 923) dL_law_526 rfl r1 r2 (fun _ => nx σ2 k2 K2.2) (fun c => absurd K2.1 c)
theorem lawc_15 (hS : Scr X b L s) (hi : i + 6 ≤ L) (hok : ZOk 104 σ) (h1 : d1 ≤ 1209) (h2 : d2 ≤ 1209) (K : ZkI X M_X9_chain d1 104 [.ref (zB X + 0), iV (s (i + 1)), iV (s (i + 2))] σ (fun v σ1 => ZkI X M_X10_chain d2 104 [.ref (zB X + 73), iV (s (i + 1)), iV (s (i + 2))] σ1 (fun w σ2 => v = w ∧ Rel σ2 G))) (nx : ∀ σ', ZOk 104 σ' → Rel σ' G → Zm X (M_law nm) room_1 lw_Z 0 104 923 [some (.ref b), some (.ref (zB X + 0)), some (.ref (zB X + 73)), some (iV (i : Int))] [] σ') : Zm X (M_law nm) room_1 lw_Z 0 104 531 [some (.ref b), some (.ref (zB X + 0)), some (.ref (zB X + 73)), some (iV (i : Int))] [] σ := by
  refine r_aload_n dL_law_531 rfl ?_
  refine r_aload_n dL_law_532 rfl ?_
  refine r_iload_n dL_law_533 rfl ?_
  refine r_iconst dL_law_534 ?_
  refine r_iadd dL_law_535 ?_
  refine r_sc (i := i) (k := 1) hS dL_law_536 rfl (by omega) ?_
  refine r_aload_n dL_law_537 rfl ?_
  refine r_iload_n dL_law_538 rfl ?_
  refine r_iconst dL_law_539 ?_
  refine r_iadd dL_law_540 ?_
  refine r_sc (i := i) (k := 2) hS dL_law_541 rfl (by omega) ?_
  refine n_callV (d := d1) (N := M_X9_chain) (As := [iV (s (i + 1)), iV (s (i + 2))]) (st := []) dL_law_542 mk_X9_chain km_law_79 kd_X9_chain rfl (by decide) sh_0 (q := (RX9, TX9, 14)) rfl rfl (zR h1 (Nat.le_refl 104)) (Nat.le_of_ble_eq_true rfl) rfl hok K ?_
  rintro _ σ1 k1 ⟨v1, rfl, r1, K1⟩
  change Zm _ _ _ _ _ _ 545 _ [iV v1] _
  refine r_aload_n dL_law_545 rfl ?_
  refine r_aload_n dL_law_546 rfl ?_
  refine r_iload_n dL_law_547 rfl ?_
  refine r_iconst dL_law_548 ?_
  refine r_iadd dL_law_549 ?_
  refine r_sc (i := i) (k := 1) hS dL_law_550 rfl (by omega) ?_
  refine r_aload_n dL_law_551 rfl ?_
  refine r_iload_n dL_law_552 rfl ?_
  refine r_iconst dL_law_553 ?_
  refine r_iadd dL_law_554 ?_
  refine r_sc (i := i) (k := 2) hS dL_law_555 rfl (by omega) ?_
  refine n_callV (d := d2) (N := M_X10_chain) (As := [iV (s (i + 1)), iV (s (i + 2))]) (st := [iV v1]) dL_law_556 mk_X10_chain km_law_82 kd_X10_chain rfl (by decide) sh_73 (q := (RX10, TX10, 52)) rfl rfl (zR h2 (Nat.le_refl 104)) (Nat.le_of_ble_eq_true rfl) rfl k1 K1 ?_
  rintro _ σ2 k2 ⟨v2, rfl, r2, K2⟩
  change Zm _ _ _ _ _ _ 559 _ [iV v2, iV v1] _
  exact r_icmp_eq (t := 923) dL_law_559 rfl r1 r2 (fun _ => nx σ2 k2 K2.2) (fun c => absurd K2.1 c)
theorem lawc_16 (hS : Scr X b L s) (hi : i + 6 ≤ L) (hok : ZOk 104 σ) (h1 : d1 ≤ 1209) (h2 : d2 ≤ 1209) (K : ZkI X M_X9_liberty d1 104 [.ref (zB X + 0), iV (s (i + 1)), iV (s (i + 2))] σ (fun v σ1 => ZkI X M_X10_liberty d2 104 [.ref (zB X + 73), iV (s (i + 1)), iV (s (i + 2))] σ1 (fun w σ2 => v = w ∧ Rel σ2 G))) (nx : ∀ σ', ZOk 104 σ' → Rel σ' G → Zm X (M_law nm) room_1 lw_Z 0 104 923 [some (.ref b), some (.ref (zB X + 0)), some (.ref (zB X + 73)), some (iV (i : Int))] [] σ') : Zm X (M_law nm) room_1 lw_Z 0 104 564 [some (.ref b), some (.ref (zB X + 0)), some (.ref (zB X + 73)), some (iV (i : Int))] [] σ := by
  refine r_aload_n dL_law_564 rfl ?_
  refine r_aload_n dL_law_565 rfl ?_
  refine r_iload_n dL_law_566 rfl ?_
  refine r_iconst dL_law_567 ?_
  refine r_iadd dL_law_568 ?_
  refine r_sc (i := i) (k := 1) hS dL_law_569 rfl (by omega) ?_
  refine r_aload_n dL_law_570 rfl ?_
  refine r_iload_n dL_law_571 rfl ?_
  refine r_iconst dL_law_572 ?_
  refine r_iadd dL_law_573 ?_
  refine r_sc (i := i) (k := 2) hS dL_law_574 rfl (by omega) ?_
  refine n_callV (d := d1) (N := M_X9_liberty) (As := [iV (s (i + 1)), iV (s (i + 2))]) (st := []) dL_law_575 mk_X9_liberty km_law_83 kd_X9_liberty rfl (by decide) sh_0 (q := (RX9, TX9, 14)) rfl rfl (zR h1 (Nat.le_refl 104)) (Nat.le_of_ble_eq_true rfl) rfl hok K ?_
  rintro _ σ1 k1 ⟨v1, rfl, r1, K1⟩
  change Zm _ _ _ _ _ _ 578 _ [iV v1] _
  refine r_aload_n dL_law_578 rfl ?_
  refine r_aload_n dL_law_579 rfl ?_
  refine r_iload_n dL_law_580 rfl ?_
  refine r_iconst dL_law_581 ?_
  refine r_iadd dL_law_582 ?_
  refine r_sc (i := i) (k := 1) hS dL_law_583 rfl (by omega) ?_
  refine r_aload_n dL_law_584 rfl ?_
  refine r_iload_n dL_law_585 rfl ?_
  refine r_iconst dL_law_586 ?_
  refine r_iadd dL_law_587 ?_
  refine r_sc (i := i) (k := 2) hS dL_law_588 rfl (by omega) ?_
  refine n_callV (d := d2) (N := M_X10_liberty) (As := [iV (s (i + 1)), iV (s (i + 2))]) (st := [iV v1]) dL_law_589 mk_X10_liberty km_law_86 kd_X10_liberty rfl (by decide) sh_73 (q := (RX10, TX10, 52)) rfl rfl (zR h2 (Nat.le_refl 104)) (Nat.le_of_ble_eq_true rfl) rfl k1 K1 ?_
  rintro _ σ2 k2 ⟨v2, rfl, r2, K2⟩
  change Zm _ _ _ _ _ _ 592 _ [iV v2, iV v1] _
  exact r_icmp_eq (t := 923) dL_law_592 rfl r1 r2 (fun _ => nx σ2 k2 K2.2) (fun c => absurd K2.1 c)
theorem lawc_17 (hS : Scr X b L s) (hi : i + 6 ≤ L) (hok : ZOk 104 σ) (h1 : d1 ≤ 1209) (h2 : d2 ≤ 1209) (K : ZkI X M_X9_region d1 104 [.ref (zB X + 0), iV (s (i + 1)), iV (s (i + 2)), iV (s (i + 3))] σ (fun v σ1 => ZkI X M_X10_region d2 104 [.ref (zB X + 73), iV (s (i + 1)), iV (s (i + 2)), iV (s (i + 3))] σ1 (fun w σ2 => v = w ∧ Rel σ2 G))) (nx : ∀ σ', ZOk 104 σ' → Rel σ' G → Zm X (M_law nm) room_1 lw_Z 0 104 923 [some (.ref b), some (.ref (zB X + 0)), some (.ref (zB X + 73)), some (iV (i : Int))] [] σ') : Zm X (M_law nm) room_1 lw_Z 0 104 597 [some (.ref b), some (.ref (zB X + 0)), some (.ref (zB X + 73)), some (iV (i : Int))] [] σ := by
  refine r_aload_n dL_law_597 rfl ?_
  refine r_aload_n dL_law_598 rfl ?_
  refine r_iload_n dL_law_599 rfl ?_
  refine r_iconst dL_law_600 ?_
  refine r_iadd dL_law_601 ?_
  refine r_sc (i := i) (k := 1) hS dL_law_602 rfl (by omega) ?_
  refine r_aload_n dL_law_603 rfl ?_
  refine r_iload_n dL_law_604 rfl ?_
  refine r_iconst dL_law_605 ?_
  refine r_iadd dL_law_606 ?_
  refine r_sc (i := i) (k := 2) hS dL_law_607 rfl (by omega) ?_
  refine r_aload_n dL_law_608 rfl ?_
  refine r_iload_n dL_law_609 rfl ?_
  refine r_iconst dL_law_610 ?_
  refine r_iadd dL_law_611 ?_
  refine r_sc (i := i) (k := 3) hS dL_law_612 rfl (by omega) ?_
  refine n_callV (d := d1) (N := M_X9_region) (As := [iV (s (i + 1)), iV (s (i + 2)), iV (s (i + 3))]) (st := []) dL_law_613 mk_X9_region km_law_87 kd_X9_region rfl (by decide) sh_0 (q := (RX9, TX9, 14)) rfl rfl (zR h1 (Nat.le_refl 104)) (Nat.le_of_ble_eq_true rfl) rfl hok K ?_
  rintro _ σ1 k1 ⟨v1, rfl, r1, K1⟩
  change Zm _ _ _ _ _ _ 616 _ [iV v1] _
  refine r_aload_n dL_law_616 rfl ?_
  refine r_aload_n dL_law_617 rfl ?_
  refine r_iload_n dL_law_618 rfl ?_
  refine r_iconst dL_law_619 ?_
  refine r_iadd dL_law_620 ?_
  refine r_sc (i := i) (k := 1) hS dL_law_621 rfl (by omega) ?_
  refine r_aload_n dL_law_622 rfl ?_
  refine r_iload_n dL_law_623 rfl ?_
  refine r_iconst dL_law_624 ?_
  refine r_iadd dL_law_625 ?_
  refine r_sc (i := i) (k := 2) hS dL_law_626 rfl (by omega) ?_
  refine r_aload_n dL_law_627 rfl ?_
  refine r_iload_n dL_law_628 rfl ?_
  refine r_iconst dL_law_629 ?_
  refine r_iadd dL_law_630 ?_
  refine r_sc (i := i) (k := 3) hS dL_law_631 rfl (by omega) ?_
  refine n_callV (d := d2) (N := M_X10_region) (As := [iV (s (i + 1)), iV (s (i + 2)), iV (s (i + 3))]) (st := [iV v1]) dL_law_632 mk_X10_region km_law_91 kd_X10_region rfl (by decide) sh_73 (q := (RX10, TX10, 52)) rfl rfl (zR h2 (Nat.le_refl 104)) (Nat.le_of_ble_eq_true rfl) rfl k1 K1 ?_
  rintro _ σ2 k2 ⟨v2, rfl, r2, K2⟩
  change Zm _ _ _ _ _ _ 635 _ [iV v2, iV v1] _
  exact r_icmp_eq (t := 923) dL_law_635 rfl r1 r2 (fun _ => nx σ2 k2 K2.2) (fun c => absurd K2.1 c)
theorem lawc_18 (hS : Scr X b L s) (hi : i + 6 ≤ L) (hok : ZOk 104 σ) (h1 : d1 ≤ 1209) (h2 : d2 ≤ 1209) (K : ZkI X M_X9_ladder d1 104 [.ref (zB X + 0), iV (s (i + 1))] σ (fun v σ1 => ZkI X M_X10_ladder d2 104 [.ref (zB X + 73), iV (s (i + 1))] σ1 (fun w σ2 => v = w ∧ Rel σ2 G))) (nx : ∀ σ', ZOk 104 σ' → Rel σ' G → Zm X (M_law nm) room_1 lw_Z 0 104 923 [some (.ref b), some (.ref (zB X + 0)), some (.ref (zB X + 73)), some (iV (i : Int))] [] σ') : Zm X (M_law nm) room_1 lw_Z 0 104 640 [some (.ref b), some (.ref (zB X + 0)), some (.ref (zB X + 73)), some (iV (i : Int))] [] σ := by
  refine r_aload_n dL_law_640 rfl ?_
  refine r_aload_n dL_law_641 rfl ?_
  refine r_iload_n dL_law_642 rfl ?_
  refine r_iconst dL_law_643 ?_
  refine r_iadd dL_law_644 ?_
  refine r_sc (i := i) (k := 1) hS dL_law_645 rfl (by omega) ?_
  refine n_callV (d := d1) (N := M_X9_ladder) (As := [iV (s (i + 1))]) (st := []) dL_law_646 mk_X9_ladder km_law_92 kd_X9_ladder rfl (by decide) sh_0 (q := (RX9, TX9, 14)) rfl rfl (zR h1 (Nat.le_refl 104)) (Nat.le_of_ble_eq_true rfl) rfl hok K ?_
  rintro _ σ1 k1 ⟨v1, rfl, r1, K1⟩
  change Zm _ _ _ _ _ _ 649 _ [iV v1] _
  refine r_aload_n dL_law_649 rfl ?_
  refine r_aload_n dL_law_650 rfl ?_
  refine r_iload_n dL_law_651 rfl ?_
  refine r_iconst dL_law_652 ?_
  refine r_iadd dL_law_653 ?_
  refine r_sc (i := i) (k := 1) hS dL_law_654 rfl (by omega) ?_
  refine n_callV (d := d2) (N := M_X10_ladder) (As := [iV (s (i + 1))]) (st := [iV v1]) dL_law_655 mk_X10_ladder km_law_95 kd_X10_ladder rfl (by decide) sh_73 (q := (RX10, TX10, 52)) rfl rfl (zR h2 (Nat.le_refl 104)) (Nat.le_of_ble_eq_true rfl) rfl k1 K1 ?_
  rintro _ σ2 k2 ⟨v2, rfl, r2, K2⟩
  change Zm _ _ _ _ _ _ 658 _ [iV v2, iV v1] _
  exact r_icmp_eq (t := 923) dL_law_658 rfl r1 r2 (fun _ => nx σ2 k2 K2.2) (fun c => absurd K2.1 c)
theorem lawc_19 (hS : Scr X b L s) (hi : i + 6 ≤ L) (hok : ZOk 104 σ) (h1 : d1 ≤ 1209) (h2 : d2 ≤ 1209) (K : ZkI X M_X9_steps d1 104 [.ref (zB X + 0), iV (s (i + 1))] σ (fun v σ1 => ZkI X M_X10_steps d2 104 [.ref (zB X + 73), iV (s (i + 1))] σ1 (fun w σ2 => v = w ∧ Rel σ2 G))) (nx : ∀ σ', ZOk 104 σ' → Rel σ' G → Zm X (M_law nm) room_1 lw_Z 0 104 923 [some (.ref b), some (.ref (zB X + 0)), some (.ref (zB X + 73)), some (iV (i : Int))] [] σ') : Zm X (M_law nm) room_1 lw_Z 0 104 663 [some (.ref b), some (.ref (zB X + 0)), some (.ref (zB X + 73)), some (iV (i : Int))] [] σ := by
  refine r_aload_n dL_law_663 rfl ?_
  refine r_aload_n dL_law_664 rfl ?_
  refine r_iload_n dL_law_665 rfl ?_
  refine r_iconst dL_law_666 ?_
  refine r_iadd dL_law_667 ?_
  refine r_sc (i := i) (k := 1) hS dL_law_668 rfl (by omega) ?_
  refine n_callV (d := d1) (N := M_X9_steps) (As := [iV (s (i + 1))]) (st := []) dL_law_669 mk_X9_steps km_law_96 kd_X9_steps rfl (by decide) sh_0 (q := (RX9, TX9, 14)) rfl rfl (zR h1 (Nat.le_refl 104)) (Nat.le_of_ble_eq_true rfl) rfl hok K ?_
  rintro _ σ1 k1 ⟨v1, rfl, r1, K1⟩
  change Zm _ _ _ _ _ _ 672 _ [iV v1] _
  refine r_aload_n dL_law_672 rfl ?_
  refine r_aload_n dL_law_673 rfl ?_
  refine r_iload_n dL_law_674 rfl ?_
  refine r_iconst dL_law_675 ?_
  refine r_iadd dL_law_676 ?_
  refine r_sc (i := i) (k := 1) hS dL_law_677 rfl (by omega) ?_
  refine n_callV (d := d2) (N := M_X10_steps) (As := [iV (s (i + 1))]) (st := [iV v1]) dL_law_678 mk_X10_steps km_law_99 kd_X10_steps rfl (by decide) sh_73 (q := (RX10, TX10, 52)) rfl rfl (zR h2 (Nat.le_refl 104)) (Nat.le_of_ble_eq_true rfl) rfl k1 K1 ?_
  rintro _ σ2 k2 ⟨v2, rfl, r2, K2⟩
  change Zm _ _ _ _ _ _ 681 _ [iV v2, iV v1] _
  exact r_icmp_eq (t := 923) dL_law_681 rfl r1 r2 (fun _ => nx σ2 k2 K2.2) (fun c => absurd K2.1 c)
theorem lawc_20z (hr : ∀ j, R32 (s j)) (hz : s (i + 2) = 0) (hS : Scr X b L s) (hi : i + 6 ≤ L) (hok : ZOk 104 σ) (h1 : d1 ≤ 1209) (h2 : d2 ≤ 1209) (K : ZkI X M_X9_dead d1 104 [.ref (zB X + 0), iV (s (i + 1)), iV 0] σ (fun v σ1 => ZkI X M_X10_dead d2 104 [.ref (zB X + 73), iV (s (i + 1)), iV 0] σ1 (fun w σ2 => v = w ∧ Rel σ2 G))) (nx : ∀ σ', ZOk 104 σ' → Rel σ' G → Zm X (M_law nm) room_1 lw_Z 0 104 923 [some (.ref b), some (.ref (zB X + 0)), some (.ref (zB X + 73)), some (iV (i : Int))] [] σ') : Zm X (M_law nm) room_1 lw_Z 0 104 686 [some (.ref b), some (.ref (zB X + 0)), some (.ref (zB X + 73)), some (iV (i : Int))] [] σ := by
  refine r_aload_n dL_law_686 rfl ?_
  refine r_aload_n dL_law_687 rfl ?_
  refine r_iload_n dL_law_688 rfl ?_
  refine r_iconst dL_law_689 ?_
  refine r_iadd dL_law_690 ?_
  refine r_sc (i := i) (k := 1) hS dL_law_691 rfl (by omega) ?_
  refine r_aload_n dL_law_692 rfl ?_
  refine r_iload_n dL_law_693 rfl ?_
  refine r_iconst dL_law_694 ?_
  refine r_iadd dL_law_695 ?_
  refine r_sc (i := i) (k := 2) hS dL_law_696 rfl (by omega) ?_
  refine r_if_eq (t := 704) dL_law_697 rfl (hr _) (fun _ => ?_) (fun c => absurd hz c)
  refine r_iconst dL_law_704 ?_
  refine n_callV (d := d1) (N := M_X9_dead) (As := [iV (s (i + 1)), iV 0]) (st := []) dL_law_705 mk_X9_dead km_law_100 kd_X9_dead rfl (by decide) sh_0 (q := (RX9, TX9, 14)) rfl rfl (zR h1 (Nat.le_refl 104)) (Nat.le_of_ble_eq_true rfl) rfl hok K ?_
  rintro _ σ1 k1 ⟨v1, rfl, r1, K1⟩
  change Zm _ _ _ _ _ _ 708 _ [iV v1] _
  refine r_aload_n dL_law_708 rfl ?_
  refine r_aload_n dL_law_709 rfl ?_
  refine r_iload_n dL_law_710 rfl ?_
  refine r_iconst dL_law_711 ?_
  refine r_iadd dL_law_712 ?_
  refine r_sc (i := i) (k := 1) hS dL_law_713 rfl (by omega) ?_
  refine r_aload_n dL_law_714 rfl ?_
  refine r_iload_n dL_law_715 rfl ?_
  refine r_iconst dL_law_716 ?_
  refine r_iadd dL_law_717 ?_
  refine r_sc (i := i) (k := 2) hS dL_law_718 rfl (by omega) ?_
  refine r_if_eq (t := 726) dL_law_719 rfl (hr _) (fun _ => ?_) (fun c => absurd hz c)
  refine r_iconst dL_law_726 ?_
  refine n_callV (d := d2) (N := M_X10_dead) (As := [iV (s (i + 1)), iV 0]) (st := [iV v1]) dL_law_727 mk_X10_dead km_law_104 kd_X10_dead rfl (by decide) sh_73 (q := (RX10, TX10, 52)) rfl rfl (zR h2 (Nat.le_refl 104)) (Nat.le_of_ble_eq_true rfl) rfl k1 K1 ?_
  rintro _ σ2 k2 ⟨v2, rfl, r2, K2⟩
  change Zm _ _ _ _ _ _ 730 _ [iV v2, iV v1] _
  exact r_icmp_eq (t := 923) dL_law_730 rfl r1 r2 (fun _ => nx σ2 k2 K2.2) (fun c => absurd K2.1 c)
theorem lawc_20y (hr : ∀ j, R32 (s j)) (hz : ¬ s (i + 2) = 0) (hS : Scr X b L s) (hi : i + 6 ≤ L) (hok : ZOk 104 σ) (h1 : d1 ≤ 1209) (h2 : d2 ≤ 1209) (K : ZkI X M_X9_dead d1 104 [.ref (zB X + 0), iV (s (i + 1)), iV 1] σ (fun v σ1 => ZkI X M_X10_dead d2 104 [.ref (zB X + 73), iV (s (i + 1)), iV 1] σ1 (fun w σ2 => v = w ∧ Rel σ2 G))) (nx : ∀ σ', ZOk 104 σ' → Rel σ' G → Zm X (M_law nm) room_1 lw_Z 0 104 923 [some (.ref b), some (.ref (zB X + 0)), some (.ref (zB X + 73)), some (iV (i : Int))] [] σ') : Zm X (M_law nm) room_1 lw_Z 0 104 686 [some (.ref b), some (.ref (zB X + 0)), some (.ref (zB X + 73)), some (iV (i : Int))] [] σ := by
  refine r_aload_n dL_law_686 rfl ?_
  refine r_aload_n dL_law_687 rfl ?_
  refine r_iload_n dL_law_688 rfl ?_
  refine r_iconst dL_law_689 ?_
  refine r_iadd dL_law_690 ?_
  refine r_sc (i := i) (k := 1) hS dL_law_691 rfl (by omega) ?_
  refine r_aload_n dL_law_692 rfl ?_
  refine r_iload_n dL_law_693 rfl ?_
  refine r_iconst dL_law_694 ?_
  refine r_iadd dL_law_695 ?_
  refine r_sc (i := i) (k := 2) hS dL_law_696 rfl (by omega) ?_
  refine r_if_eq (t := 704) dL_law_697 rfl (hr _) (fun c => absurd c hz) (fun _ => ?_)
  refine r_iconst dL_law_700 ?_
  refine r_goto (t := 705) dL_law_701 rfl ?_
  refine n_callV (d := d1) (N := M_X9_dead) (As := [iV (s (i + 1)), iV 1]) (st := []) dL_law_705 mk_X9_dead km_law_100 kd_X9_dead rfl (by decide) sh_0 (q := (RX9, TX9, 14)) rfl rfl (zR h1 (Nat.le_refl 104)) (Nat.le_of_ble_eq_true rfl) rfl hok K ?_
  rintro _ σ1 k1 ⟨v1, rfl, r1, K1⟩
  change Zm _ _ _ _ _ _ 708 _ [iV v1] _
  refine r_aload_n dL_law_708 rfl ?_
  refine r_aload_n dL_law_709 rfl ?_
  refine r_iload_n dL_law_710 rfl ?_
  refine r_iconst dL_law_711 ?_
  refine r_iadd dL_law_712 ?_
  refine r_sc (i := i) (k := 1) hS dL_law_713 rfl (by omega) ?_
  refine r_aload_n dL_law_714 rfl ?_
  refine r_iload_n dL_law_715 rfl ?_
  refine r_iconst dL_law_716 ?_
  refine r_iadd dL_law_717 ?_
  refine r_sc (i := i) (k := 2) hS dL_law_718 rfl (by omega) ?_
  refine r_if_eq (t := 726) dL_law_719 rfl (hr _) (fun c => absurd c hz) (fun _ => ?_)
  refine r_iconst dL_law_722 ?_
  refine r_goto (t := 727) dL_law_723 rfl ?_
  refine n_callV (d := d2) (N := M_X10_dead) (As := [iV (s (i + 1)), iV 1]) (st := [iV v1]) dL_law_727 mk_X10_dead km_law_104 kd_X10_dead rfl (by decide) sh_73 (q := (RX10, TX10, 52)) rfl rfl (zR h2 (Nat.le_refl 104)) (Nat.le_of_ble_eq_true rfl) rfl k1 K1 ?_
  rintro _ σ2 k2 ⟨v2, rfl, r2, K2⟩
  change Zm _ _ _ _ _ _ 730 _ [iV v2, iV v1] _
  exact r_icmp_eq (t := 923) dL_law_730 rfl r1 r2 (fun _ => nx σ2 k2 K2.2) (fun c => absurd K2.1 c)
theorem lawc_21 (hS : Scr X b L s) (hi : i + 6 ≤ L) (hok : ZOk 104 σ) (h1 : d1 ≤ 1209) (h2 : d2 ≤ 1209) (K : ZkI X M_X9_score d1 104 [.ref (zB X + 0), iV (s (i + 1)), iV (s (i + 2))] σ (fun v σ1 => ZkI X M_X10_score d2 104 [.ref (zB X + 73), iV (s (i + 1)), iV (s (i + 2))] σ1 (fun w σ2 => v = w ∧ Rel σ2 G))) (nx : ∀ σ', ZOk 104 σ' → Rel σ' G → Zm X (M_law nm) room_1 lw_Z 0 104 923 [some (.ref b), some (.ref (zB X + 0)), some (.ref (zB X + 73)), some (iV (i : Int))] [] σ') : Zm X (M_law nm) room_1 lw_Z 0 104 735 [some (.ref b), some (.ref (zB X + 0)), some (.ref (zB X + 73)), some (iV (i : Int))] [] σ := by
  refine r_aload_n dL_law_735 rfl ?_
  refine r_aload_n dL_law_736 rfl ?_
  refine r_iload_n dL_law_737 rfl ?_
  refine r_iconst dL_law_738 ?_
  refine r_iadd dL_law_739 ?_
  refine r_sc (i := i) (k := 1) hS dL_law_740 rfl (by omega) ?_
  refine r_aload_n dL_law_741 rfl ?_
  refine r_iload_n dL_law_742 rfl ?_
  refine r_iconst dL_law_743 ?_
  refine r_iadd dL_law_744 ?_
  refine r_sc (i := i) (k := 2) hS dL_law_745 rfl (by omega) ?_
  refine n_callV (d := d1) (N := M_X9_score) (As := [iV (s (i + 1)), iV (s (i + 2))]) (st := []) dL_law_746 mk_X9_score km_law_105 kd_X9_score rfl (by decide) sh_0 (q := (RX9, TX9, 14)) rfl rfl (zR h1 (Nat.le_refl 104)) (Nat.le_of_ble_eq_true rfl) rfl hok K ?_
  rintro _ σ1 k1 ⟨v1, rfl, r1, K1⟩
  change Zm _ _ _ _ _ _ 749 _ [iV v1] _
  refine r_aload_n dL_law_749 rfl ?_
  refine r_aload_n dL_law_750 rfl ?_
  refine r_iload_n dL_law_751 rfl ?_
  refine r_iconst dL_law_752 ?_
  refine r_iadd dL_law_753 ?_
  refine r_sc (i := i) (k := 1) hS dL_law_754 rfl (by omega) ?_
  refine r_aload_n dL_law_755 rfl ?_
  refine r_iload_n dL_law_756 rfl ?_
  refine r_iconst dL_law_757 ?_
  refine r_iadd dL_law_758 ?_
  refine r_sc (i := i) (k := 2) hS dL_law_759 rfl (by omega) ?_
  refine n_callV (d := d2) (N := M_X10_score) (As := [iV (s (i + 1)), iV (s (i + 2))]) (st := [iV v1]) dL_law_760 mk_X10_score km_law_108 kd_X10_score rfl (by decide) sh_73 (q := (RX10, TX10, 52)) rfl rfl (zR h2 (Nat.le_refl 104)) (Nat.le_of_ble_eq_true rfl) rfl k1 K1 ?_
  rintro _ σ2 k2 ⟨v2, rfl, r2, K2⟩
  change Zm _ _ _ _ _ _ 763 _ [iV v2, iV v1] _
  exact r_icmp_eq (t := 923) dL_law_763 rfl r1 r2 (fun _ => nx σ2 k2 K2.2) (fun c => absurd K2.1 c)
theorem lawc_22 (hS : Scr X b L s) (hi : i + 6 ≤ L) (hok : ZOk 104 σ) (h1 : d1 ≤ 1209) (h2 : d2 ≤ 1209) (K : ZkI X M_X9_ahead d1 104 [.ref (zB X + 0), iV (s (i + 1))] σ (fun v σ1 => ZkI X M_X10_ahead d2 104 [.ref (zB X + 73), iV (s (i + 1))] σ1 (fun w σ2 => v = w ∧ Rel σ2 G))) (nx : ∀ σ', ZOk 104 σ' → Rel σ' G → Zm X (M_law nm) room_1 lw_Z 0 104 923 [some (.ref b), some (.ref (zB X + 0)), some (.ref (zB X + 73)), some (iV (i : Int))] [] σ') : Zm X (M_law nm) room_1 lw_Z 0 104 768 [some (.ref b), some (.ref (zB X + 0)), some (.ref (zB X + 73)), some (iV (i : Int))] [] σ := by
  refine r_aload_n dL_law_768 rfl ?_
  refine r_aload_n dL_law_769 rfl ?_
  refine r_iload_n dL_law_770 rfl ?_
  refine r_iconst dL_law_771 ?_
  refine r_iadd dL_law_772 ?_
  refine r_sc (i := i) (k := 1) hS dL_law_773 rfl (by omega) ?_
  refine n_callV (d := d1) (N := M_X9_ahead) (As := [iV (s (i + 1))]) (st := []) dL_law_774 mk_X9_ahead km_law_109 kd_X9_ahead rfl (by decide) sh_0 (q := (RX9, TX9, 14)) rfl rfl (zR h1 (Nat.le_refl 104)) (Nat.le_of_ble_eq_true rfl) rfl hok K ?_
  rintro _ σ1 k1 ⟨v1, rfl, r1, K1⟩
  change Zm _ _ _ _ _ _ 777 _ [iV v1] _
  refine r_aload_n dL_law_777 rfl ?_
  refine r_aload_n dL_law_778 rfl ?_
  refine r_iload_n dL_law_779 rfl ?_
  refine r_iconst dL_law_780 ?_
  refine r_iadd dL_law_781 ?_
  refine r_sc (i := i) (k := 1) hS dL_law_782 rfl (by omega) ?_
  refine n_callV (d := d2) (N := M_X10_ahead) (As := [iV (s (i + 1))]) (st := [iV v1]) dL_law_783 mk_X10_ahead km_law_112 kd_X10_ahead rfl (by decide) sh_73 (q := (RX10, TX10, 52)) rfl rfl (zR h2 (Nat.le_refl 104)) (Nat.le_of_ble_eq_true rfl) rfl k1 K1 ?_
  rintro _ σ2 k2 ⟨v2, rfl, r2, K2⟩
  change Zm _ _ _ _ _ _ 786 _ [iV v2, iV v1] _
  exact r_icmp_eq (t := 923) dL_law_786 rfl r1 r2 (fun _ => nx σ2 k2 K2.2) (fun c => absurd K2.1 c)
theorem lawc_23 (hS : Scr X b L s) (hi : i + 6 ≤ L) (hok : ZOk 104 σ) (h1 : d1 ≤ 1209) (h2 : d2 ≤ 1209) (K : ZkZ X M_X9_clocks d1 104 [.ref (zB X + 0), iV (s (i + 1)), iV (s (i + 2)), iV (s (i + 3))] σ (fun v σ1 => ZkZ X M_X10_clocks d2 104 [.ref (zB X + 73), iV (s (i + 1)), iV (s (i + 2)), iV (s (i + 3))] σ1 (fun w σ2 => v = w ∧ Rel σ2 G))) (nx : ∀ σ', ZOk 104 σ' → Rel σ' G → Zm X (M_law nm) room_1 lw_Z 0 104 923 [some (.ref b), some (.ref (zB X + 0)), some (.ref (zB X + 73)), some (iV (i : Int))] [] σ') : Zm X (M_law nm) room_1 lw_Z 0 104 791 [some (.ref b), some (.ref (zB X + 0)), some (.ref (zB X + 73)), some (iV (i : Int))] [] σ := by
  refine r_aload_n dL_law_791 rfl ?_
  refine r_aload_n dL_law_792 rfl ?_
  refine r_iload_n dL_law_793 rfl ?_
  refine r_iconst dL_law_794 ?_
  refine r_iadd dL_law_795 ?_
  refine r_sc (i := i) (k := 1) hS dL_law_796 rfl (by omega) ?_
  refine r_aload_n dL_law_797 rfl ?_
  refine r_iload_n dL_law_798 rfl ?_
  refine r_iconst dL_law_799 ?_
  refine r_iadd dL_law_800 ?_
  refine r_sc (i := i) (k := 2) hS dL_law_801 rfl (by omega) ?_
  refine r_aload_n dL_law_802 rfl ?_
  refine r_iload_n dL_law_803 rfl ?_
  refine r_iconst dL_law_804 ?_
  refine r_iadd dL_law_805 ?_
  refine r_sc (i := i) (k := 3) hS dL_law_806 rfl (by omega) ?_
  refine n_callV (d := d1) (N := M_X9_clocks) (As := [iV (s (i + 1)), iV (s (i + 2)), iV (s (i + 3))]) (st := []) dL_law_807 mk_X9_clocks km_law_113 kd_X9_clocks rfl (by decide) sh_0 (q := (RX9, TX9, 14)) rfl rfl (zR h1 (Nat.le_refl 104)) (Nat.le_of_ble_eq_true rfl) rfl hok K ?_
  rintro _ σ1 k1 ⟨v1, rfl, r1, K1⟩
  change Zm _ _ _ _ _ _ 810 _ [iV v1] _
  refine r_aload_n dL_law_810 rfl ?_
  refine r_aload_n dL_law_811 rfl ?_
  refine r_iload_n dL_law_812 rfl ?_
  refine r_iconst dL_law_813 ?_
  refine r_iadd dL_law_814 ?_
  refine r_sc (i := i) (k := 1) hS dL_law_815 rfl (by omega) ?_
  refine r_aload_n dL_law_816 rfl ?_
  refine r_iload_n dL_law_817 rfl ?_
  refine r_iconst dL_law_818 ?_
  refine r_iadd dL_law_819 ?_
  refine r_sc (i := i) (k := 2) hS dL_law_820 rfl (by omega) ?_
  refine r_aload_n dL_law_821 rfl ?_
  refine r_iload_n dL_law_822 rfl ?_
  refine r_iconst dL_law_823 ?_
  refine r_iadd dL_law_824 ?_
  refine r_sc (i := i) (k := 3) hS dL_law_825 rfl (by omega) ?_
  refine n_callV (d := d2) (N := M_X10_clocks) (As := [iV (s (i + 1)), iV (s (i + 2)), iV (s (i + 3))]) (st := [iV v1]) dL_law_826 mk_X10_clocks km_law_117 kd_X10_clocks rfl (by decide) sh_73 (q := (RX10, TX10, 52)) rfl rfl (zR h2 (Nat.le_refl 104)) (Nat.le_of_ble_eq_true rfl) rfl k1 K1 ?_
  rintro _ σ2 k2 ⟨v2, rfl, r2, K2⟩
  change Zm _ _ _ _ _ _ 829 _ [iV v2, iV v1] _
  exact r_icmp_eq (t := 923) dL_law_829 rfl (r32_z r1) (r32_z r2) (fun _ => nx σ2 k2 K2.2) (fun c => absurd K2.1 c)
theorem lawc_24 (hS : Scr X b L s) (hi : i + 6 ≤ L) (hok : ZOk 104 σ) (h1 : d1 ≤ 1209) (h2 : d2 ≤ 1209) (K : ZkI X M_X9_clock d1 104 [.ref (zB X + 0), iV (s (i + 1)), iV (s (i + 2))] σ (fun v σ1 => ZkI X M_X10_clock d2 104 [.ref (zB X + 73), iV (s (i + 1)), iV (s (i + 2))] σ1 (fun w σ2 => v = w ∧ Rel σ2 G))) (nx : ∀ σ', ZOk 104 σ' → Rel σ' G → Zm X (M_law nm) room_1 lw_Z 0 104 923 [some (.ref b), some (.ref (zB X + 0)), some (.ref (zB X + 73)), some (iV (i : Int))] [] σ') : Zm X (M_law nm) room_1 lw_Z 0 104 834 [some (.ref b), some (.ref (zB X + 0)), some (.ref (zB X + 73)), some (iV (i : Int))] [] σ := by
  refine r_aload_n dL_law_834 rfl ?_
  refine r_aload_n dL_law_835 rfl ?_
  refine r_iload_n dL_law_836 rfl ?_
  refine r_iconst dL_law_837 ?_
  refine r_iadd dL_law_838 ?_
  refine r_sc (i := i) (k := 1) hS dL_law_839 rfl (by omega) ?_
  refine r_aload_n dL_law_840 rfl ?_
  refine r_iload_n dL_law_841 rfl ?_
  refine r_iconst dL_law_842 ?_
  refine r_iadd dL_law_843 ?_
  refine r_sc (i := i) (k := 2) hS dL_law_844 rfl (by omega) ?_
  refine n_callV (d := d1) (N := M_X9_clock) (As := [iV (s (i + 1)), iV (s (i + 2))]) (st := []) dL_law_845 mk_X9_clock km_law_118 kd_X9_clock rfl (by decide) sh_0 (q := (RX9, TX9, 14)) rfl rfl (zR h1 (Nat.le_refl 104)) (Nat.le_of_ble_eq_true rfl) rfl hok K ?_
  rintro _ σ1 k1 ⟨v1, rfl, r1, K1⟩
  change Zm _ _ _ _ _ _ 848 _ [iV v1] _
  refine r_aload_n dL_law_848 rfl ?_
  refine r_aload_n dL_law_849 rfl ?_
  refine r_iload_n dL_law_850 rfl ?_
  refine r_iconst dL_law_851 ?_
  refine r_iadd dL_law_852 ?_
  refine r_sc (i := i) (k := 1) hS dL_law_853 rfl (by omega) ?_
  refine r_aload_n dL_law_854 rfl ?_
  refine r_iload_n dL_law_855 rfl ?_
  refine r_iconst dL_law_856 ?_
  refine r_iadd dL_law_857 ?_
  refine r_sc (i := i) (k := 2) hS dL_law_858 rfl (by omega) ?_
  refine n_callV (d := d2) (N := M_X10_clock) (As := [iV (s (i + 1)), iV (s (i + 2))]) (st := [iV v1]) dL_law_859 mk_X10_clock km_law_121 kd_X10_clock rfl (by decide) sh_73 (q := (RX10, TX10, 52)) rfl rfl (zR h2 (Nat.le_refl 104)) (Nat.le_of_ble_eq_true rfl) rfl k1 K1 ?_
  rintro _ σ2 k2 ⟨v2, rfl, r2, K2⟩
  change Zm _ _ _ _ _ _ 862 _ [iV v2, iV v1] _
  exact r_icmp_eq (t := 923) dL_law_862 rfl r1 r2 (fun _ => nx σ2 k2 K2.2) (fun c => absurd K2.1 c)
theorem lawc_25 (hS : Scr X b L s) (hi : i + 6 ≤ L) (hok : ZOk 104 σ) (h1 : d1 ≤ 1209) (h2 : d2 ≤ 1209) (K : ZkI X M_X9_time d1 104 [.ref (zB X + 0), iV (s (i + 1)), iV (s (i + 2))] σ (fun v σ1 => ZkI X M_X10_time d2 104 [.ref (zB X + 73), iV (s (i + 1)), iV (s (i + 2))] σ1 (fun w σ2 => v = w ∧ Rel σ2 G))) (nx : ∀ σ', ZOk 104 σ' → Rel σ' G → Zm X (M_law nm) room_1 lw_Z 0 104 923 [some (.ref b), some (.ref (zB X + 0)), some (.ref (zB X + 73)), some (iV (i : Int))] [] σ') : Zm X (M_law nm) room_1 lw_Z 0 104 867 [some (.ref b), some (.ref (zB X + 0)), some (.ref (zB X + 73)), some (iV (i : Int))] [] σ := by
  refine r_aload_n dL_law_867 rfl ?_
  refine r_aload_n dL_law_868 rfl ?_
  refine r_iload_n dL_law_869 rfl ?_
  refine r_iconst dL_law_870 ?_
  refine r_iadd dL_law_871 ?_
  refine r_sc (i := i) (k := 1) hS dL_law_872 rfl (by omega) ?_
  refine r_aload_n dL_law_873 rfl ?_
  refine r_iload_n dL_law_874 rfl ?_
  refine r_iconst dL_law_875 ?_
  refine r_iadd dL_law_876 ?_
  refine r_sc (i := i) (k := 2) hS dL_law_877 rfl (by omega) ?_
  refine n_callV (d := d1) (N := M_X9_time) (As := [iV (s (i + 1)), iV (s (i + 2))]) (st := []) dL_law_878 mk_X9_time km_law_122 kd_X9_time rfl (by decide) sh_0 (q := (RX9, TX9, 14)) rfl rfl (zR h1 (Nat.le_refl 104)) (Nat.le_of_ble_eq_true rfl) rfl hok K ?_
  rintro _ σ1 k1 ⟨v1, rfl, r1, K1⟩
  change Zm _ _ _ _ _ _ 881 _ [iV v1] _
  refine r_aload_n dL_law_881 rfl ?_
  refine r_aload_n dL_law_882 rfl ?_
  refine r_iload_n dL_law_883 rfl ?_
  refine r_iconst dL_law_884 ?_
  refine r_iadd dL_law_885 ?_
  refine r_sc (i := i) (k := 1) hS dL_law_886 rfl (by omega) ?_
  refine r_aload_n dL_law_887 rfl ?_
  refine r_iload_n dL_law_888 rfl ?_
  refine r_iconst dL_law_889 ?_
  refine r_iadd dL_law_890 ?_
  refine r_sc (i := i) (k := 2) hS dL_law_891 rfl (by omega) ?_
  refine n_callV (d := d2) (N := M_X10_time) (As := [iV (s (i + 1)), iV (s (i + 2))]) (st := [iV v1]) dL_law_892 mk_X10_time km_law_125 kd_X10_time rfl (by decide) sh_73 (q := (RX10, TX10, 52)) rfl rfl (zR h2 (Nat.le_refl 104)) (Nat.le_of_ble_eq_true rfl) rfl k1 K1 ?_
  rintro _ σ2 k2 ⟨v2, rfl, r2, K2⟩
  change Zm _ _ _ _ _ _ 895 _ [iV v2, iV v1] _
  exact r_icmp_eq (t := 923) dL_law_895 rfl r1 r2 (fun _ => nx σ2 k2 K2.2) (fun c => absurd K2.1 c)
theorem lawc_26 (hS : Scr X b L s) (hi : i + 6 ≤ L) (hok : ZOk 104 σ) (h1 : d1 ≤ 1209) (h2 : d2 ≤ 1209) (K : ZkI X M_X9_count d1 104 [.ref (zB X + 0), iV (s (i + 1))] σ (fun v σ1 => ZkI X M_X10_count d2 104 [.ref (zB X + 73), iV (s (i + 1))] σ1 (fun w σ2 => v = w ∧ Rel σ2 G))) (nx : ∀ σ', ZOk 104 σ' → Rel σ' G → Zm X (M_law nm) room_1 lw_Z 0 104 923 [some (.ref b), some (.ref (zB X + 0)), some (.ref (zB X + 73)), some (iV (i : Int))] [] σ') : Zm X (M_law nm) room_1 lw_Z 0 104 900 [some (.ref b), some (.ref (zB X + 0)), some (.ref (zB X + 73)), some (iV (i : Int))] [] σ := by
  refine r_aload_n dL_law_900 rfl ?_
  refine r_aload_n dL_law_901 rfl ?_
  refine r_iload_n dL_law_902 rfl ?_
  refine r_iconst dL_law_903 ?_
  refine r_iadd dL_law_904 ?_
  refine r_sc (i := i) (k := 1) hS dL_law_905 rfl (by omega) ?_
  refine n_callV (d := d1) (N := M_X9_count) (As := [iV (s (i + 1))]) (st := []) dL_law_906 mk_X9_count km_law_126 kd_X9_count rfl (by decide) sh_0 (q := (RX9, TX9, 14)) rfl rfl (zR h1 (Nat.le_refl 104)) (Nat.le_of_ble_eq_true rfl) rfl hok K ?_
  rintro _ σ1 k1 ⟨v1, rfl, r1, K1⟩
  change Zm _ _ _ _ _ _ 909 _ [iV v1] _
  refine r_aload_n dL_law_909 rfl ?_
  refine r_aload_n dL_law_910 rfl ?_
  refine r_iload_n dL_law_911 rfl ?_
  refine r_iconst dL_law_912 ?_
  refine r_iadd dL_law_913 ?_
  refine r_sc (i := i) (k := 1) hS dL_law_914 rfl (by omega) ?_
  refine n_callV (d := d2) (N := M_X10_count) (As := [iV (s (i + 1))]) (st := [iV v1]) dL_law_915 mk_X10_count km_law_129 kd_X10_count rfl (by decide) sh_73 (q := (RX10, TX10, 52)) rfl rfl (zR h2 (Nat.le_refl 104)) (Nat.le_of_ble_eq_true rfl) rfl k1 K1 ?_
  rintro _ σ2 k2 ⟨v2, rfl, r2, K2⟩
  change Zm _ _ _ _ _ _ 918 _ [iV v2, iV v1] _
  exact r_icmp_eq (t := 923) dL_law_918 rfl r1 r2 (fun _ => nx σ2 k2 K2.2) (fun c => absurd K2.1 c)
end ZLw
