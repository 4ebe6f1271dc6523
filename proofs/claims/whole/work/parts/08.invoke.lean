/-! ===== entry ===== -/
def zEn : List Value → List (Option Value)
  | [] => []
  | v :: t => if v.category = 2 then some v :: none :: zEn t else some v :: zEn t
def zEnt (vs : List Value) (mL : Nat) : List (Option Value) := zEn vs ++ List.replicate (mL - (zEn vs).length) none
theorem zEn_args : ∀ (vs : List Value) (i k : Nat) (v : Value), (zEn vs)[k]? = some (some v) → (i + k, v) ∈ lv_args i vs := by
  intro vs
  induction vs with
  | nil => intro i k v h; simp [zEn] at h
  | cons w t ih =>
    intro i k v h
    unfold zEn at h
    unfold lv_args
    by_cases hw : w.category = 2
    · rw [if_pos hw] at h
      rw [if_pos hw]
      match k, h with
      | 0, h => simp at h; subst h; exact List.mem_cons_self
      | 1, h => simp at h
      | k + 2, h =>
        have := ih (i + 2) k v (by simpa using h)
        exact List.mem_cons_of_mem _ (by rw [show i + (k + 2) = i + 2 + k by omega]; exact this)
    · rw [if_neg hw] at h
      rw [if_neg hw]
      match k, h with
      | 0, h => simp at h; subst h; exact List.mem_cons_self
      | k + 1, h =>
        have := ih (i + 1) k v (by simpa using h)
        exact List.mem_cons_of_mem _ (by rw [show i + (k + 1) = i + 1 + k by omega]; exact this)
theorem zEnt_L {vs : List Value} {mL : Nat} (h : (lg_sl vs).length ≤ mL) : zL ((lg_sl vs ++ List.replicate (mL - (lg_sl vs).length) Slot.unset).toArray) mL (zEnt vs mL) := by
  have h1 := lv_entry vs h
  refine ⟨h1.1, h1.2.1, fun k v hk => h1.2.2 (k, v) ?_⟩
  unfold zEnt at hk
  by_cases hl : k < (zEn vs).length
  · rw [List.getElem?_append_left hl] at hk
    have := zEn_args vs 0 k v hk
    rwa [Nat.zero_add] at this
  · rw [List.getElem?_append_right (by omega), List.getElem?_replicate] at hk
    split at hk <;> simp at hk
section ZE
variable {X : ZX} {M : ZM} {d n n' : Nat} {vs : List Value} {ls : List (Option Value)} {σ : ZSto} {Q Q' : Option Value → ZSto → Prop}
theorem zc_of (hy : plainName M.1.cls = true) (hlen : (lg_sl vs).length ≤ M.2.2.1) (he : zEnt vs M.2.2.1 = ls) (k : Zm X M (zRm d n n') (zZ X n n' Q) n n 0 ls [] σ) : Zc X M d n n' vs σ Q := by
  intro G
  refine Met.ofW (cc := M.2.1) (maxL := M.2.2.1) (ret := M.2.2.2) hy rfl ?_
  intro p e s m args below meth c s₁ B hml hv
  obtain ⟨rfl, hW, hlow, hsz, hP⟩ := hv
  have K := k G p e s m vs.toArray below meth c s.heap [] ((lg_sl vs ++ List.replicate (M.2.2.1 - (lg_sl vs).length) Slot.unset).toArray)
    ⟨B.exec, B.bytes, hml, B.returns, B.notSynchronized, findClass_of_methodNamed B.named, (name_of_methodNamed B.named B.method).1, hW, hsz, hlow⟩
    (by rw [← he]; exact zEnt_L hlen) ⟨Nat.le_refl n, hP, va_S.rf⟩
  rw [lg_entry_eq]
  rw [show n - n = 0 by omega, show zSl n - zSl n = 0 by omega] at K
  exact K
theorem Zc.mono (h : Zc X M d n n' vs σ Q) (hq : ∀ r σ', Q r σ' → Q' r σ') : Zc X M d n n' vs σ Q' := by
  intro G p e ha hc hk s m args below hf happ hP hK
  obtain ⟨k, o, h1, h2, h3, ⟨⟨r, σ', e1, e2, e3⟩, h5⟩⟩ := h G p e ha hc hk s m args below hf happ hP hK
  exact ⟨k, o, h1, h2, h3, ⟨⟨r, σ', e1, hq r σ' e2, e3⟩, h5⟩⟩
end ZE
/-! ===== calls ===== -/
/-- what the tables say of a method -/
def ZMk (M : ZM) : Prop := Cond.code M.1 M.2.1 M.2.2.1 M.2.2.2 ∈ lw_tbl ∧ Cond.initialized M.1.cls ∈ lw_tbl ∧ (M.1.cls ≠ "java/lang/invoke/MethodHandle" ∧ M.1.cls ≠ "java/lang/invoke/VarHandle") ∧ M.2.2.1 ≤ 50
def ZMi (M : ZM) : Prop := ZMk M ∧ Cond.instanceMethod M.1 ∈ lw_tbl ∧ Cond.selects M.1.cls M.1 M.1 ∈ lw_tbl
def ZMs (M : ZM) : Prop := ZMk M ∧ Cond.static M.1 ∈ lw_tbl
def ZMc (M : ZM) : Prop := ZMk M ∧ Cond.instanceMethod M.1 ∈ lw_tbl ∧ M.1.name = "<init>" ∧ M.2.2.2 = none
/-- the link of a call -/
def ZLk (own : String) (idx : Nat) (M : ZM) : Prop := Cond.methodLink own idx M.1 ∈ lw_tbl ∨ ∃ host : String, Cond.methodLinkNest own idx M.1 host ∈ lw_tbl
theorem zBlind (X : ZX) (vs : List Value) (σ : ZSto) (n : Nat) : FrameBlind (va_Pc vs (fun U => ZWorld X U σ n)) := fun a U g mk q => ⟨q.1, q.2.1, q.2.2.1, q.2.2.2.1, q.2.2.2.2⟩
section ZC
variable {X : ZX} {M N : ZM} {R : Room} {Z : List Frame → Array Value → State → State → Prop} {d n0 n n' pc idx : Nat} {ls : List (Option Value)} {st As : List Value} {σ : ZSto}
theorem zGoodIn {M : ZM} (h : Cond.code M.1 M.2.1 M.2.2.1 M.2.2.2 ∈ lw_tbl) : GoodIn lw_tbl [.code M.1 M.2.1 M.2.2.1 M.2.2.2] := by
  intro w hw
  rw [List.mem_singleton] at hw
  subst hw
  exact ⟨h, good_of_word rfl⟩
theorem zPay (G : ZGood X) {s : State} (hW : X.2.1.WarmedH s.vm) {N : ZM} (h : Cond.code N.1 N.2.1 N.2.2.1 N.2.2.2 ∈ lw_tbl) : ∀ w ∈ ([.code N.1 N.2.1 N.2.2.1 N.2.2.2] : List Cond), ∀ (a' : Array Value) (U : State), s.WarmedH U.vm → w.before a' U = true := by
  intro w hw a' U hU
  rw [List.mem_singleton] at hw
  subst hw
  exact zGood_word G (State.WarmedH.trans hW hU) h rfl a'
theorem zAfter {p : Program} {e : Env} {s : State} {m : MethodId} {args : Array Value} {below : List Frame} {meth : Method} {c : Code} {H : Heap} {locs : List Loc} {lsA : Array Slot} {free : Addr → Prop} {st0 : List Value} {Qa : State → Outcome → State → Prop} {T : State} (G : ZGood X) (hF : ZFix X M n0 p s m meth c) (hL : zL lsA M.2.2.1 ls) (hP : ZPic X n0 n σ s H locs)
    (hn : n ≤ n') (hfree : ∀ q, free q → zB X ≤ q) (hQa : ∀ st o t, Qa st o t → zQc X n' (fun r σ' => Zm X M R Z n0 n' (pc + 3) ls (r.toList ++ st0) σ') #[] st o t)
    (hr : va_Run p X.1 e R s m args below meth c H locs (n - n0) (zSl n - zSl n0) (n' - n) (zSl n' - zSl n) (F0 m pc lsA st) st0 Qa free) (hT : T.heap = H) (S : Stand p X.1 e R s m args below meth c T locs (n - n0) (zSl n - zSl n0)) :
    ∃ t, Steps p.tables e below (T.setTop (F0 m pc lsA st)) t ∧ Z below args s t := by
  obtain ⟨v, st₀, t, T', L, h0, S', hL', e1, e2, hq, stp⟩ := hr T hT S
  obtain ⟨r, σ', er, hk, hW', hlow, hsz, hP'⟩ := hQa _ _ _ hq
  cases er
  obtain ⟨hn0, hP, hS⟩ := hP
  have hs := hF.2.2.2.2.2.2.2.2.1
  have hl2 := hF.2.2.2.2.2.2.2.2.2
  have hm1 := zSl_mono hn
  have hm2 := zSl_mono hn0
  rw [show n - n0 + (n' - n) = n' - n0 by omega, show zSl n - zSl n0 + (zSl n' - zSl n) = zSl n' - zSl n0 by omega] at S'
  obtain ⟨t2, a1, b1⟩ := hk G p e s m args below meth c T'.heap (locs ++ L) lsA hF hL ⟨by omega, by rw [e1]; exact hP', by rw [e1, hsz, hs]; omega, fun q h1 h2 => by
      have hq : q < zB X := Nat.not_le.mp h2
      rw [e1, hlow q hq, hl2 q hq], fun q hq => by
      rcases List.mem_append.mp hq with h | h
      · exact hS.2.2 q h
      · exact hfree _ (hL' q h)⟩ T' rfl S'
  exact ⟨t2, stp t2 a1, b1⟩
theorem zWorldAt (G : ZGood X) {p : Program} {s : State} {m : MethodId} {meth : Method} {c : Code} {H : Heap} {locs : List Loc} (hF : ZFix X M n0 p s m meth c) (hP : ZPic X n0 n σ s H locs) (hsz : H.size = zB X + n) : ∀ U : State, U.heap = H → s.WarmedH U.vm → ZWorld X U σ n := by
  intro U hU hW
  have hs := hF.2.2.2.2.2.2.2.2.1
  refine ⟨State.WarmedH.trans hF.2.2.2.2.2.2.2.1 hW, fun q hq => ?_, by rw [hU]; exact hsz, by rw [hU]; exact hP.2.1⟩
  rw [hU, hP.2.2.2.1 q (by rw [hs]; omega) (by show ¬ zB X ≤ q; omega)]
  exact hF.2.2.2.2.2.2.2.2.2 q hq
/-- room for a callee that asks d frames -/
def zFits (R : Room) (d n0 n' : Nat) : Prop := d + 1 ≤ R.frames ∧ 69 * (d + 1) + 11 ≤ R.locals ∧ n' - n0 ≤ R.cells ∧ zSl n' - zSl n0 ≤ R.slots
theorem zFits_rm (d n0 n1 n' : Nat) (h : n' ≤ n1) : zFits (zRm (d + 1) n0 n1) d n0 n' := by
  have := zSl_mono h
  exact ⟨Nat.le_refl _, Nat.le_refl _, by show n' - n0 ≤ n1 - n0; omega, by show zSl n' - zSl n0 ≤ zSl n1 - zSl n0; omega⟩
theorem r_callV {o ci k : Nat} {q : vw_C} {z : List Value} (hd : decode M.2.1 pc = .ok (.invokevirtual idx, 3)) (hN : ZMi N) (hl : ZLk M.1.cls idx N) (hk : (parseMethodDescriptor N.1.desc).map (fun d => d.parameters.length) = some k) (hA : As.length = k) (ho : o < n) (hs : SH o = some (.inr ci)) (hq : zCl[ci]? = some q) (hqc : q.1 = N.1.cls) (hR : zFits R d n0 n') (hn : n ≤ n') (hcat : (st.map fun v => v.category).sum ≤ 8) (hz : z = As.reverse ++ .ref (zB X + o) :: st)
    (K : Zc X N d n n' (.ref (zB X + o) :: As) σ (fun r σ' => Zm X M R Z n0 n' (pc + 3) ls (r.toList ++ st) σ')) : Zm X M R Z n0 n pc ls z σ := by
  subst hz
  intro G p e s m args below meth c H locs lsA hF hL hP T hT S
  have hsz := zSize hF hP hT S
  have hW := hF.2.2.2.2.2.2.2.1
  obtain ⟨⟨hco, hini, hy, h50⟩, him, hsel⟩ := hN
  have he := zW_at (B := zB X) (cA := X.2.2.2) (σ := σ) ho
  rw [zE_obj hs] at he
  have hrc := va_recv (zGood_K G hW) hP.2.1 hq he
  rw [hqc] at hrc
  have hlen : ∀ sig, parseMethodDescriptor N.1.desc = some sig → k = sig.parameters.length := fun sig h => by rw [h] at hk; exact (Option.some.inj hk).symm
  have hpre : PreV s H N.1.cls (zB X + o) (va_Pc (.ref (zB X + o) :: As) (fun U => ZWorld X U σ n)) As := ⟨zBlind X _ σ n, hrc, fun U hU hWU => ⟨rfl, zWorldAt G hF hP hsz U hU hWU⟩⟩
  have hcode := zGood_word G hW hco rfl args
  have hinit := zGood_word G hW hini rfl args
  have hfr : (zRm d n n').frames + 1 ≤ R.frames := hR.1
  have hlo : 8 + (N.2.2.1 + 11) + (zRm d n n').locals ≤ R.locals := by show 8 + (N.2.2.1 + 11) + (69 * d + 11) ≤ R.locals; have := hR.2.1; omega
  have hm1 := zSl_mono hn
  have hm2 := zSl_mono hP.1
  have hroom : n - n0 + (n' - n) ≤ R.cells ∧ zSl n - zSl n0 + (zSl n' - zSl n) ≤ R.slots := ⟨by have := hR.2.2.1; have := hP.1; omega, by have := hR.2.2.2; omega⟩
  rcases hl with hl | ⟨host, hl⟩
  · exact zAfter (free := zFree X) G hF hL hP hn (fun _ h => h) (fun _ _ _ h => h)
      (va_runV (As := As) (rest := st) (Ts := []) ⟨hF.1, hF.2.1, hF.2.2.1, hF.2.2.2.2.2.1, fun _ h => by cases h⟩ (K G)
        ⟨⟨rfl, rfl, hfr, hlo, zPay G hW hco, List.mem_singleton.mpr rfl, hcode, hinit, hy, hlen, zGood_word G hW hl rfl args⟩, zGood_word G hW him rfl args, zGood_word G hW hsel rfl args⟩ hpre rfl hA hL.1 rfl (lv_room hcat) hd hroom) hT S
  · exact zAfter (free := zFree X) G hF hL hP hn (fun _ h => h) (fun _ _ _ h => h)
      (va_runVN (As := As) (rest := st) (Ts := []) ⟨hF.1, hF.2.1, hF.2.2.1, hF.2.2.2.2.2.1, fun _ h => by cases h⟩ (K G)
        ⟨⟨⟨rfl, rfl, hfr, hlo, zPay G hW hco, List.mem_singleton.mpr rfl⟩, hcode, hinit, hy, hlen, va_Nw.use rfl (zNestM_at G hW hl)⟩, zGood_word G hW him rfl args, zGood_word G hW hsel rfl args⟩ hpre rfl hA hL.1 rfl (lv_room hcat) hd hroom) hT S
theorem r_callS {k : Nat} {z : List Value} (hd : decode M.2.1 pc = .ok (.invokestatic idx, 3)) (hN : ZMs N) (hl : ZLk M.1.cls idx N) (hk : (parseMethodDescriptor N.1.desc).map (fun d => d.parameters.length) = some k) (hA : As.length = k) (hR : zFits R d n0 n') (hn : n ≤ n') (hcat : (st.map fun v => v.category).sum ≤ 8) (hz : z = As.reverse ++ st)
    (K : Zc X N d n n' As σ (fun r σ' => Zm X M R Z n0 n' (pc + 3) ls (r.toList ++ st) σ')) : Zm X M R Z n0 n pc ls z σ := by
  subst hz
  intro G p e s m args below meth c H locs lsA hF hL hP T hT S
  have hsz := zSize hF hP hT S
  have hW := hF.2.2.2.2.2.2.2.1
  obtain ⟨⟨hco, hini, hy, h50⟩, hst⟩ := hN
  have hlen : ∀ sig, parseMethodDescriptor N.1.desc = some sig → k = sig.parameters.length := fun sig h => by rw [h] at hk; exact (Option.some.inj hk).symm
  have hpre : PreS s H (va_Pc As (fun U => ZWorld X U σ n)) As := ⟨zBlind X _ σ n, fun U hU hWU => ⟨rfl, zWorldAt G hF hP hsz U hU hWU⟩⟩
  have hcode := zGood_word G hW hco rfl args
  have hinit := zGood_word G hW hini rfl args
  have hfr : (zRm d n n').frames + 1 ≤ R.frames := hR.1
  have hlo : 8 + (N.2.2.1 + 11) + (zRm d n n').locals ≤ R.locals := by show 8 + (N.2.2.1 + 11) + (69 * d + 11) ≤ R.locals; have := hR.2.1; omega
  have hm1 := zSl_mono hn
  have hm2 := zSl_mono hP.1
  have hroom : n - n0 + (n' - n) ≤ R.cells ∧ zSl n - zSl n0 + (zSl n' - zSl n) ≤ R.slots := ⟨by have := hR.2.2.1; have := hP.1; omega, by have := hR.2.2.2; omega⟩
  rcases hl with hl | ⟨host, hl⟩
  · exact zAfter (free := zFree X) G hF hL hP hn (fun _ h => h) (fun _ _ _ h => h)
      (va_runS (As := As) (rest := st) (Ts := []) ⟨hF.1, hF.2.1, hF.2.2.1, hF.2.2.2.2.2.1, fun _ h => by cases h⟩ (K G)
        ⟨⟨rfl, rfl, hfr, hlo, zPay G hW hco, List.mem_singleton.mpr rfl, hcode, hinit, hy, hlen, zGood_word G hW hl rfl args⟩, zGood_word G hW hst rfl args⟩ hpre rfl hA hL.1 rfl (lv_room hcat) hd hroom) hT S
  · exact zAfter (free := zFree X) G hF hL hP hn (fun _ h => h) (fun _ _ _ h => h)
      (va_runSN (As := As) (rest := st) (Ts := []) ⟨hF.1, hF.2.1, hF.2.2.1, hF.2.2.2.2.2.1, fun _ h => by cases h⟩ (K G)
        ⟨⟨⟨rfl, rfl, hfr, hlo, zPay G hW hco, List.mem_singleton.mpr rfl⟩, hcode, hinit, hy, hlen, va_Nw.use rfl (zNestM_at G hW hl)⟩, zGood_word G hW hst rfl args, trivial⟩ hpre rfl hA hL.1 rfl (lv_room hcat) hd hroom) hT S
theorem r_callI {o k : Nat} {z : List Value} (hd : decode M.2.1 pc = .ok (.invokespecial idx, 3)) (hN : ZMc N) (hl : ZLk M.1.cls idx N) (hk : (parseMethodDescriptor N.1.desc).map (fun d => d.parameters.length) = some k) (hA : As.length = k) (hR : zFits R d n0 n') (hn : n ≤ n') (hcat : (st.map fun v => v.category).sum ≤ 8) (hz : z = As.reverse ++ .ref (zB X + o) :: st)
    (K : Zc X N d n n' (.ref (zB X + o) :: As) σ (fun r σ' => Zm X M R Z n0 n' (pc + 3) ls (r.toList ++ st) σ')) : Zm X M R Z n0 n pc ls z σ := by
  subst hz
  intro G p e s m args below meth c H locs lsA hF hL hP T hT S
  have hsz := zSize hF hP hT S
  have hW := hF.2.2.2.2.2.2.2.1
  obtain ⟨⟨hco, hini, hy, h50⟩, him, hnm, hret⟩ := hN
  obtain ⟨N1, N2, N3, N4⟩ := N
  dsimp only at hco hini hy h50 him hnm hret hl hk K
  subst hret
  have hlen : ∀ sig, parseMethodDescriptor N1.desc = some sig → k = sig.parameters.length := fun sig h => by rw [h] at hk; exact (Option.some.inj hk).symm
  have hpre : PreS s H (va_Pc (.ref (zB X + o) :: As) (fun U => ZWorld X U σ n)) (.ref (zB X + o) :: As) := ⟨zBlind X _ σ n, fun U hU hWU => ⟨rfl, zWorldAt G hF hP hsz U hU hWU⟩⟩
  have hcode := zGood_word G hW hco rfl args
  have hinit := zGood_word G hW hini rfl args
  have hfr : (zRm d n n').frames + 1 ≤ R.frames := hR.1
  have hlo : 8 + (N3 + 11) + (zRm d n n').locals ≤ R.locals := by show 8 + (N3 + 11) + (69 * d + 11) ≤ R.locals; have := hR.2.1; omega
  have hm1 := zSl_mono hn
  have hm2 := zSl_mono hP.1
  have hroom : n - n0 + (n' - n) ≤ R.cells ∧ zSl n - zSl n0 + (zSl n' - zSl n) ≤ R.slots := ⟨by have := hR.2.2.1; have := hP.1; omega, by have := hR.2.2.2; omega⟩
  rcases hl with hl | ⟨host, hl⟩
  · exact zAfter (free := zFree X) G hF hL hP hn (fun _ h => h) (fun _ _ _ h => h)
      (va_runI (As := As) (rest := st) (Ts := []) ⟨hF.1, hF.2.1, hF.2.2.1, hF.2.2.2.2.2.1, fun _ h => by cases h⟩ (K G)
        ⟨⟨rfl, rfl, hfr, hlo, zPay (N := (N1, N2, N3, none)) G hW hco, List.mem_singleton.mpr rfl, hcode, hinit, hy, hlen, zGood_word G hW hl rfl args⟩, hnm, zGood_word G hW him rfl args⟩ hpre rfl hA hL.1 rfl (lv_room hcat) hd hroom) hT S
  · exact zAfter (free := zFree X) G hF hL hP hn (fun _ h => h) (fun _ _ _ h => h)
      (va_runIN (As := As) (rest := st) (Ts := []) ⟨hF.1, hF.2.1, hF.2.2.1, hF.2.2.2.2.2.1, fun _ h => by cases h⟩ (K G)
        ⟨⟨⟨rfl, rfl, hfr, hlo, zPay (N := (N1, N2, N3, none)) G hW hco, List.mem_singleton.mpr rfl⟩, hcode, hinit, hy, hlen, va_Nw.use rfl (zNestM_at G hW hl)⟩, hnm, zGood_word G hW him rfl args⟩ hpre rfl hA hL.1 rfl (lv_room hcat) hd hroom) hT S
end ZC
