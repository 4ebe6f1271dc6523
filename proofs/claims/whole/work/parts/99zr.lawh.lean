def R_law : String := "StoneRoomLaw"
def lw_P (b : Addr) (xs : List Int32) (args : Array Value) (s : State) : Prop := args = #[.ref b] ∧ s.IntsAt b xs ∧ xs.length ≤ 3072 ∧ (Jvm.Cond.and given_1 narrow_1).before args s = true
def lw_Q (_ : Array Value) (s : State) (o : Outcome) (t : State) : Prop := o = .returned (some (.int 1)) ∧ Framed s o t [] 600000 7302249
def lw_Z (below : List Frame) (a : Array Value) (s : State) : State → Prop := fun t => ∃ o, t.status = .running ∧ Ended t below o ∧ lw_Q a s o t
/-- the law's own end, with 1 on the stack, nothing written that was there before, its room as the claim has it -/
theorem lw_ret {p : Program} {l : Launch} {e : Env} {s : State} {m : MethodId} {below : List Frame} {meth : Method} {c : Code} {b : Nat} (hx : p.tables.exec = Jvm.exec) (hb : c.code = code) (hr : meth.sig.returnType = ret) (hlocks : meth.locks = false) {pc : Nat} {H : Heap} {ls : Array Slot} (hdg : decode code pc = .ok (.ireturn, 1)) : W p l e room_1 s m #[Value.ref b] below meth c H [] 600000 7302249 (lw_Z below #[Value.ref b] s) (F0 m pc ls [.int 1]) := by
  intro T hT X
  obtain ⟨fs, hret, hrun, hended, hW, hframe⟩ := X.leave (v := some (.int 1)) (hlocks := hlocks) (fun h => by rw [hr] at h; cases h)
  have hmeth' : T.vm.method? m = some meth := X.method'
  refine ⟨T.setFrames fs, ?_, .returned (some (.int 1)), hrun, hended, rfl, ⟨_, rfl⟩, hW, hframe⟩
  jvm_step X.here [X.here.top, hx, hb, hdg, hmeth', hr, ret, narrow_b1]
  (try refine ⟨rfl, ?_⟩); (try refine ⟨rfl, ?_⟩)
  first | (intro acts; rw [hret _ acts rfl rfl rfl]) | rw [hret _ _ rfl rfl rfl]
  exact Steps.refl _
/-- what holds at the law's entry: the machine, the code, the tables' words (any of lw_tbl by 'hts w (by decide +kernel)'), the script of L ints xs at the cell b, what the Statement gives of the start (any of its parts by flat_of_before) -/
def lw_At (p : Program) (s : State) (m : MethodId) (meth : Method) (c : Code) (b L : Nat) (xs : Nat → Int32) : Prop :=
  p.tables.exec = Jvm.exec ∧ c.code = code ∧ meth.sig.returnType = ret ∧ c.maxLocals = 4 ∧ s.vm.findClass R_law = some m.cls ∧ (∀ w ∈ lw_tbl, w.before #[Value.ref b] s = true) ∧ va_X b L xs s s.heap ∧ b < s.heap.size ∧ meth.locks = false ∧ (Jvm.Cond.and given_1 narrow_1).before #[Value.ref b] s = true
/-- the law's own end, with 1 on the stack, nothing written that was there before, its room as the claim has it -/
theorem lw_ret' {p : Program} {l : Launch} {e : Env} {s : State} {m : MethodId} {below : List Frame} {meth : Method} {c : Code} {args : Array Value} (hx : p.tables.exec = Jvm.exec) (hb : c.code = code) (hr : meth.sig.returnType = ret) (hlocks : meth.locks = false) {pc : Nat} {H : Heap} {ls : Array Slot} (hdg : decode code pc = .ok (.ireturn, 1)) : W p l e room_1 s m args below meth c H [] 600000 7302249 (lw_Z below args s) (F0 m pc ls [.int 1]) := by
  intro T hT X
  obtain ⟨fs, hret, hrun, hended, hW, hframe⟩ := X.leave (v := some (.int 1)) (hlocks := hlocks) (fun h => by rw [hr] at h; cases h)
  have hmeth' : T.vm.method? m = some meth := X.method'
  refine ⟨T.setFrames fs, ?_, .returned (some (.int 1)), hrun, hended, rfl, ⟨_, rfl⟩, hW, hframe⟩
  jvm_step X.here [X.here.top, hx, hb, hdg, hmeth', hr, ret, narrow_b1]
  (try refine ⟨rfl, ?_⟩); (try refine ⟨rfl, ?_⟩)
  first | (intro acts; rw [hret _ acts rfl rfl rfl]) | rw [hret _ _ rfl rfl rfl]
  exact Steps.refl _
/-! ===== the law's body among the other methods ===== -/
abbrev M_law (nm : String) : ZM := (⟨"StoneRoomLaw", nm, "([I)Z"⟩, code, 4, ret)
/-- the script -/
def Scr (X : ZX) (b L : Nat) (s : Nat → Int) : Prop := va_T .int b L (fun j => iV (s j)) (zFree X) X.2.1 X.2.1.heap ∧ L ≤ 3072
set_option maxRecDepth 20000 in
theorem zSl_all : zSl 104 ≤ 7302249 := by decide +kernel
theorem zR {d n' : Nat} (hd : d ≤ 1209) (hn : n' ≤ 104) : zFits room_1 d 0 n' := by
  have h1 := zSl_mono hn
  have h2 := zSl_all
  exact ⟨by show d + 1 ≤ 2048; omega, by show 69 * (d + 1) + 11 ≤ 84000; omega, by show n' - 0 ≤ 600000; omega, by show zSl n' - zSl 0 ≤ 7302249; omega⟩
section ZLh
variable {X : ZX} {M : ZM} {R : Room} {Z : List Frame → Array Value → State → State → Prop} {n0 n pc b L i k : Nat} {kk : Int} {s : Nat → Int} {ls : List (Option Value)} {st : List Value} {σ : ZSto} {nm : String}
theorem r_scx {x : Int} (hS : Scr X b L s) (hd : decode M.2.1 pc = .ok (.iaload, 1)) (h0 : 0 ≤ x) (h1 : x < L) (K : Zm X M R Z n0 n (pc + 1) ls (iV (s x.toNat) :: st) σ) : Zm X M R Z n0 n pc ls (iV x :: .ref b :: st) σ := by
  intro G p e s' m args below meth c H locs lsA hF hL hP
  have kk := K G p e s' m args below meth c H locs lsA hF hL hP
  have hW := hF.2.2.2.2.2.2.2.1
  have hl := hS.2
  exact va_ti hF.1 hF.2.1 ((va_T.moved hW.alike hS.1).kept (zKeep hF)) hP.2.2 (i32_in h0 h1 (by omega)) (by rw [i32_cl h0 (by omega)]) hd kk
theorem r_sc (hS : Scr X b L s) (hd : decode M.2.1 pc = .ok (.iaload, 1)) (hk : kk = (k : Int)) (h1 : i + k < L) (K : Zm X M R Z n0 n (pc + 1) ls (iV (s (i + k)) :: st) σ) : Zm X M R Z n0 n pc ls (iV ((i : Int) + kk) :: .ref b :: st) σ := by
  subst hk
  refine r_scx hS hd (by omega) (by omega) ?_
  rw [show ((i : Int) + (k : Int)).toNat = i + k by omega]
  exact K
theorem r_sc0 (hS : Scr X b L s) (hd : decode M.2.1 pc = .ok (.iaload, 1)) (h1 : i < L) (K : Zm X M R Z n0 n (pc + 1) ls (iV (s i) :: st) σ) : Zm X M R Z n0 n pc ls (iV (i : Int) :: .ref b :: st) σ := by
  refine r_scx hS hd (by omega) (by omega) ?_
  rw [show ((i : Int)).toNat = i by omega]
  exact K
theorem r_slen (hS : Scr X b L s) (hd : decode M.2.1 pc = .ok (.arraylength, 1)) (K : Zm X M R Z n0 n (pc + 1) ls (iV (L : Int) :: st) σ) : Zm X M R Z n0 n pc ls (.ref b :: st) σ := by
  intro G p e s' m args below meth c H locs lsA hF hL hP
  have kk := K G p e s' m args below meth c H locs lsA hF hL hP
  have hW := hF.2.2.2.2.2.2.2.1
  exact va_tlen hF.1 hF.2.1 ((va_T.moved hW.alike hS.1).kept (zKeep hF)) hP.2.2 (Int32.ofInt_eq_ofNat (n := L)).symm hd kk
theorem r_lawend : Zm X (M_law nm) room_1 lw_Z 0 104 930 ls [iV 1] σ := by
  intro G p e s' m args below meth c H locs lsA hF hL hP
  have h2 := zSl_all
  refine va_forget (fun q hq => ?_) ?_
  · have h := hP.2.2.2.2 q hq
    rw [hF.2.2.2.2.2.2.2.2.1]
    exact h
  refine W.widen (k := 600000) (n := 7302249) (by decide) (by omega) ?_
  have e1 : iV 1 = Value.int 1 := rfl
  rw [e1]
  exact lw_ret' hF.1 hF.2.1 hF.2.2.2.1 hF.2.2.2.2.1 dL_law_930
end ZLh
