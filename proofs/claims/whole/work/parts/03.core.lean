/-! ===== the store of one run: ints, longs, references, by cell and place ===== -/
abbrev ZSto : Type := (Nat → Nat → Int) × (Nat → Nat → Int64) × (Nat → Nat → Option Nat)
def gI (σ : ZSto) (a i : Nat) : Int := σ.1 a i
def gL (σ : ZSto) (a i : Nat) : Int64 := σ.2.1 a i
def gP (σ : ZSto) (a i : Nat) : Option Nat := σ.2.2 a i
def up2 {α : Type} (f : Nat → Nat → α) (a i : Nat) (v : α) : Nat → Nat → α := fun b j => if b = a ∧ j = i then v else f b j
def sI (σ : ZSto) (a i : Nat) (x : Int) : ZSto := (up2 σ.1 a i x, σ.2)
def sL (σ : ZSto) (a i : Nat) (x : Int64) : ZSto := (σ.1, up2 σ.2.1 a i x, σ.2.2)
def sP (σ : ZSto) (a i : Nat) (x : Option Nat) : ZSto := (σ.1, σ.2.1, up2 σ.2.2 a i x)
def iV (x : Int) : Value := .int (Int32.ofInt x)
def oV (B : Nat) (r : Option Nat) : Value := match r with
  | none => .null
  | some k => .ref (B + k)
def R32 (x : Int) : Prop := -2147483648 ≤ x ∧ x < 2147483648
/-- the classes whose objects the worlds hold -/
abbrev zCl : List vw_C := [(RX0, TX0, 13), (RX1, TX1, 2), (RX2, TX2, 4), (RX3, TX3, 11), (RX4, TX4, 10), (RX5, TX5, 16), (RX6, TX6, 5), (RX7, TX7, 17), (RX8, TX8, 1), (RX9, TX9, 14), (RX10, TX10, 52)]
def zNf (ci : Nat) : Nat := match ci with
  | 0 => 13 | 1 => 2 | 2 => 4 | 3 => 11 | 4 => 10 | 5 => 16 | 6 => 5 | 7 => 17 | 8 => 1 | 9 => 14 | 10 => 52 | _ => 0
def zTy (ci : Nat) : Nat → FieldType := match ci with
  | 0 => tyX0 | 1 => tyX1 | 2 => tyX2 | 3 => tyX3 | 4 => tyX4 | 5 => tyX5 | 6 => tyX6 | 7 => tyX7 | 8 => tyX8 | 9 => tyX9 | _ => tyX10
/-- the cells of a run in the order in which they are made: arrays (type, length), objects (class) -/
def zTree : List ((FieldType × Nat) ⊕ Nat) := [.inr 7, .inl (.int, 250), .inl (.int, 250), .inl (.int, 250), .inl (.int, 250), .inl (.int, 250), .inl (.int, 250), .inl (.int, 250), .inl (.int, 250), .inl (.int, 250), .inl (.int, 250), .inl (.int, 250), .inl (.long, 750), .inl (.long, 750)]
def zBoard : List ((FieldType × Nat) ⊕ Nat) := [.inr 0, .inl (.byte, 81), .inl (.int, 324), .inl (.int, 81), .inl (.int, 81), .inl (.int, 81), .inl (.int, 3), .inl (.long, 3)]
def zSh : List ((FieldType × Nat) ⊕ Nat) := [.inr 9] ++ zTree ++ zTree ++ [.inr 1, .inl (.byte, 1500), .inr 1, .inl (.byte, 4096)] ++ zBoard ++ zBoard ++ [.inr 5, .inl (.int, 252), .inl (.long, 3), .inr 8] ++
  [.inr 4, .inl (.int, 81), .inl (.int, 81), .inl (.int, 64), .inl (.int, 64), .inl (.int, 64), .inl (.long, 64), .inl (.long, 64)] ++ [.inr 3, .inl (.long, 1803), .inl (.long, 601), .inl (.long, 601), .inl (.int, 601), .inl (.int, 601)] ++
  [.inr 6, .inl (.boolean, 81), .inl (.int, 3), .inl (.int, 3), .inr 2, .inr 2] ++
  [.inr 10, .inl (.int, 500), .inl (.int, 500), .inl (.int, 500), .inl (.int, 500), .inl (.int, 500), .inl (.byte, 40500), .inl (.byte, 40500), .inl (.int, 2), .inl (.int, 2), .inl (.int, 2), .inl (.byte, 81), .inl (.boolean, 81), .inl (.boolean, 81), .inl (.int, 81), .inl (.byte, 1500), .inl (.int, 1500), .inl (.byte, 9000), .inl (.int, 250), .inl (.boolean, 81), .inl (.int, 81), .inl (.int, 81), .inl (.boolean, 81), .inl (.boolean, 81), .inl (.byte, 49000), .inl (.boolean, 81), .inl (.int, 81), .inl (.boolean, 81), .inl (.int, 3), .inl (.int, 3), .inl (.boolean, 3)]
def SH (k : Nat) : Option ((FieldType × Nat) ⊕ Nat) := zSh[k]?
def zSz (k : Nat) : Nat := match SH k with
  | some (.inl q) => q.2
  | some (.inr ci) => zNf ci
  | none => 0
def zSl (n : Nat) : Nat := ((List.range n).map zSz).sum
def fV (B : Nat) (σ : ZSto) (ty : FieldType) (a j : Nat) : Value := match ty with
  | .long => .long (gL σ a j)
  | .object _ => oV B (gP σ a j)
  | .array _ => oV B (gP σ a j)
  | _ => iV (gI σ a j)
def zA (σ : ZSto) (ty : FieldType) (k : Nat) : (Nat → Int32) ⊕ (Nat → Int64) ⊕ (Nat → UInt32) ⊕ (Nat → UInt64) ⊕ (Nat → Option Nat) := match ty with
  | .long => .inr (.inl (gL σ k))
  | _ => .inl (fun i => Int32.ofInt (gI σ k i))
def zE (B : Nat) (cA : FieldType → ClassId) (σ : ZSto) (k : Nat) : va_E := match SH k with
  | some (.inl q) => .inl (cA q.1, q.2, zA σ q.1 k)
  | some (.inr ci) => .inr (ci, (List.range (zNf ci)).map (fun j => fV B σ (zTy ci j) k j))
  | none => .inr (0, [])
def zW (B : Nat) (cA : FieldType → ClassId) (σ : ZSto) (n : Nat) : va_W := (List.range n).map (fun k => (B + k, zE B cA σ k))
/-- what stays the same through one run -/
abbrev ZX : Type := Launch × State × va_G × (FieldType → ClassId)
abbrev zB (X : ZX) : Nat := X.2.1.heap.size
abbrev zTys (X : ZX) : List (ClassId × FieldType) := [(X.2.2.2 .int, .int), (X.2.2.2 .byte, .byte), (X.2.2.2 .boolean, .boolean), (X.2.2.2 .long, .long)]
def ZGood (X : ZX) : Prop := (∃ a : Array Value, ∀ w ∈ lw_tbl, w.before a X.2.1 = true) ∧ va_K X.2.2.1 zCl (zTys X) X.2.1
/-- a method: its name, its code, its locals, what it returns -/
abbrev ZM : Type := MethodName × ByteArray × Nat × Option FieldType
def zRm (d n n' : Nat) : Room := { frames := d, cells := n' - n, slots := zSl n' - zSl n, locals := 69 * d + 11 }
abbrev zFree (X : ZX) : Nat → Prop := fun q => zB X ≤ q
def ZWorld (X : ZX) (U : State) (σ : ZSto) (n : Nat) : Prop := X.2.1.WarmedH U.vm ∧ (∀ q, q < zB X → U.heap[q]? = X.2.1.heap[q]?) ∧ U.heap.size = zB X + n ∧ va_P X.2.2.1 zCl (zW (zB X) X.2.2.2 σ n) U.heap
def zQc (X : ZX) (n : Nat) (Q : Option Value → ZSto → Prop) : Array Value → State → Outcome → State → Prop := fun _ _ o t => ∃ (r : Option Value) (σ : ZSto), o = .returned r ∧ Q r σ ∧ ZWorld X t σ n
/-- a call of M with these arguments at this store comes back, with Q -/
def Zc (X : ZX) (M : ZM) (d n n' : Nat) (vs : List Value) (σ : ZSto) (Q : Option Value → ZSto → Prop) : Prop :=
  ZGood X → Met X.1 M.1 [.code M.1 M.2.1 M.2.2.1 M.2.2.2] (zRm d n n') (va_Pc vs (fun U => ZWorld X U σ n)) (zQc X n' Q) (n' - n) (zSl n' - zSl n) (zFree X)
/-- what a method's body has of its own start -/
def ZFix (X : ZX) (M : ZM) (n0 : Nat) (p : Program) (s : State) (m : MethodId) (meth : Method) (c : Code) : Prop :=
  p.tables.exec = Jvm.exec ∧ c.code = M.2.1 ∧ c.maxLocals = M.2.2.1 ∧ meth.sig.returnType = M.2.2.2 ∧ meth.locks = false ∧ s.vm.findClass M.1.cls = some m.cls ∧ meth.name = M.1.name ∧ X.2.1.WarmedH s.vm ∧ s.heap.size = zB X + n0 ∧ (∀ q, q < zB X → s.heap[q]? = X.2.1.heap[q]?)
def ZPic (X : ZX) (n0 n : Nat) (σ : ZSto) (s : State) (H : Heap) (locs : List Loc) : Prop :=
  n0 ≤ n ∧ va_P X.2.2.1 zCl (zW (zB X) X.2.2.2 σ n) H ∧ va_S (zFree X) s.heap H locs
/-- locals by their places -/
def zL (lsA : Array Slot) (mL : Nat) (ls : List (Option Value)) : Prop := lsA.size = mL ∧ lv_wf lsA ∧ ∀ (k : Nat) (v : Value), ls[k]? = some (some v) → lsA[k]? = some (.val v)
/-- the machine, in the body of M at pc with these locals, this operand stack and this store, comes to Z -/
def Zm (X : ZX) (M : ZM) (R : Room) (Z : List Frame → Array Value → State → State → Prop) (n0 n : Nat) (pc : Nat) (ls : List (Option Value)) (st : List Value) (σ : ZSto) : Prop :=
  ZGood X → ∀ (p : Program) (e : Env) (s : State) (m : MethodId) (args : Array Value) (below : List Frame) (meth : Method) (c : Code) (H : Heap) (locs : List Loc) (lsA : Array Slot),
    ZFix X M n0 p s m meth c → zL lsA M.2.2.1 ls → ZPic X n0 n σ s H locs → W p X.1 e R s m args below meth c H locs (n - n0) (zSl n - zSl n0) (Z below args s) (F0 m pc lsA st)
/-- the end of a method of the run: Q of its answer and its store -/
def zZ (X : ZX) (n0 n1 : Nat) (Q : Option Value → ZSto → Prop) : List Frame → Array Value → State → State → Prop := fun below args s => MQ below (zQc X n1 Q) args s (n1 - n0) (zSl n1 - zSl n0) (zFree X)
theorem zW_at {B : Nat} {cA : FieldType → ClassId} {σ : ZSto} {n k : Nat} (h : k < n) : (zW B cA σ n)[k]? = some (B + k, zE B cA σ k) := by simp [zW, h]
theorem zW_in {B : Nat} {cA : FieldType → ClassId} {σ : ZSto} {n k : Nat} {q : Nat × va_E} (h : (zW B cA σ n)[k]? = some q) : k < n ∧ q = (B + k, zE B cA σ k) := by
  have hk : k < n := by
    have := (List.getElem?_eq_some_iff.mp h).1
    simpa [zW] using this
  rw [zW_at hk] at h
  exact ⟨hk, (Option.some.inj h).symm⟩
theorem zW_D (X : ZX) (cA : FieldType → ClassId) (σ : ZSto) (n : Nat) : va_D (zFree X) (zW (zB X) cA σ n) := by
  refine ⟨fun i j p q hi hj e => ?_, fun k q hk => ?_⟩
  · have h1 := (zW_in hi).2
    have h2 := (zW_in hj).2
    rw [h1, h2] at e
    have e : zB X + i = zB X + j := e
    omega
  · rw [(zW_in hk).2]
    exact Nat.le_add_right _ _
theorem zW_set {B : Nat} {cA : FieldType → ClassId} {σ σ' : ZSto} {n a : Nat} {e : va_E} (he : zE B cA σ' a = e) (ho : ∀ b, b ≠ a → zE B cA σ' b = zE B cA σ b) : (zW B cA σ n).set a (B + a, e) = zW B cA σ' n := by
  apply List.ext_getElem?
  intro k
  rw [List.getElem?_set]
  by_cases hk : a = k
  · subst hk
    rw [if_pos rfl]
    by_cases h : a < n
    · rw [zW_at h, he]
      simp [zW, h]
    · rw [List.getElem?_eq_none (by simp [zW]; omega)]
      rw [if_neg (by simp [zW]; omega)]
  · rw [if_neg hk]
    by_cases h : k < n
    · rw [zW_at h, zW_at h, ho k (fun q => hk q.symm)]
    · rw [List.getElem?_eq_none (by simp [zW]; omega), List.getElem?_eq_none (by simp [zW]; omega)]
theorem zGood_word {X : ZX} (G : ZGood X) {s : State} (hW : X.2.1.WarmedH s.vm) {w : Cond} (hw : w ∈ lw_tbl) (hg : goodWord w = true) (args : Array Value) : w.before args s = true := by
  obtain ⟨⟨a, h⟩, -⟩ := G
  exact word_at hW (good_of_word hg) (h w hw)
theorem zGood_K {X : ZX} (G : ZGood X) {s : State} (hW : X.2.1.WarmedH s.vm) : va_K X.2.2.1 zCl (zTys X) s := va_K.moved hW.alike G.2
theorem zSize {X : ZX} {M : ZM} {n0 n : Nat} {σ : ZSto} {p : Program} {l : Launch} {e : Env} {R : Room} {s : State} {m : MethodId} {args : Array Value} {below : List Frame} {meth : Method} {c : Code} {H : Heap} {locs : List Loc} {T : State} {sl : Nat}
    (hF : ZFix X M n0 p s m meth c) (hP : ZPic X n0 n σ s H locs) (hT : T.heap = H) (S : Stand p l e R s m args below meth c T locs (n - n0) sl) : H.size = zB X + n := by
  have h1 := S.heapSize
  obtain ⟨hn, hP, hS⟩ := hP
  obtain ⟨-, -, -, -, -, -, -, -, hs, -⟩ := hF
  rw [hT, hs] at h1
  have h2 : zB X + n ≤ H.size := by
    cases n with
    | zero => have := hS.1; omega
    | succ k =>
      have := (hP k _ (zW_at (Nat.lt_succ_self k))).lt
      have : zB X + k < H.size := this
      omega
  omega
theorem zSl_succ (n : Nat) : zSl (n + 1) = zSl n + zSz n := by simp [zSl, List.range_succ]
theorem zSl_mono {a b : Nat} (h : a ≤ b) : zSl a ≤ zSl b := by
  induction h with
  | refl => exact Nat.le_refl _
  | step _ ih => rw [zSl_succ]; omega
