/-! A ROW AN INSTRUCTION, OVER THE DESK'S WORLD. E: where a method runs; J: from this place the machine comes to its end -/
abbrev ET : Type := Program × Launch × Env × Room × State × MethodId × Array Value × List Frame × Method × Code × Heap × Nat × Nat × (State → Prop)
def eP (E : ET) : Program := E.1
def eL (E : ET) : Launch := E.2.1
def eE (E : ET) : Env := E.2.2.1
def eR (E : ET) : Room := E.2.2.2.1
def eS (E : ET) : State := E.2.2.2.2.1
def eM (E : ET) : MethodId := E.2.2.2.2.2.1
def eArgs (E : ET) : Array Value := E.2.2.2.2.2.2.1
def eBelow (E : ET) : List Frame := E.2.2.2.2.2.2.2.1
def eMeth (E : ET) : Method := E.2.2.2.2.2.2.2.2.1
def eC (E : ET) : Code := E.2.2.2.2.2.2.2.2.2.1
def eH0 (E : ET) : Heap := E.2.2.2.2.2.2.2.2.2.2.1
def eCells (E : ET) : Nat := E.2.2.2.2.2.2.2.2.2.2.2.1
def eSlots (E : ET) : Nat := E.2.2.2.2.2.2.2.2.2.2.2.2.1
def eQ (E : ET) : State → Prop := E.2.2.2.2.2.2.2.2.2.2.2.2.2
def WJ (E : ET) (H : Heap) (locs : List Loc) (ls : Array Slot) (pc : Nat) (st : List Value) : Prop := W (eP E) (eL E) (eE E) (eR E) (eS E) (eM E) (eArgs E) (eBelow E) (eMeth E) (eC E) H locs (eCells E) (eSlots E) (eQ E) (F0 (eM E) pc ls st)
def J (G : GT) (E : ET) (nL pc : Nat) (lv : List (Nat × Value)) (st : List Value) (M : Mm) : Prop :=
  ∀ (H : Heap) (locs : List Loc) (ls : Array Slot), va_P G.1 vwCl (wld G M) H → va_S (gA G) (eH0 E) H locs → lv_has ls nL lv → WJ E H locs ls pc st
/-- the tables' words that last, and those between nest mates -/
def lw_aw : List Cond := lw_tbl.filter goodWord
def isNest : Cond → Bool
  | .methodLinkNest .. => true
  | _ => false
def lw_nest : List Cond := lw_tbl.filter isNest
def KK (G : GT) (U : State) : Prop := va_K G.1 vwCl (tysL G) U ∧ ∀ w ∈ lw_nest, va_Nw w U
theorem nest_of {w : Cond} (h : w ∈ lw_nest) : ∃ a i x y, w = .methodLinkNest a i x y := by
  have h1 := (List.mem_filter.mp h).2
  cases w <;> first | exact ⟨_, _, _, _, rfl⟩ | exact absurd h1 (by decide) | exact absurd h1 Bool.false_ne_true
theorem KK.warm {G : GT} {u U : State} (hW : u.WarmedH U.vm) (h : KK G u) : KK G U := ⟨va_K.moved hW.alike h.1, fun w hw => by
  have h2 := h.2 w hw
  obtain ⟨a, i, x, y, rfl⟩ := nest_of hw
  exact va_Nw.warmM hW h2⟩
theorem KK.same {G : GT} {u U : State} (hv : u.vm = U.vm) (h : KK G u) : KK G U := ⟨va_K.moved (by rw [← hv]; exact Vm.Alike.refl u.vm) h.1, fun w hw => by
  have h2 := h.2 w hw
  obtain ⟨a, i, x, y, rfl⟩ := nest_of hw
  exact va_Nw.same rfl hv h2⟩
/-- what stands all the while a method runs -/
def CX (G : GT) (E : ET) (own : String) (cc : ByteArray) (nL : Nat) (rm : Room) : Prop :=
  (eP E).tables.exec = Jvm.exec ∧ (eC E).code = cc ∧ (eC E).maxLocals = nL ∧ (eS E).vm.findClass own = some (eM E).cls ∧ (∀ w ∈ lw_aw, w.before (eArgs E) (eS E) = true) ∧
  KK G (eS E) ∧ (∀ M : Mm, va_D (gA G) (wld G M)) ∧ eR E = rm ∧ eCells E ≤ rm.cells ∧ eSlots E ≤ rm.slots
/-- a method's end -/
def RX (G : GT) (E : ET) (ret : Option FieldType) (Qc : Array Value → State → Outcome → State → Prop) : Prop :=
  (eMeth E).locks = false ∧ (eMeth E).sig.returnType = ret ∧ eQ E = MQ (eBelow E) Qc (eArgs E) (eS E) (eCells E) (eSlots E) (gA G) ∧ eH0 E = (eS E).heap
def HRx (G : GT) (M : Mm) (U : State) : Prop := va_P G.1 vwCl (wld G M) U.heap ∧ KK G U
theorem vpc {i : Int32} {n : Nat} (h : ¬ (i < 0 ∨ n ≤ i.toNatClampNeg)) : vp_in i n := h
theorem tw {i : Nat} {w : Cond} (h : lw_tbl[i]? = some w) (hg : goodWord w = true := by rfl) : w ∈ lw_aw := List.mem_filter.mpr ⟨List.mem_of_getElem? h, hg⟩
theorem tn {i : Nat} {w : Cond} (h : lw_tbl[i]? = some w) (hg : isNest w = true := by rfl) : w ∈ lw_nest := List.mem_filter.mpr ⟨List.mem_of_getElem? h, hg⟩
section FRM
variable {G : GT} {E : ET} {own : String} {cc : ByteArray} {nL pc : Nat} {rm : Room} {lv : List (Nat × Value)} {st : List Value} {M : Mm}
theorem j_iconst (X : CX G E own cc nL rm) {n : Int} {v : Int32} (hv : Int32.ofInt n = v) (d : decode cc pc = .ok (.iconst n, 1)) (k : J G E nL (pc + 1) lv (.int v :: st) M) : J G E nL pc lv st M := fun H locs ls hP hS hl => lv_iconst X.1 X.2.1 d hv (k H locs ls hP hS hl)
theorem j_bipush (X : CX G E own cc nL rm) {n : Int} {v : Int32} (hv : (Int8.ofInt n).toInt32 = v) (d : decode cc pc = .ok (.bipush n, 2)) (k : J G E nL (pc + 2) lv (.int v :: st) M) : J G E nL pc lv st M := fun H locs ls hP hS hl => lv_bipush X.1 X.2.1 d hv (k H locs ls hP hS hl)
theorem j_sipush (X : CX G E own cc nL rm) {n : Int} {v : Int32} (hv : (Int16.ofInt n).toInt32 = v) (d : decode cc pc = .ok (.sipush n, 3)) (k : J G E nL (pc + 3) lv (.int v :: st) M) : J G E nL pc lv st M := fun H locs ls hP hS hl => lv_sipush X.1 X.2.1 d hv (k H locs ls hP hS hl)
theorem j_lconst (X : CX G E own cc nL rm) {n : Fin 2} {v : Int64} (hv : Int64.ofNat (n : Nat) = v) (d : decode cc pc = .ok (.lconst n, 1)) (k : J G E nL (pc + 1) lv (.long v :: st) M) : J G E nL pc lv st M := fun H locs ls hP hS hl => lv_lconst X.1 X.2.1 d hv (k H locs ls hP hS hl)
theorem j_fconst0 (X : CX G E own cc nL rm)  (d : decode cc pc = .ok (.fconst 0, 1)) (k : J G E nL (pc + 1) lv (.float FP.fconst0 :: st) M) : J G E nL pc lv st M := fun H locs ls hP hS hl => lv_fconst0 X.1 X.2.1 d (k H locs ls hP hS hl)
theorem j_fconst1 (X : CX G E own cc nL rm)  (d : decode cc pc = .ok (.fconst 1, 1)) (k : J G E nL (pc + 1) lv (.float FP.fconst1 :: st) M) : J G E nL pc lv st M := fun H locs ls hP hS hl => lv_fconst1 X.1 X.2.1 d (k H locs ls hP hS hl)
theorem j_fconst2 (X : CX G E own cc nL rm)  (d : decode cc pc = .ok (.fconst 2, 1)) (k : J G E nL (pc + 1) lv (.float FP.fconst2 :: st) M) : J G E nL pc lv st M := fun H locs ls hP hS hl => lv_fconst2 X.1 X.2.1 d (k H locs ls hP hS hl)
theorem j_iload_n (X : CX G E own cc nL rm) (q : Nat) {k : Fin 4} {i : Nat} {x : Int32} (d : decode cc pc = .ok (.iload_n k, 1)) (hi : (k : Nat) = i) (hv : lv[q]? = some (i, .int x)) (k : J G E nL (pc + 1) lv (.int x :: st) M) : J G E nL pc lv st M := fun H locs ls hP hS hl => lv_iload_n X.1 X.2.1 d hi (lv_at hl q hv) (k H locs ls hP hS hl)
theorem j_iload (X : CX G E own cc nL rm) (q : Nat) {i : Nat} {x : Int32} (d : decode cc pc = .ok (.iload i, 2)) (hv : lv[q]? = some (i, .int x)) (k : J G E nL (pc + 2) lv (.int x :: st) M) : J G E nL pc lv st M := fun H locs ls hP hS hl => lv_iload X.1 X.2.1 d (lv_at hl q hv) (k H locs ls hP hS hl)
theorem j_lload_n (X : CX G E own cc nL rm) (q : Nat) {k : Fin 4} {i : Nat} {x : Int64} (d : decode cc pc = .ok (.lload_n k, 1)) (hi : (k : Nat) = i) (hv : lv[q]? = some (i, .long x)) (k : J G E nL (pc + 1) lv (.long x :: st) M) : J G E nL pc lv st M := fun H locs ls hP hS hl => lv_lload_n X.1 X.2.1 d hi (lv_at hl q hv) (k H locs ls hP hS hl)
theorem j_lload (X : CX G E own cc nL rm) (q : Nat) {i : Nat} {x : Int64} (d : decode cc pc = .ok (.lload i, 2)) (hv : lv[q]? = some (i, .long x)) (k : J G E nL (pc + 2) lv (.long x :: st) M) : J G E nL pc lv st M := fun H locs ls hP hS hl => lv_lload X.1 X.2.1 d (lv_at hl q hv) (k H locs ls hP hS hl)
theorem j_fload_n (X : CX G E own cc nL rm) (q : Nat) {k : Fin 4} {i : Nat} {x : UInt32} (d : decode cc pc = .ok (.fload_n k, 1)) (hi : (k : Nat) = i) (hv : lv[q]? = some (i, .float x)) (k : J G E nL (pc + 1) lv (.float x :: st) M) : J G E nL pc lv st M := fun H locs ls hP hS hl => lv_fload_n X.1 X.2.1 d hi (lv_at hl q hv) (k H locs ls hP hS hl)
theorem j_fload (X : CX G E own cc nL rm) (q : Nat) {i : Nat} {x : UInt32} (d : decode cc pc = .ok (.fload i, 2)) (hv : lv[q]? = some (i, .float x)) (k : J G E nL (pc + 2) lv (.float x :: st) M) : J G E nL pc lv st M := fun H locs ls hP hS hl => lv_fload X.1 X.2.1 d (lv_at hl q hv) (k H locs ls hP hS hl)
theorem j_aload_n (X : CX G E own cc nL rm) (q : Nat) {k : Fin 4} {i : Nat} {x : Nat} (d : decode cc pc = .ok (.aload_n k, 1)) (hi : (k : Nat) = i) (hv : lv[q]? = some (i, .ref x)) (k : J G E nL (pc + 1) lv (.ref x :: st) M) : J G E nL pc lv st M := fun H locs ls hP hS hl => lv_aload_n X.1 X.2.1 d hi (lv_at hl q hv) (k H locs ls hP hS hl)
theorem j_aload (X : CX G E own cc nL rm) (q : Nat) {i : Nat} {x : Nat} (d : decode cc pc = .ok (.aload i, 2)) (hv : lv[q]? = some (i, .ref x)) (k : J G E nL (pc + 2) lv (.ref x :: st) M) : J G E nL pc lv st M := fun H locs ls hP hS hl => lv_aload X.1 X.2.1 d (lv_at hl q hv) (k H locs ls hP hS hl)
theorem j_istore_n (X : CX G E own cc nL rm) {k : Fin 4} {i : Nat} {x : Int32} (lv2 : List (Nat × Value)) (d : decode cc pc = .ok (.istore_n k, 1)) (hi : (k : Nat) = i) (hn : i < nL) (hl2 : (i, .int x) :: lv.filter (fun q => !(q.1 == i) && !(q.1 + 1 == i && q.2.category == 2)) = lv2) (k : J G E nL (pc + 1) lv2 st M) : J G E nL pc lv (.int x :: st) M := fun H locs ls hP hS hl => lv_istore_n X.1 X.2.1 d hi hl hn hl2 (fun ls hl => k H locs ls hP hS hl)
theorem j_istore (X : CX G E own cc nL rm) {i : Nat} {x : Int32} (lv2 : List (Nat × Value)) (d : decode cc pc = .ok (.istore i, 2)) (hn : i < nL) (hl2 : (i, .int x) :: lv.filter (fun q => !(q.1 == i) && !(q.1 + 1 == i && q.2.category == 2)) = lv2) (k : J G E nL (pc + 2) lv2 st M) : J G E nL pc lv (.int x :: st) M := fun H locs ls hP hS hl => lv_istore X.1 X.2.1 d hl hn hl2 (fun ls hl => k H locs ls hP hS hl)
theorem j_lstore_n (X : CX G E own cc nL rm) {k : Fin 4} {i : Nat} {x : Int64} (lv2 : List (Nat × Value)) (d : decode cc pc = .ok (.lstore_n k, 1)) (hi : (k : Nat) = i) (hn : i + 1 < nL) (hl2 : (i, .long x) :: lv.filter (fun q => !(q.1 == i) && (!(q.1 == i + 1) && !(q.1 + 1 == i && q.2.category == 2))) = lv2) (k : J G E nL (pc + 1) lv2 st M) : J G E nL pc lv (.long x :: st) M := fun H locs ls hP hS hl => lv_lstore_n X.1 X.2.1 d hi hl hn hl2 (fun ls hl => k H locs ls hP hS hl)
theorem j_lstore (X : CX G E own cc nL rm) {i : Nat} {x : Int64} (lv2 : List (Nat × Value)) (d : decode cc pc = .ok (.lstore i, 2)) (hn : i + 1 < nL) (hl2 : (i, .long x) :: lv.filter (fun q => !(q.1 == i) && (!(q.1 == i + 1) && !(q.1 + 1 == i && q.2.category == 2))) = lv2) (k : J G E nL (pc + 2) lv2 st M) : J G E nL pc lv (.long x :: st) M := fun H locs ls hP hS hl => lv_lstore X.1 X.2.1 d hl hn hl2 (fun ls hl => k H locs ls hP hS hl)
theorem j_fstore_n (X : CX G E own cc nL rm) {k : Fin 4} {i : Nat} {x : UInt32} (lv2 : List (Nat × Value)) (d : decode cc pc = .ok (.fstore_n k, 1)) (hi : (k : Nat) = i) (hn : i < nL) (hl2 : (i, .float x) :: lv.filter (fun q => !(q.1 == i) && !(q.1 + 1 == i && q.2.category == 2)) = lv2) (k : J G E nL (pc + 1) lv2 st M) : J G E nL pc lv (.float x :: st) M := fun H locs ls hP hS hl => lv_fstore_n X.1 X.2.1 d hi hl hn hl2 (fun ls hl => k H locs ls hP hS hl)
theorem j_fstore (X : CX G E own cc nL rm) {i : Nat} {x : UInt32} (lv2 : List (Nat × Value)) (d : decode cc pc = .ok (.fstore i, 2)) (hn : i < nL) (hl2 : (i, .float x) :: lv.filter (fun q => !(q.1 == i) && !(q.1 + 1 == i && q.2.category == 2)) = lv2) (k : J G E nL (pc + 2) lv2 st M) : J G E nL pc lv (.float x :: st) M := fun H locs ls hP hS hl => lv_fstore X.1 X.2.1 d hl hn hl2 (fun ls hl => k H locs ls hP hS hl)
theorem j_astore_n (X : CX G E own cc nL rm) {k : Fin 4} {i : Nat} {x : Nat} (lv2 : List (Nat × Value)) (d : decode cc pc = .ok (.astore_n k, 1)) (hi : (k : Nat) = i) (hn : i < nL) (hl2 : (i, .ref x) :: lv.filter (fun q => !(q.1 == i) && !(q.1 + 1 == i && q.2.category == 2)) = lv2) (k : J G E nL (pc + 1) lv2 st M) : J G E nL pc lv (.ref x :: st) M := fun H locs ls hP hS hl => lv_astore_n X.1 X.2.1 d hi hl hn hl2 (fun ls hl => k H locs ls hP hS hl)
theorem j_astore (X : CX G E own cc nL rm) {i : Nat} {x : Nat} (lv2 : List (Nat × Value)) (d : decode cc pc = .ok (.astore i, 2)) (hn : i < nL) (hl2 : (i, .ref x) :: lv.filter (fun q => !(q.1 == i) && !(q.1 + 1 == i && q.2.category == 2)) = lv2) (k : J G E nL (pc + 2) lv2 st M) : J G E nL pc lv (.ref x :: st) M := fun H locs ls hP hS hl => lv_astore X.1 X.2.1 d hl hn hl2 (fun ls hl => k H locs ls hP hS hl)
theorem j_iinc (X : CX G E own cc nL rm) (q : Nat) {i : Nat} {n : Int} {x v : Int32} (lv2 : List (Nat × Value)) (d : decode cc pc = .ok (.iinc i n, 3)) (hk : lv[q]? = some (i, .int x)) (hv : x + Int32.ofInt n = v) (hn : i < nL) (hl2 : (i, Value.int v) :: lv.filter (fun q => !(q.1 == i) && !(q.1 + 1 == i && q.2.category == 2)) = lv2) (k : J G E nL (pc + 3) lv2 st M) : J G E nL pc lv st M := fun H locs ls hP hS hl => lv_iinc X.1 X.2.1 d hl hk hv hn hl2 (fun ls hl => k H locs ls hP hS hl)
theorem j_sub (ks : List Nat) {lv2 : List (Nat × Value)} (hl2 : lv_pick lv ks = lv2) (k : J G E nL pc lv2 st M) : J G E nL pc lv st M := fun H locs ls hP hS hl => k H locs ls hP hS (lv_sub hl ks hl2)
theorem j_iadd (X : CX G E own cc nL rm) {x y : Int32} (d : decode cc pc = .ok (.iadd, 1)) (k : J G E nL (pc + 1) lv (.int (x + y) :: st) M) : J G E nL pc lv (.int y :: .int x :: st) M := fun H locs ls hP hS hl => lv_iadd X.1 X.2.1 d (k H locs ls hP hS hl)
theorem j_isub (X : CX G E own cc nL rm) {x y : Int32} (d : decode cc pc = .ok (.isub, 1)) (k : J G E nL (pc + 1) lv (.int (x - y) :: st) M) : J G E nL pc lv (.int y :: .int x :: st) M := fun H locs ls hP hS hl => lv_isub X.1 X.2.1 d (k H locs ls hP hS hl)
theorem j_imul (X : CX G E own cc nL rm) {x y : Int32} (d : decode cc pc = .ok (.imul, 1)) (k : J G E nL (pc + 1) lv (.int (x * y) :: st) M) : J G E nL pc lv (.int y :: .int x :: st) M := fun H locs ls hP hS hl => lv_imul X.1 X.2.1 d (k H locs ls hP hS hl)
theorem j_iand (X : CX G E own cc nL rm) {x y : Int32} (d : decode cc pc = .ok (.iand, 1)) (k : J G E nL (pc + 1) lv (.int (x &&& y) :: st) M) : J G E nL pc lv (.int y :: .int x :: st) M := fun H locs ls hP hS hl => lv_iand X.1 X.2.1 d (k H locs ls hP hS hl)
theorem j_ior (X : CX G E own cc nL rm) {x y : Int32} (d : decode cc pc = .ok (.ior, 1)) (k : J G E nL (pc + 1) lv (.int (x ||| y) :: st) M) : J G E nL pc lv (.int y :: .int x :: st) M := fun H locs ls hP hS hl => lv_ior X.1 X.2.1 d (k H locs ls hP hS hl)
theorem j_ishl (X : CX G E own cc nL rm) {x y : Int32} (d : decode cc pc = .ok (.ishl, 1)) (k : J G E nL (pc + 1) lv (.int (x <<< (y &&& 31)) :: st) M) : J G E nL pc lv (.int y :: .int x :: st) M := fun H locs ls hP hS hl => lv_ishl X.1 X.2.1 d (k H locs ls hP hS hl)
theorem j_idiv (X : CX G E own cc nL rm) {x y : Int32} (hne : ¬ y = 0) (d : decode cc pc = .ok (.idiv, 1)) (k : J G E nL (pc + 1) lv (.int (x / y) :: st) M) : J G E nL pc lv (.int y :: .int x :: st) M := fun H locs ls hP hS hl => lv_idiv X.1 X.2.1 d hne (k H locs ls hP hS hl)
theorem j_irem (X : CX G E own cc nL rm) {x y : Int32} (hne : ¬ y = 0) (d : decode cc pc = .ok (.irem, 1)) (k : J G E nL (pc + 1) lv (.int (x - x / y * y) :: st) M) : J G E nL pc lv (.int y :: .int x :: st) M := fun H locs ls hP hS hl => lv_irem X.1 X.2.1 d hne (k H locs ls hP hS hl)
theorem j_ladd (X : CX G E own cc nL rm) {x y : Int64} (d : decode cc pc = .ok (.ladd, 1)) (k : J G E nL (pc + 1) lv (.long (x + y) :: st) M) : J G E nL pc lv (.long y :: .long x :: st) M := fun H locs ls hP hS hl => lv_ladd X.1 X.2.1 d (k H locs ls hP hS hl)
theorem j_lsub (X : CX G E own cc nL rm) {x y : Int64} (d : decode cc pc = .ok (.lsub, 1)) (k : J G E nL (pc + 1) lv (.long (x - y) :: st) M) : J G E nL pc lv (.long y :: .long x :: st) M := fun H locs ls hP hS hl => lv_lsub X.1 X.2.1 d (k H locs ls hP hS hl)
theorem j_lmul (X : CX G E own cc nL rm) {x y : Int64} (d : decode cc pc = .ok (.lmul, 1)) (k : J G E nL (pc + 1) lv (.long (x * y) :: st) M) : J G E nL pc lv (.long y :: .long x :: st) M := fun H locs ls hP hS hl => lv_lmul X.1 X.2.1 d (k H locs ls hP hS hl)
theorem j_ldiv (X : CX G E own cc nL rm) {x y : Int64} (hne : ¬ y = 0) (d : decode cc pc = .ok (.ldiv, 1)) (k : J G E nL (pc + 1) lv (.long (x / y) :: st) M) : J G E nL pc lv (.long y :: .long x :: st) M := fun H locs ls hP hS hl => lv_ldiv X.1 X.2.1 d hne (k H locs ls hP hS hl)
theorem j_lrem (X : CX G E own cc nL rm) {x y : Int64} (hne : ¬ y = 0) (d : decode cc pc = .ok (.lrem, 1)) (k : J G E nL (pc + 1) lv (.long (x - x / y * y) :: st) M) : J G E nL pc lv (.long y :: .long x :: st) M := fun H locs ls hP hS hl => lv_lrem X.1 X.2.1 d hne (k H locs ls hP hS hl)
theorem j_lcmp (X : CX G E own cc nL rm) {x y : Int64} (d : decode cc pc = .ok (.lcmp, 1)) (k : J G E nL (pc + 1) lv (.int (lg_cmp x y) :: st) M) : J G E nL pc lv (.long y :: .long x :: st) M := fun H locs ls hP hS hl => W.lcmp X.1 X.2.1 d (k H locs ls hP hS hl)
theorem j_i2l (X : CX G E own cc nL rm) {x : Int32} (d : decode cc pc = .ok (.i2l, 1)) (k : J G E nL (pc + 1) lv (.long x.toInt64 :: st) M) : J G E nL pc lv (.int x :: st) M := fun H locs ls hP hS hl => lv_i2l X.1 X.2.1 d rfl (k H locs ls hP hS hl)
theorem j_l2i (X : CX G E own cc nL rm) {x : Int64} (d : decode cc pc = .ok (.l2i, 1)) (k : J G E nL (pc + 1) lv (.int x.toInt32 :: st) M) : J G E nL pc lv (.long x :: st) M := fun H locs ls hP hS hl => lv_l2i X.1 X.2.1 d rfl (k H locs ls hP hS hl)
theorem j_i2c (X : CX G E own cc nL rm) {x : Int32} (d : decode cc pc = .ok (.i2c, 1)) (k : J G E nL (pc + 1) lv (.int (x.toUInt32 % 65536).toInt32 :: st) M) : J G E nL pc lv (.int x :: st) M := fun H locs ls hP hS hl => lv_i2c X.1 X.2.1 d rfl (k H locs ls hP hS hl)
theorem j_iushr (X : CX G E own cc nL rm) {x y : Int32} (d : decode cc pc = .ok (.iushr, 1)) (k : J G E nL (pc + 1) lv (.int (x.toUInt32 >>> (y.toUInt32 &&& Int32.toUInt32 31)).toInt32 :: st) M) : J G E nL pc lv (.int y :: .int x :: st) M := fun H locs ls hP hS hl => lv_iushr X.1 X.2.1 d rfl (k H locs ls hP hS hl)
theorem j_fadd (X : CX G E own cc nL rm) {x y : UInt32} (hne : vf_n32 (FP.fadd x y)) (d : decode cc pc = .ok (.fadd, 1)) (k : J G E nL (pc + 1) lv (.float (FP.fadd x y) :: st) M) : J G E nL pc lv (.float y :: .float x :: st) M := fun H locs ls hP hS hl => lv_fadd X.1 X.2.1 d hne (k H locs ls hP hS hl)
theorem j_fsub (X : CX G E own cc nL rm) {x y : UInt32} (hne : vf_n32 (FP.fsub x y)) (d : decode cc pc = .ok (.fsub, 1)) (k : J G E nL (pc + 1) lv (.float (FP.fsub x y) :: st) M) : J G E nL pc lv (.float y :: .float x :: st) M := fun H locs ls hP hS hl => lv_fsub X.1 X.2.1 d hne (k H locs ls hP hS hl)
theorem j_fmul (X : CX G E own cc nL rm) {x y : UInt32} (hne : vf_n32 (FP.fmul x y)) (d : decode cc pc = .ok (.fmul, 1)) (k : J G E nL (pc + 1) lv (.float (FP.fmul x y) :: st) M) : J G E nL pc lv (.float y :: .float x :: st) M := fun H locs ls hP hS hl => lv_fmul X.1 X.2.1 d hne (k H locs ls hP hS hl)
theorem j_fdiv (X : CX G E own cc nL rm) {x y : UInt32} (hne : vf_n32 (FP.fdiv x y)) (d : decode cc pc = .ok (.fdiv, 1)) (k : J G E nL (pc + 1) lv (.float (FP.fdiv x y) :: st) M) : J G E nL pc lv (.float y :: .float x :: st) M := fun H locs ls hP hS hl => lv_fdiv X.1 X.2.1 d hne (k H locs ls hP hS hl)
theorem j_fcmp (X : CX G E own cc nL rm) {x y : UInt32} {op : CmpOp} (d : decode cc pc = .ok (.fcmp op, 1)) (k : J G E nL (pc + 1) lv (.int (Op.cmpValue (FP.fcmp x y) op) :: st) M) : J G E nL pc lv (.float y :: .float x :: st) M := fun H locs ls hP hS hl => lv_fcmp X.1 X.2.1 d (k H locs ls hP hS hl)
theorem j_i2f (X : CX G E own cc nL rm) {x : Int32} (d : decode cc pc = .ok (.i2f, 1)) (k : J G E nL (pc + 1) lv (.float (FP.i2f x) :: st) M) : J G E nL pc lv (.int x :: st) M := fun H locs ls hP hS hl => lv_i2f X.1 X.2.1 d (k H locs ls hP hS hl)
theorem j_f2i (X : CX G E own cc nL rm) {x : UInt32} (d : decode cc pc = .ok (.f2i, 1)) (k : J G E nL (pc + 1) lv (.int (FP.f2i x) :: st) M) : J G E nL pc lv (.float x :: st) M := fun H locs ls hP hS hl => lv_f2i X.1 X.2.1 d (k H locs ls hP hS hl)
theorem j_dup (X : CX G E own cc nL rm) {va : Value} (hva : va.category = 1) (d : decode cc pc = .ok (.dup, 1)) (k : J G E nL (pc + 1) lv (va :: va :: st) M) : J G E nL pc lv (va :: st) M := fun H locs ls hP hS hl => lv_dup X.1 X.2.1 d hva (k H locs ls hP hS hl)
theorem j_pop (X : CX G E own cc nL rm) {va : Value} (hva : va.category = 1) (d : decode cc pc = .ok (.pop, 1)) (k : J G E nL (pc + 1) lv st M) : J G E nL pc lv (va :: st) M := fun H locs ls hP hS hl => lv_pop X.1 X.2.1 d hva (k H locs ls hP hS hl)
theorem j_dup2 (X : CX G E own cc nL rm) {va vb : Value} (hva : va.category = 1) (hvb : vb.category = 1) (d : decode cc pc = .ok (.dup2, 1)) (k : J G E nL (pc + 1) lv (va :: vb :: va :: vb :: st) M) : J G E nL pc lv (va :: vb :: st) M := fun H locs ls hP hS hl => lv_dup2_11 X.1 X.2.1 d hva hvb (k H locs ls hP hS hl)
theorem j_icmp_eq (X : CX G E own cc nL rm) (tgt : Nat) {x y : Int32} {off : Int} (d : decode cc pc = .ok (.if_icmp .eq off, 3)) (ht : (pc : Int) + off = (tgt : Int)) (kt : x = y → J G E nL tgt lv st M) (kf : ¬ x = y → J G E nL (pc + 3) lv st M) : J G E nL pc lv (.int y :: .int x :: st) M := fun H locs ls hP hS hl => lv_icmp_eq X.1 X.2.1 d ht (fun q => kt q H locs ls hP hS hl) (fun q => kf q H locs ls hP hS hl)
theorem j_if_eq (X : CX G E own cc nL rm) (tgt : Nat) {x : Int32} {off : Int} (d : decode cc pc = .ok (.ifCond .eq off, 3)) (ht : (pc : Int) + off = (tgt : Int)) (kt : x = 0 → J G E nL tgt lv st M) (kf : ¬ x = 0 → J G E nL (pc + 3) lv st M) : J G E nL pc lv (.int x :: st) M := fun H locs ls hP hS hl => lv_if_eq X.1 X.2.1 d ht (fun q => kt q H locs ls hP hS hl) (fun q => kf q H locs ls hP hS hl)
theorem j_icmp_ne (X : CX G E own cc nL rm) (tgt : Nat) {x y : Int32} {off : Int} (d : decode cc pc = .ok (.if_icmp .ne off, 3)) (ht : (pc : Int) + off = (tgt : Int)) (kt : ¬ x = y → J G E nL tgt lv st M) (kf : x = y → J G E nL (pc + 3) lv st M) : J G E nL pc lv (.int y :: .int x :: st) M := fun H locs ls hP hS hl => lv_icmp_ne X.1 X.2.1 d ht (fun q => kt q H locs ls hP hS hl) (fun q => kf q H locs ls hP hS hl)
theorem j_if_ne (X : CX G E own cc nL rm) (tgt : Nat) {x : Int32} {off : Int} (d : decode cc pc = .ok (.ifCond .ne off, 3)) (ht : (pc : Int) + off = (tgt : Int)) (kt : ¬ x = 0 → J G E nL tgt lv st M) (kf : x = 0 → J G E nL (pc + 3) lv st M) : J G E nL pc lv (.int x :: st) M := fun H locs ls hP hS hl => lv_if_ne X.1 X.2.1 d ht (fun q => kt q H locs ls hP hS hl) (fun q => kf q H locs ls hP hS hl)
theorem j_icmp_lt (X : CX G E own cc nL rm) (tgt : Nat) {x y : Int32} {off : Int} (d : decode cc pc = .ok (.if_icmp .lt off, 3)) (ht : (pc : Int) + off = (tgt : Int)) (kt : x < y → J G E nL tgt lv st M) (kf : ¬ x < y → J G E nL (pc + 3) lv st M) : J G E nL pc lv (.int y :: .int x :: st) M := fun H locs ls hP hS hl => lv_icmp_lt X.1 X.2.1 d ht (fun q => kt q H locs ls hP hS hl) (fun q => kf q H locs ls hP hS hl)
theorem j_if_lt (X : CX G E own cc nL rm) (tgt : Nat) {x : Int32} {off : Int} (d : decode cc pc = .ok (.ifCond .lt off, 3)) (ht : (pc : Int) + off = (tgt : Int)) (kt : x < 0 → J G E nL tgt lv st M) (kf : ¬ x < 0 → J G E nL (pc + 3) lv st M) : J G E nL pc lv (.int x :: st) M := fun H locs ls hP hS hl => lv_if_lt X.1 X.2.1 d ht (fun q => kt q H locs ls hP hS hl) (fun q => kf q H locs ls hP hS hl)
theorem j_icmp_ge (X : CX G E own cc nL rm) (tgt : Nat) {x y : Int32} {off : Int} (d : decode cc pc = .ok (.if_icmp .ge off, 3)) (ht : (pc : Int) + off = (tgt : Int)) (kt : y ≤ x → J G E nL tgt lv st M) (kf : ¬ y ≤ x → J G E nL (pc + 3) lv st M) : J G E nL pc lv (.int y :: .int x :: st) M := fun H locs ls hP hS hl => lv_icmp_ge X.1 X.2.1 d ht (fun q => kt q H locs ls hP hS hl) (fun q => kf q H locs ls hP hS hl)
theorem j_if_ge (X : CX G E own cc nL rm) (tgt : Nat) {x : Int32} {off : Int} (d : decode cc pc = .ok (.ifCond .ge off, 3)) (ht : (pc : Int) + off = (tgt : Int)) (kt : 0 ≤ x → J G E nL tgt lv st M) (kf : ¬ 0 ≤ x → J G E nL (pc + 3) lv st M) : J G E nL pc lv (.int x :: st) M := fun H locs ls hP hS hl => lv_if_ge X.1 X.2.1 d ht (fun q => kt q H locs ls hP hS hl) (fun q => kf q H locs ls hP hS hl)
theorem j_icmp_gt (X : CX G E own cc nL rm) (tgt : Nat) {x y : Int32} {off : Int} (d : decode cc pc = .ok (.if_icmp .gt off, 3)) (ht : (pc : Int) + off = (tgt : Int)) (kt : y < x → J G E nL tgt lv st M) (kf : ¬ y < x → J G E nL (pc + 3) lv st M) : J G E nL pc lv (.int y :: .int x :: st) M := fun H locs ls hP hS hl => lv_icmp_gt X.1 X.2.1 d ht (fun q => kt q H locs ls hP hS hl) (fun q => kf q H locs ls hP hS hl)
theorem j_if_gt (X : CX G E own cc nL rm) (tgt : Nat) {x : Int32} {off : Int} (d : decode cc pc = .ok (.ifCond .gt off, 3)) (ht : (pc : Int) + off = (tgt : Int)) (kt : 0 < x → J G E nL tgt lv st M) (kf : ¬ 0 < x → J G E nL (pc + 3) lv st M) : J G E nL pc lv (.int x :: st) M := fun H locs ls hP hS hl => lv_if_gt X.1 X.2.1 d ht (fun q => kt q H locs ls hP hS hl) (fun q => kf q H locs ls hP hS hl)
theorem j_icmp_le (X : CX G E own cc nL rm) (tgt : Nat) {x y : Int32} {off : Int} (d : decode cc pc = .ok (.if_icmp .le off, 3)) (ht : (pc : Int) + off = (tgt : Int)) (kt : x ≤ y → J G E nL tgt lv st M) (kf : ¬ x ≤ y → J G E nL (pc + 3) lv st M) : J G E nL pc lv (.int y :: .int x :: st) M := fun H locs ls hP hS hl => lv_icmp_le X.1 X.2.1 d ht (fun q => kt q H locs ls hP hS hl) (fun q => kf q H locs ls hP hS hl)
theorem j_if_le (X : CX G E own cc nL rm) (tgt : Nat) {x : Int32} {off : Int} (d : decode cc pc = .ok (.ifCond .le off, 3)) (ht : (pc : Int) + off = (tgt : Int)) (kt : x ≤ 0 → J G E nL tgt lv st M) (kf : ¬ x ≤ 0 → J G E nL (pc + 3) lv st M) : J G E nL pc lv (.int x :: st) M := fun H locs ls hP hS hl => lv_if_le X.1 X.2.1 d ht (fun q => kt q H locs ls hP hS hl) (fun q => kf q H locs ls hP hS hl)
theorem j_goto (X : CX G E own cc nL rm) (tgt : Nat) {off : Int} (d : decode cc pc = .ok (.goto off, 3)) (ht : (pc : Int) + off = (tgt : Int)) (k : J G E nL tgt lv st M) : J G E nL pc lv st M := fun H locs ls hP hS hl => lv_goto X.1 X.2.1 d ht (k H locs ls hP hS hl)
theorem j_topi {x : Int32} (k : ∀ y : Int32, y = x → J G E nL pc lv (.int y :: st) M) : J G E nL pc lv (.int x :: st) M := k x rfl
theorem j_topl {x : Int64} (k : ∀ y : Int64, y = x → J G E nL pc lv (.long y :: st) M) : J G E nL pc lv (.long x :: st) M := k x rfl
theorem j_topf {x : UInt32} (k : ∀ y : UInt32, y = x → J G E nL pc lv (.float y :: st) M) : J G E nL pc lv (.float x :: st) M := k x rfl
theorem j_ldc (X : CX G E own cc nL rm) {index : Nat} {v : Int32} (hc : Cond.constant own index v ∈ lw_aw) (d : decode cc pc = .ok (.ldc index, 2)) (k : J G E nL (pc + 2) lv (.int v :: st) M) : J G E nL pc lv st M := fun H locs ls hP hS hl => lv_ldc X.1 X.2.1 X.2.2.2.1 (X.2.2.2.2.1 _ hc) d (k H locs ls hP hS hl)
theorem j_ldcw (X : CX G E own cc nL rm) {index : Nat} {v : Int32} (hc : Cond.constant own index v ∈ lw_aw) (d : decode cc pc = .ok (.ldc_w index, 3)) (k : J G E nL (pc + 3) lv (.int v :: st) M) : J G E nL pc lv st M := fun H locs ls hP hS hl => lv_ldcw X.1 X.2.1 X.2.2.2.1 (X.2.2.2.2.1 _ hc) d (k H locs ls hP hS hl)
theorem j_ldcf (X : CX G E own cc nL rm) {index : Nat} {v : UInt32} (hc : Cond.constantFloat own index v ∈ lw_aw) (d : decode cc pc = .ok (.ldc index, 2)) (k : J G E nL (pc + 2) lv (.float v :: st) M) : J G E nL pc lv st M := fun H locs ls hP hS hl => lv_ldcf X.1 X.2.1 X.2.2.2.1 (X.2.2.2.2.1 _ hc) d (k H locs ls hP hS hl)
theorem j_ldc2 (X : CX G E own cc nL rm) {index : Nat} {v : Int64} (hc : Cond.constantLong own index v ∈ lw_aw) (d : decode cc pc = .ok (.ldc2_w index, 3)) (k : J G E nL (pc + 3) lv (.long v :: st) M) : J G E nL pc lv st M := fun H locs ls hP hS hl => lv_ldc2 X.1 X.2.1 X.2.2.2.1 (X.2.2.2.2.1 _ hc) d (k H locs ls hP hS hl)
/-- arrays -/
theorem j_iald (X : CX G E own cc nL rm) {t b n : Nat} {i : Int32} (j : Nat) (hj : i.toNatClampNeg = j) (hm : (t, b) ∈ wl) (hk : kindT t = 1) (hn : lenT t = n) (hin : vp_in i n) (d : decode cc pc = .ok (.iaload, 1)) (k : J G E nL (pc + 1) lv (.int (rd M t b j) :: st) M) : J G E nL pc lv (.int i :: .ref (adr G t b) :: st) M := fun H locs ls hP hS hl => by
  subst hj
  obtain ⟨q0, -, hq⟩ := wld_get (G := G) M hm
  rw [cellF_1 hk, hn] at hq
  exact va_iald X.1 X.2.1 X.2.2.2.2.2.1.1 hP q0 0 hq rfl hin d (k H locs ls hP hS hl)
theorem j_cald (X : CX G E own cc nL rm) {t b n : Nat} {i : Int32} (j : Nat) (hj : i.toNatClampNeg = j) (hm : (t, b) ∈ wl) (hk : kindT t = 2) (hn : lenT t = n) (hin : vp_in i n) (d : decode cc pc = .ok (.caload, 1)) (k : J G E nL (pc + 1) lv (.int (rd M t b j) :: st) M) : J G E nL pc lv (.int i :: .ref (adr G t b) :: st) M := fun H locs ls hP hS hl => by
  subst hj
  obtain ⟨q0, -, hq⟩ := wld_get (G := G) M hm
  rw [cellF_2 hk, hn] at hq
  exact va_cald X.1 X.2.1 X.2.2.2.2.2.1.1 hP q0 1 hq rfl hin d (k H locs ls hP hS hl)
theorem j_lald (X : CX G E own cc nL rm) {t b n : Nat} {i : Int32} (hm : (t, b) ∈ wl) (hk : kindT t = 3) (hn : lenT t = n) (hin : vp_in i n) (d : decode cc pc = .ok (.laload, 1)) (k : J G E nL (pc + 1) lv (.long (rdL M i.toNatClampNeg) :: st) M) : J G E nL pc lv (.int i :: .ref (adr G t b) :: st) M := fun H locs ls hP hS hl => by
  obtain ⟨q0, -, hq⟩ := wld_get (G := G) M hm
  rw [cellF_3 hk, hn] at hq
  exact va_lald X.1 X.2.1 X.2.2.2.2.2.1.1 hP q0 2 hq rfl hin d (k H locs ls hP hS hl)
theorem j_aaldB (X : CX G E own cc nL rm) {t b n : Nat} {i : Int32} (hm : (t, b) ∈ wl) (hk : kindT t = 4) (hn : lenT t = n) (hin : vp_in i n) (d : decode cc pc = .ok (.aaload, 1)) (k : J G E nL (pc + 1) lv (.ref (adr G 0 (2 + i.toNatClampNeg)) :: st) M) : J G E nL pc lv (.int i :: .ref (adr G t b) :: st) M := fun H locs ls hP hS hl => by
  obtain ⟨q0, -, hq⟩ := wld_get (G := G) M hm
  rw [cellF_4 hk, hn] at hq
  exact va_aldq X.1 X.2.1 X.2.2.2.2.2.1.1 hP q0 3 (C := RX0) hq rfl hin d (k H locs ls hP hS hl)
theorem j_iast (X : CX G E own cc nL rm) {t b n : Nat} {i v : Int32} (j : Nat) (hj : i.toNatClampNeg = j) (hm : (t, b) ∈ wl) (hk : kindT t = 1) (hn : lenT t = n) (hin : vp_in i n) (d : decode cc pc = .ok (.iastore, 1)) (k : J G E nL (pc + 1) lv st (wr M t b j v)) : J G E nL pc lv (.int v :: .int i :: .ref (adr G t b) :: st) M := fun H locs ls hP hS hl => by
  subst hj
  obtain ⟨q0, hw, hq⟩ := wld_get (G := G) M hm
  have hD := X.2.2.2.2.2.2.1 M
  rw [cellF_1 hk, hn] at hq
  refine va_iast X.1 X.2.1 X.2.2.2.2.2.1.1 hP hD hS q0 0 hq rfl hin d (fun H1 locs1 hP1 _ hS1 => k H1 locs1 ls ?_ hS1 hl)
  rw [wld_wr (j := i.toNatClampNeg) (v := v) hD hw (by rw [cellF_1 hk, hn])] at hP1
  exact hP1
theorem j_cast (X : CX G E own cc nL rm) {t b n : Nat} {i v : Int32} (j : Nat) (hj : i.toNatClampNeg = j) (hm : (t, b) ∈ wl) (hk : kindT t = 2) (hn : lenT t = n) (hin : vp_in i n) (d : decode cc pc = .ok (.castore, 1)) (k : J G E nL (pc + 1) lv st (wr M t b j (vp_nar .char v))) : J G E nL pc lv (.int v :: .int i :: .ref (adr G t b) :: st) M := fun H locs ls hP hS hl => by
  subst hj
  obtain ⟨q0, hw, hq⟩ := wld_get (G := G) M hm
  have hD := X.2.2.2.2.2.2.1 M
  rw [cellF_2 hk, hn] at hq
  refine va_cast X.1 X.2.1 X.2.2.2.2.2.1.1 hP hD hS q0 1 hq rfl hin d (fun H1 locs1 hP1 _ hS1 => k H1 locs1 ls ?_ hS1 hl)
  rw [wld_wr (j := i.toNatClampNeg) (v := vp_nar .char v) hD hw (by rw [cellF_2 hk, hn])] at hP1
  exact hP1
theorem j_last (X : CX G E own cc nL rm) {n : Nat} {i : Int32} {v : Int64} (hn : lenT 62 = n) (hin : vp_in i n) (d : decode cc pc = .ok (.lastore, 1)) (k : J G E nL (pc + 1) lv st (wrL M i.toNatClampNeg v)) : J G E nL pc lv (.long v :: .int i :: .ref (adr G 62 0) :: st) M := fun H locs ls hP hS hl => by
  obtain ⟨q0, hw, hq⟩ := wld_get (G := G) M (mw62 0 (by decide))
  have hD := X.2.2.2.2.2.2.1 M
  rw [cellF_3 kt62, hn] at hq
  refine va_last X.1 X.2.1 X.2.2.2.2.2.1.1 hP hD hS q0 2 hq rfl hin d (fun H1 locs1 hP1 _ hS1 => k H1 locs1 ls ?_ hS1 hl)
  rw [wld_wrL (j := i.toNatClampNeg) (v := v) hD hw (by rw [cellF_3 kt62, hn])] at hP1
  exact hP1
theorem j_copy (X : CX G E own cc nL rm) {index t b t2 b2 n0 n1 : Nat} {sp dp n : Int32} (s1 d1 m1 : Nat) (hs1 : sp.toNatClampNeg = s1) (hd1 : dp.toNatClampNeg = d1) (hm1 : n.toNatClampNeg = m1) (hlink : Cond.methodLink own index arraycopyName ∈ lw_aw) (hm : (t, b) ∈ wl) (hk : kindT t = 1) (hn0 : lenT t = n0) (hm2 : (t2, b2) ∈ wl) (hk2 : kindT t2 = 1) (hn1 : lenT t2 = n1)
    (h1 : ¬ sp < 0) (h2 : ¬ dp < 0) (h3 : ¬ n < 0) (h4 : s1 + m1 ≤ n0) (h5 : d1 + m1 ≤ n1)
    (hfr : 1 ≤ rm.frames) (hlo : (st.map fun v => v.category).sum + 18 ≤ rm.locals) (d : decode cc pc = .ok (.invokestatic index, 3))
    (k : J G E nL (pc + 3) lv st (wrA M t2 b2 (va_cpy (M.1 t b) (M.1 t2 b2) s1 d1 m1))) : J G E nL pc lv (.int n :: .int dp :: .ref (adr G t2 b2) :: .int sp :: .ref (adr G t b) :: st) M := fun H locs ls hP hS hl => by
  subst hs1 hd1 hm1
  obtain ⟨q0, hw, hq⟩ := wld_get (G := G) M hm
  obtain ⟨q1, hw1, hq1⟩ := wld_get (G := G) M hm2
  have hD := X.2.2.2.2.2.2.1 M
  rw [cellF_1 hk, hn0] at hq
  rw [cellF_1 hk2, hn1] at hq1
  refine va_copyi (own := own) (index := index) X.1 X.2.1 (by rw [X.2.2.1]; exact hl.1.symm) X.2.2.2.1 (X.2.2.2.2.1 _ hlink) (X.2.2.2.2.1 _ (tw (i := 392) (by decide +kernel))) (X.2.2.2.2.1 _ (tw (i := 391) (by decide +kernel))) (X.2.2.2.2.1 _ (tw (i := 79) (by decide +kernel))) X.2.2.2.2.2.1.1 hP hD hS q0 q1 0 0 (ty := .int) hq hq1 rfl rfl rfl h1 h2 h3 h4 h5 (fun _ _ => rfl) (by rw [X.2.2.2.2.2.2.2.1]; exact hfr) (by rw [X.2.2.2.2.2.2.2.1]; exact hlo) d (fun H1 locs1 hP1 _ hS1 => k H1 locs1 ls ?_ hS1 hl)
  rw [wld_wrA (f := va_cpy (M.1 t b) (M.1 t2 b2) sp.toNatClampNeg dp.toNatClampNeg n.toNatClampNeg) hD hw1 (by rw [cellF_1 hk2, hn1])] at hP1
  exact hP1
theorem j_aaldI (X : CX G E own cc nL rm) {t b n : Nat} {i : Int32} (hm : (t, b) ∈ wl) (hk : kindT t = 5) (hn : lenT t = n) (hin : vp_in i n) (d : decode cc pc = .ok (.aaload, 1)) (k : J G E nL (pc + 1) lv (.ref (adr G (t + 200) i.toNatClampNeg) :: st) M) : J G E nL pc lv (.int i :: .ref (adr G t b) :: st) M := fun H locs ls hP hS hl => by
  obtain ⟨q0, -, hq⟩ := wld_get (G := G) M hm
  rw [cellF_5 hk, hn] at hq
  have hlt : i.toNatClampNeg < n := Nat.not_le.mp fun q => hin (Or.inr q)
  have hcell := hP q0 _ hq
  have hK := X.2.2.2.2.2.1.1
  refine W.aald (v := .ref (adr G (t + 200) i.toNatClampNeg)) (ty := .array .int) X.1 X.2.1 hcell ((hK.2 4 _ rfl).1 n (fun j => va_rf (some (adr G (t + 200) j)))) rfl (fun q => by cases q) ?_ ?_ rfl rfl d (k H locs ls hP hS hl)
  · show ¬ (i < 0 ∨ (arrV _ _ _).slots.size ≤ _)
    rw [arrV_size]
    exact hin
  · show (arrV _ _ _).slots[_]? = _
    rw [arrV_read _ _ hlt]
    rfl
theorem j_min (X : CX G E own cc nL rm) {index : Nat} {x y : Int32} (hlink : Cond.methodLink own index Lib.Math.min.name ∈ lw_aw) (hfr : 1 ≤ rm.frames) (hlo : (st.map fun v => v.category).sum + 13 ≤ rm.locals) (d : decode cc pc = .ok (.invokestatic index, 3)) (k : J G E nL (pc + 3) lv (.int (if y < x then y else x) :: st) M) : J G E nL pc lv (.int y :: .int x :: st) M := fun H locs ls hP hS hl =>
  va_mmin X.1 X.2.1 (by rw [X.2.2.1]; exact hl.1.symm) X.2.2.2.1 (X.2.2.2.2.1 _ hlink) (X.2.2.2.2.1 _ (tw (i := 410) (by decide +kernel))) (X.2.2.2.2.1 _ (tw (i := 80) (by decide +kernel))) (X.2.2.2.2.1 _ (tw (i := 411) (by decide +kernel))) (by rw [X.2.2.2.2.2.2.2.1]; exact hfr) (by rw [X.2.2.2.2.2.2.2.1]; exact hlo) (by rw [X.2.2.2.2.2.2.2.1]; exact X.2.2.2.2.2.2.2.2.1) (by rw [X.2.2.2.2.2.2.2.1]; exact X.2.2.2.2.2.2.2.2.2) d (k H locs ls hP hS hl)
theorem j_max (X : CX G E own cc nL rm) {index : Nat} {x y : Int32} (hlink : Cond.methodLink own index Lib.Math.max.name ∈ lw_aw) (hfr : 1 ≤ rm.frames) (hlo : (st.map fun v => v.category).sum + 13 ≤ rm.locals) (d : decode cc pc = .ok (.invokestatic index, 3)) (k : J G E nL (pc + 3) lv (.int (if x < y then y else x) :: st) M) : J G E nL pc lv (.int y :: .int x :: st) M := fun H locs ls hP hS hl =>
  va_mmax X.1 X.2.1 (by rw [X.2.2.1]; exact hl.1.symm) X.2.2.2.1 (X.2.2.2.2.1 _ hlink) (X.2.2.2.2.1 _ (tw (i := 619) (by decide +kernel))) (X.2.2.2.2.1 _ (tw (i := 80) (by decide +kernel))) (X.2.2.2.2.1 _ (tw (i := 620) (by decide +kernel))) (by rw [X.2.2.2.2.2.2.2.1]; exact hfr) (by rw [X.2.2.2.2.2.2.2.1]; exact hlo) (by rw [X.2.2.2.2.2.2.2.1]; exact X.2.2.2.2.2.2.2.2.1) (by rw [X.2.2.2.2.2.2.2.1]; exact X.2.2.2.2.2.2.2.2.2) d (k H locs ls hP hS hl)
theorem j_memo {M0 : Mm} (k : ∀ M2 : Mm, M2 = M0 → J G E nL pc lv st M2) : J G E nL pc lv st M0 := k M0 rfl
theorem j_ldcwf (X : CX G E own cc nL rm) {index : Nat} {v : UInt32} (hc : Cond.constantFloat own index v ∈ lw_aw) (d : decode cc pc = .ok (.ldc_w index, 3)) (k : J G E nL (pc + 3) lv (.float v :: st) M) : J G E nL pc lv st M := fun H locs ls hP hS hl T hT Xs => by
  obtain ⟨t, a, b⟩ := k H locs ls hP hS hl T hT Xs
  obtain ⟨kc, cf, hk, hcf, hcp⟩ := Cond.constantFloat_spec X.2.2.2.1 (X.2.2.2.2.1 _ hc)
  obtain ⟨k', hk', he⟩ := Xs.warmed.alike.2.2 _ _ hk
  have hexec := X.1
  have hdg : decode (eC E).code pc = .ok (.ldc_w index, 3) := by rw [X.2.1]; exact d
  refine ⟨t, ?_, b⟩
  jvm_step Xs.here [hexec, hdg, ldc_w.wp_float (s := T) (f := F0 (eM E) pc ls st) Xs.here.top hk' (by rw [he]; exact hcf) hcp]
  exact a
theorem j_ts_0_5 (X : CX G E own cc nL rm) {x : Int32} {dflt : Int} {offs : Array Int} {len : Nat} {o0 o1 o2 o3 o4 o5 : Int} {t0 t1 t2 t3 t4 t5 td : Nat} (d : decode cc pc = .ok (.tableswitch dflt 0 5 offs, len)) (ho : offs = #[o0, o1, o2, o3, o4, o5]) (h0 : (pc : Int) + o0 = (t0 : Int)) (h1 : (pc : Int) + o1 = (t1 : Int)) (h2 : (pc : Int) + o2 = (t2 : Int)) (h3 : (pc : Int) + o3 = (t3 : Int)) (h4 : (pc : Int) + o4 = (t4 : Int)) (h5 : (pc : Int) + o5 = (t5 : Int)) (hd : (pc : Int) + dflt = (td : Int)) (k0 : x = 0 → J G E nL t0 lv st M) (k1 : x = 1 → J G E nL t1 lv st M) (k2 : x = 2 → J G E nL t2 lv st M) (k3 : x = 3 → J G E nL t3 lv st M) (k4 : x = 4 → J G E nL t4 lv st M) (k5 : x = 5 → J G E nL t5 lv st M) (kd : ¬ x = 0 → ¬ x = 1 → ¬ x = 2 → ¬ x = 3 → ¬ x = 4 → ¬ x = 5 → J G E nL td lv st M) : J G E nL pc lv (.int x :: st) M := fun H locs ls hP hS hl => by
  subst ho
  by_cases e0 : x = 0
  · subst e0; exact lv_tableIn X.1 X.2.1 d (by decide) (by decide) (off := o0) rfl h0 (k0 rfl H locs ls hP hS hl)
  by_cases e1 : x = 1
  · subst e1; exact lv_tableIn X.1 X.2.1 d (by decide) (by decide) (off := o1) rfl h1 (k1 rfl H locs ls hP hS hl)
  by_cases e2 : x = 2
  · subst e2; exact lv_tableIn X.1 X.2.1 d (by decide) (by decide) (off := o2) rfl h2 (k2 rfl H locs ls hP hS hl)
  by_cases e3 : x = 3
  · subst e3; exact lv_tableIn X.1 X.2.1 d (by decide) (by decide) (off := o3) rfl h3 (k3 rfl H locs ls hP hS hl)
  by_cases e4 : x = 4
  · subst e4; exact lv_tableIn X.1 X.2.1 d (by decide) (by decide) (off := o4) rfl h4 (k4 rfl H locs ls hP hS hl)
  by_cases e5 : x = 5
  · subst e5; exact lv_tableIn X.1 X.2.1 d (by decide) (by decide) (off := o5) rfl h5 (k5 rfl H locs ls hP hS hl)
  have hx : x.toInt < 0 ∨ 5 < x.toInt := by
    have f0 : x.toInt ≠ 0 := fun q => e0 (Int32.toInt_inj.mp q)
    have f1 : x.toInt ≠ 1 := fun q => e1 (Int32.toInt_inj.mp q)
    have f2 : x.toInt ≠ 2 := fun q => e2 (Int32.toInt_inj.mp q)
    have f3 : x.toInt ≠ 3 := fun q => e3 (Int32.toInt_inj.mp q)
    have f4 : x.toInt ≠ 4 := fun q => e4 (Int32.toInt_inj.mp q)
    have f5 : x.toInt ≠ 5 := fun q => e5 (Int32.toInt_inj.mp q)
    omega
  exact lv_tableOut X.1 X.2.1 d hx hd (kd e0 e1 e2 e3 e4 e5 H locs ls hP hS hl)
theorem j_ts_0_7 (X : CX G E own cc nL rm) {x : Int32} {dflt : Int} {offs : Array Int} {len : Nat} {o0 o1 o2 o3 o4 o5 o6 o7 : Int} {t0 t1 t2 t3 t4 t5 t6 t7 td : Nat} (d : decode cc pc = .ok (.tableswitch dflt 0 7 offs, len)) (ho : offs = #[o0, o1, o2, o3, o4, o5, o6, o7]) (h0 : (pc : Int) + o0 = (t0 : Int)) (h1 : (pc : Int) + o1 = (t1 : Int)) (h2 : (pc : Int) + o2 = (t2 : Int)) (h3 : (pc : Int) + o3 = (t3 : Int)) (h4 : (pc : Int) + o4 = (t4 : Int)) (h5 : (pc : Int) + o5 = (t5 : Int)) (h6 : (pc : Int) + o6 = (t6 : Int)) (h7 : (pc : Int) + o7 = (t7 : Int)) (hd : (pc : Int) + dflt = (td : Int)) (k0 : x = 0 → J G E nL t0 lv st M) (k1 : x = 1 → J G E nL t1 lv st M) (k2 : x = 2 → J G E nL t2 lv st M) (k3 : x = 3 → J G E nL t3 lv st M) (k4 : x = 4 → J G E nL t4 lv st M) (k5 : x = 5 → J G E nL t5 lv st M) (k6 : x = 6 → J G E nL t6 lv st M) (k7 : x = 7 → J G E nL t7 lv st M) (kd : ¬ x = 0 → ¬ x = 1 → ¬ x = 2 → ¬ x = 3 → ¬ x = 4 → ¬ x = 5 → ¬ x = 6 → ¬ x = 7 → J G E nL td lv st M) : J G E nL pc lv (.int x :: st) M := fun H locs ls hP hS hl => by
  subst ho
  by_cases e0 : x = 0
  · subst e0; exact lv_tableIn X.1 X.2.1 d (by decide) (by decide) (off := o0) rfl h0 (k0 rfl H locs ls hP hS hl)
  by_cases e1 : x = 1
  · subst e1; exact lv_tableIn X.1 X.2.1 d (by decide) (by decide) (off := o1) rfl h1 (k1 rfl H locs ls hP hS hl)
  by_cases e2 : x = 2
  · subst e2; exact lv_tableIn X.1 X.2.1 d (by decide) (by decide) (off := o2) rfl h2 (k2 rfl H locs ls hP hS hl)
  by_cases e3 : x = 3
  · subst e3; exact lv_tableIn X.1 X.2.1 d (by decide) (by decide) (off := o3) rfl h3 (k3 rfl H locs ls hP hS hl)
  by_cases e4 : x = 4
  · subst e4; exact lv_tableIn X.1 X.2.1 d (by decide) (by decide) (off := o4) rfl h4 (k4 rfl H locs ls hP hS hl)
  by_cases e5 : x = 5
  · subst e5; exact lv_tableIn X.1 X.2.1 d (by decide) (by decide) (off := o5) rfl h5 (k5 rfl H locs ls hP hS hl)
  by_cases e6 : x = 6
  · subst e6; exact lv_tableIn X.1 X.2.1 d (by decide) (by decide) (off := o6) rfl h6 (k6 rfl H locs ls hP hS hl)
  by_cases e7 : x = 7
  · subst e7; exact lv_tableIn X.1 X.2.1 d (by decide) (by decide) (off := o7) rfl h7 (k7 rfl H locs ls hP hS hl)
  have hx : x.toInt < 0 ∨ 7 < x.toInt := by
    have f0 : x.toInt ≠ 0 := fun q => e0 (Int32.toInt_inj.mp q)
    have f1 : x.toInt ≠ 1 := fun q => e1 (Int32.toInt_inj.mp q)
    have f2 : x.toInt ≠ 2 := fun q => e2 (Int32.toInt_inj.mp q)
    have f3 : x.toInt ≠ 3 := fun q => e3 (Int32.toInt_inj.mp q)
    have f4 : x.toInt ≠ 4 := fun q => e4 (Int32.toInt_inj.mp q)
    have f5 : x.toInt ≠ 5 := fun q => e5 (Int32.toInt_inj.mp q)
    have f6 : x.toInt ≠ 6 := fun q => e6 (Int32.toInt_inj.mp q)
    have f7 : x.toInt ≠ 7 := fun q => e7 (Int32.toInt_inj.mp q)
    omega
  exact lv_tableOut X.1 X.2.1 d hx hd (kd e0 e1 e2 e3 e4 e5 e6 e7 H locs ls hP hS hl)
theorem j_ts_0_8 (X : CX G E own cc nL rm) {x : Int32} {dflt : Int} {offs : Array Int} {len : Nat} {o0 o1 o2 o3 o4 o5 o6 o7 o8 : Int} {t0 t1 t2 t3 t4 t5 t6 t7 t8 td : Nat} (d : decode cc pc = .ok (.tableswitch dflt 0 8 offs, len)) (ho : offs = #[o0, o1, o2, o3, o4, o5, o6, o7, o8]) (h0 : (pc : Int) + o0 = (t0 : Int)) (h1 : (pc : Int) + o1 = (t1 : Int)) (h2 : (pc : Int) + o2 = (t2 : Int)) (h3 : (pc : Int) + o3 = (t3 : Int)) (h4 : (pc : Int) + o4 = (t4 : Int)) (h5 : (pc : Int) + o5 = (t5 : Int)) (h6 : (pc : Int) + o6 = (t6 : Int)) (h7 : (pc : Int) + o7 = (t7 : Int)) (h8 : (pc : Int) + o8 = (t8 : Int)) (hd : (pc : Int) + dflt = (td : Int)) (k0 : x = 0 → J G E nL t0 lv st M) (k1 : x = 1 → J G E nL t1 lv st M) (k2 : x = 2 → J G E nL t2 lv st M) (k3 : x = 3 → J G E nL t3 lv st M) (k4 : x = 4 → J G E nL t4 lv st M) (k5 : x = 5 → J G E nL t5 lv st M) (k6 : x = 6 → J G E nL t6 lv st M) (k7 : x = 7 → J G E nL t7 lv st M) (k8 : x = 8 → J G E nL t8 lv st M) (kd : ¬ x = 0 → ¬ x = 1 → ¬ x = 2 → ¬ x = 3 → ¬ x = 4 → ¬ x = 5 → ¬ x = 6 → ¬ x = 7 → ¬ x = 8 → J G E nL td lv st M) : J G E nL pc lv (.int x :: st) M := fun H locs ls hP hS hl => by
  subst ho
  by_cases e0 : x = 0
  · subst e0; exact lv_tableIn X.1 X.2.1 d (by decide) (by decide) (off := o0) rfl h0 (k0 rfl H locs ls hP hS hl)
  by_cases e1 : x = 1
  · subst e1; exact lv_tableIn X.1 X.2.1 d (by decide) (by decide) (off := o1) rfl h1 (k1 rfl H locs ls hP hS hl)
  by_cases e2 : x = 2
  · subst e2; exact lv_tableIn X.1 X.2.1 d (by decide) (by decide) (off := o2) rfl h2 (k2 rfl H locs ls hP hS hl)
  by_cases e3 : x = 3
  · subst e3; exact lv_tableIn X.1 X.2.1 d (by decide) (by decide) (off := o3) rfl h3 (k3 rfl H locs ls hP hS hl)
  by_cases e4 : x = 4
  · subst e4; exact lv_tableIn X.1 X.2.1 d (by decide) (by decide) (off := o4) rfl h4 (k4 rfl H locs ls hP hS hl)
  by_cases e5 : x = 5
  · subst e5; exact lv_tableIn X.1 X.2.1 d (by decide) (by decide) (off := o5) rfl h5 (k5 rfl H locs ls hP hS hl)
  by_cases e6 : x = 6
  · subst e6; exact lv_tableIn X.1 X.2.1 d (by decide) (by decide) (off := o6) rfl h6 (k6 rfl H locs ls hP hS hl)
  by_cases e7 : x = 7
  · subst e7; exact lv_tableIn X.1 X.2.1 d (by decide) (by decide) (off := o7) rfl h7 (k7 rfl H locs ls hP hS hl)
  by_cases e8 : x = 8
  · subst e8; exact lv_tableIn X.1 X.2.1 d (by decide) (by decide) (off := o8) rfl h8 (k8 rfl H locs ls hP hS hl)
  have hx : x.toInt < 0 ∨ 8 < x.toInt := by
    have f0 : x.toInt ≠ 0 := fun q => e0 (Int32.toInt_inj.mp q)
    have f1 : x.toInt ≠ 1 := fun q => e1 (Int32.toInt_inj.mp q)
    have f2 : x.toInt ≠ 2 := fun q => e2 (Int32.toInt_inj.mp q)
    have f3 : x.toInt ≠ 3 := fun q => e3 (Int32.toInt_inj.mp q)
    have f4 : x.toInt ≠ 4 := fun q => e4 (Int32.toInt_inj.mp q)
    have f5 : x.toInt ≠ 5 := fun q => e5 (Int32.toInt_inj.mp q)
    have f6 : x.toInt ≠ 6 := fun q => e6 (Int32.toInt_inj.mp q)
    have f7 : x.toInt ≠ 7 := fun q => e7 (Int32.toInt_inj.mp q)
    have f8 : x.toInt ≠ 8 := fun q => e8 (Int32.toInt_inj.mp q)
    omega
  exact lv_tableOut X.1 X.2.1 d hx hd (kd e0 e1 e2 e3 e4 e5 e6 e7 e8 H locs ls hP hS hl)
theorem j_ts_4_7 (X : CX G E own cc nL rm) {x : Int32} {dflt : Int} {offs : Array Int} {len : Nat} {o4 o5 o6 o7 : Int} {t4 t5 t6 t7 td : Nat} (d : decode cc pc = .ok (.tableswitch dflt 4 7 offs, len)) (ho : offs = #[o4, o5, o6, o7]) (h4 : (pc : Int) + o4 = (t4 : Int)) (h5 : (pc : Int) + o5 = (t5 : Int)) (h6 : (pc : Int) + o6 = (t6 : Int)) (h7 : (pc : Int) + o7 = (t7 : Int)) (hd : (pc : Int) + dflt = (td : Int)) (k4 : x = 4 → J G E nL t4 lv st M) (k5 : x = 5 → J G E nL t5 lv st M) (k6 : x = 6 → J G E nL t6 lv st M) (k7 : x = 7 → J G E nL t7 lv st M) (kd : ¬ x = 4 → ¬ x = 5 → ¬ x = 6 → ¬ x = 7 → J G E nL td lv st M) : J G E nL pc lv (.int x :: st) M := fun H locs ls hP hS hl => by
  subst ho
  by_cases e4 : x = 4
  · subst e4; exact lv_tableIn X.1 X.2.1 d (by decide) (by decide) (off := o4) rfl h4 (k4 rfl H locs ls hP hS hl)
  by_cases e5 : x = 5
  · subst e5; exact lv_tableIn X.1 X.2.1 d (by decide) (by decide) (off := o5) rfl h5 (k5 rfl H locs ls hP hS hl)
  by_cases e6 : x = 6
  · subst e6; exact lv_tableIn X.1 X.2.1 d (by decide) (by decide) (off := o6) rfl h6 (k6 rfl H locs ls hP hS hl)
  by_cases e7 : x = 7
  · subst e7; exact lv_tableIn X.1 X.2.1 d (by decide) (by decide) (off := o7) rfl h7 (k7 rfl H locs ls hP hS hl)
  have hx : x.toInt < 4 ∨ 7 < x.toInt := by
    have f4 : x.toInt ≠ 4 := fun q => e4 (Int32.toInt_inj.mp q)
    have f5 : x.toInt ≠ 5 := fun q => e5 (Int32.toInt_inj.mp q)
    have f6 : x.toInt ≠ 6 := fun q => e6 (Int32.toInt_inj.mp q)
    have f7 : x.toInt ≠ 7 := fun q => e7 (Int32.toInt_inj.mp q)
    omega
  exact lv_tableOut X.1 X.2.1 d hx hd (kd e4 e5 e6 e7 H locs ls hP hS hl)
theorem j_ts_0_38 (X : CX G E own cc nL rm) {x : Int32} {dflt : Int} {offs : Array Int} {len : Nat} {o0 o1 o2 o3 o4 o5 o6 o7 o8 o9 o10 o11 o12 o13 o14 o15 o16 o17 o18 o19 o20 o21 o22 o23 o24 o25 o26 o27 o28 o29 o30 o31 o32 o33 o34 o35 o36 o37 o38 : Int} {t0 t1 t2 t3 t4 t5 t6 t7 t8 t9 t10 t11 t12 t13 t14 t15 t16 t17 t18 t19 t20 t21 t22 t23 t24 t25 t26 t27 t28 t29 t30 t31 t32 t33 t34 t35 t36 t37 t38 td : Nat} (d : decode cc pc = .ok (.tableswitch dflt 0 38 offs, len)) (ho : offs = #[o0, o1, o2, o3, o4, o5, o6, o7, o8, o9, o10, o11, o12, o13, o14, o15, o16, o17, o18, o19, o20, o21, o22, o23, o24, o25, o26, o27, o28, o29, o30, o31, o32, o33, o34, o35, o36, o37, o38]) (h0 : (pc : Int) + o0 = (t0 : Int)) (h1 : (pc : Int) + o1 = (t1 : Int)) (h2 : (pc : Int) + o2 = (t2 : Int)) (h3 : (pc : Int) + o3 = (t3 : Int)) (h4 : (pc : Int) + o4 = (t4 : Int)) (h5 : (pc : Int) + o5 = (t5 : Int)) (h6 : (pc : Int) + o6 = (t6 : Int)) (h7 : (pc : Int) + o7 = (t7 : Int)) (h8 : (pc : Int) + o8 = (t8 : Int)) (h9 : (pc : Int) + o9 = (t9 : Int)) (h10 : (pc : Int) + o10 = (t10 : Int)) (h11 : (pc : Int) + o11 = (t11 : Int)) (h12 : (pc : Int) + o12 = (t12 : Int)) (h13 : (pc : Int) + o13 = (t13 : Int)) (h14 : (pc : Int) + o14 = (t14 : Int)) (h15 : (pc : Int) + o15 = (t15 : Int)) (h16 : (pc : Int) + o16 = (t16 : Int)) (h17 : (pc : Int) + o17 = (t17 : Int)) (h18 : (pc : Int) + o18 = (t18 : Int)) (h19 : (pc : Int) + o19 = (t19 : Int)) (h20 : (pc : Int) + o20 = (t20 : Int)) (h21 : (pc : Int) + o21 = (t21 : Int)) (h22 : (pc : Int) + o22 = (t22 : Int)) (h23 : (pc : Int) + o23 = (t23 : Int)) (h24 : (pc : Int) + o24 = (t24 : Int)) (h25 : (pc : Int) + o25 = (t25 : Int)) (h26 : (pc : Int) + o26 = (t26 : Int)) (h27 : (pc : Int) + o27 = (t27 : Int)) (h28 : (pc : Int) + o28 = (t28 : Int)) (h29 : (pc : Int) + o29 = (t29 : Int)) (h30 : (pc : Int) + o30 = (t30 : Int)) (h31 : (pc : Int) + o31 = (t31 : Int)) (h32 : (pc : Int) + o32 = (t32 : Int)) (h33 : (pc : Int) + o33 = (t33 : Int)) (h34 : (pc : Int) + o34 = (t34 : Int)) (h35 : (pc : Int) + o35 = (t35 : Int)) (h36 : (pc : Int) + o36 = (t36 : Int)) (h37 : (pc : Int) + o37 = (t37 : Int)) (h38 : (pc : Int) + o38 = (t38 : Int)) (hd : (pc : Int) + dflt = (td : Int)) (k0 : x = 0 → J G E nL t0 lv st M) (k1 : x = 1 → J G E nL t1 lv st M) (k2 : x = 2 → J G E nL t2 lv st M) (k3 : x = 3 → J G E nL t3 lv st M) (k4 : x = 4 → J G E nL t4 lv st M) (k5 : x = 5 → J G E nL t5 lv st M) (k6 : x = 6 → J G E nL t6 lv st M) (k7 : x = 7 → J G E nL t7 lv st M) (k8 : x = 8 → J G E nL t8 lv st M) (k9 : x = 9 → J G E nL t9 lv st M) (k10 : x = 10 → J G E nL t10 lv st M) (k11 : x = 11 → J G E nL t11 lv st M) (k12 : x = 12 → J G E nL t12 lv st M) (k13 : x = 13 → J G E nL t13 lv st M) (k14 : x = 14 → J G E nL t14 lv st M) (k15 : x = 15 → J G E nL t15 lv st M) (k16 : x = 16 → J G E nL t16 lv st M) (k17 : x = 17 → J G E nL t17 lv st M) (k18 : x = 18 → J G E nL t18 lv st M) (k19 : x = 19 → J G E nL t19 lv st M) (k20 : x = 20 → J G E nL t20 lv st M) (k21 : x = 21 → J G E nL t21 lv st M) (k22 : x = 22 → J G E nL t22 lv st M) (k23 : x = 23 → J G E nL t23 lv st M) (k24 : x = 24 → J G E nL t24 lv st M) (k25 : x = 25 → J G E nL t25 lv st M) (k26 : x = 26 → J G E nL t26 lv st M) (k27 : x = 27 → J G E nL t27 lv st M) (k28 : x = 28 → J G E nL t28 lv st M) (k29 : x = 29 → J G E nL t29 lv st M) (k30 : x = 30 → J G E nL t30 lv st M) (k31 : x = 31 → J G E nL t31 lv st M) (k32 : x = 32 → J G E nL t32 lv st M) (k33 : x = 33 → J G E nL t33 lv st M) (k34 : x = 34 → J G E nL t34 lv st M) (k35 : x = 35 → J G E nL t35 lv st M) (k36 : x = 36 → J G E nL t36 lv st M) (k37 : x = 37 → J G E nL t37 lv st M) (k38 : x = 38 → J G E nL t38 lv st M) (kd : ¬ x = 0 → ¬ x = 1 → ¬ x = 2 → ¬ x = 3 → ¬ x = 4 → ¬ x = 5 → ¬ x = 6 → ¬ x = 7 → ¬ x = 8 → ¬ x = 9 → ¬ x = 10 → ¬ x = 11 → ¬ x = 12 → ¬ x = 13 → ¬ x = 14 → ¬ x = 15 → ¬ x = 16 → ¬ x = 17 → ¬ x = 18 → ¬ x = 19 → ¬ x = 20 → ¬ x = 21 → ¬ x = 22 → ¬ x = 23 → ¬ x = 24 → ¬ x = 25 → ¬ x = 26 → ¬ x = 27 → ¬ x = 28 → ¬ x = 29 → ¬ x = 30 → ¬ x = 31 → ¬ x = 32 → ¬ x = 33 → ¬ x = 34 → ¬ x = 35 → ¬ x = 36 → ¬ x = 37 → ¬ x = 38 → J G E nL td lv st M) : J G E nL pc lv (.int x :: st) M := fun H locs ls hP hS hl => by
  subst ho
  by_cases e0 : x = 0
  · subst e0; exact lv_tableIn X.1 X.2.1 d (by decide) (by decide) (off := o0) rfl h0 (k0 rfl H locs ls hP hS hl)
  by_cases e1 : x = 1
  · subst e1; exact lv_tableIn X.1 X.2.1 d (by decide) (by decide) (off := o1) rfl h1 (k1 rfl H locs ls hP hS hl)
  by_cases e2 : x = 2
  · subst e2; exact lv_tableIn X.1 X.2.1 d (by decide) (by decide) (off := o2) rfl h2 (k2 rfl H locs ls hP hS hl)
  by_cases e3 : x = 3
  · subst e3; exact lv_tableIn X.1 X.2.1 d (by decide) (by decide) (off := o3) rfl h3 (k3 rfl H locs ls hP hS hl)
  by_cases e4 : x = 4
  · subst e4; exact lv_tableIn X.1 X.2.1 d (by decide) (by decide) (off := o4) rfl h4 (k4 rfl H locs ls hP hS hl)
  by_cases e5 : x = 5
  · subst e5; exact lv_tableIn X.1 X.2.1 d (by decide) (by decide) (off := o5) rfl h5 (k5 rfl H locs ls hP hS hl)
  by_cases e6 : x = 6
  · subst e6; exact lv_tableIn X.1 X.2.1 d (by decide) (by decide) (off := o6) rfl h6 (k6 rfl H locs ls hP hS hl)
  by_cases e7 : x = 7
  · subst e7; exact lv_tableIn X.1 X.2.1 d (by decide) (by decide) (off := o7) rfl h7 (k7 rfl H locs ls hP hS hl)
  by_cases e8 : x = 8
  · subst e8; exact lv_tableIn X.1 X.2.1 d (by decide) (by decide) (off := o8) rfl h8 (k8 rfl H locs ls hP hS hl)
  by_cases e9 : x = 9
  · subst e9; exact lv_tableIn X.1 X.2.1 d (by decide) (by decide) (off := o9) rfl h9 (k9 rfl H locs ls hP hS hl)
  by_cases e10 : x = 10
  · subst e10; exact lv_tableIn X.1 X.2.1 d (by decide) (by decide) (off := o10) rfl h10 (k10 rfl H locs ls hP hS hl)
  by_cases e11 : x = 11
  · subst e11; exact lv_tableIn X.1 X.2.1 d (by decide) (by decide) (off := o11) rfl h11 (k11 rfl H locs ls hP hS hl)
  by_cases e12 : x = 12
  · subst e12; exact lv_tableIn X.1 X.2.1 d (by decide) (by decide) (off := o12) rfl h12 (k12 rfl H locs ls hP hS hl)
  by_cases e13 : x = 13
  · subst e13; exact lv_tableIn X.1 X.2.1 d (by decide) (by decide) (off := o13) rfl h13 (k13 rfl H locs ls hP hS hl)
  by_cases e14 : x = 14
  · subst e14; exact lv_tableIn X.1 X.2.1 d (by decide) (by decide) (off := o14) rfl h14 (k14 rfl H locs ls hP hS hl)
  by_cases e15 : x = 15
  · subst e15; exact lv_tableIn X.1 X.2.1 d (by decide) (by decide) (off := o15) rfl h15 (k15 rfl H locs ls hP hS hl)
  by_cases e16 : x = 16
  · subst e16; exact lv_tableIn X.1 X.2.1 d (by decide) (by decide) (off := o16) rfl h16 (k16 rfl H locs ls hP hS hl)
  by_cases e17 : x = 17
  · subst e17; exact lv_tableIn X.1 X.2.1 d (by decide) (by decide) (off := o17) rfl h17 (k17 rfl H locs ls hP hS hl)
  by_cases e18 : x = 18
  · subst e18; exact lv_tableIn X.1 X.2.1 d (by decide) (by decide) (off := o18) rfl h18 (k18 rfl H locs ls hP hS hl)
  by_cases e19 : x = 19
  · subst e19; exact lv_tableIn X.1 X.2.1 d (by decide) (by decide) (off := o19) rfl h19 (k19 rfl H locs ls hP hS hl)
  by_cases e20 : x = 20
  · subst e20; exact lv_tableIn X.1 X.2.1 d (by decide) (by decide) (off := o20) rfl h20 (k20 rfl H locs ls hP hS hl)
  by_cases e21 : x = 21
  · subst e21; exact lv_tableIn X.1 X.2.1 d (by decide) (by decide) (off := o21) rfl h21 (k21 rfl H locs ls hP hS hl)
  by_cases e22 : x = 22
  · subst e22; exact lv_tableIn X.1 X.2.1 d (by decide) (by decide) (off := o22) rfl h22 (k22 rfl H locs ls hP hS hl)
  by_cases e23 : x = 23
  · subst e23; exact lv_tableIn X.1 X.2.1 d (by decide) (by decide) (off := o23) rfl h23 (k23 rfl H locs ls hP hS hl)
  by_cases e24 : x = 24
  · subst e24; exact lv_tableIn X.1 X.2.1 d (by decide) (by decide) (off := o24) rfl h24 (k24 rfl H locs ls hP hS hl)
  by_cases e25 : x = 25
  · subst e25; exact lv_tableIn X.1 X.2.1 d (by decide) (by decide) (off := o25) rfl h25 (k25 rfl H locs ls hP hS hl)
  by_cases e26 : x = 26
  · subst e26; exact lv_tableIn X.1 X.2.1 d (by decide) (by decide) (off := o26) rfl h26 (k26 rfl H locs ls hP hS hl)
  by_cases e27 : x = 27
  · subst e27; exact lv_tableIn X.1 X.2.1 d (by decide) (by decide) (off := o27) rfl h27 (k27 rfl H locs ls hP hS hl)
  by_cases e28 : x = 28
  · subst e28; exact lv_tableIn X.1 X.2.1 d (by decide) (by decide) (off := o28) rfl h28 (k28 rfl H locs ls hP hS hl)
  by_cases e29 : x = 29
  · subst e29; exact lv_tableIn X.1 X.2.1 d (by decide) (by decide) (off := o29) rfl h29 (k29 rfl H locs ls hP hS hl)
  by_cases e30 : x = 30
  · subst e30; exact lv_tableIn X.1 X.2.1 d (by decide) (by decide) (off := o30) rfl h30 (k30 rfl H locs ls hP hS hl)
  by_cases e31 : x = 31
  · subst e31; exact lv_tableIn X.1 X.2.1 d (by decide) (by decide) (off := o31) rfl h31 (k31 rfl H locs ls hP hS hl)
  by_cases e32 : x = 32
  · subst e32; exact lv_tableIn X.1 X.2.1 d (by decide) (by decide) (off := o32) rfl h32 (k32 rfl H locs ls hP hS hl)
  by_cases e33 : x = 33
  · subst e33; exact lv_tableIn X.1 X.2.1 d (by decide) (by decide) (off := o33) rfl h33 (k33 rfl H locs ls hP hS hl)
  by_cases e34 : x = 34
  · subst e34; exact lv_tableIn X.1 X.2.1 d (by decide) (by decide) (off := o34) rfl h34 (k34 rfl H locs ls hP hS hl)
  by_cases e35 : x = 35
  · subst e35; exact lv_tableIn X.1 X.2.1 d (by decide) (by decide) (off := o35) rfl h35 (k35 rfl H locs ls hP hS hl)
  by_cases e36 : x = 36
  · subst e36; exact lv_tableIn X.1 X.2.1 d (by decide) (by decide) (off := o36) rfl h36 (k36 rfl H locs ls hP hS hl)
  by_cases e37 : x = 37
  · subst e37; exact lv_tableIn X.1 X.2.1 d (by decide) (by decide) (off := o37) rfl h37 (k37 rfl H locs ls hP hS hl)
  by_cases e38 : x = 38
  · subst e38; exact lv_tableIn X.1 X.2.1 d (by decide) (by decide) (off := o38) rfl h38 (k38 rfl H locs ls hP hS hl)
  have hx : x.toInt < 0 ∨ 38 < x.toInt := by
    have f0 : x.toInt ≠ 0 := fun q => e0 (Int32.toInt_inj.mp q)
    have f1 : x.toInt ≠ 1 := fun q => e1 (Int32.toInt_inj.mp q)
    have f2 : x.toInt ≠ 2 := fun q => e2 (Int32.toInt_inj.mp q)
    have f3 : x.toInt ≠ 3 := fun q => e3 (Int32.toInt_inj.mp q)
    have f4 : x.toInt ≠ 4 := fun q => e4 (Int32.toInt_inj.mp q)
    have f5 : x.toInt ≠ 5 := fun q => e5 (Int32.toInt_inj.mp q)
    have f6 : x.toInt ≠ 6 := fun q => e6 (Int32.toInt_inj.mp q)
    have f7 : x.toInt ≠ 7 := fun q => e7 (Int32.toInt_inj.mp q)
    have f8 : x.toInt ≠ 8 := fun q => e8 (Int32.toInt_inj.mp q)
    have f9 : x.toInt ≠ 9 := fun q => e9 (Int32.toInt_inj.mp q)
    have f10 : x.toInt ≠ 10 := fun q => e10 (Int32.toInt_inj.mp q)
    have f11 : x.toInt ≠ 11 := fun q => e11 (Int32.toInt_inj.mp q)
    have f12 : x.toInt ≠ 12 := fun q => e12 (Int32.toInt_inj.mp q)
    have f13 : x.toInt ≠ 13 := fun q => e13 (Int32.toInt_inj.mp q)
    have f14 : x.toInt ≠ 14 := fun q => e14 (Int32.toInt_inj.mp q)
    have f15 : x.toInt ≠ 15 := fun q => e15 (Int32.toInt_inj.mp q)
    have f16 : x.toInt ≠ 16 := fun q => e16 (Int32.toInt_inj.mp q)
    have f17 : x.toInt ≠ 17 := fun q => e17 (Int32.toInt_inj.mp q)
    have f18 : x.toInt ≠ 18 := fun q => e18 (Int32.toInt_inj.mp q)
    have f19 : x.toInt ≠ 19 := fun q => e19 (Int32.toInt_inj.mp q)
    have f20 : x.toInt ≠ 20 := fun q => e20 (Int32.toInt_inj.mp q)
    have f21 : x.toInt ≠ 21 := fun q => e21 (Int32.toInt_inj.mp q)
    have f22 : x.toInt ≠ 22 := fun q => e22 (Int32.toInt_inj.mp q)
    have f23 : x.toInt ≠ 23 := fun q => e23 (Int32.toInt_inj.mp q)
    have f24 : x.toInt ≠ 24 := fun q => e24 (Int32.toInt_inj.mp q)
    have f25 : x.toInt ≠ 25 := fun q => e25 (Int32.toInt_inj.mp q)
    have f26 : x.toInt ≠ 26 := fun q => e26 (Int32.toInt_inj.mp q)
    have f27 : x.toInt ≠ 27 := fun q => e27 (Int32.toInt_inj.mp q)
    have f28 : x.toInt ≠ 28 := fun q => e28 (Int32.toInt_inj.mp q)
    have f29 : x.toInt ≠ 29 := fun q => e29 (Int32.toInt_inj.mp q)
    have f30 : x.toInt ≠ 30 := fun q => e30 (Int32.toInt_inj.mp q)
    have f31 : x.toInt ≠ 31 := fun q => e31 (Int32.toInt_inj.mp q)
    have f32 : x.toInt ≠ 32 := fun q => e32 (Int32.toInt_inj.mp q)
    have f33 : x.toInt ≠ 33 := fun q => e33 (Int32.toInt_inj.mp q)
    have f34 : x.toInt ≠ 34 := fun q => e34 (Int32.toInt_inj.mp q)
    have f35 : x.toInt ≠ 35 := fun q => e35 (Int32.toInt_inj.mp q)
    have f36 : x.toInt ≠ 36 := fun q => e36 (Int32.toInt_inj.mp q)
    have f37 : x.toInt ≠ 37 := fun q => e37 (Int32.toInt_inj.mp q)
    have f38 : x.toInt ≠ 38 := fun q => e38 (Int32.toInt_inj.mp q)
    omega
  exact lv_tableOut X.1 X.2.1 d hx hd (kd e0 e1 e2 e3 e4 e5 e6 e7 e8 e9 e10 e11 e12 e13 e14 e15 e16 e17 e18 e19 e20 e21 e22 e23 e24 e25 e26 e27 e28 e29 e30 e31 e32 e33 e34 e35 e36 e37 e38 H locs ls hP hS hl)
theorem j_f2bits (X : CX G E own cc nL rm) {index : Nat} {x : UInt32} (hlink : Cond.methodLink own index ⟨"java/lang/Float", "floatToRawIntBits", "(F)I"⟩ ∈ lw_aw) (hfr : 1 ≤ rm.frames) (hlo : (st.map fun v => v.category).sum + 15 ≤ rm.locals) (d : decode cc pc = .ok (.invokestatic index, 3)) (k : J G E nL (pc + 3) lv (.int x.toInt32 :: st) M) : J G E nL pc lv (.float x :: st) M := fun H locs ls hP hS hl => vn_f2i X.1 X.2.1 (by rw [X.2.2.1]; exact hl.1.symm) X.2.2.2.1 (X.2.2.2.2.1 _ hlink) (X.2.2.2.2.1 _ (tw (i := 1273) (by decide +kernel))) (X.2.2.2.2.1 _ (tw (i := 1272) (by decide +kernel))) (X.2.2.2.2.1 _ (tw (i := 81) (by decide +kernel))) (by rw [X.2.2.2.2.2.2.2.1]; exact hfr) (by rw [X.2.2.2.2.2.2.2.1]; exact hlo) d (k H locs ls hP hS hl)
/-- ends -/
theorem j_iret {P : Int32 → Mm → Prop} {r : Int32} (X : CX G E own cc nL rm) (Y : RX G E (some .int) (va_Qi P (HRx G) (gA G))) (d : decode cc pc = .ok (.ireturn, 1)) (h : P r M) : J G E nL pc lv [.int r] M := fun H locs ls hP hS hl => by
  show W _ _ _ _ _ _ _ _ _ _ _ _ _ _ (eQ E) _
  rw [Y.2.2.1]
  rw [Y.2.2.2] at hS
  exact W.iret X.1 X.2.1 Y.2.1 (fun t ht hW => ⟨⟨r, M, rfl, h, by rw [ht]; exact hP, KK.warm hW X.2.2.2.2.2.1⟩, hS.F ht⟩) hS.2.2 d Y.1
theorem j_zret {P : Int32 → Mm → Prop} {r : Int32} (X : CX G E own cc nL rm) (Y : RX G E (some .boolean) (va_Qi P (HRx G) (gA G))) (d : decode cc pc = .ok (.ireturn, 1)) (hn : narrow .boolean (.int r) = .int r) (h : P r M) : J G E nL pc lv [.int r] M := fun H locs ls hP hS hl => by
  show W _ _ _ _ _ _ _ _ _ _ _ _ _ _ (eQ E) _
  rw [Y.2.2.1]
  rw [Y.2.2.2] at hS
  exact W.zret X.1 X.2.1 Y.2.1 hn (fun t ht hW => ⟨⟨r, M, rfl, h, by rw [ht]; exact hP, KK.warm hW X.2.2.2.2.2.1⟩, hS.F ht⟩) hS.2.2 d Y.1
theorem j_fret {P : UInt32 → Mm → Prop} {r : UInt32} (X : CX G E own cc nL rm) (Y : RX G E (some .float) (va_Qf P (HRx G) (gA G))) (d : decode cc pc = .ok (.freturn, 1)) (h : P r M) : J G E nL pc lv [.float r] M := fun H locs ls hP hS hl => by
  show W _ _ _ _ _ _ _ _ _ _ _ _ _ _ (eQ E) _
  rw [Y.2.2.1]
  rw [Y.2.2.2] at hS
  exact W.fret X.1 X.2.1 Y.2.1 (fun t ht hW => ⟨⟨r, M, rfl, h, by rw [ht]; exact hP, KK.warm hW X.2.2.2.2.2.1⟩, hS.F ht⟩) hS.2.2 d Y.1
theorem j_vret {P : Mm → Prop} (X : CX G E own cc nL rm) (Y : RX G E none (va_Qv P (HRx G) (gA G))) (d : decode cc pc = .ok (.return_, 1)) (h : P M) : J G E nL pc lv [] M := fun H locs ls hP hS hl => by
  show W _ _ _ _ _ _ _ _ _ _ _ _ _ _ (eQ E) _
  rw [Y.2.2.1]
  rw [Y.2.2.2] at hS
  exact W.vret X.1 X.2.1 Y.2.1 (fun t ht hW => ⟨⟨M, rfl, h, by rw [ht]; exact hP, KK.warm hW X.2.2.2.2.2.1⟩, hS.F ht⟩) hS.2.2 d Y.1
theorem j_aret {P : Nat × Nat → Mm → Prop} {t b : Nat} {ty : FieldType} (X : CX G E own cc nL rm) (Y : RX G E (some (.array ty)) (va_Qr (fun u : (Nat × Nat) × Mm => P u.1 u.2) (fun u a U => a = adr G u.1.1 u.1.2 ∧ HRx G u.2 U) (gA G))) (d : decode cc pc = .ok (.areturn, 1)) (h : P (t, b) M) : J G E nL pc lv [.ref (adr G t b)] M := fun H locs ls hP hS hl => by
  show W _ _ _ _ _ _ _ _ _ _ _ _ _ _ (eQ E) _
  rw [Y.2.2.1]
  rw [Y.2.2.2] at hS
  exact W.aret X.1 X.2.1 Y.2.1 (Or.inr ⟨_, rfl⟩) (Or.inr ⟨_, rfl⟩) (fun t' ht hW => ⟨⟨((t, b), M), _, rfl, h, rfl, by rw [ht]; exact hP, KK.warm hW X.2.2.2.2.2.1⟩, hS.F ht⟩) hS.2.2 d Y.1
end FRM
/-- a method's contract, by its sheet -/
def MI (l : Launch) (G : GT) (y : MethodName) (cc : ByteArray) (nL : Nat) (ret : Option FieldType) (rm : Room) (vs : List Value) (M : Mm) (P : Int32 → Mm → Prop) : Prop := Met l y (.code y cc nL ret :: lw_aw) rm (va_Pc vs (HRx G M)) (va_Qi P (HRx G) (gA G)) 0 0 (gA G)
def MF (l : Launch) (G : GT) (y : MethodName) (cc : ByteArray) (nL : Nat) (ret : Option FieldType) (rm : Room) (vs : List Value) (M : Mm) (P : UInt32 → Mm → Prop) : Prop := Met l y (.code y cc nL ret :: lw_aw) rm (va_Pc vs (HRx G M)) (va_Qf P (HRx G) (gA G)) 0 0 (gA G)
def MV (l : Launch) (G : GT) (y : MethodName) (cc : ByteArray) (nL : Nat) (ret : Option FieldType) (rm : Room) (vs : List Value) (M : Mm) (P : Mm → Prop) : Prop := Met l y (.code y cc nL ret :: lw_aw) rm (va_Pc vs (HRx G M)) (va_Qv P (HRx G) (gA G)) 0 0 (gA G)
def MR (l : Launch) (G : GT) (y : MethodName) (cc : ByteArray) (nL : Nat) (ret : Option FieldType) (rm : Room) (vs : List Value) (M : Mm) (P : Nat × Nat → Mm → Prop) : Prop := Met l y (.code y cc nL ret :: lw_aw) rm (va_Pc vs (HRx G M)) (va_Qr (fun u : (Nat × Nat) × Mm => P u.1 u.2) (fun u a U => a = adr G u.1.1 u.1.2 ∧ HRx G u.2 U) (gA G)) 0 0 (gA G)
/-- the addresses are apart, whatever the cells hold -/
def GD (G : GT) : Prop := ∀ M : Mm, va_D (gA G) (wld G M)
theorem met_by {l : Launch} {G : GT} {y : MethodName} {cc : ByteArray} {nL : Nat} {ret : Option FieldType} {rm : Room} {vs : List Value} {M : Mm} {Qc : Array Value → State → Outcome → State → Prop} {own : String} (hG : GD G) (hown : y.cls = own) (hy : plainFor y = true) (hlen : (lg_sl vs).length ≤ nL)
    (body : ∀ E : ET, eL E = l → CX G E own cc nL rm → RX G E ret Qc → J G E nL 0 (lv_args 0 vs) [] M) : Met l y (.code y cc nL ret :: lw_aw) rm (va_Pc vs (HRx G M)) Qc 0 0 (gA G) := by
  refine va_MetF (cc := cc) (maxL := nL) (ret := ret) hy rfl ?_
  intro p e s m args below meth c s₁ B hml hv
  obtain ⟨rfl, hP, hK⟩ := hv
  have hown2 : s.vm.findClass own = some m.cls := by rw [← hown]; exact findClass_of_methodNamed B.named
  have hts := atoms_spec (ws := .code y cc nL ret :: lw_aw) B.pre
  rw [lg_entry_eq]
  exact body (p, l, e, (headSpec (.code y cc nL ret :: lw_aw) rm).room, s, m, vs.toArray, below, meth, c, s.heap, 0, 0, MQ below Qc vs.toArray s 0 0 (gA G)) rfl
    ⟨B.exec, B.bytes, hml, hown2, fun w h => hts w (List.mem_cons_of_mem _ h), hK, hG, rfl, Nat.zero_le _, Nat.zero_le _⟩ ⟨B.notSynchronized, B.returns, rfl, rfl⟩ s.heap [] _ hP va_S.rf (lv_entry vs hlen)
theorem hr_blind {G : GT} {M : Mm} {vs : List Value} : FrameBlind (va_Pc vs (HRx G M)) := fun a U g mk q => by
  obtain ⟨q0, qP, qK⟩ := q
  exact ⟨q0, qP, KK.same (u := U) (U := U.calling g mk a) rfl qK⟩
theorem lw_good {w : Cond} (h : w ∈ lw_aw) : goodWord w = true := (List.mem_filter.mp h).2
theorem good_ws {y : MethodName} {cc : ByteArray} {nL : Nat} {ret : Option FieldType} (h : Cond.code y cc nL ret ∈ lw_aw) : GoodIn lw_aw (.code y cc nL ret :: lw_aw) := by
  intro w hw
  have hm : w ∈ lw_aw := by
    rcases List.mem_cons.mp hw with rfl | h2
    · exact h
    · exact h2
  exact ⟨hm, good_of_word (lw_good hm)⟩
theorem good_of {ws : List Cond} (h : ∀ w ∈ ws, w ∈ lw_aw) : GoodIn lw_aw ws := fun w hw => ⟨h w hw, good_of_word (lw_good (h w hw))⟩
theorem gwV {own C : String} {idx nL : Nat} {y : MethodName} {cc : ByteArray} {ret : Option FieldType} (h1 : Cond.methodLink own idx y ∈ lw_aw) (h2 : Cond.instanceMethod y ∈ lw_aw) (h3 : Cond.selects C y y ∈ lw_aw) (h4 : Cond.initialized C ∈ lw_aw) (h5 : Cond.code y cc nL ret ∈ lw_aw) : GoodIn lw_aw (wsV own idx C y (.code y cc nL ret :: lw_aw)) := by
  apply good_of
  intro w hw
  rcases List.mem_append.mp hw with hw | hw
  · simp only [List.mem_cons, List.not_mem_nil, or_false] at hw
    rcases hw with rfl | rfl | rfl | rfl <;> assumption
  · exact (good_ws h5 w hw).1
theorem gwS {own : String} {idx nL : Nat} {y : MethodName} {cc : ByteArray} {ret : Option FieldType} (h1 : Cond.methodLink own idx y ∈ lw_aw) (h2 : Cond.static y ∈ lw_aw) (h4 : Cond.initialized y.cls ∈ lw_aw) (h5 : Cond.code y cc nL ret ∈ lw_aw) : GoodIn lw_aw (va_wsS own idx y (.code y cc nL ret :: lw_aw)) := by
  apply good_of
  intro w hw
  rcases List.mem_append.mp hw with hw | hw
  · simp only [List.mem_cons, List.not_mem_nil, or_false] at hw
    rcases hw with rfl | rfl | rfl <;> assumption
  · exact (good_ws h5 w hw).1
/-- where two ways meet again, and loops, in a method's sheet -/
def jn {α : Sort _} (rest : α) (tree : α → Prop) : Prop := tree rest
theorem jn1_s {A0 : Type} {rest : A0 → Prop} {tree : (A0 → Prop) → Prop} {goal : Prop} (h : jn rest tree) (G0 : A0 → Prop) (hr : ∀ (a0 : A0), rest a0 → G0 a0) (ht : ∀ R : A0 → Prop, (∀ (a0 : A0), R a0 → G0 a0) → tree R → goal) : goal := ht rest hr h
def lq1 {A0 : Type} (body : (A0 → Prop) → A0 → Prop) : Nat → A0 → Prop
  | 0 => fun _ => False
  | n + 1 => body (lq1 body n)
theorem lq1_s {A0 : Type} {body : (A0 → Prop) → A0 → Prop} {a0 : A0} {goal : Prop} (h : ∃ n, lq1 body n a0) (G0 : A0 → Prop) (hs : ∀ self : A0 → Prop, (∀ (a0 : A0), self a0 → G0 a0) → ∀ (a0 : A0), body self a0 → G0 a0) (hg : G0 a0 → goal) : goal := by
  obtain ⟨n, h⟩ := h
  refine hg ?_
  have key : ∀ n (a0 : A0), lq1 body n a0 → G0 a0 := by
    intro n
    induction n with
    | zero => intro _ h; exact h.elim
    | succ n ih => intro a0 h; exact hs _ ih _ h
  exact key n _ h
theorem lq1_i {A0 : Type} {body : (A0 → Prop) → A0 → Prop} (I : A0 → Prop) (μ : A0 → Nat) (hb : ∀ (a0 : A0), I a0 → ∀ self : A0 → Prop, (∀ (b0 : A0), I b0 → μ b0 < μ a0 → self b0) → body self a0) (a0 : A0) (h0 : I a0) : ∃ n, lq1 body n a0 := by
  have key : ∀ n (a0 : A0), I a0 → μ a0 < n → lq1 body n a0 := by
    intro n
    induction n with
    | zero => intro _ _ h; exact absurd h (Nat.not_lt_zero _)
    | succ n ih => intro a0 hi hm; exact hb a0 hi _ (fun b0 hi2 hm2 => ih b0 hi2 (by omega))
  exact ⟨_, key _ _ h0 (Nat.lt_succ_self _)⟩
theorem jn2_s {A0 A1 : Type} {rest : A0 → A1 → Prop} {tree : (A0 → A1 → Prop) → Prop} {goal : Prop} (h : jn rest tree) (G0 : A0 → A1 → Prop) (hr : ∀ (a0 : A0) (a1 : A1), rest a0 a1 → G0 a0 a1) (ht : ∀ R : A0 → A1 → Prop, (∀ (a0 : A0) (a1 : A1), R a0 a1 → G0 a0 a1) → tree R → goal) : goal := ht rest hr h
def lq2 {A0 A1 : Type} (body : (A0 → A1 → Prop) → A0 → A1 → Prop) : Nat → A0 → A1 → Prop
  | 0 => fun _ _ => False
  | n + 1 => body (lq2 body n)
theorem lq2_s {A0 A1 : Type} {body : (A0 → A1 → Prop) → A0 → A1 → Prop} {a0 : A0} {a1 : A1} {goal : Prop} (h : ∃ n, lq2 body n a0 a1) (G0 : A0 → A1 → Prop) (hs : ∀ self : A0 → A1 → Prop, (∀ (a0 : A0) (a1 : A1), self a0 a1 → G0 a0 a1) → ∀ (a0 : A0) (a1 : A1), body self a0 a1 → G0 a0 a1) (hg : G0 a0 a1 → goal) : goal := by
  obtain ⟨n, h⟩ := h
  refine hg ?_
  have key : ∀ n (a0 : A0) (a1 : A1), lq2 body n a0 a1 → G0 a0 a1 := by
    intro n
    induction n with
    | zero => intro _ _ h; exact h.elim
    | succ n ih => intro a0 a1 h; exact hs _ ih _ _ h
  exact key n _ _ h
theorem lq2_i {A0 A1 : Type} {body : (A0 → A1 → Prop) → A0 → A1 → Prop} (I : A0 → A1 → Prop) (μ : A0 → A1 → Nat) (hb : ∀ (a0 : A0) (a1 : A1), I a0 a1 → ∀ self : A0 → A1 → Prop, (∀ (b0 : A0) (b1 : A1), I b0 b1 → μ b0 b1 < μ a0 a1 → self b0 b1) → body self a0 a1) (a0 : A0) (a1 : A1) (h0 : I a0 a1) : ∃ n, lq2 body n a0 a1 := by
  have key : ∀ n (a0 : A0) (a1 : A1), I a0 a1 → μ a0 a1 < n → lq2 body n a0 a1 := by
    intro n
    induction n with
    | zero => intro _ _ _ h; exact absurd h (Nat.not_lt_zero _)
    | succ n ih => intro a0 a1 hi hm; exact hb a0 a1 hi _ (fun b0 b1 hi2 hm2 => ih b0 b1 hi2 (by omega))
  exact ⟨_, key _ _ _ h0 (Nat.lt_succ_self _)⟩
theorem jn3_s {A0 A1 A2 : Type} {rest : A0 → A1 → A2 → Prop} {tree : (A0 → A1 → A2 → Prop) → Prop} {goal : Prop} (h : jn rest tree) (G0 : A0 → A1 → A2 → Prop) (hr : ∀ (a0 : A0) (a1 : A1) (a2 : A2), rest a0 a1 a2 → G0 a0 a1 a2) (ht : ∀ R : A0 → A1 → A2 → Prop, (∀ (a0 : A0) (a1 : A1) (a2 : A2), R a0 a1 a2 → G0 a0 a1 a2) → tree R → goal) : goal := ht rest hr h
def lq3 {A0 A1 A2 : Type} (body : (A0 → A1 → A2 → Prop) → A0 → A1 → A2 → Prop) : Nat → A0 → A1 → A2 → Prop
  | 0 => fun _ _ _ => False
  | n + 1 => body (lq3 body n)
theorem lq3_s {A0 A1 A2 : Type} {body : (A0 → A1 → A2 → Prop) → A0 → A1 → A2 → Prop} {a0 : A0} {a1 : A1} {a2 : A2} {goal : Prop} (h : ∃ n, lq3 body n a0 a1 a2) (G0 : A0 → A1 → A2 → Prop) (hs : ∀ self : A0 → A1 → A2 → Prop, (∀ (a0 : A0) (a1 : A1) (a2 : A2), self a0 a1 a2 → G0 a0 a1 a2) → ∀ (a0 : A0) (a1 : A1) (a2 : A2), body self a0 a1 a2 → G0 a0 a1 a2) (hg : G0 a0 a1 a2 → goal) : goal := by
  obtain ⟨n, h⟩ := h
  refine hg ?_
  have key : ∀ n (a0 : A0) (a1 : A1) (a2 : A2), lq3 body n a0 a1 a2 → G0 a0 a1 a2 := by
    intro n
    induction n with
    | zero => intro _ _ _ h; exact h.elim
    | succ n ih => intro a0 a1 a2 h; exact hs _ ih _ _ _ h
  exact key n _ _ _ h
theorem lq3_i {A0 A1 A2 : Type} {body : (A0 → A1 → A2 → Prop) → A0 → A1 → A2 → Prop} (I : A0 → A1 → A2 → Prop) (μ : A0 → A1 → A2 → Nat) (hb : ∀ (a0 : A0) (a1 : A1) (a2 : A2), I a0 a1 a2 → ∀ self : A0 → A1 → A2 → Prop, (∀ (b0 : A0) (b1 : A1) (b2 : A2), I b0 b1 b2 → μ b0 b1 b2 < μ a0 a1 a2 → self b0 b1 b2) → body self a0 a1 a2) (a0 : A0) (a1 : A1) (a2 : A2) (h0 : I a0 a1 a2) : ∃ n, lq3 body n a0 a1 a2 := by
  have key : ∀ n (a0 : A0) (a1 : A1) (a2 : A2), I a0 a1 a2 → μ a0 a1 a2 < n → lq3 body n a0 a1 a2 := by
    intro n
    induction n with
    | zero => intro _ _ _ _ h; exact absurd h (Nat.not_lt_zero _)
    | succ n ih => intro a0 a1 a2 hi hm; exact hb a0 a1 a2 hi _ (fun b0 b1 b2 hi2 hm2 => ih b0 b1 b2 hi2 (by omega))
  exact ⟨_, key _ _ _ _ h0 (Nat.lt_succ_self _)⟩
theorem jn4_s {A0 A1 A2 A3 : Type} {rest : A0 → A1 → A2 → A3 → Prop} {tree : (A0 → A1 → A2 → A3 → Prop) → Prop} {goal : Prop} (h : jn rest tree) (G0 : A0 → A1 → A2 → A3 → Prop) (hr : ∀ (a0 : A0) (a1 : A1) (a2 : A2) (a3 : A3), rest a0 a1 a2 a3 → G0 a0 a1 a2 a3) (ht : ∀ R : A0 → A1 → A2 → A3 → Prop, (∀ (a0 : A0) (a1 : A1) (a2 : A2) (a3 : A3), R a0 a1 a2 a3 → G0 a0 a1 a2 a3) → tree R → goal) : goal := ht rest hr h
def lq4 {A0 A1 A2 A3 : Type} (body : (A0 → A1 → A2 → A3 → Prop) → A0 → A1 → A2 → A3 → Prop) : Nat → A0 → A1 → A2 → A3 → Prop
  | 0 => fun _ _ _ _ => False
  | n + 1 => body (lq4 body n)
theorem lq4_s {A0 A1 A2 A3 : Type} {body : (A0 → A1 → A2 → A3 → Prop) → A0 → A1 → A2 → A3 → Prop} {a0 : A0} {a1 : A1} {a2 : A2} {a3 : A3} {goal : Prop} (h : ∃ n, lq4 body n a0 a1 a2 a3) (G0 : A0 → A1 → A2 → A3 → Prop) (hs : ∀ self : A0 → A1 → A2 → A3 → Prop, (∀ (a0 : A0) (a1 : A1) (a2 : A2) (a3 : A3), self a0 a1 a2 a3 → G0 a0 a1 a2 a3) → ∀ (a0 : A0) (a1 : A1) (a2 : A2) (a3 : A3), body self a0 a1 a2 a3 → G0 a0 a1 a2 a3) (hg : G0 a0 a1 a2 a3 → goal) : goal := by
  obtain ⟨n, h⟩ := h
  refine hg ?_
  have key : ∀ n (a0 : A0) (a1 : A1) (a2 : A2) (a3 : A3), lq4 body n a0 a1 a2 a3 → G0 a0 a1 a2 a3 := by
    intro n
    induction n with
    | zero => intro _ _ _ _ h; exact h.elim
    | succ n ih => intro a0 a1 a2 a3 h; exact hs _ ih _ _ _ _ h
  exact key n _ _ _ _ h
theorem lq4_i {A0 A1 A2 A3 : Type} {body : (A0 → A1 → A2 → A3 → Prop) → A0 → A1 → A2 → A3 → Prop} (I : A0 → A1 → A2 → A3 → Prop) (μ : A0 → A1 → A2 → A3 → Nat) (hb : ∀ (a0 : A0) (a1 : A1) (a2 : A2) (a3 : A3), I a0 a1 a2 a3 → ∀ self : A0 → A1 → A2 → A3 → Prop, (∀ (b0 : A0) (b1 : A1) (b2 : A2) (b3 : A3), I b0 b1 b2 b3 → μ b0 b1 b2 b3 < μ a0 a1 a2 a3 → self b0 b1 b2 b3) → body self a0 a1 a2 a3) (a0 : A0) (a1 : A1) (a2 : A2) (a3 : A3) (h0 : I a0 a1 a2 a3) : ∃ n, lq4 body n a0 a1 a2 a3 := by
  have key : ∀ n (a0 : A0) (a1 : A1) (a2 : A2) (a3 : A3), I a0 a1 a2 a3 → μ a0 a1 a2 a3 < n → lq4 body n a0 a1 a2 a3 := by
    intro n
    induction n with
    | zero => intro _ _ _ _ _ h; exact absurd h (Nat.not_lt_zero _)
    | succ n ih => intro a0 a1 a2 a3 hi hm; exact hb a0 a1 a2 a3 hi _ (fun b0 b1 b2 b3 hi2 hm2 => ih b0 b1 b2 b3 hi2 (by omega))
  exact ⟨_, key _ _ _ _ _ h0 (Nat.lt_succ_self _)⟩
theorem jn5_s {A0 A1 A2 A3 A4 : Type} {rest : A0 → A1 → A2 → A3 → A4 → Prop} {tree : (A0 → A1 → A2 → A3 → A4 → Prop) → Prop} {goal : Prop} (h : jn rest tree) (G0 : A0 → A1 → A2 → A3 → A4 → Prop) (hr : ∀ (a0 : A0) (a1 : A1) (a2 : A2) (a3 : A3) (a4 : A4), rest a0 a1 a2 a3 a4 → G0 a0 a1 a2 a3 a4) (ht : ∀ R : A0 → A1 → A2 → A3 → A4 → Prop, (∀ (a0 : A0) (a1 : A1) (a2 : A2) (a3 : A3) (a4 : A4), R a0 a1 a2 a3 a4 → G0 a0 a1 a2 a3 a4) → tree R → goal) : goal := ht rest hr h
def lq5 {A0 A1 A2 A3 A4 : Type} (body : (A0 → A1 → A2 → A3 → A4 → Prop) → A0 → A1 → A2 → A3 → A4 → Prop) : Nat → A0 → A1 → A2 → A3 → A4 → Prop
  | 0 => fun _ _ _ _ _ => False
  | n + 1 => body (lq5 body n)
theorem lq5_s {A0 A1 A2 A3 A4 : Type} {body : (A0 → A1 → A2 → A3 → A4 → Prop) → A0 → A1 → A2 → A3 → A4 → Prop} {a0 : A0} {a1 : A1} {a2 : A2} {a3 : A3} {a4 : A4} {goal : Prop} (h : ∃ n, lq5 body n a0 a1 a2 a3 a4) (G0 : A0 → A1 → A2 → A3 → A4 → Prop) (hs : ∀ self : A0 → A1 → A2 → A3 → A4 → Prop, (∀ (a0 : A0) (a1 : A1) (a2 : A2) (a3 : A3) (a4 : A4), self a0 a1 a2 a3 a4 → G0 a0 a1 a2 a3 a4) → ∀ (a0 : A0) (a1 : A1) (a2 : A2) (a3 : A3) (a4 : A4), body self a0 a1 a2 a3 a4 → G0 a0 a1 a2 a3 a4) (hg : G0 a0 a1 a2 a3 a4 → goal) : goal := by
  obtain ⟨n, h⟩ := h
  refine hg ?_
  have key : ∀ n (a0 : A0) (a1 : A1) (a2 : A2) (a3 : A3) (a4 : A4), lq5 body n a0 a1 a2 a3 a4 → G0 a0 a1 a2 a3 a4 := by
    intro n
    induction n with
    | zero => intro _ _ _ _ _ h; exact h.elim
    | succ n ih => intro a0 a1 a2 a3 a4 h; exact hs _ ih _ _ _ _ _ h
  exact key n _ _ _ _ _ h
theorem lq5_i {A0 A1 A2 A3 A4 : Type} {body : (A0 → A1 → A2 → A3 → A4 → Prop) → A0 → A1 → A2 → A3 → A4 → Prop} (I : A0 → A1 → A2 → A3 → A4 → Prop) (μ : A0 → A1 → A2 → A3 → A4 → Nat) (hb : ∀ (a0 : A0) (a1 : A1) (a2 : A2) (a3 : A3) (a4 : A4), I a0 a1 a2 a3 a4 → ∀ self : A0 → A1 → A2 → A3 → A4 → Prop, (∀ (b0 : A0) (b1 : A1) (b2 : A2) (b3 : A3) (b4 : A4), I b0 b1 b2 b3 b4 → μ b0 b1 b2 b3 b4 < μ a0 a1 a2 a3 a4 → self b0 b1 b2 b3 b4) → body self a0 a1 a2 a3 a4) (a0 : A0) (a1 : A1) (a2 : A2) (a3 : A3) (a4 : A4) (h0 : I a0 a1 a2 a3 a4) : ∃ n, lq5 body n a0 a1 a2 a3 a4 := by
  have key : ∀ n (a0 : A0) (a1 : A1) (a2 : A2) (a3 : A3) (a4 : A4), I a0 a1 a2 a3 a4 → μ a0 a1 a2 a3 a4 < n → lq5 body n a0 a1 a2 a3 a4 := by
    intro n
    induction n with
    | zero => intro _ _ _ _ _ _ h; exact absurd h (Nat.not_lt_zero _)
    | succ n ih => intro a0 a1 a2 a3 a4 hi hm; exact hb a0 a1 a2 a3 a4 hi _ (fun b0 b1 b2 b3 b4 hi2 hm2 => ih b0 b1 b2 b3 b4 hi2 (by omega))
  exact ⟨_, key _ _ _ _ _ _ h0 (Nat.lt_succ_self _)⟩
theorem jn6_s {A0 A1 A2 A3 A4 A5 : Type} {rest : A0 → A1 → A2 → A3 → A4 → A5 → Prop} {tree : (A0 → A1 → A2 → A3 → A4 → A5 → Prop) → Prop} {goal : Prop} (h : jn rest tree) (G0 : A0 → A1 → A2 → A3 → A4 → A5 → Prop) (hr : ∀ (a0 : A0) (a1 : A1) (a2 : A2) (a3 : A3) (a4 : A4) (a5 : A5), rest a0 a1 a2 a3 a4 a5 → G0 a0 a1 a2 a3 a4 a5) (ht : ∀ R : A0 → A1 → A2 → A3 → A4 → A5 → Prop, (∀ (a0 : A0) (a1 : A1) (a2 : A2) (a3 : A3) (a4 : A4) (a5 : A5), R a0 a1 a2 a3 a4 a5 → G0 a0 a1 a2 a3 a4 a5) → tree R → goal) : goal := ht rest hr h
def lq6 {A0 A1 A2 A3 A4 A5 : Type} (body : (A0 → A1 → A2 → A3 → A4 → A5 → Prop) → A0 → A1 → A2 → A3 → A4 → A5 → Prop) : Nat → A0 → A1 → A2 → A3 → A4 → A5 → Prop
  | 0 => fun _ _ _ _ _ _ => False
  | n + 1 => body (lq6 body n)
theorem lq6_s {A0 A1 A2 A3 A4 A5 : Type} {body : (A0 → A1 → A2 → A3 → A4 → A5 → Prop) → A0 → A1 → A2 → A3 → A4 → A5 → Prop} {a0 : A0} {a1 : A1} {a2 : A2} {a3 : A3} {a4 : A4} {a5 : A5} {goal : Prop} (h : ∃ n, lq6 body n a0 a1 a2 a3 a4 a5) (G0 : A0 → A1 → A2 → A3 → A4 → A5 → Prop) (hs : ∀ self : A0 → A1 → A2 → A3 → A4 → A5 → Prop, (∀ (a0 : A0) (a1 : A1) (a2 : A2) (a3 : A3) (a4 : A4) (a5 : A5), self a0 a1 a2 a3 a4 a5 → G0 a0 a1 a2 a3 a4 a5) → ∀ (a0 : A0) (a1 : A1) (a2 : A2) (a3 : A3) (a4 : A4) (a5 : A5), body self a0 a1 a2 a3 a4 a5 → G0 a0 a1 a2 a3 a4 a5) (hg : G0 a0 a1 a2 a3 a4 a5 → goal) : goal := by
  obtain ⟨n, h⟩ := h
  refine hg ?_
  have key : ∀ n (a0 : A0) (a1 : A1) (a2 : A2) (a3 : A3) (a4 : A4) (a5 : A5), lq6 body n a0 a1 a2 a3 a4 a5 → G0 a0 a1 a2 a3 a4 a5 := by
    intro n
    induction n with
    | zero => intro _ _ _ _ _ _ h; exact h.elim
    | succ n ih => intro a0 a1 a2 a3 a4 a5 h; exact hs _ ih _ _ _ _ _ _ h
  exact key n _ _ _ _ _ _ h
theorem lq6_i {A0 A1 A2 A3 A4 A5 : Type} {body : (A0 → A1 → A2 → A3 → A4 → A5 → Prop) → A0 → A1 → A2 → A3 → A4 → A5 → Prop} (I : A0 → A1 → A2 → A3 → A4 → A5 → Prop) (μ : A0 → A1 → A2 → A3 → A4 → A5 → Nat) (hb : ∀ (a0 : A0) (a1 : A1) (a2 : A2) (a3 : A3) (a4 : A4) (a5 : A5), I a0 a1 a2 a3 a4 a5 → ∀ self : A0 → A1 → A2 → A3 → A4 → A5 → Prop, (∀ (b0 : A0) (b1 : A1) (b2 : A2) (b3 : A3) (b4 : A4) (b5 : A5), I b0 b1 b2 b3 b4 b5 → μ b0 b1 b2 b3 b4 b5 < μ a0 a1 a2 a3 a4 a5 → self b0 b1 b2 b3 b4 b5) → body self a0 a1 a2 a3 a4 a5) (a0 : A0) (a1 : A1) (a2 : A2) (a3 : A3) (a4 : A4) (a5 : A5) (h0 : I a0 a1 a2 a3 a4 a5) : ∃ n, lq6 body n a0 a1 a2 a3 a4 a5 := by
  have key : ∀ n (a0 : A0) (a1 : A1) (a2 : A2) (a3 : A3) (a4 : A4) (a5 : A5), I a0 a1 a2 a3 a4 a5 → μ a0 a1 a2 a3 a4 a5 < n → lq6 body n a0 a1 a2 a3 a4 a5 := by
    intro n
    induction n with
    | zero => intro _ _ _ _ _ _ _ h; exact absurd h (Nat.not_lt_zero _)
    | succ n ih => intro a0 a1 a2 a3 a4 a5 hi hm; exact hb a0 a1 a2 a3 a4 a5 hi _ (fun b0 b1 b2 b3 b4 b5 hi2 hm2 => ih b0 b1 b2 b3 b4 b5 hi2 (by omega))
  exact ⟨_, key _ _ _ _ _ _ _ h0 (Nat.lt_succ_self _)⟩
def lq7 {A0 A1 A2 A3 A4 A5 A6 : Type} (body : (A0 → A1 → A2 → A3 → A4 → A5 → A6 → Prop) → A0 → A1 → A2 → A3 → A4 → A5 → A6 → Prop) : Nat → A0 → A1 → A2 → A3 → A4 → A5 → A6 → Prop
  | 0 => fun _ _ _ _ _ _ _ => False
  | n + 1 => body (lq7 body n)
theorem lq7_s {A0 A1 A2 A3 A4 A5 A6 : Type} {body : (A0 → A1 → A2 → A3 → A4 → A5 → A6 → Prop) → A0 → A1 → A2 → A3 → A4 → A5 → A6 → Prop} {a0 : A0} {a1 : A1} {a2 : A2} {a3 : A3} {a4 : A4} {a5 : A5} {a6 : A6} {goal : Prop} (h : ∃ n, lq7 body n a0 a1 a2 a3 a4 a5 a6) (G0 : A0 → A1 → A2 → A3 → A4 → A5 → A6 → Prop) (hs : ∀ self : A0 → A1 → A2 → A3 → A4 → A5 → A6 → Prop, (∀ (a0 : A0) (a1 : A1) (a2 : A2) (a3 : A3) (a4 : A4) (a5 : A5) (a6 : A6), self a0 a1 a2 a3 a4 a5 a6 → G0 a0 a1 a2 a3 a4 a5 a6) → ∀ (a0 : A0) (a1 : A1) (a2 : A2) (a3 : A3) (a4 : A4) (a5 : A5) (a6 : A6), body self a0 a1 a2 a3 a4 a5 a6 → G0 a0 a1 a2 a3 a4 a5 a6) (hg : G0 a0 a1 a2 a3 a4 a5 a6 → goal) : goal := by
  obtain ⟨n, h⟩ := h
  refine hg ?_
  have key : ∀ n (a0 : A0) (a1 : A1) (a2 : A2) (a3 : A3) (a4 : A4) (a5 : A5) (a6 : A6), lq7 body n a0 a1 a2 a3 a4 a5 a6 → G0 a0 a1 a2 a3 a4 a5 a6 := by
    intro n
    induction n with
    | zero => intro _ _ _ _ _ _ _ h; exact h.elim
    | succ n ih => intro a0 a1 a2 a3 a4 a5 a6 h; exact hs _ ih _ _ _ _ _ _ _ h
  exact key n _ _ _ _ _ _ _ h
theorem lq7_i {A0 A1 A2 A3 A4 A5 A6 : Type} {body : (A0 → A1 → A2 → A3 → A4 → A5 → A6 → Prop) → A0 → A1 → A2 → A3 → A4 → A5 → A6 → Prop} (I : A0 → A1 → A2 → A3 → A4 → A5 → A6 → Prop) (μ : A0 → A1 → A2 → A3 → A4 → A5 → A6 → Nat) (hb : ∀ (a0 : A0) (a1 : A1) (a2 : A2) (a3 : A3) (a4 : A4) (a5 : A5) (a6 : A6), I a0 a1 a2 a3 a4 a5 a6 → ∀ self : A0 → A1 → A2 → A3 → A4 → A5 → A6 → Prop, (∀ (b0 : A0) (b1 : A1) (b2 : A2) (b3 : A3) (b4 : A4) (b5 : A5) (b6 : A6), I b0 b1 b2 b3 b4 b5 b6 → μ b0 b1 b2 b3 b4 b5 b6 < μ a0 a1 a2 a3 a4 a5 a6 → self b0 b1 b2 b3 b4 b5 b6) → body self a0 a1 a2 a3 a4 a5 a6) (a0 : A0) (a1 : A1) (a2 : A2) (a3 : A3) (a4 : A4) (a5 : A5) (a6 : A6) (h0 : I a0 a1 a2 a3 a4 a5 a6) : ∃ n, lq7 body n a0 a1 a2 a3 a4 a5 a6 := by
  have key : ∀ n (a0 : A0) (a1 : A1) (a2 : A2) (a3 : A3) (a4 : A4) (a5 : A5) (a6 : A6), I a0 a1 a2 a3 a4 a5 a6 → μ a0 a1 a2 a3 a4 a5 a6 < n → lq7 body n a0 a1 a2 a3 a4 a5 a6 := by
    intro n
    induction n with
    | zero => intro _ _ _ _ _ _ _ _ h; exact absurd h (Nat.not_lt_zero _)
    | succ n ih => intro a0 a1 a2 a3 a4 a5 a6 hi hm; exact hb a0 a1 a2 a3 a4 a5 a6 hi _ (fun b0 b1 b2 b3 b4 b5 b6 hi2 hm2 => ih b0 b1 b2 b3 b4 b5 b6 hi2 (by omega))
  exact ⟨_, key _ _ _ _ _ _ _ _ h0 (Nat.lt_succ_self _)⟩
def lq8 {A0 A1 A2 A3 A4 A5 A6 A7 : Type} (body : (A0 → A1 → A2 → A3 → A4 → A5 → A6 → A7 → Prop) → A0 → A1 → A2 → A3 → A4 → A5 → A6 → A7 → Prop) : Nat → A0 → A1 → A2 → A3 → A4 → A5 → A6 → A7 → Prop
  | 0 => fun _ _ _ _ _ _ _ _ => False
  | n + 1 => body (lq8 body n)
theorem lq8_s {A0 A1 A2 A3 A4 A5 A6 A7 : Type} {body : (A0 → A1 → A2 → A3 → A4 → A5 → A6 → A7 → Prop) → A0 → A1 → A2 → A3 → A4 → A5 → A6 → A7 → Prop} {a0 : A0} {a1 : A1} {a2 : A2} {a3 : A3} {a4 : A4} {a5 : A5} {a6 : A6} {a7 : A7} {goal : Prop} (h : ∃ n, lq8 body n a0 a1 a2 a3 a4 a5 a6 a7) (G0 : A0 → A1 → A2 → A3 → A4 → A5 → A6 → A7 → Prop) (hs : ∀ self : A0 → A1 → A2 → A3 → A4 → A5 → A6 → A7 → Prop, (∀ (a0 : A0) (a1 : A1) (a2 : A2) (a3 : A3) (a4 : A4) (a5 : A5) (a6 : A6) (a7 : A7), self a0 a1 a2 a3 a4 a5 a6 a7 → G0 a0 a1 a2 a3 a4 a5 a6 a7) → ∀ (a0 : A0) (a1 : A1) (a2 : A2) (a3 : A3) (a4 : A4) (a5 : A5) (a6 : A6) (a7 : A7), body self a0 a1 a2 a3 a4 a5 a6 a7 → G0 a0 a1 a2 a3 a4 a5 a6 a7) (hg : G0 a0 a1 a2 a3 a4 a5 a6 a7 → goal) : goal := by
  obtain ⟨n, h⟩ := h
  refine hg ?_
  have key : ∀ n (a0 : A0) (a1 : A1) (a2 : A2) (a3 : A3) (a4 : A4) (a5 : A5) (a6 : A6) (a7 : A7), lq8 body n a0 a1 a2 a3 a4 a5 a6 a7 → G0 a0 a1 a2 a3 a4 a5 a6 a7 := by
    intro n
    induction n with
    | zero => intro _ _ _ _ _ _ _ _ h; exact h.elim
    | succ n ih => intro a0 a1 a2 a3 a4 a5 a6 a7 h; exact hs _ ih _ _ _ _ _ _ _ _ h
  exact key n _ _ _ _ _ _ _ _ h
theorem lq8_i {A0 A1 A2 A3 A4 A5 A6 A7 : Type} {body : (A0 → A1 → A2 → A3 → A4 → A5 → A6 → A7 → Prop) → A0 → A1 → A2 → A3 → A4 → A5 → A6 → A7 → Prop} (I : A0 → A1 → A2 → A3 → A4 → A5 → A6 → A7 → Prop) (μ : A0 → A1 → A2 → A3 → A4 → A5 → A6 → A7 → Nat) (hb : ∀ (a0 : A0) (a1 : A1) (a2 : A2) (a3 : A3) (a4 : A4) (a5 : A5) (a6 : A6) (a7 : A7), I a0 a1 a2 a3 a4 a5 a6 a7 → ∀ self : A0 → A1 → A2 → A3 → A4 → A5 → A6 → A7 → Prop, (∀ (b0 : A0) (b1 : A1) (b2 : A2) (b3 : A3) (b4 : A4) (b5 : A5) (b6 : A6) (b7 : A7), I b0 b1 b2 b3 b4 b5 b6 b7 → μ b0 b1 b2 b3 b4 b5 b6 b7 < μ a0 a1 a2 a3 a4 a5 a6 a7 → self b0 b1 b2 b3 b4 b5 b6 b7) → body self a0 a1 a2 a3 a4 a5 a6 a7) (a0 : A0) (a1 : A1) (a2 : A2) (a3 : A3) (a4 : A4) (a5 : A5) (a6 : A6) (a7 : A7) (h0 : I a0 a1 a2 a3 a4 a5 a6 a7) : ∃ n, lq8 body n a0 a1 a2 a3 a4 a5 a6 a7 := by
  have key : ∀ n (a0 : A0) (a1 : A1) (a2 : A2) (a3 : A3) (a4 : A4) (a5 : A5) (a6 : A6) (a7 : A7), I a0 a1 a2 a3 a4 a5 a6 a7 → μ a0 a1 a2 a3 a4 a5 a6 a7 < n → lq8 body n a0 a1 a2 a3 a4 a5 a6 a7 := by
    intro n
    induction n with
    | zero => intro _ _ _ _ _ _ _ _ _ h; exact absurd h (Nat.not_lt_zero _)
    | succ n ih => intro a0 a1 a2 a3 a4 a5 a6 a7 hi hm; exact hb a0 a1 a2 a3 a4 a5 a6 a7 hi _ (fun b0 b1 b2 b3 b4 b5 b6 b7 hi2 hm2 => ih b0 b1 b2 b3 b4 b5 b6 b7 hi2 (by omega))
  exact ⟨_, key _ _ _ _ _ _ _ _ _ h0 (Nat.lt_succ_self _)⟩
def lq9 {A0 A1 A2 A3 A4 A5 A6 A7 A8 : Type} (body : (A0 → A1 → A2 → A3 → A4 → A5 → A6 → A7 → A8 → Prop) → A0 → A1 → A2 → A3 → A4 → A5 → A6 → A7 → A8 → Prop) : Nat → A0 → A1 → A2 → A3 → A4 → A5 → A6 → A7 → A8 → Prop
  | 0 => fun _ _ _ _ _ _ _ _ _ => False
  | n + 1 => body (lq9 body n)
theorem lq9_s {A0 A1 A2 A3 A4 A5 A6 A7 A8 : Type} {body : (A0 → A1 → A2 → A3 → A4 → A5 → A6 → A7 → A8 → Prop) → A0 → A1 → A2 → A3 → A4 → A5 → A6 → A7 → A8 → Prop} {a0 : A0} {a1 : A1} {a2 : A2} {a3 : A3} {a4 : A4} {a5 : A5} {a6 : A6} {a7 : A7} {a8 : A8} {goal : Prop} (h : ∃ n, lq9 body n a0 a1 a2 a3 a4 a5 a6 a7 a8) (G0 : A0 → A1 → A2 → A3 → A4 → A5 → A6 → A7 → A8 → Prop) (hs : ∀ self : A0 → A1 → A2 → A3 → A4 → A5 → A6 → A7 → A8 → Prop, (∀ (a0 : A0) (a1 : A1) (a2 : A2) (a3 : A3) (a4 : A4) (a5 : A5) (a6 : A6) (a7 : A7) (a8 : A8), self a0 a1 a2 a3 a4 a5 a6 a7 a8 → G0 a0 a1 a2 a3 a4 a5 a6 a7 a8) → ∀ (a0 : A0) (a1 : A1) (a2 : A2) (a3 : A3) (a4 : A4) (a5 : A5) (a6 : A6) (a7 : A7) (a8 : A8), body self a0 a1 a2 a3 a4 a5 a6 a7 a8 → G0 a0 a1 a2 a3 a4 a5 a6 a7 a8) (hg : G0 a0 a1 a2 a3 a4 a5 a6 a7 a8 → goal) : goal := by
  obtain ⟨n, h⟩ := h
  refine hg ?_
  have key : ∀ n (a0 : A0) (a1 : A1) (a2 : A2) (a3 : A3) (a4 : A4) (a5 : A5) (a6 : A6) (a7 : A7) (a8 : A8), lq9 body n a0 a1 a2 a3 a4 a5 a6 a7 a8 → G0 a0 a1 a2 a3 a4 a5 a6 a7 a8 := by
    intro n
    induction n with
    | zero => intro _ _ _ _ _ _ _ _ _ h; exact h.elim
    | succ n ih => intro a0 a1 a2 a3 a4 a5 a6 a7 a8 h; exact hs _ ih _ _ _ _ _ _ _ _ _ h
  exact key n _ _ _ _ _ _ _ _ _ h
theorem lq9_i {A0 A1 A2 A3 A4 A5 A6 A7 A8 : Type} {body : (A0 → A1 → A2 → A3 → A4 → A5 → A6 → A7 → A8 → Prop) → A0 → A1 → A2 → A3 → A4 → A5 → A6 → A7 → A8 → Prop} (I : A0 → A1 → A2 → A3 → A4 → A5 → A6 → A7 → A8 → Prop) (μ : A0 → A1 → A2 → A3 → A4 → A5 → A6 → A7 → A8 → Nat) (hb : ∀ (a0 : A0) (a1 : A1) (a2 : A2) (a3 : A3) (a4 : A4) (a5 : A5) (a6 : A6) (a7 : A7) (a8 : A8), I a0 a1 a2 a3 a4 a5 a6 a7 a8 → ∀ self : A0 → A1 → A2 → A3 → A4 → A5 → A6 → A7 → A8 → Prop, (∀ (b0 : A0) (b1 : A1) (b2 : A2) (b3 : A3) (b4 : A4) (b5 : A5) (b6 : A6) (b7 : A7) (b8 : A8), I b0 b1 b2 b3 b4 b5 b6 b7 b8 → μ b0 b1 b2 b3 b4 b5 b6 b7 b8 < μ a0 a1 a2 a3 a4 a5 a6 a7 a8 → self b0 b1 b2 b3 b4 b5 b6 b7 b8) → body self a0 a1 a2 a3 a4 a5 a6 a7 a8) (a0 : A0) (a1 : A1) (a2 : A2) (a3 : A3) (a4 : A4) (a5 : A5) (a6 : A6) (a7 : A7) (a8 : A8) (h0 : I a0 a1 a2 a3 a4 a5 a6 a7 a8) : ∃ n, lq9 body n a0 a1 a2 a3 a4 a5 a6 a7 a8 := by
  have key : ∀ n (a0 : A0) (a1 : A1) (a2 : A2) (a3 : A3) (a4 : A4) (a5 : A5) (a6 : A6) (a7 : A7) (a8 : A8), I a0 a1 a2 a3 a4 a5 a6 a7 a8 → μ a0 a1 a2 a3 a4 a5 a6 a7 a8 < n → lq9 body n a0 a1 a2 a3 a4 a5 a6 a7 a8 := by
    intro n
    induction n with
    | zero => intro _ _ _ _ _ _ _ _ _ _ h; exact absurd h (Nat.not_lt_zero _)
    | succ n ih => intro a0 a1 a2 a3 a4 a5 a6 a7 a8 hi hm; exact hb a0 a1 a2 a3 a4 a5 a6 a7 a8 hi _ (fun b0 b1 b2 b3 b4 b5 b6 b7 b8 hi2 hm2 => ih b0 b1 b2 b3 b4 b5 b6 b7 b8 hi2 (by omega))
  exact ⟨_, key _ _ _ _ _ _ _ _ _ _ h0 (Nat.lt_succ_self _)⟩
