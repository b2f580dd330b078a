/-! A ROW AN INSTRUCTION, OVER THE DESK'S WORLD. E: where a method runs; J: from this place the machine comes to its end -/
abbrev ET : Type := Program × Launch × Env × Room × State × MethodId × Array Value × List Frame × Method × Code × Heap × Nat × Nat × (State → Prop)
def eP (E : ET) : Program := E.1
def eL (E : ET) : Launch := E.2.1
def eE (E : ET) : Env := E.2.2.1
def eR (E : ET) : Room := E.2.2.2.1
def eS (E : ET) : State := E.2.2.2.2.1
def eM (E : ET) : MethodId := E.2.2.2.2.2.1
def eArgs (E : ET) : Array Value := E.2.2.2.2.2.2.1
def eBelow (E : ET) : List Frame := E.2.2.2.2.2.2.2.1
def eMeth (E : ET) : Method := E.2.2.2.2.2.2.2.2.1
def eC (E : ET) : Code := E.2.2.2.2.2.2.2.2.2.1
def eH0 (E : ET) : Heap := E.2.2.2.2.2.2.2.2.2.2.1
def eCells (E : ET) : Nat := E.2.2.2.2.2.2.2.2.2.2.2.1
def eSlots (E : ET) : Nat := E.2.2.2.2.2.2.2.2.2.2.2.2.1
def eQ (E : ET) : State → Prop := E.2.2.2.2.2.2.2.2.2.2.2.2.2
def WJ (E : ET) (H : Heap) (locs : List Loc) (ls : Array Slot) (pc : Nat) (st : List Value) : Prop := W (eP E) (eL E) (eE E) (eR E) (eS E) (eM E) (eArgs E) (eBelow E) (eMeth E) (eC E) H locs (eCells E) (eSlots E) (eQ E) (F0 (eM E) pc ls st)
def J (G : GT) (E : ET) (nL pc : Nat) (lv : List (Nat × Value)) (st : List Value) (M : Mm) : Prop :=
  ∀ (H : Heap) (locs : List Loc) (ls : Array Slot), va_P G.1 vwCl (wld G M) H → va_S (gA G) (eH0 E) H locs → lv_has ls nL lv → WJ E H locs ls pc st
/-- what stands all the while a method runs -/
def CX (G : GT) (E : ET) (own : String) (cc : ByteArray) (nL : Nat) (rm : Room) : Prop :=
  (eP E).tables.exec = Jvm.exec ∧ (eC E).code = cc ∧ (eC E).maxLocals = nL ∧ (eS E).vm.findClass own = some (eM E).cls ∧ (∀ w ∈ lw_tbl, w.before (eArgs E) (eS E) = true) ∧
  va_K G.1 vwCl (tysL G) (eS E) ∧ (∀ M : Mm, va_D (gA G) (wld G M)) ∧ eR E = rm ∧ eCells E ≤ rm.cells ∧ eSlots E ≤ rm.slots
/-- a method's end -/
def RX (G : GT) (E : ET) (ret : Option FieldType) (Qc : Array Value → State → Outcome → State → Prop) : Prop :=
  (eMeth E).locks = false ∧ (eMeth E).sig.returnType = ret ∧ eQ E = MQ (eBelow E) Qc (eArgs E) (eS E) (eCells E) (eSlots E) (gA G) ∧ eH0 E = (eS E).heap
def HRx (G : GT) (M : Mm) (U : State) : Prop := va_P G.1 vwCl (wld G M) U.heap ∧ va_K G.1 vwCl (tysL G) U
theorem tw {i : Nat} {w : Cond} (h : lw_tbl[i]? = some w) : w ∈ lw_tbl := List.mem_of_getElem? h
section FRM
variable {G : GT} {E : ET} {own : String} {cc : ByteArray} {nL pc : Nat} {rm : Room} {lv : List (Nat × Value)} {st : List Value} {M : Mm}
theorem j_iconst (X : CX G E own cc nL rm) {n : Int} {v : Int32} (hv : Int32.ofInt n = v) (d : decode cc pc = .ok (.iconst n, 1)) (k : J G E nL (pc + 1) lv (.int v :: st) M) : J G E nL pc lv st M := fun H locs ls hP hS hl => lv_iconst X.1 X.2.1 d hv (k H locs ls hP hS hl)
theorem j_bipush (X : CX G E own cc nL rm) {n : Int} {v : Int32} (hv : (Int8.ofInt n).toInt32 = v) (d : decode cc pc = .ok (.bipush n, 2)) (k : J G E nL (pc + 2) lv (.int v :: st) M) : J G E nL pc lv st M := fun H locs ls hP hS hl => lv_bipush X.1 X.2.1 d hv (k H locs ls hP hS hl)
theorem j_sipush (X : CX G E own cc nL rm) {n : Int} {v : Int32} (hv : (Int16.ofInt n).toInt32 = v) (d : decode cc pc = .ok (.sipush n, 3)) (k : J G E nL (pc + 3) lv (.int v :: st) M) : J G E nL pc lv st M := fun H locs ls hP hS hl => lv_sipush X.1 X.2.1 d hv (k H locs ls hP hS hl)
theorem j_lconst (X : CX G E own cc nL rm) {n : Fin 2} {v : Int64} (hv : Int64.ofNat (n : Nat) = v) (d : decode cc pc = .ok (.lconst n, 1)) (k : J G E nL (pc + 1) lv (.long v :: st) M) : J G E nL pc lv st M := fun H locs ls hP hS hl => lv_lconst X.1 X.2.1 d hv (k H locs ls hP hS hl)
theorem j_fconst0 (X : CX G E own cc nL rm)  (d : decode cc pc = .ok (.fconst 0, 1)) (k : J G E nL (pc + 1) lv (.float FP.fconst0 :: st) M) : J G E nL pc lv st M := fun H locs ls hP hS hl => lv_fconst0 X.1 X.2.1 d (k H locs ls hP hS hl)
theorem j_fconst1 (X : CX G E own cc nL rm)  (d : decode cc pc = .ok (.fconst 1, 1)) (k : J G E nL (pc + 1) lv (.float FP.fconst1 :: st) M) : J G E nL pc lv st M := fun H locs ls hP hS hl => lv_fconst1 X.1 X.2.1 d (k H locs ls hP hS hl)
theorem j_fconst2 (X : CX G E own cc nL rm)  (d : decode cc pc = .ok (.fconst 2, 1)) (k : J G E nL (pc + 1) lv (.float FP.fconst2 :: st) M) : J G E nL pc lv st M := fun H locs ls hP hS hl => lv_fconst2 X.1 X.2.1 d (k H locs ls hP hS hl)
theorem j_iload_n (X : CX G E own cc nL rm) (q : Nat) {k : Fin 4} {i : Nat} {x : Int32} (d : decode cc pc = .ok (.iload_n k, 1)) (hi : (k : Nat) = i) (hv : lv[q]? = some (i, .int x)) (k : J G E nL (pc + 1) lv (.int x :: st) M) : J G E nL pc lv st M := fun H locs ls hP hS hl => lv_iload_n X.1 X.2.1 d hi (lv_at hl q hv) (k H locs ls hP hS hl)
theorem j_iload (X : CX G E own cc nL rm) (q : Nat) {i : Nat} {x : Int32} (d : decode cc pc = .ok (.iload i, 2)) (hv : lv[q]? = some (i, .int x)) (k : J G E nL (pc + 2) lv (.int x :: st) M) : J G E nL pc lv st M := fun H locs ls hP hS hl => lv_iload X.1 X.2.1 d (lv_at hl q hv) (k H locs ls hP hS hl)
theorem j_lload_n (X : CX G E own cc nL rm) (q : Nat) {k : Fin 4} {i : Nat} {x : Int64} (d : decode cc pc = .ok (.lload_n k, 1)) (hi : (k : Nat) = i) (hv : lv[q]? = some (i, .long x)) (k : J G E nL (pc + 1) lv (.long x :: st) M) : J G E nL pc lv st M := fun H locs ls hP hS hl => lv_lload_n X.1 X.2.1 d hi (lv_at hl q hv) (k H locs ls hP hS hl)
theorem j_lload (X : CX G E own cc nL rm) (q : Nat) {i : Nat} {x : Int64} (d : decode cc pc = .ok (.lload i, 2)) (hv : lv[q]? = some (i, .long x)) (k : J G E nL (pc + 2) lv (.long x :: st) M) : J G E nL pc lv st M := fun H locs ls hP hS hl => lv_lload X.1 X.2.1 d (lv_at hl q hv) (k H locs ls hP hS hl)
theorem j_fload_n (X : CX G E own cc nL rm) (q : Nat) {k : Fin 4} {i : Nat} {x : UInt32} (d : decode cc pc = .ok (.fload_n k, 1)) (hi : (k : Nat) = i) (hv : lv[q]? = some (i, .float x)) (k : J G E nL (pc + 1) lv (.float x :: st) M) : J G E nL pc lv st M := fun H locs ls hP hS hl => lv_fload_n X.1 X.2.1 d hi (lv_at hl q hv) (k H locs ls hP hS hl)
theorem j_fload (X : CX G E own cc nL rm) (q : Nat) {i : Nat} {x : UInt32} (d : decode cc pc = .ok (.fload i, 2)) (hv : lv[q]? = some (i, .float x)) (k : J G E nL (pc + 2) lv (.float x :: st) M) : J G E nL pc lv st M := fun H locs ls hP hS hl => lv_fload X.1 X.2.1 d (lv_at hl q hv) (k H locs ls hP hS hl)
theorem j_aload_n (X : CX G E own cc nL rm) (q : Nat) {k : Fin 4} {i : Nat} {x : Nat} (d : decode cc pc = .ok (.aload_n k, 1)) (hi : (k : Nat) = i) (hv : lv[q]? = some (i, .ref x)) (k : J G E nL (pc + 1) lv (.ref x :: st) M) : J G E nL pc lv st M := fun H locs ls hP hS hl => lv_aload_n X.1 X.2.1 d hi (lv_at hl q hv) (k H locs ls hP hS hl)
theorem j_aload (X : CX G E own cc nL rm) (q : Nat) {i : Nat} {x : Nat} (d : decode cc pc = .ok (.aload i, 2)) (hv : lv[q]? = some (i, .ref x)) (k : J G E nL (pc + 2) lv (.ref x :: st) M) : J G E nL pc lv st M := fun H locs ls hP hS hl => lv_aload X.1 X.2.1 d (lv_at hl q hv) (k H locs ls hP hS hl)
theorem j_istore_n (X : CX G E own cc nL rm) {k : Fin 4} {i : Nat} {x : Int32} (lv2 : List (Nat × Value)) (d : decode cc pc = .ok (.istore_n k, 1)) (hi : (k : Nat) = i) (hn : i < nL) (hl2 : (i, .int x) :: lv.filter (fun q => !(q.1 == i) && !(q.1 + 1 == i && q.2.category == 2)) = lv2) (k : J G E nL (pc + 1) lv2 st M) : J G E nL pc lv (.int x :: st) M := fun H locs ls hP hS hl => lv_istore_n X.1 X.2.1 d hi hl hn hl2 (fun ls hl => k H locs ls hP hS hl)
theorem j_istore (X : CX G E own cc nL rm) {i : Nat} {x : Int32} (lv2 : List (Nat × Value)) (d : decode cc pc = .ok (.istore i, 2)) (hn : i < nL) (hl2 : (i, .int x) :: lv.filter (fun q => !(q.1 == i) && !(q.1 + 1 == i && q.2.category == 2)) = lv2) (k : J G E nL (pc + 2) lv2 st M) : J G E nL pc lv (.int x :: st) M := fun H locs ls hP hS hl => lv_istore X.1 X.2.1 d hl hn hl2 (fun ls hl => k H locs ls hP hS hl)
theorem j_lstore_n (X : CX G E own cc nL rm) {k : Fin 4} {i : Nat} {x : Int64} (lv2 : List (Nat × Value)) (d : decode cc pc = .ok (.lstore_n k, 1)) (hi : (k : Nat) = i) (hn : i + 1 < nL) (hl2 : (i, .long x) :: lv.filter (fun q => !(q.1 == i) && (!(q.1 == i + 1) && !(q.1 + 1 == i && q.2.category == 2))) = lv2) (k : J G E nL (pc + 1) lv2 st M) : J G E nL pc lv (.long x :: st) M := fun H locs ls hP hS hl => lv_lstore_n X.1 X.2.1 d hi hl hn hl2 (fun ls hl => k H locs ls hP hS hl)
theorem j_lstore (X : CX G E own cc nL rm) {i : Nat} {x : Int64} (lv2 : List (Nat × Value)) (d : decode cc pc = .ok (.lstore i, 2)) (hn : i + 1 < nL) (hl2 : (i, .long x) :: lv.filter (fun q => !(q.1 == i) && (!(q.1 == i + 1) && !(q.1 + 1 == i && q.2.category == 2))) = lv2) (k : J G E nL (pc + 2) lv2 st M) : J G E nL pc lv (.long x :: st) M := fun H locs ls hP hS hl => lv_lstore X.1 X.2.1 d hl hn hl2 (fun ls hl => k H locs ls hP hS hl)
theorem j_fstore_n (X : CX G E own cc nL rm) {k : Fin 4} {i : Nat} {x : UInt32} (lv2 : List (Nat × Value)) (d : decode cc pc = .ok (.fstore_n k, 1)) (hi : (k : Nat) = i) (hn : i < nL) (hl2 : (i, .float x) :: lv.filter (fun q => !(q.1 == i) && !(q.1 + 1 == i && q.2.category == 2)) = lv2) (k : J G E nL (pc + 1) lv2 st M) : J G E nL pc lv (.float x :: st) M := fun H locs ls hP hS hl => lv_fstore_n X.1 X.2.1 d hi hl hn hl2 (fun ls hl => k H locs ls hP hS hl)
theorem j_fstore (X : CX G E own cc nL rm) {i : Nat} {x : UInt32} (lv2 : List (Nat × Value)) (d : decode cc pc = .ok (.fstore i, 2)) (hn : i < nL) (hl2 : (i, .float x) :: lv.filter (fun q => !(q.1 == i) && !(q.1 + 1 == i && q.2.category == 2)) = lv2) (k : J G E nL (pc + 2) lv2 st M) : J G E nL pc lv (.float x :: st) M := fun H locs ls hP hS hl => lv_fstore X.1 X.2.1 d hl hn hl2 (fun ls hl => k H locs ls hP hS hl)
theorem j_astore_n (X : CX G E own cc nL rm) {k : Fin 4} {i : Nat} {x : Nat} (lv2 : List (Nat × Value)) (d : decode cc pc = .ok (.astore_n k, 1)) (hi : (k : Nat) = i) (hn : i < nL) (hl2 : (i, .ref x) :: lv.filter (fun q => !(q.1 == i) && !(q.1 + 1 == i && q.2.category == 2)) = lv2) (k : J G E nL (pc + 1) lv2 st M) : J G E nL pc lv (.ref x :: st) M := fun H locs ls hP hS hl => lv_astore_n X.1 X.2.1 d hi hl hn hl2 (fun ls hl => k H locs ls hP hS hl)
theorem j_astore (X : CX G E own cc nL rm) {i : Nat} {x : Nat} (lv2 : List (Nat × Value)) (d : decode cc pc = .ok (.astore i, 2)) (hn : i < nL) (hl2 : (i, .ref x) :: lv.filter (fun q => !(q.1 == i) && !(q.1 + 1 == i && q.2.category == 2)) = lv2) (k : J G E nL (pc + 2) lv2 st M) : J G E nL pc lv (.ref x :: st) M := fun H locs ls hP hS hl => lv_astore X.1 X.2.1 d hl hn hl2 (fun ls hl => k H locs ls hP hS hl)
theorem j_iinc (X : CX G E own cc nL rm) (q : Nat) {i : Nat} {n : Int} {x v : Int32} (lv2 : List (Nat × Value)) (d : decode cc pc = .ok (.iinc i n, 3)) (hk : lv[q]? = some (i, .int x)) (hv : x + Int32.ofInt n = v) (hn : i < nL) (hl2 : (i, Value.int v) :: lv.filter (fun q => !(q.1 == i) && !(q.1 + 1 == i && q.2.category == 2)) = lv2) (k : J G E nL (pc + 3) lv2 st M) : J G E nL pc lv st M := fun H locs ls hP hS hl => lv_iinc X.1 X.2.1 d hl hk hv hn hl2 (fun ls hl => k H locs ls hP hS hl)
theorem j_sub (ks : List Nat) {lv2 : List (Nat × Value)} (hl2 : lv_pick lv ks = lv2) (k : J G E nL pc lv2 st M) : J G E nL pc lv st M := fun H locs ls hP hS hl => k H locs ls hP hS (lv_sub hl ks hl2)
theorem j_iadd (X : CX G E own cc nL rm) {x y : Int32} (d : decode cc pc = .ok (.iadd, 1)) (k : J G E nL (pc + 1) lv (.int (x + y) :: st) M) : J G E nL pc lv (.int y :: .int x :: st) M := fun H locs ls hP hS hl => lv_iadd X.1 X.2.1 d (k H locs ls hP hS hl)
theorem j_isub (X : CX G E own cc nL rm) {x y : Int32} (d : decode cc pc = .ok (.isub, 1)) (k : J G E nL (pc + 1) lv (.int (x - y) :: st) M) : J G E nL pc lv (.int y :: .int x :: st) M := fun H locs ls hP hS hl => lv_isub X.1 X.2.1 d (k H locs ls hP hS hl)
theorem j_imul (X : CX G E own cc nL rm) {x y : Int32} (d : decode cc pc = .ok (.imul, 1)) (k : J G E nL (pc + 1) lv (.int (x * y) :: st) M) : J G E nL pc lv (.int y :: .int x :: st) M := fun H locs ls hP hS hl => lv_imul X.1 X.2.1 d (k H locs ls hP hS hl)
theorem j_iand (X : CX G E own cc nL rm) {x y : Int32} (d : decode cc pc = .ok (.iand, 1)) (k : J G E nL (pc + 1) lv (.int (x &&& y) :: st) M) : J G E nL pc lv (.int y :: .int x :: st) M := fun H locs ls hP hS hl => lv_iand X.1 X.2.1 d (k H locs ls hP hS hl)
theorem j_ior (X : CX G E own cc nL rm) {x y : Int32} (d : decode cc pc = .ok (.ior, 1)) (k : J G E nL (pc + 1) lv (.int (x ||| y) :: st) M) : J G E nL pc lv (.int y :: .int x :: st) M := fun H locs ls hP hS hl => lv_ior X.1 X.2.1 d (k H locs ls hP hS hl)
theorem j_ishl (X : CX G E own cc nL rm) {x y : Int32} (d : decode cc pc = .ok (.ishl, 1)) (k : J G E nL (pc + 1) lv (.int (x <<< (y &&& 31)) :: st) M) : J G E nL pc lv (.int y :: .int x :: st) M := fun H locs ls hP hS hl => lv_ishl X.1 X.2.1 d (k H locs ls hP hS hl)
theorem j_idiv (X : CX G E own cc nL rm) {x y : Int32} (hne : ¬ y = 0) (d : decode cc pc = .ok (.idiv, 1)) (k : J G E nL (pc + 1) lv (.int (x / y) :: st) M) : J G E nL pc lv (.int y :: .int x :: st) M := fun H locs ls hP hS hl => lv_idiv X.1 X.2.1 d hne (k H locs ls hP hS hl)
theorem j_irem (X : CX G E own cc nL rm) {x y : Int32} (hne : ¬ y = 0) (d : decode cc pc = .ok (.irem, 1)) (k : J G E nL (pc + 1) lv (.int (x - x / y * y) :: st) M) : J G E nL pc lv (.int y :: .int x :: st) M := fun H locs ls hP hS hl => lv_irem X.1 X.2.1 d hne (k H locs ls hP hS hl)
theorem j_ladd (X : CX G E own cc nL rm) {x y : Int64} (d : decode cc pc = .ok (.ladd, 1)) (k : J G E nL (pc + 1) lv (.long (x + y) :: st) M) : J G E nL pc lv (.long y :: .long x :: st) M := fun H locs ls hP hS hl => lv_ladd X.1 X.2.1 d (k H locs ls hP hS hl)
theorem j_lsub (X : CX G E own cc nL rm) {x y : Int64} (d : decode cc pc = .ok (.lsub, 1)) (k : J G E nL (pc + 1) lv (.long (x - y) :: st) M) : J G E nL pc lv (.long y :: .long x :: st) M := fun H locs ls hP hS hl => lv_lsub X.1 X.2.1 d (k H locs ls hP hS hl)
theorem j_lmul (X : CX G E own cc nL rm) {x y : Int64} (d : decode cc pc = .ok (.lmul, 1)) (k : J G E nL (pc + 1) lv (.long (x * y) :: st) M) : J G E nL pc lv (.long y :: .long x :: st) M := fun H locs ls hP hS hl => lv_lmul X.1 X.2.1 d (k H locs ls hP hS hl)
theorem j_ldiv (X : CX G E own cc nL rm) {x y : Int64} (hne : ¬ y = 0) (d : decode cc pc = .ok (.ldiv, 1)) (k : J G E nL (pc + 1) lv (.long (x / y) :: st) M) : J G E nL pc lv (.long y :: .long x :: st) M := fun H locs ls hP hS hl => lv_ldiv X.1 X.2.1 d hne (k H locs ls hP hS hl)
theorem j_lrem (X : CX G E own cc nL rm) {x y : Int64} (hne : ¬ y = 0) (d : decode cc pc = .ok (.lrem, 1)) (k : J G E nL (pc + 1) lv (.long (x - x / y * y) :: st) M) : J G E nL pc lv (.long y :: .long x :: st) M := fun H locs ls hP hS hl => lv_lrem X.1 X.2.1 d hne (k H locs ls hP hS hl)
theorem j_lcmp (X : CX G E own cc nL rm) {x y : Int64} (d : decode cc pc = .ok (.lcmp, 1)) (k : J G E nL (pc + 1) lv (.int (lg_cmp x y) :: st) M) : J G E nL pc lv (.long y :: .long x :: st) M := fun H locs ls hP hS hl => W.lcmp X.1 X.2.1 d (k H locs ls hP hS hl)
theorem j_i2l (X : CX G E own cc nL rm) {x : Int32} (d : decode cc pc = .ok (.i2l, 1)) (k : J G E nL (pc + 1) lv (.long x.toInt64 :: st) M) : J G E nL pc lv (.int x :: st) M := fun H locs ls hP hS hl => lv_i2l X.1 X.2.1 d rfl (k H locs ls hP hS hl)
theorem j_l2i (X : CX G E own cc nL rm) {x : Int64} (d : decode cc pc = .ok (.l2i, 1)) (k : J G E nL (pc + 1) lv (.int x.toInt32 :: st) M) : J G E nL pc lv (.long x :: st) M := fun H locs ls hP hS hl => lv_l2i X.1 X.2.1 d rfl (k H locs ls hP hS hl)
theorem j_i2c (X : CX G E own cc nL rm) {x : Int32} (d : decode cc pc = .ok (.i2c, 1)) (k : J G E nL (pc + 1) lv (.int (x.toUInt32 % 65536).toInt32 :: st) M) : J G E nL pc lv (.int x :: st) M := fun H locs ls hP hS hl => lv_i2c X.1 X.2.1 d rfl (k H locs ls hP hS hl)
theorem j_iushr (X : CX G E own cc nL rm) {x y : Int32} (d : decode cc pc = .ok (.iushr, 1)) (k : J G E nL (pc + 1) lv (.int (x.toUInt32 >>> (y.toUInt32 &&& Int32.toUInt32 31)).toInt32 :: st) M) : J G E nL pc lv (.int y :: .int x :: st) M := fun H locs ls hP hS hl => lv_iushr X.1 X.2.1 d rfl (k H locs ls hP hS hl)
theorem j_fadd (X : CX G E own cc nL rm) {x y : UInt32} (hne : vf_n32 (FP.fadd x y)) (d : decode cc pc = .ok (.fadd, 1)) (k : J G E nL (pc + 1) lv (.float (FP.fadd x y) :: st) M) : J G E nL pc lv (.float y :: .float x :: st) M := fun H locs ls hP hS hl => lv_fadd X.1 X.2.1 d hne (k H locs ls hP hS hl)
theorem j_fsub (X : CX G E own cc nL rm) {x y : UInt32} (hne : vf_n32 (FP.fsub x y)) (d : decode cc pc = .ok (.fsub, 1)) (k : J G E nL (pc + 1) lv (.float (FP.fsub x y) :: st) M) : J G E nL pc lv (.float y :: .float x :: st) M := fun H locs ls hP hS hl => lv_fsub X.1 X.2.1 d hne (k H locs ls hP hS hl)
theorem j_fmul (X : CX G E own cc nL rm) {x y : UInt32} (hne : vf_n32 (FP.fmul x y)) (d : decode cc pc = .ok (.fmul, 1)) (k : J G E nL (pc + 1) lv (.float (FP.fmul x y) :: st) M) : J G E nL pc lv (.float y :: .float x :: st) M := fun H locs ls hP hS hl => lv_fmul X.1 X.2.1 d hne (k H locs ls hP hS hl)
theorem j_fdiv (X : CX G E own cc nL rm) {x y : UInt32} (hne : vf_n32 (FP.fdiv x y)) (d : decode cc pc = .ok (.fdiv, 1)) (k : J G E nL (pc + 1) lv (.float (FP.fdiv x y) :: st) M) : J G E nL pc lv (.float y :: .float x :: st) M := fun H locs ls hP hS hl => lv_fdiv X.1 X.2.1 d hne (k H locs ls hP hS hl)
theorem j_fcmp (X : CX G E own cc nL rm) {x y : UInt32} {op : CmpOp} (d : decode cc pc = .ok (.fcmp op, 1)) (k : J G E nL (pc + 1) lv (.int (Op.cmpValue (FP.fcmp x y) op) :: st) M) : J G E nL pc lv (.float y :: .float x :: st) M := fun H locs ls hP hS hl => lv_fcmp X.1 X.2.1 d (k H locs ls hP hS hl)
theorem j_i2f (X : CX G E own cc nL rm) {x : Int32} (d : decode cc pc = .ok (.i2f, 1)) (k : J G E nL (pc + 1) lv (.float (FP.i2f x) :: st) M) : J G E nL pc lv (.int x :: st) M := fun H locs ls hP hS hl => lv_i2f X.1 X.2.1 d (k H locs ls hP hS hl)
theorem j_f2i (X : CX G E own cc nL rm) {x : UInt32} (d : decode cc pc = .ok (.f2i, 1)) (k : J G E nL (pc + 1) lv (.int (FP.f2i x) :: st) M) : J G E nL pc lv (.float x :: st) M := fun H locs ls hP hS hl => lv_f2i X.1 X.2.1 d (k H locs ls hP hS hl)
theorem j_dup (X : CX G E own cc nL rm) {va : Value} (hva : va.category = 1) (d : decode cc pc = .ok (.dup, 1)) (k : J G E nL (pc + 1) lv (va :: va :: st) M) : J G E nL pc lv (va :: st) M := fun H locs ls hP hS hl => lv_dup X.1 X.2.1 d hva (k H locs ls hP hS hl)
theorem j_pop (X : CX G E own cc nL rm) {va : Value} (hva : va.category = 1) (d : decode cc pc = .ok (.pop, 1)) (k : J G E nL (pc + 1) lv st M) : J G E nL pc lv (va :: st) M := fun H locs ls hP hS hl => lv_pop X.1 X.2.1 d hva (k H locs ls hP hS hl)
theorem j_dup2 (X : CX G E own cc nL rm) {va vb : Value} (hva : va.category = 1) (hvb : vb.category = 1) (d : decode cc pc = .ok (.dup2, 1)) (k : J G E nL (pc + 1) lv (va :: vb :: va :: vb :: st) M) : J G E nL pc lv (va :: vb :: st) M := fun H locs ls hP hS hl => lv_dup2_11 X.1 X.2.1 d hva hvb (k H locs ls hP hS hl)
theorem j_icmp_eq (X : CX G E own cc nL rm) (tgt : Nat) {x y : Int32} {off : Int} (d : decode cc pc = .ok (.if_icmp .eq off, 3)) (ht : (pc : Int) + off = (tgt : Int)) (kt : x = y → J G E nL tgt lv st M) (kf : ¬ x = y → J G E nL (pc + 3) lv st M) : J G E nL pc lv (.int y :: .int x :: st) M := fun H locs ls hP hS hl => lv_icmp_eq X.1 X.2.1 d ht (fun q => kt q H locs ls hP hS hl) (fun q => kf q H locs ls hP hS hl)
theorem j_if_eq (X : CX G E own cc nL rm) (tgt : Nat) {x : Int32} {off : Int} (d : decode cc pc = .ok (.ifCond .eq off, 3)) (ht : (pc : Int) + off = (tgt : Int)) (kt : x = 0 → J G E nL tgt lv st M) (kf : ¬ x = 0 → J G E nL (pc + 3) lv st M) : J G E nL pc lv (.int x :: st) M := fun H locs ls hP hS hl => lv_if_eq X.1 X.2.1 d ht (fun q => kt q H locs ls hP hS hl) (fun q => kf q H locs ls hP hS hl)
theorem j_icmp_ne (X : CX G E own cc nL rm) (tgt : Nat) {x y : Int32} {off : Int} (d : decode cc pc = .ok (.if_icmp .ne off, 3)) (ht : (pc : Int) + off = (tgt : Int)) (kt : ¬ x = y → J G E nL tgt lv st M) (kf : x = y → J G E nL (pc + 3) lv st M) : J G E nL pc lv (.int y :: .int x :: st) M := fun H locs ls hP hS hl => lv_icmp_ne X.1 X.2.1 d ht (fun q => kt q H locs ls hP hS hl) (fun q => kf q H locs ls hP hS hl)
theorem j_if_ne (X : CX G E own cc nL rm) (tgt : Nat) {x : Int32} {off : Int} (d : decode cc pc = .ok (.ifCond .ne off, 3)) (ht : (pc : Int) + off = (tgt : Int)) (kt : ¬ x = 0 → J G E nL tgt lv st M) (kf : x = 0 → J G E nL (pc + 3) lv st M) : J G E nL pc lv (.int x :: st) M := fun H locs ls hP hS hl => lv_if_ne X.1 X.2.1 d ht (fun q => kt q H locs ls hP hS hl) (fun q => kf q H locs ls hP hS hl)
theorem j_icmp_lt (X : CX G E own cc nL rm) (tgt : Nat) {x y : Int32} {off : Int} (d : decode cc pc = .ok (.if_icmp .lt off, 3)) (ht : (pc : Int) + off = (tgt : Int)) (kt : x < y → J G E nL tgt lv st M) (kf : ¬ x < y → J G E nL (pc + 3) lv st M) : J G E nL pc lv (.int y :: .int x :: st) M := fun H locs ls hP hS hl => lv_icmp_lt X.1 X.2.1 d ht (fun q => kt q H locs ls hP hS hl) (fun q => kf q H locs ls hP hS hl)
theorem j_if_lt (X : CX G E own cc nL rm) (tgt : Nat) {x : Int32} {off : Int} (d : decode cc pc = .ok (.ifCond .lt off, 3)) (ht : (pc : Int) + off = (tgt : Int)) (kt : x < 0 → J G E nL tgt lv st M) (kf : ¬ x < 0 → J G E nL (pc + 3) lv st M) : J G E nL pc lv (.int x :: st) M := fun H locs ls hP hS hl => lv_if_lt X.1 X.2.1 d ht (fun q => kt q H locs ls hP hS hl) (fun q => kf q H locs ls hP hS hl)
theorem j_icmp_ge (X : CX G E own cc nL rm) (tgt : Nat) {x y : Int32} {off : Int} (d : decode cc pc = .ok (.if_icmp .ge off, 3)) (ht : (pc : Int) + off = (tgt : Int)) (kt : y ≤ x → J G E nL tgt lv st M) (kf : ¬ y ≤ x → J G E nL (pc + 3) lv st M) : J G E nL pc lv (.int y :: .int x :: st) M := fun H locs ls hP hS hl => lv_icmp_ge X.1 X.2.1 d ht (fun q => kt q H locs ls hP hS hl) (fun q => kf q H locs ls hP hS hl)
theorem j_if_ge (X : CX G E own cc nL rm) (tgt : Nat) {x : Int32} {off : Int} (d : decode cc pc = .ok (.ifCond .ge off, 3)) (ht : (pc : Int) + off = (tgt : Int)) (kt : 0 ≤ x → J G E nL tgt lv st M) (kf : ¬ 0 ≤ x → J G E nL (pc + 3) lv st M) : J G E nL pc lv (.int x :: st) M := fun H locs ls hP hS hl => lv_if_ge X.1 X.2.1 d ht (fun q => kt q H locs ls hP hS hl) (fun q => kf q H locs ls hP hS hl)
theorem j_icmp_gt (X : CX G E own cc nL rm) (tgt : Nat) {x y : Int32} {off : Int} (d : decode cc pc = .ok (.if_icmp .gt off, 3)) (ht : (pc : Int) + off = (tgt : Int)) (kt : y < x → J G E nL tgt lv st M) (kf : ¬ y < x → J G E nL (pc + 3) lv st M) : J G E nL pc lv (.int y :: .int x :: st) M := fun H locs ls hP hS hl => lv_icmp_gt X.1 X.2.1 d ht (fun q => kt q H locs ls hP hS hl) (fun q => kf q H locs ls hP hS hl)
theorem j_if_gt (X : CX G E own cc nL rm) (tgt : Nat) {x : Int32} {off : Int} (d : decode cc pc = .ok (.ifCond .gt off, 3)) (ht : (pc : Int) + off = (tgt : Int)) (kt : 0 < x → J G E nL tgt lv st M) (kf : ¬ 0 < x → J G E nL (pc + 3) lv st M) : J G E nL pc lv (.int x :: st) M := fun H locs ls hP hS hl => lv_if_gt X.1 X.2.1 d ht (fun q => kt q H locs ls hP hS hl) (fun q => kf q H locs ls hP hS hl)
theorem j_icmp_le (X : CX G E own cc nL rm) (tgt : Nat) {x y : Int32} {off : Int} (d : decode cc pc = .ok (.if_icmp .le off, 3)) (ht : (pc : Int) + off = (tgt : Int)) (kt : x ≤ y → J G E nL tgt lv st M) (kf : ¬ x ≤ y → J G E nL (pc + 3) lv st M) : J G E nL pc lv (.int y :: .int x :: st) M := fun H locs ls hP hS hl => lv_icmp_le X.1 X.2.1 d ht (fun q => kt q H locs ls hP hS hl) (fun q => kf q H locs ls hP hS hl)
theorem j_if_le (X : CX G E own cc nL rm) (tgt : Nat) {x : Int32} {off : Int} (d : decode cc pc = .ok (.ifCond .le off, 3)) (ht : (pc : Int) + off = (tgt : Int)) (kt : x ≤ 0 → J G E nL tgt lv st M) (kf : ¬ x ≤ 0 → J G E nL (pc + 3) lv st M) : J G E nL pc lv (.int x :: st) M := fun H locs ls hP hS hl => lv_if_le X.1 X.2.1 d ht (fun q => kt q H locs ls hP hS hl) (fun q => kf q H locs ls hP hS hl)
theorem j_goto (X : CX G E own cc nL rm) (tgt : Nat) {off : Int} (d : decode cc pc = .ok (.goto off, 3)) (ht : (pc : Int) + off = (tgt : Int)) (k : J G E nL tgt lv st M) : J G E nL pc lv st M := fun H locs ls hP hS hl => lv_goto X.1 X.2.1 d ht (k H locs ls hP hS hl)
theorem j_topi {x : Int32} (k : ∀ y : Int32, y = x → J G E nL pc lv (.int y :: st) M) : J G E nL pc lv (.int x :: st) M := k x rfl
theorem j_topl {x : Int64} (k : ∀ y : Int64, y = x → J G E nL pc lv (.long y :: st) M) : J G E nL pc lv (.long x :: st) M := k x rfl
theorem j_topf {x : UInt32} (k : ∀ y : UInt32, y = x → J G E nL pc lv (.float y :: st) M) : J G E nL pc lv (.float x :: st) M := k x rfl
theorem j_ldc (X : CX G E own cc nL rm) {index : Nat} {v : Int32} (hc : Cond.constant own index v ∈ lw_tbl) (d : decode cc pc = .ok (.ldc index, 2)) (k : J G E nL (pc + 2) lv (.int v :: st) M) : J G E nL pc lv st M := fun H locs ls hP hS hl => lv_ldc X.1 X.2.1 X.2.2.2.1 (X.2.2.2.2.1 _ hc) d (k H locs ls hP hS hl)
theorem j_ldcw (X : CX G E own cc nL rm) {index : Nat} {v : Int32} (hc : Cond.constant own index v ∈ lw_tbl) (d : decode cc pc = .ok (.ldc_w index, 3)) (k : J G E nL (pc + 3) lv (.int v :: st) M) : J G E nL pc lv st M := fun H locs ls hP hS hl => lv_ldcw X.1 X.2.1 X.2.2.2.1 (X.2.2.2.2.1 _ hc) d (k H locs ls hP hS hl)
theorem j_ldcf (X : CX G E own cc nL rm) {index : Nat} {v : UInt32} (hc : Cond.constantFloat own index v ∈ lw_tbl) (d : decode cc pc = .ok (.ldc index, 2)) (k : J G E nL (pc + 2) lv (.float v :: st) M) : J G E nL pc lv st M := fun H locs ls hP hS hl => lv_ldcf X.1 X.2.1 X.2.2.2.1 (X.2.2.2.2.1 _ hc) d (k H locs ls hP hS hl)
theorem j_ldc2 (X : CX G E own cc nL rm) {index : Nat} {v : Int64} (hc : Cond.constantLong own index v ∈ lw_tbl) (d : decode cc pc = .ok (.ldc2_w index, 3)) (k : J G E nL (pc + 3) lv (.long v :: st) M) : J G E nL pc lv st M := fun H locs ls hP hS hl => lv_ldc2 X.1 X.2.1 X.2.2.2.1 (X.2.2.2.2.1 _ hc) d (k H locs ls hP hS hl)
/-- arrays -/
theorem j_iald (X : CX G E own cc nL rm) {t b n : Nat} {i : Int32} (hm : (t, b) ∈ wl) (hk : kindT t = 1) (hn : lenT t = n) (hin : vp_in i n) (d : decode cc pc = .ok (.iaload, 1)) (k : J G E nL (pc + 1) lv (.int (rd M t b i.toNatClampNeg) :: st) M) : J G E nL pc lv (.int i :: .ref (adr G t b) :: st) M := fun H locs ls hP hS hl => by
  obtain ⟨q0, -, hq⟩ := wld_get (G := G) M hm
  rw [cellF_1 hk, hn] at hq
  exact va_iald X.1 X.2.1 X.2.2.2.2.2.1 hP q0 0 hq rfl hin d (k H locs ls hP hS hl)
theorem j_cald (X : CX G E own cc nL rm) {t b n : Nat} {i : Int32} (hm : (t, b) ∈ wl) (hk : kindT t = 2) (hn : lenT t = n) (hin : vp_in i n) (d : decode cc pc = .ok (.caload, 1)) (k : J G E nL (pc + 1) lv (.int (rd M t b i.toNatClampNeg) :: st) M) : J G E nL pc lv (.int i :: .ref (adr G t b) :: st) M := fun H locs ls hP hS hl => by
  obtain ⟨q0, -, hq⟩ := wld_get (G := G) M hm
  rw [cellF_2 hk, hn] at hq
  exact va_cald X.1 X.2.1 X.2.2.2.2.2.1 hP q0 1 hq rfl hin d (k H locs ls hP hS hl)
theorem j_lald (X : CX G E own cc nL rm) {t b n : Nat} {i : Int32} (hm : (t, b) ∈ wl) (hk : kindT t = 3) (hn : lenT t = n) (hin : vp_in i n) (d : decode cc pc = .ok (.laload, 1)) (k : J G E nL (pc + 1) lv (.long (rdL M i.toNatClampNeg) :: st) M) : J G E nL pc lv (.int i :: .ref (adr G t b) :: st) M := fun H locs ls hP hS hl => by
  obtain ⟨q0, -, hq⟩ := wld_get (G := G) M hm
  rw [cellF_3 hk, hn] at hq
  exact va_lald X.1 X.2.1 X.2.2.2.2.2.1 hP q0 2 hq rfl hin d (k H locs ls hP hS hl)
theorem j_aaldB (X : CX G E own cc nL rm) {t b n : Nat} {i : Int32} (hm : (t, b) ∈ wl) (hk : kindT t = 4) (hn : lenT t = n) (hin : vp_in i n) (d : decode cc pc = .ok (.aaload, 1)) (k : J G E nL (pc + 1) lv (.ref (adr G 0 (2 + i.toNatClampNeg)) :: st) M) : J G E nL pc lv (.int i :: .ref (adr G t b) :: st) M := fun H locs ls hP hS hl => by
  obtain ⟨q0, -, hq⟩ := wld_get (G := G) M hm
  rw [cellF_4 hk, hn] at hq
  exact va_aldq X.1 X.2.1 X.2.2.2.2.2.1 hP q0 3 (C := RX0) hq rfl hin d (k H locs ls hP hS hl)
theorem j_iast (X : CX G E own cc nL rm) {t b n : Nat} {i v : Int32} (hm : (t, b) ∈ wl) (hk : kindT t = 1) (hn : lenT t = n) (hin : vp_in i n) (d : decode cc pc = .ok (.iastore, 1)) (k : J G E nL (pc + 1) lv st (wr M t b i.toNatClampNeg v)) : J G E nL pc lv (.int v :: .int i :: .ref (adr G t b) :: st) M := fun H locs ls hP hS hl => by
  obtain ⟨q0, hw, hq⟩ := wld_get (G := G) M hm
  have hD := X.2.2.2.2.2.2.1 M
  rw [cellF_1 hk, hn] at hq
  refine va_iast X.1 X.2.1 X.2.2.2.2.2.1 hP hD hS q0 0 hq rfl hin d (fun H1 locs1 hP1 _ hS1 => k H1 locs1 ls ?_ hS1 hl)
  rw [wld_wr (j := i.toNatClampNeg) (v := v) hD hw (by rw [cellF_1 hk, hn])] at hP1
  exact hP1
theorem j_cast (X : CX G E own cc nL rm) {t b n : Nat} {i v : Int32} (hm : (t, b) ∈ wl) (hk : kindT t = 2) (hn : lenT t = n) (hin : vp_in i n) (d : decode cc pc = .ok (.castore, 1)) (k : J G E nL (pc + 1) lv st (wr M t b i.toNatClampNeg (vp_nar .char v))) : J G E nL pc lv (.int v :: .int i :: .ref (adr G t b) :: st) M := fun H locs ls hP hS hl => by
  obtain ⟨q0, hw, hq⟩ := wld_get (G := G) M hm
  have hD := X.2.2.2.2.2.2.1 M
  rw [cellF_2 hk, hn] at hq
  refine va_cast X.1 X.2.1 X.2.2.2.2.2.1 hP hD hS q0 1 hq rfl hin d (fun H1 locs1 hP1 _ hS1 => k H1 locs1 ls ?_ hS1 hl)
  rw [wld_wr (j := i.toNatClampNeg) (v := vp_nar .char v) hD hw (by rw [cellF_2 hk, hn])] at hP1
  exact hP1
theorem j_last (X : CX G E own cc nL rm) {n : Nat} {i : Int32} {v : Int64} (hn : lenT 62 = n) (hin : vp_in i n) (d : decode cc pc = .ok (.lastore, 1)) (k : J G E nL (pc + 1) lv st (wrL M i.toNatClampNeg v)) : J G E nL pc lv (.long v :: .int i :: .ref (adr G 62 0) :: st) M := fun H locs ls hP hS hl => by
  obtain ⟨q0, hw, hq⟩ := wld_get (G := G) M (mw62 0 (by decide))
  have hD := X.2.2.2.2.2.2.1 M
  rw [cellF_3 kt62, hn] at hq
  refine va_last X.1 X.2.1 X.2.2.2.2.2.1 hP hD hS q0 2 hq rfl hin d (fun H1 locs1 hP1 _ hS1 => k H1 locs1 ls ?_ hS1 hl)
  rw [wld_wrL (j := i.toNatClampNeg) (v := v) hD hw (by rw [cellF_3 kt62, hn])] at hP1
  exact hP1
theorem j_copy (X : CX G E own cc nL rm) {index t b t2 b2 n0 n1 : Nat} {sp dp n : Int32} (hlink : Cond.methodLink own index arraycopyName ∈ lw_tbl) (hm : (t, b) ∈ wl) (hk : kindT t = 1) (hn0 : lenT t = n0) (hm2 : (t2, b2) ∈ wl) (hk2 : kindT t2 = 1) (hn1 : lenT t2 = n1)
    (h1 : ¬ sp < 0) (h2 : ¬ dp < 0) (h3 : ¬ n < 0) (h4 : sp.toNatClampNeg + n.toNatClampNeg ≤ n0) (h5 : dp.toNatClampNeg + n.toNatClampNeg ≤ n1)
    (hfr : 1 ≤ rm.frames) (hlo : (st.map fun v => v.category).sum + 18 ≤ rm.locals) (d : decode cc pc = .ok (.invokestatic index, 3))
    (k : J G E nL (pc + 3) lv st (wrA M t2 b2 (va_cpy (M.1 t b) (M.1 t2 b2) sp.toNatClampNeg dp.toNatClampNeg n.toNatClampNeg))) : J G E nL pc lv (.int n :: .int dp :: .ref (adr G t2 b2) :: .int sp :: .ref (adr G t b) :: st) M := fun H locs ls hP hS hl => by
  obtain ⟨q0, hw, hq⟩ := wld_get (G := G) M hm
  obtain ⟨q1, hw1, hq1⟩ := wld_get (G := G) M hm2
  have hD := X.2.2.2.2.2.2.1 M
  rw [cellF_1 hk, hn0] at hq
  rw [cellF_1 hk2, hn1] at hq1
  refine va_copyi (own := own) (index := index) X.1 X.2.1 (by rw [X.2.2.1]; exact hl.1.symm) X.2.2.2.1 (X.2.2.2.2.1 _ hlink) (X.2.2.2.2.1 _ (tw (i := 392) (by decide +kernel))) (X.2.2.2.2.1 _ (tw (i := 391) (by decide +kernel))) (X.2.2.2.2.1 _ (tw (i := 79) (by decide +kernel))) X.2.2.2.2.2.1 hP hD hS q0 q1 0 0 (ty := .int) hq hq1 rfl rfl rfl h1 h2 h3 h4 h5 (fun _ _ => rfl) (by rw [X.2.2.2.2.2.2.2.1]; exact hfr) (by rw [X.2.2.2.2.2.2.2.1]; exact hlo) d (fun H1 locs1 hP1 _ hS1 => k H1 locs1 ls ?_ hS1 hl)
  rw [wld_wrA (f := va_cpy (M.1 t b) (M.1 t2 b2) sp.toNatClampNeg dp.toNatClampNeg n.toNatClampNeg) hD hw1 (by rw [cellF_1 hk2, hn1])] at hP1
  exact hP1

theorem j_min (X : CX G E own cc nL rm) {index : Nat} {x y : Int32} (hlink : Cond.methodLink own index Lib.Math.min.name ∈ lw_tbl) (hfr : 1 ≤ rm.frames) (hlo : (st.map fun v => v.category).sum + 13 ≤ rm.locals) (d : decode cc pc = .ok (.invokestatic index, 3)) (k : J G E nL (pc + 3) lv (.int (if y < x then y else x) :: st) M) : J G E nL pc lv (.int y :: .int x :: st) M := fun H locs ls hP hS hl =>
  va_mmin X.1 X.2.1 (by rw [X.2.2.1]; exact hl.1.symm) X.2.2.2.1 (X.2.2.2.2.1 _ hlink) (X.2.2.2.2.1 _ (tw (i := 410) (by decide +kernel))) (X.2.2.2.2.1 _ (tw (i := 80) (by decide +kernel))) (X.2.2.2.2.1 _ (tw (i := 411) (by decide +kernel))) (by rw [X.2.2.2.2.2.2.2.1]; exact hfr) (by rw [X.2.2.2.2.2.2.2.1]; exact hlo) (by rw [X.2.2.2.2.2.2.2.1]; exact X.2.2.2.2.2.2.2.2.1) (by rw [X.2.2.2.2.2.2.2.1]; exact X.2.2.2.2.2.2.2.2.2) d (k H locs ls hP hS hl)
theorem j_max (X : CX G E own cc nL rm) {index : Nat} {x y : Int32} (hlink : Cond.methodLink own index Lib.Math.max.name ∈ lw_tbl) (hfr : 1 ≤ rm.frames) (hlo : (st.map fun v => v.category).sum + 13 ≤ rm.locals) (d : decode cc pc = .ok (.invokestatic index, 3)) (k : J G E nL (pc + 3) lv (.int (if x < y then y else x) :: st) M) : J G E nL pc lv (.int y :: .int x :: st) M := fun H locs ls hP hS hl =>
  va_mmax X.1 X.2.1 (by rw [X.2.2.1]; exact hl.1.symm) X.2.2.2.1 (X.2.2.2.2.1 _ hlink) (X.2.2.2.2.1 _ (tw (i := 619) (by decide +kernel))) (X.2.2.2.2.1 _ (tw (i := 80) (by decide +kernel))) (X.2.2.2.2.1 _ (tw (i := 620) (by decide +kernel))) (by rw [X.2.2.2.2.2.2.2.1]; exact hfr) (by rw [X.2.2.2.2.2.2.2.1]; exact hlo) (by rw [X.2.2.2.2.2.2.2.1]; exact X.2.2.2.2.2.2.2.2.1) (by rw [X.2.2.2.2.2.2.2.1]; exact X.2.2.2.2.2.2.2.2.2) d (k H locs ls hP hS hl)
/-- ends -/
theorem j_iret {P : Int32 → Mm → Prop} {r : Int32} (X : CX G E own cc nL rm) (Y : RX G E (some .int) (va_Qi P (HRx G) (gA G))) (d : decode cc pc = .ok (.ireturn, 1)) (h : P r M) : J G E nL pc lv [.int r] M := fun H locs ls hP hS hl => by
  show W _ _ _ _ _ _ _ _ _ _ _ _ _ _ (eQ E) _
  rw [Y.2.2.1]
  rw [Y.2.2.2] at hS
  exact W.iret X.1 X.2.1 Y.2.1 (fun t ht hW => ⟨⟨r, M, rfl, h, by rw [ht]; exact hP, va_K.moved hW.alike X.2.2.2.2.2.1⟩, hS.F ht⟩) hS.2.2 d Y.1
theorem j_zret {P : Int32 → Mm → Prop} {r : Int32} (X : CX G E own cc nL rm) (Y : RX G E (some .boolean) (va_Qi P (HRx G) (gA G))) (d : decode cc pc = .ok (.ireturn, 1)) (hn : narrow .boolean (.int r) = .int r) (h : P r M) : J G E nL pc lv [.int r] M := fun H locs ls hP hS hl => by
  show W _ _ _ _ _ _ _ _ _ _ _ _ _ _ (eQ E) _
  rw [Y.2.2.1]
  rw [Y.2.2.2] at hS
  exact W.zret X.1 X.2.1 Y.2.1 hn (fun t ht hW => ⟨⟨r, M, rfl, h, by rw [ht]; exact hP, va_K.moved hW.alike X.2.2.2.2.2.1⟩, hS.F ht⟩) hS.2.2 d Y.1
theorem j_fret {P : UInt32 → Mm → Prop} {r : UInt32} (X : CX G E own cc nL rm) (Y : RX G E (some .float) (va_Qf P (HRx G) (gA G))) (d : decode cc pc = .ok (.freturn, 1)) (h : P r M) : J G E nL pc lv [.float r] M := fun H locs ls hP hS hl => by
  show W _ _ _ _ _ _ _ _ _ _ _ _ _ _ (eQ E) _
  rw [Y.2.2.1]
  rw [Y.2.2.2] at hS
  exact W.fret X.1 X.2.1 Y.2.1 (fun t ht hW => ⟨⟨r, M, rfl, h, by rw [ht]; exact hP, va_K.moved hW.alike X.2.2.2.2.2.1⟩, hS.F ht⟩) hS.2.2 d Y.1
theorem j_vret {P : Mm → Prop} (X : CX G E own cc nL rm) (Y : RX G E none (va_Qv P (HRx G) (gA G))) (d : decode cc pc = .ok (.return_, 1)) (h : P M) : J G E nL pc lv [] M := fun H locs ls hP hS hl => by
  show W _ _ _ _ _ _ _ _ _ _ _ _ _ _ (eQ E) _
  rw [Y.2.2.1]
  rw [Y.2.2.2] at hS
  exact W.vret X.1 X.2.1 Y.2.1 (fun t ht hW => ⟨⟨M, rfl, h, by rw [ht]; exact hP, va_K.moved hW.alike X.2.2.2.2.2.1⟩, hS.F ht⟩) hS.2.2 d Y.1
theorem j_aret {P : Nat × Nat → Mm → Prop} {t b : Nat} {ty : FieldType} (X : CX G E own cc nL rm) (Y : RX G E (some (.array ty)) (va_Qr (fun u : (Nat × Nat) × Mm => P u.1 u.2) (fun u a U => a = adr G u.1.1 u.1.2 ∧ HRx G u.2 U) (gA G))) (d : decode cc pc = .ok (.areturn, 1)) (h : P (t, b) M) : J G E nL pc lv [.ref (adr G t b)] M := fun H locs ls hP hS hl => by
  show W _ _ _ _ _ _ _ _ _ _ _ _ _ _ (eQ E) _
  rw [Y.2.2.1]
  rw [Y.2.2.2] at hS
  exact W.aret X.1 X.2.1 Y.2.1 (Or.inr ⟨_, rfl⟩) (Or.inr ⟨_, rfl⟩) (fun t' ht hW => ⟨⟨((t, b), M), _, rfl, h, rfl, by rw [ht]; exact hP, va_K.moved hW.alike X.2.2.2.2.2.1⟩, hS.F ht⟩) hS.2.2 d Y.1
end FRM
/-- a method's contract, by its sheet -/
def MI (l : Launch) (G : GT) (y : MethodName) (cc : ByteArray) (nL : Nat) (ret : Option FieldType) (rm : Room) (vs : List Value) (M : Mm) (P : Int32 → Mm → Prop) : Prop := Met l y (.code y cc nL ret :: lw_tbl) rm (va_Pc vs (HRx G M)) (va_Qi P (HRx G) (gA G)) 0 0 (gA G)
def MF (l : Launch) (G : GT) (y : MethodName) (cc : ByteArray) (nL : Nat) (ret : Option FieldType) (rm : Room) (vs : List Value) (M : Mm) (P : UInt32 → Mm → Prop) : Prop := Met l y (.code y cc nL ret :: lw_tbl) rm (va_Pc vs (HRx G M)) (va_Qf P (HRx G) (gA G)) 0 0 (gA G)
def MV (l : Launch) (G : GT) (y : MethodName) (cc : ByteArray) (nL : Nat) (ret : Option FieldType) (rm : Room) (vs : List Value) (M : Mm) (P : Mm → Prop) : Prop := Met l y (.code y cc nL ret :: lw_tbl) rm (va_Pc vs (HRx G M)) (va_Qv P (HRx G) (gA G)) 0 0 (gA G)
def MR (l : Launch) (G : GT) (y : MethodName) (cc : ByteArray) (nL : Nat) (ret : Option FieldType) (rm : Room) (vs : List Value) (M : Mm) (P : Nat × Nat → Mm → Prop) : Prop := Met l y (.code y cc nL ret :: lw_tbl) rm (va_Pc vs (HRx G M)) (va_Qr (fun u : (Nat × Nat) × Mm => P u.1 u.2) (fun u a U => a = adr G u.1.1 u.1.2 ∧ HRx G u.2 U) (gA G)) 0 0 (gA G)
/-- the addresses are apart, whatever the cells hold -/
def GD (G : GT) : Prop := ∀ M : Mm, va_D (gA G) (wld G M)
theorem met_by {l : Launch} {G : GT} {y : MethodName} {cc : ByteArray} {nL : Nat} {ret : Option FieldType} {rm : Room} {vs : List Value} {M : Mm} {Qc : Array Value → State → Outcome → State → Prop} {own : String} (hG : GD G) (hown : y.cls = own) (hy : plainName y.cls = true) (hlen : (lg_sl vs).length ≤ nL)
    (body : ∀ E : ET, eL E = l → CX G E own cc nL rm → RX G E ret Qc → J G E nL 0 (lv_args 0 vs) [] M) : Met l y (.code y cc nL ret :: lw_tbl) rm (va_Pc vs (HRx G M)) Qc 0 0 (gA G) := by
  refine Met.ofW (cc := cc) (maxL := nL) (ret := ret) hy rfl ?_
  intro p e s m args below meth c s₁ B hml hv
  obtain ⟨rfl, hP, hK⟩ := hv
  have hown2 : s.vm.findClass own = some m.cls := by rw [← hown]; exact findClass_of_methodNamed B.named
  have hts := atoms_spec (ws := .code y cc nL ret :: lw_tbl) B.pre
  rw [lg_entry_eq]
  exact body (p, l, e, (headSpec (.code y cc nL ret :: lw_tbl) rm).room, s, m, vs.toArray, below, meth, c, s.heap, 0, 0, MQ below Qc vs.toArray s 0 0 (gA G)) rfl
    ⟨B.exec, B.bytes, hml, hown2, fun w h => hts w (List.mem_cons_of_mem _ h), hK, hG, rfl, Nat.zero_le _, Nat.zero_le _⟩ ⟨B.notSynchronized, B.returns, rfl, rfl⟩ s.heap [] _ hP va_S.rf (lv_entry vs hlen)
theorem hr_blind {G : GT} {M : Mm} {vs : List Value} : FrameBlind (va_Pc vs (HRx G M)) := fun a U g mk q => by
  obtain ⟨q0, qP, qK⟩ := q
  exact ⟨q0, qP, va_K.moved (u := U) (U := U.calling g mk a) (Vm.Alike.refl U.vm) qK⟩
theorem lw_good : lw_tbl.all goodWord = true := by decide +kernel
theorem good_ws {y : MethodName} {cc : ByteArray} {nL : Nat} {ret : Option FieldType} (h : Cond.code y cc nL ret ∈ lw_tbl) : GoodIn lw_tbl (.code y cc nL ret :: lw_tbl) := by
  intro w hw
  have hm : w ∈ lw_tbl := by
    rcases List.mem_cons.mp hw with rfl | h2
    · exact h
    · exact h2
  exact ⟨hm, good_of_word (List.all_eq_true.mp lw_good w hm)⟩
/-- where two ways meet again, and loops, in a method's sheet -/
def jn {α : Sort _} (rest : α) (tree : α → Prop) : Prop := tree rest
theorem jn1_s {A0 : Type} {rest : A0 → Prop} {tree : (A0 → Prop) → Prop} {goal : Prop} (h : jn rest tree) (G0 : A0 → Prop) (hr : ∀ (a0 : A0), rest a0 → G0 a0) (ht : ∀ R : A0 → Prop, (∀ (a0 : A0), R a0 → G0 a0) → tree R → goal) : goal := ht rest hr h
def lq1 {A0 : Type} (body : (A0 → Prop) → A0 → Prop) : Nat → A0 → Prop
  | 0 => fun _ => False
  | n + 1 => body (lq1 body n)
theorem lq1_s {A0 : Type} {body : (A0 → Prop) → A0 → Prop} {a0 : A0} {goal : Prop} (h : ∃ n, lq1 body n a0) (G0 : A0 → Prop) (hs : ∀ self : A0 → Prop, (∀ (a0 : A0), self a0 → G0 a0) → ∀ (a0 : A0), body self a0 → G0 a0) (hg : G0 a0 → goal) : goal := by
  obtain ⟨n, h⟩ := h
  refine hg ?_
  have key : ∀ n (a0 : A0), lq1 body n a0 → G0 a0 := by
    intro n
    induction n with
    | zero => intro _ h; exact h.elim
    | succ n ih => intro a0 h; exact hs _ ih _ h
  exact key n _ h
theorem lq1_i {A0 : Type} {body : (A0 → Prop) → A0 → Prop} (I : A0 → Prop) (μ : A0 → Nat) (hb : ∀ (a0 : A0), I a0 → ∀ self : A0 → Prop, (∀ (b0 : A0), I b0 → μ b0 < μ a0 → self b0) → body self a0) (a0 : A0) (h0 : I a0) : ∃ n, lq1 body n a0 := by
  have key : ∀ n (a0 : A0), I a0 → μ a0 < n → lq1 body n a0 := by
    intro n
    induction n with
    | zero => intro _ _ h; exact absurd h (Nat.not_lt_zero _)
    | succ n ih => intro a0 hi hm; exact hb a0 hi _ (fun b0 hi2 hm2 => ih b0 hi2 (by omega))
  exact ⟨_, key _ _ h0 (Nat.lt_succ_self _)⟩
theorem jn2_s {A0 A1 : Type} {rest : A0 → A1 → Prop} {tree : (A0 → A1 → Prop) → Prop} {goal : Prop} (h : jn rest tree) (G0 : A0 → A1 → Prop) (hr : ∀ (a0 : A0) (a1 : A1), rest a0 a1 → G0 a0 a1) (ht : ∀ R : A0 → A1 → Prop, (∀ (a0 : A0) (a1 : A1), R a0 a1 → G0 a0 a1) → tree R → goal) : goal := ht rest hr h
def lq2 {A0 A1 : Type} (body : (A0 → A1 → Prop) → A0 → A1 → Prop) : Nat → A0 → A1 → Prop
  | 0 => fun _ _ => False
  | n + 1 => body (lq2 body n)
theorem lq2_s {A0 A1 : Type} {body : (A0 → A1 → Prop) → A0 → A1 → Prop} {a0 : A0} {a1 : A1} {goal : Prop} (h : ∃ n, lq2 body n a0 a1) (G0 : A0 → A1 → Prop) (hs : ∀ self : A0 → A1 → Prop, (∀ (a0 : A0) (a1 : A1), self a0 a1 → G0 a0 a1) → ∀ (a0 : A0) (a1 : A1), body self a0 a1 → G0 a0 a1) (hg : G0 a0 a1 → goal) : goal := by
  obtain ⟨n, h⟩ := h
  refine hg ?_
  have key : ∀ n (a0 : A0) (a1 : A1), lq2 body n a0 a1 → G0 a0 a1 := by
    intro n
    induction n with
    | zero => intro _ _ h; exact h.elim
    | succ n ih => intro a0 a1 h; exact hs _ ih _ _ h
  exact key n _ _ h
theorem lq2_i {A0 A1 : Type} {body : (A0 → A1 → Prop) → A0 → A1 → Prop} (I : A0 → A1 → Prop) (μ : A0 → A1 → Nat) (hb : ∀ (a0 : A0) (a1 : A1), I a0 a1 → ∀ self : A0 → A1 → Prop, (∀ (b0 : A0) (b1 : A1), I b0 b1 → μ b0 b1 < μ a0 a1 → self b0 b1) → body self a0 a1) (a0 : A0) (a1 : A1) (h0 : I a0 a1) : ∃ n, lq2 body n a0 a1 := by
  have key : ∀ n (a0 : A0) (a1 : A1), I a0 a1 → μ a0 a1 < n → lq2 body n a0 a1 := by
    intro n
    induction n with
    | zero => intro _ _ _ h; exact absurd h (Nat.not_lt_zero _)
    | succ n ih => intro a0 a1 hi hm; exact hb a0 a1 hi _ (fun b0 b1 hi2 hm2 => ih b0 b1 hi2 (by omega))
  exact ⟨_, key _ _ _ h0 (Nat.lt_succ_self _)⟩
theorem jn3_s {A0 A1 A2 : Type} {rest : A0 → A1 → A2 → Prop} {tree : (A0 → A1 → A2 → Prop) → Prop} {goal : Prop} (h : jn rest tree) (G0 : A0 → A1 → A2 → Prop) (hr : ∀ (a0 : A0) (a1 : A1) (a2 : A2), rest a0 a1 a2 → G0 a0 a1 a2) (ht : ∀ R : A0 → A1 → A2 → Prop, (∀ (a0 : A0) (a1 : A1) (a2 : A2), R a0 a1 a2 → G0 a0 a1 a2) → tree R → goal) : goal := ht rest hr h
def lq3 {A0 A1 A2 : Type} (body : (A0 → A1 → A2 → Prop) → A0 → A1 → A2 → Prop) : Nat → A0 → A1 → A2 → Prop
  | 0 => fun _ _ _ => False
  | n + 1 => body (lq3 body n)
theorem lq3_s {A0 A1 A2 : Type} {body : (A0 → A1 → A2 → Prop) → A0 → A1 → A2 → Prop} {a0 : A0} {a1 : A1} {a2 : A2} {goal : Prop} (h : ∃ n, lq3 body n a0 a1 a2) (G0 : A0 → A1 → A2 → Prop) (hs : ∀ self : A0 → A1 → A2 → Prop, (∀ (a0 : A0) (a1 : A1) (a2 : A2), self a0 a1 a2 → G0 a0 a1 a2) → ∀ (a0 : A0) (a1 : A1) (a2 : A2), body self a0 a1 a2 → G0 a0 a1 a2) (hg : G0 a0 a1 a2 → goal) : goal := by
  obtain ⟨n, h⟩ := h
  refine hg ?_
  have key : ∀ n (a0 : A0) (a1 : A1) (a2 : A2), lq3 body n a0 a1 a2 → G0 a0 a1 a2 := by
    intro n
    induction n with
    | zero => intro _ _ _ h; exact h.elim
    | succ n ih => intro a0 a1 a2 h; exact hs _ ih _ _ _ h
  exact key n _ _ _ h
theorem lq3_i {A0 A1 A2 : Type} {body : (A0 → A1 → A2 → Prop) → A0 → A1 → A2 → Prop} (I : A0 → A1 → A2 → Prop) (μ : A0 → A1 → A2 → Nat) (hb : ∀ (a0 : A0) (a1 : A1) (a2 : A2), I a0 a1 a2 → ∀ self : A0 → A1 → A2 → Prop, (∀ (b0 : A0) (b1 : A1) (b2 : A2), I b0 b1 b2 → μ b0 b1 b2 < μ a0 a1 a2 → self b0 b1 b2) → body self a0 a1 a2) (a0 : A0) (a1 : A1) (a2 : A2) (h0 : I a0 a1 a2) : ∃ n, lq3 body n a0 a1 a2 := by
  have key : ∀ n (a0 : A0) (a1 : A1) (a2 : A2), I a0 a1 a2 → μ a0 a1 a2 < n → lq3 body n a0 a1 a2 := by
    intro n
    induction n with
    | zero => intro _ _ _ _ h; exact absurd h (Nat.not_lt_zero _)
    | succ n ih => intro a0 a1 a2 hi hm; exact hb a0 a1 a2 hi _ (fun b0 b1 b2 hi2 hm2 => ih b0 b1 b2 hi2 (by omega))
  exact ⟨_, key _ _ _ _ h0 (Nat.lt_succ_self _)⟩
theorem jn4_s {A0 A1 A2 A3 : Type} {rest : A0 → A1 → A2 → A3 → Prop} {tree : (A0 → A1 → A2 → A3 → Prop) → Prop} {goal : Prop} (h : jn rest tree) (G0 : A0 → A1 → A2 → A3 → Prop) (hr : ∀ (a0 : A0) (a1 : A1) (a2 : A2) (a3 : A3), rest a0 a1 a2 a3 → G0 a0 a1 a2 a3) (ht : ∀ R : A0 → A1 → A2 → A3 → Prop, (∀ (a0 : A0) (a1 : A1) (a2 : A2) (a3 : A3), R a0 a1 a2 a3 → G0 a0 a1 a2 a3) → tree R → goal) : goal := ht rest hr h
def lq4 {A0 A1 A2 A3 : Type} (body : (A0 → A1 → A2 → A3 → Prop) → A0 → A1 → A2 → A3 → Prop) : Nat → A0 → A1 → A2 → A3 → Prop
  | 0 => fun _ _ _ _ => False
  | n + 1 => body (lq4 body n)
theorem lq4_s {A0 A1 A2 A3 : Type} {body : (A0 → A1 → A2 → A3 → Prop) → A0 → A1 → A2 → A3 → Prop} {a0 : A0} {a1 : A1} {a2 : A2} {a3 : A3} {goal : Prop} (h : ∃ n, lq4 body n a0 a1 a2 a3) (G0 : A0 → A1 → A2 → A3 → Prop) (hs : ∀ self : A0 → A1 → A2 → A3 → Prop, (∀ (a0 : A0) (a1 : A1) (a2 : A2) (a3 : A3), self a0 a1 a2 a3 → G0 a0 a1 a2 a3) → ∀ (a0 : A0) (a1 : A1) (a2 : A2) (a3 : A3), body self a0 a1 a2 a3 → G0 a0 a1 a2 a3) (hg : G0 a0 a1 a2 a3 → goal) : goal := by
  obtain ⟨n, h⟩ := h
  refine hg ?_
  have key : ∀ n (a0 : A0) (a1 : A1) (a2 : A2) (a3 : A3), lq4 body n a0 a1 a2 a3 → G0 a0 a1 a2 a3 := by
    intro n
    induction n with
    | zero => intro _ _ _ _ h; exact h.elim
    | succ n ih => intro a0 a1 a2 a3 h; exact hs _ ih _ _ _ _ h
  exact key n _ _ _ _ h
theorem lq4_i {A0 A1 A2 A3 : Type} {body : (A0 → A1 → A2 → A3 → Prop) → A0 → A1 → A2 → A3 → Prop} (I : A0 → A1 → A2 → A3 → Prop) (μ : A0 → A1 → A2 → A3 → Nat) (hb : ∀ (a0 : A0) (a1 : A1) (a2 : A2) (a3 : A3), I a0 a1 a2 a3 → ∀ self : A0 → A1 → A2 → A3 → Prop, (∀ (b0 : A0) (b1 : A1) (b2 : A2) (b3 : A3), I b0 b1 b2 b3 → μ b0 b1 b2 b3 < μ a0 a1 a2 a3 → self b0 b1 b2 b3) → body self a0 a1 a2 a3) (a0 : A0) (a1 : A1) (a2 : A2) (a3 : A3) (h0 : I a0 a1 a2 a3) : ∃ n, lq4 body n a0 a1 a2 a3 := by
  have key : ∀ n (a0 : A0) (a1 : A1) (a2 : A2) (a3 : A3), I a0 a1 a2 a3 → μ a0 a1 a2 a3 < n → lq4 body n a0 a1 a2 a3 := by
    intro n
    induction n with
    | zero => intro _ _ _ _ _ h; exact absurd h (Nat.not_lt_zero _)
    | succ n ih => intro a0 a1 a2 a3 hi hm; exact hb a0 a1 a2 a3 hi _ (fun b0 b1 b2 b3 hi2 hm2 => ih b0 b1 b2 b3 hi2 (by omega))
  exact ⟨_, key _ _ _ _ _ h0 (Nat.lt_succ_self _)⟩
theorem jn5_s {A0 A1 A2 A3 A4 : Type} {rest : A0 → A1 → A2 → A3 → A4 → Prop} {tree : (A0 → A1 → A2 → A3 → A4 → Prop) → Prop} {goal : Prop} (h : jn rest tree) (G0 : A0 → A1 → A2 → A3 → A4 → Prop) (hr : ∀ (a0 : A0) (a1 : A1) (a2 : A2) (a3 : A3) (a4 : A4), rest a0 a1 a2 a3 a4 → G0 a0 a1 a2 a3 a4) (ht : ∀ R : A0 → A1 → A2 → A3 → A4 → Prop, (∀ (a0 : A0) (a1 : A1) (a2 : A2) (a3 : A3) (a4 : A4), R a0 a1 a2 a3 a4 → G0 a0 a1 a2 a3 a4) → tree R → goal) : goal := ht rest hr h
def lq5 {A0 A1 A2 A3 A4 : Type} (body : (A0 → A1 → A2 → A3 → A4 → Prop) → A0 → A1 → A2 → A3 → A4 → Prop) : Nat → A0 → A1 → A2 → A3 → A4 → Prop
  | 0 => fun _ _ _ _ _ => False
  | n + 1 => body (lq5 body n)
theorem lq5_s {A0 A1 A2 A3 A4 : Type} {body : (A0 → A1 → A2 → A3 → A4 → Prop) → A0 → A1 → A2 → A3 → A4 → Prop} {a0 : A0} {a1 : A1} {a2 : A2} {a3 : A3} {a4 : A4} {goal : Prop} (h : ∃ n, lq5 body n a0 a1 a2 a3 a4) (G0 : A0 → A1 → A2 → A3 → A4 → Prop) (hs : ∀ self : A0 → A1 → A2 → A3 → A4 → Prop, (∀ (a0 : A0) (a1 : A1) (a2 : A2) (a3 : A3) (a4 : A4), self a0 a1 a2 a3 a4 → G0 a0 a1 a2 a3 a4) → ∀ (a0 : A0) (a1 : A1) (a2 : A2) (a3 : A3) (a4 : A4), body self a0 a1 a2 a3 a4 → G0 a0 a1 a2 a3 a4) (hg : G0 a0 a1 a2 a3 a4 → goal) : goal := by
  obtain ⟨n, h⟩ := h
  refine hg ?_
  have key : ∀ n (a0 : A0) (a1 : A1) (a2 : A2) (a3 : A3) (a4 : A4), lq5 body n a0 a1 a2 a3 a4 → G0 a0 a1 a2 a3 a4 := by
    intro n
    induction n with
    | zero => intro _ _ _ _ _ h; exact h.elim
    | succ n ih => intro a0 a1 a2 a3 a4 h; exact hs _ ih _ _ _ _ _ h
  exact key n _ _ _ _ _ h
theorem lq5_i {A0 A1 A2 A3 A4 : Type} {body : (A0 → A1 → A2 → A3 → A4 → Prop) → A0 → A1 → A2 → A3 → A4 → Prop} (I : A0 → A1 → A2 → A3 → A4 → Prop) (μ : A0 → A1 → A2 → A3 → A4 → Nat) (hb : ∀ (a0 : A0) (a1 : A1) (a2 : A2) (a3 : A3) (a4 : A4), I a0 a1 a2 a3 a4 → ∀ self : A0 → A1 → A2 → A3 → A4 → Prop, (∀ (b0 : A0) (b1 : A1) (b2 : A2) (b3 : A3) (b4 : A4), I b0 b1 b2 b3 b4 → μ b0 b1 b2 b3 b4 < μ a0 a1 a2 a3 a4 → self b0 b1 b2 b3 b4) → body self a0 a1 a2 a3 a4) (a0 : A0) (a1 : A1) (a2 : A2) (a3 : A3) (a4 : A4) (h0 : I a0 a1 a2 a3 a4) : ∃ n, lq5 body n a0 a1 a2 a3 a4 := by
  have key : ∀ n (a0 : A0) (a1 : A1) (a2 : A2) (a3 : A3) (a4 : A4), I a0 a1 a2 a3 a4 → μ a0 a1 a2 a3 a4 < n → lq5 body n a0 a1 a2 a3 a4 := by
    intro n
    induction n with
    | zero => intro _ _ _ _ _ _ h; exact absurd h (Nat.not_lt_zero _)
    | succ n ih => intro a0 a1 a2 a3 a4 hi hm; exact hb a0 a1 a2 a3 a4 hi _ (fun b0 b1 b2 b3 b4 hi2 hm2 => ih b0 b1 b2 b3 b4 hi2 (by omega))
  exact ⟨_, key _ _ _ _ _ _ h0 (Nat.lt_succ_self _)⟩
theorem jn6_s {A0 A1 A2 A3 A4 A5 : Type} {rest : A0 → A1 → A2 → A3 → A4 → A5 → Prop} {tree : (A0 → A1 → A2 → A3 → A4 → A5 → Prop) → Prop} {goal : Prop} (h : jn rest tree) (G0 : A0 → A1 → A2 → A3 → A4 → A5 → Prop) (hr : ∀ (a0 : A0) (a1 : A1) (a2 : A2) (a3 : A3) (a4 : A4) (a5 : A5), rest a0 a1 a2 a3 a4 a5 → G0 a0 a1 a2 a3 a4 a5) (ht : ∀ R : A0 → A1 → A2 → A3 → A4 → A5 → Prop, (∀ (a0 : A0) (a1 : A1) (a2 : A2) (a3 : A3) (a4 : A4) (a5 : A5), R a0 a1 a2 a3 a4 a5 → G0 a0 a1 a2 a3 a4 a5) → tree R → goal) : goal := ht rest hr h
def lq6 {A0 A1 A2 A3 A4 A5 : Type} (body : (A0 → A1 → A2 → A3 → A4 → A5 → Prop) → A0 → A1 → A2 → A3 → A4 → A5 → Prop) : Nat → A0 → A1 → A2 → A3 → A4 → A5 → Prop
  | 0 => fun _ _ _ _ _ _ => False
  | n + 1 => body (lq6 body n)
theorem lq6_s {A0 A1 A2 A3 A4 A5 : Type} {body : (A0 → A1 → A2 → A3 → A4 → A5 → Prop) → A0 → A1 → A2 → A3 → A4 → A5 → Prop} {a0 : A0} {a1 : A1} {a2 : A2} {a3 : A3} {a4 : A4} {a5 : A5} {goal : Prop} (h : ∃ n, lq6 body n a0 a1 a2 a3 a4 a5) (G0 : A0 → A1 → A2 → A3 → A4 → A5 → Prop) (hs : ∀ self : A0 → A1 → A2 → A3 → A4 → A5 → Prop, (∀ (a0 : A0) (a1 : A1) (a2 : A2) (a3 : A3) (a4 : A4) (a5 : A5), self a0 a1 a2 a3 a4 a5 → G0 a0 a1 a2 a3 a4 a5) → ∀ (a0 : A0) (a1 : A1) (a2 : A2) (a3 : A3) (a4 : A4) (a5 : A5), body self a0 a1 a2 a3 a4 a5 → G0 a0 a1 a2 a3 a4 a5) (hg : G0 a0 a1 a2 a3 a4 a5 → goal) : goal := by
  obtain ⟨n, h⟩ := h
  refine hg ?_
  have key : ∀ n (a0 : A0) (a1 : A1) (a2 : A2) (a3 : A3) (a4 : A4) (a5 : A5), lq6 body n a0 a1 a2 a3 a4 a5 → G0 a0 a1 a2 a3 a4 a5 := by
    intro n
    induction n with
    | zero => intro _ _ _ _ _ _ h; exact h.elim
    | succ n ih => intro a0 a1 a2 a3 a4 a5 h; exact hs _ ih _ _ _ _ _ _ h
  exact key n _ _ _ _ _ _ h
theorem lq6_i {A0 A1 A2 A3 A4 A5 : Type} {body : (A0 → A1 → A2 → A3 → A4 → A5 → Prop) → A0 → A1 → A2 → A3 → A4 → A5 → Prop} (I : A0 → A1 → A2 → A3 → A4 → A5 → Prop) (μ : A0 → A1 → A2 → A3 → A4 → A5 → Nat) (hb : ∀ (a0 : A0) (a1 : A1) (a2 : A2) (a3 : A3) (a4 : A4) (a5 : A5), I a0 a1 a2 a3 a4 a5 → ∀ self : A0 → A1 → A2 → A3 → A4 → A5 → Prop, (∀ (b0 : A0) (b1 : A1) (b2 : A2) (b3 : A3) (b4 : A4) (b5 : A5), I b0 b1 b2 b3 b4 b5 → μ b0 b1 b2 b3 b4 b5 < μ a0 a1 a2 a3 a4 a5 → self b0 b1 b2 b3 b4 b5) → body self a0 a1 a2 a3 a4 a5) (a0 : A0) (a1 : A1) (a2 : A2) (a3 : A3) (a4 : A4) (a5 : A5) (h0 : I a0 a1 a2 a3 a4 a5) : ∃ n, lq6 body n a0 a1 a2 a3 a4 a5 := by
  have key : ∀ n (a0 : A0) (a1 : A1) (a2 : A2) (a3 : A3) (a4 : A4) (a5 : A5), I a0 a1 a2 a3 a4 a5 → μ a0 a1 a2 a3 a4 a5 < n → lq6 body n a0 a1 a2 a3 a4 a5 := by
    intro n
    induction n with
    | zero => intro _ _ _ _ _ _ _ h; exact absurd h (Nat.not_lt_zero _)
    | succ n ih => intro a0 a1 a2 a3 a4 a5 hi hm; exact hb a0 a1 a2 a3 a4 a5 hi _ (fun b0 b1 b2 b3 b4 b5 hi2 hm2 => ih b0 b1 b2 b3 b4 b5 hi2 (by omega))
  exact ⟨_, key _ _ _ _ _ _ _ h0 (Nat.lt_succ_self _)⟩
def lq7 {A0 A1 A2 A3 A4 A5 A6 : Type} (body : (A0 → A1 → A2 → A3 → A4 → A5 → A6 → Prop) → A0 → A1 → A2 → A3 → A4 → A5 → A6 → Prop) : Nat → A0 → A1 → A2 → A3 → A4 → A5 → A6 → Prop
  | 0 => fun _ _ _ _ _ _ _ => False
  | n + 1 => body (lq7 body n)
theorem lq7_s {A0 A1 A2 A3 A4 A5 A6 : Type} {body : (A0 → A1 → A2 → A3 → A4 → A5 → A6 → Prop) → A0 → A1 → A2 → A3 → A4 → A5 → A6 → Prop} {a0 : A0} {a1 : A1} {a2 : A2} {a3 : A3} {a4 : A4} {a5 : A5} {a6 : A6} {goal : Prop} (h : ∃ n, lq7 body n a0 a1 a2 a3 a4 a5 a6) (G0 : A0 → A1 → A2 → A3 → A4 → A5 → A6 → Prop) (hs : ∀ self : A0 → A1 → A2 → A3 → A4 → A5 → A6 → Prop, (∀ (a0 : A0) (a1 : A1) (a2 : A2) (a3 : A3) (a4 : A4) (a5 : A5) (a6 : A6), self a0 a1 a2 a3 a4 a5 a6 → G0 a0 a1 a2 a3 a4 a5 a6) → ∀ (a0 : A0) (a1 : A1) (a2 : A2) (a3 : A3) (a4 : A4) (a5 : A5) (a6 : A6), body self a0 a1 a2 a3 a4 a5 a6 → G0 a0 a1 a2 a3 a4 a5 a6) (hg : G0 a0 a1 a2 a3 a4 a5 a6 → goal) : goal := by
  obtain ⟨n, h⟩ := h
  refine hg ?_
  have key : ∀ n (a0 : A0) (a1 : A1) (a2 : A2) (a3 : A3) (a4 : A4) (a5 : A5) (a6 : A6), lq7 body n a0 a1 a2 a3 a4 a5 a6 → G0 a0 a1 a2 a3 a4 a5 a6 := by
    intro n
    induction n with
    | zero => intro _ _ _ _ _ _ _ h; exact h.elim
    | succ n ih => intro a0 a1 a2 a3 a4 a5 a6 h; exact hs _ ih _ _ _ _ _ _ _ h
  exact key n _ _ _ _ _ _ _ h
theorem lq7_i {A0 A1 A2 A3 A4 A5 A6 : Type} {body : (A0 → A1 → A2 → A3 → A4 → A5 → A6 → Prop) → A0 → A1 → A2 → A3 → A4 → A5 → A6 → Prop} (I : A0 → A1 → A2 → A3 → A4 → A5 → A6 → Prop) (μ : A0 → A1 → A2 → A3 → A4 → A5 → A6 → Nat) (hb : ∀ (a0 : A0) (a1 : A1) (a2 : A2) (a3 : A3) (a4 : A4) (a5 : A5) (a6 : A6), I a0 a1 a2 a3 a4 a5 a6 → ∀ self : A0 → A1 → A2 → A3 → A4 → A5 → A6 → Prop, (∀ (b0 : A0) (b1 : A1) (b2 : A2) (b3 : A3) (b4 : A4) (b5 : A5) (b6 : A6), I b0 b1 b2 b3 b4 b5 b6 → μ b0 b1 b2 b3 b4 b5 b6 < μ a0 a1 a2 a3 a4 a5 a6 → self b0 b1 b2 b3 b4 b5 b6) → body self a0 a1 a2 a3 a4 a5 a6) (a0 : A0) (a1 : A1) (a2 : A2) (a3 : A3) (a4 : A4) (a5 : A5) (a6 : A6) (h0 : I a0 a1 a2 a3 a4 a5 a6) : ∃ n, lq7 body n a0 a1 a2 a3 a4 a5 a6 := by
  have key : ∀ n (a0 : A0) (a1 : A1) (a2 : A2) (a3 : A3) (a4 : A4) (a5 : A5) (a6 : A6), I a0 a1 a2 a3 a4 a5 a6 → μ a0 a1 a2 a3 a4 a5 a6 < n → lq7 body n a0 a1 a2 a3 a4 a5 a6 := by
    intro n
    induction n with
    | zero => intro _ _ _ _ _ _ _ _ h; exact absurd h (Nat.not_lt_zero _)
    | succ n ih => intro a0 a1 a2 a3 a4 a5 a6 hi hm; exact hb a0 a1 a2 a3 a4 a5 a6 hi _ (fun b0 b1 b2 b3 b4 b5 b6 hi2 hm2 => ih b0 b1 b2 b3 b4 b5 b6 hi2 (by omega))
  exact ⟨_, key _ _ _ _ _ _ _ _ h0 (Nat.lt_succ_self _)⟩
def lq8 {A0 A1 A2 A3 A4 A5 A6 A7 : Type} (body : (A0 → A1 → A2 → A3 → A4 → A5 → A6 → A7 → Prop) → A0 → A1 → A2 → A3 → A4 → A5 → A6 → A7 → Prop) : Nat → A0 → A1 → A2 → A3 → A4 → A5 → A6 → A7 → Prop
  | 0 => fun _ _ _ _ _ _ _ _ => False
  | n + 1 => body (lq8 body n)
theorem lq8_s {A0 A1 A2 A3 A4 A5 A6 A7 : Type} {body : (A0 → A1 → A2 → A3 → A4 → A5 → A6 → A7 → Prop) → A0 → A1 → A2 → A3 → A4 → A5 → A6 → A7 → Prop} {a0 : A0} {a1 : A1} {a2 : A2} {a3 : A3} {a4 : A4} {a5 : A5} {a6 : A6} {a7 : A7} {goal : Prop} (h : ∃ n, lq8 body n a0 a1 a2 a3 a4 a5 a6 a7) (G0 : A0 → A1 → A2 → A3 → A4 → A5 → A6 → A7 → Prop) (hs : ∀ self : A0 → A1 → A2 → A3 → A4 → A5 → A6 → A7 → Prop, (∀ (a0 : A0) (a1 : A1) (a2 : A2) (a3 : A3) (a4 : A4) (a5 : A5) (a6 : A6) (a7 : A7), self a0 a1 a2 a3 a4 a5 a6 a7 → G0 a0 a1 a2 a3 a4 a5 a6 a7) → ∀ (a0 : A0) (a1 : A1) (a2 : A2) (a3 : A3) (a4 : A4) (a5 : A5) (a6 : A6) (a7 : A7), body self a0 a1 a2 a3 a4 a5 a6 a7 → G0 a0 a1 a2 a3 a4 a5 a6 a7) (hg : G0 a0 a1 a2 a3 a4 a5 a6 a7 → goal) : goal := by
  obtain ⟨n, h⟩ := h
  refine hg ?_
  have key : ∀ n (a0 : A0) (a1 : A1) (a2 : A2) (a3 : A3) (a4 : A4) (a5 : A5) (a6 : A6) (a7 : A7), lq8 body n a0 a1 a2 a3 a4 a5 a6 a7 → G0 a0 a1 a2 a3 a4 a5 a6 a7 := by
    intro n
    induction n with
    | zero => intro _ _ _ _ _ _ _ _ h; exact h.elim
    | succ n ih => intro a0 a1 a2 a3 a4 a5 a6 a7 h; exact hs _ ih _ _ _ _ _ _ _ _ h
  exact key n _ _ _ _ _ _ _ _ h
theorem lq8_i {A0 A1 A2 A3 A4 A5 A6 A7 : Type} {body : (A0 → A1 → A2 → A3 → A4 → A5 → A6 → A7 → Prop) → A0 → A1 → A2 → A3 → A4 → A5 → A6 → A7 → Prop} (I : A0 → A1 → A2 → A3 → A4 → A5 → A6 → A7 → Prop) (μ : A0 → A1 → A2 → A3 → A4 → A5 → A6 → A7 → Nat) (hb : ∀ (a0 : A0) (a1 : A1) (a2 : A2) (a3 : A3) (a4 : A4) (a5 : A5) (a6 : A6) (a7 : A7), I a0 a1 a2 a3 a4 a5 a6 a7 → ∀ self : A0 → A1 → A2 → A3 → A4 → A5 → A6 → A7 → Prop, (∀ (b0 : A0) (b1 : A1) (b2 : A2) (b3 : A3) (b4 : A4) (b5 : A5) (b6 : A6) (b7 : A7), I b0 b1 b2 b3 b4 b5 b6 b7 → μ b0 b1 b2 b3 b4 b5 b6 b7 < μ a0 a1 a2 a3 a4 a5 a6 a7 → self b0 b1 b2 b3 b4 b5 b6 b7) → body self a0 a1 a2 a3 a4 a5 a6 a7) (a0 : A0) (a1 : A1) (a2 : A2) (a3 : A3) (a4 : A4) (a5 : A5) (a6 : A6) (a7 : A7) (h0 : I a0 a1 a2 a3 a4 a5 a6 a7) : ∃ n, lq8 body n a0 a1 a2 a3 a4 a5 a6 a7 := by
  have key : ∀ n (a0 : A0) (a1 : A1) (a2 : A2) (a3 : A3) (a4 : A4) (a5 : A5) (a6 : A6) (a7 : A7), I a0 a1 a2 a3 a4 a5 a6 a7 → μ a0 a1 a2 a3 a4 a5 a6 a7 < n → lq8 body n a0 a1 a2 a3 a4 a5 a6 a7 := by
    intro n
    induction n with
    | zero => intro _ _ _ _ _ _ _ _ _ h; exact absurd h (Nat.not_lt_zero _)
    | succ n ih => intro a0 a1 a2 a3 a4 a5 a6 a7 hi hm; exact hb a0 a1 a2 a3 a4 a5 a6 a7 hi _ (fun b0 b1 b2 b3 b4 b5 b6 b7 hi2 hm2 => ih b0 b1 b2 b3 b4 b5 b6 b7 hi2 (by omega))
  exact ⟨_, key _ _ _ _ _ _ _ _ _ h0 (Nat.lt_succ_self _)⟩
def lq9 {A0 A1 A2 A3 A4 A5 A6 A7 A8 : Type} (body : (A0 → A1 → A2 → A3 → A4 → A5 → A6 → A7 → A8 → Prop) → A0 → A1 → A2 → A3 → A4 → A5 → A6 → A7 → A8 → Prop) : Nat → A0 → A1 → A2 → A3 → A4 → A5 → A6 → A7 → A8 → Prop
  | 0 => fun _ _ _ _ _ _ _ _ _ => False
  | n + 1 => body (lq9 body n)
theorem lq9_s {A0 A1 A2 A3 A4 A5 A6 A7 A8 : Type} {body : (A0 → A1 → A2 → A3 → A4 → A5 → A6 → A7 → A8 → Prop) → A0 → A1 → A2 → A3 → A4 → A5 → A6 → A7 → A8 → Prop} {a0 : A0} {a1 : A1} {a2 : A2} {a3 : A3} {a4 : A4} {a5 : A5} {a6 : A6} {a7 : A7} {a8 : A8} {goal : Prop} (h : ∃ n, lq9 body n a0 a1 a2 a3 a4 a5 a6 a7 a8) (G0 : A0 → A1 → A2 → A3 → A4 → A5 → A6 → A7 → A8 → Prop) (hs : ∀ self : A0 → A1 → A2 → A3 → A4 → A5 → A6 → A7 → A8 → Prop, (∀ (a0 : A0) (a1 : A1) (a2 : A2) (a3 : A3) (a4 : A4) (a5 : A5) (a6 : A6) (a7 : A7) (a8 : A8), self a0 a1 a2 a3 a4 a5 a6 a7 a8 → G0 a0 a1 a2 a3 a4 a5 a6 a7 a8) → ∀ (a0 : A0) (a1 : A1) (a2 : A2) (a3 : A3) (a4 : A4) (a5 : A5) (a6 : A6) (a7 : A7) (a8 : A8), body self a0 a1 a2 a3 a4 a5 a6 a7 a8 → G0 a0 a1 a2 a3 a4 a5 a6 a7 a8) (hg : G0 a0 a1 a2 a3 a4 a5 a6 a7 a8 → goal) : goal := by
  obtain ⟨n, h⟩ := h
  refine hg ?_
  have key : ∀ n (a0 : A0) (a1 : A1) (a2 : A2) (a3 : A3) (a4 : A4) (a5 : A5) (a6 : A6) (a7 : A7) (a8 : A8), lq9 body n a0 a1 a2 a3 a4 a5 a6 a7 a8 → G0 a0 a1 a2 a3 a4 a5 a6 a7 a8 := by
    intro n
    induction n with
    | zero => intro _ _ _ _ _ _ _ _ _ h; exact h.elim
    | succ n ih => intro a0 a1 a2 a3 a4 a5 a6 a7 a8 h; exact hs _ ih _ _ _ _ _ _ _ _ _ h
  exact key n _ _ _ _ _ _ _ _ _ h
theorem lq9_i {A0 A1 A2 A3 A4 A5 A6 A7 A8 : Type} {body : (A0 → A1 → A2 → A3 → A4 → A5 → A6 → A7 → A8 → Prop) → A0 → A1 → A2 → A3 → A4 → A5 → A6 → A7 → A8 → Prop} (I : A0 → A1 → A2 → A3 → A4 → A5 → A6 → A7 → A8 → Prop) (μ : A0 → A1 → A2 → A3 → A4 → A5 → A6 → A7 → A8 → Nat) (hb : ∀ (a0 : A0) (a1 : A1) (a2 : A2) (a3 : A3) (a4 : A4) (a5 : A5) (a6 : A6) (a7 : A7) (a8 : A8), I a0 a1 a2 a3 a4 a5 a6 a7 a8 → ∀ self : A0 → A1 → A2 → A3 → A4 → A5 → A6 → A7 → A8 → Prop, (∀ (b0 : A0) (b1 : A1) (b2 : A2) (b3 : A3) (b4 : A4) (b5 : A5) (b6 : A6) (b7 : A7) (b8 : A8), I b0 b1 b2 b3 b4 b5 b6 b7 b8 → μ b0 b1 b2 b3 b4 b5 b6 b7 b8 < μ a0 a1 a2 a3 a4 a5 a6 a7 a8 → self b0 b1 b2 b3 b4 b5 b6 b7 b8) → body self a0 a1 a2 a3 a4 a5 a6 a7 a8) (a0 : A0) (a1 : A1) (a2 : A2) (a3 : A3) (a4 : A4) (a5 : A5) (a6 : A6) (a7 : A7) (a8 : A8) (h0 : I a0 a1 a2 a3 a4 a5 a6 a7 a8) : ∃ n, lq9 body n a0 a1 a2 a3 a4 a5 a6 a7 a8 := by
  have key : ∀ n (a0 : A0) (a1 : A1) (a2 : A2) (a3 : A3) (a4 : A4) (a5 : A5) (a6 : A6) (a7 : A7) (a8 : A8), I a0 a1 a2 a3 a4 a5 a6 a7 a8 → μ a0 a1 a2 a3 a4 a5 a6 a7 a8 < n → lq9 body n a0 a1 a2 a3 a4 a5 a6 a7 a8 := by
    intro n
    induction n with
    | zero => intro _ _ _ _ _ _ _ _ _ _ h; exact absurd h (Nat.not_lt_zero _)
    | succ n ih => intro a0 a1 a2 a3 a4 a5 a6 a7 a8 hi hm; exact hb a0 a1 a2 a3 a4 a5 a6 a7 a8 hi _ (fun b0 b1 b2 b3 b4 b5 b6 b7 b8 hi2 hm2 => ih b0 b1 b2 b3 b4 b5 b6 b7 b8 hi2 (by omega))
  exact ⟨_, key _ _ _ _ _ _ _ _ _ _ h0 (Nat.lt_succ_self _)⟩
