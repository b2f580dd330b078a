/-! THE CONSTRUCTORS: rows over worlds that grow -/
def OV (ty : FieldType) (U : State) : Prop := (Cond.arrayOver ty).before #[] U = true
theorem OV.al {ty : FieldType} {u U : State} (h : u.vm.Alike U.vm) (k : OV ty u) : OV ty U := (Cond.arrayOver_setVmC (args := (#[] : Array Value)) h ty).trans k
theorem OV.use {ty : FieldType} {U : State} {A : Array Value} (k : OV ty U) : (Cond.arrayOver ty).before A U = true := k
def KC (G : GT) (U : State) : Prop := KK G U ∧ OV (.array .int) U ∧ OV (.object RX0) U
theorem KC.warm {G : GT} {u U : State} (hW : u.WarmedH U.vm) (h : KC G u) : KC G U := ⟨KK.warm hW h.1, h.2.1.al hW.alike, h.2.2.al hW.alike⟩
theorem KC.same {G : GT} {u U : State} (hv : u.vm = U.vm) (h : KC G u) : KC G U := ⟨KK.same hv h.1, h.2.1.al (by rw [← hv]; exact Vm.Alike.refl _), h.2.2.al (by rw [← hv]; exact Vm.Alike.refl _)⟩
def NX (G : GT) (A : Addr → Prop) (E : ET) (own : String) (cc : ByteArray) (nL : Nat) (rm : Room) : Prop :=
  (eP E).tables.exec = Jvm.exec ∧ (eC E).code = cc ∧ (eC E).maxLocals = nL ∧ (eS E).vm.findClass own = some (eM E).cls ∧ (∀ w ∈ lw_aw, w.before (eArgs E) (eS E) = true) ∧
  KC G (eS E) ∧ (∀ q : Nat, (eH0 E).size ≤ q → A q) ∧ eR E = rm
def NJ (G : GT) (A : Addr → Prop) (E : ET) (nL pc : Nat) (lv : List (Nat × Value)) (st : List Value) (ws : va_W) (kc ks : Nat) : Prop :=
  ∀ (H : Heap) (locs : List Loc) (ls : Array Slot), va_P G.1 vwCl ws H → va_D A ws → va_S A (eH0 E) H locs → lv_has ls nL lv → W (eP E) (eL E) (eE E) (eR E) (eS E) (eM E) (eArgs E) (eBelow E) (eMeth E) (eC E) H locs kc ks (eQ E) (F0 (eM E) pc ls st)
def zI (G : GT) (n : Nat) (f : Nat → Int32) : va_E := .inl (gcy G 0, n, .inl f)
def zC (G : GT) (n : Nat) (f : Nat → Int32) : va_E := .inl (gcy G 1, n, .inl f)
def zL (G : GT) (n : Nat) (f : Nat → Int64) : va_E := .inl (gcy G 2, n, .inr (.inl f))
def zB (G : GT) (n : Nat) (f : Nat → Option Nat) : va_E := .inl (gcy G 3, n, .inr (.inr (.inr (.inr f))))
def zR (G : GT) (n : Nat) (r : Nat → Nat) : va_E := .inl (gcy G 4, n, .inr (.inr (.inr (.inr (fun j => some (r j))))))
theorem vaD_fst {A : Nat → Prop} {ws ws' : va_W} (he : ws.map Prod.fst = ws'.map Prod.fst) (h : va_D A ws) : va_D A ws' := by
  have key : ∀ (i : Nat) (x : Nat × va_E), ws'[i]? = some x → ∃ y : Nat × va_E, ws[i]? = some y ∧ y.1 = x.1 := fun i x hx => by
    have h1 : (ws'.map Prod.fst)[i]? = some x.1 := by rw [List.getElem?_map, hx]; rfl
    rw [← he, List.getElem?_map] at h1
    cases hw : ws[i]? with
    | none => rw [hw] at h1; cases h1
    | some y => rw [hw] at h1; exact ⟨y, rfl, Option.some.inj h1⟩
  refine ⟨fun i j p q hi hj e => ?_, fun k q hk => ?_⟩
  · obtain ⟨y1, g1, e1⟩ := key i p hi
    obtain ⟨y2, g2, e2⟩ := key j q hj
    exact h.1 i j y1 y2 g1 g2 (by rw [e1, e2]; exact e)
  · obtain ⟨y, g, e⟩ := key k q hk
    rw [← e]
    exact h.2 k y g
section NROWS
variable {G : GT} {A : Addr → Prop} {E : ET} {own : String} {cc : ByteArray} {nL pc : Nat} {rm : Room} {lv : List (Nat × Value)} {st : List Value} {ws : va_W} {kc ks : Nat}
theorem n_iconst (X : NX G A E own cc nL rm) {n : Int} {v : Int32} (hv : Int32.ofInt n = v) (d : decode cc pc = .ok (.iconst n, 1)) (k : NJ G A E nL (pc + 1) lv (.int v :: st) ws kc ks) : NJ G A E nL pc lv st ws kc ks := fun H locs ls hP hD hS hl => lv_iconst X.1 X.2.1 d hv (k H locs ls hP hD hS hl)
theorem n_bipush (X : NX G A E own cc nL rm) {n : Int} {v : Int32} (hv : (Int8.ofInt n).toInt32 = v) (d : decode cc pc = .ok (.bipush n, 2)) (k : NJ G A E nL (pc + 2) lv (.int v :: st) ws kc ks) : NJ G A E nL pc lv st ws kc ks := fun H locs ls hP hD hS hl => lv_bipush X.1 X.2.1 d hv (k H locs ls hP hD hS hl)
theorem n_sipush (X : NX G A E own cc nL rm) {n : Int} {v : Int32} (hv : (Int16.ofInt n).toInt32 = v) (d : decode cc pc = .ok (.sipush n, 3)) (k : NJ G A E nL (pc + 3) lv (.int v :: st) ws kc ks) : NJ G A E nL pc lv st ws kc ks := fun H locs ls hP hD hS hl => lv_sipush X.1 X.2.1 d hv (k H locs ls hP hD hS hl)
theorem n_aload_n (X : NX G A E own cc nL rm) (q : Nat) {k : Fin 4} {i : Nat} {x : Nat} (d : decode cc pc = .ok (.aload_n k, 1)) (hi : (k : Nat) = i) (hv : lv[q]? = some (i, .ref x)) (k : NJ G A E nL (pc + 1) lv (.ref x :: st) ws kc ks) : NJ G A E nL pc lv st ws kc ks := fun H locs ls hP hD hS hl => lv_aload_n X.1 X.2.1 d hi (lv_at hl q hv) (k H locs ls hP hD hS hl)
theorem n_iload_n (X : NX G A E own cc nL rm) (q : Nat) {k : Fin 4} {i : Nat} {x : Int32} (d : decode cc pc = .ok (.iload_n k, 1)) (hi : (k : Nat) = i) (hv : lv[q]? = some (i, .int x)) (k : NJ G A E nL (pc + 1) lv (.int x :: st) ws kc ks) : NJ G A E nL pc lv st ws kc ks := fun H locs ls hP hD hS hl => lv_iload_n X.1 X.2.1 d hi (lv_at hl q hv) (k H locs ls hP hD hS hl)
theorem n_istore_n (X : NX G A E own cc nL rm) {k : Fin 4} {i : Nat} {x : Int32} (lv2 : List (Nat × Value)) (d : decode cc pc = .ok (.istore_n k, 1)) (hi : (k : Nat) = i) (hn : i < nL) (hl2 : (i, .int x) :: lv.filter (fun q => !(q.1 == i) && !(q.1 + 1 == i && q.2.category == 2)) = lv2) (k : NJ G A E nL (pc + 1) lv2 st ws kc ks) : NJ G A E nL pc lv (.int x :: st) ws kc ks := fun H locs ls hP hD hS hl => lv_istore_n X.1 X.2.1 d hi hl hn hl2 (fun ls hl => k H locs ls hP hD hS hl)
theorem n_astore_n (X : NX G A E own cc nL rm) {k : Fin 4} {i : Nat} {x : Nat} (lv2 : List (Nat × Value)) (d : decode cc pc = .ok (.astore_n k, 1)) (hi : (k : Nat) = i) (hn : i < nL) (hl2 : (i, .ref x) :: lv.filter (fun q => !(q.1 == i) && !(q.1 + 1 == i && q.2.category == 2)) = lv2) (k : NJ G A E nL (pc + 1) lv2 st ws kc ks) : NJ G A E nL pc lv (.ref x :: st) ws kc ks := fun H locs ls hP hD hS hl => lv_astore_n X.1 X.2.1 d hi hl hn hl2 (fun ls hl => k H locs ls hP hD hS hl)
theorem n_iinc (X : NX G A E own cc nL rm) (q : Nat) {i : Nat} {n : Int} {x v : Int32} (lv2 : List (Nat × Value)) (d : decode cc pc = .ok (.iinc i n, 3)) (hk : lv[q]? = some (i, .int x)) (hv : x + Int32.ofInt n = v) (hn : i < nL) (hl2 : (i, Value.int v) :: lv.filter (fun q => !(q.1 == i) && !(q.1 + 1 == i && q.2.category == 2)) = lv2) (k : NJ G A E nL (pc + 3) lv2 st ws kc ks) : NJ G A E nL pc lv st ws kc ks := fun H locs ls hP hD hS hl => lv_iinc X.1 X.2.1 d hl hk hv hn hl2 (fun ls hl => k H locs ls hP hD hS hl)
theorem n_goto (X : NX G A E own cc nL rm) (tgt : Nat) {off : Int} (d : decode cc pc = .ok (.goto off, 3)) (ht : (pc : Int) + off = (tgt : Int)) (k : NJ G A E nL tgt lv st ws kc ks) : NJ G A E nL pc lv st ws kc ks := fun H locs ls hP hD hS hl => lv_goto X.1 X.2.1 d ht (k H locs ls hP hD hS hl)
theorem n_icmp_geF (X : NX G A E own cc nL rm) {x y : Int32} {off : Int} (tgt : Nat) (d : decode cc pc = .ok (.if_icmp .ge off, 3)) (ht : (pc : Int) + off = (tgt : Int)) (hc : ¬ y ≤ x) (kf : NJ G A E nL (pc + 3) lv st ws kc ks) : NJ G A E nL pc lv (.int y :: .int x :: st) ws kc ks := fun H locs ls hP hD hS hl => lv_icmp_ge (tgt := tgt) X.1 X.2.1 d ht (fun q => absurd q hc) (fun q => kf H locs ls hP hD hS hl)
theorem n_icmp_geT (X : NX G A E own cc nL rm) {x y : Int32} {off : Int} (tgt : Nat) (d : decode cc pc = .ok (.if_icmp .ge off, 3)) (ht : (pc : Int) + off = (tgt : Int)) (hc : y ≤ x) (kt : NJ G A E nL tgt lv st ws kc ks) : NJ G A E nL pc lv (.int y :: .int x :: st) ws kc ks := fun H locs ls hP hD hS hl => lv_icmp_ge (tgt := tgt) X.1 X.2.1 d ht (fun q => kt H locs ls hP hD hS hl) (fun q => absurd hc q)
theorem n_dup (X : NX G A E own cc nL rm) {x : Nat} (d : decode cc pc = .ok (.dup, 1)) (k : NJ G A E nL (pc + 1) lv (.ref x :: .ref x :: st) ws kc ks) : NJ G A E nL pc lv (.ref x :: st) ws kc ks := fun H locs ls hP hD hS hl => lv_dup X.1 X.2.1 d rfl (k H locs ls hP hD hS hl)
theorem n_objInit (X : NX G A E own cc nL rm) {index x : Nat} (hlink : Cond.methodLink own index Lib.objectInit ∈ lw_aw) (hinst : Cond.instanceMethod Lib.objectInit ∈ lw_aw) (hcode : Cond.code Lib.objectInit ⟨#[0xb1]⟩ 1 none ∈ lw_aw) (hfr : 1 ≤ rm.frames) (hlo : (st.map fun v => v.category).sum + 12 ≤ rm.locals) (d : decode cc pc = .ok (.invokespecial index, 3)) (k : NJ G A E nL (pc + 3) lv st ws kc ks) : NJ G A E nL pc lv (.ref x :: st) ws kc ks := fun H locs ls hP hD hS hl =>
  W.objInit X.1 X.2.1 X.2.2.2.1 (X.2.2.2.2.1 _ hlink) (X.2.2.2.2.1 _ hinst) (X.2.2.2.2.1 _ hcode) rfl (by rw [X.2.2.1]; exact hl.1) rfl d (by rw [X.2.2.2.2.2.2.2]; exact hfr) (by rw [X.2.2.2.2.2.2.2]; show 2 * 0 + _ + 12 ≤ _; omega) (k H locs ls hP hD hS hl)
theorem n_new (X : NX G A E own cc nL rm) {C : String} {T : u_T} {N ci index kc' ks' : Nat} (ty : Nat → FieldType) {fs : List Value} (hin : ∀ w ∈ u_ws C T N, w ∈ lw_aw) (hty : ∀ k, k < N → parseFieldDescriptor (T k).2.2.1 = some (ty k)) (hcl : Cond.classLink own index C ∈ lw_aw) (hinst : Cond.instantiable C N ∈ lw_aw) (hini : Cond.initialized C ∈ lw_aw) (hc : vwCl[ci]? = some (C, T, N)) (hfs : ∀ j, j < N → defaultValue (ty j) = vp_V fs j) (hkc : kc + 1 = kc') (hks : ks + N = ks') (hcells : kc' ≤ rm.cells) (hslots : ks' ≤ rm.slots) (d : decode cc pc = .ok (.new index, 3)) (k : ∀ q : Nat, NJ G A E nL (pc + 3) lv (.ref q :: st) (ws ++ [(q, .inr (ci, fs))]) kc' ks') : NJ G A E nL pc lv st ws kc ks := fun H locs ls hP hD hS hl => by
  subst hkc hks
  exact va_new X.1 X.2.1 X.2.2.2.2.1 hin ty hty X.2.2.2.1 (X.2.2.2.2.1 _ hcl) (X.2.2.2.2.1 _ hinst) (X.2.2.2.2.1 _ hini) X.2.2.2.2.2.1.1.1 hP hD hS X.2.2.2.2.2.2.1 hc hfs (by rw [X.2.2.2.2.2.2.2]; exact hcells) (by rw [X.2.2.2.2.2.2.2]; exact hslots) d (fun q H1 hP1 hD1 hS1 => k q H1 locs ls hP1 hD1 hS1 hl)
theorem ra_int {U : State} {c1 c2 : ClassId} (h1 : va_RA U c1 .int) (h2 : va_RA U c2 .int) : c1 = c2 := Option.some.inj (Eq.trans (Eq.symm h1) h2)
theorem ra_char {U : State} {c1 c2 : ClassId} (h1 : va_RA U c1 .char) (h2 : va_RA U c2 .char) : c1 = c2 := Option.some.inj (Eq.trans (Eq.symm h1) h2)
theorem ra_long {U : State} {c1 c2 : ClassId} (h1 : va_RA U c1 .long) (h2 : va_RA U c2 .long) : c1 = c2 := Option.some.inj (Eq.trans (Eq.symm h1) h2)
theorem ra_obj {U : State} {C : String} {c1 c2 : ClassId} (h1 : va_RA U c1 (.object C)) (h2 : va_RA U c2 (.object C)) : c1 = c2 := by
  obtain ⟨_, _, -, -, -, e1⟩ := h1
  obtain ⟨_, _, -, -, -, e2⟩ := h2
  exact Option.some.inj (Eq.trans (Eq.symm e1) e2)
theorem last5 {cA : ClassId} {ty : FieldType} : (tysL G ++ [(cA, ty)])[5]? = some (cA, ty) := rfl
theorem n_newI (X : NX G A E own cc nL rm) {n : Int32} (N : Nat) {kc' ks' : Nat} (hn : ¬ n < 0) (hN : n.toNatClampNeg = N) (hb : N * 4 ≤ 536870912) (hkc : kc + 1 = kc') (hks : ks + N = ks') (hcells : kc' ≤ rm.cells) (hslots : ks' ≤ rm.slots) (d : decode cc pc = .ok (.newarray .int, 2)) (k : ∀ q : Nat, NJ G A E nL (pc + 2) lv (.ref q :: st) (ws ++ [(q, zI G N (fun _ => 0))]) kc' ks') : NJ G A E nL pc lv (.int n :: st) ws kc ks := fun H locs ls hP hD hS hl => by
  subst hkc hks
  refine va_newa (atype := .int) (ty := .int) (a0 := (N, .inl (fun _ => 0))) X.1 X.2.1 (X.2.2.2.2.1 _ (tw (i := 197) (by decide +kernel))) rfl X.2.2.2.2.2.1.1.1 hP hD hS X.2.2.2.2.2.2.1 (fun cA => rfl) hn hN hb (by rw [X.2.2.2.2.2.2.2]; exact hcells) (by rw [X.2.2.2.2.2.2.2]; exact hslots) d (fun q cA H1 hK1 hP1 hD1 hS1 => ?_)
  have e : cA = gcy G 0 := ra_int (hK1.2 5 _ last5).2 (hK1.2 0 _ rfl).2
  subst e
  exact k q H1 locs ls hP1 hD1 hS1 hl
theorem n_newC (X : NX G A E own cc nL rm) {n : Int32} (N : Nat) {kc' ks' : Nat} (hn : ¬ n < 0) (hN : n.toNatClampNeg = N) (hb : N * 2 ≤ 536870912) (hkc : kc + 1 = kc') (hks : ks + N = ks') (hcells : kc' ≤ rm.cells) (hslots : ks' ≤ rm.slots) (d : decode cc pc = .ok (.newarray .char, 2)) (k : ∀ q : Nat, NJ G A E nL (pc + 2) lv (.ref q :: st) (ws ++ [(q, zC G N (fun _ => 0))]) kc' ks') : NJ G A E nL pc lv (.int n :: st) ws kc ks := fun H locs ls hP hD hS hl => by
  subst hkc hks
  refine va_newa (atype := .char) (ty := .char) (a0 := (N, .inl (fun _ => 0))) X.1 X.2.1 (X.2.2.2.2.1 _ (tw (i := 338) (by decide +kernel))) rfl X.2.2.2.2.2.1.1.1 hP hD hS X.2.2.2.2.2.2.1 (fun cA => rfl) hn hN hb (by rw [X.2.2.2.2.2.2.2]; exact hcells) (by rw [X.2.2.2.2.2.2.2]; exact hslots) d (fun q cA H1 hK1 hP1 hD1 hS1 => ?_)
  have e : cA = gcy G 1 := ra_char (hK1.2 5 _ last5).2 (hK1.2 1 _ rfl).2
  subst e
  exact k q H1 locs ls hP1 hD1 hS1 hl
theorem n_newL (X : NX G A E own cc nL rm) {n : Int32} (N : Nat) {kc' ks' : Nat} (hn : ¬ n < 0) (hN : n.toNatClampNeg = N) (hb : N * 8 ≤ 536870912) (hkc : kc + 1 = kc') (hks : ks + N = ks') (hcells : kc' ≤ rm.cells) (hslots : ks' ≤ rm.slots) (d : decode cc pc = .ok (.newarray .long, 2)) (k : ∀ q : Nat, NJ G A E nL (pc + 2) lv (.ref q :: st) (ws ++ [(q, zL G N (fun _ => 0))]) kc' ks') : NJ G A E nL pc lv (.int n :: st) ws kc ks := fun H locs ls hP hD hS hl => by
  subst hkc hks
  refine va_newa (atype := .long) (ty := .long) (a0 := (N, .inr (.inl (fun _ => 0)))) X.1 X.2.1 (X.2.2.2.2.1 _ (tw (i := 218) (by decide +kernel))) rfl X.2.2.2.2.2.1.1.1 hP hD hS X.2.2.2.2.2.2.1 (fun cA => rfl) hn hN hb (by rw [X.2.2.2.2.2.2.2]; exact hcells) (by rw [X.2.2.2.2.2.2.2]; exact hslots) d (fun q cA H1 hK1 hP1 hD1 hS1 => ?_)
  have e : cA = gcy G 2 := ra_long (hK1.2 5 _ last5).2 (hK1.2 2 _ rfl).2
  subst e
  exact k q H1 locs ls hP1 hD1 hS1 hl
theorem n_newB (X : NX G A E own cc nL rm) {index : Nat} {n : Int32} (N : Nat) {kc' ks' : Nat} (hclink : Cond.classLink own index RX0 ∈ lw_aw) (hn : ¬ n < 0) (hN : n.toNatClampNeg = N) (hb : N * 4 ≤ 536870912) (hkc : kc + 1 = kc') (hks : ks + N = ks') (hcells : kc' ≤ rm.cells) (hslots : ks' ≤ rm.slots) (d : decode cc pc = .ok (.anewarray index, 3)) (k : ∀ q : Nat, NJ G A E nL (pc + 3) lv (.ref q :: st) (ws ++ [(q, zB G N (fun _ => none))]) kc' ks') : NJ G A E nL pc lv (.int n :: st) ws kc ks := fun H locs ls hP hD hS hl => by
  subst hkc hks
  refine va_newq (C := RX0) X.1 X.2.1 X.2.2.2.1 (X.2.2.2.2.1 _ hclink) X.2.2.2.2.2.1.2.2 X.2.2.2.2.2.1.1.1 hP hD hS X.2.2.2.2.2.2.1 hn hN hb (by rw [X.2.2.2.2.2.2.2]; exact hcells) (by rw [X.2.2.2.2.2.2.2]; exact hslots) d (fun q cA H1 hK1 hP1 hD1 hS1 => ?_)
  have e : cA = gcy G 3 := ra_obj (hK1.2 5 _ last5).2 (hK1.2 3 _ rfl).2
  subst e
  exact k q H1 locs ls hP1 hD1 hS1 hl
theorem n_putF (X : NX G A E own cc nL rm) {C : String} {T : u_T} {N ci index a : Nat} (k : Nat) {fs : List Value} (fs' : List Value) {R : va_W} {v : Value} {ty : FieldType} (ty0 : Nat → FieldType) (hi2 : (eMeth E).name = "<init>") (hin : ∀ w ∈ u_ws C T N, w ∈ lw_aw) (hty : ∀ k, k < N → parseFieldDescriptor (T k).2.2.1 = some (ty0 k)) (hnm : ∀ a, a < N → ∀ b, b < N → a ≠ b → (T a).2.1 ≠ (T b).2.1) (hc : vwCl[ci]? = some (C, T, N)) (hk : k < N) (hlink : Cond.fieldLink own index (T k).1 (T k).2.1 (T k).2.2.1 ∈ lw_aw) (hfin : (T k).2.2.2 = true) (hdecl : (T k).1 = own) (hd : parseFieldDescriptor (T k).2.2.1 = some ty) (hn : narrow ty v = v) (hfit : fits ty v = true) (hl0 : k < fs.length) (hfs : fs.set k v = fs') (d : decode cc pc = .ok (.putfield index, 3)) (kk : NJ G A E nL (pc + 3) lv st ((a, .inr (ci, fs')) :: R) kc ks) : NJ G A E nL pc lv (v :: .ref a :: st) ((a, .inr (ci, fs)) :: R) kc ks := fun H locs ls hP hD hS hl => by
  subst hfs
  exact va_putF X.1 X.2.1 X.2.2.2.2.1 hin ty0 hty hnm X.2.2.2.1 X.2.2.2.2.2.1.1.1 hP hD hS 0 rfl hc k hk (X.2.2.2.2.1 _ hlink) (fun _ h => h) hfin hi2 hdecl hd hn hfit hl0 d (fun H1 locs1 hP1 hD1 hS1 => kk H1 locs1 ls hP1 hD1 hS1 hl)
theorem n_put (X : NX G A E own cc nL rm) {C : String} {T : u_T} {N ci index a : Nat} (k : Nat) {fs : List Value} (fs' : List Value) {R : va_W} {v : Value} {ty : FieldType} (ty0 : Nat → FieldType) (hin : ∀ w ∈ u_ws C T N, w ∈ lw_aw) (hty : ∀ k, k < N → parseFieldDescriptor (T k).2.2.1 = some (ty0 k)) (hnm : ∀ a, a < N → ∀ b, b < N → a ≠ b → (T a).2.1 ≠ (T b).2.1) (hc : vwCl[ci]? = some (C, T, N)) (hk : k < N) (hlink : Cond.fieldLink own index (T k).1 (T k).2.1 (T k).2.2.1 ∈ lw_aw) (hfin : (T k).2.2.2 = false) (hd : parseFieldDescriptor (T k).2.2.1 = some ty) (hn : narrow ty v = v) (hfit : fits ty v = true) (hl0 : k < fs.length) (hfs : fs.set k v = fs') (d : decode cc pc = .ok (.putfield index, 3)) (kk : NJ G A E nL (pc + 3) lv st ((a, .inr (ci, fs')) :: R) kc ks) : NJ G A E nL pc lv (v :: .ref a :: st) ((a, .inr (ci, fs)) :: R) kc ks := fun H locs ls hP hD hS hl => by
  subst hfs
  exact va_put X.1 X.2.1 X.2.2.2.2.1 hin ty0 hty hnm X.2.2.2.1 X.2.2.2.2.2.1.1.1 hP hD hS 0 rfl hc k hk (X.2.2.2.2.1 _ hlink) (fun _ h => h) hfin hd hn hfit hl0 d (fun H1 locs1 hP1 hD1 hS1 => kk H1 locs1 ls hP1 hD1 hS1 hl)
theorem n_get (X : NX G A E own cc nL rm) {C : String} {T : u_T} {N ci index a : Nat} (q0 k : Nat) {fs : List Value} {v : Value} (hin : ∀ w ∈ u_ws C T N, w ∈ lw_aw) (hq : ws[q0]? = some (a, .inr (ci, fs))) (hc : vwCl[ci]? = some (C, T, N)) (hk : k < N) (hlink : Cond.fieldLink own index (T k).1 (T k).2.1 (T k).2.2.1 ∈ lw_aw) (hv : fs[k]? = some v) (d : decode cc pc = .ok (.getfield index, 3)) (kk : NJ G A E nL (pc + 3) lv (v :: st) ws kc ks) : NJ G A E nL pc lv (.ref a :: st) ws kc ks := fun H locs ls hP hD hS hl =>
  va_get X.1 X.2.1 X.2.2.2.2.1 hin X.2.2.2.1 X.2.2.2.2.2.1.1.1 hP q0 hq hc k hk (X.2.2.2.2.1 _ hlink) (fun _ h => h) hv d (kk H locs ls hP hD hS hl)
theorem n_iast1 (X : NX G A E own cc nL rm) {x0 : Nat × va_E} {R : va_W} {a n : Nat} {i v : Int32} {f : Nat → Int32} (j : Nat) (hj : i.toNatClampNeg = j) (hin : vp_in i n) (d : decode cc pc = .ok (.iastore, 1)) (k : NJ G A E nL (pc + 1) lv st (x0 :: (a, zI G n (upd f j v)) :: R) kc ks) : NJ G A E nL pc lv (.int v :: .int i :: .ref a :: st) (x0 :: (a, zI G n f) :: R) kc ks := fun H locs ls hP hD hS hl => by
  subst hj
  exact va_iast X.1 X.2.1 X.2.2.2.2.2.1.1.1 hP hD hS 1 0 rfl rfl hin d (fun H1 locs1 hP1 hD1 hS1 => k H1 locs1 ls hP1 hD1 hS1 hl)
theorem n_aast1 (X : NX G A E own cc nL rm) {x0 : Nat × va_E} {R : va_W} {a n v : Nat} {vs : List Value} (qk : Nat) {i : Int32} {f : Nat → Option Nat} (j : Nat) (hj : i.toNatClampNeg = j) (hv : (x0 :: (a, zB G n f) :: R)[qk]? = some (v, .inr (0, vs))) (hin : vp_in i n) (d : decode cc pc = .ok (.aastore, 1)) (k : NJ G A E nL (pc + 1) lv st (x0 :: (a, zB G n (va_up f j (some v))) :: R) kc ks) : NJ G A E nL pc lv (.ref v :: .int i :: .ref a :: st) (x0 :: (a, zB G n f) :: R) kc ks := fun H locs ls hP hD hS hl => by
  subst hj
  exact va_astq (r := (RX0, TX0, 19)) X.1 X.2.1 X.2.2.2.2.2.1.1.1 hP hD hS 1 3 qk 0 rfl rfl hv rfl hin d (fun H1 locs1 hP1 hD1 hS1 => k H1 locs1 ls hP1 hD1 hS1 hl)
theorem n_ws1 {x0 : Nat × va_E} {R : va_W} {a : Nat} {c : ClassId} {x x' : vp_A} (he : vp_cell c x = vp_cell c x') (k : NJ G A E nL pc lv st (x0 :: (a, .inl (c, x')) :: R) kc ks) : NJ G A E nL pc lv st (x0 :: (a, .inl (c, x)) :: R) kc ks := fun H locs ls hP hD hS hl => k H locs ls (fun i q hq => by
  match i with
  | 0 => exact hP 0 q hq
  | 1 =>
    cases hq
    have h1 : H[a]? = some (vp_cell c x) := hP 1 _ rfl
    show H[a]? = some (vp_cell c x')
    rw [h1, he]
  | i + 2 => exact hP (i + 2) q hq) (vaD_fst (ws := x0 :: (a, .inl (c, x)) :: R) rfl hD) hS hl
theorem n_ws {ws' : va_W} (h : ∀ H : Heap, va_P G.1 vwCl ws H → va_P G.1 vwCl ws' H) (hd : va_D A ws → va_D A ws') (k : NJ G A E nL pc lv st ws' kc ks) : NJ G A E nL pc lv st ws kc ks := fun H locs ls hP hD hS hl => k H locs ls (h H hP) (hd hD) hS hl
end NROWS
theorem arrV_cg {cA : ClassId} {n : Nat} {f g : Nat → Value} (h : ∀ j, j < n → f j = g j) : arrV cA n f = arrV cA n g := by
  unfold arrV
  congr 1
  apply Array.ext
  · simp
  · intro i h1 h2
    have hi : i < n := by simpa using h1
    simpa using h i hi
/-- new cells behind a world -/
theorem vaD_app {A : Nat → Prop} {D : va_G} {cl : List vw_C} {ws w2 : va_W} {H : Heap} (hD : va_D A ws) (hP : va_P D cl ws H) (h2 : va_D A w2) (hn : ∀ (k : Nat) (x : Nat × va_E), w2[k]? = some x → H.size ≤ x.1) : va_D A (ws ++ w2) :=
  va_D.app hD h2 (fun i j x y hx hy e => by
    have h1 := (hP i x hx).lt
    have h3 := hn j y hy
    omega)
theorem vaP_one {D : va_G} {cl : List vw_C} {a : Nat} {e : va_E} {H : Heap} (h : va_at D cl (a, e) H) : va_P D cl [(a, e)] H := fun k x hx => by
  have h1 : k < 1 := (List.getElem?_eq_some_iff.mp hx).1
  obtain rfl : k = 0 := by omega
  cases hx
  exact h
theorem n_join {A : Nat → Prop} {D : va_G} {cl : List vw_C} {ws w : va_W} {q : Nat} {e : va_E} {H H1 : Heap} (hP : va_P D cl (ws ++ [(q, e)]) H) (hD : va_D A (ws ++ [(q, e)])) (hk1 : ∀ a : Nat, a < H.size → ¬ va_A [(q, e)] H.size a → H1[a]? = H[a]?) (hF : ∀ a : Nat, va_A [(q, e)] H.size a → A a) (hP1 : va_P D cl w H1) (hD1 : va_D (va_A [(q, e)] H.size) w) : va_P D cl (ws ++ w) H1 ∧ va_D A (ws ++ w) := by
  have hl : (ws ++ [(q, e)])[ws.length]? = some (q, e) := by rw [List.getElem?_append_right (Nat.le_refl _), Nat.sub_self]; rfl
  have hi : ∀ (i : Nat) (x : Nat × va_E), ws[i]? = some x → (ws ++ [(q, e)])[i]? = some x ∧ i < ws.length := fun i x hx => by
    have h1 := (List.getElem?_eq_some_iff.mp hx).1
    rw [List.getElem?_append_left h1]
    exact ⟨hx, h1⟩
  have ap : ∀ (i : Nat) (x : Nat × va_E), ws[i]? = some x → x.1 < H.size ∧ ¬ va_A [(q, e)] H.size x.1 := fun i x hx => by
    obtain ⟨h1, h2⟩ := hi i x hx
    refine ⟨(hP i x h1).lt, fun z => ?_⟩
    rcases z with ⟨k, e', z⟩ | z
    · have h3 : k < 1 := (List.getElem?_eq_some_iff.mp z).1
      obtain rfl : k = 0 := by omega
      have h4 : (q, e) = (x.1, e') := Option.some.inj z
      have := hD.1 i ws.length x (q, e) h1 hl (congrArg Prod.fst h4).symm
      omega
    · have := (hP i x h1).lt
      omega
  refine ⟨va_P.app (fun i x hx => (hP i x (hi i x hx).1).kept (hk1 x.1 (ap i x hx).1 (ap i x hx).2)) hP1, va_D.app ⟨fun i j x y hx hy => hD.1 i j x y (hi i x hx).1 (hi j y hy).1, fun i x hx => hD.2 i x (hi i x hx).1⟩ (hD1.weaken (fun k x _ h => hF x.1 h)) (fun i j x y hx hy hxy => (ap i x hx).2 (by rw [hxy]; exact hD1.2 j y hy))⟩
theorem hr_blindC {G : GT} {vs : List Value} {sz : Nat} {w : va_W} : FrameBlind (va_Pc vs (fun U => U.heap.size = sz ∧ va_P G.1 vwCl w U.heap ∧ KC G U)) := fun a U g mk q => by
  obtain ⟨q0, q1, qP, qK⟩ := q
  exact ⟨q0, q1, qP, KC.same (u := U) (U := U.calling g mk a) rfl qK⟩
/-- a constructor's contract: from the blank object to the world that it makes -/
def NQ (G : GT) (ci : Nat) (fs0 : List Value) (h0 sz : Nat) (post : Nat → va_W → Prop) : Array Value → State → Outcome → State → Prop := va_Qv (fun w : va_W => post h0 w) (fun w U => va_P G.1 vwCl w U.heap ∧ KC G U ∧ va_D (va_A [(h0, .inr (ci, fs0))] sz) w) (va_A [(h0, .inr (ci, fs0))] sz)
def NMc (l : Launch) (G : GT) (y : MethodName) (cc : ByteArray) (nL : Nat) (rm : Room) (mc ms ci : Nat) (fs0 : List Value) (post : Nat → va_W → Prop) : Prop :=
  ∀ h0 sz : Nat, Met l y (.code y cc nL none :: lw_aw) rm (va_Pc [.ref h0] (fun U => U.heap.size = sz ∧ va_P G.1 vwCl [(h0, .inr (ci, fs0))] U.heap ∧ KC G U)) (NQ G ci fs0 h0 sz post) mc ms (va_A [(h0, .inr (ci, fs0))] sz)
def NY (G : GT) (E : ET) (A : Addr → Prop) (mc ms ci : Nat) (fs0 : List Value) (h0 : Nat) (post : Nat → va_W → Prop) : Prop :=
  (eMeth E).locks = false ∧ (eMeth E).sig.returnType = none ∧ eQ E = MQ (eBelow E) (NQ G ci fs0 h0 (eS E).heap.size post) (eArgs E) (eS E) mc ms A ∧ eH0 E = (eS E).heap ∧ (eMeth E).name = "<init>" ∧ A = va_A [(h0, .inr (ci, fs0))] (eS E).heap.size
theorem n_by {l : Launch} {G : GT} {y : MethodName} {cc : ByteArray} {nL : Nat} {rm : Room} {mc ms ci : Nat} {fs0 : List Value} {post : Nat → va_W → Prop} {own : String} (hown : y.cls = own) (hin : y.name = "<init>") (hy : plainFor y = true) (hlen : 1 ≤ nL)
    (body : ∀ (E : ET) (h0 : Nat) (A : Addr → Prop), eL E = l → NX G A E own cc nL rm → NY G E A mc ms ci fs0 h0 post → NJ G A E nL 0 [(0, .ref h0)] [] [(h0, .inr (ci, fs0))] 0 0) : NMc l G y cc nL rm mc ms ci fs0 post := by
  intro h0 sz
  refine va_MetF (cc := cc) (maxL := nL) (ret := none) hy rfl ?_
  intro p e s m args below meth c s₁ B hml hv
  obtain ⟨rfl, hsz, hP, hK⟩ := hv
  subst hsz
  have hown2 : s.vm.findClass own = some m.cls := by rw [← hown]; exact findClass_of_methodNamed B.named
  have hts := atoms_spec (ws := .code y cc nL none :: lw_aw) B.pre
  have hin2 : meth.name = "<init>" := by rw [← hin]; exact (name_of_methodNamed B.named B.method).1
  rw [lg_entry_eq]
  have hD : va_D (va_A [(h0, .inr (ci, fs0))] s.heap.size) [(h0, .inr (ci, fs0))] := ⟨fun i j p q hi hj _ => by
    have h1 : i < 1 := (List.getElem?_eq_some_iff.mp hi).1
    have h2 : j < 1 := (List.getElem?_eq_some_iff.mp hj).1
    omega, fun _ _ hk => va_A.in hk⟩
  exact body (p, l, e, (headSpec (.code y cc nL none :: lw_aw) rm).room, s, m, [Value.ref h0].toArray, below, meth, c, s.heap, mc, ms, MQ below (NQ G ci fs0 h0 s.heap.size post) [Value.ref h0].toArray s mc ms (va_A [(h0, .inr (ci, fs0))] s.heap.size)) h0 (va_A [(h0, .inr (ci, fs0))] s.heap.size) rfl
    ⟨B.exec, B.bytes, hml, hown2, fun w h => hts w (List.mem_cons_of_mem _ h), hK, fun q h => Or.inr h, rfl⟩ ⟨B.notSynchronized, B.returns, rfl, rfl, hin2, rfl⟩ s.heap [] _ hP hD va_S.rf (lv_entry [.ref h0] hlen)
section NROWS2
variable {G : GT} {A : Addr → Prop} {E : ET} {own : String} {cc : ByteArray} {nL pc : Nat} {rm : Room} {lv : List (Nat × Value)} {st : List Value} {ws : va_W} {kc ks : Nat}
theorem n_ret (X : NX G A E own cc nL rm) {ci h0 : Nat} {fs0 : List Value} {post : Nat → va_W → Prop} (Y : NY G E A kc ks ci fs0 h0 post) (d : decode cc pc = .ok (.return_, 1)) (hp : post h0 ws) : NJ G A E nL pc lv [] ws kc ks := fun H locs ls hP hD hS hl => by
  obtain ⟨y1, y2, y3, y4, y5, y6⟩ := Y
  rw [y3]
  subst y6
  rw [y4] at hS
  exact W.vret X.1 X.2.1 y2 (fun t ht hW => ⟨⟨ws, rfl, hp, by rw [ht]; exact hP, KC.warm hW X.2.2.2.2.2.1, hD⟩, hS.F ht⟩) hS.2.2 d y1
theorem n_callI (X : NX G A E own cc nL rm) {y : MethodName} {cy : ByteArray} {n2 index q mc ms ci kc' ks' : Nat} {rm2 : Room} {fs0 : List Value} {post : Nat → va_W → Prop} (hm : NMc (eL E) G y cy n2 rm2 mc ms ci fs0 post) (hcode : Cond.code y cy n2 none ∈ lw_aw) (hini : Cond.initialized y.cls ∈ lw_aw) (hlink : Cond.methodLink own index y ∈ lw_aw) (hinst : Cond.instanceMethod y ∈ lw_aw) (hyn : y.name = "<init>") (hrc : rm2.cells = mc) (hrs : rm2.slots = ms)
    (hd : y.cls ≠ "java/lang/invoke/MethodHandle" ∧ y.cls ≠ "java/lang/invoke/VarHandle" ∧ (parseMethodDescriptor y.desc).map (fun d => d.parameters.length) = some 0) (hR : rm2.frames + 1 ≤ rm.frames ∧ 8 + (n2 + 11) + rm2.locals ≤ rm.locals) (hst : (st.map fun v => v.category).sum ≤ 8) (hkc : kc + mc = kc') (hks : ks + ms = ks') (hcells : kc' ≤ rm.cells) (hslots : ks' ≤ rm.slots) (d : decode cc pc = .ok (.invokespecial index, 3))
    (k : ∀ w : va_W, post q w → NJ G A E nL (pc + 3) lv st (ws ++ w) kc' ks') : NJ G A E nL pc lv (.ref q :: st) (ws ++ [(q, .inr (ci, fs0))]) kc ks := fun H locs ls hP hD hS hl => by
  subst hkc hks
  have hlast : (ws ++ [((q, .inr (ci, fs0)) : Nat × va_E)])[ws.length]? = some (q, .inr (ci, fs0)) := by rw [List.getElem?_append_right (Nat.le_refl _), Nat.sub_self]; rfl
  have hPc : va_P G.1 vwCl [(q, .inr (ci, fs0))] H := vaP_one (hP _ _ hlast)
  have hF : ∀ a : Nat, va_A [(q, .inr (ci, fs0))] H.size a → A a := by
    rintro a (⟨k, e', h⟩ | h)
    · have h3 : k < 1 := (List.getElem?_eq_some_iff.mp h).1
      obtain rfl : k = 0 := by omega
      cases h
      exact hD.2 _ _ hlast
    · exact X.2.2.2.2.2.2.1 a (Nat.le_trans hS.1 h)
  have hR2 : rm2.frames + 1 ≤ (eR E).frames ∧ 8 + (n2 + 11) + rm2.locals ≤ (eR E).locals := by rw [X.2.2.2.2.2.2.2]; exact hR
  have hC2 : kc + mc ≤ (eR E).cells ∧ ks + ms ≤ (eR E).slots := by rw [X.2.2.2.2.2.2.2]; exact ⟨hcells, hslots⟩
  exact va_callv (va_runI (As := []) (rest := st) ⟨X.1, X.2.1, X.2.2.1, X.2.2.2.1, X.2.2.2.2.1⟩ (hm q H.size) (cwI 0 (ws' := lw_aw) X.2.2.2.2.1 (good_ws hcode) rfl hrc hrs (X.2.2.2.2.1 _ hini) (X.2.2.2.2.1 _ hlink) (X.2.2.2.2.1 _ hinst) hyn hd hR2) ⟨hr_blindC, fun U hU hW => ⟨rfl, by rw [hU], by rw [hU]; exact hPc, KC.warm hW X.2.2.2.2.2.1⟩⟩ rfl rfl hl.1 rfl (lv_room hst) d hC2) hS (fun a _ h => hF a h) hF (fun w t H1 locs1 ht hvm hw hB hz1 hk1 hS1 => by
    obtain ⟨hP1, -, hD1⟩ := hB
    rw [ht] at hP1
    have hj := n_join hP hD hk1 hF hP1 hD1
    exact k w hw H1 locs1 ls hj.1 hj.2 hS1 hl)
theorem n_callN (X : NX G A E own cc nL rm) {y : MethodName} {cy : ByteArray} {n2 index q mc ms ci kc' ks' : Nat} {rm2 : Room} {fs0 : List Value} {post : Nat → va_W → Prop} (hm : NMc (eL E) G y cy n2 rm2 mc ms ci fs0 post) (hcode : Cond.code y cy n2 none ∈ lw_aw) (hini : Cond.initialized y.cls ∈ lw_aw) (hlink : Cond.methodLinkNest own index y "LayeredClaims" ∈ lw_nest) (hinst : Cond.instanceMethod y ∈ lw_aw) (hyn : y.name = "<init>") (hrc : rm2.cells = mc) (hrs : rm2.slots = ms)
    (hd : y.cls ≠ "java/lang/invoke/MethodHandle" ∧ y.cls ≠ "java/lang/invoke/VarHandle" ∧ (parseMethodDescriptor y.desc).map (fun d => d.parameters.length) = some 0) (hR : rm2.frames + 1 ≤ rm.frames ∧ 8 + (n2 + 11) + rm2.locals ≤ rm.locals) (hst : (st.map fun v => v.category).sum ≤ 8) (hkc : kc + mc = kc') (hks : ks + ms = ks') (hcells : kc' ≤ rm.cells) (hslots : ks' ≤ rm.slots) (d : decode cc pc = .ok (.invokespecial index, 3))
    (k : ∀ w : va_W, post q w → NJ G A E nL (pc + 3) lv st (ws ++ w) kc' ks') : NJ G A E nL pc lv (.ref q :: st) (ws ++ [(q, .inr (ci, fs0))]) kc ks := fun H locs ls hP hD hS hl => by
  subst hkc hks
  have hlast : (ws ++ [((q, .inr (ci, fs0)) : Nat × va_E)])[ws.length]? = some (q, .inr (ci, fs0)) := by rw [List.getElem?_append_right (Nat.le_refl _), Nat.sub_self]; rfl
  have hPc : va_P G.1 vwCl [(q, .inr (ci, fs0))] H := vaP_one (hP _ _ hlast)
  have hF : ∀ a : Nat, va_A [(q, .inr (ci, fs0))] H.size a → A a := by
    rintro a (⟨k, e', h⟩ | h)
    · have h3 : k < 1 := (List.getElem?_eq_some_iff.mp h).1
      obtain rfl : k = 0 := by omega
      cases h
      exact hD.2 _ _ hlast
    · exact X.2.2.2.2.2.2.1 a (Nat.le_trans hS.1 h)
  have hR2 : rm2.frames + 1 ≤ (eR E).frames ∧ 8 + (n2 + 11) + rm2.locals ≤ (eR E).locals := by rw [X.2.2.2.2.2.2.2]; exact hR
  have hC2 : kc + mc ≤ (eR E).cells ∧ ks + ms ≤ (eR E).slots := by rw [X.2.2.2.2.2.2.2]; exact ⟨hcells, hslots⟩
  exact va_callv (va_runIN (As := []) (rest := st) ⟨X.1, X.2.1, X.2.2.1, X.2.2.2.1, X.2.2.2.2.1⟩ (hm q H.size) ⟨va_cnB (host := "LayeredClaims") (ws' := lw_aw) 0 X.2.2.2.2.1 (good_ws hcode) rfl hrc hrs (X.2.2.2.2.2.1.1.2 _ hlink) (X.2.2.2.2.1 _ hini) hd hR2, hyn, X.2.2.2.2.1 _ hinst⟩ ⟨hr_blindC, fun U hU hW => ⟨rfl, by rw [hU], by rw [hU]; exact hPc, KC.warm hW X.2.2.2.2.2.1⟩⟩ rfl rfl hl.1 rfl (lv_room hst) d hC2) hS (fun a _ h => hF a h) hF (fun w t H1 locs1 ht hvm hw hB hz1 hk1 hS1 => by
    obtain ⟨hP1, -, hD1⟩ := hB
    rw [ht] at hP1
    have hj := n_join hP hD hk1 hF hP1 hD1
    exact k w hw H1 locs1 ls hj.1 hj.2 hS1 hl)
theorem n_callI1 (X : NX G A E own cc nL rm) {y : MethodName} {cy : ByteArray} {n2 index q mc ms ci kc' ks' : Nat} {rm2 : Room} {fs0 : List Value} {x0 : Nat × va_E} {R : va_W} {post : Nat → va_W → Prop} (hm : NMc (eL E) G y cy n2 rm2 mc ms ci fs0 post) (hcode : Cond.code y cy n2 none ∈ lw_aw) (hini : Cond.initialized y.cls ∈ lw_aw) (hlink : Cond.methodLink own index y ∈ lw_aw) (hinst : Cond.instanceMethod y ∈ lw_aw) (hyn : y.name = "<init>") (hrc : rm2.cells = mc) (hrs : rm2.slots = ms)
    (hd : y.cls ≠ "java/lang/invoke/MethodHandle" ∧ y.cls ≠ "java/lang/invoke/VarHandle" ∧ (parseMethodDescriptor y.desc).map (fun d => d.parameters.length) = some 0) (hR : rm2.frames + 1 ≤ rm.frames ∧ 8 + (n2 + 11) + rm2.locals ≤ rm.locals) (hst : (st.map fun v => v.category).sum ≤ 8) (hkc : kc + mc = kc') (hks : ks + ms = ks') (hcells : kc' ≤ rm.cells) (hslots : ks' ≤ rm.slots) (d : decode cc pc = .ok (.invokespecial index, 3))
    (k : ∀ w : va_W, post q w → NJ G A E nL (pc + 3) lv st (x0 :: (R ++ w)) kc' ks') : NJ G A E nL pc lv (.ref q :: st) ((x0 :: R) ++ [(q, .inr (ci, fs0))]) kc ks := n_callI (ws := x0 :: R) X hm hcode hini hlink hinst hyn hrc hrs hd hR hst hkc hks hcells hslots d k
theorem n_callN1 (X : NX G A E own cc nL rm) {y : MethodName} {cy : ByteArray} {n2 index q mc ms ci kc' ks' : Nat} {rm2 : Room} {fs0 : List Value} {x0 : Nat × va_E} {R : va_W} {post : Nat → va_W → Prop} (hm : NMc (eL E) G y cy n2 rm2 mc ms ci fs0 post) (hcode : Cond.code y cy n2 none ∈ lw_aw) (hini : Cond.initialized y.cls ∈ lw_aw) (hlink : Cond.methodLinkNest own index y "LayeredClaims" ∈ lw_nest) (hinst : Cond.instanceMethod y ∈ lw_aw) (hyn : y.name = "<init>") (hrc : rm2.cells = mc) (hrs : rm2.slots = ms)
    (hd : y.cls ≠ "java/lang/invoke/MethodHandle" ∧ y.cls ≠ "java/lang/invoke/VarHandle" ∧ (parseMethodDescriptor y.desc).map (fun d => d.parameters.length) = some 0) (hR : rm2.frames + 1 ≤ rm.frames ∧ 8 + (n2 + 11) + rm2.locals ≤ rm.locals) (hst : (st.map fun v => v.category).sum ≤ 8) (hkc : kc + mc = kc') (hks : ks + ms = ks') (hcells : kc' ≤ rm.cells) (hslots : ks' ≤ rm.slots) (d : decode cc pc = .ok (.invokespecial index, 3))
    (k : ∀ w : va_W, post q w → NJ G A E nL (pc + 3) lv st (x0 :: (R ++ w)) kc' ks') : NJ G A E nL pc lv (.ref q :: st) ((x0 :: R) ++ [(q, .inr (ci, fs0))]) kc ks := n_callN (ws := x0 :: R) X hm hcode hini hlink hinst hyn hrc hrs hd hR hst hkc hks hcells hslots d k
/-- the rows of new int[N][K] -/
def zRows (G : GT) (N K : Nat) (r : Nat → Nat) : va_W := (List.range N).map (fun i => (r i, zI G K (fun _ => 0)))
theorem n_mna (X : NX G A E own cc nL rm) {index : Nat} {n k : Int32} (N K : Nat) {kc' ks' : Nat} (hclink : Cond.classLink own index "[[I" ∈ lw_aw) (hn : ¬ n < 0) (hk : ¬ k < 0) (hN : n.toNatClampNeg = N) (hK : k.toNatClampNeg = K) (hb1 : N * 4 ≤ 536870912) (hb2 : K * 4 ≤ 536870912) (hkc : kc + 1 + N = kc') (hks : ks + N + N * K = ks') (hcells : kc' ≤ rm.cells) (hslots : ks' ≤ rm.slots) (d : decode cc pc = .ok (.multianewarray index 2, 4))
    (kk : ∀ (q : Nat) (r : Nat → Nat), NJ G A E nL (pc + 4) lv (.ref q :: st) (ws ++ ((q, zR G N r) :: zRows G N K r)) kc' ks') : NJ G A E nL pc lv (.int k :: .int n :: st) ws kc ks := fun H locs ls hP hD hS hl => by
  subst hkc hks hN hK
  intro T hT Xs
  have hKK := X.2.2.2.2.2.1.1.1
  have hcy : (eS E).vm.findClass (FieldType.array .int).toString = some (gcy G 0) := (hKK.2 0 _ rfl).2
  have hcA : (eS E).vm.findClass ("[" ++ (FieldType.array .int).toString) = some (gcy G 4) := (hKK.2 4 _ rfl).2
  obtain ⟨F, cA, comp, fA, fC, f1, f2, hold, hrows, X', step⟩ := gd_step Xs X.1 X.2.2.2.1 (X.2.2.2.2.1 _ hclink) X.2.2.2.2.2.1.2.1.use (X.2.2.2.2.1 _ (tw (i := 197) (by decide +kernel))) (g := F0 (eM E) pc ls (.int k :: .int n :: st)) rfl (by rw [X.2.1]; exact d) rfl hn hk hb1 hb2 (by rw [X.2.2.2.2.2.2.2]; omega) (by rw [X.2.2.2.2.2.2.2]; omega)
  obtain rfl : comp = gcy G 0 := Option.some.inj (Eq.trans (Eq.symm fC) hcy)
  obtain rfl : cA = gcy G 4 := Option.some.inj (Eq.trans (Eq.symm fA) hcA)
  have hTh : T.heap = H := hT
  rw [hTh] at f1 f2 hold hrows
  have hrow : ∀ j : Nat, j < n.toNatClampNeg → F.heap[H.size + 1 + j]? = some (vp_cell (gcy G 0) (k.toNatClampNeg, .inl (fun _ => 0))) := hrows
  have hout : gd_out (gcy G 4) n.toNatClampNeg H.size n.toNatClampNeg = vp_cell (gcy G 4) (n.toNatClampNeg, .inr (.inr (.inr (.inr (fun i => some (H.size + 1 + i)))))) := by
    rw [vp_cell_q]
    unfold gd_out
    exact arrV_cg (fun j hj => by rw [if_pos hj])
  rw [hout] at f2
  have hnew : va_P G.1 vwCl ((H.size, zR G n.toNatClampNeg (fun i => H.size + 1 + i)) :: zRows G n.toNatClampNeg k.toNatClampNeg (fun i => H.size + 1 + i)) F.heap := fun i x hx => by
    cases i with
    | zero => cases hx; exact f2
    | succ i =>
      have h1 : (zRows G n.toNatClampNeg k.toNatClampNeg (fun i => H.size + 1 + i))[i]? = some x := hx
      obtain ⟨j, hj, rfl⟩ := List.mem_map.mp (List.mem_of_getElem? h1)
      exact hrow j (List.mem_range.mp hj)
  have hpos : ∀ (i : Nat) (x : Nat × va_E), ((H.size, zR G n.toNatClampNeg (fun i => H.size + 1 + i)) :: zRows G n.toNatClampNeg k.toNatClampNeg (fun i => H.size + 1 + i))[i]? = some x → x.1 = H.size + i := fun i x hx => by
    cases i with
    | zero => cases hx; rfl
    | succ i =>
      have h1 : (zRows G n.toNatClampNeg k.toNatClampNeg (fun i => H.size + 1 + i))[i]? = some x := hx
      unfold zRows at h1
      rw [List.getElem?_map] at h1
      by_cases h9 : i < n.toNatClampNeg
      · rw [List.getElem?_range h9] at h1
        cases h1
        show H.size + 1 + i = _
        omega
      · have hn0 : (List.range n.toNatClampNeg)[i]? = none := List.getElem?_eq_none (by rw [List.length_range]; omega)
        rw [hn0] at h1
        cases h1
  have hDn : va_D A ((H.size, zR G n.toNatClampNeg (fun i => H.size + 1 + i)) :: zRows G n.toNatClampNeg k.toNatClampNeg (fun i => H.size + 1 + i)) := ⟨fun i j x y hx hy e => by
    have h1 := hpos i x hx
    have h2 := hpos j y hy
    omega, fun i x hx => X.2.2.2.2.2.2.1 _ (by rw [hpos i x hx]; exact Nat.le_trans hS.1 (Nat.le_add_right _ _))⟩
  have hD2 := vaD_app hD hP hDn (fun i x hx => by rw [hpos i x hx]; exact Nat.le_add_right _ _)
  have hP2 := va_P.app (hP.kept (fun k9 x hx => hold x.1 ((hP k9 x hx).lt))) hnew
  have hS2 : va_S A (eH0 E) F.heap locs := ⟨Nat.le_trans hS.1 (by omega), fun x h1 h2 => (hold x (Nat.lt_of_lt_of_le h1 hS.1)).trans (hS.2.1 x h1 h2), hS.2.2⟩
  obtain ⟨t, a1, b1⟩ := kk H.size (fun i => H.size + 1 + i) F.heap locs ls hP2 hD2 hS2 hl F rfl X'
  refine ⟨t, step t ?_, b1⟩
  rw [hT]
  exact a1
end NROWS2
