/-! NEW INT[N][K]: the machine's own step, out of the library's word for one array, its word for a loop over a list, and a store; the cells are written in the walk's own words (arrV) -/
/-- the outer array (at h) when i of its rows lie -/
def gd_out (cO : ClassId) (N h i : Nat) : Cell := arrV cO N (fun j => va_rf (if j < i then some (h + 1 + j) else none))
def gd_in (cI : ClassId) (K : Nat) : Cell := arrV cI K (fun _ => .int 0)
theorem gd_out_size (cO : ClassId) (N h i : Nat) : (gd_out cO N h i).slots.size = N := arrV_size ..
theorem gd_in_size (cI : ClassId) (K : Nat) : (gd_in cI K).slots.size = K := arrV_size ..
theorem gd_out_new (cO : ClassId) (N h : Nat) : ({ cls := cO, slots := Array.replicate N .null, vm := .none } : Cell) = gd_out cO N h 0 := by
  unfold gd_out
  rw [arrV_new]
  refine congrArg (arrV cO N) (funext fun j => ?_)
  rw [if_neg (Nat.not_lt_zero j)]
  rfl
theorem gd_in_new (cI : ClassId) (K : Nat) : ({ cls := cI, slots := Array.replicate K (.int 0), vm := .none } : Cell) = gd_in cI K := arrV_new ..
theorem gd_out_next (cO : ClassId) (N h i : Nat) : (gd_out cO N h i).setSlot i (.ref (h + 1 + i)) = gd_out cO N h (i + 1) := by
  unfold gd_out
  rw [arrV_store]
  refine congrArg (arrV cO N) (funext fun j => ?_)
  unfold updV
  by_cases e : j = i
  · rw [if_pos e, if_pos (show j < i + 1 by omega), e]
    rfl
  · rw [if_neg e]
    show va_rf (if j < i then some (h + 1 + j) else none) = va_rf (if j < i + 1 then some (h + 1 + j) else none)
    by_cases h9 : j < i
    · rw [if_pos h9, if_pos (show j < i + 1 by omega)]
    · rw [if_neg h9, if_neg (show ¬ j < i + 1 by omega)]
/-- the state when i rows lie -/
def gd_st (T : State) (cO cI : ClassId) (N K : Nat) : Nat → State
  | 0 => T.pushCell (gd_out cO N T.heap.size 0)
  | i + 1 => ((gd_st T cO cI N K i).pushCell (gd_in cI K)).setCell T.heap.size (gd_out cO N T.heap.size (i + 1))
/-- what is to be read off it -/
def gd_ok (T : State) (cO cI : ClassId) (N K i : Nat) (U : State) : Prop :=
  U.heap.size = T.heap.size + 1 + i ∧ U.heap[T.heap.size]? = some (gd_out cO N T.heap.size i) ∧ U.vm = T.vm ∧ U.slotsUsed = T.slotsUsed + N + i * K ∧
  (∀ x : Nat, x < T.heap.size → U.heap[x]? = T.heap[x]?) ∧ ∀ j : Nat, j < i → U.heap[T.heap.size + 1 + j]? = some (gd_in cI K)
theorem gd_ok_zero (T : State) (cO cI : ClassId) (N K : Nat) : gd_ok T cO cI N K 0 (T.pushCell (gd_out cO N T.heap.size 0)) :=
  ⟨State.heap_size_pushCell _ _, State.heap_pushCell_size _ _, rfl, by rw [Nat.zero_mul]; show T.slotsUsed + (gd_out cO N T.heap.size 0).slots.size = _; rw [gd_out_size]; rfl,
    fun x hx => State.heap_pushCell_of_lt _ _ hx, fun j hj => absurd hj (Nat.not_lt_zero j)⟩
theorem gd_ok_next {T U : State} {cO cI : ClassId} {N K i : Nat} (h : gd_ok T cO cI N K i U) : gd_ok T cO cI N K (i + 1) ((U.pushCell (gd_in cI K)).setCell T.heap.size (gd_out cO N T.heap.size (i + 1))) := by
  obtain ⟨f1, f2, f3, f4, f5, f6⟩ := h
  have g0 : T.heap.size < U.heap.size := by omega
  have hV : (U.pushCell (gd_in cI K)).heap[T.heap.size]? = some (gd_out cO N T.heap.size i) := by
    rw [State.heap_pushCell_of_lt (h := g0)]
    exact f2
  have hold : ∀ x : Nat, x ≠ T.heap.size → x < U.heap.size → ((U.pushCell (gd_in cI K)).setCell T.heap.size (gd_out cO N T.heap.size (i + 1))).heap[x]? = U.heap[x]? := fun x h1 h2 => by
    rw [State.heap_setCell_other (fun q => h1 q.symm), State.heap_pushCell_of_lt (h := h2)]
  refine ⟨?_, State.heap_setCell_self hV, f3, ?_, fun x hx => ?_, fun j hj => ?_⟩
  · simp [State.setCell, f1]
    omega
  · show U.slotsUsed + (gd_in cI K).slots.size = _
    rw [gd_in_size, f4, Nat.succ_mul]
    omega
  · rw [hold x (Nat.ne_of_lt hx) (by omega)]
    exact f5 x hx
  · by_cases e : j = i
    · subst e
      rw [State.heap_setCell_other (show T.heap.size ≠ T.heap.size + 1 + j by omega), ← f1]
      exact State.heap_pushCell_size _ _
    · rw [hold (T.heap.size + 1 + j) (by omega) (by omega)]
      exact f6 j (by omega)
theorem gd_ok_st (T : State) (cO cI : ClassId) (N K : Nat) : ∀ i, gd_ok T cO cI N K i (gd_st T cO cI N K i)
  | 0 => gd_ok_zero T cO cI N K
  | i + 1 => gd_ok_next (gd_ok_st T cO cI N K i)
theorem gd_st_top (T : State) (f : JFrame) (cO cI : ClassId) (N K : Nat) : ∀ i, gd_st (T.setTop f) cO cI N K i = (gd_st T cO cI N K i).setTop f
  | 0 => rfl
  | i + 1 => by
    show ((gd_st (T.setTop f) cO cI N K i).pushCell (gd_in cI K)).setCell T.heap.size (gd_out cO N T.heap.size (i + 1)) = _
    rw [gd_st_top T f cO cI N K i]
    rfl
section GRID
variable {E : CtlPost} {e : Env} {d : Bool} {acts : List Action} {U : State}
/-- one row -/
theorem gd_row {cI cc : ClassId} {kI : Class} {k : Int32} (hkI : U.vm.classes[cI]? = some kI) (hI : kI.kind = .array cc .int) (hk : ¬ k < 0) (l2 : ¬ k.toNatClampNeg > e.platform.arrayLengthLimit) (b2 : ¬ k.toNatClampNeg * 4 > e.platform.maxHeapBytes)
    (r1 : U.heap.size < e.platform.maxCells) (r2 : U.slotsUsed + k.toNatClampNeg ≤ e.platform.maxSlots) {Q : Addr → Pre} (hq : ∀ acts', Q U.heap.size d acts' (U.pushCell (gd_in cI k.toNatClampNeg))) :
    wp (multianewarray.make cI [k]) Q E e d acts U := by
  rw [multianewarray.make]
  simp only [wp_bind', W.ite, hk, if_false, wp_pure', W.theClass, hkI, hI, Option.some.injEq, exists_eq_left']
  refine W.newArray_of hkI hI l2 b2 r1 r2 rfl fun acts' => ?_
  have h := hq acts'
  rw [← gd_in_new] at h
  exact h
/-- the outer array and its rows -/
theorem gd_make {cO cI cc : ClassId} {kO kI : Class} {n k : Int32} (hkO : U.vm.classes[cO]? = some kO) (hO : kO.kind = .array cI (.array .int)) (hkI : U.vm.classes[cI]? = some kI) (hI : kI.kind = .array cc .int) (hn : ¬ n < 0) (hk : ¬ k < 0)
    (l1 : ¬ n.toNatClampNeg > e.platform.arrayLengthLimit) (b1 : ¬ n.toNatClampNeg * 4 > e.platform.maxHeapBytes) (l2 : ¬ k.toNatClampNeg > e.platform.arrayLengthLimit) (b2 : ¬ k.toNatClampNeg * 4 > e.platform.maxHeapBytes)
    (r1 : U.heap.size + 1 + n.toNatClampNeg ≤ e.platform.maxCells) (r2 : U.slotsUsed + n.toNatClampNeg + n.toNatClampNeg * k.toNatClampNeg ≤ e.platform.maxSlots)
    {Q : Addr → Pre} (hq : ∀ (d' : Bool) (acts' : List Action), Q U.heap.size d' acts' (gd_st U cO cI n.toNatClampNeg k.toNatClampNeg n.toNatClampNeg)) :
    wp (multianewarray.make cO [n, k]) Q E e d acts U := by
  generalize hN : n.toNatClampNeg = N at l1 b1 r1 r2 hq ⊢
  generalize hK : k.toNatClampNeg = K at l2 b2 r2 hq ⊢
  have hno : ([k].find? (· < 0)) = none := by simp [hk]
  rw [multianewarray.make]
  simp only [wp_bind', W.ite, hn, if_false, wp_pure', W.theClass, hkO, hO, Option.some.injEq, exists_eq_left', hN]
  refine W.newArray_of hkO hO l1 b1 (by omega) (by omega) rfl fun acts0 => ?_
  simp only [hno]
  rw [ite_self, wp_bind', Std.Legacy.Range.forIn_eq_forIn_range', show ([:N] : Std.Legacy.Range).size = N by simp [Std.Legacy.Range.size]]
  show wp (forIn (List.range' 0 N 1) PUnit.unit _) _ E e d acts0 _
  refine wp_forIn_inv (fun rest V => ∃ i, i ≤ N ∧ rest = List.range' i (N - i) ∧ V = gd_st U cO cI N K i) _ _ ⟨0, Nat.zero_le _, rfl, ?_⟩ ?_ ?_
  · show U.pushCell _ = U.pushCell _
    rw [← gd_out_new]
  · rintro x rest V d1 acts1 Q1 ⟨i, hi, hl, rfl⟩ hnext
    obtain ⟨m, hm⟩ : ∃ m, N - i = m + 1 := by
      cases hc : N - i with
      | zero => rw [hc] at hl; cases hl
      | succ m => exact ⟨m, rfl⟩
    rw [hm, List.range'_succ] at hl
    obtain ⟨rfl, rfl⟩ := List.cons.inj hl
    obtain ⟨f1, f2, f3, f4, f5, f6⟩ := gd_ok_st U cO cI N K x
    have hmul : x * K + K ≤ N * K := by
      have := Nat.mul_le_mul_right K (show x + 1 ≤ N by omega)
      rw [Nat.succ_mul] at this
      exact this
    simp only [wp_bind']
    refine gd_row (by rw [f3]; exact hkI) hI hk (by rw [hK]; exact l2) (by rw [hK]; exact b2) (by rw [f1]; omega) (by rw [f4, hK]; omega) fun acts2 => ?_
    rw [hK]
    have g0 : U.heap.size < (gd_st U cO cI N K x).heap.size := by rw [f1]; omega
    simp only [wp_bind', W.writeLoc, wp_pure']
    refine ⟨gd_out cO N U.heap.size x, by rw [State.heap_pushCell_of_lt (h := g0)]; exact f2, fun q => (by cases q), by rw [gd_out_size]; omega, ?_, hnext _ _ _ ⟨x + 1, by omega, by rw [show N - (x + 1) = m by omega], ?_⟩⟩
    · simp [State.fitsSlot, State.slotType?, f3, hkO, hO, gd_out, arrV, fits]
    · rw [f1, gd_out_next]
      rfl
  · rintro V d1 acts1 ⟨i, hi, hl, rfl⟩
    have hz : i = N := by
      cases hc : N - i with
      | zero => omega
      | succ m => rw [hc, List.range'_succ] at hl; cases hl
    subst hz
    simp only [wp_pure']
    exact hq _ _
end GRID
theorem gd_over {args : Array Value} {first U : State} {o : Option Outcome} {idx : List Nat} (h : (Cond.arrayOver (.array .int)).holds args first o U idx = true) :
    ∃ cI cO kO, U.vm.findClass (FieldType.array .int).toString = some cI ∧ U.vm.classes[cO]? = some kO ∧ kO.kind = .array cI (.array .int) ∧ U.vm.findClass ("[" ++ (FieldType.array .int).toString) = some cO := by
  simp only [Cond.holds, Cond.value, beq_iff_eq] at h
  obtain ⟨cI, h1, h⟩ := Option.bind_eq_some_iff.mp h
  obtain ⟨cO, h2, h⟩ := Option.bind_eq_some_iff.mp h
  obtain ⟨kO, h3, h⟩ := Option.map_eq_some_iff.mp h
  obtain ⟨hlt, h4, -⟩ := Array.findIdx?_eq_some_iff_getElem.mp h2
  rw [(Array.getElem?_eq_some_iff.mp h3).2] at h4
  refine ⟨cI, cO, kO, h1, h3, ?_⟩
  split at h
  · next c1 ty hq =>
    rw [hq] at h4 ⊢
    have h5 : c1 = cI := by simpa using h4
    have h6 : ty = .array .int ∧ U.vm.findClass ("[" ++ (FieldType.array .int).toString) = some cO := by simpa using h
    rw [h5, h6.1]
    exact ⟨rfl, h6.2⟩
  · cases h
section GSTEP
variable {p : Program} {l : Launch} {e : Env} {R : Room} {s : State} {m : MethodId} {args : Array Value} {below : List Frame} {meth : Method} {c : Code} {T : State} {locs : List Loc} {cells slots : Nat}
theorem gd_stand (X : Stand p l e R s m args below meth c T locs cells slots) (cO cI : ClassId) (N K : Nat) : ∀ i, Stand p l e R s m args below meth c (gd_st T cO cI N K i) locs (cells + 1 + i) (slots + N + i * K)
  | 0 => by
    have h := X.pushed (gd_out cO N T.heap.size 0)
    rw [gd_out_size] at h
    rw [Nat.zero_mul]
    exact h
  | i + 1 => by
    have hi := (gd_stand X cO cI N K i).pushed (gd_in cI K)
    obtain ⟨f1, f2, -, -, -, -⟩ := gd_ok_st T cO cI N K i
    have hc : ((gd_st T cO cI N K i).pushCell (gd_in cI K)).heap[T.heap.size]? = some (gd_out cO N T.heap.size i) := by
      have g0 : T.heap.size < (gd_st T cO cI N K i).heap.size := by rw [f1]; omega
      rw [State.heap_pushCell_of_lt (h := g0)]
      exact f2
    have h := (hi.stored hc i (.ref (T.heap.size + 1 + i))).dropFresh (fun x hx => by
      rw [List.mem_singleton.mp hx]
      exact X.heapGrown)
    rw [gd_out_next, gd_in_size] at h
    rw [show slots + N + (i + 1) * K = slots + N + i * K + K by rw [Nat.succ_mul]; omega]
    exact h
theorem gd_step (X : Stand p l e R s m args below meth c T locs cells slots) (hexec : p.tables.exec = Jvm.exec) {own : String} {index : Nat} (hown : s.vm.findClass own = some m.cls)
    (hclink : (Cond.classLink own index ("[" ++ (FieldType.array .int).toString)).before args s = true) (hover : (Cond.arrayOver (.array .int)).before args s = true) (harr : (Cond.arrayClass .int).before args s = true)
    {g : JFrame} (hg : g.method = m) (hdg : decode c.code g.pc = .ok (.multianewarray index 2, 4)) {n k : Int32} {rest : List Value} (hstack : g.stack = .int k :: .int n :: rest) (hn : ¬ n < 0) (hk : ¬ k < 0)
    (b1 : n.toNatClampNeg * 4 ≤ 536870912) (b2 : k.toNatClampNeg * 4 ≤ 536870912) (hcells : cells + (1 + n.toNatClampNeg) ≤ R.cells) (hslots : slots + (n.toNatClampNeg + n.toNatClampNeg * k.toNatClampNeg) ≤ R.slots) :
    ∃ (F : State) (cO cI : ClassId), s.vm.findClass ("[" ++ (FieldType.array .int).toString) = some cO ∧ s.vm.findClass (FieldType.array .int).toString = some cI ∧
      F.heap.size = T.heap.size + 1 + n.toNatClampNeg ∧ F.heap[T.heap.size]? = some (gd_out cO n.toNatClampNeg T.heap.size n.toNatClampNeg) ∧ (∀ x : Nat, x < T.heap.size → F.heap[x]? = T.heap[x]?) ∧
      (∀ j : Nat, j < n.toNatClampNeg → F.heap[T.heap.size + 1 + j]? = some (gd_in cI k.toNatClampNeg)) ∧
      Stand p l e R s m args below meth c F locs (cells + 1 + n.toNatClampNeg) (slots + n.toNatClampNeg + n.toNatClampNeg * k.toNatClampNeg) ∧
      ∀ target, Steps p.tables e below (F.setTop { g with pc := g.pc + 4, stack := .ref T.heap.size :: rest }) target → Steps p.tables e below (T.setTop g) target := by
  subst hg
  obtain ⟨cI, cO, kO, hfI, hkO, hO, hfO⟩ := gd_over hover
  obtain ⟨c9, kI, cc, hfI2, hkI, hI⟩ := Cond.arrayClass_spec harr
  obtain rfl : c9 = cI := Option.some.inj (Eq.trans (Eq.symm hfI2) hfI)
  obtain ⟨c8, hfO2, hcl⟩ := Cond.classLink_spec hown hclink e.platform (by rw [X.admits.platform])
  obtain rfl : c8 = cO := Option.some.inj (Eq.trans (Eq.symm hfO2) hfO)
  obtain ⟨hgives, hwarm, -⟩ := State.classEntry (e := e) X.warmed hcl
  generalize T.vm.noted g.method.cls index (.cls c8) = vm₁ at hgives hwarm
  obtain ⟨kO1, hkO1, eO⟩ := hwarm.alike.2.2 _ _ hkO
  obtain ⟨kI1, hkI1, eI⟩ := hwarm.alike.2.2 _ _ hkI
  obtain ⟨rc, rs⟩ := X.roomAbove hcells hslots
  have X1 := X.noted hwarm
  have XF := gd_stand X1 c8 c9 n.toNatClampNeg k.toNatClampNeg n.toNatClampNeg
  obtain ⟨f1, f2, -, -, f5, f6⟩ := gd_ok_st (T.setVm vm₁) c8 c9 n.toNatClampNeg k.toNatClampNeg n.toNatClampNeg
  refine ⟨gd_st (T.setVm vm₁) c8 c9 n.toNatClampNeg k.toNatClampNeg n.toNatClampNeg, c8, c9, hfO, hfI, f1, f2, f5, f6, XF, fun target hrest => ?_⟩
  have hl := Launch.admits_arrayLengthLimit X.admits
  have hh := Launch.admits_maxHeapBytes X.admits
  jvm_step X.here [hexec, hdg]
  simp only [multianewarray.sem, wp_bind', W.resolveClassAt_links (State.method?_setTop g X.here.top) hgives]
  rw [W.popN, if_neg (by decide)]
  refine ⟨g, State.topJava?_setTop' (s := T.setVm vm₁) g X.here.top, [.int n, .int k], rest, rfl, hstack, ?_⟩
  simp only [List.mapM_cons, List.mapM_nil, wp_bind', wp_pure']
  refine gd_make (cc := cc) hkO1 (by rw [eO]; exact hO) hkI1 (by rw [eI]; exact hI) hn hk (by rw [hl]; omega) (by rw [hh]; omega) (by rw [hl]; omega) (by rw [hh]; omega)
    (by show T.heap.size + 1 + _ ≤ _; omega) (by show T.slotsUsed + _ + _ ≤ _; omega) fun d1 acts1 => ?_
  rw [show ((T.setTop g).setVm vm₁).setTop { g with stack := rest } = (T.setVm vm₁).setTop { g with stack := rest } from State.setTop_setTop (T.setVm vm₁) g _, gd_st_top]
  simp only [wp_bind', W.mark, W.pushRef, State.topJava?_setTop' _ XF.here.top, Option.some.injEq, exists_eq_left', State.setTop_setTop, State.heap_setTop]
  intro acts2
  simp [jvm, XF.here.top]
  exact hrest
end GSTEP
