/-! THE CLAIM OUT OF ONE WALK OF THE LAW'S BODY. Your part is whole_start (and what it stands on); all else here is the same for every law, but numbers. -/
def R_law : String := "LayeredClaimsLaw"
def lw_P (b : Addr) (xs : List Int32) (args : Array Value) (s : State) : Prop := args = #[.ref b] ∧ s.IntsAt b xs ∧ xs.length ≤ 2560 ∧ (Jvm.Cond.and given_1 narrow_1).before args s = true
/-- what a walk over the start with the record d0 says of its end, said of the start itself -/
theorem lw_closed {s t : State} {o : Outcome} {d0 : Drawn} {L : List Loc} {k n : Nat} (hd0 : s.drawn.sameBut d0 lw_cs) (hv : ∃ v, o = .returned v) (hW : (s.setDrawn d0).WarmedH t.vm) (hs : (s.setDrawn d0).sameButNew ({ t with vm := s.vm } : State) L k n) : State.butDraws s t lw_cs (fun t1 => Framed s o t1 L k n) := by
  have h2 : t.drawn = d0 := congrArg State.drawn hs.1
  refine ⟨⟨hv, hW, State.sameButNew.setDrawn hs s.drawn⟩, ?_, by decide⟩
  rw [h2]
  exact hd0
def lw_Q (_ : Array Value) (s : State) (o : Outcome) (t : State) : Prop := o = .returned (some (.int 1)) ∧ State.butDraws s t lw_cs (fun t1 => Framed s o t1 [] 600000 7302250)
def lw_Z (below : List Frame) (a : Array Value) (s : State) : State → Prop := fun t => ∃ o, t.status = .running ∧ Ended t below o ∧ lw_Q a s o t
/-- the law's own end, with 1 on the stack, nothing written that was there before, its room as the claim has it; d0: the record of draws at this point (at the entry s.drawn: begin with 'refine W.base ?_' and 'have hd0 := Drawn.sameBut.refl s.drawn lw_cs') -/
theorem lw_ret {p : Program} {l : Launch} {e : Env} {s : State} {m : MethodId} {below : List Frame} {meth : Method} {c : Code} {b : Nat} {d0 : Drawn} (hd0 : s.drawn.sameBut d0 lw_cs) (hx : p.tables.exec = Jvm.exec) (hb : c.code = code) (hr : meth.sig.returnType = ret) (hlocks : meth.locks = false) {pc : Nat} {H : Heap} {ls : Array Slot} (hdg : decode code pc = .ok (.ireturn, 1)) : W p l e room_1 (s.setDrawn d0) m #[Value.ref b] below meth c H [] 600000 7302250 (lw_Z below #[Value.ref b] s) (F0 m pc ls [.int 1]) := by
  intro T hT X
  obtain ⟨fs, hret, hrun, hended, hW, hframe⟩ := X.leave (v := some (.int 1)) (hlocks := hlocks) (fun h => by rw [hr] at h; cases h)
  have hmeth' : T.vm.method? m = some meth := X.method'
  refine ⟨T.setFrames fs, ?_, .returned (some (.int 1)), hrun, hended, rfl, lw_closed hd0 ⟨_, rfl⟩ hW hframe⟩
  jvm_step X.here [X.here.top, hx, hb, hdg, hmeth', hr, ret, narrow_b1]
  (try refine ⟨rfl, ?_⟩); (try refine ⟨rfl, ?_⟩)
  first | (intro acts; rw [hret _ acts rfl rfl rfl]) | rw [hret _ _ rfl rfl rfl]
  exact Steps.refl _
/-- what holds at the law's entry: the machine, the code, the tables' words (any of lw_tbl by 'hts w (by decide +kernel)'), the script of L ints xs at the cell b, what the Statement gives of the start (any of its parts by flat_of_before) -/
def lw_At (p : Program) (s : State) (m : MethodId) (meth : Method) (c : Code) (b L : Nat) (xs : Nat → Int32) : Prop :=
  p.tables.exec = Jvm.exec ∧ c.code = code ∧ meth.sig.returnType = ret ∧ c.maxLocals = 4 ∧ s.vm.findClass R_law = some m.cls ∧ (∀ w ∈ lw_tbl, w.before #[Value.ref b] s = true) ∧ va_X b L xs s s.heap ∧ b < s.heap.size ∧ meth.locks = false ∧ (Jvm.Cond.and given_1 narrow_1).before #[Value.ref b] s = true
theorem law_head {G : GT} {A : Addr → Prop} {E : ET} {b : Nat} (X : NX G A E RL code 4 room_1)
    (k : ∀ (h : Nat) (y : Nat → Nat → Nat) (s : Nat → Nat) (hi tx ty g : Nat → Nat → Nat), NJ G A E 4 18 [(3, .int (0 : Int32)), (2, .ref (g 7 0)), (1, .ref h), (0, .ref b)] [] (lcW G h y s hi tx ty ++ mdW G g) 255 3516) : NJ G A E 4 0 [(0, .ref b)] [] ([] : va_W) 0 0 := by
  refine n_new X tyX6 (fs := bl6) (ci := 6) inA6 tyX6_ok (tw (i := 82) (by decide +kernel)) (tw (i := 83) (by decide +kernel)) (tw (i := 71) (by decide +kernel)) rfl df6 (kc' := 1) (ks' := 8) rfl rfl (Nat.le_of_ble_eq_true rfl) (Nat.le_of_ble_eq_true rfl) dL_law_0 (fun q1 => ?_)
  refine n_dup X dL_law_3 ?_
  refine n_callI (ws := ([] : va_W)) (fs0 := bl6) X (init_X6 (l := eL E)) (tw (i := 86) (by decide +kernel)) (tw (i := 71) (by decide +kernel)) (tw (i := 84) (by decide +kernel)) (tw (i := 85) (by decide +kernel)) rfl rfl rfl (by decide +kernel) (by decide) (Nat.le_of_ble_eq_true rfl) (kc' := 245) (ks' := 2130) rfl rfl (Nat.le_of_ble_eq_true rfl) (Nat.le_of_ble_eq_true rfl) dL_law_4 (fun w hw => ?_)
  obtain ⟨y, s, hi, tx, ty, rfl⟩ := hw
  show NJ G A E 4 7 [(0, .ref b)] [.ref q1] (lcW G q1 y s hi tx ty) 245 2130
  refine n_astore_n X [(1, .ref q1), (0, .ref b)] dL_law_7 rfl (by decide) rfl ?_
  refine n_new X tyX7 (fs := bl7) (ci := 7) inA7 tyX7_ok (tw (i := 866) (by decide +kernel)) (tw (i := 867) (by decide +kernel)) (tw (i := 78) (by decide +kernel)) rfl df7 (kc' := 246) (ks' := 2145) rfl rfl (Nat.le_of_ble_eq_true rfl) (Nat.le_of_ble_eq_true rfl) dL_law_8 (fun q2 => ?_)
  refine n_dup X dL_law_11 ?_
  refine n_callI (ws := lcW G q1 y s hi tx ty) (fs0 := bl7) X (init_X7 (l := eL E)) (tw (i := 870) (by decide +kernel)) (tw (i := 78) (by decide +kernel)) (tw (i := 868) (by decide +kernel)) (tw (i := 869) (by decide +kernel)) rfl rfl rfl (by decide +kernel) (by decide) (Nat.le_of_ble_eq_true rfl) (kc' := 255) (ks' := 3516) rfl rfl (Nat.le_of_ble_eq_true rfl) (Nat.le_of_ble_eq_true rfl) dL_law_12 (fun w hw => ?_)
  obtain ⟨g, eg, rfl⟩ := hw
  subst eg
  refine n_astore_n X [(2, .ref (g 7 0)), (1, .ref q1), (0, .ref b)] dL_law_15 rfl (by decide) rfl ?_
  refine n_iconst (v := (0 : Int32)) X (by decide) dL_law_16 ?_
  refine n_istore_n X [(3, .int (0 : Int32)), (2, .ref (g 7 0)), (1, .ref q1), (0, .ref b)] dL_law_17 rfl (by decide) rfl ?_
  exact k q1 y s hi tx ty g
/-- the tables' numbers, from what the Statement gives of the start -/
def dC8 (c0 c1 c2 c3 c4 c5 c6 c7 : ClassId) (i : Nat) : ClassId := match i with
  | 0 => c0 | 1 => c1 | 2 => c2 | 3 => c3 | 4 => c4 | 5 => c5 | 6 => c6 | _ => c7
def dI8 (c0 c1 c2 c3 c4 c5 c6 c7 : Nat → Nat) (i : Nat) : Nat → Nat := match i with
  | 0 => c0 | 1 => c1 | 2 => c2 | 3 => c3 | 4 => c4 | 5 => c5 | 6 => c6 | _ => c7
def dY5 (c0 c1 c2 c3 c4 : ClassId) (i : Nat) : ClassId := match i with
  | 0 => c0 | 1 => c1 | 2 => c2 | 3 => c3 | _ => c4
theorem arr_of {s : State} {A : Array Value} {ty : FieldType} (hty : ∀ U c, U.vm.findClass ("[" ++ ty.toString) = some c → va_RA U c ty) (h : (Cond.arrayClass ty).before A s = true) : ∃ c : ClassId, ArrOfT s c ty ∧ va_RA s c ty := by
  obtain ⟨c, k, comp, h1, h2, h3⟩ := Cond.arrayClass_spec h
  exact ⟨c, fun N z => ⟨fun q h => (by cases h), k, h2, comp, h3⟩, hty s c h1⟩
theorem known_0 {s : State} {A : Array Value} (hts : ∀ w ∈ lw_tbl, w.before A s = true) : ∃ (D : va_G) (cy : Nat → ClassId), ∀ (x : Nat → Nat → Nat) (R : Addr → Prop), KC (D, cy, x, R) s := by
  obtain ⟨c0, i0, k0⟩ := u_known hts inX0 (hts (.instantiable RX0 19) (List.mem_of_getElem? (i := 97) (by decide +kernel)))
  obtain ⟨c1, i1, k1⟩ := u_known hts inX1 (hts (.instantiable RX1 3) (List.mem_of_getElem? (i := 285) (by decide +kernel)))
  obtain ⟨c2, i2, k2⟩ := u_known hts inX2 (hts (.instantiable RX2 3) (List.mem_of_getElem? (i := 201) (by decide +kernel)))
  obtain ⟨c3, i3, k3⟩ := u_known hts inX3 (hts (.instantiable RX3 7) (List.mem_of_getElem? (i := 304) (by decide +kernel)))
  obtain ⟨c4, i4, k4⟩ := u_known hts inX4 (hts (.instantiable RX4 2) (List.mem_of_getElem? (i := 340) (by decide +kernel)))
  obtain ⟨c5, i5, k5⟩ := u_known hts inX5 (hts (.instantiable RX5 16) (List.mem_of_getElem? (i := 91) (by decide +kernel)))
  obtain ⟨c6, i6, k6⟩ := u_known hts inX6 (hts (.instantiable RX6 8) (List.mem_of_getElem? (i := 83) (by decide +kernel)))
  obtain ⟨c7, i7, k7⟩ := u_known hts inX7 (hts (.instantiable RX7 15) (List.mem_of_getElem? (i := 867) (by decide +kernel)))
  obtain ⟨y0, a0, r0⟩ := arr_of (ty := .int) (fun _ _ h => h) (hts _ (List.mem_of_getElem? (i := 197) (by decide +kernel)))
  obtain ⟨y1, a1, r1⟩ := arr_of (ty := .char) (fun _ _ h => h) (hts _ (List.mem_of_getElem? (i := 338) (by decide +kernel)))
  obtain ⟨y2, a2, r2⟩ := arr_of (ty := .long) (fun _ _ h => h) (hts _ (List.mem_of_getElem? (i := 218) (by decide +kernel)))
  have o3 : (Cond.arrayOver (.object RX0)).before A s = true := hts _ (List.mem_of_getElem? (i := 291) (by decide +kernel))
  have o4 : (Cond.arrayOver (.array .int)).before A s = true := hts _ (List.mem_of_getElem? (i := 199) (by decide +kernel))
  obtain ⟨p3, y3, q3, e1, -, e3, e4, e5⟩ := Cond.arrayOver_spec o3
  obtain ⟨p4, y4, q4, -, g3, g4, g5⟩ := gd_over o4
  refine ⟨(dC8 c0 c1 c2 c3 c4 c5 c6 c7, dI8 i0 i1 i2 i3 i4 i5 i6 i7), dY5 y0 y1 y2 y3 y4, fun x R => ⟨⟨⟨fun c q hq => ?_, fun k q hq => ?_⟩, fun w hw => ?_⟩, o4, o3⟩⟩
  · match c, hq with
    | 0, hq => cases hq; exact k0
    | 1, hq => cases hq; exact k1
    | 2, hq => cases hq; exact k2
    | 3, hq => cases hq; exact k3
    | 4, hq => cases hq; exact k4
    | 5, hq => cases hq; exact k5
    | 6, hq => cases hq; exact k6
    | 7, hq => cases hq; exact k7
    | n + 8, hq => exact absurd (List.getElem?_eq_some_iff.mp hq).1 (by show ¬ n + 8 < 8; omega)
  · match k, hq with
    | 0, hq => cases hq; exact ⟨a0, r0⟩
    | 1, hq => cases hq; exact ⟨a1, r1⟩
    | 2, hq => cases hq; exact ⟨a2, r2⟩
    | 3, hq => cases hq; exact ⟨fun N z => ⟨fun q h => (by cases h), q3, e3, p3, e4⟩, q3, p3, e3, e4, e1, e5⟩
    | 4, hq => cases hq; exact ⟨fun N z => ⟨fun q h => (by cases h), q4, g3, p4, g4⟩, g5⟩
    | n + 5, hq => exact absurd (List.getElem?_eq_some_iff.mp hq).1 (by show ¬ n + 5 < 5; omega)
  · obtain ⟨a, i, x, y, rfl⟩ := nest_of hw
    exact va_Nw.of rfl (hts _ (List.mem_filter.mp hw).1)
set_option maxHeartbeats 4000000 in
set_option maxRecDepth 100000 in
theorem whole_start {p : Program} {e : Env} {s : State} {m : MethodId} {below : List Frame} {meth : Method} {c : Code} (l : Launch) (hflags : l.flags = flags0) {b L : Nat} {xs : Nat → Int32} (hL : L ≤ 2560) (C0 : lw_At p s m meth c b L xs) : W p l e room_1 s m #[Value.ref b] below meth c s.heap [] 0 0 (lw_Z below #[Value.ref b] s) (entryFrame m ([Value.ref b] : List Value).toArray 4) := by
  obtain ⟨hx, hb, hr, hml, hown, hts, hX, hbl, hlocks, hgv⟩ := C0
  obtain ⟨D, cy, hKC⟩ := known_0 hts
  refine W.base ?_
  have hd0 := Drawn.sameBut.refl s.drawn lw_cs
  rw [lg_entry_eq]
  have X : NX (D, cy, (fun _ _ => 0), (fun q => s.heap.size ≤ q)) (fun q => s.heap.size ≤ q) (p, l, e, room_1, s.setDrawn s.drawn, m, #[Value.ref b], below, meth, c, s.heap, 600000, 7302250, lw_Z below #[Value.ref b] s) RL code 4 room_1 :=
    ⟨hx, hb, hml, hown, fun w h => hts w (List.mem_filter.mp h).1, hKC _ _, fun q h => h, rfl⟩
  refine law_head (b := b) X (fun h y sv hi tx ty g => ?_) s.heap [] _ (fun k q hq => (by cases hq)) ⟨fun i j x y hi _ _ => (by cases hi), fun k q hq => (by cases hq)⟩ va_S.rf (lv_entry [.ref b] (Nat.le_of_ble_eq_true rfl))
  intro H locs ls hP hD hS hl
  rw [all_ad (A2 := (fun q => s.heap.size ≤ q))] at hP hD
  obtain ⟨hPw, hGD⟩ := made_w (G := (D, cy, adF h y sv hi tx ty g, (fun q => s.heap.size ≤ q))) rfl hP hD
  have hl2 : lv_has ls 4 [(0, .ref b), (1, .ref h), (2, .ref (g 7 0)), (3, .int (0 : Int32))] := lv_sub hl [3, 2, 1, 0] rfl
  refine W.widen (k := 600000) (n := 7302250) (Nat.le_of_ble_eq_true rfl) (Nat.le_of_ble_eq_true rfl) ?_
  have Y : CX (D, cy, adF h y sv hi tx ty g, (fun q => s.heap.size ≤ q)) (p, l, e, room_1, s.setDrawn s.drawn, m, #[Value.ref b], below, meth, c, s.heap, 600000, 7302250, lw_Z below #[Value.ref b] s) RL code 4 room_1 :=
    ⟨hx, hb, hml, hown, fun w h => hts w (List.mem_filter.mp h).1, (hKC _ _).1, hGD, rfl, Nat.le_refl _, Nat.le_refl _⟩
  exact law_walk Y (b := b) (L := L) (xs := xs) ⟨hX, hbl, fun h => Nat.not_le_of_lt hbl h⟩ (fun pc H locs ls d hS => va_forget (fun q h => hS.2.2 q h) (lw_ret hd0 hx hb hr hlocks d)) 0 zM0 (law_true hL xs inv_0) H locs ls hPw hS hl2
