/-- LayeredClaims$Year.partOfBurden(II)I -/
def wp_X5_partOfBurden (a1 : Int32) (a2 : Int32) (M : Mm) (P : Int32 → Mm → Prop) : Prop := (((rd M 0 0 5) ≤ a2 → (vp_in a1 8 ∧ P (rd M 133 0 a1.toNatClampNeg) M)) ∧ (¬ (rd M 0 0 5) ≤ a2 → (vp_in a1 8 ∧ (a1.toNatClampNeg < 8 ∧ (vp_in a2 4 ∧ P (rd M 331 a1.toNatClampNeg a2.toNatClampNeg) M)))))
set_option maxHeartbeats 4000000 in
set_option maxRecDepth 100000 in
theorem met_X5_partOfBurden {l : Launch} {G : GT} (hG : GD G) (a1 : Int32) (a2 : Int32) (M : Mm) (P : Int32 → Mm → Prop) (h : wp_X5_partOfBurden a1 a2 M P) : MI l G yX5_partOfBurden cX5_partOfBurden 3 (some .int) ({ frames := 0, cells := 0, slots := 0, locals := 0 } : Room) [.ref (adr G 5 0), .int a1, .int a2] M P := by
  refine met_by hG (own := RX5) rfl (by decide +kernel) (Nat.le_of_ble_eq_true rfl) (fun E hE X Y => ?_)
  show J G E 3 0 [(0, .ref (adr G 5 0)), (1, .int a1), (2, .int a2)] [] M
  unfold wp_X5_partOfBurden at h
  refine j_iload_n X 2 dX5_partOfBurden_0 rfl rfl ?_
  refine j_aload_n X 0 dX5_partOfBurden_1 rfl rfl ?_
  refine jf_RX5_12 X  dX5_partOfBurden_2 ?_
  refine jf_RX5_83 X (by decide) dX5_partOfBurden_5 ?_
  refine j_icmp_ge X 22 dX5_partOfBurden_8 (by decide) (fun c1 => ?_) (fun c1 => ?_)
  · replace h := h.1 c1
    refine j_aload_n X 0 dX5_partOfBurden_22 rfl rfl ?_
    refine jf_RX5_57 X  dX5_partOfBurden_23 ?_
    refine j_iload_n X 1 dX5_partOfBurden_26 rfl rfl ?_
    have q2 := h.1
    replace h := h.2
    refine j_iald X _ rfl (mw133 0 (by decide)) kt133 lt133 q2 dX5_partOfBurden_27 ?_
    exact j_iret X Y dX5_partOfBurden_28 h
  · replace h := h.2 c1
    refine j_aload_n X 0 dX5_partOfBurden_11 rfl rfl ?_
    refine jf_RX5_51 X  dX5_partOfBurden_12 ?_
    refine j_iload_n X 1 dX5_partOfBurden_15 rfl rfl ?_
    have q3 := h.1
    replace h := h.2
    refine j_aaldI X (mw131 0 (by decide)) kt131 lt131 q3 dX5_partOfBurden_16 ?_
    refine j_iload_n X 2 dX5_partOfBurden_17 rfl rfl ?_
    have q4 := h.1
    replace h := h.2
    have q5 := h.1
    replace h := h.2
    refine j_iald X _ rfl (mw331 a1.toNatClampNeg q4) kt331 lt331 q5 dX5_partOfBurden_18 ?_
    refine j_goto X 28 dX5_partOfBurden_19 (by decide) ?_
    exact j_iret X Y dX5_partOfBurden_28 h
theorem jc_RX6_269 {G : GT} {E : ET} {cc : ByteArray} {nL pc : Nat} {rm : Room} {lv : List (Nat × Value)} {st : List Value} {M : Mm} (X : CX G E RX6 cc nL rm) (hR : 0 + 1 ≤ rm.frames ∧ 8 + (3 + 11) + 0 ≤ rm.locals) (hst : (st.map fun v => v.category).sum ≤ 8) (d : decode cc pc = .ok (.invokevirtual 269, 3)) {a1 : Int32} {a2 : Int32} {P : Int32 → Mm → Prop} (h : wp_X5_partOfBurden a1 a2 M P) (k1 : ∀ (r : Int32) (M2 : Mm), P r M2 → J G E nL (pc + 3) lv (.int r :: st) M2) : J G E nL pc lv (.int a2 :: .int a1 :: .ref (adr G 5 0) :: st) M := fun H locs ls hP hS hl => by
  have hK := X.2.2.2.2.2.1.1
  have hm := met_X5_partOfBurden (l := eL E) X.2.2.2.2.2.2.1 a1 a2 M P h
  have hR2 : 0 + 1 ≤ (eR E).frames ∧ 8 + (3 + 11) + 0 ≤ (eR E).locals := by rw [X.2.2.2.2.2.2.2.1]; exact hR
  have hC2 : eCells E + 0 ≤ (eR E).cells ∧ eSlots E + 0 ≤ (eR E).slots := by rw [X.2.2.2.2.2.2.2.1]; exact ⟨X.2.2.2.2.2.2.2.2.1, X.2.2.2.2.2.2.2.2.2⟩
  obtain ⟨q0, -, hq⟩ := wld_get (G := G) M (mw5 0 (by decide))
  exact va_calli (va_runV (C := RX5) (As := [.int a1, .int a2]) (rest := st) ⟨X.1, X.2.1, X.2.2.1, X.2.2.2.1, X.2.2.2.2.1⟩ hm (cwV (ws' := lw_aw) 2 X.2.2.2.2.1 (gwV (tw (i := 712) (by decide +kernel)) (tw (i := 713) (by decide +kernel)) (tw (i := 714) (by decide +kernel)) (tw (i := 72) (by decide +kernel)) (tw (i := 715) (by decide +kernel))) rfl rfl rfl (by decide +kernel) hR2) ⟨hr_blind, va_recv hK hP (ci := 5) (q := (RX5, TX5, 16)) (fs := objF5 G 0 (M.1 5 0)) (q0 := q0) rfl hq, fun U hU hW => ⟨rfl, by rw [hU]; exact hP, KK.warm hW X.2.2.2.2.2.1⟩⟩ rfl rfl hl.1 rfl (lv_room hst) d hC2) hS (fun q _ h => h) (fun q h => h) (fun r u t H1 locs1 ht hvm hw hB hz1 hk1 hS1 => k1 r u hw H1 locs1 ls (by rw [← ht]; exact hB.1) hS1 hl)
/-- LayeredClaims$Year.lossOfEvent(I)I -/
def wp_X5_lossOfEvent (a1 : Int32) (M : Mm) (P : Int32 → Mm → Prop) : Prop := (vp_in a1 8 ∧ (wp_X6_sumOf (324, a1.toNatClampNeg) (rd M 0 0 0) M (fun (r3 : Int32) (M2 : Mm) => P r3 M2)))
set_option maxHeartbeats 4000000 in
set_option maxRecDepth 100000 in
theorem met_X5_lossOfEvent {l : Launch} {G : GT} (hG : GD G) (a1 : Int32) (M : Mm) (P : Int32 → Mm → Prop) (h : wp_X5_lossOfEvent a1 M P) : MI l G yX5_lossOfEvent cX5_lossOfEvent 2 (some .int) ({ frames := 1, cells := 0, slots := 0, locals := 23 } : Room) [.ref (adr G 5 0), .int a1] M P := by
  refine met_by hG (own := RX5) rfl (by decide +kernel) (Nat.le_of_ble_eq_true rfl) (fun E hE X Y => ?_)
  show J G E 2 0 [(0, .ref (adr G 5 0)), (1, .int a1)] [] M
  unfold wp_X5_lossOfEvent at h
  refine j_aload_n X 0 dX5_lossOfEvent_0 rfl rfl ?_
  refine jf_RX5_30 X  dX5_lossOfEvent_1 ?_
  refine j_iload_n X 1 dX5_lossOfEvent_4 rfl rfl ?_
  have q1 := h.1
  replace h := h.2
  refine j_aaldI X (mw124 0 (by decide)) kt124 lt124 q1 dX5_lossOfEvent_5 ?_
  refine j_aload_n X 0 dX5_lossOfEvent_6 rfl rfl ?_
  refine jf_RX5_12 X  dX5_lossOfEvent_7 ?_
  refine jf_RX5_76 X (by decide) dX5_lossOfEvent_10 ?_
  refine jc_RX5_176 X ⟨Nat.le_of_ble_eq_true rfl, Nat.le_of_ble_eq_true rfl⟩ (Nat.le_of_ble_eq_true rfl) dX5_lossOfEvent_13 h (fun r3 M2 h => ?_)
  exact j_iret X Y dX5_lossOfEvent_16 h
theorem jc_RX6_206 {G : GT} {E : ET} {cc : ByteArray} {nL pc : Nat} {rm : Room} {lv : List (Nat × Value)} {st : List Value} {M : Mm} (X : CX G E RX6 cc nL rm) (hR : 1 + 1 ≤ rm.frames ∧ 8 + (2 + 11) + 23 ≤ rm.locals) (hst : (st.map fun v => v.category).sum ≤ 8) (d : decode cc pc = .ok (.invokevirtual 206, 3)) {a1 : Int32} {P : Int32 → Mm → Prop} (h : wp_X5_lossOfEvent a1 M P) (k1 : ∀ (r : Int32) (M2 : Mm), P r M2 → J G E nL (pc + 3) lv (.int r :: st) M2) : J G E nL pc lv (.int a1 :: .ref (adr G 5 0) :: st) M := fun H locs ls hP hS hl => by
  have hK := X.2.2.2.2.2.1.1
  have hm := met_X5_lossOfEvent (l := eL E) X.2.2.2.2.2.2.1 a1 M P h
  have hR2 : 1 + 1 ≤ (eR E).frames ∧ 8 + (2 + 11) + 23 ≤ (eR E).locals := by rw [X.2.2.2.2.2.2.2.1]; exact hR
  have hC2 : eCells E + 0 ≤ (eR E).cells ∧ eSlots E + 0 ≤ (eR E).slots := by rw [X.2.2.2.2.2.2.2.1]; exact ⟨X.2.2.2.2.2.2.2.2.1, X.2.2.2.2.2.2.2.2.2⟩
  obtain ⟨q0, -, hq⟩ := wld_get (G := G) M (mw5 0 (by decide))
  exact va_calli (va_runV (C := RX5) (As := [.int a1]) (rest := st) ⟨X.1, X.2.1, X.2.2.1, X.2.2.2.1, X.2.2.2.2.1⟩ hm (cwV (ws' := lw_aw) 1 X.2.2.2.2.1 (gwV (tw (i := 658) (by decide +kernel)) (tw (i := 659) (by decide +kernel)) (tw (i := 660) (by decide +kernel)) (tw (i := 72) (by decide +kernel)) (tw (i := 661) (by decide +kernel))) rfl rfl rfl (by decide +kernel) hR2) ⟨hr_blind, va_recv hK hP (ci := 5) (q := (RX5, TX5, 16)) (fs := objF5 G 0 (M.1 5 0)) (q0 := q0) rfl hq, fun U hU hW => ⟨rfl, by rw [hU]; exact hP, KK.warm hW X.2.2.2.2.2.1⟩⟩ rfl rfl hl.1 rfl (lv_room hst) d hC2) hS (fun q _ h => h) (fun q h => h) (fun r u t H1 locs1 ht hvm hw hB hz1 hk1 hS1 => k1 r u hw H1 locs1 ls (by rw [← ht]; exact hB.1) hS1 hl)
/-- LayeredClaims$Year.claimedFromCover(I)I -/
def wp_X5_claimedFromCover (a1 : Int32) (M : Mm) (P : Int32 → Mm → Prop) : Prop := (∃ n, lq3 (fun self1 (x3 : Int32) (x4 : Int32) (M5 : Mm) => (((rd M5 0 0 12) ≤ x4 → P x3 M5) ∧ (¬ (rd M5 0 0 12) ≤ x4 → (wp_X5_dueFromCover x4 a1 M5 (fun (r8 : Int32) (M7 : Mm) => (∀ x9 : Int32, x9 = (x3 + r8) → (∀ x10 : Int32, x10 = x4 + (1 : Int32) → self1 x9 x10 M7))))))) n (0 : Int32) (0 : Int32) M)
set_option maxHeartbeats 4000000 in
set_option maxRecDepth 100000 in
theorem met_X5_claimedFromCover {l : Launch} {G : GT} (hG : GD G) (a1 : Int32) (M : Mm) (P : Int32 → Mm → Prop) (h : wp_X5_claimedFromCover a1 M P) : MI l G yX5_claimedFromCover cX5_claimedFromCover 4 (some .int) ({ frames := 1, cells := 0, slots := 0, locals := 22 } : Room) [.ref (adr G 5 0), .int a1] M P := by
  refine met_by hG (own := RX5) rfl (by decide +kernel) (Nat.le_of_ble_eq_true rfl) (fun E hE X Y => ?_)
  show J G E 4 0 [(0, .ref (adr G 5 0)), (1, .int a1)] [] M
  unfold wp_X5_claimedFromCover at h
  refine j_iconst (v := (0 : Int32)) X (by decide) dX5_claimedFromCover_0 ?_
  refine j_istore_n X [(2, .int (0 : Int32)), (0, .ref (adr G 5 0)), (1, .int a1)] dX5_claimedFromCover_1 rfl (by decide) rfl ?_
  refine j_iconst (v := (0 : Int32)) X (by decide) dX5_claimedFromCover_2 ?_
  refine j_istore_n X [(3, .int (0 : Int32)), (2, .int (0 : Int32)), (0, .ref (adr G 5 0)), (1, .int a1)] dX5_claimedFromCover_3 rfl (by decide) rfl ?_
  refine j_sub [2, 3, 1, 0] rfl ?_
  refine lq3_s h (fun (x3 : Int32) (x4 : Int32) (M5 : Mm) => J G E 4 4 [(0, .ref (adr G 5 0)), (1, .int a1), (2, .int x3), (3, .int x4)] [] M5) (fun self1 ih2 x3 x4 M5 h => ?_) id
  refine j_iload_n X 3 dX5_claimedFromCover_4 rfl rfl ?_
  refine j_aload_n X 0 dX5_claimedFromCover_5 rfl rfl ?_
  refine jf_RX5_12 X  dX5_claimedFromCover_6 ?_
  refine jf_RX5_90 X (by decide) dX5_claimedFromCover_9 ?_
  refine j_icmp_ge X 30 dX5_claimedFromCover_12 (by decide) (fun c6 => ?_) (fun c6 => ?_)
  · replace h := h.1 c6
    refine j_iload_n X 2 dX5_claimedFromCover_30 rfl rfl ?_
    exact j_iret X Y dX5_claimedFromCover_31 h
  · replace h := h.2 c6
    refine j_iload_n X 2 dX5_claimedFromCover_15 rfl rfl ?_
    refine j_aload_n X 0 dX5_claimedFromCover_16 rfl rfl ?_
    refine j_iload_n X 3 dX5_claimedFromCover_17 rfl rfl ?_
    refine j_iload_n X 1 dX5_claimedFromCover_18 rfl rfl ?_
    refine jc_RX5_154 X ⟨Nat.le_of_ble_eq_true rfl, Nat.le_of_ble_eq_true rfl⟩ (Nat.le_of_ble_eq_true rfl) dX5_claimedFromCover_19 h (fun r8 M7 h => ?_)
    refine j_iadd X dX5_claimedFromCover_22 ?_
    refine j_topi (fun x9 ex9 => ?_)
    replace h := h x9 ex9
    refine j_istore_n X [(2, .int x9), (0, .ref (adr G 5 0)), (1, .int a1), (3, .int x4)] dX5_claimedFromCover_23 rfl (by decide) rfl ?_
    obtain ⟨x10, ex10⟩ : ∃ z : Int32, z = x4 + (1 : Int32) := ⟨_, rfl⟩
    replace h := h x10 ex10
    refine j_iinc (v := x10) X 3 [(3, .int x10), (2, .int x9), (0, .ref (adr G 5 0)), (1, .int a1)] dX5_claimedFromCover_24 rfl (by rw [ex10]; rfl) (by decide) rfl ?_
    refine j_goto X 4 dX5_claimedFromCover_27 (by decide) ?_
    refine j_sub [2, 3, 1, 0] rfl ?_
    exact ih2 x9 x10 M7 h
theorem jc_RX6_308 {G : GT} {E : ET} {cc : ByteArray} {nL pc : Nat} {rm : Room} {lv : List (Nat × Value)} {st : List Value} {M : Mm} (X : CX G E RX6 cc nL rm) (hR : 1 + 1 ≤ rm.frames ∧ 8 + (4 + 11) + 22 ≤ rm.locals) (hst : (st.map fun v => v.category).sum ≤ 8) (d : decode cc pc = .ok (.invokevirtual 308, 3)) {a1 : Int32} {P : Int32 → Mm → Prop} (h : wp_X5_claimedFromCover a1 M P) (k1 : ∀ (r : Int32) (M2 : Mm), P r M2 → J G E nL (pc + 3) lv (.int r :: st) M2) : J G E nL pc lv (.int a1 :: .ref (adr G 5 0) :: st) M := fun H locs ls hP hS hl => by
  have hK := X.2.2.2.2.2.1.1
  have hm := met_X5_claimedFromCover (l := eL E) X.2.2.2.2.2.2.1 a1 M P h
  have hR2 : 1 + 1 ≤ (eR E).frames ∧ 8 + (4 + 11) + 22 ≤ (eR E).locals := by rw [X.2.2.2.2.2.2.2.1]; exact hR
  have hC2 : eCells E + 0 ≤ (eR E).cells ∧ eSlots E + 0 ≤ (eR E).slots := by rw [X.2.2.2.2.2.2.2.1]; exact ⟨X.2.2.2.2.2.2.2.2.1, X.2.2.2.2.2.2.2.2.2⟩
  obtain ⟨q0, -, hq⟩ := wld_get (G := G) M (mw5 0 (by decide))
  exact va_calli (va_runV (C := RX5) (As := [.int a1]) (rest := st) ⟨X.1, X.2.1, X.2.2.1, X.2.2.2.1, X.2.2.2.2.1⟩ hm (cwV (ws' := lw_aw) 1 X.2.2.2.2.1 (gwV (tw (i := 796) (by decide +kernel)) (tw (i := 797) (by decide +kernel)) (tw (i := 798) (by decide +kernel)) (tw (i := 72) (by decide +kernel)) (tw (i := 799) (by decide +kernel))) rfl rfl rfl (by decide +kernel) hR2) ⟨hr_blind, va_recv hK hP (ci := 5) (q := (RX5, TX5, 16)) (fs := objF5 G 0 (M.1 5 0)) (q0 := q0) rfl hq, fun U hU hW => ⟨rfl, by rw [hU]; exact hP, KK.warm hW X.2.2.2.2.2.1⟩⟩ rfl rfl hl.1 rfl (lv_room hst) d hC2) hS (fun q _ h => h) (fun q h => h) (fun r u t H1 locs1 ht hvm hw hB hz1 hk1 hS1 => k1 r u hw H1 locs1 ls (by rw [← ht]; exact hB.1) hS1 hl)
/-- LayeredClaims$Year.borneByLayer(I)I -/
def wp_X5_borneByLayer (a1 : Int32) (M : Mm) (P : Int32 → Mm → Prop) : Prop := (wp_X5_capacityOfLayer a1 M (fun (r2 : Int32) (M1 : Mm) => (vp_in a1 4 ∧ P (r2 - (rd M1 132 0 a1.toNatClampNeg)) M1)))
set_option maxHeartbeats 4000000 in
set_option maxRecDepth 100000 in
theorem met_X5_borneByLayer {l : Launch} {G : GT} (hG : GD G) (a1 : Int32) (M : Mm) (P : Int32 → Mm → Prop) (h : wp_X5_borneByLayer a1 M P) : MI l G yX5_borneByLayer cX5_borneByLayer 2 (some .int) ({ frames := 1, cells := 0, slots := 0, locals := 21 } : Room) [.ref (adr G 5 0), .int a1] M P := by
  refine met_by hG (own := RX5) rfl (by decide +kernel) (Nat.le_of_ble_eq_true rfl) (fun E hE X Y => ?_)
  show J G E 2 0 [(0, .ref (adr G 5 0)), (1, .int a1)] [] M
  unfold wp_X5_borneByLayer at h
  refine j_aload_n X 0 dX5_borneByLayer_0 rfl rfl ?_
  refine j_iload_n X 1 dX5_borneByLayer_1 rfl rfl ?_
  refine jc_RX5_86 X ⟨Nat.le_of_ble_eq_true rfl, Nat.le_of_ble_eq_true rfl⟩ (Nat.le_of_ble_eq_true rfl) dX5_borneByLayer_2 h (fun r2 M1 h => ?_)
  refine j_aload_n X 0 dX5_borneByLayer_5 rfl rfl ?_
  refine jf_RX5_54 X  dX5_borneByLayer_6 ?_
  refine j_iload_n X 1 dX5_borneByLayer_9 rfl rfl ?_
  have q3 := h.1
  replace h := h.2
  refine j_iald X _ rfl (mw132 0 (by decide)) kt132 lt132 q3 dX5_borneByLayer_10 ?_
  refine j_isub X dX5_borneByLayer_11 ?_
  exact j_iret X Y dX5_borneByLayer_12 h
theorem jc_RX6_175 {G : GT} {E : ET} {cc : ByteArray} {nL pc : Nat} {rm : Room} {lv : List (Nat × Value)} {st : List Value} {M : Mm} (X : CX G E RX6 cc nL rm) (hR : 1 + 1 ≤ rm.frames ∧ 8 + (2 + 11) + 21 ≤ rm.locals) (hst : (st.map fun v => v.category).sum ≤ 8) (d : decode cc pc = .ok (.invokevirtual 175, 3)) {a1 : Int32} {P : Int32 → Mm → Prop} (h : wp_X5_borneByLayer a1 M P) (k1 : ∀ (r : Int32) (M2 : Mm), P r M2 → J G E nL (pc + 3) lv (.int r :: st) M2) : J G E nL pc lv (.int a1 :: .ref (adr G 5 0) :: st) M := fun H locs ls hP hS hl => by
  have hK := X.2.2.2.2.2.1.1
  have hm := met_X5_borneByLayer (l := eL E) X.2.2.2.2.2.2.1 a1 M P h
  have hR2 : 1 + 1 ≤ (eR E).frames ∧ 8 + (2 + 11) + 21 ≤ (eR E).locals := by rw [X.2.2.2.2.2.2.2.1]; exact hR
  have hC2 : eCells E + 0 ≤ (eR E).cells ∧ eSlots E + 0 ≤ (eR E).slots := by rw [X.2.2.2.2.2.2.2.1]; exact ⟨X.2.2.2.2.2.2.2.2.1, X.2.2.2.2.2.2.2.2.2⟩
  obtain ⟨q0, -, hq⟩ := wld_get (G := G) M (mw5 0 (by decide))
  exact va_calli (va_runV (C := RX5) (As := [.int a1]) (rest := st) ⟨X.1, X.2.1, X.2.2.1, X.2.2.2.1, X.2.2.2.2.1⟩ hm (cwV (ws' := lw_aw) 1 X.2.2.2.2.1 (gwV (tw (i := 629) (by decide +kernel)) (tw (i := 630) (by decide +kernel)) (tw (i := 631) (by decide +kernel)) (tw (i := 72) (by decide +kernel)) (tw (i := 632) (by decide +kernel))) rfl rfl rfl (by decide +kernel) hR2) ⟨hr_blind, va_recv hK hP (ci := 5) (q := (RX5, TX5, 16)) (fs := objF5 G 0 (M.1 5 0)) (q0 := q0) rfl hq, fun U hU hW => ⟨rfl, by rw [hU]; exact hP, KK.warm hW X.2.2.2.2.2.1⟩⟩ rfl rfl hl.1 rfl (lv_room hst) d hC2) hS (fun q _ h => h) (fun q h => h) (fun r u t H1 locs1 ht hvm hw hB hz1 hk1 hS1 => k1 r u hw H1 locs1 ls (by rw [← ht]; exact hB.1) hS1 hl)
theorem jc_RX5_183 {G : GT} {E : ET} {cc : ByteArray} {nL pc : Nat} {rm : Room} {lv : List (Nat × Value)} {st : List Value} {M : Mm} (X : CX G E RX5 cc nL rm) (hR : 1 + 1 ≤ rm.frames ∧ 8 + (2 + 11) + 21 ≤ rm.locals) (hst : (st.map fun v => v.category).sum ≤ 8) (d : decode cc pc = .ok (.invokevirtual 183, 3)) {a1 : Int32} {P : Int32 → Mm → Prop} (h : wp_X5_borneByLayer a1 M P) (k1 : ∀ (r : Int32) (M2 : Mm), P r M2 → J G E nL (pc + 3) lv (.int r :: st) M2) : J G E nL pc lv (.int a1 :: .ref (adr G 5 0) :: st) M := fun H locs ls hP hS hl => by
  have hK := X.2.2.2.2.2.1.1
  have hm := met_X5_borneByLayer (l := eL E) X.2.2.2.2.2.2.1 a1 M P h
  have hR2 : 1 + 1 ≤ (eR E).frames ∧ 8 + (2 + 11) + 21 ≤ (eR E).locals := by rw [X.2.2.2.2.2.2.2.1]; exact hR
  have hC2 : eCells E + 0 ≤ (eR E).cells ∧ eSlots E + 0 ≤ (eR E).slots := by rw [X.2.2.2.2.2.2.2.1]; exact ⟨X.2.2.2.2.2.2.2.2.1, X.2.2.2.2.2.2.2.2.2⟩
  obtain ⟨q0, -, hq⟩ := wld_get (G := G) M (mw5 0 (by decide))
  exact va_calli (va_runV (C := RX5) (As := [.int a1]) (rest := st) ⟨X.1, X.2.1, X.2.2.1, X.2.2.2.1, X.2.2.2.2.1⟩ hm (cwV (ws' := lw_aw) 1 X.2.2.2.2.1 (gwV (tw (i := 637) (by decide +kernel)) (tw (i := 630) (by decide +kernel)) (tw (i := 631) (by decide +kernel)) (tw (i := 72) (by decide +kernel)) (tw (i := 632) (by decide +kernel))) rfl rfl rfl (by decide +kernel) hR2) ⟨hr_blind, va_recv hK hP (ci := 5) (q := (RX5, TX5, 16)) (fs := objF5 G 0 (M.1 5 0)) (q0 := q0) rfl hq, fun U hU hW => ⟨rfl, by rw [hU]; exact hP, KK.warm hW X.2.2.2.2.2.1⟩⟩ rfl rfl hl.1 rfl (lv_room hst) d hC2) hS (fun q _ h => h) (fun q h => h) (fun r u t H1 locs1 ht hvm hw hB hz1 hk1 hS1 => k1 r u hw H1 locs1 ls (by rw [← ht]; exact hB.1) hS1 hl)
/-- LayeredClaims$Year.reinstatedAmount(I)I -/
def wp_X5_reinstatedAmount (a1 : Int32) (M : Mm) (P : Int32 → Mm → Prop) : Prop := (wp_X5_borneByLayer a1 M (fun (r2 : Int32) (M1 : Mm) => (vp_in a1 4 ∧ P (if ((rd M1 27 0 a1.toNatClampNeg) * (rd M1 29 0 a1.toNatClampNeg)) < r2 then ((rd M1 27 0 a1.toNatClampNeg) * (rd M1 29 0 a1.toNatClampNeg)) else r2) M1)))
set_option maxHeartbeats 4000000 in
set_option maxRecDepth 100000 in
theorem met_X5_reinstatedAmount {l : Launch} {G : GT} (hG : GD G) (a1 : Int32) (M : Mm) (P : Int32 → Mm → Prop) (h : wp_X5_reinstatedAmount a1 M P) : MI l G yX5_reinstatedAmount cX5_reinstatedAmount 2 (some .int) ({ frames := 2, cells := 0, slots := 0, locals := 42 } : Room) [.ref (adr G 5 0), .int a1] M P := by
  refine met_by hG (own := RX5) rfl (by decide +kernel) (Nat.le_of_ble_eq_true rfl) (fun E hE X Y => ?_)
  show J G E 2 0 [(0, .ref (adr G 5 0)), (1, .int a1)] [] M
  unfold wp_X5_reinstatedAmount at h
  refine j_aload_n X 0 dX5_reinstatedAmount_0 rfl rfl ?_
  refine j_iload_n X 1 dX5_reinstatedAmount_1 rfl rfl ?_
  refine jc_RX5_183 X ⟨Nat.le_of_ble_eq_true rfl, Nat.le_of_ble_eq_true rfl⟩ (Nat.le_of_ble_eq_true rfl) dX5_reinstatedAmount_2 h (fun r2 M1 h => ?_)
  refine j_aload_n X 0 dX5_reinstatedAmount_5 rfl rfl ?_
  refine jf_RX5_12 X  dX5_reinstatedAmount_6 ?_
  refine jf_RX5_169 X (by decide) dX5_reinstatedAmount_9 ?_
  refine j_iload_n X 1 dX5_reinstatedAmount_12 rfl rfl ?_
  have q3 := h.1
  replace h := h.2
  refine j_iald X _ rfl (mw27 0 (by decide)) kt27 lt27 q3 dX5_reinstatedAmount_13 ?_
  refine j_aload_n X 0 dX5_reinstatedAmount_14 rfl rfl ?_
  refine jf_RX5_12 X  dX5_reinstatedAmount_15 ?_
  refine jf_RX5_180 X (by decide) dX5_reinstatedAmount_18 ?_
  refine j_iload_n X 1 dX5_reinstatedAmount_21 rfl rfl ?_
  refine j_iald X _ rfl (mw29 0 (by decide)) kt29 lt29 q3 dX5_reinstatedAmount_22 ?_
  refine j_imul X dX5_reinstatedAmount_23 ?_
  refine j_min X (tw (i := 581) (by decide +kernel)) (Nat.le_of_ble_eq_true rfl) (Nat.le_of_ble_eq_true rfl) dX5_reinstatedAmount_24 ?_
  exact j_iret X Y dX5_reinstatedAmount_27 h
theorem jc_RX6_181 {G : GT} {E : ET} {cc : ByteArray} {nL pc : Nat} {rm : Room} {lv : List (Nat × Value)} {st : List Value} {M : Mm} (X : CX G E RX6 cc nL rm) (hR : 2 + 1 ≤ rm.frames ∧ 8 + (2 + 11) + 42 ≤ rm.locals) (hst : (st.map fun v => v.category).sum ≤ 8) (d : decode cc pc = .ok (.invokevirtual 181, 3)) {a1 : Int32} {P : Int32 → Mm → Prop} (h : wp_X5_reinstatedAmount a1 M P) (k1 : ∀ (r : Int32) (M2 : Mm), P r M2 → J G E nL (pc + 3) lv (.int r :: st) M2) : J G E nL pc lv (.int a1 :: .ref (adr G 5 0) :: st) M := fun H locs ls hP hS hl => by
  have hK := X.2.2.2.2.2.1.1
  have hm := met_X5_reinstatedAmount (l := eL E) X.2.2.2.2.2.2.1 a1 M P h
  have hR2 : 2 + 1 ≤ (eR E).frames ∧ 8 + (2 + 11) + 42 ≤ (eR E).locals := by rw [X.2.2.2.2.2.2.2.1]; exact hR
  have hC2 : eCells E + 0 ≤ (eR E).cells ∧ eSlots E + 0 ≤ (eR E).slots := by rw [X.2.2.2.2.2.2.2.1]; exact ⟨X.2.2.2.2.2.2.2.2.1, X.2.2.2.2.2.2.2.2.2⟩
  obtain ⟨q0, -, hq⟩ := wld_get (G := G) M (mw5 0 (by decide))
  exact va_calli (va_runV (C := RX5) (As := [.int a1]) (rest := st) ⟨X.1, X.2.1, X.2.2.1, X.2.2.2.1, X.2.2.2.2.1⟩ hm (cwV (ws' := lw_aw) 1 X.2.2.2.2.1 (gwV (tw (i := 633) (by decide +kernel)) (tw (i := 634) (by decide +kernel)) (tw (i := 635) (by decide +kernel)) (tw (i := 72) (by decide +kernel)) (tw (i := 636) (by decide +kernel))) rfl rfl rfl (by decide +kernel) hR2) ⟨hr_blind, va_recv hK hP (ci := 5) (q := (RX5, TX5, 16)) (fs := objF5 G 0 (M.1 5 0)) (q0 := q0) rfl hq, fun U hU hW => ⟨rfl, by rw [hU]; exact hP, KK.warm hW X.2.2.2.2.2.1⟩⟩ rfl rfl hl.1 rfl (lv_room hst) d hC2) hS (fun q _ h => h) (fun q h => h) (fun r u t H1 locs1 ht hvm hw hB hz1 hk1 hS1 => k1 r u hw H1 locs1 ls (by rw [← ht]; exact hB.1) hS1 hl)
theorem jc_RX5_189 {G : GT} {E : ET} {cc : ByteArray} {nL pc : Nat} {rm : Room} {lv : List (Nat × Value)} {st : List Value} {M : Mm} (X : CX G E RX5 cc nL rm) (hR : 2 + 1 ≤ rm.frames ∧ 8 + (2 + 11) + 42 ≤ rm.locals) (hst : (st.map fun v => v.category).sum ≤ 8) (d : decode cc pc = .ok (.invokevirtual 189, 3)) {a1 : Int32} {P : Int32 → Mm → Prop} (h : wp_X5_reinstatedAmount a1 M P) (k1 : ∀ (r : Int32) (M2 : Mm), P r M2 → J G E nL (pc + 3) lv (.int r :: st) M2) : J G E nL pc lv (.int a1 :: .ref (adr G 5 0) :: st) M := fun H locs ls hP hS hl => by
  have hK := X.2.2.2.2.2.1.1
  have hm := met_X5_reinstatedAmount (l := eL E) X.2.2.2.2.2.2.1 a1 M P h
  have hR2 : 2 + 1 ≤ (eR E).frames ∧ 8 + (2 + 11) + 42 ≤ (eR E).locals := by rw [X.2.2.2.2.2.2.2.1]; exact hR
  have hC2 : eCells E + 0 ≤ (eR E).cells ∧ eSlots E + 0 ≤ (eR E).slots := by rw [X.2.2.2.2.2.2.2.1]; exact ⟨X.2.2.2.2.2.2.2.2.1, X.2.2.2.2.2.2.2.2.2⟩
  obtain ⟨q0, -, hq⟩ := wld_get (G := G) M (mw5 0 (by decide))
  exact va_calli (va_runV (C := RX5) (As := [.int a1]) (rest := st) ⟨X.1, X.2.1, X.2.2.1, X.2.2.2.1, X.2.2.2.2.1⟩ hm (cwV (ws' := lw_aw) 1 X.2.2.2.2.1 (gwV (tw (i := 642) (by decide +kernel)) (tw (i := 634) (by decide +kernel)) (tw (i := 635) (by decide +kernel)) (tw (i := 72) (by decide +kernel)) (tw (i := 636) (by decide +kernel))) rfl rfl rfl (by decide +kernel) hR2) ⟨hr_blind, va_recv hK hP (ci := 5) (q := (RX5, TX5, 16)) (fs := objF5 G 0 (M.1 5 0)) (q0 := q0) rfl hq, fun U hU hW => ⟨rfl, by rw [hU]; exact hP, KK.warm hW X.2.2.2.2.2.1⟩⟩ rfl rfl hl.1 rfl (lv_room hst) d hC2) hS (fun q _ h => h) (fun q h => h) (fun r u t H1 locs1 ht hvm hw hB hz1 hk1 hS1 => k1 r u hw H1 locs1 ls (by rw [← ht]; exact hB.1) hS1 hl)
/-- LayeredClaims$Year.reinstatementPremium(I)I -/
def wp_X5_reinstatementPremium (a1 : Int32) (M : Mm) (P : Int32 → Mm → Prop) : Prop := (vp_in a1 4 ∧ (wp_X5_reinstatedAmount a1 M (fun (r3 : Int32) (M2 : Mm) => (∀ x4 : Int64, x4 = ((rd M 28 0 a1.toNatClampNeg).toInt64 * r3.toInt64) → (wp_X6_quotient x4 (rd M2 27 0 a1.toNatClampNeg).toInt64 M2 (fun (r6 : Int32) (M5 : Mm) => P r6 M5))))))
set_option maxHeartbeats 4000000 in
set_option maxRecDepth 100000 in
theorem met_X5_reinstatementPremium {l : Launch} {G : GT} (hG : GD G) (a1 : Int32) (M : Mm) (P : Int32 → Mm → Prop) (h : wp_X5_reinstatementPremium a1 M P) : MI l G yX5_reinstatementPremium cX5_reinstatementPremium 4 (some .int) ({ frames := 3, cells := 0, slots := 0, locals := 63 } : Room) [.ref (adr G 5 0), .int a1] M P := by
  refine met_by hG (own := RX5) rfl (by decide +kernel) (Nat.le_of_ble_eq_true rfl) (fun E hE X Y => ?_)
  show J G E 4 0 [(0, .ref (adr G 5 0)), (1, .int a1)] [] M
  unfold wp_X5_reinstatementPremium at h
  refine j_aload_n X 0 dX5_reinstatementPremium_0 rfl rfl ?_
  refine jf_RX5_12 X  dX5_reinstatementPremium_1 ?_
  refine jf_RX5_186 X (by decide) dX5_reinstatementPremium_4 ?_
  refine j_iload_n X 1 dX5_reinstatementPremium_7 rfl rfl ?_
  have q1 := h.1
  replace h := h.2
  refine j_iald X _ rfl (mw28 0 (by decide)) kt28 lt28 q1 dX5_reinstatementPremium_8 ?_
  refine j_i2l X dX5_reinstatementPremium_9 ?_
  refine j_aload_n X 0 dX5_reinstatementPremium_10 rfl rfl ?_
  refine j_iload_n X 1 dX5_reinstatementPremium_11 rfl rfl ?_
  refine jc_RX5_189 X ⟨Nat.le_of_ble_eq_true rfl, Nat.le_of_ble_eq_true rfl⟩ (Nat.le_of_ble_eq_true rfl) dX5_reinstatementPremium_12 h (fun r3 M2 h => ?_)
  refine j_i2l X dX5_reinstatementPremium_15 ?_
  refine j_lmul X dX5_reinstatementPremium_16 ?_
  refine j_topl (fun x4 ex4 => ?_)
  replace h := h x4 ex4
  refine j_lstore_n X [(2, .long x4), (0, .ref (adr G 5 0)), (1, .int a1)] dX5_reinstatementPremium_17 rfl (by decide) rfl ?_
  refine j_lload_n X 0 dX5_reinstatementPremium_18 rfl rfl ?_
  refine j_aload_n X 1 dX5_reinstatementPremium_19 rfl rfl ?_
  refine jf_RX5_12 X  dX5_reinstatementPremium_20 ?_
  refine jf_RX5_169 X (by decide) dX5_reinstatementPremium_23 ?_
  refine j_iload_n X 2 dX5_reinstatementPremium_26 rfl rfl ?_
  refine j_iald X _ rfl (mw27 0 (by decide)) kt27 lt27 q1 dX5_reinstatementPremium_27 ?_
  refine j_i2l X dX5_reinstatementPremium_28 ?_
  refine jc_RX5_192 X ⟨Nat.le_of_ble_eq_true rfl, Nat.le_of_ble_eq_true rfl⟩ (Nat.le_of_ble_eq_true rfl) dX5_reinstatementPremium_29 h (fun r6 M5 h => ?_)
  exact j_iret X Y dX5_reinstatementPremium_32 h
theorem jc_RX6_184 {G : GT} {E : ET} {cc : ByteArray} {nL pc : Nat} {rm : Room} {lv : List (Nat × Value)} {st : List Value} {M : Mm} (X : CX G E RX6 cc nL rm) (hR : 3 + 1 ≤ rm.frames ∧ 8 + (4 + 11) + 63 ≤ rm.locals) (hst : (st.map fun v => v.category).sum ≤ 8) (d : decode cc pc = .ok (.invokevirtual 184, 3)) {a1 : Int32} {P : Int32 → Mm → Prop} (h : wp_X5_reinstatementPremium a1 M P) (k1 : ∀ (r : Int32) (M2 : Mm), P r M2 → J G E nL (pc + 3) lv (.int r :: st) M2) : J G E nL pc lv (.int a1 :: .ref (adr G 5 0) :: st) M := fun H locs ls hP hS hl => by
  have hK := X.2.2.2.2.2.1.1
  have hm := met_X5_reinstatementPremium (l := eL E) X.2.2.2.2.2.2.1 a1 M P h
  have hR2 : 3 + 1 ≤ (eR E).frames ∧ 8 + (4 + 11) + 63 ≤ (eR E).locals := by rw [X.2.2.2.2.2.2.2.1]; exact hR
  have hC2 : eCells E + 0 ≤ (eR E).cells ∧ eSlots E + 0 ≤ (eR E).slots := by rw [X.2.2.2.2.2.2.2.1]; exact ⟨X.2.2.2.2.2.2.2.2.1, X.2.2.2.2.2.2.2.2.2⟩
  obtain ⟨q0, -, hq⟩ := wld_get (G := G) M (mw5 0 (by decide))
  exact va_calli (va_runV (C := RX5) (As := [.int a1]) (rest := st) ⟨X.1, X.2.1, X.2.2.1, X.2.2.2.1, X.2.2.2.2.1⟩ hm (cwV (ws' := lw_aw) 1 X.2.2.2.2.1 (gwV (tw (i := 638) (by decide +kernel)) (tw (i := 639) (by decide +kernel)) (tw (i := 640) (by decide +kernel)) (tw (i := 72) (by decide +kernel)) (tw (i := 641) (by decide +kernel))) rfl rfl rfl (by decide +kernel) hR2) ⟨hr_blind, va_recv hK hP (ci := 5) (q := (RX5, TX5, 16)) (fs := objF5 G 0 (M.1 5 0)) (q0 := q0) rfl hq, fun U hU hW => ⟨rfl, by rw [hU]; exact hP, KK.warm hW X.2.2.2.2.2.1⟩⟩ rfl rfl hl.1 rfl (lv_room hst) d hC2) hS (fun q _ h => h) (fun q h => h) (fun r u t H1 locs1 ht hvm hw hB hz1 hk1 hS1 => k1 r u hw H1 locs1 ls (by rw [← ht]; exact hB.1) hS1 hl)
theorem jc_RX5_196 {G : GT} {E : ET} {cc : ByteArray} {nL pc : Nat} {rm : Room} {lv : List (Nat × Value)} {st : List Value} {M : Mm} (X : CX G E RX5 cc nL rm) (hR : 3 + 1 ≤ rm.frames ∧ 8 + (4 + 11) + 63 ≤ rm.locals) (hst : (st.map fun v => v.category).sum ≤ 8) (d : decode cc pc = .ok (.invokevirtual 196, 3)) {a1 : Int32} {P : Int32 → Mm → Prop} (h : wp_X5_reinstatementPremium a1 M P) (k1 : ∀ (r : Int32) (M2 : Mm), P r M2 → J G E nL (pc + 3) lv (.int r :: st) M2) : J G E nL pc lv (.int a1 :: .ref (adr G 5 0) :: st) M := fun H locs ls hP hS hl => by
  have hK := X.2.2.2.2.2.1.1
  have hm := met_X5_reinstatementPremium (l := eL E) X.2.2.2.2.2.2.1 a1 M P h
  have hR2 : 3 + 1 ≤ (eR E).frames ∧ 8 + (4 + 11) + 63 ≤ (eR E).locals := by rw [X.2.2.2.2.2.2.2.1]; exact hR
  have hC2 : eCells E + 0 ≤ (eR E).cells ∧ eSlots E + 0 ≤ (eR E).slots := by rw [X.2.2.2.2.2.2.2.1]; exact ⟨X.2.2.2.2.2.2.2.2.1, X.2.2.2.2.2.2.2.2.2⟩
  obtain ⟨q0, -, hq⟩ := wld_get (G := G) M (mw5 0 (by decide))
  exact va_calli (va_runV (C := RX5) (As := [.int a1]) (rest := st) ⟨X.1, X.2.1, X.2.2.1, X.2.2.2.1, X.2.2.2.2.1⟩ hm (cwV (ws' := lw_aw) 1 X.2.2.2.2.1 (gwV (tw (i := 761) (by decide +kernel)) (tw (i := 639) (by decide +kernel)) (tw (i := 640) (by decide +kernel)) (tw (i := 72) (by decide +kernel)) (tw (i := 641) (by decide +kernel))) rfl rfl rfl (by decide +kernel) hR2) ⟨hr_blind, va_recv hK hP (ci := 5) (q := (RX5, TX5, 16)) (fs := objF5 G 0 (M.1 5 0)) (q0 := q0) rfl hq, fun U hU hW => ⟨rfl, by rw [hU]; exact hP, KK.warm hW X.2.2.2.2.2.1⟩⟩ rfl rfl hl.1 rfl (lv_room hst) d hC2) hS (fun q _ h => h) (fun q h => h) (fun r u t H1 locs1 ht hvm hw hB hz1 hk1 hS1 => k1 r u hw H1 locs1 ls (by rw [← ht]; exact hB.1) hS1 hl)
/-- LayeredClaims$Year.sumOfLosses()I -/
def wp_X5_sumOfLosses  (M : Mm) (P : Int32 → Mm → Prop) : Prop := (wp_X6_sumOf (123, 0) (rd M 0 0 15) M (fun (r2 : Int32) (M1 : Mm) => P r2 M1))
set_option maxHeartbeats 4000000 in
set_option maxRecDepth 100000 in
theorem met_X5_sumOfLosses {l : Launch} {G : GT} (hG : GD G)  (M : Mm) (P : Int32 → Mm → Prop) (h : wp_X5_sumOfLosses  M P) : MI l G yX5_sumOfLosses cX5_sumOfLosses 1 (some .int) ({ frames := 1, cells := 0, slots := 0, locals := 23 } : Room) [.ref (adr G 5 0)] M P := by
  refine met_by hG (own := RX5) rfl (by decide +kernel) (Nat.le_of_ble_eq_true rfl) (fun E hE X Y => ?_)
  show J G E 1 0 [(0, .ref (adr G 5 0))] [] M
  unfold wp_X5_sumOfLosses at h
  refine j_aload_n X 0 dX5_sumOfLosses_0 rfl rfl ?_
  refine jf_RX5_25 X  dX5_sumOfLosses_1 ?_
  refine j_aload_n X 0 dX5_sumOfLosses_4 rfl rfl ?_
  refine jf_RX5_12 X  dX5_sumOfLosses_5 ?_
  refine jf_RX5_110 X (by decide) dX5_sumOfLosses_8 ?_
  refine jc_RX5_176 X ⟨Nat.le_of_ble_eq_true rfl, Nat.le_of_ble_eq_true rfl⟩ (Nat.le_of_ble_eq_true rfl) dX5_sumOfLosses_11 h (fun r2 M1 h => ?_)
  exact j_iret X Y dX5_sumOfLosses_14 h
theorem jc_RX6_272 {G : GT} {E : ET} {cc : ByteArray} {nL pc : Nat} {rm : Room} {lv : List (Nat × Value)} {st : List Value} {M : Mm} (X : CX G E RX6 cc nL rm) (hR : 1 + 1 ≤ rm.frames ∧ 8 + (1 + 11) + 23 ≤ rm.locals) (hst : (st.map fun v => v.category).sum ≤ 8) (d : decode cc pc = .ok (.invokevirtual 272, 3))  {P : Int32 → Mm → Prop} (h : wp_X5_sumOfLosses  M P) (k1 : ∀ (r : Int32) (M2 : Mm), P r M2 → J G E nL (pc + 3) lv (.int r :: st) M2) : J G E nL pc lv (.ref (adr G 5 0) :: st) M := fun H locs ls hP hS hl => by
  have hK := X.2.2.2.2.2.1.1
  have hm := met_X5_sumOfLosses (l := eL E) X.2.2.2.2.2.2.1  M P h
  have hR2 : 1 + 1 ≤ (eR E).frames ∧ 8 + (1 + 11) + 23 ≤ (eR E).locals := by rw [X.2.2.2.2.2.2.2.1]; exact hR
  have hC2 : eCells E + 0 ≤ (eR E).cells ∧ eSlots E + 0 ≤ (eR E).slots := by rw [X.2.2.2.2.2.2.2.1]; exact ⟨X.2.2.2.2.2.2.2.2.1, X.2.2.2.2.2.2.2.2.2⟩
  obtain ⟨q0, -, hq⟩ := wld_get (G := G) M (mw5 0 (by decide))
  exact va_calli (va_runV (C := RX5) (As := []) (rest := st) ⟨X.1, X.2.1, X.2.2.1, X.2.2.2.1, X.2.2.2.2.1⟩ hm (cwV (ws' := lw_aw) 0 X.2.2.2.2.1 (gwV (tw (i := 728) (by decide +kernel)) (tw (i := 729) (by decide +kernel)) (tw (i := 730) (by decide +kernel)) (tw (i := 72) (by decide +kernel)) (tw (i := 731) (by decide +kernel))) rfl rfl rfl (by decide +kernel) hR2) ⟨hr_blind, va_recv hK hP (ci := 5) (q := (RX5, TX5, 16)) (fs := objF5 G 0 (M.1 5 0)) (q0 := q0) rfl hq, fun U hU hW => ⟨rfl, by rw [hU]; exact hP, KK.warm hW X.2.2.2.2.2.1⟩⟩ rfl rfl hl.1 rfl (lv_room hst) d hC2) hS (fun q _ h => h) (fun q h => h) (fun r u t H1 locs1 ht hvm hw hB hz1 hk1 hS1 => k1 r u hw H1 locs1 ls (by rw [← ht]; exact hB.1) hS1 hl)
/-- LayeredClaims$Year.sumOfPayments()I -/
def wp_X5_sumOfPayments  (M : Mm) (P : Int32 → Mm → Prop) : Prop := (∃ n, lq3 (fun self1 (x3 : Int32) (x4 : Int32) (M5 : Mm) => (((rd M5 0 0 12) ≤ x4 → P x3 M5) ∧ (¬ (rd M5 0 0 12) ≤ x4 → (wp_X5_paidForEvent x4 M5 (fun (r8 : Int32) (M7 : Mm) => (∀ x9 : Int32, x9 = (x3 + r8) → (∀ x10 : Int32, x10 = x4 + (1 : Int32) → self1 x9 x10 M7))))))) n (0 : Int32) (0 : Int32) M)
set_option maxHeartbeats 4000000 in
set_option maxRecDepth 100000 in
theorem met_X5_sumOfPayments {l : Launch} {G : GT} (hG : GD G)  (M : Mm) (P : Int32 → Mm → Prop) (h : wp_X5_sumOfPayments  M P) : MI l G yX5_sumOfPayments cX5_sumOfPayments 3 (some .int) ({ frames := 2, cells := 0, slots := 0, locals := 44 } : Room) [.ref (adr G 5 0)] M P := by
  refine met_by hG (own := RX5) rfl (by decide +kernel) (Nat.le_of_ble_eq_true rfl) (fun E hE X Y => ?_)
  show J G E 3 0 [(0, .ref (adr G 5 0))] [] M
  unfold wp_X5_sumOfPayments at h
  refine j_iconst (v := (0 : Int32)) X (by decide) dX5_sumOfPayments_0 ?_
  refine j_istore_n X [(1, .int (0 : Int32)), (0, .ref (adr G 5 0))] dX5_sumOfPayments_1 rfl (by decide) rfl ?_
  refine j_iconst (v := (0 : Int32)) X (by decide) dX5_sumOfPayments_2 ?_
  refine j_istore_n X [(2, .int (0 : Int32)), (1, .int (0 : Int32)), (0, .ref (adr G 5 0))] dX5_sumOfPayments_3 rfl (by decide) rfl ?_
  refine j_sub [2, 1, 0] rfl ?_
  refine lq3_s h (fun (x3 : Int32) (x4 : Int32) (M5 : Mm) => J G E 3 4 [(0, .ref (adr G 5 0)), (1, .int x3), (2, .int x4)] [] M5) (fun self1 ih2 x3 x4 M5 h => ?_) id
  refine j_iload_n X 2 dX5_sumOfPayments_4 rfl rfl ?_
  refine j_aload_n X 0 dX5_sumOfPayments_5 rfl rfl ?_
  refine jf_RX5_12 X  dX5_sumOfPayments_6 ?_
  refine jf_RX5_90 X (by decide) dX5_sumOfPayments_9 ?_
  refine j_icmp_ge X 29 dX5_sumOfPayments_12 (by decide) (fun c6 => ?_) (fun c6 => ?_)
  · replace h := h.1 c6
    refine j_iload_n X 1 dX5_sumOfPayments_29 rfl rfl ?_
    exact j_iret X Y dX5_sumOfPayments_30 h
  · replace h := h.2 c6
    refine j_iload_n X 1 dX5_sumOfPayments_15 rfl rfl ?_
    refine j_aload_n X 0 dX5_sumOfPayments_16 rfl rfl ?_
    refine j_iload_n X 2 dX5_sumOfPayments_17 rfl rfl ?_
    refine jc_RX5_157 X ⟨Nat.le_of_ble_eq_true rfl, Nat.le_of_ble_eq_true rfl⟩ (Nat.le_of_ble_eq_true rfl) dX5_sumOfPayments_18 h (fun r8 M7 h => ?_)
    refine j_iadd X dX5_sumOfPayments_21 ?_
    refine j_topi (fun x9 ex9 => ?_)
    replace h := h x9 ex9
    refine j_istore_n X [(1, .int x9), (0, .ref (adr G 5 0)), (2, .int x4)] dX5_sumOfPayments_22 rfl (by decide) rfl ?_
    obtain ⟨x10, ex10⟩ : ∃ z : Int32, z = x4 + (1 : Int32) := ⟨_, rfl⟩
    replace h := h x10 ex10
    refine j_iinc (v := x10) X 2 [(2, .int x10), (1, .int x9), (0, .ref (adr G 5 0))] dX5_sumOfPayments_23 rfl (by rw [ex10]; rfl) (by decide) rfl ?_
    refine j_goto X 4 dX5_sumOfPayments_26 (by decide) ?_
    refine j_sub [2, 1, 0] rfl ?_
    exact ih2 x9 x10 M7 h
theorem jc_RX6_276 {G : GT} {E : ET} {cc : ByteArray} {nL pc : Nat} {rm : Room} {lv : List (Nat × Value)} {st : List Value} {M : Mm} (X : CX G E RX6 cc nL rm) (hR : 2 + 1 ≤ rm.frames ∧ 8 + (3 + 11) + 44 ≤ rm.locals) (hst : (st.map fun v => v.category).sum ≤ 8) (d : decode cc pc = .ok (.invokevirtual 276, 3))  {P : Int32 → Mm → Prop} (h : wp_X5_sumOfPayments  M P) (k1 : ∀ (r : Int32) (M2 : Mm), P r M2 → J G E nL (pc + 3) lv (.int r :: st) M2) : J G E nL pc lv (.ref (adr G 5 0) :: st) M := fun H locs ls hP hS hl => by
  have hK := X.2.2.2.2.2.1.1
  have hm := met_X5_sumOfPayments (l := eL E) X.2.2.2.2.2.2.1  M P h
  have hR2 : 2 + 1 ≤ (eR E).frames ∧ 8 + (3 + 11) + 44 ≤ (eR E).locals := by rw [X.2.2.2.2.2.2.2.1]; exact hR
  have hC2 : eCells E + 0 ≤ (eR E).cells ∧ eSlots E + 0 ≤ (eR E).slots := by rw [X.2.2.2.2.2.2.2.1]; exact ⟨X.2.2.2.2.2.2.2.2.1, X.2.2.2.2.2.2.2.2.2⟩
  obtain ⟨q0, -, hq⟩ := wld_get (G := G) M (mw5 0 (by decide))
  exact va_calli (va_runV (C := RX5) (As := []) (rest := st) ⟨X.1, X.2.1, X.2.2.1, X.2.2.2.1, X.2.2.2.2.1⟩ hm (cwV (ws' := lw_aw) 0 X.2.2.2.2.1 (gwV (tw (i := 732) (by decide +kernel)) (tw (i := 733) (by decide +kernel)) (tw (i := 734) (by decide +kernel)) (tw (i := 72) (by decide +kernel)) (tw (i := 735) (by decide +kernel))) rfl rfl rfl (by decide +kernel) hR2) ⟨hr_blind, va_recv hK hP (ci := 5) (q := (RX5, TX5, 16)) (fs := objF5 G 0 (M.1 5 0)) (q0 := q0) rfl hq, fun U hU hW => ⟨rfl, by rw [hU]; exact hP, KK.warm hW X.2.2.2.2.2.1⟩⟩ rfl rfl hl.1 rfl (lv_room hst) d hC2) hS (fun q _ h => h) (fun q h => h) (fun r u t H1 locs1 ht hvm hw hB hz1 hk1 hS1 => k1 r u hw H1 locs1 ls (by rw [← ht]; exact hB.1) hS1 hl)
/-- LayeredClaims$Year.sumOfDeductions()I -/
def wp_X5_sumOfDeductions  (M : Mm) (P : Int32 → Mm → Prop) : Prop := (∃ n, lq3 (fun self1 (x3 : Int32) (x4 : Int32) (M5 : Mm) => (((rd M5 0 0 12) ≤ x4 → P x3 M5) ∧ (¬ (rd M5 0 0 12) ≤ x4 → (vp_in x4 8 ∧ (wp_X6_sumOf (326, x4.toNatClampNeg) (rd M5 0 0 0) M5 (fun (r9 : Int32) (M8 : Mm) => (∀ x10 : Int32, x10 = (x3 + r9) → (∀ x11 : Int32, x11 = x4 + (1 : Int32) → self1 x10 x11 M8)))))))) n (0 : Int32) (0 : Int32) M)
set_option maxHeartbeats 4000000 in
set_option maxRecDepth 100000 in
theorem met_X5_sumOfDeductions {l : Launch} {G : GT} (hG : GD G)  (M : Mm) (P : Int32 → Mm → Prop) (h : wp_X5_sumOfDeductions  M P) : MI l G yX5_sumOfDeductions cX5_sumOfDeductions 3 (some .int) ({ frames := 1, cells := 0, slots := 0, locals := 23 } : Room) [.ref (adr G 5 0)] M P := by
  refine met_by hG (own := RX5) rfl (by decide +kernel) (Nat.le_of_ble_eq_true rfl) (fun E hE X Y => ?_)
  show J G E 3 0 [(0, .ref (adr G 5 0))] [] M
  unfold wp_X5_sumOfDeductions at h
  refine j_iconst (v := (0 : Int32)) X (by decide) dX5_sumOfDeductions_0 ?_
  refine j_istore_n X [(1, .int (0 : Int32)), (0, .ref (adr G 5 0))] dX5_sumOfDeductions_1 rfl (by decide) rfl ?_
  refine j_iconst (v := (0 : Int32)) X (by decide) dX5_sumOfDeductions_2 ?_
  refine j_istore_n X [(2, .int (0 : Int32)), (1, .int (0 : Int32)), (0, .ref (adr G 5 0))] dX5_sumOfDeductions_3 rfl (by decide) rfl ?_
  refine j_sub [2, 1, 0] rfl ?_
  refine lq3_s h (fun (x3 : Int32) (x4 : Int32) (M5 : Mm) => J G E 3 4 [(0, .ref (adr G 5 0)), (1, .int x3), (2, .int x4)] [] M5) (fun self1 ih2 x3 x4 M5 h => ?_) id
  refine j_iload_n X 2 dX5_sumOfDeductions_4 rfl rfl ?_
  refine j_aload_n X 0 dX5_sumOfDeductions_5 rfl rfl ?_
  refine jf_RX5_12 X  dX5_sumOfDeductions_6 ?_
  refine jf_RX5_90 X (by decide) dX5_sumOfDeductions_9 ?_
  refine j_icmp_ge X 40 dX5_sumOfDeductions_12 (by decide) (fun c6 => ?_) (fun c6 => ?_)
  · replace h := h.1 c6
    refine j_iload_n X 1 dX5_sumOfDeductions_40 rfl rfl ?_
    exact j_iret X Y dX5_sumOfDeductions_41 h
  · replace h := h.2 c6
    refine j_iload_n X 1 dX5_sumOfDeductions_15 rfl rfl ?_
    refine j_aload_n X 0 dX5_sumOfDeductions_16 rfl rfl ?_
    refine jf_RX5_36 X  dX5_sumOfDeductions_17 ?_
    refine j_iload_n X 2 dX5_sumOfDeductions_20 rfl rfl ?_
    have q7 := h.1
    replace h := h.2
    refine j_aaldI X (mw126 0 (by decide)) kt126 lt126 q7 dX5_sumOfDeductions_21 ?_
    refine j_aload_n X 0 dX5_sumOfDeductions_22 rfl rfl ?_
    refine jf_RX5_12 X  dX5_sumOfDeductions_23 ?_
    refine jf_RX5_76 X (by decide) dX5_sumOfDeductions_26 ?_
    refine jc_RX5_176 X ⟨Nat.le_of_ble_eq_true rfl, Nat.le_of_ble_eq_true rfl⟩ (Nat.le_of_ble_eq_true rfl) dX5_sumOfDeductions_29 h (fun r9 M8 h => ?_)
    refine j_iadd X dX5_sumOfDeductions_32 ?_
    refine j_topi (fun x10 ex10 => ?_)
    replace h := h x10 ex10
    refine j_istore_n X [(1, .int x10), (0, .ref (adr G 5 0)), (2, .int x4)] dX5_sumOfDeductions_33 rfl (by decide) rfl ?_
    obtain ⟨x11, ex11⟩ : ∃ z : Int32, z = x4 + (1 : Int32) := ⟨_, rfl⟩
    replace h := h x11 ex11
    refine j_iinc (v := x11) X 2 [(2, .int x11), (1, .int x10), (0, .ref (adr G 5 0))] dX5_sumOfDeductions_34 rfl (by rw [ex11]; rfl) (by decide) rfl ?_
    refine j_goto X 4 dX5_sumOfDeductions_37 (by decide) ?_
    refine j_sub [2, 1, 0] rfl ?_
    exact ih2 x10 x11 M8 h
theorem jc_RX6_279 {G : GT} {E : ET} {cc : ByteArray} {nL pc : Nat} {rm : Room} {lv : List (Nat × Value)} {st : List Value} {M : Mm} (X : CX G E RX6 cc nL rm) (hR : 1 + 1 ≤ rm.frames ∧ 8 + (3 + 11) + 23 ≤ rm.locals) (hst : (st.map fun v => v.category).sum ≤ 8) (d : decode cc pc = .ok (.invokevirtual 279, 3))  {P : Int32 → Mm → Prop} (h : wp_X5_sumOfDeductions  M P) (k1 : ∀ (r : Int32) (M2 : Mm), P r M2 → J G E nL (pc + 3) lv (.int r :: st) M2) : J G E nL pc lv (.ref (adr G 5 0) :: st) M := fun H locs ls hP hS hl => by
  have hK := X.2.2.2.2.2.1.1
  have hm := met_X5_sumOfDeductions (l := eL E) X.2.2.2.2.2.2.1  M P h
  have hR2 : 1 + 1 ≤ (eR E).frames ∧ 8 + (3 + 11) + 23 ≤ (eR E).locals := by rw [X.2.2.2.2.2.2.2.1]; exact hR
  have hC2 : eCells E + 0 ≤ (eR E).cells ∧ eSlots E + 0 ≤ (eR E).slots := by rw [X.2.2.2.2.2.2.2.1]; exact ⟨X.2.2.2.2.2.2.2.2.1, X.2.2.2.2.2.2.2.2.2⟩
  obtain ⟨q0, -, hq⟩ := wld_get (G := G) M (mw5 0 (by decide))
  exact va_calli (va_runV (C := RX5) (As := []) (rest := st) ⟨X.1, X.2.1, X.2.2.1, X.2.2.2.1, X.2.2.2.2.1⟩ hm (cwV (ws' := lw_aw) 0 X.2.2.2.2.1 (gwV (tw (i := 736) (by decide +kernel)) (tw (i := 737) (by decide +kernel)) (tw (i := 738) (by decide +kernel)) (tw (i := 72) (by decide +kernel)) (tw (i := 739) (by decide +kernel))) rfl rfl rfl (by decide +kernel) hR2) ⟨hr_blind, va_recv hK hP (ci := 5) (q := (RX5, TX5, 16)) (fs := objF5 G 0 (M.1 5 0)) (q0 := q0) rfl hq, fun U hU hW => ⟨rfl, by rw [hU]; exact hP, KK.warm hW X.2.2.2.2.2.1⟩⟩ rfl rfl hl.1 rfl (lv_room hst) d hC2) hS (fun q _ h => h) (fun q h => h) (fun r u t H1 locs1 ht hvm hw hB hz1 hk1 hS1 => k1 r u hw H1 locs1 ls (by rw [← ht]; exact hB.1) hS1 hl)
/-- LayeredClaims$Year.sumOfBurdens()I -/
def wp_X5_sumOfBurdens  (M : Mm) (P : Int32 → Mm → Prop) : Prop := (wp_X6_sumOf (130, 0) (rd M 0 0 12) M (fun (r2 : Int32) (M1 : Mm) => P r2 M1))
set_option maxHeartbeats 4000000 in
set_option maxRecDepth 100000 in
theorem met_X5_sumOfBurdens {l : Launch} {G : GT} (hG : GD G)  (M : Mm) (P : Int32 → Mm → Prop) (h : wp_X5_sumOfBurdens  M P) : MI l G yX5_sumOfBurdens cX5_sumOfBurdens 1 (some .int) ({ frames := 1, cells := 0, slots := 0, locals := 23 } : Room) [.ref (adr G 5 0)] M P := by
  refine met_by hG (own := RX5) rfl (by decide +kernel) (Nat.le_of_ble_eq_true rfl) (fun E hE X Y => ?_)
  show J G E 1 0 [(0, .ref (adr G 5 0))] [] M
  unfold wp_X5_sumOfBurdens at h
  refine j_aload_n X 0 dX5_sumOfBurdens_0 rfl rfl ?_
  refine jf_RX5_48 X  dX5_sumOfBurdens_1 ?_
  refine j_aload_n X 0 dX5_sumOfBurdens_4 rfl rfl ?_
  refine jf_RX5_12 X  dX5_sumOfBurdens_5 ?_
  refine jf_RX5_90 X (by decide) dX5_sumOfBurdens_8 ?_
  refine jc_RX5_176 X ⟨Nat.le_of_ble_eq_true rfl, Nat.le_of_ble_eq_true rfl⟩ (Nat.le_of_ble_eq_true rfl) dX5_sumOfBurdens_11 h (fun r2 M1 h => ?_)
  exact j_iret X Y dX5_sumOfBurdens_14 h
theorem jc_RX6_282 {G : GT} {E : ET} {cc : ByteArray} {nL pc : Nat} {rm : Room} {lv : List (Nat × Value)} {st : List Value} {M : Mm} (X : CX G E RX6 cc nL rm) (hR : 1 + 1 ≤ rm.frames ∧ 8 + (1 + 11) + 23 ≤ rm.locals) (hst : (st.map fun v => v.category).sum ≤ 8) (d : decode cc pc = .ok (.invokevirtual 282, 3))  {P : Int32 → Mm → Prop} (h : wp_X5_sumOfBurdens  M P) (k1 : ∀ (r : Int32) (M2 : Mm), P r M2 → J G E nL (pc + 3) lv (.int r :: st) M2) : J G E nL pc lv (.ref (adr G 5 0) :: st) M := fun H locs ls hP hS hl => by
  have hK := X.2.2.2.2.2.1.1
  have hm := met_X5_sumOfBurdens (l := eL E) X.2.2.2.2.2.2.1  M P h
  have hR2 : 1 + 1 ≤ (eR E).frames ∧ 8 + (1 + 11) + 23 ≤ (eR E).locals := by rw [X.2.2.2.2.2.2.2.1]; exact hR
  have hC2 : eCells E + 0 ≤ (eR E).cells ∧ eSlots E + 0 ≤ (eR E).slots := by rw [X.2.2.2.2.2.2.2.1]; exact ⟨X.2.2.2.2.2.2.2.2.1, X.2.2.2.2.2.2.2.2.2⟩
  obtain ⟨q0, -, hq⟩ := wld_get (G := G) M (mw5 0 (by decide))
  exact va_calli (va_runV (C := RX5) (As := []) (rest := st) ⟨X.1, X.2.1, X.2.2.1, X.2.2.2.1, X.2.2.2.2.1⟩ hm (cwV (ws' := lw_aw) 0 X.2.2.2.2.1 (gwV (tw (i := 740) (by decide +kernel)) (tw (i := 741) (by decide +kernel)) (tw (i := 742) (by decide +kernel)) (tw (i := 72) (by decide +kernel)) (tw (i := 743) (by decide +kernel))) rfl rfl rfl (by decide +kernel) hR2) ⟨hr_blind, va_recv hK hP (ci := 5) (q := (RX5, TX5, 16)) (fs := objF5 G 0 (M.1 5 0)) (q0 := q0) rfl hq, fun U hU hW => ⟨rfl, by rw [hU]; exact hP, KK.warm hW X.2.2.2.2.2.1⟩⟩ rfl rfl hl.1 rfl (lv_room hst) d hC2) hS (fun q _ h => h) (fun q h => h) (fun r u t H1 locs1 ht hvm hw hB hz1 hk1 hS1 => k1 r u hw H1 locs1 ls (by rw [← ht]; exact hB.1) hS1 hl)
/-- LayeredClaims$Year.sumOfBorne()I -/
def wp_X5_sumOfBorne  (M : Mm) (P : Int32 → Mm → Prop) : Prop := (∃ n, lq3 (fun self1 (x3 : Int32) (x4 : Int32) (M5 : Mm) => (((rd M5 0 0 12) ≤ x4 → P x3 M5) ∧ (¬ (rd M5 0 0 12) ≤ x4 → (vp_in x4 8 ∧ (wp_X6_sumOf (331, x4.toNatClampNeg) (rd M5 0 0 5) M5 (fun (r9 : Int32) (M8 : Mm) => (∀ x10 : Int32, x10 = (x3 + r9) → (∀ x11 : Int32, x11 = x4 + (1 : Int32) → self1 x10 x11 M8)))))))) n (0 : Int32) (0 : Int32) M)
set_option maxHeartbeats 4000000 in
set_option maxRecDepth 100000 in
theorem met_X5_sumOfBorne {l : Launch} {G : GT} (hG : GD G)  (M : Mm) (P : Int32 → Mm → Prop) (h : wp_X5_sumOfBorne  M P) : MI l G yX5_sumOfBorne cX5_sumOfBorne 3 (some .int) ({ frames := 1, cells := 0, slots := 0, locals := 23 } : Room) [.ref (adr G 5 0)] M P := by
  refine met_by hG (own := RX5) rfl (by decide +kernel) (Nat.le_of_ble_eq_true rfl) (fun E hE X Y => ?_)
  show J G E 3 0 [(0, .ref (adr G 5 0))] [] M
  unfold wp_X5_sumOfBorne at h
  refine j_iconst (v := (0 : Int32)) X (by decide) dX5_sumOfBorne_0 ?_
  refine j_istore_n X [(1, .int (0 : Int32)), (0, .ref (adr G 5 0))] dX5_sumOfBorne_1 rfl (by decide) rfl ?_
  refine j_iconst (v := (0 : Int32)) X (by decide) dX5_sumOfBorne_2 ?_
  refine j_istore_n X [(2, .int (0 : Int32)), (1, .int (0 : Int32)), (0, .ref (adr G 5 0))] dX5_sumOfBorne_3 rfl (by decide) rfl ?_
  refine j_sub [2, 1, 0] rfl ?_
  refine lq3_s h (fun (x3 : Int32) (x4 : Int32) (M5 : Mm) => J G E 3 4 [(0, .ref (adr G 5 0)), (1, .int x3), (2, .int x4)] [] M5) (fun self1 ih2 x3 x4 M5 h => ?_) id
  refine j_iload_n X 2 dX5_sumOfBorne_4 rfl rfl ?_
  refine j_aload_n X 0 dX5_sumOfBorne_5 rfl rfl ?_
  refine jf_RX5_12 X  dX5_sumOfBorne_6 ?_
  refine jf_RX5_90 X (by decide) dX5_sumOfBorne_9 ?_
  refine j_icmp_ge X 40 dX5_sumOfBorne_12 (by decide) (fun c6 => ?_) (fun c6 => ?_)
  · replace h := h.1 c6
    refine j_iload_n X 1 dX5_sumOfBorne_40 rfl rfl ?_
    exact j_iret X Y dX5_sumOfBorne_41 h
  · replace h := h.2 c6
    refine j_iload_n X 1 dX5_sumOfBorne_15 rfl rfl ?_
    refine j_aload_n X 0 dX5_sumOfBorne_16 rfl rfl ?_
    refine jf_RX5_51 X  dX5_sumOfBorne_17 ?_
    refine j_iload_n X 2 dX5_sumOfBorne_20 rfl rfl ?_
    have q7 := h.1
    replace h := h.2
    refine j_aaldI X (mw131 0 (by decide)) kt131 lt131 q7 dX5_sumOfBorne_21 ?_
    refine j_aload_n X 0 dX5_sumOfBorne_22 rfl rfl ?_
    refine jf_RX5_12 X  dX5_sumOfBorne_23 ?_
    refine jf_RX5_83 X (by decide) dX5_sumOfBorne_26 ?_
    refine jc_RX5_176 X ⟨Nat.le_of_ble_eq_true rfl, Nat.le_of_ble_eq_true rfl⟩ (Nat.le_of_ble_eq_true rfl) dX5_sumOfBorne_29 h (fun r9 M8 h => ?_)
    refine j_iadd X dX5_sumOfBorne_32 ?_
    refine j_topi (fun x10 ex10 => ?_)
    replace h := h x10 ex10
    refine j_istore_n X [(1, .int x10), (0, .ref (adr G 5 0)), (2, .int x4)] dX5_sumOfBorne_33 rfl (by decide) rfl ?_
    obtain ⟨x11, ex11⟩ : ∃ z : Int32, z = x4 + (1 : Int32) := ⟨_, rfl⟩
    replace h := h x11 ex11
    refine j_iinc (v := x11) X 2 [(2, .int x11), (1, .int x10), (0, .ref (adr G 5 0))] dX5_sumOfBorne_34 rfl (by rw [ex11]; rfl) (by decide) rfl ?_
    refine j_goto X 4 dX5_sumOfBorne_37 (by decide) ?_
    refine j_sub [2, 1, 0] rfl ?_
    exact ih2 x10 x11 M8 h
theorem jc_RX6_285 {G : GT} {E : ET} {cc : ByteArray} {nL pc : Nat} {rm : Room} {lv : List (Nat × Value)} {st : List Value} {M : Mm} (X : CX G E RX6 cc nL rm) (hR : 1 + 1 ≤ rm.frames ∧ 8 + (3 + 11) + 23 ≤ rm.locals) (hst : (st.map fun v => v.category).sum ≤ 8) (d : decode cc pc = .ok (.invokevirtual 285, 3))  {P : Int32 → Mm → Prop} (h : wp_X5_sumOfBorne  M P) (k1 : ∀ (r : Int32) (M2 : Mm), P r M2 → J G E nL (pc + 3) lv (.int r :: st) M2) : J G E nL pc lv (.ref (adr G 5 0) :: st) M := fun H locs ls hP hS hl => by
  have hK := X.2.2.2.2.2.1.1
  have hm := met_X5_sumOfBorne (l := eL E) X.2.2.2.2.2.2.1  M P h
  have hR2 : 1 + 1 ≤ (eR E).frames ∧ 8 + (3 + 11) + 23 ≤ (eR E).locals := by rw [X.2.2.2.2.2.2.2.1]; exact hR
  have hC2 : eCells E + 0 ≤ (eR E).cells ∧ eSlots E + 0 ≤ (eR E).slots := by rw [X.2.2.2.2.2.2.2.1]; exact ⟨X.2.2.2.2.2.2.2.2.1, X.2.2.2.2.2.2.2.2.2⟩
  obtain ⟨q0, -, hq⟩ := wld_get (G := G) M (mw5 0 (by decide))
  exact va_calli (va_runV (C := RX5) (As := []) (rest := st) ⟨X.1, X.2.1, X.2.2.1, X.2.2.2.1, X.2.2.2.2.1⟩ hm (cwV (ws' := lw_aw) 0 X.2.2.2.2.1 (gwV (tw (i := 744) (by decide +kernel)) (tw (i := 745) (by decide +kernel)) (tw (i := 746) (by decide +kernel)) (tw (i := 72) (by decide +kernel)) (tw (i := 747) (by decide +kernel))) rfl rfl rfl (by decide +kernel) hR2) ⟨hr_blind, va_recv hK hP (ci := 5) (q := (RX5, TX5, 16)) (fs := objF5 G 0 (M.1 5 0)) (q0 := q0) rfl hq, fun U hU hW => ⟨rfl, by rw [hU]; exact hP, KK.warm hW X.2.2.2.2.2.1⟩⟩ rfl rfl hl.1 rfl (lv_room hst) d hC2) hS (fun q _ h => h) (fun q h => h) (fun r u t H1 locs1 ht hvm hw hB hz1 hk1 hS1 => k1 r u hw H1 locs1 ls (by rw [← ht]; exact hB.1) hS1 hl)
/-- LayeredClaims$Year.sumOfRetained()I -/
def wp_X5_sumOfRetained  (M : Mm) (P : Int32 → Mm → Prop) : Prop := (wp_X6_sumOf (133, 0) (rd M 0 0 12) M (fun (r2 : Int32) (M1 : Mm) => P r2 M1))
set_option maxHeartbeats 4000000 in
set_option maxRecDepth 100000 in
theorem met_X5_sumOfRetained {l : Launch} {G : GT} (hG : GD G)  (M : Mm) (P : Int32 → Mm → Prop) (h : wp_X5_sumOfRetained  M P) : MI l G yX5_sumOfRetained cX5_sumOfRetained 1 (some .int) ({ frames := 1, cells := 0, slots := 0, locals := 23 } : Room) [.ref (adr G 5 0)] M P := by
  refine met_by hG (own := RX5) rfl (by decide +kernel) (Nat.le_of_ble_eq_true rfl) (fun E hE X Y => ?_)
  show J G E 1 0 [(0, .ref (adr G 5 0))] [] M
  unfold wp_X5_sumOfRetained at h
  refine j_aload_n X 0 dX5_sumOfRetained_0 rfl rfl ?_
  refine jf_RX5_57 X  dX5_sumOfRetained_1 ?_
  refine j_aload_n X 0 dX5_sumOfRetained_4 rfl rfl ?_
  refine jf_RX5_12 X  dX5_sumOfRetained_5 ?_
  refine jf_RX5_90 X (by decide) dX5_sumOfRetained_8 ?_
  refine jc_RX5_176 X ⟨Nat.le_of_ble_eq_true rfl, Nat.le_of_ble_eq_true rfl⟩ (Nat.le_of_ble_eq_true rfl) dX5_sumOfRetained_11 h (fun r2 M1 h => ?_)
  exact j_iret X Y dX5_sumOfRetained_14 h
theorem jc_RX6_288 {G : GT} {E : ET} {cc : ByteArray} {nL pc : Nat} {rm : Room} {lv : List (Nat × Value)} {st : List Value} {M : Mm} (X : CX G E RX6 cc nL rm) (hR : 1 + 1 ≤ rm.frames ∧ 8 + (1 + 11) + 23 ≤ rm.locals) (hst : (st.map fun v => v.category).sum ≤ 8) (d : decode cc pc = .ok (.invokevirtual 288, 3))  {P : Int32 → Mm → Prop} (h : wp_X5_sumOfRetained  M P) (k1 : ∀ (r : Int32) (M2 : Mm), P r M2 → J G E nL (pc + 3) lv (.int r :: st) M2) : J G E nL pc lv (.ref (adr G 5 0) :: st) M := fun H locs ls hP hS hl => by
  have hK := X.2.2.2.2.2.1.1
  have hm := met_X5_sumOfRetained (l := eL E) X.2.2.2.2.2.2.1  M P h
  have hR2 : 1 + 1 ≤ (eR E).frames ∧ 8 + (1 + 11) + 23 ≤ (eR E).locals := by rw [X.2.2.2.2.2.2.2.1]; exact hR
  have hC2 : eCells E + 0 ≤ (eR E).cells ∧ eSlots E + 0 ≤ (eR E).slots := by rw [X.2.2.2.2.2.2.2.1]; exact ⟨X.2.2.2.2.2.2.2.2.1, X.2.2.2.2.2.2.2.2.2⟩
  obtain ⟨q0, -, hq⟩ := wld_get (G := G) M (mw5 0 (by decide))
  exact va_calli (va_runV (C := RX5) (As := []) (rest := st) ⟨X.1, X.2.1, X.2.2.1, X.2.2.2.1, X.2.2.2.2.1⟩ hm (cwV (ws' := lw_aw) 0 X.2.2.2.2.1 (gwV (tw (i := 748) (by decide +kernel)) (tw (i := 749) (by decide +kernel)) (tw (i := 750) (by decide +kernel)) (tw (i := 72) (by decide +kernel)) (tw (i := 751) (by decide +kernel))) rfl rfl rfl (by decide +kernel) hR2) ⟨hr_blind, va_recv hK hP (ci := 5) (q := (RX5, TX5, 16)) (fs := objF5 G 0 (M.1 5 0)) (q0 := q0) rfl hq, fun U hU hW => ⟨rfl, by rw [hU]; exact hP, KK.warm hW X.2.2.2.2.2.1⟩⟩ rfl rfl hl.1 rfl (lv_room hst) d hC2) hS (fun q _ h => h) (fun q h => h) (fun r u t H1 locs1 ht hvm hw hB hz1 hk1 hS1 => k1 r u hw H1 locs1 ls (by rw [← ht]; exact hB.1) hS1 hl)
/-- LayeredClaims$Year.costOfLayers()I -/
def wp_X5_costOfLayers  (M : Mm) (P : Int32 → Mm → Prop) : Prop := (∃ n, lq3 (fun self1 (x3 : Int32) (x4 : Int32) (M5 : Mm) => (((rd M5 0 0 5) ≤ x4 → P x3 M5) ∧ (¬ (rd M5 0 0 5) ≤ x4 → (vp_in x4 4 ∧ (wp_X5_reinstatementPremium x4 M5 (fun (r9 : Int32) (M8 : Mm) => (∀ x10 : Int32, x10 = (x3 + ((rd M5 28 0 x4.toNatClampNeg) + r9)) → (∀ x11 : Int32, x11 = x4 + (1 : Int32) → self1 x10 x11 M8)))))))) n (0 : Int32) (0 : Int32) M)
set_option maxHeartbeats 4000000 in
set_option maxRecDepth 100000 in
theorem met_X5_costOfLayers {l : Launch} {G : GT} (hG : GD G)  (M : Mm) (P : Int32 → Mm → Prop) (h : wp_X5_costOfLayers  M P) : MI l G yX5_costOfLayers cX5_costOfLayers 3 (some .int) ({ frames := 4, cells := 0, slots := 0, locals := 86 } : Room) [.ref (adr G 5 0)] M P := by
  refine met_by hG (own := RX5) rfl (by decide +kernel) (Nat.le_of_ble_eq_true rfl) (fun E hE X Y => ?_)
  show J G E 3 0 [(0, .ref (adr G 5 0))] [] M
  unfold wp_X5_costOfLayers at h
  refine j_iconst (v := (0 : Int32)) X (by decide) dX5_costOfLayers_0 ?_
  refine j_istore_n X [(1, .int (0 : Int32)), (0, .ref (adr G 5 0))] dX5_costOfLayers_1 rfl (by decide) rfl ?_
  refine j_iconst (v := (0 : Int32)) X (by decide) dX5_costOfLayers_2 ?_
  refine j_istore_n X [(2, .int (0 : Int32)), (1, .int (0 : Int32)), (0, .ref (adr G 5 0))] dX5_costOfLayers_3 rfl (by decide) rfl ?_
  refine j_sub [2, 1, 0] rfl ?_
  refine lq3_s h (fun (x3 : Int32) (x4 : Int32) (M5 : Mm) => J G E 3 4 [(0, .ref (adr G 5 0)), (1, .int x3), (2, .int x4)] [] M5) (fun self1 ih2 x3 x4 M5 h => ?_) id
  refine j_iload_n X 2 dX5_costOfLayers_4 rfl rfl ?_
  refine j_aload_n X 0 dX5_costOfLayers_5 rfl rfl ?_
  refine jf_RX5_12 X  dX5_costOfLayers_6 ?_
  refine jf_RX5_83 X (by decide) dX5_costOfLayers_9 ?_
  refine j_icmp_ge X 39 dX5_costOfLayers_12 (by decide) (fun c6 => ?_) (fun c6 => ?_)
  · replace h := h.1 c6
    refine j_iload_n X 1 dX5_costOfLayers_39 rfl rfl ?_
    exact j_iret X Y dX5_costOfLayers_40 h
  · replace h := h.2 c6
    refine j_iload_n X 1 dX5_costOfLayers_15 rfl rfl ?_
    refine j_aload_n X 0 dX5_costOfLayers_16 rfl rfl ?_
    refine jf_RX5_12 X  dX5_costOfLayers_17 ?_
    refine jf_RX5_186 X (by decide) dX5_costOfLayers_20 ?_
    refine j_iload_n X 2 dX5_costOfLayers_23 rfl rfl ?_
    have q7 := h.1
    replace h := h.2
    refine j_iald X _ rfl (mw28 0 (by decide)) kt28 lt28 q7 dX5_costOfLayers_24 ?_
    refine j_aload_n X 0 dX5_costOfLayers_25 rfl rfl ?_
    refine j_iload_n X 2 dX5_costOfLayers_26 rfl rfl ?_
    refine jc_RX5_196 X ⟨Nat.le_of_ble_eq_true rfl, Nat.le_of_ble_eq_true rfl⟩ (Nat.le_of_ble_eq_true rfl) dX5_costOfLayers_27 h (fun r9 M8 h => ?_)
    refine j_iadd X dX5_costOfLayers_30 ?_
    refine j_iadd X dX5_costOfLayers_31 ?_
    refine j_topi (fun x10 ex10 => ?_)
    replace h := h x10 ex10
    refine j_istore_n X [(1, .int x10), (0, .ref (adr G 5 0)), (2, .int x4)] dX5_costOfLayers_32 rfl (by decide) rfl ?_
    obtain ⟨x11, ex11⟩ : ∃ z : Int32, z = x4 + (1 : Int32) := ⟨_, rfl⟩
    replace h := h x11 ex11
    refine j_iinc (v := x11) X 2 [(2, .int x11), (1, .int x10), (0, .ref (adr G 5 0))] dX5_costOfLayers_33 rfl (by rw [ex11]; rfl) (by decide) rfl ?_
    refine j_goto X 4 dX5_costOfLayers_36 (by decide) ?_
    refine j_sub [2, 1, 0] rfl ?_
    exact ih2 x10 x11 M8 h
theorem jc_RX6_294 {G : GT} {E : ET} {cc : ByteArray} {nL pc : Nat} {rm : Room} {lv : List (Nat × Value)} {st : List Value} {M : Mm} (X : CX G E RX6 cc nL rm) (hR : 4 + 1 ≤ rm.frames ∧ 8 + (3 + 11) + 86 ≤ rm.locals) (hst : (st.map fun v => v.category).sum ≤ 8) (d : decode cc pc = .ok (.invokevirtual 294, 3))  {P : Int32 → Mm → Prop} (h : wp_X5_costOfLayers  M P) (k1 : ∀ (r : Int32) (M2 : Mm), P r M2 → J G E nL (pc + 3) lv (.int r :: st) M2) : J G E nL pc lv (.ref (adr G 5 0) :: st) M := fun H locs ls hP hS hl => by
  have hK := X.2.2.2.2.2.1.1
  have hm := met_X5_costOfLayers (l := eL E) X.2.2.2.2.2.2.1  M P h
  have hR2 : 4 + 1 ≤ (eR E).frames ∧ 8 + (3 + 11) + 86 ≤ (eR E).locals := by rw [X.2.2.2.2.2.2.2.1]; exact hR
  have hC2 : eCells E + 0 ≤ (eR E).cells ∧ eSlots E + 0 ≤ (eR E).slots := by rw [X.2.2.2.2.2.2.2.1]; exact ⟨X.2.2.2.2.2.2.2.2.1, X.2.2.2.2.2.2.2.2.2⟩
  obtain ⟨q0, -, hq⟩ := wld_get (G := G) M (mw5 0 (by decide))
  exact va_calli (va_runV (C := RX5) (As := []) (rest := st) ⟨X.1, X.2.1, X.2.2.1, X.2.2.2.1, X.2.2.2.2.1⟩ hm (cwV (ws' := lw_aw) 0 X.2.2.2.2.1 (gwV (tw (i := 757) (by decide +kernel)) (tw (i := 758) (by decide +kernel)) (tw (i := 759) (by decide +kernel)) (tw (i := 72) (by decide +kernel)) (tw (i := 760) (by decide +kernel))) rfl rfl rfl (by decide +kernel) hR2) ⟨hr_blind, va_recv hK hP (ci := 5) (q := (RX5, TX5, 16)) (fs := objF5 G 0 (M.1 5 0)) (q0 := q0) rfl hq, fun U hU hW => ⟨rfl, by rw [hU]; exact hP, KK.warm hW X.2.2.2.2.2.1⟩⟩ rfl rfl hl.1 rfl (lv_room hst) d hC2) hS (fun q _ h => h) (fun q h => h) (fun r u t H1 locs1 ht hvm hw hB hz1 hk1 hS1 => k1 r u hw H1 locs1 ls (by rw [← ht]; exact hB.1) hS1 hl)
/-- LayeredClaims$Year.sumOfClaimPayments()I -/
def wp_X5_sumOfClaimPayments  (M : Mm) (P : Int32 → Mm → Prop) : Prop := (∃ n, lq2 (fun self1 (x3 : Int32) (M4 : Mm) => (((rd M4 0 0 12) ≤ x3 → (wp_X6_sumOf (134, 0) (rd M4 0 0 15) M4 (fun (r7 : Int32) (M6 : Mm) => P r7 M6))) ∧ (¬ (rd M4 0 0 12) ≤ x3 → (∃ n, lq2 (fun self8 (x10 : Int32) (M11 : Mm) => (((rd M11 0 0 0) ≤ x10 → (∀ x13 : Int32, x13 = x3 + (1 : Int32) → self1 x13 M11)) ∧ (¬ (rd M11 0 0 0) ≤ x10 → (wp_X5_payClaims x3 x10 M11 (fun (M14 : Mm) => (∀ x15 : Int32, x15 = x10 + (1 : Int32) → self8 x15 M14)))))) n (0 : Int32) M4)))) n (0 : Int32) M)
set_option maxHeartbeats 4000000 in
set_option maxRecDepth 100000 in
theorem met_X5_sumOfClaimPayments {l : Launch} {G : GT} (hG : GD G)  (M : Mm) (P : Int32 → Mm → Prop) (h : wp_X5_sumOfClaimPayments  M P) : MI l G yX5_sumOfClaimPayments cX5_sumOfClaimPayments 3 (some .int) ({ frames := 3, cells := 0, slots := 0, locals := 73 } : Room) [.ref (adr G 5 0)] M P := by
  refine met_by hG (own := RX5) rfl (by decide +kernel) (Nat.le_of_ble_eq_true rfl) (fun E hE X Y => ?_)
  show J G E 3 0 [(0, .ref (adr G 5 0))] [] M
  unfold wp_X5_sumOfClaimPayments at h
  refine j_iconst (v := (0 : Int32)) X (by decide) dX5_sumOfClaimPayments_0 ?_
  refine j_istore_n X [(1, .int (0 : Int32)), (0, .ref (adr G 5 0))] dX5_sumOfClaimPayments_1 rfl (by decide) rfl ?_
  refine j_sub [1, 0] rfl ?_
  refine lq2_s h (fun (x3 : Int32) (M4 : Mm) => J G E 3 2 [(0, .ref (adr G 5 0)), (1, .int x3)] [] M4) (fun self1 ih2 x3 M4 h => ?_) id
  refine j_iload_n X 1 dX5_sumOfClaimPayments_2 rfl rfl ?_
  refine j_aload_n X 0 dX5_sumOfClaimPayments_3 rfl rfl ?_
  refine jf_RX5_12 X  dX5_sumOfClaimPayments_4 ?_
  refine jf_RX5_90 X (by decide) dX5_sumOfClaimPayments_7 ?_
  refine j_icmp_ge X 44 dX5_sumOfClaimPayments_10 (by decide) (fun c5 => ?_) (fun c5 => ?_)
  · replace h := h.1 c5
    refine j_aload_n X 0 dX5_sumOfClaimPayments_44 rfl rfl ?_
    refine jf_RX5_60 X  dX5_sumOfClaimPayments_45 ?_
    refine j_aload_n X 0 dX5_sumOfClaimPayments_48 rfl rfl ?_
    refine jf_RX5_12 X  dX5_sumOfClaimPayments_49 ?_
    refine jf_RX5_110 X (by decide) dX5_sumOfClaimPayments_52 ?_
    refine jc_RX5_176 X ⟨Nat.le_of_ble_eq_true rfl, Nat.le_of_ble_eq_true rfl⟩ (Nat.le_of_ble_eq_true rfl) dX5_sumOfClaimPayments_55 h (fun r7 M6 h => ?_)
    exact j_iret X Y dX5_sumOfClaimPayments_58 h
  · replace h := h.2 c5
    refine j_iconst (v := (0 : Int32)) X (by decide) dX5_sumOfClaimPayments_13 ?_
    refine j_istore_n X [(2, .int (0 : Int32)), (0, .ref (adr G 5 0)), (1, .int x3)] dX5_sumOfClaimPayments_14 rfl (by decide) rfl ?_
    refine j_sub [1, 2, 0] rfl ?_
    refine lq2_s h (fun (x10 : Int32) (M11 : Mm) => J G E 3 15 [(0, .ref (adr G 5 0)), (1, .int x3), (2, .int x10)] [] M11) (fun self8 ih9 x10 M11 h => ?_) id
    refine j_iload_n X 2 dX5_sumOfClaimPayments_15 rfl rfl ?_
    refine j_aload_n X 0 dX5_sumOfClaimPayments_16 rfl rfl ?_
    refine jf_RX5_12 X  dX5_sumOfClaimPayments_17 ?_
    refine jf_RX5_76 X (by decide) dX5_sumOfClaimPayments_20 ?_
    refine j_icmp_ge X 38 dX5_sumOfClaimPayments_23 (by decide) (fun c12 => ?_) (fun c12 => ?_)
    · replace h := h.1 c12
      obtain ⟨x13, ex13⟩ : ∃ z : Int32, z = x3 + (1 : Int32) := ⟨_, rfl⟩
      replace h := h x13 ex13
      refine j_iinc (v := x13) X 1 [(1, .int x13), (0, .ref (adr G 5 0)), (2, .int x10)] dX5_sumOfClaimPayments_38 rfl (by rw [ex13]; rfl) (by decide) rfl ?_
      refine j_goto X 2 dX5_sumOfClaimPayments_41 (by decide) ?_
      refine j_sub [1, 0] rfl ?_
      exact ih2 x13 M11 h
    · replace h := h.2 c12
      refine j_aload_n X 0 dX5_sumOfClaimPayments_26 rfl rfl ?_
      refine j_iload_n X 1 dX5_sumOfClaimPayments_27 rfl rfl ?_
      refine j_iload_n X 2 dX5_sumOfClaimPayments_28 rfl rfl ?_
      refine jc_RX5_199 X ⟨Nat.le_of_ble_eq_true rfl, Nat.le_of_ble_eq_true rfl⟩ (Nat.le_of_ble_eq_true rfl) dX5_sumOfClaimPayments_29 h (fun M14 h => ?_)
      obtain ⟨x15, ex15⟩ : ∃ z : Int32, z = x10 + (1 : Int32) := ⟨_, rfl⟩
      replace h := h x15 ex15
      refine j_iinc (v := x15) X 2 [(2, .int x15), (0, .ref (adr G 5 0)), (1, .int x3)] dX5_sumOfClaimPayments_32 rfl (by rw [ex15]; rfl) (by decide) rfl ?_
      refine j_goto X 15 dX5_sumOfClaimPayments_35 (by decide) ?_
      refine j_sub [1, 2, 0] rfl ?_
      exact ih9 x15 M14 h
theorem jc_RX6_302 {G : GT} {E : ET} {cc : ByteArray} {nL pc : Nat} {rm : Room} {lv : List (Nat × Value)} {st : List Value} {M : Mm} (X : CX G E RX6 cc nL rm) (hR : 3 + 1 ≤ rm.frames ∧ 8 + (3 + 11) + 73 ≤ rm.locals) (hst : (st.map fun v => v.category).sum ≤ 8) (d : decode cc pc = .ok (.invokevirtual 302, 3))  {P : Int32 → Mm → Prop} (h : wp_X5_sumOfClaimPayments  M P) (k1 : ∀ (r : Int32) (M2 : Mm), P r M2 → J G E nL (pc + 3) lv (.int r :: st) M2) : J G E nL pc lv (.ref (adr G 5 0) :: st) M := fun H locs ls hP hS hl => by
  have hK := X.2.2.2.2.2.1.1
  have hm := met_X5_sumOfClaimPayments (l := eL E) X.2.2.2.2.2.2.1  M P h
  have hR2 : 3 + 1 ≤ (eR E).frames ∧ 8 + (3 + 11) + 73 ≤ (eR E).locals := by rw [X.2.2.2.2.2.2.2.1]; exact hR
  have hC2 : eCells E + 0 ≤ (eR E).cells ∧ eSlots E + 0 ≤ (eR E).slots := by rw [X.2.2.2.2.2.2.2.1]; exact ⟨X.2.2.2.2.2.2.2.2.1, X.2.2.2.2.2.2.2.2.2⟩
  obtain ⟨q0, -, hq⟩ := wld_get (G := G) M (mw5 0 (by decide))
  exact va_calli (va_runV (C := RX5) (As := []) (rest := st) ⟨X.1, X.2.1, X.2.2.1, X.2.2.2.1, X.2.2.2.2.1⟩ hm (cwV (ws' := lw_aw) 0 X.2.2.2.2.1 (gwV (tw (i := 779) (by decide +kernel)) (tw (i := 780) (by decide +kernel)) (tw (i := 781) (by decide +kernel)) (tw (i := 72) (by decide +kernel)) (tw (i := 782) (by decide +kernel))) rfl rfl rfl (by decide +kernel) hR2) ⟨hr_blind, va_recv hK hP (ci := 5) (q := (RX5, TX5, 16)) (fs := objF5 G 0 (M.1 5 0)) (q0 := q0) rfl hq, fun U hU hW => ⟨rfl, by rw [hU]; exact hP, KK.warm hW X.2.2.2.2.2.1⟩⟩ rfl rfl hl.1 rfl (lv_room hst) d hC2) hS (fun q _ h => h) (fun q h => h) (fun r u t H1 locs1 ht hvm hw hB hz1 hk1 hS1 => k1 r u hw H1 locs1 ls (by rw [← ht]; exact hB.1) hS1 hl)
/-- LayeredClaims$Year.sumOfLayersOneByOne()I -/
def wp_X5_sumOfLayersOneByOne  (M : Mm) (P : Int32 → Mm → Prop) : Prop := (∃ n, lq3 (fun self1 (x3 : Int32) (x4 : Int32) (M5 : Mm) => (((rd M5 0 0 5) ≤ x4 → P x3 M5) ∧ (¬ (rd M5 0 0 5) ≤ x4 → (wp_X5_borneByLayer x4 M5 (fun (r8 : Int32) (M7 : Mm) => (∀ x9 : Int32, x9 = (x3 + r8) → (∀ x10 : Int32, x10 = x4 + (1 : Int32) → self1 x9 x10 M7))))))) n (0 : Int32) (0 : Int32) M)
set_option maxHeartbeats 4000000 in
set_option maxRecDepth 100000 in
theorem met_X5_sumOfLayersOneByOne {l : Launch} {G : GT} (hG : GD G)  (M : Mm) (P : Int32 → Mm → Prop) (h : wp_X5_sumOfLayersOneByOne  M P) : MI l G yX5_sumOfLayersOneByOne cX5_sumOfLayersOneByOne 3 (some .int) ({ frames := 2, cells := 0, slots := 0, locals := 42 } : Room) [.ref (adr G 5 0)] M P := by
  refine met_by hG (own := RX5) rfl (by decide +kernel) (Nat.le_of_ble_eq_true rfl) (fun E hE X Y => ?_)
  show J G E 3 0 [(0, .ref (adr G 5 0))] [] M
  unfold wp_X5_sumOfLayersOneByOne at h
  refine j_iconst (v := (0 : Int32)) X (by decide) dX5_sumOfLayersOneByOne_0 ?_
  refine j_istore_n X [(1, .int (0 : Int32)), (0, .ref (adr G 5 0))] dX5_sumOfLayersOneByOne_1 rfl (by decide) rfl ?_
  refine j_iconst (v := (0 : Int32)) X (by decide) dX5_sumOfLayersOneByOne_2 ?_
  refine j_istore_n X [(2, .int (0 : Int32)), (1, .int (0 : Int32)), (0, .ref (adr G 5 0))] dX5_sumOfLayersOneByOne_3 rfl (by decide) rfl ?_
  refine j_sub [2, 1, 0] rfl ?_
  refine lq3_s h (fun (x3 : Int32) (x4 : Int32) (M5 : Mm) => J G E 3 4 [(0, .ref (adr G 5 0)), (1, .int x3), (2, .int x4)] [] M5) (fun self1 ih2 x3 x4 M5 h => ?_) id
  refine j_iload_n X 2 dX5_sumOfLayersOneByOne_4 rfl rfl ?_
  refine j_aload_n X 0 dX5_sumOfLayersOneByOne_5 rfl rfl ?_
  refine jf_RX5_12 X  dX5_sumOfLayersOneByOne_6 ?_
  refine jf_RX5_83 X (by decide) dX5_sumOfLayersOneByOne_9 ?_
  refine j_icmp_ge X 29 dX5_sumOfLayersOneByOne_12 (by decide) (fun c6 => ?_) (fun c6 => ?_)
  · replace h := h.1 c6
    refine j_iload_n X 1 dX5_sumOfLayersOneByOne_29 rfl rfl ?_
    exact j_iret X Y dX5_sumOfLayersOneByOne_30 h
  · replace h := h.2 c6
    refine j_iload_n X 1 dX5_sumOfLayersOneByOne_15 rfl rfl ?_
    refine j_aload_n X 0 dX5_sumOfLayersOneByOne_16 rfl rfl ?_
    refine j_iload_n X 2 dX5_sumOfLayersOneByOne_17 rfl rfl ?_
    refine jc_RX5_183 X ⟨Nat.le_of_ble_eq_true rfl, Nat.le_of_ble_eq_true rfl⟩ (Nat.le_of_ble_eq_true rfl) dX5_sumOfLayersOneByOne_18 h (fun r8 M7 h => ?_)
    refine j_iadd X dX5_sumOfLayersOneByOne_21 ?_
    refine j_topi (fun x9 ex9 => ?_)
    replace h := h x9 ex9
    refine j_istore_n X [(1, .int x9), (0, .ref (adr G 5 0)), (2, .int x4)] dX5_sumOfLayersOneByOne_22 rfl (by decide) rfl ?_
    obtain ⟨x10, ex10⟩ : ∃ z : Int32, z = x4 + (1 : Int32) := ⟨_, rfl⟩
    replace h := h x10 ex10
    refine j_iinc (v := x10) X 2 [(2, .int x10), (1, .int x9), (0, .ref (adr G 5 0))] dX5_sumOfLayersOneByOne_23 rfl (by rw [ex10]; rfl) (by decide) rfl ?_
    refine j_goto X 4 dX5_sumOfLayersOneByOne_26 (by decide) ?_
    refine j_sub [2, 1, 0] rfl ?_
    exact ih2 x9 x10 M7 h
theorem jc_RX6_305 {G : GT} {E : ET} {cc : ByteArray} {nL pc : Nat} {rm : Room} {lv : List (Nat × Value)} {st : List Value} {M : Mm} (X : CX G E RX6 cc nL rm) (hR : 2 + 1 ≤ rm.frames ∧ 8 + (3 + 11) + 42 ≤ rm.locals) (hst : (st.map fun v => v.category).sum ≤ 8) (d : decode cc pc = .ok (.invokevirtual 305, 3))  {P : Int32 → Mm → Prop} (h : wp_X5_sumOfLayersOneByOne  M P) (k1 : ∀ (r : Int32) (M2 : Mm), P r M2 → J G E nL (pc + 3) lv (.int r :: st) M2) : J G E nL pc lv (.ref (adr G 5 0) :: st) M := fun H locs ls hP hS hl => by
  have hK := X.2.2.2.2.2.1.1
  have hm := met_X5_sumOfLayersOneByOne (l := eL E) X.2.2.2.2.2.2.1  M P h
  have hR2 : 2 + 1 ≤ (eR E).frames ∧ 8 + (3 + 11) + 42 ≤ (eR E).locals := by rw [X.2.2.2.2.2.2.2.1]; exact hR
  have hC2 : eCells E + 0 ≤ (eR E).cells ∧ eSlots E + 0 ≤ (eR E).slots := by rw [X.2.2.2.2.2.2.2.1]; exact ⟨X.2.2.2.2.2.2.2.2.1, X.2.2.2.2.2.2.2.2.2⟩
  obtain ⟨q0, -, hq⟩ := wld_get (G := G) M (mw5 0 (by decide))
  exact va_calli (va_runV (C := RX5) (As := []) (rest := st) ⟨X.1, X.2.1, X.2.2.1, X.2.2.2.1, X.2.2.2.2.1⟩ hm (cwV (ws' := lw_aw) 0 X.2.2.2.2.1 (gwV (tw (i := 784) (by decide +kernel)) (tw (i := 785) (by decide +kernel)) (tw (i := 786) (by decide +kernel)) (tw (i := 72) (by decide +kernel)) (tw (i := 787) (by decide +kernel))) rfl rfl rfl (by decide +kernel) hR2) ⟨hr_blind, va_recv hK hP (ci := 5) (q := (RX5, TX5, 16)) (fs := objF5 G 0 (M.1 5 0)) (q0 := q0) rfl hq, fun U hU hW => ⟨rfl, by rw [hU]; exact hP, KK.warm hW X.2.2.2.2.2.1⟩⟩ rfl rfl hl.1 rfl (lv_room hst) d hC2) hS (fun q _ h => h) (fun q h => h) (fun r u t H1 locs1 ht hvm hw hB hz1 hk1 hS1 => k1 r u hw H1 locs1 ls (by rw [← ht]; exact hB.1) hS1 hl)
/-- LayeredClaims.changed(I)I -/
def wp_X6_changed (a1 : Int32) (M : Mm) (P : Int32 → Mm → Prop) : Prop := (jn (fun  (M1 : Mm) => P a1 M1) (fun J2 : Mm → Prop => ((a1 < 0 → J2 M) ∧ (¬ a1 < 0 → (wp_X1_keepMark  M (fun (M5 : Mm) => J2 M5))))))
set_option maxHeartbeats 4000000 in
set_option maxRecDepth 100000 in
theorem met_X6_changed {l : Launch} {G : GT} (hG : GD G) (a1 : Int32) (M : Mm) (P : Int32 → Mm → Prop) (h : wp_X6_changed a1 M P) : MI l G yX6_changed cX6_changed 2 (some .int) ({ frames := 2, cells := 0, slots := 0, locals := 41 } : Room) [.ref (adr G 6 0), .int a1] M P := by
  refine met_by hG (own := RX6) rfl (by decide +kernel) (Nat.le_of_ble_eq_true rfl) (fun E hE X Y => ?_)
  show J G E 2 0 [(0, .ref (adr G 6 0)), (1, .int a1)] [] M
  unfold wp_X6_changed at h
  refine j_iload_n X 1 dX6_changed_0 rfl rfl ?_
  refine jn1_s h (fun  (M1 : Mm) => J G E 2 11 [(1, .int a1)] [] M1) (fun M1 h => ?_) (fun J2 hj3 h => ?_)
  · refine j_iload_n X 0 dX6_changed_11 rfl rfl ?_
    exact j_iret X Y dX6_changed_12 h
  · refine j_if_lt X 11 dX6_changed_1 (by decide) (fun c4 => ?_) (fun c4 => ?_)
    · replace h := h.1 c4
      refine j_sub [1] rfl ?_
      exact hj3 M h
    · replace h := h.2 c4
      refine j_aload_n X 0 dX6_changed_4 rfl rfl ?_
      refine jf_RX6_30 X  dX6_changed_5 ?_
      refine jc_RX6_367 X ⟨Nat.le_of_ble_eq_true rfl, Nat.le_of_ble_eq_true rfl⟩ (Nat.le_of_ble_eq_true rfl) dX6_changed_8 h (fun M5 h => ?_)
      refine j_sub [1] rfl ?_
      exact hj3 M5 h
theorem jc_RX6_60 {G : GT} {E : ET} {cc : ByteArray} {nL pc : Nat} {rm : Room} {lv : List (Nat × Value)} {st : List Value} {M : Mm} (X : CX G E RX6 cc nL rm) (hR : 2 + 1 ≤ rm.frames ∧ 8 + (2 + 11) + 41 ≤ rm.locals) (hst : (st.map fun v => v.category).sum ≤ 8) (d : decode cc pc = .ok (.invokevirtual 60, 3)) {a1 : Int32} {P : Int32 → Mm → Prop} (h : wp_X6_changed a1 M P) (k1 : ∀ (r : Int32) (M2 : Mm), P r M2 → J G E nL (pc + 3) lv (.int r :: st) M2) : J G E nL pc lv (.int a1 :: .ref (adr G 6 0) :: st) M := fun H locs ls hP hS hl => by
  have hK := X.2.2.2.2.2.1.1
  have hm := met_X6_changed (l := eL E) X.2.2.2.2.2.2.1 a1 M P h
  have hR2 : 2 + 1 ≤ (eR E).frames ∧ 8 + (2 + 11) + 41 ≤ (eR E).locals := by rw [X.2.2.2.2.2.2.2.1]; exact hR
  have hC2 : eCells E + 0 ≤ (eR E).cells ∧ eSlots E + 0 ≤ (eR E).slots := by rw [X.2.2.2.2.2.2.2.1]; exact ⟨X.2.2.2.2.2.2.2.2.1, X.2.2.2.2.2.2.2.2.2⟩
  obtain ⟨q0, -, hq⟩ := wld_get (G := G) M (mw6 0 (by decide))
  exact va_calli (va_runV (C := RX6) (As := [.int a1]) (rest := st) ⟨X.1, X.2.1, X.2.2.1, X.2.2.2.1, X.2.2.2.2.1⟩ hm (cwV (ws' := lw_aw) 1 X.2.2.2.2.1 (gwV (tw (i := 401) (by decide +kernel)) (tw (i := 403) (by decide +kernel)) (tw (i := 0) (by decide +kernel)) (tw (i := 71) (by decide +kernel)) (tw (i := 404) (by decide +kernel))) rfl rfl rfl (by decide +kernel) hR2) ⟨hr_blind, va_recv hK hP (ci := 6) (q := (RX6, TX6, 8)) (fs := objF6 G 0 (M.1 6 0)) (q0 := q0) rfl hq, fun U hU hW => ⟨rfl, by rw [hU]; exact hP, KK.warm hW X.2.2.2.2.2.1⟩⟩ rfl rfl hl.1 rfl (lv_room hst) d hC2) hS (fun q _ h => h) (fun q h => h) (fun r u t H1 locs1 ht hvm hw hB hz1 hk1 hS1 => k1 r u hw H1 locs1 ls (by rw [← ht]; exact hB.1) hS1 hl)
/-- LayeredClaims.addCover(IIII)I -/
def wp_X6_addCover (a1 : Int32) (a2 : Int32) (a3 : Int32) (a4 : Int32) (M : Mm) (P : Int32 → Mm → Prop) : Prop := (wp_X1_mark 0 M (fun (M1 : Mm) => (wp_X0_insertCover 0 a1 a2 a3 a4 M1 (fun (r3 : Int32) (M2 : Mm) => (wp_X6_changed r3 M2 (fun (r5 : Int32) (M4 : Mm) => P r5 M4))))))
set_option maxHeartbeats 4000000 in
set_option maxRecDepth 100000 in
theorem met_X6_addCover {l : Launch} {G : GT} (hG : GD G) (a1 : Int32) (a2 : Int32) (a3 : Int32) (a4 : Int32) (M : Mm) (P : Int32 → Mm → Prop) (h : wp_X6_addCover a1 a2 a3 a4 M P) : MI l G yX6_addCover cX6_addCover 5 (some .int) ({ frames := 3, cells := 0, slots := 0, locals := 68 } : Room) [.ref (adr G 6 0), .int a1, .int a2, .int a3, .int a4] M P := by
  refine met_by hG (own := RX6) rfl (by decide +kernel) (Nat.le_of_ble_eq_true rfl) (fun E hE X Y => ?_)
  show J G E 5 0 [(0, .ref (adr G 6 0)), (1, .int a1), (2, .int a2), (3, .int a3), (4, .int a4)] [] M
  unfold wp_X6_addCover at h
  refine j_aload_n X 0 dX6_addCover_0 rfl rfl ?_
  refine jf_RX6_30 X  dX6_addCover_1 ?_
  refine j_aload_n X 0 dX6_addCover_4 rfl rfl ?_
  refine jf_RX6_20 X  dX6_addCover_5 ?_
  refine jc_RX6_52 X ⟨Nat.le_of_ble_eq_true rfl, Nat.le_of_ble_eq_true rfl⟩ (Nat.le_of_ble_eq_true rfl) dX6_addCover_8 h (fun M1 h => ?_)
  refine j_aload_n X 0 dX6_addCover_11 rfl rfl ?_
  refine j_aload_n X 0 dX6_addCover_12 rfl rfl ?_
  refine jf_RX6_20 X  dX6_addCover_13 ?_
  refine j_iload_n X 1 dX6_addCover_16 rfl rfl ?_
  refine j_iload_n X 2 dX6_addCover_17 rfl rfl ?_
  refine j_iload_n X 3 dX6_addCover_18 rfl rfl ?_
  refine j_iload X 4 dX6_addCover_19 rfl ?_
  refine jc_RX6_56 X ⟨Nat.le_of_ble_eq_true rfl, Nat.le_of_ble_eq_true rfl⟩ (Nat.le_of_ble_eq_true rfl) dX6_addCover_21 (by decide) h (fun r3 M2 h => ?_)
  refine jc_RX6_60 X ⟨Nat.le_of_ble_eq_true rfl, Nat.le_of_ble_eq_true rfl⟩ (Nat.le_of_ble_eq_true rfl) dX6_addCover_24 h (fun r5 M4 h => ?_)
  exact j_iret X Y dX6_addCover_27 h
theorem jc_RX6_348 {G : GT} {E : ET} {cc : ByteArray} {nL pc : Nat} {rm : Room} {lv : List (Nat × Value)} {st : List Value} {M : Mm} (X : CX G E RX6 cc nL rm) (hR : 3 + 1 ≤ rm.frames ∧ 8 + (5 + 11) + 68 ≤ rm.locals) (hst : (st.map fun v => v.category).sum ≤ 8) (d : decode cc pc = .ok (.invokevirtual 348, 3)) {a1 : Int32} {a2 : Int32} {a3 : Int32} {a4 : Int32} {P : Int32 → Mm → Prop} (h : wp_X6_addCover a1 a2 a3 a4 M P) (k1 : ∀ (r : Int32) (M2 : Mm), P r M2 → J G E nL (pc + 3) lv (.int r :: st) M2) : J G E nL pc lv (.int a4 :: .int a3 :: .int a2 :: .int a1 :: .ref (adr G 6 0) :: st) M := fun H locs ls hP hS hl => by
  have hK := X.2.2.2.2.2.1.1
  have hm := met_X6_addCover (l := eL E) X.2.2.2.2.2.2.1 a1 a2 a3 a4 M P h
  have hR2 : 3 + 1 ≤ (eR E).frames ∧ 8 + (5 + 11) + 68 ≤ (eR E).locals := by rw [X.2.2.2.2.2.2.2.1]; exact hR
  have hC2 : eCells E + 0 ≤ (eR E).cells ∧ eSlots E + 0 ≤ (eR E).slots := by rw [X.2.2.2.2.2.2.2.1]; exact ⟨X.2.2.2.2.2.2.2.2.1, X.2.2.2.2.2.2.2.2.2⟩
  obtain ⟨q0, -, hq⟩ := wld_get (G := G) M (mw6 0 (by decide))
  exact va_calli (va_runV (C := RX6) (As := [.int a1, .int a2, .int a3, .int a4]) (rest := st) ⟨X.1, X.2.1, X.2.2.1, X.2.2.2.1, X.2.2.2.2.1⟩ hm (cwV (ws' := lw_aw) 4 X.2.2.2.2.1 (gwV (tw (i := 850) (by decide +kernel)) (tw (i := 379) (by decide +kernel)) (tw (i := 380) (by decide +kernel)) (tw (i := 71) (by decide +kernel)) (tw (i := 381) (by decide +kernel))) rfl rfl rfl (by decide +kernel) hR2) ⟨hr_blind, va_recv hK hP (ci := 6) (q := (RX6, TX6, 8)) (fs := objF6 G 0 (M.1 6 0)) (q0 := q0) rfl hq, fun U hU hW => ⟨rfl, by rw [hU]; exact hP, KK.warm hW X.2.2.2.2.2.1⟩⟩ rfl rfl hl.1 rfl (lv_room hst) d hC2) hS (fun q _ h => h) (fun q h => h) (fun r u t H1 locs1 ht hvm hw hB hz1 hk1 hS1 => k1 r u hw H1 locs1 ls (by rw [← ht]; exact hB.1) hS1 hl)
/-- LayeredClaims.addLayer(IIII)I -/
def wp_X6_addLayer (a1 : Int32) (a2 : Int32) (a3 : Int32) (a4 : Int32) (M : Mm) (P : Int32 → Mm → Prop) : Prop := (wp_X1_mark 0 M (fun (M1 : Mm) => (wp_X0_insertLayer 0 a1 a2 a3 a4 M1 (fun (r3 : Int32) (M2 : Mm) => (wp_X6_changed r3 M2 (fun (r5 : Int32) (M4 : Mm) => P r5 M4))))))
set_option maxHeartbeats 4000000 in
set_option maxRecDepth 100000 in
theorem met_X6_addLayer {l : Launch} {G : GT} (hG : GD G) (a1 : Int32) (a2 : Int32) (a3 : Int32) (a4 : Int32) (M : Mm) (P : Int32 → Mm → Prop) (h : wp_X6_addLayer a1 a2 a3 a4 M P) : MI l G yX6_addLayer cX6_addLayer 5 (some .int) ({ frames := 3, cells := 0, slots := 0, locals := 68 } : Room) [.ref (adr G 6 0), .int a1, .int a2, .int a3, .int a4] M P := by
  refine met_by hG (own := RX6) rfl (by decide +kernel) (Nat.le_of_ble_eq_true rfl) (fun E hE X Y => ?_)
  show J G E 5 0 [(0, .ref (adr G 6 0)), (1, .int a1), (2, .int a2), (3, .int a3), (4, .int a4)] [] M
  unfold wp_X6_addLayer at h
  refine j_aload_n X 0 dX6_addLayer_0 rfl rfl ?_
  refine jf_RX6_30 X  dX6_addLayer_1 ?_
  refine j_aload_n X 0 dX6_addLayer_4 rfl rfl ?_
  refine jf_RX6_20 X  dX6_addLayer_5 ?_
  refine jc_RX6_52 X ⟨Nat.le_of_ble_eq_true rfl, Nat.le_of_ble_eq_true rfl⟩ (Nat.le_of_ble_eq_true rfl) dX6_addLayer_8 h (fun M1 h => ?_)
  refine j_aload_n X 0 dX6_addLayer_11 rfl rfl ?_
  refine j_aload_n X 0 dX6_addLayer_12 rfl rfl ?_
  refine jf_RX6_20 X  dX6_addLayer_13 ?_
  refine j_iload_n X 1 dX6_addLayer_16 rfl rfl ?_
  refine j_iload_n X 2 dX6_addLayer_17 rfl rfl ?_
  refine j_iload_n X 3 dX6_addLayer_18 rfl rfl ?_
  refine j_iload X 4 dX6_addLayer_19 rfl ?_
  refine jc_RX6_64 X ⟨Nat.le_of_ble_eq_true rfl, Nat.le_of_ble_eq_true rfl⟩ (Nat.le_of_ble_eq_true rfl) dX6_addLayer_21 (by decide) h (fun r3 M2 h => ?_)
  refine jc_RX6_60 X ⟨Nat.le_of_ble_eq_true rfl, Nat.le_of_ble_eq_true rfl⟩ (Nat.le_of_ble_eq_true rfl) dX6_addLayer_24 h (fun r5 M4 h => ?_)
  exact j_iret X Y dX6_addLayer_27 h
theorem jc_RX6_351 {G : GT} {E : ET} {cc : ByteArray} {nL pc : Nat} {rm : Room} {lv : List (Nat × Value)} {st : List Value} {M : Mm} (X : CX G E RX6 cc nL rm) (hR : 3 + 1 ≤ rm.frames ∧ 8 + (5 + 11) + 68 ≤ rm.locals) (hst : (st.map fun v => v.category).sum ≤ 8) (d : decode cc pc = .ok (.invokevirtual 351, 3)) {a1 : Int32} {a2 : Int32} {a3 : Int32} {a4 : Int32} {P : Int32 → Mm → Prop} (h : wp_X6_addLayer a1 a2 a3 a4 M P) (k1 : ∀ (r : Int32) (M2 : Mm), P r M2 → J G E nL (pc + 3) lv (.int r :: st) M2) : J G E nL pc lv (.int a4 :: .int a3 :: .int a2 :: .int a1 :: .ref (adr G 6 0) :: st) M := fun H locs ls hP hS hl => by
  have hK := X.2.2.2.2.2.1.1
  have hm := met_X6_addLayer (l := eL E) X.2.2.2.2.2.2.1 a1 a2 a3 a4 M P h
  have hR2 : 3 + 1 ≤ (eR E).frames ∧ 8 + (5 + 11) + 68 ≤ (eR E).locals := by rw [X.2.2.2.2.2.2.2.1]; exact hR
  have hC2 : eCells E + 0 ≤ (eR E).cells ∧ eSlots E + 0 ≤ (eR E).slots := by rw [X.2.2.2.2.2.2.2.1]; exact ⟨X.2.2.2.2.2.2.2.2.1, X.2.2.2.2.2.2.2.2.2⟩
  obtain ⟨q0, -, hq⟩ := wld_get (G := G) M (mw6 0 (by decide))
  exact va_calli (va_runV (C := RX6) (As := [.int a1, .int a2, .int a3, .int a4]) (rest := st) ⟨X.1, X.2.1, X.2.2.1, X.2.2.2.1, X.2.2.2.2.1⟩ hm (cwV (ws' := lw_aw) 4 X.2.2.2.2.1 (gwV (tw (i := 851) (by decide +kernel)) (tw (i := 413) (by decide +kernel)) (tw (i := 414) (by decide +kernel)) (tw (i := 71) (by decide +kernel)) (tw (i := 415) (by decide +kernel))) rfl rfl rfl (by decide +kernel) hR2) ⟨hr_blind, va_recv hK hP (ci := 6) (q := (RX6, TX6, 8)) (fs := objF6 G 0 (M.1 6 0)) (q0 := q0) rfl hq, fun U hU hW => ⟨rfl, by rw [hU]; exact hP, KK.warm hW X.2.2.2.2.2.1⟩⟩ rfl rfl hl.1 rfl (lv_room hst) d hC2) hS (fun q _ h => h) (fun q h => h) (fun r u t H1 locs1 ht hvm hw hB hz1 hk1 hS1 => k1 r u hw H1 locs1 ls (by rw [← ht]; exact hB.1) hS1 hl)
/-- LayeredClaims.addEvent(I)I -/
def wp_X6_addEvent (a1 : Int32) (M : Mm) (P : Int32 → Mm → Prop) : Prop := (wp_X1_mark 0 M (fun (M1 : Mm) => (wp_X0_insertEvent 0 a1 M1 (fun (r3 : Int32) (M2 : Mm) => (wp_X6_changed r3 M2 (fun (r5 : Int32) (M4 : Mm) => P r5 M4))))))
set_option maxHeartbeats 4000000 in
set_option maxRecDepth 100000 in
theorem met_X6_addEvent {l : Launch} {G : GT} (hG : GD G) (a1 : Int32) (M : Mm) (P : Int32 → Mm → Prop) (h : wp_X6_addEvent a1 M P) : MI l G yX6_addEvent cX6_addEvent 2 (some .int) ({ frames := 3, cells := 0, slots := 0, locals := 68 } : Room) [.ref (adr G 6 0), .int a1] M P := by
  refine met_by hG (own := RX6) rfl (by decide +kernel) (Nat.le_of_ble_eq_true rfl) (fun E hE X Y => ?_)
  show J G E 2 0 [(0, .ref (adr G 6 0)), (1, .int a1)] [] M
  unfold wp_X6_addEvent at h
  refine j_aload_n X 0 dX6_addEvent_0 rfl rfl ?_
  refine jf_RX6_30 X  dX6_addEvent_1 ?_
  refine j_aload_n X 0 dX6_addEvent_4 rfl rfl ?_
  refine jf_RX6_20 X  dX6_addEvent_5 ?_
  refine jc_RX6_52 X ⟨Nat.le_of_ble_eq_true rfl, Nat.le_of_ble_eq_true rfl⟩ (Nat.le_of_ble_eq_true rfl) dX6_addEvent_8 h (fun M1 h => ?_)
  refine j_aload_n X 0 dX6_addEvent_11 rfl rfl ?_
  refine j_aload_n X 0 dX6_addEvent_12 rfl rfl ?_
  refine jf_RX6_20 X  dX6_addEvent_13 ?_
  refine j_iload_n X 1 dX6_addEvent_16 rfl rfl ?_
  refine jc_RX6_67 X ⟨Nat.le_of_ble_eq_true rfl, Nat.le_of_ble_eq_true rfl⟩ (Nat.le_of_ble_eq_true rfl) dX6_addEvent_17 (by decide) h (fun r3 M2 h => ?_)
  refine jc_RX6_60 X ⟨Nat.le_of_ble_eq_true rfl, Nat.le_of_ble_eq_true rfl⟩ (Nat.le_of_ble_eq_true rfl) dX6_addEvent_20 h (fun r5 M4 h => ?_)
  exact j_iret X Y dX6_addEvent_23 h
/-- LayeredClaims.addClaim(III)I -/
def wp_X6_addClaim (a1 : Int32) (a2 : Int32) (a3 : Int32) (M : Mm) (P : Int32 → Mm → Prop) : Prop := (wp_X1_mark 0 M (fun (M1 : Mm) => (wp_X0_insertClaim 0 a1 a2 a3 M1 (fun (r3 : Int32) (M2 : Mm) => (wp_X6_changed r3 M2 (fun (r5 : Int32) (M4 : Mm) => P r5 M4))))))
set_option maxHeartbeats 4000000 in
set_option maxRecDepth 100000 in
theorem met_X6_addClaim {l : Launch} {G : GT} (hG : GD G) (a1 : Int32) (a2 : Int32) (a3 : Int32) (M : Mm) (P : Int32 → Mm → Prop) (h : wp_X6_addClaim a1 a2 a3 M P) : MI l G yX6_addClaim cX6_addClaim 4 (some .int) ({ frames := 3, cells := 0, slots := 0, locals := 68 } : Room) [.ref (adr G 6 0), .int a1, .int a2, .int a3] M P := by
  refine met_by hG (own := RX6) rfl (by decide +kernel) (Nat.le_of_ble_eq_true rfl) (fun E hE X Y => ?_)
  show J G E 4 0 [(0, .ref (adr G 6 0)), (1, .int a1), (2, .int a2), (3, .int a3)] [] M
  unfold wp_X6_addClaim at h
  refine j_aload_n X 0 dX6_addClaim_0 rfl rfl ?_
  refine jf_RX6_30 X  dX6_addClaim_1 ?_
  refine j_aload_n X 0 dX6_addClaim_4 rfl rfl ?_
  refine jf_RX6_20 X  dX6_addClaim_5 ?_
  refine jc_RX6_52 X ⟨Nat.le_of_ble_eq_true rfl, Nat.le_of_ble_eq_true rfl⟩ (Nat.le_of_ble_eq_true rfl) dX6_addClaim_8 h (fun M1 h => ?_)
  refine j_aload_n X 0 dX6_addClaim_11 rfl rfl ?_
  refine j_aload_n X 0 dX6_addClaim_12 rfl rfl ?_
  refine jf_RX6_20 X  dX6_addClaim_13 ?_
  refine j_iload_n X 1 dX6_addClaim_16 rfl rfl ?_
  refine j_iload_n X 2 dX6_addClaim_17 rfl rfl ?_
  refine j_iload_n X 3 dX6_addClaim_18 rfl rfl ?_
  refine jc_RX6_70 X ⟨Nat.le_of_ble_eq_true rfl, Nat.le_of_ble_eq_true rfl⟩ (Nat.le_of_ble_eq_true rfl) dX6_addClaim_19 (by decide) h (fun r3 M2 h => ?_)
  refine jc_RX6_60 X ⟨Nat.le_of_ble_eq_true rfl, Nat.le_of_ble_eq_true rfl⟩ (Nat.le_of_ble_eq_true rfl) dX6_addClaim_22 h (fun r5 M4 h => ?_)
  exact j_iret X Y dX6_addClaim_25 h
/-- LayeredClaims.removeClaim(I)I -/
def wp_X6_removeClaim (a1 : Int32) (M : Mm) (P : Int32 → Mm → Prop) : Prop := (wp_X1_mark 0 M (fun (M1 : Mm) => (wp_X0_dropClaim 0 a1 M1 (fun (r3 : Int32) (M2 : Mm) => (wp_X6_changed r3 M2 (fun (r5 : Int32) (M4 : Mm) => P r5 M4))))))
set_option maxHeartbeats 4000000 in
set_option maxRecDepth 100000 in
theorem met_X6_removeClaim {l : Launch} {G : GT} (hG : GD G) (a1 : Int32) (M : Mm) (P : Int32 → Mm → Prop) (h : wp_X6_removeClaim a1 M P) : MI l G yX6_removeClaim cX6_removeClaim 2 (some .int) ({ frames := 3, cells := 0, slots := 0, locals := 68 } : Room) [.ref (adr G 6 0), .int a1] M P := by
  refine met_by hG (own := RX6) rfl (by decide +kernel) (Nat.le_of_ble_eq_true rfl) (fun E hE X Y => ?_)
  show J G E 2 0 [(0, .ref (adr G 6 0)), (1, .int a1)] [] M
  unfold wp_X6_removeClaim at h
  refine j_aload_n X 0 dX6_removeClaim_0 rfl rfl ?_
  refine jf_RX6_30 X  dX6_removeClaim_1 ?_
  refine j_aload_n X 0 dX6_removeClaim_4 rfl rfl ?_
  refine jf_RX6_20 X  dX6_removeClaim_5 ?_
  refine jc_RX6_52 X ⟨Nat.le_of_ble_eq_true rfl, Nat.le_of_ble_eq_true rfl⟩ (Nat.le_of_ble_eq_true rfl) dX6_removeClaim_8 h (fun M1 h => ?_)
  refine j_aload_n X 0 dX6_removeClaim_11 rfl rfl ?_
  refine j_aload_n X 0 dX6_removeClaim_12 rfl rfl ?_
  refine jf_RX6_20 X  dX6_removeClaim_13 ?_
  refine j_iload_n X 1 dX6_removeClaim_16 rfl rfl ?_
  refine jc_RX6_74 X ⟨Nat.le_of_ble_eq_true rfl, Nat.le_of_ble_eq_true rfl⟩ (Nat.le_of_ble_eq_true rfl) dX6_removeClaim_17 (by decide) h (fun r3 M2 h => ?_)
  refine jc_RX6_60 X ⟨Nat.le_of_ble_eq_true rfl, Nat.le_of_ble_eq_true rfl⟩ (Nat.le_of_ble_eq_true rfl) dX6_removeClaim_20 h (fun r5 M4 h => ?_)
  exact j_iret X Y dX6_removeClaim_23 h
/-- LayeredClaims.setDay(II)I -/
def wp_X6_setDay (a1 : Int32) (a2 : Int32) (M : Mm) (P : Int32 → Mm → Prop) : Prop := (wp_X1_mark 0 M (fun (M1 : Mm) => (wp_X0_changeDay 0 a1 a2 M1 (fun (r3 : Int32) (M2 : Mm) => (wp_X6_changed r3 M2 (fun (r5 : Int32) (M4 : Mm) => P r5 M4))))))
set_option maxHeartbeats 4000000 in
set_option maxRecDepth 100000 in
theorem met_X6_setDay {l : Launch} {G : GT} (hG : GD G) (a1 : Int32) (a2 : Int32) (M : Mm) (P : Int32 → Mm → Prop) (h : wp_X6_setDay a1 a2 M P) : MI l G yX6_setDay cX6_setDay 3 (some .int) ({ frames := 3, cells := 0, slots := 0, locals := 68 } : Room) [.ref (adr G 6 0), .int a1, .int a2] M P := by
  refine met_by hG (own := RX6) rfl (by decide +kernel) (Nat.le_of_ble_eq_true rfl) (fun E hE X Y => ?_)
  show J G E 3 0 [(0, .ref (adr G 6 0)), (1, .int a1), (2, .int a2)] [] M
  unfold wp_X6_setDay at h
  refine j_aload_n X 0 dX6_setDay_0 rfl rfl ?_
  refine jf_RX6_30 X  dX6_setDay_1 ?_
  refine j_aload_n X 0 dX6_setDay_4 rfl rfl ?_
  refine jf_RX6_20 X  dX6_setDay_5 ?_
  refine jc_RX6_52 X ⟨Nat.le_of_ble_eq_true rfl, Nat.le_of_ble_eq_true rfl⟩ (Nat.le_of_ble_eq_true rfl) dX6_setDay_8 h (fun M1 h => ?_)
  refine j_aload_n X 0 dX6_setDay_11 rfl rfl ?_
  refine j_aload_n X 0 dX6_setDay_12 rfl rfl ?_
  refine jf_RX6_20 X  dX6_setDay_13 ?_
  refine j_iload_n X 1 dX6_setDay_16 rfl rfl ?_
  refine j_iload_n X 2 dX6_setDay_17 rfl rfl ?_
  refine jc_RX6_77 X ⟨Nat.le_of_ble_eq_true rfl, Nat.le_of_ble_eq_true rfl⟩ (Nat.le_of_ble_eq_true rfl) dX6_setDay_18 (by decide) h (fun r3 M2 h => ?_)
  refine jc_RX6_60 X ⟨Nat.le_of_ble_eq_true rfl, Nat.le_of_ble_eq_true rfl⟩ (Nat.le_of_ble_eq_true rfl) dX6_setDay_21 h (fun r5 M4 h => ?_)
  exact j_iret X Y dX6_setDay_24 h
/-- LayeredClaims.setDeductible(II)I -/
def wp_X6_setDeductible (a1 : Int32) (a2 : Int32) (M : Mm) (P : Int32 → Mm → Prop) : Prop := (wp_X1_mark 0 M (fun (M1 : Mm) => (wp_X0_changeDeductible 0 a1 a2 M1 (fun (r3 : Int32) (M2 : Mm) => (wp_X6_changed r3 M2 (fun (r5 : Int32) (M4 : Mm) => P r5 M4))))))
set_option maxHeartbeats 4000000 in
set_option maxRecDepth 100000 in
theorem met_X6_setDeductible {l : Launch} {G : GT} (hG : GD G) (a1 : Int32) (a2 : Int32) (M : Mm) (P : Int32 → Mm → Prop) (h : wp_X6_setDeductible a1 a2 M P) : MI l G yX6_setDeductible cX6_setDeductible 3 (some .int) ({ frames := 3, cells := 0, slots := 0, locals := 68 } : Room) [.ref (adr G 6 0), .int a1, .int a2] M P := by
  refine met_by hG (own := RX6) rfl (by decide +kernel) (Nat.le_of_ble_eq_true rfl) (fun E hE X Y => ?_)
  show J G E 3 0 [(0, .ref (adr G 6 0)), (1, .int a1), (2, .int a2)] [] M
  unfold wp_X6_setDeductible at h
  refine j_aload_n X 0 dX6_setDeductible_0 rfl rfl ?_
  refine jf_RX6_30 X  dX6_setDeductible_1 ?_
  refine j_aload_n X 0 dX6_setDeductible_4 rfl rfl ?_
  refine jf_RX6_20 X  dX6_setDeductible_5 ?_
  refine jc_RX6_52 X ⟨Nat.le_of_ble_eq_true rfl, Nat.le_of_ble_eq_true rfl⟩ (Nat.le_of_ble_eq_true rfl) dX6_setDeductible_8 h (fun M1 h => ?_)
  refine j_aload_n X 0 dX6_setDeductible_11 rfl rfl ?_
  refine j_aload_n X 0 dX6_setDeductible_12 rfl rfl ?_
  refine jf_RX6_20 X  dX6_setDeductible_13 ?_
  refine j_iload_n X 1 dX6_setDeductible_16 rfl rfl ?_
  refine j_iload_n X 2 dX6_setDeductible_17 rfl rfl ?_
  refine jc_RX6_81 X ⟨Nat.le_of_ble_eq_true rfl, Nat.le_of_ble_eq_true rfl⟩ (Nat.le_of_ble_eq_true rfl) dX6_setDeductible_18 (by decide) h (fun r3 M2 h => ?_)
  refine jc_RX6_60 X ⟨Nat.le_of_ble_eq_true rfl, Nat.le_of_ble_eq_true rfl⟩ (Nat.le_of_ble_eq_true rfl) dX6_setDeductible_21 h (fun r5 M4 h => ?_)
  exact j_iret X Y dX6_setDeductible_24 h
/-- LayeredClaims.setIndex(I)I -/
def wp_X6_setIndex (a1 : Int32) (M : Mm) (P : Int32 → Mm → Prop) : Prop := (wp_X1_mark 0 M (fun (M1 : Mm) => (wp_X0_changeRate 0 a1 M1 (fun (r3 : Int32) (M2 : Mm) => (wp_X6_changed r3 M2 (fun (r5 : Int32) (M4 : Mm) => P r5 M4))))))
set_option maxHeartbeats 4000000 in
set_option maxRecDepth 100000 in
theorem met_X6_setIndex {l : Launch} {G : GT} (hG : GD G) (a1 : Int32) (M : Mm) (P : Int32 → Mm → Prop) (h : wp_X6_setIndex a1 M P) : MI l G yX6_setIndex cX6_setIndex 2 (some .int) ({ frames := 3, cells := 0, slots := 0, locals := 68 } : Room) [.ref (adr G 6 0), .int a1] M P := by
  refine met_by hG (own := RX6) rfl (by decide +kernel) (Nat.le_of_ble_eq_true rfl) (fun E hE X Y => ?_)
  show J G E 2 0 [(0, .ref (adr G 6 0)), (1, .int a1)] [] M
  unfold wp_X6_setIndex at h
  refine j_aload_n X 0 dX6_setIndex_0 rfl rfl ?_
  refine jf_RX6_30 X  dX6_setIndex_1 ?_
  refine j_aload_n X 0 dX6_setIndex_4 rfl rfl ?_
  refine jf_RX6_20 X  dX6_setIndex_5 ?_
  refine jc_RX6_52 X ⟨Nat.le_of_ble_eq_true rfl, Nat.le_of_ble_eq_true rfl⟩ (Nat.le_of_ble_eq_true rfl) dX6_setIndex_8 h (fun M1 h => ?_)
  refine j_aload_n X 0 dX6_setIndex_11 rfl rfl ?_
  refine j_aload_n X 0 dX6_setIndex_12 rfl rfl ?_
  refine jf_RX6_20 X  dX6_setIndex_13 ?_
  refine j_iload_n X 1 dX6_setIndex_16 rfl rfl ?_
  refine jc_RX6_84 X ⟨Nat.le_of_ble_eq_true rfl, Nat.le_of_ble_eq_true rfl⟩ (Nat.le_of_ble_eq_true rfl) dX6_setIndex_17 (by decide) h (fun r3 M2 h => ?_)
  refine jc_RX6_60 X ⟨Nat.le_of_ble_eq_true rfl, Nat.le_of_ble_eq_true rfl⟩ (Nat.le_of_ble_eq_true rfl) dX6_setIndex_20 h (fun r5 M4 h => ?_)
  exact j_iret X Y dX6_setIndex_23 h
/-- LayeredClaims.setRecovery(II)I -/
def wp_X6_setRecovery (a1 : Int32) (a2 : Int32) (M : Mm) (P : Int32 → Mm → Prop) : Prop := (wp_X1_mark 0 M (fun (M1 : Mm) => (wp_X0_changeRecovery 0 a1 a2 M1 (fun (r3 : Int32) (M2 : Mm) => (wp_X6_changed r3 M2 (fun (r5 : Int32) (M4 : Mm) => P r5 M4))))))
set_option maxHeartbeats 4000000 in
set_option maxRecDepth 100000 in
theorem met_X6_setRecovery {l : Launch} {G : GT} (hG : GD G) (a1 : Int32) (a2 : Int32) (M : Mm) (P : Int32 → Mm → Prop) (h : wp_X6_setRecovery a1 a2 M P) : MI l G yX6_setRecovery cX6_setRecovery 3 (some .int) ({ frames := 3, cells := 0, slots := 0, locals := 68 } : Room) [.ref (adr G 6 0), .int a1, .int a2] M P := by
  refine met_by hG (own := RX6) rfl (by decide +kernel) (Nat.le_of_ble_eq_true rfl) (fun E hE X Y => ?_)
  show J G E 3 0 [(0, .ref (adr G 6 0)), (1, .int a1), (2, .int a2)] [] M
  unfold wp_X6_setRecovery at h
  refine j_aload_n X 0 dX6_setRecovery_0 rfl rfl ?_
  refine jf_RX6_30 X  dX6_setRecovery_1 ?_
  refine j_aload_n X 0 dX6_setRecovery_4 rfl rfl ?_
  refine jf_RX6_20 X  dX6_setRecovery_5 ?_
  refine jc_RX6_52 X ⟨Nat.le_of_ble_eq_true rfl, Nat.le_of_ble_eq_true rfl⟩ (Nat.le_of_ble_eq_true rfl) dX6_setRecovery_8 h (fun M1 h => ?_)
  refine j_aload_n X 0 dX6_setRecovery_11 rfl rfl ?_
  refine j_aload_n X 0 dX6_setRecovery_12 rfl rfl ?_
  refine jf_RX6_20 X  dX6_setRecovery_13 ?_
  refine j_iload_n X 1 dX6_setRecovery_16 rfl rfl ?_
  refine j_iload_n X 2 dX6_setRecovery_17 rfl rfl ?_
  refine jc_RX6_87 X ⟨Nat.le_of_ble_eq_true rfl, Nat.le_of_ble_eq_true rfl⟩ (Nat.le_of_ble_eq_true rfl) dX6_setRecovery_18 (by decide) h (fun r3 M2 h => ?_)
  refine jc_RX6_60 X ⟨Nat.le_of_ble_eq_true rfl, Nat.le_of_ble_eq_true rfl⟩ (Nat.le_of_ble_eq_true rfl) dX6_setRecovery_21 h (fun r5 M4 h => ?_)
  exact j_iret X Y dX6_setRecovery_24 h
/-- LayeredClaims.append(I)I -/
def wp_X6_append (a1 : Int32) (M : Mm) (P : Int32 → Mm → Prop) : Prop := (wp_X3_extend a1 M (fun (r2 : Int32) (M1 : Mm) => P r2 M1))
set_option maxHeartbeats 4000000 in
set_option maxRecDepth 100000 in
theorem met_X6_append {l : Launch} {G : GT} (hG : GD G) (a1 : Int32) (M : Mm) (P : Int32 → Mm → Prop) (h : wp_X6_append a1 M P) : MI l G yX6_append cX6_append 2 (some .int) ({ frames := 2, cells := 0, slots := 0, locals := 46 } : Room) [.ref (adr G 6 0), .int a1] M P := by
  refine met_by hG (own := RX6) rfl (by decide +kernel) (Nat.le_of_ble_eq_true rfl) (fun E hE X Y => ?_)
  show J G E 2 0 [(0, .ref (adr G 6 0)), (1, .int a1)] [] M
  unfold wp_X6_append at h
  refine j_aload_n X 0 dX6_append_0 rfl rfl ?_
  refine jf_RX6_37 X  dX6_append_1 ?_
  refine j_iload_n X 1 dX6_append_4 rfl rfl ?_
  refine jc_RX6_90 X ⟨Nat.le_of_ble_eq_true rfl, Nat.le_of_ble_eq_true rfl⟩ (Nat.le_of_ble_eq_true rfl) dX6_append_5 h (fun r2 M1 h => ?_)
  exact j_iret X Y dX6_append_8 h
/-- LayeredClaims.makeEntry(I)I -/
def wp_X6_makeEntry (a1 : Int32) (M : Mm) (P : Int32 → Mm → Prop) : Prop := (vp_in a1 20 ∧ (a1.toNatClampNeg < 20 ∧ (∀ x3 : Int32, x3 = (rd M 286 a1.toNatClampNeg 0) → (∀ x4 : Int32, x4 = (rd M 286 a1.toNatClampNeg 1) → (∀ x5 : Int32, x5 = (rd M 286 a1.toNatClampNeg 2) → (∀ x6 : Int32, x6 = (rd M 84 0 a1.toNatClampNeg) → ((¬ x6 = (101 : Int32) → ((¬ x6 = (99 : Int32) → (wp_X0_changeRecovery 0 x3 x4 M (fun (r10 : Int32) (M9 : Mm) => P r10 M9))) ∧ (x6 = (99 : Int32) → (wp_X0_insertClaim 0 x3 x4 x5 M (fun (r12 : Int32) (M11 : Mm) => P r12 M11))))) ∧ (x6 = (101 : Int32) → (wp_X0_insertEvent 0 x3 M (fun (r14 : Int32) (M13 : Mm) => P r14 M13))))))))))
set_option maxHeartbeats 4000000 in
set_option maxRecDepth 100000 in
theorem met_X6_makeEntry {l : Launch} {G : GT} (hG : GD G) (a1 : Int32) (M : Mm) (P : Int32 → Mm → Prop) (h : wp_X6_makeEntry a1 M P) : MI l G yX6_makeEntry cX6_makeEntry 6 (some .int) ({ frames := 3, cells := 0, slots := 0, locals := 66 } : Room) [.ref (adr G 6 0), .int a1] M P := by
  refine met_by hG (own := RX6) rfl (by decide +kernel) (Nat.le_of_ble_eq_true rfl) (fun E hE X Y => ?_)
  show J G E 6 0 [(0, .ref (adr G 6 0)), (1, .int a1)] [] M
  unfold wp_X6_makeEntry at h
  refine j_aload_n X 0 dX6_makeEntry_0 rfl rfl ?_
  refine jf_RX6_37 X  dX6_makeEntry_1 ?_
  refine jf_RX6_370 X  dX6_makeEntry_4 ?_
  refine j_iload_n X 1 dX6_makeEntry_7 rfl rfl ?_
  have q1 := h.1
  replace h := h.2
  refine j_aaldI X (mw86 0 (by decide)) kt86 lt86 q1 dX6_makeEntry_8 ?_
  refine j_iconst (v := (0 : Int32)) X (by decide) dX6_makeEntry_9 ?_
  have q2 := h.1
  replace h := h.2
  refine j_iald X 0 (by decide) (mw286 a1.toNatClampNeg q2) kt286 lt286 (vpc (by decide)) dX6_makeEntry_10 ?_
  refine j_topi (fun x3 ex3 => ?_)
  replace h := h x3 ex3
  refine j_istore_n X [(2, .int x3), (0, .ref (adr G 6 0)), (1, .int a1)] dX6_makeEntry_11 rfl (by decide) rfl ?_
  refine j_aload_n X 1 dX6_makeEntry_12 rfl rfl ?_
  refine jf_RX6_37 X  dX6_makeEntry_13 ?_
  refine jf_RX6_370 X  dX6_makeEntry_16 ?_
  refine j_iload_n X 2 dX6_makeEntry_19 rfl rfl ?_
  refine j_aaldI X (mw86 0 (by decide)) kt86 lt86 q1 dX6_makeEntry_20 ?_
  refine j_iconst (v := (1 : Int32)) X (by decide) dX6_makeEntry_21 ?_
  refine j_iald X 1 (by decide) (mw286 a1.toNatClampNeg q2) kt286 lt286 (vpc (by decide)) dX6_makeEntry_22 ?_
  refine j_topi (fun x4 ex4 => ?_)
  replace h := h x4 ex4
  refine j_istore_n X [(3, .int x4), (2, .int x3), (0, .ref (adr G 6 0)), (1, .int a1)] dX6_makeEntry_23 rfl (by decide) rfl ?_
  refine j_aload_n X 2 dX6_makeEntry_24 rfl rfl ?_
  refine jf_RX6_37 X  dX6_makeEntry_25 ?_
  refine jf_RX6_370 X  dX6_makeEntry_28 ?_
  refine j_iload_n X 3 dX6_makeEntry_31 rfl rfl ?_
  refine j_aaldI X (mw86 0 (by decide)) kt86 lt86 q1 dX6_makeEntry_32 ?_
  refine j_iconst (v := (2 : Int32)) X (by decide) dX6_makeEntry_33 ?_
  refine j_iald X 2 (by decide) (mw286 a1.toNatClampNeg q2) kt286 lt286 (vpc (by decide)) dX6_makeEntry_34 ?_
  refine j_topi (fun x5 ex5 => ?_)
  replace h := h x5 ex5
  refine j_istore X [(4, .int x5), (3, .int x4), (2, .int x3), (0, .ref (adr G 6 0)), (1, .int a1)] dX6_makeEntry_35 (by decide) rfl ?_
  refine j_aload_n X 3 dX6_makeEntry_37 rfl rfl ?_
  refine jf_RX6_37 X  dX6_makeEntry_38 ?_
  refine jf_RX6_373 X  dX6_makeEntry_41 ?_
  refine j_iload_n X 4 dX6_makeEntry_44 rfl rfl ?_
  refine j_cald X _ rfl (mw84 0 (by decide)) kt84 lt84 q1 dX6_makeEntry_45 ?_
  refine j_topi (fun x6 ex6 => ?_)
  replace h := h x6 ex6
  refine j_istore X [(5, .int x6), (4, .int x5), (3, .int x4), (2, .int x3), (0, .ref (adr G 6 0)), (1, .int a1)] dX6_makeEntry_46 (by decide) rfl ?_
  refine j_iload X 0 dX6_makeEntry_48 rfl ?_
  refine j_bipush (v := (101 : Int32)) X (by decide) dX6_makeEntry_50 ?_
  refine j_icmp_ne X 64 dX6_makeEntry_52 (by decide) (fun c7 => ?_) (fun c7 => ?_)
  · replace h := h.1 c7
    refine j_iload X 0 dX6_makeEntry_64 rfl ?_
    refine j_bipush (v := (99 : Int32)) X (by decide) dX6_makeEntry_66 ?_
    refine j_icmp_ne X 85 dX6_makeEntry_68 (by decide) (fun c8 => ?_) (fun c8 => ?_)
    · replace h := h.1 c8
      refine j_aload_n X 4 dX6_makeEntry_85 rfl rfl ?_
      refine jf_RX6_20 X  dX6_makeEntry_86 ?_
      refine j_iload_n X 3 dX6_makeEntry_89 rfl rfl ?_
      refine j_iload_n X 2 dX6_makeEntry_90 rfl rfl ?_
      refine jc_RX6_87 X ⟨Nat.le_of_ble_eq_true rfl, Nat.le_of_ble_eq_true rfl⟩ (Nat.le_of_ble_eq_true rfl) dX6_makeEntry_91 (by decide) h (fun r10 M9 h => ?_)
      exact j_iret X Y dX6_makeEntry_94 h
    · replace h := h.2 c8
      refine j_aload_n X 4 dX6_makeEntry_71 rfl rfl ?_
      refine jf_RX6_20 X  dX6_makeEntry_72 ?_
      refine j_iload_n X 3 dX6_makeEntry_75 rfl rfl ?_
      refine j_iload_n X 2 dX6_makeEntry_76 rfl rfl ?_
      refine j_iload X 1 dX6_makeEntry_77 rfl ?_
      refine jc_RX6_70 X ⟨Nat.le_of_ble_eq_true rfl, Nat.le_of_ble_eq_true rfl⟩ (Nat.le_of_ble_eq_true rfl) dX6_makeEntry_79 (by decide) h (fun r12 M11 h => ?_)
      refine j_goto X 94 dX6_makeEntry_82 (by decide) ?_
      exact j_iret X Y dX6_makeEntry_94 h
  · replace h := h.2 c7
    refine j_aload_n X 4 dX6_makeEntry_55 rfl rfl ?_
    refine jf_RX6_20 X  dX6_makeEntry_56 ?_
    refine j_iload_n X 3 dX6_makeEntry_59 rfl rfl ?_
    refine jc_RX6_67 X ⟨Nat.le_of_ble_eq_true rfl, Nat.le_of_ble_eq_true rfl⟩ (Nat.le_of_ble_eq_true rfl) dX6_makeEntry_60 (by decide) h (fun r14 M13 h => ?_)
    exact j_iret X Y dX6_makeEntry_63 h
theorem jc_RX6_106 {G : GT} {E : ET} {cc : ByteArray} {nL pc : Nat} {rm : Room} {lv : List (Nat × Value)} {st : List Value} {M : Mm} (X : CX G E RX6 cc nL rm) (hR : 3 + 1 ≤ rm.frames ∧ 8 + (6 + 11) + 66 ≤ rm.locals) (hst : (st.map fun v => v.category).sum ≤ 8) (d : decode cc pc = .ok (.invokevirtual 106, 3)) {a1 : Int32} {P : Int32 → Mm → Prop} (h : wp_X6_makeEntry a1 M P) (k1 : ∀ (r : Int32) (M2 : Mm), P r M2 → J G E nL (pc + 3) lv (.int r :: st) M2) : J G E nL pc lv (.int a1 :: .ref (adr G 6 0) :: st) M := fun H locs ls hP hS hl => by
  have hK := X.2.2.2.2.2.1.1
  have hm := met_X6_makeEntry (l := eL E) X.2.2.2.2.2.2.1 a1 M P h
  have hR2 : 3 + 1 ≤ (eR E).frames ∧ 8 + (6 + 11) + 66 ≤ (eR E).locals := by rw [X.2.2.2.2.2.2.2.1]; exact hR
  have hC2 : eCells E + 0 ≤ (eR E).cells ∧ eSlots E + 0 ≤ (eR E).slots := by rw [X.2.2.2.2.2.2.2.1]; exact ⟨X.2.2.2.2.2.2.2.2.1, X.2.2.2.2.2.2.2.2.2⟩
  obtain ⟨q0, -, hq⟩ := wld_get (G := G) M (mw6 0 (by decide))
  exact va_calli (va_runV (C := RX6) (As := [.int a1]) (rest := st) ⟨X.1, X.2.1, X.2.2.1, X.2.2.2.1, X.2.2.2.2.1⟩ hm (cwV (ws' := lw_aw) 1 X.2.2.2.2.1 (gwV (tw (i := 526) (by decide +kernel)) (tw (i := 528) (by decide +kernel)) (tw (i := 5) (by decide +kernel)) (tw (i := 71) (by decide +kernel)) (tw (i := 529) (by decide +kernel))) rfl rfl rfl (by decide +kernel) hR2) ⟨hr_blind, va_recv hK hP (ci := 6) (q := (RX6, TX6, 8)) (fs := objF6 G 0 (M.1 6 0)) (q0 := q0) rfl hq, fun U hU hW => ⟨rfl, by rw [hU]; exact hP, KK.warm hW X.2.2.2.2.2.1⟩⟩ rfl rfl hl.1 rfl (lv_room hst) d hC2) hS (fun q _ h => h) (fun q h => h) (fun r u t H1 locs1 ht hvm hw hB hz1 hk1 hS1 => k1 r u hw H1 locs1 ls (by rw [← ht]; exact hB.1) hS1 hl)
/-- LayeredClaims.read()I -/
def wp_X6_read  (M : Mm) (P : Int32 → Mm → Prop) : Prop := (wp_X3_scan  M (fun (r2 : Int32) (M1 : Mm) => (wp_X3_clear  M1 (fun (M3 : Mm) => ((¬ r2 = 0 → (wp_X1_mark 0 M3 (fun (M5 : Mm) => (∃ n, lq2 (fun self6 (x8 : Int32) (M9 : Mm) => (((rd M9 3 0 3) ≤ x8 → (∀ M11 : Mm, M11 = wr M9 6 0 7 (-4 : Int32) → (wp_X6_changed (rd M11 3 0 3) M11 (fun (r13 : Int32) (M12 : Mm) => P r13 M12)))) ∧ (¬ (rd M9 3 0 3) ≤ x8 → (wp_X6_makeEntry x8 M9 (fun (r15 : Int32) (M14 : Mm) => ((0 ≤ r15 → (∀ x17 : Int32, x17 = x8 + (1 : Int32) → self6 x17 M14)) ∧ (¬ 0 ≤ r15 → (wp_X1_returnToMark 0 M14 (fun (M18 : Mm) => (vp_in x8 20 ∧ (∀ M20 : Mm, M20 = wr M18 6 0 7 (rd M18 85 0 x8.toNatClampNeg) → P (-5 : Int32) M20))))))))))) n (0 : Int32) M5)))) ∧ (r2 = 0 → (∀ M21 : Mm, M21 = wr M3 6 0 7 (rd M3 3 0 2) → P (-2 : Int32) M21)))))))
set_option maxHeartbeats 4000000 in
set_option maxRecDepth 100000 in
theorem met_X6_read {l : Launch} {G : GT} (hG : GD G)  (M : Mm) (P : Int32 → Mm → Prop) (h : wp_X6_read  M P) : MI l G yX6_read cX6_read 3 (some .int) ({ frames := 4, cells := 0, slots := 0, locals := 91 } : Room) [.ref (adr G 6 0)] M P := by
  refine met_by hG (own := RX6) rfl (by decide +kernel) (Nat.le_of_ble_eq_true rfl) (fun E hE X Y => ?_)
  show J G E 3 0 [(0, .ref (adr G 6 0))] [] M
  unfold wp_X6_read at h
  refine j_aload_n X 0 dX6_read_0 rfl rfl ?_
  refine jf_RX6_37 X  dX6_read_1 ?_
  refine jc_RX6_93 X ⟨Nat.le_of_ble_eq_true rfl, Nat.le_of_ble_eq_true rfl⟩ (Nat.le_of_ble_eq_true rfl) dX6_read_4 h (fun r2 M1 h => ?_)
  refine j_istore_n X [(1, .int r2), (0, .ref (adr G 6 0))] dX6_read_7 rfl (by decide) rfl ?_
  refine j_aload_n X 1 dX6_read_8 rfl rfl ?_
  refine jf_RX6_37 X  dX6_read_9 ?_
  refine jc_RX6_97 X ⟨Nat.le_of_ble_eq_true rfl, Nat.le_of_ble_eq_true rfl⟩ (Nat.le_of_ble_eq_true rfl) dX6_read_12 h (fun M3 h => ?_)
  refine j_iload_n X 0 dX6_read_15 rfl rfl ?_
  refine j_if_ne X 33 dX6_read_16 (by decide) (fun c4 => ?_) (fun c4 => ?_)
  · replace h := h.1 c4
    refine j_aload_n X 1 dX6_read_33 rfl rfl ?_
    refine jf_RX6_30 X  dX6_read_34 ?_
    refine j_aload_n X 1 dX6_read_37 rfl rfl ?_
    refine jf_RX6_20 X  dX6_read_38 ?_
    refine jc_RX6_52 X ⟨Nat.le_of_ble_eq_true rfl, Nat.le_of_ble_eq_true rfl⟩ (Nat.le_of_ble_eq_true rfl) dX6_read_41 h (fun M5 h => ?_)
    refine j_iconst (v := (0 : Int32)) X (by decide) dX6_read_44 ?_
    refine j_istore_n X [(2, .int (0 : Int32)), (1, .int r2), (0, .ref (adr G 6 0))] dX6_read_45 rfl (by decide) rfl ?_
    refine j_sub [2, 0] rfl ?_
    refine lq2_s h (fun (x8 : Int32) (M9 : Mm) => J G E 3 46 [(0, .ref (adr G 6 0)), (2, .int x8)] [] M9) (fun self6 ih7 x8 M9 h => ?_) id
    refine j_iload_n X 1 dX6_read_46 rfl rfl ?_
    refine j_aload_n X 0 dX6_read_47 rfl rfl ?_
    refine jf_RX6_37 X  dX6_read_48 ?_
    refine jf_RX6_103 X  dX6_read_51 ?_
    refine j_icmp_ge X 98 dX6_read_54 (by decide) (fun c10 => ?_) (fun c10 => ?_)
    · replace h := h.1 c10
      refine j_aload_n X 0 dX6_read_98 rfl rfl ?_
      refine j_bipush (v := (-4 : Int32)) X (by decide) dX6_read_99 ?_
      refine jp_RX6_48 X   dX6_read_101 ?_
      refine j_memo (fun M11 eM11 => ?_)
      replace h := h M11 eM11
      refine j_aload_n X 0 dX6_read_104 rfl rfl ?_
      refine j_aload_n X 0 dX6_read_105 rfl rfl ?_
      refine jf_RX6_37 X  dX6_read_106 ?_
      refine jf_RX6_103 X  dX6_read_109 ?_
      refine jc_RX6_60 X ⟨Nat.le_of_ble_eq_true rfl, Nat.le_of_ble_eq_true rfl⟩ (Nat.le_of_ble_eq_true rfl) dX6_read_112 h (fun r13 M12 h => ?_)
      exact j_iret X Y dX6_read_115 h
    · replace h := h.2 c10
      refine j_aload_n X 0 dX6_read_57 rfl rfl ?_
      refine j_iload_n X 1 dX6_read_58 rfl rfl ?_
      refine jc_RX6_106 X ⟨Nat.le_of_ble_eq_true rfl, Nat.le_of_ble_eq_true rfl⟩ (Nat.le_of_ble_eq_true rfl) dX6_read_59 h (fun r15 M14 h => ?_)
      refine j_if_ge X 92 dX6_read_62 (by decide) (fun c16 => ?_) (fun c16 => ?_)
      · replace h := h.1 c16
        obtain ⟨x17, ex17⟩ : ∃ z : Int32, z = x8 + (1 : Int32) := ⟨_, rfl⟩
        replace h := h x17 ex17
        refine j_iinc (v := x17) X 1 [(2, .int x17), (0, .ref (adr G 6 0))] dX6_read_92 rfl (by rw [ex17]; rfl) (by decide) rfl ?_
        refine j_goto X 46 dX6_read_95 (by decide) ?_
        refine j_sub [1, 0] rfl ?_
        exact ih7 x17 M14 h
      · replace h := h.2 c16
        refine j_aload_n X 0 dX6_read_65 rfl rfl ?_
        refine jf_RX6_30 X  dX6_read_66 ?_
        refine j_aload_n X 0 dX6_read_69 rfl rfl ?_
        refine jf_RX6_20 X  dX6_read_70 ?_
        refine jc_RX6_109 X ⟨Nat.le_of_ble_eq_true rfl, Nat.le_of_ble_eq_true rfl⟩ (Nat.le_of_ble_eq_true rfl) dX6_read_73 h (fun M18 h => ?_)
        refine j_aload_n X 0 dX6_read_76 rfl rfl ?_
        refine j_aload_n X 0 dX6_read_77 rfl rfl ?_
        refine jf_RX6_37 X  dX6_read_78 ?_
        refine jf_RX6_112 X  dX6_read_81 ?_
        refine j_iload_n X 1 dX6_read_84 rfl rfl ?_
        have q19 := h.1
        replace h := h.2
        refine j_iald X _ rfl (mw85 0 (by decide)) kt85 lt85 q19 dX6_read_85 ?_
        refine jp_RX6_48 X   dX6_read_86 ?_
        refine j_memo (fun M20 eM20 => ?_)
        replace h := h M20 eM20
        refine j_bipush (v := (-5 : Int32)) X (by decide) dX6_read_89 ?_
        exact j_iret X Y dX6_read_91 h
  · replace h := h.2 c4
    refine j_aload_n X 1 dX6_read_19 rfl rfl ?_
    refine j_aload_n X 1 dX6_read_20 rfl rfl ?_
    refine jf_RX6_37 X  dX6_read_21 ?_
    refine jf_RX6_100 X  dX6_read_24 ?_
    refine jp_RX6_48 X   dX6_read_27 ?_
    refine j_memo (fun M21 eM21 => ?_)
    replace h := h M21 eM21
    refine j_bipush (v := (-2 : Int32)) X (by decide) dX6_read_30 ?_
    exact j_iret X Y dX6_read_32 h
/-- LayeredClaims.faultPosition()I -/
def wp_X6_faultPosition  (M : Mm) (P : Int32 → Mm → Prop) : Prop := P (rd M 6 0 7) M
set_option maxHeartbeats 4000000 in
set_option maxRecDepth 100000 in
theorem met_X6_faultPosition {l : Launch} {G : GT} (hG : GD G)  (M : Mm) (P : Int32 → Mm → Prop) (h : wp_X6_faultPosition  M P) : MI l G yX6_faultPosition cX6_faultPosition 1 (some .int) ({ frames := 0, cells := 0, slots := 0, locals := 0 } : Room) [.ref (adr G 6 0)] M P := by
  refine met_by hG (own := RX6) rfl (by decide +kernel) (Nat.le_of_ble_eq_true rfl) (fun E hE X Y => ?_)
  show J G E 1 0 [(0, .ref (adr G 6 0))] [] M
  unfold wp_X6_faultPosition at h
  refine j_aload_n X 0 dX6_faultPosition_0 rfl rfl ?_
  refine jf_RX6_48 X  dX6_faultPosition_1 ?_
  exact j_iret X Y dX6_faultPosition_4 h
/-- LayeredClaims.undo()I -/
def wp_X6_undo  (M : Mm) (P : Int32 → Mm → Prop) : Prop := (wp_X1_goBack 0 M (fun (r2 : Int32) (M1 : Mm) => P r2 M1))
set_option maxHeartbeats 4000000 in
set_option maxRecDepth 100000 in
theorem met_X6_undo {l : Launch} {G : GT} (hG : GD G)  (M : Mm) (P : Int32 → Mm → Prop) (h : wp_X6_undo  M P) : MI l G yX6_undo cX6_undo 1 (some .int) ({ frames := 4, cells := 0, slots := 0, locals := 89 } : Room) [.ref (adr G 6 0)] M P := by
  refine met_by hG (own := RX6) rfl (by decide +kernel) (Nat.le_of_ble_eq_true rfl) (fun E hE X Y => ?_)
  show J G E 1 0 [(0, .ref (adr G 6 0))] [] M
  unfold wp_X6_undo at h
  refine j_aload_n X 0 dX6_undo_0 rfl rfl ?_
  refine jf_RX6_30 X  dX6_undo_1 ?_
  refine j_aload_n X 0 dX6_undo_4 rfl rfl ?_
  refine jf_RX6_20 X  dX6_undo_5 ?_
  refine jc_RX6_116 X ⟨Nat.le_of_ble_eq_true rfl, Nat.le_of_ble_eq_true rfl⟩ (Nat.le_of_ble_eq_true rfl) dX6_undo_8 h (fun r2 M1 h => ?_)
  exact j_iret X Y dX6_undo_11 h
/-- LayeredClaims.count(I)I -/
def wp_X6_count (a1 : Int32) (M : Mm) (P : Int32 → Mm → Prop) : Prop := ((a1 = 0 → P (rd M 0 0 0) M) ∧ (a1 = 1 → P (rd M 0 0 5) M) ∧ (a1 = 2 → P (rd M 0 0 12) M) ∧ (a1 = 3 → P (rd M 0 0 15) M) ∧ (a1 = 4 → P (rd M 3 0 1) M) ∧ (a1 = 5 → P (rd M 0 0 11) M) ∧ (¬ a1 = 0 → ¬ a1 = 1 → ¬ a1 = 2 → ¬ a1 = 3 → ¬ a1 = 4 → ¬ a1 = 5 → P (-2 : Int32) M))
set_option maxHeartbeats 4000000 in
set_option maxRecDepth 100000 in
theorem met_X6_count {l : Launch} {G : GT} (hG : GD G) (a1 : Int32) (M : Mm) (P : Int32 → Mm → Prop) (h : wp_X6_count a1 M P) : MI l G yX6_count cX6_count 2 (some .int) ({ frames := 0, cells := 0, slots := 0, locals := 0 } : Room) [.ref (adr G 6 0), .int a1] M P := by
  refine met_by hG (own := RX6) rfl (by decide +kernel) (Nat.le_of_ble_eq_true rfl) (fun E hE X Y => ?_)
  show J G E 2 0 [(0, .ref (adr G 6 0)), (1, .int a1)] [] M
  unfold wp_X6_count at h
  refine j_iload_n X 1 dX6_count_0 rfl rfl ?_
  refine j_ts_0_5 X (t0 := 40) (t1 := 48) (t2 := 56) (t3 := 64) (t4 := 72) (t5 := 80) (td := 88) dX6_count_1 rfl (by decide) (by decide) (by decide) (by decide) (by decide) (by decide) (by decide) (fun c1 => ?_) (fun c1 => ?_) (fun c1 => ?_) (fun c1 => ?_) (fun c1 => ?_) (fun c1 => ?_) (fun c2 c3 c4 c5 c6 c7 => ?_)
  · replace h := h.1 c1
    refine j_aload_n X 0 dX6_count_40 rfl rfl ?_
    refine jf_RX6_20 X  dX6_count_41 ?_
    refine jf_RX6_120 X (by decide) dX6_count_44 ?_
    exact j_iret X Y dX6_count_47 h
  · replace h := h.2.1 c1
    refine j_aload_n X 0 dX6_count_48 rfl rfl ?_
    refine jf_RX6_20 X  dX6_count_49 ?_
    refine jf_RX6_123 X (by decide) dX6_count_52 ?_
    exact j_iret X Y dX6_count_55 h
  · replace h := h.2.2.1 c1
    refine j_aload_n X 0 dX6_count_56 rfl rfl ?_
    refine jf_RX6_20 X  dX6_count_57 ?_
    refine jf_RX6_126 X (by decide) dX6_count_60 ?_
    exact j_iret X Y dX6_count_63 h
  · replace h := h.2.2.2.1 c1
    refine j_aload_n X 0 dX6_count_64 rfl rfl ?_
    refine jf_RX6_20 X  dX6_count_65 ?_
    refine jf_RX6_129 X (by decide) dX6_count_68 ?_
    exact j_iret X Y dX6_count_71 h
  · replace h := h.2.2.2.2.1 c1
    refine j_aload_n X 0 dX6_count_72 rfl rfl ?_
    refine jf_RX6_37 X  dX6_count_73 ?_
    refine jf_RX6_132 X  dX6_count_76 ?_
    exact j_iret X Y dX6_count_79 h
  · replace h := h.2.2.2.2.2.1 c1
    refine j_aload_n X 0 dX6_count_80 rfl rfl ?_
    refine jf_RX6_20 X  dX6_count_81 ?_
    refine jf_RX6_135 X (by decide) dX6_count_84 ?_
    exact j_iret X Y dX6_count_87 h
  · replace h := h.2.2.2.2.2.2 c2 c3 c4 c5 c6 c7
    refine j_bipush (v := (-2 : Int32)) X (by decide) dX6_count_88 ?_
    exact j_iret X Y dX6_count_90 h
/-- LayeredClaims.cover(II)I -/
def wp_X6_cover (a1 : Int32) (a2 : Int32) (M : Mm) (P : Int32 → Mm → Prop) : Prop := (wp_X0_hasCover 0 a1 M (fun (r2 : Int32) (M1 : Mm) => ((¬ r2 = 0 → (wp_X5_reckon  M1 (fun (M4 : Mm) => ((a2 = 0 → (vp_in a1 6 ∧ P (rd M4 21 0 a1.toNatClampNeg) M4)) ∧ (a2 = 1 → (vp_in a1 6 ∧ P (rd M4 22 0 a1.toNatClampNeg) M4)) ∧ (a2 = 2 → (vp_in a1 6 ∧ P (rd M4 23 0 a1.toNatClampNeg) M4)) ∧ (a2 = 3 → (vp_in a1 6 ∧ P (rd M4 24 0 a1.toNatClampNeg) M4)) ∧ (a2 = 4 → (vp_in a1 6 ∧ P ((rd M4 22 0 a1.toNatClampNeg) - (rd M4 129 0 a1.toNatClampNeg)) M4)) ∧ (a2 = 5 → (vp_in a1 6 ∧ P (rd M4 129 0 a1.toNatClampNeg) M4)) ∧ (¬ a2 = 0 → ¬ a2 = 1 → ¬ a2 = 2 → ¬ a2 = 3 → ¬ a2 = 4 → ¬ a2 = 5 → P (-2 : Int32) M4))))) ∧ (r2 = 0 → P (-1 : Int32) M1))))
set_option maxHeartbeats 4000000 in
set_option maxRecDepth 100000 in
theorem met_X6_cover {l : Launch} {G : GT} (hG : GD G) (a1 : Int32) (a2 : Int32) (M : Mm) (P : Int32 → Mm → Prop) (h : wp_X6_cover a1 a2 M P) : MI l G yX6_cover cX6_cover 3 (some .int) ({ frames := 4, cells := 0, slots := 0, locals := 97 } : Room) [.ref (adr G 6 0), .int a1, .int a2] M P := by
  refine met_by hG (own := RX6) rfl (by decide +kernel) (Nat.le_of_ble_eq_true rfl) (fun E hE X Y => ?_)
  show J G E 3 0 [(0, .ref (adr G 6 0)), (1, .int a1), (2, .int a2)] [] M
  unfold wp_X6_cover at h
  refine j_aload_n X 0 dX6_cover_0 rfl rfl ?_
  refine jf_RX6_20 X  dX6_cover_1 ?_
  refine j_iload_n X 1 dX6_cover_4 rfl rfl ?_
  refine jc_RX6_138 X ⟨Nat.le_of_ble_eq_true rfl, Nat.le_of_ble_eq_true rfl⟩ (Nat.le_of_ble_eq_true rfl) dX6_cover_5 (by decide) h (fun r2 M1 h => ?_)
  refine j_if_ne X 13 dX6_cover_8 (by decide) (fun c3 => ?_) (fun c3 => ?_)
  · replace h := h.1 c3
    refine j_aload_n X 0 dX6_cover_13 rfl rfl ?_
    refine jf_RX6_10 X  dX6_cover_14 ?_
    refine jc_RX6_142 X ⟨Nat.le_of_ble_eq_true rfl, Nat.le_of_ble_eq_true rfl⟩ (Nat.le_of_ble_eq_true rfl) dX6_cover_17 h (fun M4 h => ?_)
    refine j_iload_n X 2 dX6_cover_20 rfl rfl ?_
    refine j_ts_0_5 X (t0 := 60) (t1 := 70) (t2 := 80) (t3 := 90) (t4 := 100) (t5 := 120) (td := 130) dX6_cover_21 rfl (by decide) (by decide) (by decide) (by decide) (by decide) (by decide) (by decide) (fun c5 => ?_) (fun c5 => ?_) (fun c5 => ?_) (fun c5 => ?_) (fun c5 => ?_) (fun c5 => ?_) (fun c12 c13 c14 c15 c16 c17 => ?_)
    · replace h := h.1 c5
      refine j_aload_n X 0 dX6_cover_60 rfl rfl ?_
      refine jf_RX6_20 X  dX6_cover_61 ?_
      refine jf_RX6_145 X (by decide) dX6_cover_64 ?_
      refine j_iload_n X 1 dX6_cover_67 rfl rfl ?_
      have q6 := h.1
      replace h := h.2
      refine j_iald X _ rfl (mw21 0 (by decide)) kt21 lt21 q6 dX6_cover_68 ?_
      exact j_iret X Y dX6_cover_69 h
    · replace h := h.2.1 c5
      refine j_aload_n X 0 dX6_cover_70 rfl rfl ?_
      refine jf_RX6_20 X  dX6_cover_71 ?_
      refine jf_RX6_148 X (by decide) dX6_cover_74 ?_
      refine j_iload_n X 1 dX6_cover_77 rfl rfl ?_
      have q7 := h.1
      replace h := h.2
      refine j_iald X _ rfl (mw22 0 (by decide)) kt22 lt22 q7 dX6_cover_78 ?_
      exact j_iret X Y dX6_cover_79 h
    · replace h := h.2.2.1 c5
      refine j_aload_n X 0 dX6_cover_80 rfl rfl ?_
      refine jf_RX6_20 X  dX6_cover_81 ?_
      refine jf_RX6_151 X (by decide) dX6_cover_84 ?_
      refine j_iload_n X 1 dX6_cover_87 rfl rfl ?_
      have q8 := h.1
      replace h := h.2
      refine j_iald X _ rfl (mw23 0 (by decide)) kt23 lt23 q8 dX6_cover_88 ?_
      exact j_iret X Y dX6_cover_89 h
    · replace h := h.2.2.2.1 c5
      refine j_aload_n X 0 dX6_cover_90 rfl rfl ?_
      refine jf_RX6_20 X  dX6_cover_91 ?_
      refine jf_RX6_154 X (by decide) dX6_cover_94 ?_
      refine j_iload_n X 1 dX6_cover_97 rfl rfl ?_
      have q9 := h.1
      replace h := h.2
      refine j_iald X _ rfl (mw24 0 (by decide)) kt24 lt24 q9 dX6_cover_98 ?_
      exact j_iret X Y dX6_cover_99 h
    · replace h := h.2.2.2.2.1 c5
      refine j_aload_n X 0 dX6_cover_100 rfl rfl ?_
      refine jf_RX6_20 X  dX6_cover_101 ?_
      refine jf_RX6_148 X (by decide) dX6_cover_104 ?_
      refine j_iload_n X 1 dX6_cover_107 rfl rfl ?_
      have q10 := h.1
      replace h := h.2
      refine j_iald X _ rfl (mw22 0 (by decide)) kt22 lt22 q10 dX6_cover_108 ?_
      refine j_aload_n X 0 dX6_cover_109 rfl rfl ?_
      refine jf_RX6_10 X  dX6_cover_110 ?_
      refine jf_RX6_157 X  dX6_cover_113 ?_
      refine j_iload_n X 1 dX6_cover_116 rfl rfl ?_
      refine j_iald X _ rfl (mw129 0 (by decide)) kt129 lt129 q10 dX6_cover_117 ?_
      refine j_isub X dX6_cover_118 ?_
      exact j_iret X Y dX6_cover_119 h
    · replace h := h.2.2.2.2.2.1 c5
      refine j_aload_n X 0 dX6_cover_120 rfl rfl ?_
      refine jf_RX6_10 X  dX6_cover_121 ?_
      refine jf_RX6_157 X  dX6_cover_124 ?_
      refine j_iload_n X 1 dX6_cover_127 rfl rfl ?_
      have q11 := h.1
      replace h := h.2
      refine j_iald X _ rfl (mw129 0 (by decide)) kt129 lt129 q11 dX6_cover_128 ?_
      exact j_iret X Y dX6_cover_129 h
    · replace h := h.2.2.2.2.2.2 c12 c13 c14 c15 c16 c17
      refine j_bipush (v := (-2 : Int32)) X (by decide) dX6_cover_130 ?_
      exact j_iret X Y dX6_cover_132 h
  · replace h := h.2 c3
    refine j_iconst (v := (-1 : Int32)) X (by decide) dX6_cover_11 ?_
    exact j_iret X Y dX6_cover_12 h
