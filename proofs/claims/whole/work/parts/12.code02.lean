/-- LayeredClaims$Trays.fill(III)[I -/
def wp_X4_fill (a1 : Int32) (a2 : Int32) (a3 : Int32) (M : Mm) (P : Nat × Nat → Mm → Prop) : Prop := (vp_in ((a1 * (4 : Int32)) + a2) 12 ∧ (∀ M2 : Mm, M2 = wr M 100 0 ((a1 * (4 : Int32)) + a2).toNatClampNeg a3 → (wp_X4_rowAt a1 a2 M2 (fun (r4 : Nat × Nat) (M3 : Mm) => P (r4.1, r4.2) M3))))
set_option maxHeartbeats 4000000 in
set_option maxRecDepth 100000 in
theorem met_X4_fill {l : Launch} {G : GT} (hG : GD G) (a1 : Int32) (a2 : Int32) (a3 : Int32) (M : Mm) (P : Nat × Nat → Mm → Prop) (h : wp_X4_fill a1 a2 a3 M P) : MR l G yX4_fill cX4_fill 4 (some (.array .int)) ({ frames := 1, cells := 0, slots := 0, locals := 22 } : Room) [.ref (adr G 4 0), .int a1, .int a2, .int a3] M P := by
  refine met_by hG (own := RX4) rfl (by decide +kernel) (Nat.le_of_ble_eq_true rfl) (fun E hE X Y => ?_)
  show J G E 4 0 [(0, .ref (adr G 4 0)), (1, .int a1), (2, .int a2), (3, .int a3)] [] M
  unfold wp_X4_fill at h
  refine j_aload_n X 0 dX4_fill_0 rfl rfl ?_
  refine jf_RX4_11 X  dX4_fill_1 ?_
  refine j_iload_n X 1 dX4_fill_4 rfl rfl ?_
  refine j_iconst (v := (4 : Int32)) X (by decide) dX4_fill_5 ?_
  refine j_imul X dX4_fill_6 ?_
  refine j_iload_n X 2 dX4_fill_7 rfl rfl ?_
  refine j_iadd X dX4_fill_8 ?_
  refine j_iload_n X 3 dX4_fill_9 rfl rfl ?_
  have q1 := h.1
  replace h := h.2
  refine j_iast X _ rfl (mw100 0 (by decide)) kt100 lt100 q1 dX4_fill_10 ?_
  refine j_memo (fun M2 eM2 => ?_)
  replace h := h M2 eM2
  refine j_aload_n X 0 dX4_fill_11 rfl rfl ?_
  refine j_iload_n X 1 dX4_fill_12 rfl rfl ?_
  refine j_iload_n X 2 dX4_fill_13 rfl rfl ?_
  refine jc_RX4_24 X ⟨Nat.le_of_ble_eq_true rfl, Nat.le_of_ble_eq_true rfl⟩ (Nat.le_of_ble_eq_true rfl) dX4_fill_14 h (fun r4 M3 h => ?_)
  exact j_aret X Y dX4_fill_17 h
theorem jc_RX6_327 {G : GT} {E : ET} {cc : ByteArray} {nL pc : Nat} {rm : Room} {lv : List (Nat × Value)} {st : List Value} {M : Mm} (X : CX G E RX6 cc nL rm) (hR : 1 + 1 ≤ rm.frames ∧ 8 + (4 + 11) + 22 ≤ rm.locals) (hst : (st.map fun v => v.category).sum ≤ 8) (d : decode cc pc = .ok (.invokevirtual 327, 3)) {a1 : Int32} {a2 : Int32} {a3 : Int32} {P : Nat × Nat → Mm → Prop} (h : wp_X4_fill a1 a2 a3 M P) (k1 : ∀ (r : Nat × Nat) (M2 : Mm), P r M2 → J G E nL (pc + 3) lv (.ref (adr G r.1 r.2) :: st) M2) : J G E nL pc lv (.int a3 :: .int a2 :: .int a1 :: .ref (adr G 4 0) :: st) M := fun H locs ls hP hS hl => by
  have hK := X.2.2.2.2.2.1.1
  have hm := met_X4_fill (l := eL E) X.2.2.2.2.2.2.1 a1 a2 a3 M P h
  have hR2 : 1 + 1 ≤ (eR E).frames ∧ 8 + (4 + 11) + 22 ≤ (eR E).locals := by rw [X.2.2.2.2.2.2.2.1]; exact hR
  have hC2 : eCells E + 0 ≤ (eR E).cells ∧ eSlots E + 0 ≤ (eR E).slots := by rw [X.2.2.2.2.2.2.2.1]; exact ⟨X.2.2.2.2.2.2.2.2.1, X.2.2.2.2.2.2.2.2.2⟩
  obtain ⟨q0, -, hq⟩ := wld_get (G := G) M (mw4 0 (by decide))
  exact va_callr (va_runV (C := RX4) (As := [.int a1, .int a2, .int a3]) (rest := st) ⟨X.1, X.2.1, X.2.2.1, X.2.2.2.1, X.2.2.2.2.1⟩ hm (cwV (ws' := lw_aw) 3 X.2.2.2.2.1 (gwV (tw (i := 816) (by decide +kernel)) (tw (i := 817) (by decide +kernel)) (tw (i := 818) (by decide +kernel)) (tw (i := 77) (by decide +kernel)) (tw (i := 819) (by decide +kernel))) rfl rfl rfl (by decide +kernel) hR2) ⟨hr_blind, va_recv hK hP (ci := 4) (q := (RX4, TX4, 2)) (fs := objF4 G 0 (M.1 4 0)) (q0 := q0) rfl hq, fun U hU hW => ⟨rfl, by rw [hU]; exact hP, KK.warm hW X.2.2.2.2.2.1⟩⟩ rfl rfl hl.1 rfl (lv_room hst) d hC2) hS (fun q _ h => h) (fun q h => h) (fun u ra t H1 locs1 ht hvm hw hB hz1 hk1 hS1 => by
    have hJ := k1 u.1 u.2 hw H1 locs1 ls (by rw [← ht]; exact hB.2.1) hS1 hl
    rw [← hB.1] at hJ
    exact hJ)
/-- LayeredClaims$Trays.kindAt(II)I -/
def wp_X4_kindAt (a1 : Int32) (a2 : Int32) (M : Mm) (P : Int32 → Mm → Prop) : Prop := (vp_in ((a1 * (4 : Int32)) + a2) 12 ∧ P (rd M 100 0 ((a1 * (4 : Int32)) + a2).toNatClampNeg) M)
set_option maxHeartbeats 4000000 in
set_option maxRecDepth 100000 in
theorem met_X4_kindAt {l : Launch} {G : GT} (hG : GD G) (a1 : Int32) (a2 : Int32) (M : Mm) (P : Int32 → Mm → Prop) (h : wp_X4_kindAt a1 a2 M P) : MI l G yX4_kindAt cX4_kindAt 3 (some .int) ({ frames := 0, cells := 0, slots := 0, locals := 0 } : Room) [.ref (adr G 4 0), .int a1, .int a2] M P := by
  refine met_by hG (own := RX4) rfl (by decide +kernel) (Nat.le_of_ble_eq_true rfl) (fun E hE X Y => ?_)
  show J G E 3 0 [(0, .ref (adr G 4 0)), (1, .int a1), (2, .int a2)] [] M
  unfold wp_X4_kindAt at h
  refine j_aload_n X 0 dX4_kindAt_0 rfl rfl ?_
  refine jf_RX4_11 X  dX4_kindAt_1 ?_
  refine j_iload_n X 1 dX4_kindAt_4 rfl rfl ?_
  refine j_iconst (v := (4 : Int32)) X (by decide) dX4_kindAt_5 ?_
  refine j_imul X dX4_kindAt_6 ?_
  refine j_iload_n X 2 dX4_kindAt_7 rfl rfl ?_
  refine j_iadd X dX4_kindAt_8 ?_
  have q1 := h.1
  replace h := h.2
  refine j_iald X _ rfl (mw100 0 (by decide)) kt100 lt100 q1 dX4_kindAt_9 ?_
  exact j_iret X Y dX4_kindAt_10 h
theorem jc_RX6_354 {G : GT} {E : ET} {cc : ByteArray} {nL pc : Nat} {rm : Room} {lv : List (Nat × Value)} {st : List Value} {M : Mm} (X : CX G E RX6 cc nL rm) (hR : 0 + 1 ≤ rm.frames ∧ 8 + (3 + 11) + 0 ≤ rm.locals) (hst : (st.map fun v => v.category).sum ≤ 8) (d : decode cc pc = .ok (.invokevirtual 354, 3)) {a1 : Int32} {a2 : Int32} {P : Int32 → Mm → Prop} (h : wp_X4_kindAt a1 a2 M P) (k1 : ∀ (r : Int32) (M2 : Mm), P r M2 → J G E nL (pc + 3) lv (.int r :: st) M2) : J G E nL pc lv (.int a2 :: .int a1 :: .ref (adr G 4 0) :: st) M := fun H locs ls hP hS hl => by
  have hK := X.2.2.2.2.2.1.1
  have hm := met_X4_kindAt (l := eL E) X.2.2.2.2.2.2.1 a1 a2 M P h
  have hR2 : 0 + 1 ≤ (eR E).frames ∧ 8 + (3 + 11) + 0 ≤ (eR E).locals := by rw [X.2.2.2.2.2.2.2.1]; exact hR
  have hC2 : eCells E + 0 ≤ (eR E).cells ∧ eSlots E + 0 ≤ (eR E).slots := by rw [X.2.2.2.2.2.2.2.1]; exact ⟨X.2.2.2.2.2.2.2.2.1, X.2.2.2.2.2.2.2.2.2⟩
  obtain ⟨q0, -, hq⟩ := wld_get (G := G) M (mw4 0 (by decide))
  exact va_calli (va_runV (C := RX4) (As := [.int a1, .int a2]) (rest := st) ⟨X.1, X.2.1, X.2.2.1, X.2.2.2.1, X.2.2.2.2.1⟩ hm (cwV (ws' := lw_aw) 2 X.2.2.2.2.1 (gwV (tw (i := 848) (by decide +kernel)) (tw (i := 837) (by decide +kernel)) (tw (i := 838) (by decide +kernel)) (tw (i := 77) (by decide +kernel)) (tw (i := 839) (by decide +kernel))) rfl rfl rfl (by decide +kernel) hR2) ⟨hr_blind, va_recv hK hP (ci := 4) (q := (RX4, TX4, 2)) (fs := objF4 G 0 (M.1 4 0)) (q0 := q0) rfl hq, fun U hU hW => ⟨rfl, by rw [hU]; exact hP, KK.warm hW X.2.2.2.2.2.1⟩⟩ rfl rfl hl.1 rfl (lv_room hst) d hC2) hS (fun q _ h => h) (fun q h => h) (fun r u t H1 locs1 ht hvm hw hB hz1 hk1 hS1 => k1 r u hw H1 locs1 ls (by rw [← ht]; exact hB.1) hS1 hl)
theorem jc_RX4_28 {G : GT} {E : ET} {cc : ByteArray} {nL pc : Nat} {rm : Room} {lv : List (Nat × Value)} {st : List Value} {M : Mm} (X : CX G E RX4 cc nL rm) (hR : 0 + 1 ≤ rm.frames ∧ 8 + (3 + 11) + 0 ≤ rm.locals) (hst : (st.map fun v => v.category).sum ≤ 8) (d : decode cc pc = .ok (.invokevirtual 28, 3)) {a1 : Int32} {a2 : Int32} {P : Int32 → Mm → Prop} (h : wp_X4_kindAt a1 a2 M P) (k1 : ∀ (r : Int32) (M2 : Mm), P r M2 → J G E nL (pc + 3) lv (.int r :: st) M2) : J G E nL pc lv (.int a2 :: .int a1 :: .ref (adr G 4 0) :: st) M := fun H locs ls hP hS hl => by
  have hK := X.2.2.2.2.2.1.1
  have hm := met_X4_kindAt (l := eL E) X.2.2.2.2.2.2.1 a1 a2 M P h
  have hR2 : 0 + 1 ≤ (eR E).frames ∧ 8 + (3 + 11) + 0 ≤ (eR E).locals := by rw [X.2.2.2.2.2.2.2.1]; exact hR
  have hC2 : eCells E + 0 ≤ (eR E).cells ∧ eSlots E + 0 ≤ (eR E).slots := by rw [X.2.2.2.2.2.2.2.1]; exact ⟨X.2.2.2.2.2.2.2.2.1, X.2.2.2.2.2.2.2.2.2⟩
  obtain ⟨q0, -, hq⟩ := wld_get (G := G) M (mw4 0 (by decide))
  exact va_calli (va_runV (C := RX4) (As := [.int a1, .int a2]) (rest := st) ⟨X.1, X.2.1, X.2.2.1, X.2.2.2.1, X.2.2.2.2.1⟩ hm (cwV (ws' := lw_aw) 2 X.2.2.2.2.1 (gwV (tw (i := 836) (by decide +kernel)) (tw (i := 837) (by decide +kernel)) (tw (i := 838) (by decide +kernel)) (tw (i := 77) (by decide +kernel)) (tw (i := 839) (by decide +kernel))) rfl rfl rfl (by decide +kernel) hR2) ⟨hr_blind, va_recv hK hP (ci := 4) (q := (RX4, TX4, 2)) (fs := objF4 G 0 (M.1 4 0)) (q0 := q0) rfl hq, fun U hU hW => ⟨rfl, by rw [hU]; exact hP, KK.warm hW X.2.2.2.2.2.1⟩⟩ rfl rfl hl.1 rfl (lv_room hst) d hC2) hS (fun q _ h => h) (fun q h => h) (fun r u t H1 locs1 ht hvm hw hB hz1 hk1 hS1 => k1 r u hw H1 locs1 ls (by rw [← ht]; exact hB.1) hS1 hl)
/-- LayeredClaims$Trays.filledPlaces(I)I -/
def wp_X4_filledPlaces (a1 : Int32) (M : Mm) (P : Int32 → Mm → Prop) : Prop := (∃ n, lq3 (fun self1 (x3 : Int32) (x4 : Int32) (M5 : Mm) => (((4 : Int32) ≤ x4 → P x3 M5) ∧ (¬ (4 : Int32) ≤ x4 → (wp_X4_kindAt a1 x4 M5 (fun (r8 : Int32) (M7 : Mm) => (jn (fun (x9 : Int32) => (∀ x12 : Int32, x12 = x4 + (1 : Int32) → self1 x9 x12 M7)) (fun J10 : Int32 → Prop => ((r8 = (-4 : Int32) → J10 x3) ∧ (¬ r8 = (-4 : Int32) → (∀ x14 : Int32, x14 = x3 + (1 : Int32) → J10 x14)))))))))) n (0 : Int32) (0 : Int32) M)
set_option maxHeartbeats 4000000 in
set_option maxRecDepth 100000 in
theorem met_X4_filledPlaces {l : Launch} {G : GT} (hG : GD G) (a1 : Int32) (M : Mm) (P : Int32 → Mm → Prop) (h : wp_X4_filledPlaces a1 M P) : MI l G yX4_filledPlaces cX4_filledPlaces 4 (some .int) ({ frames := 1, cells := 0, slots := 0, locals := 22 } : Room) [.ref (adr G 4 0), .int a1] M P := by
  refine met_by hG (own := RX4) rfl (by decide +kernel) (Nat.le_of_ble_eq_true rfl) (fun E hE X Y => ?_)
  show J G E 4 0 [(0, .ref (adr G 4 0)), (1, .int a1)] [] M
  unfold wp_X4_filledPlaces at h
  refine j_iconst (v := (0 : Int32)) X (by decide) dX4_filledPlaces_0 ?_
  refine j_istore_n X [(2, .int (0 : Int32)), (0, .ref (adr G 4 0)), (1, .int a1)] dX4_filledPlaces_1 rfl (by decide) rfl ?_
  refine j_iconst (v := (0 : Int32)) X (by decide) dX4_filledPlaces_2 ?_
  refine j_istore_n X [(3, .int (0 : Int32)), (2, .int (0 : Int32)), (0, .ref (adr G 4 0)), (1, .int a1)] dX4_filledPlaces_3 rfl (by decide) rfl ?_
  refine j_sub [2, 3, 1, 0] rfl ?_
  refine lq3_s h (fun (x3 : Int32) (x4 : Int32) (M5 : Mm) => J G E 4 4 [(0, .ref (adr G 4 0)), (1, .int a1), (2, .int x3), (3, .int x4)] [] M5) (fun self1 ih2 x3 x4 M5 h => ?_) id
  refine j_iload_n X 3 dX4_filledPlaces_4 rfl rfl ?_
  refine j_iconst (v := (4 : Int32)) X (by decide) dX4_filledPlaces_5 ?_
  refine j_icmp_ge X 29 dX4_filledPlaces_6 (by decide) (fun c6 => ?_) (fun c6 => ?_)
  · replace h := h.1 c6
    refine j_iload_n X 2 dX4_filledPlaces_29 rfl rfl ?_
    exact j_iret X Y dX4_filledPlaces_30 h
  · replace h := h.2 c6
    refine j_aload_n X 0 dX4_filledPlaces_9 rfl rfl ?_
    refine j_iload_n X 1 dX4_filledPlaces_10 rfl rfl ?_
    refine j_iload_n X 3 dX4_filledPlaces_11 rfl rfl ?_
    refine jc_RX4_28 X ⟨Nat.le_of_ble_eq_true rfl, Nat.le_of_ble_eq_true rfl⟩ (Nat.le_of_ble_eq_true rfl) dX4_filledPlaces_12 h (fun r8 M7 h => ?_)
    refine j_bipush (v := (-4 : Int32)) X (by decide) dX4_filledPlaces_15 ?_
    refine jn1_s h (fun (x9 : Int32) => J G E 4 23 [(0, .ref (adr G 4 0)), (1, .int a1), (2, .int x9), (3, .int x4)] [] M7) (fun x9 h => ?_) (fun J10 hj11 h => ?_)
    · obtain ⟨x12, ex12⟩ : ∃ z : Int32, z = x4 + (1 : Int32) := ⟨_, rfl⟩
      replace h := h x12 ex12
      refine j_iinc (v := x12) X 3 [(3, .int x12), (0, .ref (adr G 4 0)), (1, .int a1), (2, .int x9)] dX4_filledPlaces_23 rfl (by rw [ex12]; rfl) (by decide) rfl ?_
      refine j_goto X 4 dX4_filledPlaces_26 (by decide) ?_
      refine j_sub [1, 2, 3, 0] rfl ?_
      exact ih2 x9 x12 M7 h
    · refine j_icmp_eq X 23 dX4_filledPlaces_17 (by decide) (fun c13 => ?_) (fun c13 => ?_)
      · replace h := h.1 c13
        refine j_sub [0, 1, 2, 3] rfl ?_
        exact hj11 x3 h
      · replace h := h.2 c13
        obtain ⟨x14, ex14⟩ : ∃ z : Int32, z = x3 + (1 : Int32) := ⟨_, rfl⟩
        replace h := h x14 ex14
        refine j_iinc (v := x14) X 2 [(2, .int x14), (0, .ref (adr G 4 0)), (1, .int a1), (3, .int x4)] dX4_filledPlaces_20 rfl (by rw [ex14]; rfl) (by decide) rfl ?_
        refine j_sub [1, 2, 0, 3] rfl ?_
        exact hj11 x14 h
theorem jc_RX6_338 {G : GT} {E : ET} {cc : ByteArray} {nL pc : Nat} {rm : Room} {lv : List (Nat × Value)} {st : List Value} {M : Mm} (X : CX G E RX6 cc nL rm) (hR : 1 + 1 ≤ rm.frames ∧ 8 + (4 + 11) + 22 ≤ rm.locals) (hst : (st.map fun v => v.category).sum ≤ 8) (d : decode cc pc = .ok (.invokevirtual 338, 3)) {a1 : Int32} {P : Int32 → Mm → Prop} (h : wp_X4_filledPlaces a1 M P) (k1 : ∀ (r : Int32) (M2 : Mm), P r M2 → J G E nL (pc + 3) lv (.int r :: st) M2) : J G E nL pc lv (.int a1 :: .ref (adr G 4 0) :: st) M := fun H locs ls hP hS hl => by
  have hK := X.2.2.2.2.2.1.1
  have hm := met_X4_filledPlaces (l := eL E) X.2.2.2.2.2.2.1 a1 M P h
  have hR2 : 1 + 1 ≤ (eR E).frames ∧ 8 + (4 + 11) + 22 ≤ (eR E).locals := by rw [X.2.2.2.2.2.2.2.1]; exact hR
  have hC2 : eCells E + 0 ≤ (eR E).cells ∧ eSlots E + 0 ≤ (eR E).slots := by rw [X.2.2.2.2.2.2.2.1]; exact ⟨X.2.2.2.2.2.2.2.2.1, X.2.2.2.2.2.2.2.2.2⟩
  obtain ⟨q0, -, hq⟩ := wld_get (G := G) M (mw4 0 (by decide))
  exact va_calli (va_runV (C := RX4) (As := [.int a1]) (rest := st) ⟨X.1, X.2.1, X.2.2.1, X.2.2.2.1, X.2.2.2.2.1⟩ hm (cwV (ws' := lw_aw) 1 X.2.2.2.2.1 (gwV (tw (i := 832) (by decide +kernel)) (tw (i := 833) (by decide +kernel)) (tw (i := 834) (by decide +kernel)) (tw (i := 77) (by decide +kernel)) (tw (i := 835) (by decide +kernel))) rfl rfl rfl (by decide +kernel) hR2) ⟨hr_blind, va_recv hK hP (ci := 4) (q := (RX4, TX4, 2)) (fs := objF4 G 0 (M.1 4 0)) (q0 := q0) rfl hq, fun U hU hW => ⟨rfl, by rw [hU]; exact hP, KK.warm hW X.2.2.2.2.2.1⟩⟩ rfl rfl hl.1 rfl (lv_room hst) d hC2) hS (fun q _ h => h) (fun q h => h) (fun r u t H1 locs1 ht hvm hw hB hz1 hk1 hS1 => k1 r u hw H1 locs1 ls (by rw [← ht]; exact hB.1) hS1 hl)
/-- LayeredClaims$Year.paidForEvent(I)I -/
def wp_X5_paidForEvent (a1 : Int32) (M : Mm) (P : Int32 → Mm → Prop) : Prop := (vp_in a1 8 ∧ (wp_X6_sumOf (328, a1.toNatClampNeg) (rd M 0 0 0) M (fun (r3 : Int32) (M2 : Mm) => P r3 M2)))
set_option maxHeartbeats 4000000 in
set_option maxRecDepth 100000 in
theorem met_X5_paidForEvent {l : Launch} {G : GT} (hG : GD G) (a1 : Int32) (M : Mm) (P : Int32 → Mm → Prop) (h : wp_X5_paidForEvent a1 M P) : MI l G yX5_paidForEvent cX5_paidForEvent 2 (some .int) ({ frames := 1, cells := 0, slots := 0, locals := 23 } : Room) [.ref (adr G 5 0), .int a1] M P := by
  refine met_by hG (own := RX5) rfl (by decide +kernel) (Nat.le_of_ble_eq_true rfl) (fun E hE X Y => ?_)
  show J G E 2 0 [(0, .ref (adr G 5 0)), (1, .int a1)] [] M
  unfold wp_X5_paidForEvent at h
  refine j_aload_n X 0 dX5_paidForEvent_0 rfl rfl ?_
  refine jf_RX5_42 X  dX5_paidForEvent_1 ?_
  refine j_iload_n X 1 dX5_paidForEvent_4 rfl rfl ?_
  have q1 := h.1
  replace h := h.2
  refine j_aaldI X (mw128 0 (by decide)) kt128 lt128 q1 dX5_paidForEvent_5 ?_
  refine j_aload_n X 0 dX5_paidForEvent_6 rfl rfl ?_
  refine jf_RX5_12 X  dX5_paidForEvent_7 ?_
  refine jf_RX5_76 X (by decide) dX5_paidForEvent_10 ?_
  refine jc_RX5_176 X ⟨Nat.le_of_ble_eq_true rfl, Nat.le_of_ble_eq_true rfl⟩ (Nat.le_of_ble_eq_true rfl) dX5_paidForEvent_13 h (fun r3 M2 h => ?_)
  exact j_iret X Y dX5_paidForEvent_16 h
theorem jc_RX6_209 {G : GT} {E : ET} {cc : ByteArray} {nL pc : Nat} {rm : Room} {lv : List (Nat × Value)} {st : List Value} {M : Mm} (X : CX G E RX6 cc nL rm) (hR : 1 + 1 ≤ rm.frames ∧ 8 + (2 + 11) + 23 ≤ rm.locals) (hst : (st.map fun v => v.category).sum ≤ 8) (d : decode cc pc = .ok (.invokevirtual 209, 3)) {a1 : Int32} {P : Int32 → Mm → Prop} (h : wp_X5_paidForEvent a1 M P) (k1 : ∀ (r : Int32) (M2 : Mm), P r M2 → J G E nL (pc + 3) lv (.int r :: st) M2) : J G E nL pc lv (.int a1 :: .ref (adr G 5 0) :: st) M := fun H locs ls hP hS hl => by
  have hK := X.2.2.2.2.2.1.1
  have hm := met_X5_paidForEvent (l := eL E) X.2.2.2.2.2.2.1 a1 M P h
  have hR2 : 1 + 1 ≤ (eR E).frames ∧ 8 + (2 + 11) + 23 ≤ (eR E).locals := by rw [X.2.2.2.2.2.2.2.1]; exact hR
  have hC2 : eCells E + 0 ≤ (eR E).cells ∧ eSlots E + 0 ≤ (eR E).slots := by rw [X.2.2.2.2.2.2.2.1]; exact ⟨X.2.2.2.2.2.2.2.2.1, X.2.2.2.2.2.2.2.2.2⟩
  obtain ⟨q0, -, hq⟩ := wld_get (G := G) M (mw5 0 (by decide))
  exact va_calli (va_runV (C := RX5) (As := [.int a1]) (rest := st) ⟨X.1, X.2.1, X.2.2.1, X.2.2.2.1, X.2.2.2.2.1⟩ hm (cwV (ws' := lw_aw) 1 X.2.2.2.2.1 (gwV (tw (i := 662) (by decide +kernel)) (tw (i := 614) (by decide +kernel)) (tw (i := 615) (by decide +kernel)) (tw (i := 72) (by decide +kernel)) (tw (i := 616) (by decide +kernel))) rfl rfl rfl (by decide +kernel) hR2) ⟨hr_blind, va_recv hK hP (ci := 5) (q := (RX5, TX5, 16)) (fs := objF5 G 0 (M.1 5 0)) (q0 := q0) rfl hq, fun U hU hW => ⟨rfl, by rw [hU]; exact hP, KK.warm hW X.2.2.2.2.2.1⟩⟩ rfl rfl hl.1 rfl (lv_room hst) d hC2) hS (fun q _ h => h) (fun q h => h) (fun r u t H1 locs1 ht hvm hw hB hz1 hk1 hS1 => k1 r u hw H1 locs1 ls (by rw [← ht]; exact hB.1) hS1 hl)
theorem jc_RX5_157 {G : GT} {E : ET} {cc : ByteArray} {nL pc : Nat} {rm : Room} {lv : List (Nat × Value)} {st : List Value} {M : Mm} (X : CX G E RX5 cc nL rm) (hR : 1 + 1 ≤ rm.frames ∧ 8 + (2 + 11) + 23 ≤ rm.locals) (hst : (st.map fun v => v.category).sum ≤ 8) (d : decode cc pc = .ok (.invokevirtual 157, 3)) {a1 : Int32} {P : Int32 → Mm → Prop} (h : wp_X5_paidForEvent a1 M P) (k1 : ∀ (r : Int32) (M2 : Mm), P r M2 → J G E nL (pc + 3) lv (.int r :: st) M2) : J G E nL pc lv (.int a1 :: .ref (adr G 5 0) :: st) M := fun H locs ls hP hS hl => by
  have hK := X.2.2.2.2.2.1.1
  have hm := met_X5_paidForEvent (l := eL E) X.2.2.2.2.2.2.1 a1 M P h
  have hR2 : 1 + 1 ≤ (eR E).frames ∧ 8 + (2 + 11) + 23 ≤ (eR E).locals := by rw [X.2.2.2.2.2.2.2.1]; exact hR
  have hC2 : eCells E + 0 ≤ (eR E).cells ∧ eSlots E + 0 ≤ (eR E).slots := by rw [X.2.2.2.2.2.2.2.1]; exact ⟨X.2.2.2.2.2.2.2.2.1, X.2.2.2.2.2.2.2.2.2⟩
  obtain ⟨q0, -, hq⟩ := wld_get (G := G) M (mw5 0 (by decide))
  exact va_calli (va_runV (C := RX5) (As := [.int a1]) (rest := st) ⟨X.1, X.2.1, X.2.2.1, X.2.2.2.1, X.2.2.2.2.1⟩ hm (cwV (ws' := lw_aw) 1 X.2.2.2.2.1 (gwV (tw (i := 613) (by decide +kernel)) (tw (i := 614) (by decide +kernel)) (tw (i := 615) (by decide +kernel)) (tw (i := 72) (by decide +kernel)) (tw (i := 616) (by decide +kernel))) rfl rfl rfl (by decide +kernel) hR2) ⟨hr_blind, va_recv hK hP (ci := 5) (q := (RX5, TX5, 16)) (fs := objF5 G 0 (M.1 5 0)) (q0 := q0) rfl hq, fun U hU hW => ⟨rfl, by rw [hU]; exact hP, KK.warm hW X.2.2.2.2.2.1⟩⟩ rfl rfl hl.1 rfl (lv_room hst) d hC2) hS (fun q _ h => h) (fun q h => h) (fun r u t H1 locs1 ht hvm hw hB hz1 hk1 hS1 => k1 r u hw H1 locs1 ls (by rw [← ht]; exact hB.1) hS1 hl)
/-- LayeredClaims$Year.bearBurden(I)V -/
def wp_X5_bearBurden (a1 : Int32) (M : Mm) (P : Mm → Prop) : Prop := (wp_X5_paidForEvent a1 M (fun (r2 : Int32) (M1 : Mm) => (vp_in a1 8 ∧ (∀ x4 : Int32, x4 = (if (0 : Int32) < (r2 - (rd M1 34 0 a1.toNatClampNeg)) then (r2 - (rd M1 34 0 a1.toNatClampNeg)) else (0 : Int32)) → (∃ n, lq3 (fun self5 (x7 : Int32) (x8 : Int32) (M9 : Mm) => (((rd M9 0 0 5) ≤ x8 → (∀ M11 : Mm, M11 = wr M9 130 0 a1.toNatClampNeg x4 → (∀ M12 : Mm, M12 = wr M11 133 0 a1.toNatClampNeg x7 → P M12))) ∧ (¬ (rd M9 0 0 5) ≤ x8 → (vp_in x8 4 ∧ (∀ x14 : Int32, x14 = (if (0 : Int32) < (x4 - (rd M9 26 0 x8.toNatClampNeg)) then (x4 - (rd M9 26 0 x8.toNatClampNeg)) else (0 : Int32)) → (∀ x15 : Int32, x15 = (if (rd M9 132 0 x8.toNatClampNeg) < (if (rd M9 27 0 x8.toNatClampNeg) < x14 then (rd M9 27 0 x8.toNatClampNeg) else x14) then (rd M9 132 0 x8.toNatClampNeg) else (if (rd M9 27 0 x8.toNatClampNeg) < x14 then (rd M9 27 0 x8.toNatClampNeg) else x14)) → (a1.toNatClampNeg < 8 ∧ (∀ M17 : Mm, M17 = wr M9 331 a1.toNatClampNeg x8.toNatClampNeg x15 → (∀ M18 : Mm, M18 = wr M17 132 0 x8.toNatClampNeg ((rd M17 132 0 x8.toNatClampNeg) - x15) → (∀ x19 : Int32, x19 = (x7 - x15) → (∀ x20 : Int32, x20 = x8 + (1 : Int32) → self5 x19 x20 M18))))))))))) n x4 (0 : Int32) M1)))))
set_option maxHeartbeats 4000000 in
set_option maxRecDepth 100000 in
theorem met_X5_bearBurden {l : Launch} {G : GT} (hG : GD G) (a1 : Int32) (M : Mm) (P : Mm → Prop) (h : wp_X5_bearBurden a1 M P) : MV l G yX5_bearBurden cX5_bearBurden 7 none ({ frames := 2, cells := 0, slots := 0, locals := 44 } : Room) [.ref (adr G 5 0), .int a1] M P := by
  refine met_by hG (own := RX5) rfl (by decide +kernel) (Nat.le_of_ble_eq_true rfl) (fun E hE X Y => ?_)
  show J G E 7 0 [(0, .ref (adr G 5 0)), (1, .int a1)] [] M
  unfold wp_X5_bearBurden at h
  refine j_iconst (v := (0 : Int32)) X (by decide) dX5_bearBurden_0 ?_
  refine j_aload_n X 0 dX5_bearBurden_1 rfl rfl ?_
  refine j_iload_n X 1 dX5_bearBurden_2 rfl rfl ?_
  refine jc_RX5_157 X ⟨Nat.le_of_ble_eq_true rfl, Nat.le_of_ble_eq_true rfl⟩ (Nat.le_of_ble_eq_true rfl) dX5_bearBurden_3 h (fun r2 M1 h => ?_)
  refine j_aload_n X 0 dX5_bearBurden_6 rfl rfl ?_
  refine jf_RX5_12 X  dX5_bearBurden_7 ?_
  refine jf_RX5_160 X (by decide) dX5_bearBurden_10 ?_
  refine j_iload_n X 1 dX5_bearBurden_13 rfl rfl ?_
  have q3 := h.1
  replace h := h.2
  refine j_iald X _ rfl (mw34 0 (by decide)) kt34 lt34 q3 dX5_bearBurden_14 ?_
  refine j_isub X dX5_bearBurden_15 ?_
  refine j_max X (tw (i := 618) (by decide +kernel)) (Nat.le_of_ble_eq_true rfl) (Nat.le_of_ble_eq_true rfl) dX5_bearBurden_16 ?_
  refine j_topi (fun x4 ex4 => ?_)
  replace h := h x4 ex4
  refine j_istore_n X [(2, .int x4), (0, .ref (adr G 5 0)), (1, .int a1)] dX5_bearBurden_19 rfl (by decide) rfl ?_
  refine j_iload_n X 0 dX5_bearBurden_20 rfl rfl ?_
  refine j_istore_n X [(3, .int x4), (2, .int x4), (0, .ref (adr G 5 0)), (1, .int a1)] dX5_bearBurden_21 rfl (by decide) rfl ?_
  refine j_iconst (v := (0 : Int32)) X (by decide) dX5_bearBurden_22 ?_
  refine j_istore X [(4, .int (0 : Int32)), (3, .int x4), (2, .int x4), (0, .ref (adr G 5 0)), (1, .int a1)] dX5_bearBurden_23 (by decide) rfl ?_
  refine j_sub [3, 4, 2, 1, 0] rfl ?_
  refine lq3_s h (fun (x7 : Int32) (x8 : Int32) (M9 : Mm) => J G E 7 25 [(0, .ref (adr G 5 0)), (1, .int a1), (2, .int x4), (3, .int x7), (4, .int x8)] [] M9) (fun self5 ih6 x7 x8 M9 h => ?_) id
  refine j_iload X 4 dX5_bearBurden_25 rfl ?_
  refine j_aload_n X 0 dX5_bearBurden_27 rfl rfl ?_
  refine jf_RX5_12 X  dX5_bearBurden_28 ?_
  refine jf_RX5_83 X (by decide) dX5_bearBurden_31 ?_
  refine j_icmp_ge X 116 dX5_bearBurden_34 (by decide) (fun c10 => ?_) (fun c10 => ?_)
  · replace h := h.1 c10
    refine j_aload_n X 0 dX5_bearBurden_116 rfl rfl ?_
    refine jf_RX5_48 X  dX5_bearBurden_117 ?_
    refine j_iload_n X 1 dX5_bearBurden_120 rfl rfl ?_
    refine j_iload_n X 2 dX5_bearBurden_121 rfl rfl ?_
    refine j_iast X _ rfl (mw130 0 (by decide)) kt130 lt130 q3 dX5_bearBurden_122 ?_
    refine j_memo (fun M11 eM11 => ?_)
    replace h := h M11 eM11
    refine j_aload_n X 0 dX5_bearBurden_123 rfl rfl ?_
    refine jf_RX5_57 X  dX5_bearBurden_124 ?_
    refine j_iload_n X 1 dX5_bearBurden_127 rfl rfl ?_
    refine j_iload_n X 3 dX5_bearBurden_128 rfl rfl ?_
    refine j_iast X _ rfl (mw133 0 (by decide)) kt133 lt133 q3 dX5_bearBurden_129 ?_
    refine j_memo (fun M12 eM12 => ?_)
    replace h := h M12 eM12
    exact j_vret X Y dX5_bearBurden_130 h
  · replace h := h.2 c10
    refine j_iconst (v := (0 : Int32)) X (by decide) dX5_bearBurden_37 ?_
    refine j_iload_n X 2 dX5_bearBurden_38 rfl rfl ?_
    refine j_aload_n X 0 dX5_bearBurden_39 rfl rfl ?_
    refine jf_RX5_12 X  dX5_bearBurden_40 ?_
    refine jf_RX5_166 X (by decide) dX5_bearBurden_43 ?_
    refine j_iload X 4 dX5_bearBurden_46 rfl ?_
    have q13 := h.1
    replace h := h.2
    refine j_iald X _ rfl (mw26 0 (by decide)) kt26 lt26 q13 dX5_bearBurden_48 ?_
    refine j_isub X dX5_bearBurden_49 ?_
    refine j_max X (tw (i := 618) (by decide +kernel)) (Nat.le_of_ble_eq_true rfl) (Nat.le_of_ble_eq_true rfl) dX5_bearBurden_50 ?_
    refine j_topi (fun x14 ex14 => ?_)
    replace h := h x14 ex14
    refine j_istore X [(5, .int x14), (0, .ref (adr G 5 0)), (1, .int a1), (2, .int x4), (3, .int x7), (4, .int x8)] dX5_bearBurden_53 (by decide) rfl ?_
    refine j_iload X 0 dX5_bearBurden_55 rfl ?_
    refine j_aload_n X 1 dX5_bearBurden_57 rfl rfl ?_
    refine jf_RX5_12 X  dX5_bearBurden_58 ?_
    refine jf_RX5_169 X (by decide) dX5_bearBurden_61 ?_
    refine j_iload X 5 dX5_bearBurden_64 rfl ?_
    refine j_iald X _ rfl (mw27 0 (by decide)) kt27 lt27 q13 dX5_bearBurden_66 ?_
    refine j_min X (tw (i := 581) (by decide +kernel)) (Nat.le_of_ble_eq_true rfl) (Nat.le_of_ble_eq_true rfl) dX5_bearBurden_67 ?_
    refine j_aload_n X 1 dX5_bearBurden_70 rfl rfl ?_
    refine jf_RX5_54 X  dX5_bearBurden_71 ?_
    refine j_iload X 5 dX5_bearBurden_74 rfl ?_
    refine j_iald X _ rfl (mw132 0 (by decide)) kt132 lt132 q13 dX5_bearBurden_76 ?_
    refine j_min X (tw (i := 581) (by decide +kernel)) (Nat.le_of_ble_eq_true rfl) (Nat.le_of_ble_eq_true rfl) dX5_bearBurden_77 ?_
    refine j_topi (fun x15 ex15 => ?_)
    replace h := h x15 ex15
    refine j_istore X [(6, .int x15), (5, .int x14), (0, .ref (adr G 5 0)), (1, .int a1), (2, .int x4), (3, .int x7), (4, .int x8)] dX5_bearBurden_80 (by decide) rfl ?_
    refine j_aload_n X 2 dX5_bearBurden_82 rfl rfl ?_
    refine jf_RX5_51 X  dX5_bearBurden_83 ?_
    refine j_iload_n X 3 dX5_bearBurden_86 rfl rfl ?_
    refine j_aaldI X (mw131 0 (by decide)) kt131 lt131 q3 dX5_bearBurden_87 ?_
    refine j_iload X 6 dX5_bearBurden_88 rfl ?_
    refine j_iload X 0 dX5_bearBurden_90 rfl ?_
    have q16 := h.1
    replace h := h.2
    refine j_iast X _ rfl (mw331 a1.toNatClampNeg q16) kt331 lt331 q13 dX5_bearBurden_92 ?_
    refine j_memo (fun M17 eM17 => ?_)
    replace h := h M17 eM17
    refine j_aload_n X 2 dX5_bearBurden_93 rfl rfl ?_
    refine jf_RX5_54 X  dX5_bearBurden_94 ?_
    refine j_iload X 6 dX5_bearBurden_97 rfl ?_
    refine j_dup2 X rfl rfl dX5_bearBurden_99 ?_
    refine j_iald X _ rfl (mw132 0 (by decide)) kt132 lt132 q13 dX5_bearBurden_100 ?_
    refine j_iload X 0 dX5_bearBurden_101 rfl ?_
    refine j_isub X dX5_bearBurden_103 ?_
    refine j_iast X _ rfl (mw132 0 (by decide)) kt132 lt132 q13 dX5_bearBurden_104 ?_
    refine j_memo (fun M18 eM18 => ?_)
    replace h := h M18 eM18
    refine j_iload_n X 5 dX5_bearBurden_105 rfl rfl ?_
    refine j_iload X 0 dX5_bearBurden_106 rfl ?_
    refine j_isub X dX5_bearBurden_108 ?_
    refine j_topi (fun x19 ex19 => ?_)
    replace h := h x19 ex19
    refine j_istore_n X [(3, .int x19), (6, .int x15), (5, .int x14), (0, .ref (adr G 5 0)), (1, .int a1), (2, .int x4), (4, .int x8)] dX5_bearBurden_109 rfl (by decide) rfl ?_
    obtain ⟨x20, ex20⟩ : ∃ z : Int32, z = x8 + (1 : Int32) := ⟨_, rfl⟩
    replace h := h x20 ex20
    refine j_iinc (v := x20) X 6 [(4, .int x20), (3, .int x19), (6, .int x15), (5, .int x14), (0, .ref (adr G 5 0)), (1, .int a1), (2, .int x4)] dX5_bearBurden_110 rfl (by rw [ex20]; rfl) (by decide) rfl ?_
    refine j_goto X 25 dX5_bearBurden_113 (by decide) ?_
    refine j_sub [4, 5, 6, 1, 0] rfl ?_
    exact ih6 x19 x20 M18 h
theorem jc_RX5_104 {G : GT} {E : ET} {cc : ByteArray} {nL pc : Nat} {rm : Room} {lv : List (Nat × Value)} {st : List Value} {M : Mm} (X : CX G E RX5 cc nL rm) (hR : 2 + 1 ≤ rm.frames ∧ 8 + (7 + 11) + 44 ≤ rm.locals) (hst : (st.map fun v => v.category).sum ≤ 8) (d : decode cc pc = .ok (.invokevirtual 104, 3)) {a1 : Int32} {P : Mm → Prop} (h : wp_X5_bearBurden a1 M P) (k1 : ∀ M2 : Mm, P M2 → J G E nL (pc + 3) lv st M2) : J G E nL pc lv (.int a1 :: .ref (adr G 5 0) :: st) M := fun H locs ls hP hS hl => by
  have hK := X.2.2.2.2.2.1.1
  have hm := met_X5_bearBurden (l := eL E) X.2.2.2.2.2.2.1 a1 M P h
  have hR2 : 2 + 1 ≤ (eR E).frames ∧ 8 + (7 + 11) + 44 ≤ (eR E).locals := by rw [X.2.2.2.2.2.2.2.1]; exact hR
  have hC2 : eCells E + 0 ≤ (eR E).cells ∧ eSlots E + 0 ≤ (eR E).slots := by rw [X.2.2.2.2.2.2.2.1]; exact ⟨X.2.2.2.2.2.2.2.2.1, X.2.2.2.2.2.2.2.2.2⟩
  obtain ⟨q0, -, hq⟩ := wld_get (G := G) M (mw5 0 (by decide))
  exact va_callv (va_runV (C := RX5) (As := [.int a1]) (rest := st) ⟨X.1, X.2.1, X.2.2.1, X.2.2.2.1, X.2.2.2.2.1⟩ hm (cwV (ws' := lw_aw) 1 X.2.2.2.2.1 (gwV (tw (i := 609) (by decide +kernel)) (tw (i := 611) (by decide +kernel)) (tw (i := 15) (by decide +kernel)) (tw (i := 72) (by decide +kernel)) (tw (i := 612) (by decide +kernel))) rfl rfl rfl (by decide +kernel) hR2) ⟨hr_blind, va_recv hK hP (ci := 5) (q := (RX5, TX5, 16)) (fs := objF5 G 0 (M.1 5 0)) (q0 := q0) rfl hq, fun U hU hW => ⟨rfl, by rw [hU]; exact hP, KK.warm hW X.2.2.2.2.2.1⟩⟩ rfl rfl hl.1 rfl (lv_room hst) d hC2) hS (fun q _ h => h) (fun q h => h) (fun u t H1 locs1 ht hvm hw hB hz1 hk1 hS1 => k1 u hw H1 locs1 ls (by rw [← ht]; exact hB.1) hS1 hl)
/-- LayeredClaims$Year.capacityOfLayer(I)I -/
def wp_X5_capacityOfLayer (a1 : Int32) (M : Mm) (P : Int32 → Mm → Prop) : Prop := (vp_in a1 4 ∧ P ((rd M 27 0 a1.toNatClampNeg) * ((rd M 29 0 a1.toNatClampNeg) + (1 : Int32))) M)
set_option maxHeartbeats 4000000 in
set_option maxRecDepth 100000 in
theorem met_X5_capacityOfLayer {l : Launch} {G : GT} (hG : GD G) (a1 : Int32) (M : Mm) (P : Int32 → Mm → Prop) (h : wp_X5_capacityOfLayer a1 M P) : MI l G yX5_capacityOfLayer cX5_capacityOfLayer 2 (some .int) ({ frames := 0, cells := 0, slots := 0, locals := 0 } : Room) [.ref (adr G 5 0), .int a1] M P := by
  refine met_by hG (own := RX5) rfl (by decide +kernel) (Nat.le_of_ble_eq_true rfl) (fun E hE X Y => ?_)
  show J G E 2 0 [(0, .ref (adr G 5 0)), (1, .int a1)] [] M
  unfold wp_X5_capacityOfLayer at h
  refine j_aload_n X 0 dX5_capacityOfLayer_0 rfl rfl ?_
  refine jf_RX5_12 X  dX5_capacityOfLayer_1 ?_
  refine jf_RX5_169 X (by decide) dX5_capacityOfLayer_4 ?_
  refine j_iload_n X 1 dX5_capacityOfLayer_7 rfl rfl ?_
  have q1 := h.1
  replace h := h.2
  refine j_iald X _ rfl (mw27 0 (by decide)) kt27 lt27 q1 dX5_capacityOfLayer_8 ?_
  refine j_aload_n X 0 dX5_capacityOfLayer_9 rfl rfl ?_
  refine jf_RX5_12 X  dX5_capacityOfLayer_10 ?_
  refine jf_RX5_180 X (by decide) dX5_capacityOfLayer_13 ?_
  refine j_iload_n X 1 dX5_capacityOfLayer_16 rfl rfl ?_
  refine j_iald X _ rfl (mw29 0 (by decide)) kt29 lt29 q1 dX5_capacityOfLayer_17 ?_
  refine j_iconst (v := (1 : Int32)) X (by decide) dX5_capacityOfLayer_18 ?_
  refine j_iadd X dX5_capacityOfLayer_19 ?_
  refine j_imul X dX5_capacityOfLayer_20 ?_
  exact j_iret X Y dX5_capacityOfLayer_21 h
theorem jc_RX5_86 {G : GT} {E : ET} {cc : ByteArray} {nL pc : Nat} {rm : Room} {lv : List (Nat × Value)} {st : List Value} {M : Mm} (X : CX G E RX5 cc nL rm) (hR : 0 + 1 ≤ rm.frames ∧ 8 + (2 + 11) + 0 ≤ rm.locals) (hst : (st.map fun v => v.category).sum ≤ 8) (d : decode cc pc = .ok (.invokevirtual 86, 3)) {a1 : Int32} {P : Int32 → Mm → Prop} (h : wp_X5_capacityOfLayer a1 M P) (k1 : ∀ (r : Int32) (M2 : Mm), P r M2 → J G E nL (pc + 3) lv (.int r :: st) M2) : J G E nL pc lv (.int a1 :: .ref (adr G 5 0) :: st) M := fun H locs ls hP hS hl => by
  have hK := X.2.2.2.2.2.1.1
  have hm := met_X5_capacityOfLayer (l := eL E) X.2.2.2.2.2.2.1 a1 M P h
  have hR2 : 0 + 1 ≤ (eR E).frames ∧ 8 + (2 + 11) + 0 ≤ (eR E).locals := by rw [X.2.2.2.2.2.2.2.1]; exact hR
  have hC2 : eCells E + 0 ≤ (eR E).cells ∧ eSlots E + 0 ≤ (eR E).slots := by rw [X.2.2.2.2.2.2.2.1]; exact ⟨X.2.2.2.2.2.2.2.2.1, X.2.2.2.2.2.2.2.2.2⟩
  obtain ⟨q0, -, hq⟩ := wld_get (G := G) M (mw5 0 (by decide))
  exact va_calli (va_runV (C := RX5) (As := [.int a1]) (rest := st) ⟨X.1, X.2.1, X.2.2.1, X.2.2.2.1, X.2.2.2.2.1⟩ hm (cwV (ws' := lw_aw) 1 X.2.2.2.2.1 (gwV (tw (i := 573) (by decide +kernel)) (tw (i := 575) (by decide +kernel)) (tw (i := 9) (by decide +kernel)) (tw (i := 72) (by decide +kernel)) (tw (i := 576) (by decide +kernel))) rfl rfl rfl (by decide +kernel) hR2) ⟨hr_blind, va_recv hK hP (ci := 5) (q := (RX5, TX5, 16)) (fs := objF5 G 0 (M.1 5 0)) (q0 := q0) rfl hq, fun U hU hW => ⟨rfl, by rw [hU]; exact hP, KK.warm hW X.2.2.2.2.2.1⟩⟩ rfl rfl hl.1 rfl (lv_room hst) d hC2) hS (fun q _ h => h) (fun q h => h) (fun r u t H1 locs1 ht hvm hw hB hz1 hk1 hS1 => k1 r u hw H1 locs1 ls (by rw [← ht]; exact hB.1) hS1 hl)
/-- LayeredClaims$Year.deductFromGroup(II)V -/
def wp_X5_deductFromGroup (a1 : Int32) (a2 : Int32) (M : Mm) (P : Mm → Prop) : Prop := (∃ n, lq3 (fun self1 (x3 : Int32) (x4 : Int32) (M5 : Mm) => (((rd M5 0 0 0) ≤ x4 → (vp_in a2 3 ∧ (wp_X2_shareOut (if x3 < (rd M5 30 0 a2.toNatClampNeg) then x3 else (rd M5 30 0 a2.toNatClampNeg)) (rd M5 0 0 0) M5 (fun (M8 : Mm) => (∃ n, lq2 (fun self9 (x11 : Int32) (M12 : Mm) => (((rd M12 0 0 0) ≤ x11 → P M12) ∧ (¬ (rd M12 0 0 0) ≤ x11 → (vp_in x11 6 ∧ (jn (fun  (M15 : Mm) => (∀ x18 : Int32, x18 = x11 + (1 : Int32) → self9 x18 M15)) (fun J16 : Mm → Prop => ((¬ (rd M12 24 0 x11.toNatClampNeg) = a2 → J16 M12) ∧ ((rd M12 24 0 x11.toNatClampNeg) = a2 → (vp_in a1 8 ∧ (vp_in x11 24 ∧ (a1.toNatClampNeg < 8 ∧ (∀ M23 : Mm, M23 = wr M12 326 a1.toNatClampNeg x11.toNatClampNeg (rd M12 61 0 x11.toNatClampNeg) → J16 M23)))))))))))) n (0 : Int32) M8))))) ∧ (¬ (rd M5 0 0 0) ≤ x4 → (vp_in x4 6 ∧ (jn (fun (v25 : Int32) => (vp_in x4 24 ∧ (∀ M29 : Mm, M29 = wr M5 60 0 x4.toNatClampNeg v25 → (∀ x30 : Int32, x30 = (x3 + (rd M29 60 0 x4.toNatClampNeg)) → (∀ x31 : Int32, x31 = x4 + (1 : Int32) → self1 x30 x31 M29))))) (fun J26 : Int32 → Prop => ((¬ (rd M5 24 0 x4.toNatClampNeg) = a2 → J26 (0 : Int32)) ∧ ((rd M5 24 0 x4.toNatClampNeg) = a2 → (vp_in a1 8 ∧ (a1.toNatClampNeg < 8 ∧ J26 (rd M5 325 a1.toNatClampNeg x4.toNatClampNeg))))))))))) n (0 : Int32) (0 : Int32) M)
set_option maxHeartbeats 4000000 in
set_option maxRecDepth 100000 in
theorem met_X5_deductFromGroup {l : Launch} {G : GT} (hG : GD G) (a1 : Int32) (a2 : Int32) (M : Mm) (P : Mm → Prop) (h : wp_X5_deductFromGroup a1 a2 M P) : MV l G yX5_deductFromGroup cX5_deductFromGroup 5 none ({ frames := 2, cells := 0, slots := 0, locals := 50 } : Room) [.ref (adr G 5 0), .int a1, .int a2] M P := by
  refine met_by hG (own := RX5) rfl (by decide +kernel) (Nat.le_of_ble_eq_true rfl) (fun E hE X Y => ?_)
  show J G E 5 0 [(0, .ref (adr G 5 0)), (1, .int a1), (2, .int a2)] [] M
  unfold wp_X5_deductFromGroup at h
  refine j_iconst (v := (0 : Int32)) X (by decide) dX5_deductFromGroup_0 ?_
  refine j_istore_n X [(3, .int (0 : Int32)), (0, .ref (adr G 5 0)), (1, .int a1), (2, .int a2)] dX5_deductFromGroup_1 rfl (by decide) rfl ?_
  refine j_iconst (v := (0 : Int32)) X (by decide) dX5_deductFromGroup_2 ?_
  refine j_istore X [(4, .int (0 : Int32)), (3, .int (0 : Int32)), (0, .ref (adr G 5 0)), (1, .int a1), (2, .int a2)] dX5_deductFromGroup_3 (by decide) rfl ?_
  refine j_sub [2, 3, 4, 1, 0] rfl ?_
  refine lq3_s h (fun (x3 : Int32) (x4 : Int32) (M5 : Mm) => J G E 5 5 [(0, .ref (adr G 5 0)), (1, .int a1), (2, .int a2), (3, .int x3), (4, .int x4)] [] M5) (fun self1 ih2 x3 x4 M5 h => ?_) id
  refine j_iload X 4 dX5_deductFromGroup_5 rfl ?_
  refine j_aload_n X 0 dX5_deductFromGroup_7 rfl rfl ?_
  refine jf_RX5_12 X  dX5_deductFromGroup_8 ?_
  refine jf_RX5_76 X (by decide) dX5_deductFromGroup_11 ?_
  refine j_icmp_ge X 73 dX5_deductFromGroup_14 (by decide) (fun c6 => ?_) (fun c6 => ?_)
  · replace h := h.1 c6
    refine j_aload_n X 0 dX5_deductFromGroup_73 rfl rfl ?_
    refine jf_RX5_66 X  dX5_deductFromGroup_74 ?_
    refine j_aload_n X 0 dX5_deductFromGroup_77 rfl rfl ?_
    refine jf_RX5_12 X  dX5_deductFromGroup_78 ?_
    refine jf_RX5_145 X (by decide) dX5_deductFromGroup_81 ?_
    refine j_iload_n X 2 dX5_deductFromGroup_84 rfl rfl ?_
    have q7 := h.1
    replace h := h.2
    refine j_iald X _ rfl (mw30 0 (by decide)) kt30 lt30 q7 dX5_deductFromGroup_85 ?_
    refine j_iload_n X 3 dX5_deductFromGroup_86 rfl rfl ?_
    refine j_min X (tw (i := 581) (by decide +kernel)) (Nat.le_of_ble_eq_true rfl) (Nat.le_of_ble_eq_true rfl) dX5_deductFromGroup_87 ?_
    refine j_aload_n X 0 dX5_deductFromGroup_90 rfl rfl ?_
    refine jf_RX5_12 X  dX5_deductFromGroup_91 ?_
    refine jf_RX5_76 X (by decide) dX5_deductFromGroup_94 ?_
    refine jc_RX5_148 X ⟨Nat.le_of_ble_eq_true rfl, Nat.le_of_ble_eq_true rfl⟩ (Nat.le_of_ble_eq_true rfl) dX5_deductFromGroup_97 h (fun M8 h => ?_)
    refine j_iconst (v := (0 : Int32)) X (by decide) dX5_deductFromGroup_100 ?_
    refine j_istore X [(4, .int (0 : Int32)), (0, .ref (adr G 5 0)), (1, .int a1), (2, .int a2), (3, .int x3)] dX5_deductFromGroup_101 (by decide) rfl ?_
    refine j_sub [1, 2, 3, 0] rfl ?_
    refine lq2_s h (fun (x11 : Int32) (M12 : Mm) => J G E 5 103 [(0, .ref (adr G 5 0)), (1, .int a1), (2, .int a2), (4, .int x11)] [] M12) (fun self9 ih10 x11 M12 h => ?_) id
    refine j_iload X 3 dX5_deductFromGroup_103 rfl ?_
    refine j_aload_n X 0 dX5_deductFromGroup_105 rfl rfl ?_
    refine jf_RX5_12 X  dX5_deductFromGroup_106 ?_
    refine jf_RX5_76 X (by decide) dX5_deductFromGroup_109 ?_
    refine j_icmp_ge X 154 dX5_deductFromGroup_112 (by decide) (fun c13 => ?_) (fun c13 => ?_)
    · replace h := h.1 c13
      exact j_vret X Y dX5_deductFromGroup_154 h
    · replace h := h.2 c13
      refine j_aload_n X 0 dX5_deductFromGroup_115 rfl rfl ?_
      refine jf_RX5_12 X  dX5_deductFromGroup_116 ?_
      refine jf_RX5_142 X (by decide) dX5_deductFromGroup_119 ?_
      refine j_iload X 3 dX5_deductFromGroup_122 rfl ?_
      have q14 := h.1
      replace h := h.2
      refine j_iald X _ rfl (mw24 0 (by decide)) kt24 lt24 q14 dX5_deductFromGroup_124 ?_
      refine j_iload_n X 2 dX5_deductFromGroup_125 rfl rfl ?_
      refine jn1_s h (fun  (M15 : Mm) => J G E 5 148 [(0, .ref (adr G 5 0)), (1, .int a1), (2, .int a2), (4, .int x11)] [] M15) (fun M15 h => ?_) (fun J16 hj17 h => ?_)
      · obtain ⟨x18, ex18⟩ : ∃ z : Int32, z = x11 + (1 : Int32) := ⟨_, rfl⟩
        replace h := h x18 ex18
        refine j_iinc (v := x18) X 3 [(4, .int x18), (0, .ref (adr G 5 0)), (1, .int a1), (2, .int a2)] dX5_deductFromGroup_148 rfl (by rw [ex18]; rfl) (by decide) rfl ?_
        refine j_goto X 103 dX5_deductFromGroup_151 (by decide) ?_
        refine j_sub [1, 2, 3, 0] rfl ?_
        exact ih10 x18 M15 h
      · refine j_icmp_ne X 148 dX5_deductFromGroup_126 (by decide) (fun c19 => ?_) (fun c19 => ?_)
        · replace h := h.1 c19
          refine j_sub [0, 1, 2, 3] rfl ?_
          exact hj17 M12 h
        · replace h := h.2 c19
          refine j_aload_n X 0 dX5_deductFromGroup_129 rfl rfl ?_
          refine jf_RX5_36 X  dX5_deductFromGroup_130 ?_
          refine j_iload_n X 1 dX5_deductFromGroup_133 rfl rfl ?_
          have q20 := h.1
          replace h := h.2
          refine j_aaldI X (mw126 0 (by decide)) kt126 lt126 q20 dX5_deductFromGroup_134 ?_
          refine j_iload X 3 dX5_deductFromGroup_135 rfl ?_
          refine j_aload_n X 0 dX5_deductFromGroup_137 rfl rfl ?_
          refine jf_RX5_66 X  dX5_deductFromGroup_138 ?_
          refine jf_RX5_151 X  dX5_deductFromGroup_141 ?_
          refine j_iload X 3 dX5_deductFromGroup_144 rfl ?_
          have q21 := h.1
          replace h := h.2
          refine j_iald X _ rfl (mw61 0 (by decide)) kt61 lt61 q21 dX5_deductFromGroup_146 ?_
          have q22 := h.1
          replace h := h.2
          refine j_iast X _ rfl (mw326 a1.toNatClampNeg q22) kt326 lt326 q14 dX5_deductFromGroup_147 ?_
          refine j_memo (fun M23 eM23 => ?_)
          replace h := h M23 eM23
          refine j_sub [0, 1, 2, 3] rfl ?_
          exact hj17 M23 h
  · replace h := h.2 c6
    refine j_aload_n X 0 dX5_deductFromGroup_17 rfl rfl ?_
    refine jf_RX5_66 X  dX5_deductFromGroup_18 ?_
    refine jf_RX5_139 X  dX5_deductFromGroup_21 ?_
    refine j_iload X 4 dX5_deductFromGroup_24 rfl ?_
    refine j_aload_n X 0 dX5_deductFromGroup_26 rfl rfl ?_
    refine jf_RX5_12 X  dX5_deductFromGroup_27 ?_
    refine jf_RX5_142 X (by decide) dX5_deductFromGroup_30 ?_
    refine j_iload X 4 dX5_deductFromGroup_33 rfl ?_
    have q24 := h.1
    replace h := h.2
    refine j_iald X _ rfl (mw24 0 (by decide)) kt24 lt24 q24 dX5_deductFromGroup_35 ?_
    refine j_iload_n X 2 dX5_deductFromGroup_36 rfl rfl ?_
    refine jn1_s h (fun (v25 : Int32) => J G E 5 53 [(0, .ref (adr G 5 0)), (1, .int a1), (2, .int a2), (3, .int x3), (4, .int x4)] [.int v25, .int x4, .ref (adr G 60 0)] M5) (fun v25 h => ?_) (fun J26 hj27 h => ?_)
    · have q28 := h.1
      replace h := h.2
      refine j_iast X _ rfl (mw60 0 (by decide)) kt60 lt60 q28 dX5_deductFromGroup_53 ?_
      refine j_memo (fun M29 eM29 => ?_)
      replace h := h M29 eM29
      refine j_iload_n X 3 dX5_deductFromGroup_54 rfl rfl ?_
      refine j_aload_n X 0 dX5_deductFromGroup_55 rfl rfl ?_
      refine jf_RX5_66 X  dX5_deductFromGroup_56 ?_
      refine jf_RX5_139 X  dX5_deductFromGroup_59 ?_
      refine j_iload X 4 dX5_deductFromGroup_62 rfl ?_
      refine j_iald X _ rfl (mw60 0 (by decide)) kt60 lt60 q28 dX5_deductFromGroup_64 ?_
      refine j_iadd X dX5_deductFromGroup_65 ?_
      refine j_topi (fun x30 ex30 => ?_)
      replace h := h x30 ex30
      refine j_istore_n X [(3, .int x30), (0, .ref (adr G 5 0)), (1, .int a1), (2, .int a2), (4, .int x4)] dX5_deductFromGroup_66 rfl (by decide) rfl ?_
      obtain ⟨x31, ex31⟩ : ∃ z : Int32, z = x4 + (1 : Int32) := ⟨_, rfl⟩
      replace h := h x31 ex31
      refine j_iinc (v := x31) X 4 [(4, .int x31), (3, .int x30), (0, .ref (adr G 5 0)), (1, .int a1), (2, .int a2)] dX5_deductFromGroup_67 rfl (by rw [ex31]; rfl) (by decide) rfl ?_
      refine j_goto X 5 dX5_deductFromGroup_70 (by decide) ?_
      refine j_sub [2, 3, 4, 1, 0] rfl ?_
      exact ih2 x30 x31 M29 h
    · refine j_icmp_ne X 52 dX5_deductFromGroup_37 (by decide) (fun c32 => ?_) (fun c32 => ?_)
      · replace h := h.1 c32
        refine j_iconst (v := (0 : Int32)) X (by decide) dX5_deductFromGroup_52 ?_
        refine j_sub [0, 1, 2, 3, 4] rfl ?_
        exact hj27 (0 : Int32) h
      · replace h := h.2 c32
        refine j_aload_n X 0 dX5_deductFromGroup_40 rfl rfl ?_
        refine jf_RX5_33 X  dX5_deductFromGroup_41 ?_
        refine j_iload_n X 1 dX5_deductFromGroup_44 rfl rfl ?_
        have q33 := h.1
        replace h := h.2
        refine j_aaldI X (mw125 0 (by decide)) kt125 lt125 q33 dX5_deductFromGroup_45 ?_
        refine j_iload X 4 dX5_deductFromGroup_46 rfl ?_
        have q34 := h.1
        replace h := h.2
        refine j_iald X _ rfl (mw325 a1.toNatClampNeg q34) kt325 lt325 q24 dX5_deductFromGroup_48 ?_
        refine j_goto X 53 dX5_deductFromGroup_49 (by decide) ?_
        refine j_sub [0, 1, 2, 3, 4] rfl ?_
        exact hj27 (rd M5 325 a1.toNatClampNeg x4.toNatClampNeg) h
theorem jc_RX5_97 {G : GT} {E : ET} {cc : ByteArray} {nL pc : Nat} {rm : Room} {lv : List (Nat × Value)} {st : List Value} {M : Mm} (X : CX G E RX5 cc nL rm) (hR : 2 + 1 ≤ rm.frames ∧ 8 + (5 + 11) + 50 ≤ rm.locals) (hst : (st.map fun v => v.category).sum ≤ 8) (d : decode cc pc = .ok (.invokevirtual 97, 3)) {a1 : Int32} {a2 : Int32} {P : Mm → Prop} (h : wp_X5_deductFromGroup a1 a2 M P) (k1 : ∀ M2 : Mm, P M2 → J G E nL (pc + 3) lv st M2) : J G E nL pc lv (.int a2 :: .int a1 :: .ref (adr G 5 0) :: st) M := fun H locs ls hP hS hl => by
  have hK := X.2.2.2.2.2.1.1
  have hm := met_X5_deductFromGroup (l := eL E) X.2.2.2.2.2.2.1 a1 a2 M P h
  have hR2 : 2 + 1 ≤ (eR E).frames ∧ 8 + (5 + 11) + 50 ≤ (eR E).locals := by rw [X.2.2.2.2.2.2.2.1]; exact hR
  have hC2 : eCells E + 0 ≤ (eR E).cells ∧ eSlots E + 0 ≤ (eR E).slots := by rw [X.2.2.2.2.2.2.2.1]; exact ⟨X.2.2.2.2.2.2.2.2.1, X.2.2.2.2.2.2.2.2.2⟩
  obtain ⟨q0, -, hq⟩ := wld_get (G := G) M (mw5 0 (by decide))
  exact va_callv (va_runV (C := RX5) (As := [.int a1, .int a2]) (rest := st) ⟨X.1, X.2.1, X.2.2.1, X.2.2.2.1, X.2.2.2.2.1⟩ hm (cwV (ws' := lw_aw) 2 X.2.2.2.2.1 (gwV (tw (i := 582) (by decide +kernel)) (tw (i := 584) (by decide +kernel)) (tw (i := 11) (by decide +kernel)) (tw (i := 72) (by decide +kernel)) (tw (i := 585) (by decide +kernel))) rfl rfl rfl (by decide +kernel) hR2) ⟨hr_blind, va_recv hK hP (ci := 5) (q := (RX5, TX5, 16)) (fs := objF5 G 0 (M.1 5 0)) (q0 := q0) rfl hq, fun U hU hW => ⟨rfl, by rw [hU]; exact hP, KK.warm hW X.2.2.2.2.2.1⟩⟩ rfl rfl hl.1 rfl (lv_room hst) d hC2) hS (fun q _ h => h) (fun q h => h) (fun u t H1 locs1 ht hvm hw hB hz1 hk1 hS1 => k1 u hw H1 locs1 ls (by rw [← ht]; exact hB.1) hS1 hl)
/-- LayeredClaims$Year.limitLosses(I)V -/
def wp_X5_limitLosses (a1 : Int32) (M : Mm) (P : Mm → Prop) : Prop := (∃ n, lq2 (fun self1 (x3 : Int32) (M4 : Mm) => (((rd M4 0 0 0) ≤ x3 → P M4) ∧ (¬ (rd M4 0 0 0) ≤ x3 → (vp_in a1 8 ∧ (a1.toNatClampNeg < 8 ∧ (vp_in x3 6 ∧ (∀ M9 : Mm, M9 = wr M4 325 a1.toNatClampNeg x3.toNatClampNeg (if (rd M4 21 0 x3.toNatClampNeg) < (rd M4 324 a1.toNatClampNeg x3.toNatClampNeg) then (rd M4 21 0 x3.toNatClampNeg) else (rd M4 324 a1.toNatClampNeg x3.toNatClampNeg)) → (∀ x10 : Int32, x10 = x3 + (1 : Int32) → self1 x10 M9)))))))) n (0 : Int32) M)
set_option maxHeartbeats 4000000 in
set_option maxRecDepth 100000 in
theorem met_X5_limitLosses {l : Launch} {G : GT} (hG : GD G) (a1 : Int32) (M : Mm) (P : Mm → Prop) (h : wp_X5_limitLosses a1 M P) : MV l G yX5_limitLosses cX5_limitLosses 3 none ({ frames := 1, cells := 0, slots := 0, locals := 21 } : Room) [.ref (adr G 5 0), .int a1] M P := by
  refine met_by hG (own := RX5) rfl (by decide +kernel) (Nat.le_of_ble_eq_true rfl) (fun E hE X Y => ?_)
  show J G E 3 0 [(0, .ref (adr G 5 0)), (1, .int a1)] [] M
  unfold wp_X5_limitLosses at h
  refine j_iconst (v := (0 : Int32)) X (by decide) dX5_limitLosses_0 ?_
  refine j_istore_n X [(2, .int (0 : Int32)), (0, .ref (adr G 5 0)), (1, .int a1)] dX5_limitLosses_1 rfl (by decide) rfl ?_
  refine j_sub [1, 2, 0] rfl ?_
  refine lq2_s h (fun (x3 : Int32) (M4 : Mm) => J G E 3 2 [(0, .ref (adr G 5 0)), (1, .int a1), (2, .int x3)] [] M4) (fun self1 ih2 x3 M4 h => ?_) id
  refine j_iload_n X 2 dX5_limitLosses_2 rfl rfl ?_
  refine j_aload_n X 0 dX5_limitLosses_3 rfl rfl ?_
  refine jf_RX5_12 X  dX5_limitLosses_4 ?_
  refine jf_RX5_76 X (by decide) dX5_limitLosses_7 ?_
  refine j_icmp_ge X 47 dX5_limitLosses_10 (by decide) (fun c5 => ?_) (fun c5 => ?_)
  · replace h := h.1 c5
    exact j_vret X Y dX5_limitLosses_47 h
  · replace h := h.2 c5
    refine j_aload_n X 0 dX5_limitLosses_13 rfl rfl ?_
    refine jf_RX5_33 X  dX5_limitLosses_14 ?_
    refine j_iload_n X 1 dX5_limitLosses_17 rfl rfl ?_
    have q6 := h.1
    replace h := h.2
    refine j_aaldI X (mw125 0 (by decide)) kt125 lt125 q6 dX5_limitLosses_18 ?_
    refine j_iload_n X 2 dX5_limitLosses_19 rfl rfl ?_
    refine j_aload_n X 0 dX5_limitLosses_20 rfl rfl ?_
    refine jf_RX5_30 X  dX5_limitLosses_21 ?_
    refine j_iload_n X 1 dX5_limitLosses_24 rfl rfl ?_
    refine j_aaldI X (mw124 0 (by decide)) kt124 lt124 q6 dX5_limitLosses_25 ?_
    refine j_iload_n X 2 dX5_limitLosses_26 rfl rfl ?_
    have q7 := h.1
    replace h := h.2
    have q8 := h.1
    replace h := h.2
    refine j_iald X _ rfl (mw324 a1.toNatClampNeg q7) kt324 lt324 q8 dX5_limitLosses_27 ?_
    refine j_aload_n X 0 dX5_limitLosses_28 rfl rfl ?_
    refine jf_RX5_12 X  dX5_limitLosses_29 ?_
    refine jf_RX5_130 X (by decide) dX5_limitLosses_32 ?_
    refine j_iload_n X 2 dX5_limitLosses_35 rfl rfl ?_
    refine j_iald X _ rfl (mw21 0 (by decide)) kt21 lt21 q8 dX5_limitLosses_36 ?_
    refine j_min X (tw (i := 581) (by decide +kernel)) (Nat.le_of_ble_eq_true rfl) (Nat.le_of_ble_eq_true rfl) dX5_limitLosses_37 ?_
    refine j_iast X _ rfl (mw325 a1.toNatClampNeg q7) kt325 lt325 q8 dX5_limitLosses_40 ?_
    refine j_memo (fun M9 eM9 => ?_)
    replace h := h M9 eM9
    obtain ⟨x10, ex10⟩ : ∃ z : Int32, z = x3 + (1 : Int32) := ⟨_, rfl⟩
    replace h := h x10 ex10
    refine j_iinc (v := x10) X 2 [(2, .int x10), (0, .ref (adr G 5 0)), (1, .int a1)] dX5_limitLosses_41 rfl (by rw [ex10]; rfl) (by decide) rfl ?_
    refine j_goto X 2 dX5_limitLosses_44 (by decide) ?_
    refine j_sub [1, 2, 0] rfl ?_
    exact ih2 x10 M9 h
theorem jc_RX5_93 {G : GT} {E : ET} {cc : ByteArray} {nL pc : Nat} {rm : Room} {lv : List (Nat × Value)} {st : List Value} {M : Mm} (X : CX G E RX5 cc nL rm) (hR : 1 + 1 ≤ rm.frames ∧ 8 + (3 + 11) + 21 ≤ rm.locals) (hst : (st.map fun v => v.category).sum ≤ 8) (d : decode cc pc = .ok (.invokevirtual 93, 3)) {a1 : Int32} {P : Mm → Prop} (h : wp_X5_limitLosses a1 M P) (k1 : ∀ M2 : Mm, P M2 → J G E nL (pc + 3) lv st M2) : J G E nL pc lv (.int a1 :: .ref (adr G 5 0) :: st) M := fun H locs ls hP hS hl => by
  have hK := X.2.2.2.2.2.1.1
  have hm := met_X5_limitLosses (l := eL E) X.2.2.2.2.2.2.1 a1 M P h
  have hR2 : 1 + 1 ≤ (eR E).frames ∧ 8 + (3 + 11) + 21 ≤ (eR E).locals := by rw [X.2.2.2.2.2.2.2.1]; exact hR
  have hC2 : eCells E + 0 ≤ (eR E).cells ∧ eSlots E + 0 ≤ (eR E).slots := by rw [X.2.2.2.2.2.2.2.1]; exact ⟨X.2.2.2.2.2.2.2.2.1, X.2.2.2.2.2.2.2.2.2⟩
  obtain ⟨q0, -, hq⟩ := wld_get (G := G) M (mw5 0 (by decide))
  exact va_callv (va_runV (C := RX5) (As := [.int a1]) (rest := st) ⟨X.1, X.2.1, X.2.2.1, X.2.2.2.1, X.2.2.2.2.1⟩ hm (cwV (ws' := lw_aw) 1 X.2.2.2.2.1 (gwV (tw (i := 577) (by decide +kernel)) (tw (i := 579) (by decide +kernel)) (tw (i := 10) (by decide +kernel)) (tw (i := 72) (by decide +kernel)) (tw (i := 580) (by decide +kernel))) rfl rfl rfl (by decide +kernel) hR2) ⟨hr_blind, va_recv hK hP (ci := 5) (q := (RX5, TX5, 16)) (fs := objF5 G 0 (M.1 5 0)) (q0 := q0) rfl hq, fun U hU hW => ⟨rfl, by rw [hU]; exact hP, KK.warm hW X.2.2.2.2.2.1⟩⟩ rfl rfl hl.1 rfl (lv_room hst) d hC2) hS (fun q _ h => h) (fun q h => h) (fun u t H1 locs1 ht hvm hw hB hz1 hk1 hS1 => k1 u hw H1 locs1 ls (by rw [← ht]; exact hB.1) hS1 hl)
/-- LayeredClaims$Year.orderEvents()V -/
def wp_X5_orderEvents  (M : Mm) (P : Mm → Prop) : Prop := (∃ n, lq2 (fun self1 (x3 : Int32) (M4 : Mm) => (((rd M4 0 0 12) ≤ x3 → P M4) ∧ (¬ (rd M4 0 0 12) ≤ x3 → (∃ n, lq2 (fun self6 (x8 : Int32) (x9 : Int32) => (((rd M4 0 0 12) ≤ x9 → (vp_in x3 8 ∧ (∀ M12 : Mm, M12 = wr M4 122 0 x3.toNatClampNeg x8 → (vp_in x8 8 ∧ (∀ M14 : Mm, M14 = wr M12 121 0 x8.toNatClampNeg x3 → (∀ x15 : Int32, x15 = x3 + (1 : Int32) → self1 x15 M14)))))) ∧ (¬ (rd M4 0 0 12) ≤ x9 → (vp_in x9 8 ∧ (vp_in x3 8 ∧ (∀ x18 : Int32, x18 = ((rd M4 33 0 x9.toNatClampNeg) - (rd M4 33 0 x3.toNatClampNeg)) → (jn (fun (x19 : Int32) => (∀ x22 : Int32, x22 = x9 + (1 : Int32) → self6 x19 x22)) (fun J20 : Int32 → Prop => (jn (fun (z23 : Int32) => (∀ x26 : Int32, x26 = x8 + (1 : Int32) → J20 x26)) (fun J24 : Int32 → Prop => ((x18 < 0 → J24 (0 : Int32)) ∧ (¬ x18 < 0 → ((¬ x18 = 0 → J20 x8) ∧ (x18 = 0 → ((x3 ≤ x9 → J20 x8) ∧ (¬ x3 ≤ x9 → J24 (0 : Int32))))))))))))))))) n (0 : Int32) (0 : Int32))))) n (0 : Int32) M)
set_option maxHeartbeats 4000000 in
set_option maxRecDepth 100000 in
theorem met_X5_orderEvents {l : Launch} {G : GT} (hG : GD G)  (M : Mm) (P : Mm → Prop) (h : wp_X5_orderEvents  M P) : MV l G yX5_orderEvents cX5_orderEvents 5 none ({ frames := 0, cells := 0, slots := 0, locals := 0 } : Room) [.ref (adr G 5 0)] M P := by
  refine met_by hG (own := RX5) rfl (by decide +kernel) (Nat.le_of_ble_eq_true rfl) (fun E hE X Y => ?_)
  show J G E 5 0 [(0, .ref (adr G 5 0))] [] M
  unfold wp_X5_orderEvents at h
  refine j_iconst (v := (0 : Int32)) X (by decide) dX5_orderEvents_0 ?_
  refine j_istore_n X [(1, .int (0 : Int32)), (0, .ref (adr G 5 0))] dX5_orderEvents_1 rfl (by decide) rfl ?_
  refine j_sub [1, 0] rfl ?_
  refine lq2_s h (fun (x3 : Int32) (M4 : Mm) => J G E 5 2 [(0, .ref (adr G 5 0)), (1, .int x3)] [] M4) (fun self1 ih2 x3 M4 h => ?_) id
  refine j_iload_n X 1 dX5_orderEvents_2 rfl rfl ?_
  refine j_aload_n X 0 dX5_orderEvents_3 rfl rfl ?_
  refine jf_RX5_12 X  dX5_orderEvents_4 ?_
  refine jf_RX5_90 X (by decide) dX5_orderEvents_7 ?_
  refine j_icmp_ge X 93 dX5_orderEvents_10 (by decide) (fun c5 => ?_) (fun c5 => ?_)
  · replace h := h.1 c5
    exact j_vret X Y dX5_orderEvents_93 h
  · replace h := h.2 c5
    refine j_iconst (v := (0 : Int32)) X (by decide) dX5_orderEvents_13 ?_
    refine j_istore_n X [(2, .int (0 : Int32)), (0, .ref (adr G 5 0)), (1, .int x3)] dX5_orderEvents_14 rfl (by decide) rfl ?_
    refine j_iconst (v := (0 : Int32)) X (by decide) dX5_orderEvents_15 ?_
    refine j_istore_n X [(3, .int (0 : Int32)), (2, .int (0 : Int32)), (0, .ref (adr G 5 0)), (1, .int x3)] dX5_orderEvents_16 rfl (by decide) rfl ?_
    refine j_sub [2, 3, 1, 0] rfl ?_
    refine lq2_s h (fun (x8 : Int32) (x9 : Int32) => J G E 5 17 [(0, .ref (adr G 5 0)), (1, .int x3), (2, .int x8), (3, .int x9)] [] M4) (fun self6 ih7 x8 x9 h => ?_) id
    refine j_iload_n X 3 dX5_orderEvents_17 rfl rfl ?_
    refine j_aload_n X 0 dX5_orderEvents_18 rfl rfl ?_
    refine jf_RX5_12 X  dX5_orderEvents_19 ?_
    refine jf_RX5_90 X (by decide) dX5_orderEvents_22 ?_
    refine j_icmp_ge X 73 dX5_orderEvents_25 (by decide) (fun c10 => ?_) (fun c10 => ?_)
    · replace h := h.1 c10
      refine j_aload_n X 0 dX5_orderEvents_73 rfl rfl ?_
      refine jf_RX5_22 X  dX5_orderEvents_74 ?_
      refine j_iload_n X 1 dX5_orderEvents_77 rfl rfl ?_
      refine j_iload_n X 2 dX5_orderEvents_78 rfl rfl ?_
      have q11 := h.1
      replace h := h.2
      refine j_iast X _ rfl (mw122 0 (by decide)) kt122 lt122 q11 dX5_orderEvents_79 ?_
      refine j_memo (fun M12 eM12 => ?_)
      replace h := h M12 eM12
      refine j_aload_n X 0 dX5_orderEvents_80 rfl rfl ?_
      refine jf_RX5_18 X  dX5_orderEvents_81 ?_
      refine j_iload_n X 2 dX5_orderEvents_84 rfl rfl ?_
      refine j_iload_n X 1 dX5_orderEvents_85 rfl rfl ?_
      have q13 := h.1
      replace h := h.2
      refine j_iast X _ rfl (mw121 0 (by decide)) kt121 lt121 q13 dX5_orderEvents_86 ?_
      refine j_memo (fun M14 eM14 => ?_)
      replace h := h M14 eM14
      obtain ⟨x15, ex15⟩ : ∃ z : Int32, z = x3 + (1 : Int32) := ⟨_, rfl⟩
      replace h := h x15 ex15
      refine j_iinc (v := x15) X 1 [(1, .int x15), (0, .ref (adr G 5 0)), (2, .int x8), (3, .int x9)] dX5_orderEvents_87 rfl (by rw [ex15]; rfl) (by decide) rfl ?_
      refine j_goto X 2 dX5_orderEvents_90 (by decide) ?_
      refine j_sub [1, 0] rfl ?_
      exact ih2 x15 M14 h
    · replace h := h.2 c10
      refine j_aload_n X 0 dX5_orderEvents_28 rfl rfl ?_
      refine jf_RX5_12 X  dX5_orderEvents_29 ?_
      refine jf_RX5_107 X (by decide) dX5_orderEvents_32 ?_
      refine j_iload_n X 3 dX5_orderEvents_35 rfl rfl ?_
      have q16 := h.1
      replace h := h.2
      refine j_iald X _ rfl (mw33 0 (by decide)) kt33 lt33 q16 dX5_orderEvents_36 ?_
      refine j_aload_n X 0 dX5_orderEvents_37 rfl rfl ?_
      refine jf_RX5_12 X  dX5_orderEvents_38 ?_
      refine jf_RX5_107 X (by decide) dX5_orderEvents_41 ?_
      refine j_iload_n X 1 dX5_orderEvents_44 rfl rfl ?_
      have q17 := h.1
      replace h := h.2
      refine j_iald X _ rfl (mw33 0 (by decide)) kt33 lt33 q17 dX5_orderEvents_45 ?_
      refine j_isub X dX5_orderEvents_46 ?_
      refine j_topi (fun x18 ex18 => ?_)
      replace h := h x18 ex18
      refine j_istore X [(4, .int x18), (0, .ref (adr G 5 0)), (1, .int x3), (2, .int x8), (3, .int x9)] dX5_orderEvents_47 (by decide) rfl ?_
      refine j_iload X 0 dX5_orderEvents_49 rfl ?_
      refine jn1_s h (fun (x19 : Int32) => J G E 5 67 [(0, .ref (adr G 5 0)), (1, .int x3), (2, .int x19), (3, .int x9)] [] M4) (fun x19 h => ?_) (fun J20 hj21 h => ?_)
      · obtain ⟨x22, ex22⟩ : ∃ z : Int32, z = x9 + (1 : Int32) := ⟨_, rfl⟩
        replace h := h x22 ex22
        refine j_iinc (v := x22) X 3 [(3, .int x22), (0, .ref (adr G 5 0)), (1, .int x3), (2, .int x19)] dX5_orderEvents_67 rfl (by rw [ex22]; rfl) (by decide) rfl ?_
        refine j_goto X 17 dX5_orderEvents_70 (by decide) ?_
        refine j_sub [1, 2, 3, 0] rfl ?_
        exact ih7 x19 x22 h
      · refine jn1_s h (fun (z23 : Int32) => J G E 5 64 [(0, .ref (adr G 5 0)), (1, .int x3), (2, .int x8), (3, .int x9)] [] M4) (fun z23 h => ?_) (fun J24 hj25 h => ?_)
        · obtain ⟨x26, ex26⟩ : ∃ z : Int32, z = x8 + (1 : Int32) := ⟨_, rfl⟩
          replace h := h x26 ex26
          refine j_iinc (v := x26) X 2 [(2, .int x26), (0, .ref (adr G 5 0)), (1, .int x3), (3, .int x9)] dX5_orderEvents_64 rfl (by rw [ex26]; rfl) (by decide) rfl ?_
          refine j_sub [1, 2, 0, 3] rfl ?_
          exact hj21 x26 h
        · refine j_if_lt X 64 dX5_orderEvents_51 (by decide) (fun c27 => ?_) (fun c27 => ?_)
          · replace h := h.1 c27
            refine j_sub [1, 2, 3, 4] rfl ?_
            exact hj25 (0 : Int32) h
          · replace h := h.2 c27
            refine j_iload X 0 dX5_orderEvents_54 rfl ?_
            refine j_if_ne X 67 dX5_orderEvents_56 (by decide) (fun c28 => ?_) (fun c28 => ?_)
            · replace h := h.1 c28
              refine j_sub [1, 2, 3, 4] rfl ?_
              exact hj21 x8 h
            · replace h := h.2 c28
              refine j_iload_n X 4 dX5_orderEvents_59 rfl rfl ?_
              refine j_iload_n X 2 dX5_orderEvents_60 rfl rfl ?_
              refine j_icmp_ge X 67 dX5_orderEvents_61 (by decide) (fun c29 => ?_) (fun c29 => ?_)
              · replace h := h.1 c29
                refine j_sub [1, 2, 3, 4] rfl ?_
                exact hj21 x8 h
              · replace h := h.2 c29
                refine j_sub [1, 2, 3, 4] rfl ?_
                exact hj25 (0 : Int32) h
theorem jc_RX5_70 {G : GT} {E : ET} {cc : ByteArray} {nL pc : Nat} {rm : Room} {lv : List (Nat × Value)} {st : List Value} {M : Mm} (X : CX G E RX5 cc nL rm) (hR : 0 + 1 ≤ rm.frames ∧ 8 + (5 + 11) + 0 ≤ rm.locals) (hst : (st.map fun v => v.category).sum ≤ 8) (d : decode cc pc = .ok (.invokevirtual 70, 3))  {P : Mm → Prop} (h : wp_X5_orderEvents  M P) (k1 : ∀ M2 : Mm, P M2 → J G E nL (pc + 3) lv st M2) : J G E nL pc lv (.ref (adr G 5 0) :: st) M := fun H locs ls hP hS hl => by
  have hK := X.2.2.2.2.2.1.1
  have hm := met_X5_orderEvents (l := eL E) X.2.2.2.2.2.2.1  M P h
  have hR2 : 0 + 1 ≤ (eR E).frames ∧ 8 + (5 + 11) + 0 ≤ (eR E).locals := by rw [X.2.2.2.2.2.2.2.1]; exact hR
  have hC2 : eCells E + 0 ≤ (eR E).cells ∧ eSlots E + 0 ≤ (eR E).slots := by rw [X.2.2.2.2.2.2.2.1]; exact ⟨X.2.2.2.2.2.2.2.2.1, X.2.2.2.2.2.2.2.2.2⟩
  obtain ⟨q0, -, hq⟩ := wld_get (G := G) M (mw5 0 (by decide))
  exact va_callv (va_runV (C := RX5) (As := []) (rest := st) ⟨X.1, X.2.1, X.2.2.1, X.2.2.2.1, X.2.2.2.2.1⟩ hm (cwV (ws' := lw_aw) 0 X.2.2.2.2.1 (gwV (tw (i := 560) (by decide +kernel)) (tw (i := 562) (by decide +kernel)) (tw (i := 6) (by decide +kernel)) (tw (i := 72) (by decide +kernel)) (tw (i := 563) (by decide +kernel))) rfl rfl rfl (by decide +kernel) hR2) ⟨hr_blind, va_recv hK hP (ci := 5) (q := (RX5, TX5, 16)) (fs := objF5 G 0 (M.1 5 0)) (q0 := q0) rfl hq, fun U hU hW => ⟨rfl, by rw [hU]; exact hP, KK.warm hW X.2.2.2.2.2.1⟩⟩ rfl rfl hl.1 rfl (lv_room hst) d hC2) hS (fun q _ h => h) (fun q h => h) (fun u t H1 locs1 ht hvm hw hB hz1 hk1 hS1 => k1 u hw H1 locs1 ls (by rw [← ht]; exact hB.1) hS1 hl)
/-- LayeredClaims$Year.dueFromCover(II)I -/
def wp_X5_dueFromCover (a1 : Int32) (a2 : Int32) (M : Mm) (P : Int32 → Mm → Prop) : Prop := (vp_in a1 8 ∧ (a1.toNatClampNeg < 8 ∧ (vp_in a2 6 ∧ P ((rd M 325 a1.toNatClampNeg a2.toNatClampNeg) - (rd M 326 a1.toNatClampNeg a2.toNatClampNeg)) M)))
set_option maxHeartbeats 4000000 in
set_option maxRecDepth 100000 in
theorem met_X5_dueFromCover {l : Launch} {G : GT} (hG : GD G) (a1 : Int32) (a2 : Int32) (M : Mm) (P : Int32 → Mm → Prop) (h : wp_X5_dueFromCover a1 a2 M P) : MI l G yX5_dueFromCover cX5_dueFromCover 3 (some .int) ({ frames := 0, cells := 0, slots := 0, locals := 0 } : Room) [.ref (adr G 5 0), .int a1, .int a2] M P := by
  refine met_by hG (own := RX5) rfl (by decide +kernel) (Nat.le_of_ble_eq_true rfl) (fun E hE X Y => ?_)
  show J G E 3 0 [(0, .ref (adr G 5 0)), (1, .int a1), (2, .int a2)] [] M
  unfold wp_X5_dueFromCover at h
  refine j_aload_n X 0 dX5_dueFromCover_0 rfl rfl ?_
  refine jf_RX5_33 X  dX5_dueFromCover_1 ?_
  refine j_iload_n X 1 dX5_dueFromCover_4 rfl rfl ?_
  have q1 := h.1
  replace h := h.2
  refine j_aaldI X (mw125 0 (by decide)) kt125 lt125 q1 dX5_dueFromCover_5 ?_
  refine j_iload_n X 2 dX5_dueFromCover_6 rfl rfl ?_
  have q2 := h.1
  replace h := h.2
  have q3 := h.1
  replace h := h.2
  refine j_iald X _ rfl (mw325 a1.toNatClampNeg q2) kt325 lt325 q3 dX5_dueFromCover_7 ?_
  refine j_aload_n X 0 dX5_dueFromCover_8 rfl rfl ?_
  refine jf_RX5_36 X  dX5_dueFromCover_9 ?_
  refine j_iload_n X 1 dX5_dueFromCover_12 rfl rfl ?_
  refine j_aaldI X (mw126 0 (by decide)) kt126 lt126 q1 dX5_dueFromCover_13 ?_
  refine j_iload_n X 2 dX5_dueFromCover_14 rfl rfl ?_
  refine j_iald X _ rfl (mw326 a1.toNatClampNeg q2) kt326 lt326 q3 dX5_dueFromCover_15 ?_
  refine j_isub X dX5_dueFromCover_16 ?_
  exact j_iret X Y dX5_dueFromCover_17 h
theorem jc_RX5_154 {G : GT} {E : ET} {cc : ByteArray} {nL pc : Nat} {rm : Room} {lv : List (Nat × Value)} {st : List Value} {M : Mm} (X : CX G E RX5 cc nL rm) (hR : 0 + 1 ≤ rm.frames ∧ 8 + (3 + 11) + 0 ≤ rm.locals) (hst : (st.map fun v => v.category).sum ≤ 8) (d : decode cc pc = .ok (.invokevirtual 154, 3)) {a1 : Int32} {a2 : Int32} {P : Int32 → Mm → Prop} (h : wp_X5_dueFromCover a1 a2 M P) (k1 : ∀ (r : Int32) (M2 : Mm), P r M2 → J G E nL (pc + 3) lv (.int r :: st) M2) : J G E nL pc lv (.int a2 :: .int a1 :: .ref (adr G 5 0) :: st) M := fun H locs ls hP hS hl => by
  have hK := X.2.2.2.2.2.1.1
  have hm := met_X5_dueFromCover (l := eL E) X.2.2.2.2.2.2.1 a1 a2 M P h
  have hR2 : 0 + 1 ≤ (eR E).frames ∧ 8 + (3 + 11) + 0 ≤ (eR E).locals := by rw [X.2.2.2.2.2.2.2.1]; exact hR
  have hC2 : eCells E + 0 ≤ (eR E).cells ∧ eSlots E + 0 ≤ (eR E).slots := by rw [X.2.2.2.2.2.2.2.1]; exact ⟨X.2.2.2.2.2.2.2.2.1, X.2.2.2.2.2.2.2.2.2⟩
  obtain ⟨q0, -, hq⟩ := wld_get (G := G) M (mw5 0 (by decide))
  exact va_calli (va_runV (C := RX5) (As := [.int a1, .int a2]) (rest := st) ⟨X.1, X.2.1, X.2.2.1, X.2.2.2.1, X.2.2.2.2.1⟩ hm (cwV (ws' := lw_aw) 2 X.2.2.2.2.1 (gwV (tw (i := 605) (by decide +kernel)) (tw (i := 607) (by decide +kernel)) (tw (i := 14) (by decide +kernel)) (tw (i := 72) (by decide +kernel)) (tw (i := 608) (by decide +kernel))) rfl rfl rfl (by decide +kernel) hR2) ⟨hr_blind, va_recv hK hP (ci := 5) (q := (RX5, TX5, 16)) (fs := objF5 G 0 (M.1 5 0)) (q0 := q0) rfl hq, fun U hU hW => ⟨rfl, by rw [hU]; exact hP, KK.warm hW X.2.2.2.2.2.1⟩⟩ rfl rfl hl.1 rfl (lv_room hst) d hC2) hS (fun q _ h => h) (fun q h => h) (fun r u t H1 locs1 ht hvm hw hB hz1 hk1 hS1 => k1 r u hw H1 locs1 ls (by rw [← ht]; exact hB.1) hS1 hl)
/-- LayeredClaims$Year.payFromCovers(I)V -/
def wp_X5_payFromCovers (a1 : Int32) (M : Mm) (P : Mm → Prop) : Prop := (∃ n, lq2 (fun self1 (x3 : Int32) (M4 : Mm) => (((rd M4 0 0 0) ≤ x3 → P M4) ∧ (¬ (rd M4 0 0 0) ≤ x3 → (vp_in a1 8 ∧ (vp_in x3 6 ∧ (a1.toNatClampNeg < 8 ∧ (∀ M9 : Mm, M9 = wr M4 327 a1.toNatClampNeg x3.toNatClampNeg (rd M4 129 0 x3.toNatClampNeg) → (wp_X5_dueFromCover a1 x3 M9 (fun (r11 : Int32) (M10 : Mm) => (∀ M12 : Mm, M12 = wr M10 328 a1.toNatClampNeg x3.toNatClampNeg (if (rd M10 129 0 x3.toNatClampNeg) < r11 then (rd M10 129 0 x3.toNatClampNeg) else r11) → (∀ M13 : Mm, M13 = wr M12 129 0 x3.toNatClampNeg ((rd M12 129 0 x3.toNatClampNeg) - (rd M12 328 a1.toNatClampNeg x3.toNatClampNeg)) → (∀ x14 : Int32, x14 = x3 + (1 : Int32) → self1 x14 M13)))))))))))) n (0 : Int32) M)
set_option maxHeartbeats 4000000 in
set_option maxRecDepth 100000 in
theorem met_X5_payFromCovers {l : Launch} {G : GT} (hG : GD G) (a1 : Int32) (M : Mm) (P : Mm → Prop) (h : wp_X5_payFromCovers a1 M P) : MV l G yX5_payFromCovers cX5_payFromCovers 3 none ({ frames := 1, cells := 0, slots := 0, locals := 22 } : Room) [.ref (adr G 5 0), .int a1] M P := by
  refine met_by hG (own := RX5) rfl (by decide +kernel) (Nat.le_of_ble_eq_true rfl) (fun E hE X Y => ?_)
  show J G E 3 0 [(0, .ref (adr G 5 0)), (1, .int a1)] [] M
  unfold wp_X5_payFromCovers at h
  refine j_iconst (v := (0 : Int32)) X (by decide) dX5_payFromCovers_0 ?_
  refine j_istore_n X [(2, .int (0 : Int32)), (0, .ref (adr G 5 0)), (1, .int a1)] dX5_payFromCovers_1 rfl (by decide) rfl ?_
  refine j_sub [1, 2, 0] rfl ?_
  refine lq2_s h (fun (x3 : Int32) (M4 : Mm) => J G E 3 2 [(0, .ref (adr G 5 0)), (1, .int a1), (2, .int x3)] [] M4) (fun self1 ih2 x3 M4 h => ?_) id
  refine j_iload_n X 2 dX5_payFromCovers_2 rfl rfl ?_
  refine j_aload_n X 0 dX5_payFromCovers_3 rfl rfl ?_
  refine jf_RX5_12 X  dX5_payFromCovers_4 ?_
  refine jf_RX5_76 X (by decide) dX5_payFromCovers_7 ?_
  refine j_icmp_ge X 73 dX5_payFromCovers_10 (by decide) (fun c5 => ?_) (fun c5 => ?_)
  · replace h := h.1 c5
    exact j_vret X Y dX5_payFromCovers_73 h
  · replace h := h.2 c5
    refine j_aload_n X 0 dX5_payFromCovers_13 rfl rfl ?_
    refine jf_RX5_39 X  dX5_payFromCovers_14 ?_
    refine j_iload_n X 1 dX5_payFromCovers_17 rfl rfl ?_
    have q6 := h.1
    replace h := h.2
    refine j_aaldI X (mw127 0 (by decide)) kt127 lt127 q6 dX5_payFromCovers_18 ?_
    refine j_iload_n X 2 dX5_payFromCovers_19 rfl rfl ?_
    refine j_aload_n X 0 dX5_payFromCovers_20 rfl rfl ?_
    refine jf_RX5_45 X  dX5_payFromCovers_21 ?_
    refine j_iload_n X 2 dX5_payFromCovers_24 rfl rfl ?_
    have q7 := h.1
    replace h := h.2
    refine j_iald X _ rfl (mw129 0 (by decide)) kt129 lt129 q7 dX5_payFromCovers_25 ?_
    have q8 := h.1
    replace h := h.2
    refine j_iast X _ rfl (mw327 a1.toNatClampNeg q8) kt327 lt327 q7 dX5_payFromCovers_26 ?_
    refine j_memo (fun M9 eM9 => ?_)
    replace h := h M9 eM9
    refine j_aload_n X 0 dX5_payFromCovers_27 rfl rfl ?_
    refine jf_RX5_42 X  dX5_payFromCovers_28 ?_
    refine j_iload_n X 1 dX5_payFromCovers_31 rfl rfl ?_
    refine j_aaldI X (mw128 0 (by decide)) kt128 lt128 q6 dX5_payFromCovers_32 ?_
    refine j_iload_n X 2 dX5_payFromCovers_33 rfl rfl ?_
    refine j_aload_n X 0 dX5_payFromCovers_34 rfl rfl ?_
    refine j_iload_n X 1 dX5_payFromCovers_35 rfl rfl ?_
    refine j_iload_n X 2 dX5_payFromCovers_36 rfl rfl ?_
    refine jc_RX5_154 X ⟨Nat.le_of_ble_eq_true rfl, Nat.le_of_ble_eq_true rfl⟩ (Nat.le_of_ble_eq_true rfl) dX5_payFromCovers_37 h (fun r11 M10 h => ?_)
    refine j_aload_n X 0 dX5_payFromCovers_40 rfl rfl ?_
    refine jf_RX5_45 X  dX5_payFromCovers_41 ?_
    refine j_iload_n X 2 dX5_payFromCovers_44 rfl rfl ?_
    refine j_iald X _ rfl (mw129 0 (by decide)) kt129 lt129 q7 dX5_payFromCovers_45 ?_
    refine j_min X (tw (i := 581) (by decide +kernel)) (Nat.le_of_ble_eq_true rfl) (Nat.le_of_ble_eq_true rfl) dX5_payFromCovers_46 ?_
    refine j_iast X _ rfl (mw328 a1.toNatClampNeg q8) kt328 lt328 q7 dX5_payFromCovers_49 ?_
    refine j_memo (fun M12 eM12 => ?_)
    replace h := h M12 eM12
    refine j_aload_n X 0 dX5_payFromCovers_50 rfl rfl ?_
    refine jf_RX5_45 X  dX5_payFromCovers_51 ?_
    refine j_iload_n X 2 dX5_payFromCovers_54 rfl rfl ?_
    refine j_dup2 X rfl rfl dX5_payFromCovers_55 ?_
    refine j_iald X _ rfl (mw129 0 (by decide)) kt129 lt129 q7 dX5_payFromCovers_56 ?_
    refine j_aload_n X 0 dX5_payFromCovers_57 rfl rfl ?_
    refine jf_RX5_42 X  dX5_payFromCovers_58 ?_
    refine j_iload_n X 1 dX5_payFromCovers_61 rfl rfl ?_
    refine j_aaldI X (mw128 0 (by decide)) kt128 lt128 q6 dX5_payFromCovers_62 ?_
    refine j_iload_n X 2 dX5_payFromCovers_63 rfl rfl ?_
    refine j_iald X _ rfl (mw328 a1.toNatClampNeg q8) kt328 lt328 q7 dX5_payFromCovers_64 ?_
    refine j_isub X dX5_payFromCovers_65 ?_
    refine j_iast X _ rfl (mw129 0 (by decide)) kt129 lt129 q7 dX5_payFromCovers_66 ?_
    refine j_memo (fun M13 eM13 => ?_)
    replace h := h M13 eM13
    obtain ⟨x14, ex14⟩ : ∃ z : Int32, z = x3 + (1 : Int32) := ⟨_, rfl⟩
    replace h := h x14 ex14
    refine j_iinc (v := x14) X 2 [(2, .int x14), (0, .ref (adr G 5 0)), (1, .int a1)] dX5_payFromCovers_67 rfl (by rw [ex14]; rfl) (by decide) rfl ?_
    refine j_goto X 2 dX5_payFromCovers_70 (by decide) ?_
    refine j_sub [1, 2, 0] rfl ?_
    exact ih2 x14 M13 h
theorem jc_RX5_101 {G : GT} {E : ET} {cc : ByteArray} {nL pc : Nat} {rm : Room} {lv : List (Nat × Value)} {st : List Value} {M : Mm} (X : CX G E RX5 cc nL rm) (hR : 1 + 1 ≤ rm.frames ∧ 8 + (3 + 11) + 22 ≤ rm.locals) (hst : (st.map fun v => v.category).sum ≤ 8) (d : decode cc pc = .ok (.invokevirtual 101, 3)) {a1 : Int32} {P : Mm → Prop} (h : wp_X5_payFromCovers a1 M P) (k1 : ∀ M2 : Mm, P M2 → J G E nL (pc + 3) lv st M2) : J G E nL pc lv (.int a1 :: .ref (adr G 5 0) :: st) M := fun H locs ls hP hS hl => by
  have hK := X.2.2.2.2.2.1.1
  have hm := met_X5_payFromCovers (l := eL E) X.2.2.2.2.2.2.1 a1 M P h
  have hR2 : 1 + 1 ≤ (eR E).frames ∧ 8 + (3 + 11) + 22 ≤ (eR E).locals := by rw [X.2.2.2.2.2.2.2.1]; exact hR
  have hC2 : eCells E + 0 ≤ (eR E).cells ∧ eSlots E + 0 ≤ (eR E).slots := by rw [X.2.2.2.2.2.2.2.1]; exact ⟨X.2.2.2.2.2.2.2.2.1, X.2.2.2.2.2.2.2.2.2⟩
  obtain ⟨q0, -, hq⟩ := wld_get (G := G) M (mw5 0 (by decide))
  exact va_callv (va_runV (C := RX5) (As := [.int a1]) (rest := st) ⟨X.1, X.2.1, X.2.2.1, X.2.2.2.1, X.2.2.2.2.1⟩ hm (cwV (ws' := lw_aw) 1 X.2.2.2.2.1 (gwV (tw (i := 601) (by decide +kernel)) (tw (i := 603) (by decide +kernel)) (tw (i := 13) (by decide +kernel)) (tw (i := 72) (by decide +kernel)) (tw (i := 604) (by decide +kernel))) rfl rfl rfl (by decide +kernel) hR2) ⟨hr_blind, va_recv hK hP (ci := 5) (q := (RX5, TX5, 16)) (fs := objF5 G 0 (M.1 5 0)) (q0 := q0) rfl hq, fun U hU hW => ⟨rfl, by rw [hU]; exact hP, KK.warm hW X.2.2.2.2.2.1⟩⟩ rfl rfl hl.1 rfl (lv_room hst) d hC2) hS (fun q _ h => h) (fun q h => h) (fun u t H1 locs1 ht hvm hw hB hz1 hk1 hS1 => k1 u hw H1 locs1 ls (by rw [← ht]; exact hB.1) hS1 hl)
/-- LayeredClaims$Year.factorOfEvent(I)F -/
def wp_X5_factorOfEvent (a1 : Int32) (M : Mm) (P : UInt32 → Mm → Prop) : Prop := (vp_in a1 8 ∧ (∀ x2 : Int32, x2 = (((rd M 0 0 11) * (rd M 33 0 a1.toNatClampNeg)) / (30 : Int32)) → (vf_n32 (FP.fdiv (FP.i2f x2) (1148846080 : UInt32)) ∧ (vf_n32 (FP.fadd FP.fconst1 (FP.fdiv (FP.i2f x2) (1148846080 : UInt32))) ∧ P (FP.fadd FP.fconst1 (FP.fdiv (FP.i2f x2) (1148846080 : UInt32))) M))))
set_option maxHeartbeats 4000000 in
set_option maxRecDepth 100000 in
theorem met_X5_factorOfEvent {l : Launch} {G : GT} (hG : GD G) (a1 : Int32) (M : Mm) (P : UInt32 → Mm → Prop) (h : wp_X5_factorOfEvent a1 M P) : MF l G yX5_factorOfEvent cX5_factorOfEvent 3 (some .float) ({ frames := 0, cells := 0, slots := 0, locals := 0 } : Room) [.ref (adr G 5 0), .int a1] M P := by
  refine met_by hG (own := RX5) rfl (by decide +kernel) (Nat.le_of_ble_eq_true rfl) (fun E hE X Y => ?_)
  show J G E 3 0 [(0, .ref (adr G 5 0)), (1, .int a1)] [] M
  unfold wp_X5_factorOfEvent at h
  refine j_aload_n X 0 dX5_factorOfEvent_0 rfl rfl ?_
  refine jf_RX5_12 X  dX5_factorOfEvent_1 ?_
  refine jf_RX5_126 X (by decide) dX5_factorOfEvent_4 ?_
  refine j_aload_n X 0 dX5_factorOfEvent_7 rfl rfl ?_
  refine jf_RX5_12 X  dX5_factorOfEvent_8 ?_
  refine jf_RX5_107 X (by decide) dX5_factorOfEvent_11 ?_
  refine j_iload_n X 1 dX5_factorOfEvent_14 rfl rfl ?_
  have q1 := h.1
  replace h := h.2
  refine j_iald X _ rfl (mw33 0 (by decide)) kt33 lt33 q1 dX5_factorOfEvent_15 ?_
  refine j_imul X dX5_factorOfEvent_16 ?_
  refine j_bipush (v := (30 : Int32)) X (by decide) dX5_factorOfEvent_17 ?_
  refine j_idiv X (by decide) dX5_factorOfEvent_19 ?_
  refine j_topi (fun x2 ex2 => ?_)
  replace h := h x2 ex2
  refine j_istore_n X [(2, .int x2), (0, .ref (adr G 5 0)), (1, .int a1)] dX5_factorOfEvent_20 rfl (by decide) rfl ?_
  refine j_fconst1 X dX5_factorOfEvent_21 ?_
  refine j_iload_n X 0 dX5_factorOfEvent_22 rfl rfl ?_
  refine j_i2f X dX5_factorOfEvent_23 ?_
  refine j_ldcf (v := (1148846080 : UInt32)) X (tw (i := 572) (by decide +kernel)) dX5_factorOfEvent_24 ?_
  have q3 := h.1
  replace h := h.2
  refine j_fdiv X q3 dX5_factorOfEvent_26 ?_
  have q4 := h.1
  replace h := h.2
  refine j_fadd X q4 dX5_factorOfEvent_27 ?_
  exact j_fret X Y dX5_factorOfEvent_28 h
theorem jc_RX5_119 {G : GT} {E : ET} {cc : ByteArray} {nL pc : Nat} {rm : Room} {lv : List (Nat × Value)} {st : List Value} {M : Mm} (X : CX G E RX5 cc nL rm) (hR : 0 + 1 ≤ rm.frames ∧ 8 + (3 + 11) + 0 ≤ rm.locals) (hst : (st.map fun v => v.category).sum ≤ 8) (d : decode cc pc = .ok (.invokevirtual 119, 3)) {a1 : Int32} {P : UInt32 → Mm → Prop} (h : wp_X5_factorOfEvent a1 M P) (k1 : ∀ (r : UInt32) (M2 : Mm), P r M2 → J G E nL (pc + 3) lv (.float r :: st) M2) : J G E nL pc lv (.int a1 :: .ref (adr G 5 0) :: st) M := fun H locs ls hP hS hl => by
  have hK := X.2.2.2.2.2.1.1
  have hm := met_X5_factorOfEvent (l := eL E) X.2.2.2.2.2.2.1 a1 M P h
  have hR2 : 0 + 1 ≤ (eR E).frames ∧ 8 + (3 + 11) + 0 ≤ (eR E).locals := by rw [X.2.2.2.2.2.2.2.1]; exact hR
  have hC2 : eCells E + 0 ≤ (eR E).cells ∧ eSlots E + 0 ≤ (eR E).slots := by rw [X.2.2.2.2.2.2.2.1]; exact ⟨X.2.2.2.2.2.2.2.2.1, X.2.2.2.2.2.2.2.2.2⟩
  obtain ⟨q0, -, hq⟩ := wld_get (G := G) M (mw5 0 (by decide))
  exact va_callf (va_runV (C := RX5) (As := [.int a1]) (rest := st) ⟨X.1, X.2.1, X.2.2.1, X.2.2.2.1, X.2.2.2.2.1⟩ hm (cwV (ws' := lw_aw) 1 X.2.2.2.2.1 (gwV (tw (i := 568) (by decide +kernel)) (tw (i := 570) (by decide +kernel)) (tw (i := 8) (by decide +kernel)) (tw (i := 72) (by decide +kernel)) (tw (i := 571) (by decide +kernel))) rfl rfl rfl (by decide +kernel) hR2) ⟨hr_blind, va_recv hK hP (ci := 5) (q := (RX5, TX5, 16)) (fs := objF5 G 0 (M.1 5 0)) (q0 := q0) rfl hq, fun U hU hW => ⟨rfl, by rw [hU]; exact hP, KK.warm hW X.2.2.2.2.2.1⟩⟩ rfl rfl hl.1 rfl (lv_room hst) d hC2) hS (fun q _ h => h) (fun q h => h) (fun r u t H1 locs1 ht hvm hw hB hz1 hk1 hS1 => k1 r u hw H1 locs1 ls (by rw [← ht]; exact hB.1) hS1 hl)
/-- LayeredClaims$Year.sumLosses()V -/
def wp_X5_sumLosses  (M : Mm) (P : Mm → Prop) : Prop := (∃ n, lq2 (fun self1 (x3 : Int32) (M4 : Mm) => (((rd M4 0 0 12) ≤ x3 → (∃ n, lq2 (fun self6 (x8 : Int32) (M9 : Mm) => (((rd M9 0 0 15) ≤ x8 → P M9) ∧ (¬ (rd M9 0 0 15) ≤ x8 → (vp_in x8 24 ∧ (∀ x12 : Int32, x12 = (rd M9 36 0 x8.toNatClampNeg) → (wp_X5_factorOfEvent x12 M9 (fun (r14 : UInt32) (M13 : Mm) => (vf_n32 (FP.fmul (FP.i2f (rd M9 38 0 x8.toNatClampNeg)) r14) ∧ (∀ M16 : Mm, M16 = wr M13 123 0 x8.toNatClampNeg (FP.f2i (FP.fmul (FP.i2f (rd M9 38 0 x8.toNatClampNeg)) r14)) → (vp_in x12 8 ∧ (x12.toNatClampNeg < 8 ∧ (vp_in (rd M16 37 0 x8.toNatClampNeg) 6 ∧ (∀ M20 : Mm, M20 = wr M16 324 x12.toNatClampNeg (rd M16 37 0 x8.toNatClampNeg).toNatClampNeg ((rd M16 324 x12.toNatClampNeg (rd M16 37 0 x8.toNatClampNeg).toNatClampNeg) + (rd M16 123 0 x8.toNatClampNeg)) → (∀ x21 : Int32, x21 = x8 + (1 : Int32) → self6 x21 M20)))))))))))))) n (0 : Int32) M4)) ∧ (¬ (rd M4 0 0 12) ≤ x3 → (∃ n, lq2 (fun self22 (x24 : Int32) (M25 : Mm) => (((rd M25 0 0 0) ≤ x24 → (∀ x27 : Int32, x27 = x3 + (1 : Int32) → self1 x27 M25)) ∧ (¬ (rd M25 0 0 0) ≤ x24 → (vp_in x3 8 ∧ (x3.toNatClampNeg < 8 ∧ (vp_in x24 6 ∧ (∀ M31 : Mm, M31 = wr M25 324 x3.toNatClampNeg x24.toNatClampNeg (0 : Int32) → (∀ x32 : Int32, x32 = x24 + (1 : Int32) → self22 x32 M31)))))))) n (0 : Int32) M4)))) n (0 : Int32) M)
set_option maxHeartbeats 4000000 in
set_option maxRecDepth 100000 in
theorem met_X5_sumLosses {l : Launch} {G : GT} (hG : GD G)  (M : Mm) (P : Mm → Prop) (h : wp_X5_sumLosses  M P) : MV l G yX5_sumLosses cX5_sumLosses 3 none ({ frames := 1, cells := 0, slots := 0, locals := 22 } : Room) [.ref (adr G 5 0)] M P := by
  refine met_by hG (own := RX5) rfl (by decide +kernel) (Nat.le_of_ble_eq_true rfl) (fun E hE X Y => ?_)
  show J G E 3 0 [(0, .ref (adr G 5 0))] [] M
  unfold wp_X5_sumLosses at h
  refine j_iconst (v := (0 : Int32)) X (by decide) dX5_sumLosses_0 ?_
  refine j_istore_n X [(1, .int (0 : Int32)), (0, .ref (adr G 5 0))] dX5_sumLosses_1 rfl (by decide) rfl ?_
  refine j_sub [1, 0] rfl ?_
  refine lq2_s h (fun (x3 : Int32) (M4 : Mm) => J G E 3 2 [(0, .ref (adr G 5 0)), (1, .int x3)] [] M4) (fun self1 ih2 x3 M4 h => ?_) id
  refine j_iload_n X 1 dX5_sumLosses_2 rfl rfl ?_
  refine j_aload_n X 0 dX5_sumLosses_3 rfl rfl ?_
  refine jf_RX5_12 X  dX5_sumLosses_4 ?_
  refine jf_RX5_90 X (by decide) dX5_sumLosses_7 ?_
  refine j_icmp_ge X 47 dX5_sumLosses_10 (by decide) (fun c5 => ?_) (fun c5 => ?_)
  · replace h := h.1 c5
    refine j_iconst (v := (0 : Int32)) X (by decide) dX5_sumLosses_47 ?_
    refine j_istore_n X [(1, .int (0 : Int32)), (0, .ref (adr G 5 0))] dX5_sumLosses_48 rfl (by decide) rfl ?_
    refine j_sub [1, 0] rfl ?_
    refine lq2_s h (fun (x8 : Int32) (M9 : Mm) => J G E 3 49 [(0, .ref (adr G 5 0)), (1, .int x8)] [] M9) (fun self6 ih7 x8 M9 h => ?_) id
    refine j_iload_n X 1 dX5_sumLosses_49 rfl rfl ?_
    refine j_aload_n X 0 dX5_sumLosses_50 rfl rfl ?_
    refine jf_RX5_12 X  dX5_sumLosses_51 ?_
    refine jf_RX5_110 X (by decide) dX5_sumLosses_54 ?_
    refine j_icmp_ge X 124 dX5_sumLosses_57 (by decide) (fun c10 => ?_) (fun c10 => ?_)
    · replace h := h.1 c10
      exact j_vret X Y dX5_sumLosses_124 h
    · replace h := h.2 c10
      refine j_aload_n X 0 dX5_sumLosses_60 rfl rfl ?_
      refine jf_RX5_12 X  dX5_sumLosses_61 ?_
      refine jf_RX5_113 X (by decide) dX5_sumLosses_64 ?_
      refine j_iload_n X 1 dX5_sumLosses_67 rfl rfl ?_
      have q11 := h.1
      replace h := h.2
      refine j_iald X _ rfl (mw36 0 (by decide)) kt36 lt36 q11 dX5_sumLosses_68 ?_
      refine j_topi (fun x12 ex12 => ?_)
      replace h := h x12 ex12
      refine j_istore_n X [(2, .int x12), (0, .ref (adr G 5 0)), (1, .int x8)] dX5_sumLosses_69 rfl (by decide) rfl ?_
      refine j_aload_n X 1 dX5_sumLosses_70 rfl rfl ?_
      refine jf_RX5_25 X  dX5_sumLosses_71 ?_
      refine j_iload_n X 2 dX5_sumLosses_74 rfl rfl ?_
      refine j_aload_n X 1 dX5_sumLosses_75 rfl rfl ?_
      refine jf_RX5_12 X  dX5_sumLosses_76 ?_
      refine jf_RX5_116 X (by decide) dX5_sumLosses_79 ?_
      refine j_iload_n X 2 dX5_sumLosses_82 rfl rfl ?_
      refine j_iald X _ rfl (mw38 0 (by decide)) kt38 lt38 q11 dX5_sumLosses_83 ?_
      refine j_i2f X dX5_sumLosses_84 ?_
      refine j_aload_n X 1 dX5_sumLosses_85 rfl rfl ?_
      refine j_iload_n X 0 dX5_sumLosses_86 rfl rfl ?_
      refine jc_RX5_119 X ⟨Nat.le_of_ble_eq_true rfl, Nat.le_of_ble_eq_true rfl⟩ (Nat.le_of_ble_eq_true rfl) dX5_sumLosses_87 h (fun r14 M13 h => ?_)
      have q15 := h.1
      replace h := h.2
      refine j_fmul X q15 dX5_sumLosses_90 ?_
      refine j_f2i X dX5_sumLosses_91 ?_
      refine j_iast X _ rfl (mw123 0 (by decide)) kt123 lt123 q11 dX5_sumLosses_92 ?_
      refine j_memo (fun M16 eM16 => ?_)
      replace h := h M16 eM16
      refine j_aload_n X 1 dX5_sumLosses_93 rfl rfl ?_
      refine jf_RX5_30 X  dX5_sumLosses_94 ?_
      refine j_iload_n X 0 dX5_sumLosses_97 rfl rfl ?_
      have q17 := h.1
      replace h := h.2
      refine j_aaldI X (mw124 0 (by decide)) kt124 lt124 q17 dX5_sumLosses_98 ?_
      refine j_aload_n X 1 dX5_sumLosses_99 rfl rfl ?_
      refine jf_RX5_12 X  dX5_sumLosses_100 ?_
      refine jf_RX5_123 X (by decide) dX5_sumLosses_103 ?_
      refine j_iload_n X 2 dX5_sumLosses_106 rfl rfl ?_
      refine j_iald X _ rfl (mw37 0 (by decide)) kt37 lt37 q11 dX5_sumLosses_107 ?_
      refine j_dup2 X rfl rfl dX5_sumLosses_108 ?_
      have q18 := h.1
      replace h := h.2
      have q19 := h.1
      replace h := h.2
      refine j_iald X _ rfl (mw324 x12.toNatClampNeg q18) kt324 lt324 q19 dX5_sumLosses_109 ?_
      refine j_aload_n X 1 dX5_sumLosses_110 rfl rfl ?_
      refine jf_RX5_25 X  dX5_sumLosses_111 ?_
      refine j_iload_n X 2 dX5_sumLosses_114 rfl rfl ?_
      refine j_iald X _ rfl (mw123 0 (by decide)) kt123 lt123 q11 dX5_sumLosses_115 ?_
      refine j_iadd X dX5_sumLosses_116 ?_
      refine j_iast X _ rfl (mw324 x12.toNatClampNeg q18) kt324 lt324 q19 dX5_sumLosses_117 ?_
      refine j_memo (fun M20 eM20 => ?_)
      replace h := h M20 eM20
      obtain ⟨x21, ex21⟩ : ∃ z : Int32, z = x8 + (1 : Int32) := ⟨_, rfl⟩
      replace h := h x21 ex21
      refine j_iinc (v := x21) X 2 [(1, .int x21), (2, .int x12), (0, .ref (adr G 5 0))] dX5_sumLosses_118 rfl (by rw [ex21]; rfl) (by decide) rfl ?_
      refine j_goto X 49 dX5_sumLosses_121 (by decide) ?_
      refine j_sub [2, 0] rfl ?_
      exact ih7 x21 M20 h
  · replace h := h.2 c5
    refine j_iconst (v := (0 : Int32)) X (by decide) dX5_sumLosses_13 ?_
    refine j_istore_n X [(2, .int (0 : Int32)), (0, .ref (adr G 5 0)), (1, .int x3)] dX5_sumLosses_14 rfl (by decide) rfl ?_
    refine j_sub [1, 2, 0] rfl ?_
    refine lq2_s h (fun (x24 : Int32) (M25 : Mm) => J G E 3 15 [(0, .ref (adr G 5 0)), (1, .int x3), (2, .int x24)] [] M25) (fun self22 ih23 x24 M25 h => ?_) id
    refine j_iload_n X 2 dX5_sumLosses_15 rfl rfl ?_
    refine j_aload_n X 0 dX5_sumLosses_16 rfl rfl ?_
    refine jf_RX5_12 X  dX5_sumLosses_17 ?_
    refine jf_RX5_76 X (by decide) dX5_sumLosses_20 ?_
    refine j_icmp_ge X 41 dX5_sumLosses_23 (by decide) (fun c26 => ?_) (fun c26 => ?_)
    · replace h := h.1 c26
      obtain ⟨x27, ex27⟩ : ∃ z : Int32, z = x3 + (1 : Int32) := ⟨_, rfl⟩
      replace h := h x27 ex27
      refine j_iinc (v := x27) X 1 [(1, .int x27), (0, .ref (adr G 5 0)), (2, .int x24)] dX5_sumLosses_41 rfl (by rw [ex27]; rfl) (by decide) rfl ?_
      refine j_goto X 2 dX5_sumLosses_44 (by decide) ?_
      refine j_sub [1, 0] rfl ?_
      exact ih2 x27 M25 h
    · replace h := h.2 c26
      refine j_aload_n X 0 dX5_sumLosses_26 rfl rfl ?_
      refine jf_RX5_30 X  dX5_sumLosses_27 ?_
      refine j_iload_n X 1 dX5_sumLosses_30 rfl rfl ?_
      have q28 := h.1
      replace h := h.2
      refine j_aaldI X (mw124 0 (by decide)) kt124 lt124 q28 dX5_sumLosses_31 ?_
      refine j_iload_n X 2 dX5_sumLosses_32 rfl rfl ?_
      refine j_iconst (v := (0 : Int32)) X (by decide) dX5_sumLosses_33 ?_
      have q29 := h.1
      replace h := h.2
      have q30 := h.1
      replace h := h.2
      refine j_iast X _ rfl (mw324 x3.toNatClampNeg q29) kt324 lt324 q30 dX5_sumLosses_34 ?_
      refine j_memo (fun M31 eM31 => ?_)
      replace h := h M31 eM31
      obtain ⟨x32, ex32⟩ : ∃ z : Int32, z = x24 + (1 : Int32) := ⟨_, rfl⟩
      replace h := h x32 ex32
      refine j_iinc (v := x32) X 2 [(2, .int x32), (0, .ref (adr G 5 0)), (1, .int x3)] dX5_sumLosses_35 rfl (by rw [ex32]; rfl) (by decide) rfl ?_
      refine j_goto X 15 dX5_sumLosses_38 (by decide) ?_
      refine j_sub [1, 2, 0] rfl ?_
      exact ih23 x32 M31 h
theorem jc_RX5_73 {G : GT} {E : ET} {cc : ByteArray} {nL pc : Nat} {rm : Room} {lv : List (Nat × Value)} {st : List Value} {M : Mm} (X : CX G E RX5 cc nL rm) (hR : 1 + 1 ≤ rm.frames ∧ 8 + (3 + 11) + 22 ≤ rm.locals) (hst : (st.map fun v => v.category).sum ≤ 8) (d : decode cc pc = .ok (.invokevirtual 73, 3))  {P : Mm → Prop} (h : wp_X5_sumLosses  M P) (k1 : ∀ M2 : Mm, P M2 → J G E nL (pc + 3) lv st M2) : J G E nL pc lv (.ref (adr G 5 0) :: st) M := fun H locs ls hP hS hl => by
  have hK := X.2.2.2.2.2.1.1
  have hm := met_X5_sumLosses (l := eL E) X.2.2.2.2.2.2.1  M P h
  have hR2 : 1 + 1 ≤ (eR E).frames ∧ 8 + (3 + 11) + 22 ≤ (eR E).locals := by rw [X.2.2.2.2.2.2.2.1]; exact hR
  have hC2 : eCells E + 0 ≤ (eR E).cells ∧ eSlots E + 0 ≤ (eR E).slots := by rw [X.2.2.2.2.2.2.2.1]; exact ⟨X.2.2.2.2.2.2.2.2.1, X.2.2.2.2.2.2.2.2.2⟩
  obtain ⟨q0, -, hq⟩ := wld_get (G := G) M (mw5 0 (by decide))
  exact va_callv (va_runV (C := RX5) (As := []) (rest := st) ⟨X.1, X.2.1, X.2.2.1, X.2.2.2.1, X.2.2.2.2.1⟩ hm (cwV (ws' := lw_aw) 0 X.2.2.2.2.1 (gwV (tw (i := 564) (by decide +kernel)) (tw (i := 566) (by decide +kernel)) (tw (i := 7) (by decide +kernel)) (tw (i := 72) (by decide +kernel)) (tw (i := 567) (by decide +kernel))) rfl rfl rfl (by decide +kernel) hR2) ⟨hr_blind, va_recv hK hP (ci := 5) (q := (RX5, TX5, 16)) (fs := objF5 G 0 (M.1 5 0)) (q0 := q0) rfl hq, fun U hU hW => ⟨rfl, by rw [hU]; exact hP, KK.warm hW X.2.2.2.2.2.1⟩⟩ rfl rfl hl.1 rfl (lv_room hst) d hC2) hS (fun q _ h => h) (fun q h => h) (fun u t H1 locs1 ht hvm hw hB hz1 hk1 hS1 => k1 u hw H1 locs1 ls (by rw [← ht]; exact hB.1) hS1 hl)
/-- LayeredClaims$Year.reckon()V -/
def wp_X5_reckon  (M : Mm) (P : Mm → Prop) : Prop := (wp_X5_orderEvents  M (fun (M1 : Mm) => (wp_X5_sumLosses  M1 (fun (M2 : Mm) => (∃ n, lq2 (fun self3 (x5 : Int32) (M6 : Mm) => (((rd M6 0 0 0) ≤ x5 → (∃ n, lq2 (fun self8 (x10 : Int32) (M11 : Mm) => (((rd M11 0 0 5) ≤ x10 → (∃ n, lq2 (fun self13 (x15 : Int32) (M16 : Mm) => (((rd M16 0 0 12) ≤ x15 → P M16) ∧ (¬ (rd M16 0 0 12) ≤ x15 → (vp_in x15 8 ∧ (∀ x19 : Int32, x19 = (rd M16 121 0 x15.toNatClampNeg) → (wp_X5_limitLosses x19 M16 (fun (M20 : Mm) => (∃ n, lq2 (fun self21 (x23 : Int32) (M24 : Mm) => (((3 : Int32) ≤ x23 → (wp_X5_payFromCovers x19 M24 (fun (M26 : Mm) => (wp_X5_bearBurden x19 M26 (fun (M27 : Mm) => (∀ x28 : Int32, x28 = x15 + (1 : Int32) → self13 x28 M27)))))) ∧ (¬ (3 : Int32) ≤ x23 → (wp_X5_deductFromGroup x19 x23 M24 (fun (M29 : Mm) => (∀ x30 : Int32, x30 = x23 + (1 : Int32) → self21 x30 M29)))))) n (0 : Int32) M20)))))))) n (0 : Int32) M11)) ∧ (¬ (rd M11 0 0 5) ≤ x10 → (wp_X5_capacityOfLayer x10 M11 (fun (r32 : Int32) (M31 : Mm) => (vp_in x10 4 ∧ (∀ M34 : Mm, M34 = wr M31 132 0 x10.toNatClampNeg r32 → (∀ x35 : Int32, x35 = x10 + (1 : Int32) → self8 x35 M34)))))))) n (0 : Int32) M6)) ∧ (¬ (rd M6 0 0 0) ≤ x5 → (vp_in x5 6 ∧ (∀ M37 : Mm, M37 = wr M6 129 0 x5.toNatClampNeg (rd M6 22 0 x5.toNatClampNeg) → (∀ x38 : Int32, x38 = x5 + (1 : Int32) → self3 x38 M37)))))) n (0 : Int32) M2)))))
set_option maxHeartbeats 4000000 in
set_option maxRecDepth 100000 in
theorem met_X5_reckon {l : Launch} {G : GT} (hG : GD G)  (M : Mm) (P : Mm → Prop) (h : wp_X5_reckon  M P) : MV l G yX5_reckon cX5_reckon 4 none ({ frames := 3, cells := 0, slots := 0, locals := 74 } : Room) [.ref (adr G 5 0)] M P := by
  refine met_by hG (own := RX5) rfl (by decide +kernel) (Nat.le_of_ble_eq_true rfl) (fun E hE X Y => ?_)
  show J G E 4 0 [(0, .ref (adr G 5 0))] [] M
  unfold wp_X5_reckon at h
  refine j_aload_n X 0 dX5_reckon_0 rfl rfl ?_
  refine jc_RX5_70 X ⟨Nat.le_of_ble_eq_true rfl, Nat.le_of_ble_eq_true rfl⟩ (Nat.le_of_ble_eq_true rfl) dX5_reckon_1 h (fun M1 h => ?_)
  refine j_aload_n X 0 dX5_reckon_4 rfl rfl ?_
  refine jc_RX5_73 X ⟨Nat.le_of_ble_eq_true rfl, Nat.le_of_ble_eq_true rfl⟩ (Nat.le_of_ble_eq_true rfl) dX5_reckon_5 h (fun M2 h => ?_)
  refine j_iconst (v := (0 : Int32)) X (by decide) dX5_reckon_8 ?_
  refine j_istore_n X [(1, .int (0 : Int32)), (0, .ref (adr G 5 0))] dX5_reckon_9 rfl (by decide) rfl ?_
  refine j_sub [1, 0] rfl ?_
  refine lq2_s h (fun (x5 : Int32) (M6 : Mm) => J G E 4 10 [(0, .ref (adr G 5 0)), (1, .int x5)] [] M6) (fun self3 ih4 x5 M6 h => ?_) id
  refine j_iload_n X 1 dX5_reckon_10 rfl rfl ?_
  refine j_aload_n X 0 dX5_reckon_11 rfl rfl ?_
  refine jf_RX5_12 X  dX5_reckon_12 ?_
  refine jf_RX5_76 X (by decide) dX5_reckon_15 ?_
  refine j_icmp_ge X 42 dX5_reckon_18 (by decide) (fun c7 => ?_) (fun c7 => ?_)
  · replace h := h.1 c7
    refine j_iconst (v := (0 : Int32)) X (by decide) dX5_reckon_42 ?_
    refine j_istore_n X [(1, .int (0 : Int32)), (0, .ref (adr G 5 0))] dX5_reckon_43 rfl (by decide) rfl ?_
    refine j_sub [1, 0] rfl ?_
    refine lq2_s h (fun (x10 : Int32) (M11 : Mm) => J G E 4 44 [(0, .ref (adr G 5 0)), (1, .int x10)] [] M11) (fun self8 ih9 x10 M11 h => ?_) id
    refine j_iload_n X 1 dX5_reckon_44 rfl rfl ?_
    refine j_aload_n X 0 dX5_reckon_45 rfl rfl ?_
    refine jf_RX5_12 X  dX5_reckon_46 ?_
    refine jf_RX5_83 X (by decide) dX5_reckon_49 ?_
    refine j_icmp_ge X 72 dX5_reckon_52 (by decide) (fun c12 => ?_) (fun c12 => ?_)
    · replace h := h.1 c12
      refine j_iconst (v := (0 : Int32)) X (by decide) dX5_reckon_72 ?_
      refine j_istore_n X [(1, .int (0 : Int32)), (0, .ref (adr G 5 0))] dX5_reckon_73 rfl (by decide) rfl ?_
      refine j_sub [1, 0] rfl ?_
      refine lq2_s h (fun (x15 : Int32) (M16 : Mm) => J G E 4 74 [(0, .ref (adr G 5 0)), (1, .int x15)] [] M16) (fun self13 ih14 x15 M16 h => ?_) id
      refine j_iload_n X 1 dX5_reckon_74 rfl rfl ?_
      refine j_aload_n X 0 dX5_reckon_75 rfl rfl ?_
      refine jf_RX5_12 X  dX5_reckon_76 ?_
      refine jf_RX5_90 X (by decide) dX5_reckon_79 ?_
      refine j_icmp_ge X 132 dX5_reckon_82 (by decide) (fun c17 => ?_) (fun c17 => ?_)
      · replace h := h.1 c17
        exact j_vret X Y dX5_reckon_132 h
      · replace h := h.2 c17
        refine j_aload_n X 0 dX5_reckon_85 rfl rfl ?_
        refine jf_RX5_18 X  dX5_reckon_86 ?_
        refine j_iload_n X 1 dX5_reckon_89 rfl rfl ?_
        have q18 := h.1
        replace h := h.2
        refine j_iald X _ rfl (mw121 0 (by decide)) kt121 lt121 q18 dX5_reckon_90 ?_
        refine j_topi (fun x19 ex19 => ?_)
        replace h := h x19 ex19
        refine j_istore_n X [(2, .int x19), (0, .ref (adr G 5 0)), (1, .int x15)] dX5_reckon_91 rfl (by decide) rfl ?_
        refine j_aload_n X 1 dX5_reckon_92 rfl rfl ?_
        refine j_iload_n X 0 dX5_reckon_93 rfl rfl ?_
        refine jc_RX5_93 X ⟨Nat.le_of_ble_eq_true rfl, Nat.le_of_ble_eq_true rfl⟩ (Nat.le_of_ble_eq_true rfl) dX5_reckon_94 h (fun M20 h => ?_)
        refine j_iconst (v := (0 : Int32)) X (by decide) dX5_reckon_97 ?_
        refine j_istore_n X [(3, .int (0 : Int32)), (2, .int x19), (0, .ref (adr G 5 0)), (1, .int x15)] dX5_reckon_98 rfl (by decide) rfl ?_
        refine j_sub [2, 3, 1, 0] rfl ?_
        refine lq2_s h (fun (x23 : Int32) (M24 : Mm) => J G E 4 99 [(0, .ref (adr G 5 0)), (1, .int x15), (2, .int x19), (3, .int x23)] [] M24) (fun self21 ih22 x23 M24 h => ?_) id
        refine j_iload_n X 3 dX5_reckon_99 rfl rfl ?_
        refine j_iconst (v := (3 : Int32)) X (by decide) dX5_reckon_100 ?_
        refine j_icmp_ge X 116 dX5_reckon_101 (by decide) (fun c25 => ?_) (fun c25 => ?_)
        · replace h := h.1 c25
          refine j_aload_n X 0 dX5_reckon_116 rfl rfl ?_
          refine j_iload_n X 2 dX5_reckon_117 rfl rfl ?_
          refine jc_RX5_101 X ⟨Nat.le_of_ble_eq_true rfl, Nat.le_of_ble_eq_true rfl⟩ (Nat.le_of_ble_eq_true rfl) dX5_reckon_118 h (fun M26 h => ?_)
          refine j_aload_n X 0 dX5_reckon_121 rfl rfl ?_
          refine j_iload_n X 2 dX5_reckon_122 rfl rfl ?_
          refine jc_RX5_104 X ⟨Nat.le_of_ble_eq_true rfl, Nat.le_of_ble_eq_true rfl⟩ (Nat.le_of_ble_eq_true rfl) dX5_reckon_123 h (fun M27 h => ?_)
          obtain ⟨x28, ex28⟩ : ∃ z : Int32, z = x15 + (1 : Int32) := ⟨_, rfl⟩
          replace h := h x28 ex28
          refine j_iinc (v := x28) X 1 [(1, .int x28), (0, .ref (adr G 5 0)), (2, .int x19), (3, .int x23)] dX5_reckon_126 rfl (by rw [ex28]; rfl) (by decide) rfl ?_
          refine j_goto X 74 dX5_reckon_129 (by decide) ?_
          refine j_sub [1, 0] rfl ?_
          exact ih14 x28 M27 h
        · replace h := h.2 c25
          refine j_aload_n X 0 dX5_reckon_104 rfl rfl ?_
          refine j_iload_n X 2 dX5_reckon_105 rfl rfl ?_
          refine j_iload_n X 3 dX5_reckon_106 rfl rfl ?_
          refine jc_RX5_97 X ⟨Nat.le_of_ble_eq_true rfl, Nat.le_of_ble_eq_true rfl⟩ (Nat.le_of_ble_eq_true rfl) dX5_reckon_107 h (fun M29 h => ?_)
          obtain ⟨x30, ex30⟩ : ∃ z : Int32, z = x23 + (1 : Int32) := ⟨_, rfl⟩
          replace h := h x30 ex30
          refine j_iinc (v := x30) X 3 [(3, .int x30), (0, .ref (adr G 5 0)), (1, .int x15), (2, .int x19)] dX5_reckon_110 rfl (by rw [ex30]; rfl) (by decide) rfl ?_
          refine j_goto X 99 dX5_reckon_113 (by decide) ?_
          refine j_sub [1, 2, 3, 0] rfl ?_
          exact ih22 x30 M29 h
    · replace h := h.2 c12
      refine j_aload_n X 0 dX5_reckon_55 rfl rfl ?_
      refine jf_RX5_54 X  dX5_reckon_56 ?_
      refine j_iload_n X 1 dX5_reckon_59 rfl rfl ?_
      refine j_aload_n X 0 dX5_reckon_60 rfl rfl ?_
      refine j_iload_n X 1 dX5_reckon_61 rfl rfl ?_
      refine jc_RX5_86 X ⟨Nat.le_of_ble_eq_true rfl, Nat.le_of_ble_eq_true rfl⟩ (Nat.le_of_ble_eq_true rfl) dX5_reckon_62 h (fun r32 M31 h => ?_)
      have q33 := h.1
      replace h := h.2
      refine j_iast X _ rfl (mw132 0 (by decide)) kt132 lt132 q33 dX5_reckon_65 ?_
      refine j_memo (fun M34 eM34 => ?_)
      replace h := h M34 eM34
      obtain ⟨x35, ex35⟩ : ∃ z : Int32, z = x10 + (1 : Int32) := ⟨_, rfl⟩
      replace h := h x35 ex35
      refine j_iinc (v := x35) X 1 [(1, .int x35), (0, .ref (adr G 5 0))] dX5_reckon_66 rfl (by rw [ex35]; rfl) (by decide) rfl ?_
      refine j_goto X 44 dX5_reckon_69 (by decide) ?_
      refine j_sub [1, 0] rfl ?_
      exact ih9 x35 M34 h
  · replace h := h.2 c7
    refine j_aload_n X 0 dX5_reckon_21 rfl rfl ?_
    refine jf_RX5_45 X  dX5_reckon_22 ?_
    refine j_iload_n X 1 dX5_reckon_25 rfl rfl ?_
    refine j_aload_n X 0 dX5_reckon_26 rfl rfl ?_
    refine jf_RX5_12 X  dX5_reckon_27 ?_
    refine jf_RX5_80 X (by decide) dX5_reckon_30 ?_
    refine j_iload_n X 1 dX5_reckon_33 rfl rfl ?_
    have q36 := h.1
    replace h := h.2
    refine j_iald X _ rfl (mw22 0 (by decide)) kt22 lt22 q36 dX5_reckon_34 ?_
    refine j_iast X _ rfl (mw129 0 (by decide)) kt129 lt129 q36 dX5_reckon_35 ?_
    refine j_memo (fun M37 eM37 => ?_)
    replace h := h M37 eM37
    obtain ⟨x38, ex38⟩ : ∃ z : Int32, z = x5 + (1 : Int32) := ⟨_, rfl⟩
    replace h := h x38 ex38
    refine j_iinc (v := x38) X 1 [(1, .int x38), (0, .ref (adr G 5 0))] dX5_reckon_36 rfl (by rw [ex38]; rfl) (by decide) rfl ?_
    refine j_goto X 10 dX5_reckon_39 (by decide) ?_
    refine j_sub [1, 0] rfl ?_
    exact ih4 x38 M37 h
theorem jc_RX6_142 {G : GT} {E : ET} {cc : ByteArray} {nL pc : Nat} {rm : Room} {lv : List (Nat × Value)} {st : List Value} {M : Mm} (X : CX G E RX6 cc nL rm) (hR : 3 + 1 ≤ rm.frames ∧ 8 + (4 + 11) + 74 ≤ rm.locals) (hst : (st.map fun v => v.category).sum ≤ 8) (d : decode cc pc = .ok (.invokevirtual 142, 3))  {P : Mm → Prop} (h : wp_X5_reckon  M P) (k1 : ∀ M2 : Mm, P M2 → J G E nL (pc + 3) lv st M2) : J G E nL pc lv (.ref (adr G 5 0) :: st) M := fun H locs ls hP hS hl => by
  have hK := X.2.2.2.2.2.1.1
  have hm := met_X5_reckon (l := eL E) X.2.2.2.2.2.2.1  M P h
  have hR2 : 3 + 1 ≤ (eR E).frames ∧ 8 + (4 + 11) + 74 ≤ (eR E).locals := by rw [X.2.2.2.2.2.2.2.1]; exact hR
  have hC2 : eCells E + 0 ≤ (eR E).cells ∧ eSlots E + 0 ≤ (eR E).slots := by rw [X.2.2.2.2.2.2.2.1]; exact ⟨X.2.2.2.2.2.2.2.2.1, X.2.2.2.2.2.2.2.2.2⟩
  obtain ⟨q0, -, hq⟩ := wld_get (G := G) M (mw5 0 (by decide))
  exact va_callv (va_runV (C := RX5) (As := []) (rest := st) ⟨X.1, X.2.1, X.2.2.1, X.2.2.2.1, X.2.2.2.2.1⟩ hm (cwV (ws' := lw_aw) 0 X.2.2.2.2.1 (gwV (tw (i := 556) (by decide +kernel)) (tw (i := 557) (by decide +kernel)) (tw (i := 558) (by decide +kernel)) (tw (i := 72) (by decide +kernel)) (tw (i := 559) (by decide +kernel))) rfl rfl rfl (by decide +kernel) hR2) ⟨hr_blind, va_recv hK hP (ci := 5) (q := (RX5, TX5, 16)) (fs := objF5 G 0 (M.1 5 0)) (q0 := q0) rfl hq, fun U hU hW => ⟨rfl, by rw [hU]; exact hP, KK.warm hW X.2.2.2.2.2.1⟩⟩ rfl rfl hl.1 rfl (lv_room hst) d hC2) hS (fun q _ h => h) (fun q h => h) (fun u t H1 locs1 ht hvm hw hB hz1 hk1 hS1 => k1 u hw H1 locs1 ls (by rw [← ht]; exact hB.1) hS1 hl)
/-- LayeredClaims$Year.isClaimOf(III)Z -/
def wp_X5_isClaimOf (a1 : Int32) (a2 : Int32) (a3 : Int32) (M : Mm) (P : Int32 → Mm → Prop) : Prop := (vp_in a1 24 ∧ ((¬ (rd M 36 0 a1.toNatClampNeg) = a2 → P (0 : Int32) M) ∧ ((rd M 36 0 a1.toNatClampNeg) = a2 → ((¬ (rd M 37 0 a1.toNatClampNeg) = a3 → P (0 : Int32) M) ∧ ((rd M 37 0 a1.toNatClampNeg) = a3 → P (1 : Int32) M)))))
set_option maxHeartbeats 4000000 in
set_option maxRecDepth 100000 in
theorem met_X5_isClaimOf {l : Launch} {G : GT} (hG : GD G) (a1 : Int32) (a2 : Int32) (a3 : Int32) (M : Mm) (P : Int32 → Mm → Prop) (h : wp_X5_isClaimOf a1 a2 a3 M P) : MI l G yX5_isClaimOf cX5_isClaimOf 4 (some .boolean) ({ frames := 0, cells := 0, slots := 0, locals := 0 } : Room) [.ref (adr G 5 0), .int a1, .int a2, .int a3] M P := by
  refine met_by hG (own := RX5) rfl (by decide +kernel) (Nat.le_of_ble_eq_true rfl) (fun E hE X Y => ?_)
  show J G E 4 0 [(0, .ref (adr G 5 0)), (1, .int a1), (2, .int a2), (3, .int a3)] [] M
  unfold wp_X5_isClaimOf at h
  refine j_aload_n X 0 dX5_isClaimOf_0 rfl rfl ?_
  refine jf_RX5_12 X  dX5_isClaimOf_1 ?_
  refine jf_RX5_113 X (by decide) dX5_isClaimOf_4 ?_
  refine j_iload_n X 1 dX5_isClaimOf_7 rfl rfl ?_
  have q1 := h.1
  replace h := h.2
  refine j_iald X _ rfl (mw36 0 (by decide)) kt36 lt36 q1 dX5_isClaimOf_8 ?_
  refine j_iload_n X 2 dX5_isClaimOf_9 rfl rfl ?_
  refine j_icmp_ne X 30 dX5_isClaimOf_10 (by decide) (fun c2 => ?_) (fun c2 => ?_)
  · replace h := h.1 c2
    refine j_iconst (v := (0 : Int32)) X (by decide) dX5_isClaimOf_30 ?_
    exact j_zret X Y dX5_isClaimOf_31 rfl h
  · replace h := h.2 c2
    refine j_aload_n X 0 dX5_isClaimOf_13 rfl rfl ?_
    refine jf_RX5_12 X  dX5_isClaimOf_14 ?_
    refine jf_RX5_123 X (by decide) dX5_isClaimOf_17 ?_
    refine j_iload_n X 1 dX5_isClaimOf_20 rfl rfl ?_
    refine j_iald X _ rfl (mw37 0 (by decide)) kt37 lt37 q1 dX5_isClaimOf_21 ?_
    refine j_iload_n X 3 dX5_isClaimOf_22 rfl rfl ?_
    refine j_icmp_ne X 30 dX5_isClaimOf_23 (by decide) (fun c3 => ?_) (fun c3 => ?_)
    · replace h := h.1 c3
      refine j_iconst (v := (0 : Int32)) X (by decide) dX5_isClaimOf_30 ?_
      exact j_zret X Y dX5_isClaimOf_31 rfl h
    · replace h := h.2 c3
      refine j_iconst (v := (1 : Int32)) X (by decide) dX5_isClaimOf_26 ?_
      refine j_goto X 31 dX5_isClaimOf_27 (by decide) ?_
      exact j_zret X Y dX5_isClaimOf_31 rfl h
theorem jc_RX5_172 {G : GT} {E : ET} {cc : ByteArray} {nL pc : Nat} {rm : Room} {lv : List (Nat × Value)} {st : List Value} {M : Mm} (X : CX G E RX5 cc nL rm) (hR : 0 + 1 ≤ rm.frames ∧ 8 + (4 + 11) + 0 ≤ rm.locals) (hst : (st.map fun v => v.category).sum ≤ 8) (d : decode cc pc = .ok (.invokevirtual 172, 3)) {a1 : Int32} {a2 : Int32} {a3 : Int32} {P : Int32 → Mm → Prop} (h : wp_X5_isClaimOf a1 a2 a3 M P) (k1 : ∀ (r : Int32) (M2 : Mm), P r M2 → J G E nL (pc + 3) lv (.int r :: st) M2) : J G E nL pc lv (.int a3 :: .int a2 :: .int a1 :: .ref (adr G 5 0) :: st) M := fun H locs ls hP hS hl => by
  have hK := X.2.2.2.2.2.1.1
  have hm := met_X5_isClaimOf (l := eL E) X.2.2.2.2.2.2.1 a1 a2 a3 M P h
  have hR2 : 0 + 1 ≤ (eR E).frames ∧ 8 + (4 + 11) + 0 ≤ (eR E).locals := by rw [X.2.2.2.2.2.2.2.1]; exact hR
  have hC2 : eCells E + 0 ≤ (eR E).cells ∧ eSlots E + 0 ≤ (eR E).slots := by rw [X.2.2.2.2.2.2.2.1]; exact ⟨X.2.2.2.2.2.2.2.2.1, X.2.2.2.2.2.2.2.2.2⟩
  obtain ⟨q0, -, hq⟩ := wld_get (G := G) M (mw5 0 (by decide))
  exact va_calli (va_runV (C := RX5) (As := [.int a1, .int a2, .int a3]) (rest := st) ⟨X.1, X.2.1, X.2.2.1, X.2.2.2.1, X.2.2.2.2.1⟩ hm (cwV (ws' := lw_aw) 3 X.2.2.2.2.1 (gwV (tw (i := 676) (by decide +kernel)) (tw (i := 678) (by decide +kernel)) (tw (i := 16) (by decide +kernel)) (tw (i := 72) (by decide +kernel)) (tw (i := 679) (by decide +kernel))) rfl rfl rfl (by decide +kernel) hR2) ⟨hr_blind, va_recv hK hP (ci := 5) (q := (RX5, TX5, 16)) (fs := objF5 G 0 (M.1 5 0)) (q0 := q0) rfl hq, fun U hU hW => ⟨rfl, by rw [hU]; exact hP, KK.warm hW X.2.2.2.2.2.1⟩⟩ rfl rfl hl.1 rfl (lv_room hst) d hC2) hS (fun q _ h => h) (fun q h => h) (fun r u t H1 locs1 ht hvm hw hB hz1 hk1 hS1 => k1 r u hw H1 locs1 ls (by rw [← ht]; exact hB.1) hS1 hl)
/-- LayeredClaims$Year.payClaims(II)V -/
def wp_X5_payClaims (a1 : Int32) (a2 : Int32) (M : Mm) (P : Mm → Prop) : Prop := (∃ n, lq2 (fun self1 (x3 : Int32) (M4 : Mm) => (((rd M4 0 0 15) ≤ x3 → (vp_in a1 8 ∧ (a1.toNatClampNeg < 8 ∧ (vp_in a2 6 ∧ (wp_X2_shareOut (rd M4 328 a1.toNatClampNeg a2.toNatClampNeg) (rd M4 0 0 15) M4 (fun (M9 : Mm) => (∃ n, lq2 (fun self10 (x12 : Int32) (M13 : Mm) => (((rd M13 0 0 15) ≤ x12 → P M13) ∧ (¬ (rd M13 0 0 15) ≤ x12 → (wp_X5_isClaimOf x12 a1 a2 M13 (fun (r16 : Int32) (M15 : Mm) => (jn (fun  (M17 : Mm) => (∀ x20 : Int32, x20 = x12 + (1 : Int32) → self10 x20 M17)) (fun J18 : Mm → Prop => ((r16 = 0 → J18 M15) ∧ (¬ r16 = 0 → (vp_in x12 24 ∧ (∀ M23 : Mm, M23 = wr M15 134 0 x12.toNatClampNeg (rd M15 61 0 x12.toNatClampNeg) → J18 M23))))))))))) n (0 : Int32) M9))))))) ∧ (¬ (rd M4 0 0 15) ≤ x3 → (wp_X5_isClaimOf x3 a1 a2 M4 (fun (r25 : Int32) (M24 : Mm) => (jn (fun (v26 : Int32) => (vp_in x3 24 ∧ (∀ M30 : Mm, M30 = wr M24 60 0 x3.toNatClampNeg v26 → (∀ x31 : Int32, x31 = x3 + (1 : Int32) → self1 x31 M30)))) (fun J27 : Int32 → Prop => ((r25 = 0 → J27 (0 : Int32)) ∧ (¬ r25 = 0 → (vp_in x3 24 ∧ J27 (rd M24 123 0 x3.toNatClampNeg))))))))))) n (0 : Int32) M)
set_option maxHeartbeats 4000000 in
set_option maxRecDepth 100000 in
theorem met_X5_payClaims {l : Launch} {G : GT} (hG : GD G) (a1 : Int32) (a2 : Int32) (M : Mm) (P : Mm → Prop) (h : wp_X5_payClaims a1 a2 M P) : MV l G yX5_payClaims cX5_payClaims 4 none ({ frames := 2, cells := 0, slots := 0, locals := 50 } : Room) [.ref (adr G 5 0), .int a1, .int a2] M P := by
  refine met_by hG (own := RX5) rfl (by decide +kernel) (Nat.le_of_ble_eq_true rfl) (fun E hE X Y => ?_)
  show J G E 4 0 [(0, .ref (adr G 5 0)), (1, .int a1), (2, .int a2)] [] M
  unfold wp_X5_payClaims at h
  refine j_iconst (v := (0 : Int32)) X (by decide) dX5_payClaims_0 ?_
  refine j_istore_n X [(3, .int (0 : Int32)), (0, .ref (adr G 5 0)), (1, .int a1), (2, .int a2)] dX5_payClaims_1 rfl (by decide) rfl ?_
  refine j_sub [1, 2, 3, 0] rfl ?_
  refine lq2_s h (fun (x3 : Int32) (M4 : Mm) => J G E 4 2 [(0, .ref (adr G 5 0)), (1, .int a1), (2, .int a2), (3, .int x3)] [] M4) (fun self1 ih2 x3 M4 h => ?_) id
  refine j_iload_n X 3 dX5_payClaims_2 rfl rfl ?_
  refine j_aload_n X 0 dX5_payClaims_3 rfl rfl ?_
  refine jf_RX5_12 X  dX5_payClaims_4 ?_
  refine jf_RX5_110 X (by decide) dX5_payClaims_7 ?_
  refine j_icmp_ge X 48 dX5_payClaims_10 (by decide) (fun c5 => ?_) (fun c5 => ?_)
  · replace h := h.1 c5
    refine j_aload_n X 0 dX5_payClaims_48 rfl rfl ?_
    refine jf_RX5_66 X  dX5_payClaims_49 ?_
    refine j_aload_n X 0 dX5_payClaims_52 rfl rfl ?_
    refine jf_RX5_42 X  dX5_payClaims_53 ?_
    refine j_iload_n X 1 dX5_payClaims_56 rfl rfl ?_
    have q6 := h.1
    replace h := h.2
    refine j_aaldI X (mw128 0 (by decide)) kt128 lt128 q6 dX5_payClaims_57 ?_
    refine j_iload_n X 2 dX5_payClaims_58 rfl rfl ?_
    have q7 := h.1
    replace h := h.2
    have q8 := h.1
    replace h := h.2
    refine j_iald X _ rfl (mw328 a1.toNatClampNeg q7) kt328 lt328 q8 dX5_payClaims_59 ?_
    refine j_aload_n X 0 dX5_payClaims_60 rfl rfl ?_
    refine jf_RX5_12 X  dX5_payClaims_61 ?_
    refine jf_RX5_110 X (by decide) dX5_payClaims_64 ?_
    refine jc_RX5_148 X ⟨Nat.le_of_ble_eq_true rfl, Nat.le_of_ble_eq_true rfl⟩ (Nat.le_of_ble_eq_true rfl) dX5_payClaims_67 h (fun M9 h => ?_)
    refine j_iconst (v := (0 : Int32)) X (by decide) dX5_payClaims_70 ?_
    refine j_istore_n X [(3, .int (0 : Int32)), (0, .ref (adr G 5 0)), (1, .int a1), (2, .int a2)] dX5_payClaims_71 rfl (by decide) rfl ?_
    refine j_sub [1, 2, 3, 0] rfl ?_
    refine lq2_s h (fun (x12 : Int32) (M13 : Mm) => J G E 4 72 [(0, .ref (adr G 5 0)), (1, .int a1), (2, .int a2), (3, .int x12)] [] M13) (fun self10 ih11 x12 M13 h => ?_) id
    refine j_iload_n X 3 dX5_payClaims_72 rfl rfl ?_
    refine j_aload_n X 0 dX5_payClaims_73 rfl rfl ?_
    refine jf_RX5_12 X  dX5_payClaims_74 ?_
    refine jf_RX5_110 X (by decide) dX5_payClaims_77 ?_
    refine j_icmp_ge X 114 dX5_payClaims_80 (by decide) (fun c14 => ?_) (fun c14 => ?_)
    · replace h := h.1 c14
      exact j_vret X Y dX5_payClaims_114 h
    · replace h := h.2 c14
      refine j_aload_n X 0 dX5_payClaims_83 rfl rfl ?_
      refine j_iload_n X 3 dX5_payClaims_84 rfl rfl ?_
      refine j_iload_n X 1 dX5_payClaims_85 rfl rfl ?_
      refine j_iload_n X 2 dX5_payClaims_86 rfl rfl ?_
      refine jc_RX5_172 X ⟨Nat.le_of_ble_eq_true rfl, Nat.le_of_ble_eq_true rfl⟩ (Nat.le_of_ble_eq_true rfl) dX5_payClaims_87 h (fun r16 M15 h => ?_)
      refine jn1_s h (fun  (M17 : Mm) => J G E 4 108 [(0, .ref (adr G 5 0)), (1, .int a1), (2, .int a2), (3, .int x12)] [] M17) (fun M17 h => ?_) (fun J18 hj19 h => ?_)
      · obtain ⟨x20, ex20⟩ : ∃ z : Int32, z = x12 + (1 : Int32) := ⟨_, rfl⟩
        replace h := h x20 ex20
        refine j_iinc (v := x20) X 3 [(3, .int x20), (0, .ref (adr G 5 0)), (1, .int a1), (2, .int a2)] dX5_payClaims_108 rfl (by rw [ex20]; rfl) (by decide) rfl ?_
        refine j_goto X 72 dX5_payClaims_111 (by decide) ?_
        refine j_sub [1, 2, 3, 0] rfl ?_
        exact ih11 x20 M17 h
      · refine j_if_eq X 108 dX5_payClaims_90 (by decide) (fun c21 => ?_) (fun c21 => ?_)
        · replace h := h.1 c21
          refine j_sub [0, 1, 2, 3] rfl ?_
          exact hj19 M15 h
        · replace h := h.2 c21
          refine j_aload_n X 0 dX5_payClaims_93 rfl rfl ?_
          refine jf_RX5_60 X  dX5_payClaims_94 ?_
          refine j_iload_n X 3 dX5_payClaims_97 rfl rfl ?_
          refine j_aload_n X 0 dX5_payClaims_98 rfl rfl ?_
          refine jf_RX5_66 X  dX5_payClaims_99 ?_
          refine jf_RX5_151 X  dX5_payClaims_102 ?_
          refine j_iload_n X 3 dX5_payClaims_105 rfl rfl ?_
          have q22 := h.1
          replace h := h.2
          refine j_iald X _ rfl (mw61 0 (by decide)) kt61 lt61 q22 dX5_payClaims_106 ?_
          refine j_iast X _ rfl (mw134 0 (by decide)) kt134 lt134 q22 dX5_payClaims_107 ?_
          refine j_memo (fun M23 eM23 => ?_)
          replace h := h M23 eM23
          refine j_sub [0, 1, 2, 3] rfl ?_
          exact hj19 M23 h
  · replace h := h.2 c5
    refine j_aload_n X 0 dX5_payClaims_13 rfl rfl ?_
    refine jf_RX5_66 X  dX5_payClaims_14 ?_
    refine jf_RX5_139 X  dX5_payClaims_17 ?_
    refine j_iload_n X 3 dX5_payClaims_20 rfl rfl ?_
    refine j_aload_n X 0 dX5_payClaims_21 rfl rfl ?_
    refine j_iload_n X 3 dX5_payClaims_22 rfl rfl ?_
    refine j_iload_n X 1 dX5_payClaims_23 rfl rfl ?_
    refine j_iload_n X 2 dX5_payClaims_24 rfl rfl ?_
    refine jc_RX5_172 X ⟨Nat.le_of_ble_eq_true rfl, Nat.le_of_ble_eq_true rfl⟩ (Nat.le_of_ble_eq_true rfl) dX5_payClaims_25 h (fun r25 M24 h => ?_)
    refine jn1_s h (fun (v26 : Int32) => J G E 4 41 [(0, .ref (adr G 5 0)), (1, .int a1), (2, .int a2), (3, .int x3)] [.int v26, .int x3, .ref (adr G 60 0)] M24) (fun v26 h => ?_) (fun J27 hj28 h => ?_)
    · have q29 := h.1
      replace h := h.2
      refine j_iast X _ rfl (mw60 0 (by decide)) kt60 lt60 q29 dX5_payClaims_41 ?_
      refine j_memo (fun M30 eM30 => ?_)
      replace h := h M30 eM30
      obtain ⟨x31, ex31⟩ : ∃ z : Int32, z = x3 + (1 : Int32) := ⟨_, rfl⟩
      replace h := h x31 ex31
      refine j_iinc (v := x31) X 3 [(3, .int x31), (0, .ref (adr G 5 0)), (1, .int a1), (2, .int a2)] dX5_payClaims_42 rfl (by rw [ex31]; rfl) (by decide) rfl ?_
      refine j_goto X 2 dX5_payClaims_45 (by decide) ?_
      refine j_sub [1, 2, 3, 0] rfl ?_
      exact ih2 x31 M30 h
    · refine j_if_eq X 40 dX5_payClaims_28 (by decide) (fun c32 => ?_) (fun c32 => ?_)
      · replace h := h.1 c32
        refine j_iconst (v := (0 : Int32)) X (by decide) dX5_payClaims_40 ?_
        refine j_sub [0, 1, 2, 3] rfl ?_
        exact hj28 (0 : Int32) h
      · replace h := h.2 c32
        refine j_aload_n X 0 dX5_payClaims_31 rfl rfl ?_
        refine jf_RX5_25 X  dX5_payClaims_32 ?_
        refine j_iload_n X 3 dX5_payClaims_35 rfl rfl ?_
        have q33 := h.1
        replace h := h.2
        refine j_iald X _ rfl (mw123 0 (by decide)) kt123 lt123 q33 dX5_payClaims_36 ?_
        refine j_goto X 41 dX5_payClaims_37 (by decide) ?_
        refine j_sub [0, 1, 2, 3] rfl ?_
        exact hj28 (rd M24 123 0 x3.toNatClampNeg) h
theorem jc_RX6_233 {G : GT} {E : ET} {cc : ByteArray} {nL pc : Nat} {rm : Room} {lv : List (Nat × Value)} {st : List Value} {M : Mm} (X : CX G E RX6 cc nL rm) (hR : 2 + 1 ≤ rm.frames ∧ 8 + (4 + 11) + 50 ≤ rm.locals) (hst : (st.map fun v => v.category).sum ≤ 8) (d : decode cc pc = .ok (.invokevirtual 233, 3)) {a1 : Int32} {a2 : Int32} {P : Mm → Prop} (h : wp_X5_payClaims a1 a2 M P) (k1 : ∀ M2 : Mm, P M2 → J G E nL (pc + 3) lv st M2) : J G E nL pc lv (.int a2 :: .int a1 :: .ref (adr G 5 0) :: st) M := fun H locs ls hP hS hl => by
  have hK := X.2.2.2.2.2.1.1
  have hm := met_X5_payClaims (l := eL E) X.2.2.2.2.2.2.1 a1 a2 M P h
  have hR2 : 2 + 1 ≤ (eR E).frames ∧ 8 + (4 + 11) + 50 ≤ (eR E).locals := by rw [X.2.2.2.2.2.2.2.1]; exact hR
  have hC2 : eCells E + 0 ≤ (eR E).cells ∧ eSlots E + 0 ≤ (eR E).slots := by rw [X.2.2.2.2.2.2.2.1]; exact ⟨X.2.2.2.2.2.2.2.2.1, X.2.2.2.2.2.2.2.2.2⟩
  obtain ⟨q0, -, hq⟩ := wld_get (G := G) M (mw5 0 (by decide))
  exact va_callv (va_runV (C := RX5) (As := [.int a1, .int a2]) (rest := st) ⟨X.1, X.2.1, X.2.2.1, X.2.2.2.1, X.2.2.2.2.1⟩ hm (cwV (ws' := lw_aw) 2 X.2.2.2.2.1 (gwV (tw (i := 672) (by decide +kernel)) (tw (i := 673) (by decide +kernel)) (tw (i := 674) (by decide +kernel)) (tw (i := 72) (by decide +kernel)) (tw (i := 675) (by decide +kernel))) rfl rfl rfl (by decide +kernel) hR2) ⟨hr_blind, va_recv hK hP (ci := 5) (q := (RX5, TX5, 16)) (fs := objF5 G 0 (M.1 5 0)) (q0 := q0) rfl hq, fun U hU hW => ⟨rfl, by rw [hU]; exact hP, KK.warm hW X.2.2.2.2.2.1⟩⟩ rfl rfl hl.1 rfl (lv_room hst) d hC2) hS (fun q _ h => h) (fun q h => h) (fun u t H1 locs1 ht hvm hw hB hz1 hk1 hS1 => k1 u hw H1 locs1 ls (by rw [← ht]; exact hB.1) hS1 hl)
theorem jc_RX5_199 {G : GT} {E : ET} {cc : ByteArray} {nL pc : Nat} {rm : Room} {lv : List (Nat × Value)} {st : List Value} {M : Mm} (X : CX G E RX5 cc nL rm) (hR : 2 + 1 ≤ rm.frames ∧ 8 + (4 + 11) + 50 ≤ rm.locals) (hst : (st.map fun v => v.category).sum ≤ 8) (d : decode cc pc = .ok (.invokevirtual 199, 3)) {a1 : Int32} {a2 : Int32} {P : Mm → Prop} (h : wp_X5_payClaims a1 a2 M P) (k1 : ∀ M2 : Mm, P M2 → J G E nL (pc + 3) lv st M2) : J G E nL pc lv (.int a2 :: .int a1 :: .ref (adr G 5 0) :: st) M := fun H locs ls hP hS hl => by
  have hK := X.2.2.2.2.2.1.1
  have hm := met_X5_payClaims (l := eL E) X.2.2.2.2.2.2.1 a1 a2 M P h
  have hR2 : 2 + 1 ≤ (eR E).frames ∧ 8 + (4 + 11) + 50 ≤ (eR E).locals := by rw [X.2.2.2.2.2.2.2.1]; exact hR
  have hC2 : eCells E + 0 ≤ (eR E).cells ∧ eSlots E + 0 ≤ (eR E).slots := by rw [X.2.2.2.2.2.2.2.1]; exact ⟨X.2.2.2.2.2.2.2.2.1, X.2.2.2.2.2.2.2.2.2⟩
  obtain ⟨q0, -, hq⟩ := wld_get (G := G) M (mw5 0 (by decide))
  exact va_callv (va_runV (C := RX5) (As := [.int a1, .int a2]) (rest := st) ⟨X.1, X.2.1, X.2.2.1, X.2.2.2.1, X.2.2.2.2.1⟩ hm (cwV (ws' := lw_aw) 2 X.2.2.2.2.1 (gwV (tw (i := 783) (by decide +kernel)) (tw (i := 673) (by decide +kernel)) (tw (i := 674) (by decide +kernel)) (tw (i := 72) (by decide +kernel)) (tw (i := 675) (by decide +kernel))) rfl rfl rfl (by decide +kernel) hR2) ⟨hr_blind, va_recv hK hP (ci := 5) (q := (RX5, TX5, 16)) (fs := objF5 G 0 (M.1 5 0)) (q0 := q0) rfl hq, fun U hU hW => ⟨rfl, by rw [hU]; exact hP, KK.warm hW X.2.2.2.2.2.1⟩⟩ rfl rfl hl.1 rfl (lv_room hst) d hC2) hS (fun q _ h => h) (fun q h => h) (fun u t H1 locs1 ht hvm hw hB hz1 hk1 hS1 => k1 u hw H1 locs1 ls (by rw [← ht]; exact hB.1) hS1 hl)
/-- LayeredClaims$Year.reasonOfClaim(I)I -/
def wp_X5_reasonOfClaim (a1 : Int32) (M : Mm) (P : Int32 → Mm → Prop) : Prop := (vp_in a1 24 ∧ (∀ x2 : Int32, x2 = (rd M 36 0 a1.toNatClampNeg) → (∀ x3 : Int32, x3 = (rd M 37 0 a1.toNatClampNeg) → ((¬ (rd M 134 0 a1.toNatClampNeg) = 0 → (vp_in x2 8 ∧ (x2.toNatClampNeg < 8 ∧ (vp_in x3 6 ∧ (wp_X5_dueFromCover x2 x3 M (fun (r9 : Int32) (M8 : Mm) => ((r9 ≤ (rd M 328 x2.toNatClampNeg x3.toNatClampNeg) → (((rd M8 324 x2.toNatClampNeg x3.toNatClampNeg) ≤ (rd M8 325 x2.toNatClampNeg x3.toNatClampNeg) → (((rd M8 326 x2.toNatClampNeg x3.toNatClampNeg) ≤ 0 → P (0 : Int32) M8) ∧ (¬ (rd M8 326 x2.toNatClampNeg x3.toNatClampNeg) ≤ 0 → P (5 : Int32) M8))) ∧ (¬ (rd M8 324 x2.toNatClampNeg x3.toNatClampNeg) ≤ (rd M8 325 x2.toNatClampNeg x3.toNatClampNeg) → P (4 : Int32) M8))) ∧ (¬ r9 ≤ (rd M 328 x2.toNatClampNeg x3.toNatClampNeg) → P (3 : Int32) M8)))))))) ∧ ((rd M 134 0 a1.toNatClampNeg) = 0 → (vp_in x2 8 ∧ (x2.toNatClampNeg < 8 ∧ (vp_in x3 6 ∧ ((¬ (rd M 327 x2.toNatClampNeg x3.toNatClampNeg) = 0 → P (2 : Int32) M) ∧ ((rd M 327 x2.toNatClampNeg x3.toNatClampNeg) = 0 → P (1 : Int32) M))))))))))
set_option maxHeartbeats 4000000 in
set_option maxRecDepth 100000 in
theorem met_X5_reasonOfClaim {l : Launch} {G : GT} (hG : GD G) (a1 : Int32) (M : Mm) (P : Int32 → Mm → Prop) (h : wp_X5_reasonOfClaim a1 M P) : MI l G yX5_reasonOfClaim cX5_reasonOfClaim 4 (some .int) ({ frames := 1, cells := 0, slots := 0, locals := 22 } : Room) [.ref (adr G 5 0), .int a1] M P := by
  refine met_by hG (own := RX5) rfl (by decide +kernel) (Nat.le_of_ble_eq_true rfl) (fun E hE X Y => ?_)
  show J G E 4 0 [(0, .ref (adr G 5 0)), (1, .int a1)] [] M
  unfold wp_X5_reasonOfClaim at h
  refine j_aload_n X 0 dX5_reasonOfClaim_0 rfl rfl ?_
  refine jf_RX5_12 X  dX5_reasonOfClaim_1 ?_
  refine jf_RX5_113 X (by decide) dX5_reasonOfClaim_4 ?_
  refine j_iload_n X 1 dX5_reasonOfClaim_7 rfl rfl ?_
  have q1 := h.1
  replace h := h.2
  refine j_iald X _ rfl (mw36 0 (by decide)) kt36 lt36 q1 dX5_reasonOfClaim_8 ?_
  refine j_topi (fun x2 ex2 => ?_)
  replace h := h x2 ex2
  refine j_istore_n X [(2, .int x2), (0, .ref (adr G 5 0)), (1, .int a1)] dX5_reasonOfClaim_9 rfl (by decide) rfl ?_
  refine j_aload_n X 1 dX5_reasonOfClaim_10 rfl rfl ?_
  refine jf_RX5_12 X  dX5_reasonOfClaim_11 ?_
  refine jf_RX5_123 X (by decide) dX5_reasonOfClaim_14 ?_
  refine j_iload_n X 2 dX5_reasonOfClaim_17 rfl rfl ?_
  refine j_iald X _ rfl (mw37 0 (by decide)) kt37 lt37 q1 dX5_reasonOfClaim_18 ?_
  refine j_topi (fun x3 ex3 => ?_)
  replace h := h x3 ex3
  refine j_istore_n X [(3, .int x3), (2, .int x2), (0, .ref (adr G 5 0)), (1, .int a1)] dX5_reasonOfClaim_19 rfl (by decide) rfl ?_
  refine j_aload_n X 2 dX5_reasonOfClaim_20 rfl rfl ?_
  refine jf_RX5_60 X  dX5_reasonOfClaim_21 ?_
  refine j_iload_n X 3 dX5_reasonOfClaim_24 rfl rfl ?_
  refine j_iald X _ rfl (mw134 0 (by decide)) kt134 lt134 q1 dX5_reasonOfClaim_25 ?_
  refine j_if_ne X 46 dX5_reasonOfClaim_26 (by decide) (fun c4 => ?_) (fun c4 => ?_)
  · replace h := h.1 c4
    refine j_aload_n X 2 dX5_reasonOfClaim_46 rfl rfl ?_
    refine jf_RX5_42 X  dX5_reasonOfClaim_47 ?_
    refine j_iload_n X 1 dX5_reasonOfClaim_50 rfl rfl ?_
    have q5 := h.1
    replace h := h.2
    refine j_aaldI X (mw128 0 (by decide)) kt128 lt128 q5 dX5_reasonOfClaim_51 ?_
    refine j_iload_n X 0 dX5_reasonOfClaim_52 rfl rfl ?_
    have q6 := h.1
    replace h := h.2
    have q7 := h.1
    replace h := h.2
    refine j_iald X _ rfl (mw328 x2.toNatClampNeg q6) kt328 lt328 q7 dX5_reasonOfClaim_53 ?_
    refine j_aload_n X 2 dX5_reasonOfClaim_54 rfl rfl ?_
    refine j_iload_n X 1 dX5_reasonOfClaim_55 rfl rfl ?_
    refine j_iload_n X 0 dX5_reasonOfClaim_56 rfl rfl ?_
    refine jc_RX5_154 X ⟨Nat.le_of_ble_eq_true rfl, Nat.le_of_ble_eq_true rfl⟩ (Nat.le_of_ble_eq_true rfl) dX5_reasonOfClaim_57 h (fun r9 M8 h => ?_)
    refine j_icmp_ge X 65 dX5_reasonOfClaim_60 (by decide) (fun c10 => ?_) (fun c10 => ?_)
    · replace h := h.1 c10
      refine j_aload_n X 2 dX5_reasonOfClaim_65 rfl rfl ?_
      refine jf_RX5_33 X  dX5_reasonOfClaim_66 ?_
      refine j_iload_n X 1 dX5_reasonOfClaim_69 rfl rfl ?_
      refine j_aaldI X (mw125 0 (by decide)) kt125 lt125 q5 dX5_reasonOfClaim_70 ?_
      refine j_iload_n X 0 dX5_reasonOfClaim_71 rfl rfl ?_
      refine j_iald X _ rfl (mw325 x2.toNatClampNeg q6) kt325 lt325 q7 dX5_reasonOfClaim_72 ?_
      refine j_aload_n X 2 dX5_reasonOfClaim_73 rfl rfl ?_
      refine jf_RX5_30 X  dX5_reasonOfClaim_74 ?_
      refine j_iload_n X 1 dX5_reasonOfClaim_77 rfl rfl ?_
      refine j_aaldI X (mw124 0 (by decide)) kt124 lt124 q5 dX5_reasonOfClaim_78 ?_
      refine j_iload_n X 0 dX5_reasonOfClaim_79 rfl rfl ?_
      refine j_iald X _ rfl (mw324 x2.toNatClampNeg q6) kt324 lt324 q7 dX5_reasonOfClaim_80 ?_
      refine j_icmp_ge X 86 dX5_reasonOfClaim_81 (by decide) (fun c11 => ?_) (fun c11 => ?_)
      · replace h := h.1 c11
        refine j_aload_n X 2 dX5_reasonOfClaim_86 rfl rfl ?_
        refine jf_RX5_36 X  dX5_reasonOfClaim_87 ?_
        refine j_iload_n X 1 dX5_reasonOfClaim_90 rfl rfl ?_
        refine j_aaldI X (mw126 0 (by decide)) kt126 lt126 q5 dX5_reasonOfClaim_91 ?_
        refine j_iload_n X 0 dX5_reasonOfClaim_92 rfl rfl ?_
        refine j_iald X _ rfl (mw326 x2.toNatClampNeg q6) kt326 lt326 q7 dX5_reasonOfClaim_93 ?_
        refine j_if_le X 101 dX5_reasonOfClaim_94 (by decide) (fun c12 => ?_) (fun c12 => ?_)
        · replace h := h.1 c12
          refine j_iconst (v := (0 : Int32)) X (by decide) dX5_reasonOfClaim_101 ?_
          exact j_iret X Y dX5_reasonOfClaim_102 h
        · replace h := h.2 c12
          refine j_iconst (v := (5 : Int32)) X (by decide) dX5_reasonOfClaim_97 ?_
          refine j_goto X 102 dX5_reasonOfClaim_98 (by decide) ?_
          exact j_iret X Y dX5_reasonOfClaim_102 h
      · replace h := h.2 c11
        refine j_iconst (v := (4 : Int32)) X (by decide) dX5_reasonOfClaim_84 ?_
        exact j_iret X Y dX5_reasonOfClaim_85 h
    · replace h := h.2 c10
      refine j_iconst (v := (3 : Int32)) X (by decide) dX5_reasonOfClaim_63 ?_
      exact j_iret X Y dX5_reasonOfClaim_64 h
  · replace h := h.2 c4
    refine j_aload_n X 2 dX5_reasonOfClaim_29 rfl rfl ?_
    refine jf_RX5_39 X  dX5_reasonOfClaim_30 ?_
    refine j_iload_n X 1 dX5_reasonOfClaim_33 rfl rfl ?_
    have q13 := h.1
    replace h := h.2
    refine j_aaldI X (mw127 0 (by decide)) kt127 lt127 q13 dX5_reasonOfClaim_34 ?_
    refine j_iload_n X 0 dX5_reasonOfClaim_35 rfl rfl ?_
    have q14 := h.1
    replace h := h.2
    have q15 := h.1
    replace h := h.2
    refine j_iald X _ rfl (mw327 x2.toNatClampNeg q14) kt327 lt327 q15 dX5_reasonOfClaim_36 ?_
    refine j_if_ne X 44 dX5_reasonOfClaim_37 (by decide) (fun c16 => ?_) (fun c16 => ?_)
    · replace h := h.1 c16
      refine j_iconst (v := (2 : Int32)) X (by decide) dX5_reasonOfClaim_44 ?_
      exact j_iret X Y dX5_reasonOfClaim_45 h
    · replace h := h.2 c16
      refine j_iconst (v := (1 : Int32)) X (by decide) dX5_reasonOfClaim_40 ?_
      refine j_goto X 45 dX5_reasonOfClaim_41 (by decide) ?_
      exact j_iret X Y dX5_reasonOfClaim_45 h
theorem jc_RX6_246 {G : GT} {E : ET} {cc : ByteArray} {nL pc : Nat} {rm : Room} {lv : List (Nat × Value)} {st : List Value} {M : Mm} (X : CX G E RX6 cc nL rm) (hR : 1 + 1 ≤ rm.frames ∧ 8 + (4 + 11) + 22 ≤ rm.locals) (hst : (st.map fun v => v.category).sum ≤ 8) (d : decode cc pc = .ok (.invokevirtual 246, 3)) {a1 : Int32} {P : Int32 → Mm → Prop} (h : wp_X5_reasonOfClaim a1 M P) (k1 : ∀ (r : Int32) (M2 : Mm), P r M2 → J G E nL (pc + 3) lv (.int r :: st) M2) : J G E nL pc lv (.int a1 :: .ref (adr G 5 0) :: st) M := fun H locs ls hP hS hl => by
  have hK := X.2.2.2.2.2.1.1
  have hm := met_X5_reasonOfClaim (l := eL E) X.2.2.2.2.2.2.1 a1 M P h
  have hR2 : 1 + 1 ≤ (eR E).frames ∧ 8 + (4 + 11) + 22 ≤ (eR E).locals := by rw [X.2.2.2.2.2.2.2.1]; exact hR
  have hC2 : eCells E + 0 ≤ (eR E).cells ∧ eSlots E + 0 ≤ (eR E).slots := by rw [X.2.2.2.2.2.2.2.1]; exact ⟨X.2.2.2.2.2.2.2.2.1, X.2.2.2.2.2.2.2.2.2⟩
  obtain ⟨q0, -, hq⟩ := wld_get (G := G) M (mw5 0 (by decide))
  exact va_calli (va_runV (C := RX5) (As := [.int a1]) (rest := st) ⟨X.1, X.2.1, X.2.2.1, X.2.2.2.1, X.2.2.2.2.1⟩ hm (cwV (ws' := lw_aw) 1 X.2.2.2.2.1 (gwV (tw (i := 680) (by decide +kernel)) (tw (i := 681) (by decide +kernel)) (tw (i := 682) (by decide +kernel)) (tw (i := 72) (by decide +kernel)) (tw (i := 683) (by decide +kernel))) rfl rfl rfl (by decide +kernel) hR2) ⟨hr_blind, va_recv hK hP (ci := 5) (q := (RX5, TX5, 16)) (fs := objF5 G 0 (M.1 5 0)) (q0 := q0) rfl hq, fun U hU hW => ⟨rfl, by rw [hU]; exact hP, KK.warm hW X.2.2.2.2.2.1⟩⟩ rfl rfl hl.1 rfl (lv_room hst) d hC2) hS (fun q _ h => h) (fun q h => h) (fun r u t H1 locs1 ht hvm hw hB hz1 hk1 hS1 => k1 r u hw H1 locs1 ls (by rw [← ht]; exact hB.1) hS1 hl)
