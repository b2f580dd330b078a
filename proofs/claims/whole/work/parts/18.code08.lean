/-- LayeredClaimsModel.leftBefore(II)I -/
def wp_X7_leftBefore (a1 : Int32) (a2 : Int32) (M : Mm) (P : Int32 → Mm → Prop) : Prop := (wp_X7_areThere a1 a2 M (fun (r2 : Int32) (M1 : Mm) => ((r2 = 0 → P (-1 : Int32) M1) ∧ (¬ r2 = 0 → (wp_X7_positionOf a1 M1 (fun (r5 : Int32) (M4 : Mm) => (wp_X7_leftAt r5 a2 M4 (fun (r7 : Int32) (M6 : Mm) => P r7 M6))))))))
set_option maxHeartbeats 4000000 in
set_option maxRecDepth 100000 in
theorem met_X7_leftBefore {l : Launch} {G : GT} (hG : GD G) (a1 : Int32) (a2 : Int32) (M : Mm) (P : Int32 → Mm → Prop) (h : wp_X7_leftBefore a1 a2 M P) : MI l G yX7_leftBefore cX7_leftBefore 3 (some .int) ({ frames := 6, cells := 0, slots := 0, locals := 140 } : Room) [.ref (adr G 7 0), .int a1, .int a2] M P := by
  refine met_by hG (own := RX7) rfl (by decide +kernel) (Nat.le_of_ble_eq_true rfl) (fun E hE X Y => ?_)
  show J G E 3 0 [(0, .ref (adr G 7 0)), (1, .int a1), (2, .int a2)] [] M
  unfold wp_X7_leftBefore at h
  refine j_aload_n X 0 dX7_leftBefore_0 rfl rfl ?_
  refine j_iload_n X 1 dX7_leftBefore_1 rfl rfl ?_
  refine j_iload_n X 2 dX7_leftBefore_2 rfl rfl ?_
  refine jc_RX7_223 X ⟨Nat.le_of_ble_eq_true rfl, Nat.le_of_ble_eq_true rfl⟩ (Nat.le_of_ble_eq_true rfl) dX7_leftBefore_3 h (fun r2 M1 h => ?_)
  refine j_if_eq X 22 dX7_leftBefore_6 (by decide) (fun c3 => ?_) (fun c3 => ?_)
  · replace h := h.1 c3
    refine j_iconst (v := (-1 : Int32)) X (by decide) dX7_leftBefore_22 ?_
    exact j_iret X Y dX7_leftBefore_23 h
  · replace h := h.2 c3
    refine j_aload_n X 0 dX7_leftBefore_9 rfl rfl ?_
    refine j_aload_n X 0 dX7_leftBefore_10 rfl rfl ?_
    refine j_iload_n X 1 dX7_leftBefore_11 rfl rfl ?_
    refine jc_RX7_133 X ⟨Nat.le_of_ble_eq_true rfl, Nat.le_of_ble_eq_true rfl⟩ (Nat.le_of_ble_eq_true rfl) dX7_leftBefore_12 h (fun r5 M4 h => ?_)
    refine j_iload_n X 2 dX7_leftBefore_15 rfl rfl ?_
    refine jc_RX7_166 X ⟨Nat.le_of_ble_eq_true rfl, Nat.le_of_ble_eq_true rfl⟩ (Nat.le_of_ble_eq_true rfl) dX7_leftBefore_16 h (fun r7 M6 h => ?_)
    refine j_goto X 23 dX7_leftBefore_19 (by decide) ?_
    exact j_iret X Y dX7_leftBefore_23 h
/-- LayeredClaimsModel.borne(II)I -/
def wp_X7_borne (a1 : Int32) (a2 : Int32) (M : Mm) (P : Int32 → Mm → Prop) : Prop := (wp_X7_isEvent a1 M (fun (r2 : Int32) (M1 : Mm) => ((r2 = 0 → P (-1 : Int32) M1) ∧ (¬ r2 = 0 → (wp_X7_isLayer a2 M1 (fun (r5 : Int32) (M4 : Mm) => ((r5 = 0 → P (-1 : Int32) M4) ∧ (¬ r5 = 0 → (wp_X7_borneOf a1 a2 M4 (fun (r8 : Int32) (M7 : Mm) => P r8 M7))))))))))
set_option maxHeartbeats 4000000 in
set_option maxRecDepth 100000 in
theorem met_X7_borne {l : Launch} {G : GT} (hG : GD G) (a1 : Int32) (a2 : Int32) (M : Mm) (P : Int32 → Mm → Prop) (h : wp_X7_borne a1 a2 M P) : MI l G yX7_borne cX7_borne 3 (some .int) ({ frames := 12, cells := 0, slots := 0, locals := 274 } : Room) [.ref (adr G 7 0), .int a1, .int a2] M P := by
  refine met_by hG (own := RX7) rfl (by decide +kernel) (Nat.le_of_ble_eq_true rfl) (fun E hE X Y => ?_)
  show J G E 3 0 [(0, .ref (adr G 7 0)), (1, .int a1), (2, .int a2)] [] M
  unfold wp_X7_borne at h
  refine j_aload_n X 0 dX7_borne_0 rfl rfl ?_
  refine j_iload_n X 1 dX7_borne_1 rfl rfl ?_
  refine jc_RX7_75 X ⟨Nat.le_of_ble_eq_true rfl, Nat.le_of_ble_eq_true rfl⟩ (Nat.le_of_ble_eq_true rfl) dX7_borne_2 h (fun r2 M1 h => ?_)
  refine j_if_eq X 25 dX7_borne_5 (by decide) (fun c3 => ?_) (fun c3 => ?_)
  · replace h := h.1 c3
    refine j_iconst (v := (-1 : Int32)) X (by decide) dX7_borne_25 ?_
    exact j_iret X Y dX7_borne_26 h
  · replace h := h.2 c3
    refine j_aload_n X 0 dX7_borne_8 rfl rfl ?_
    refine j_iload_n X 2 dX7_borne_9 rfl rfl ?_
    refine jc_RX7_202 X ⟨Nat.le_of_ble_eq_true rfl, Nat.le_of_ble_eq_true rfl⟩ (Nat.le_of_ble_eq_true rfl) dX7_borne_10 h (fun r5 M4 h => ?_)
    refine j_if_eq X 25 dX7_borne_13 (by decide) (fun c6 => ?_) (fun c6 => ?_)
    · replace h := h.1 c6
      refine j_iconst (v := (-1 : Int32)) X (by decide) dX7_borne_25 ?_
      exact j_iret X Y dX7_borne_26 h
    · replace h := h.2 c6
      refine j_aload_n X 0 dX7_borne_16 rfl rfl ?_
      refine j_iload_n X 1 dX7_borne_17 rfl rfl ?_
      refine j_iload_n X 2 dX7_borne_18 rfl rfl ?_
      refine jc_RX7_190 X ⟨Nat.le_of_ble_eq_true rfl, Nat.le_of_ble_eq_true rfl⟩ (Nat.le_of_ble_eq_true rfl) dX7_borne_19 h (fun r8 M7 h => ?_)
      refine j_goto X 26 dX7_borne_22 (by decide) ?_
      exact j_iret X Y dX7_borne_26 h
/-- LayeredClaimsModel.returned(II)I -/
def wp_X7_returned (a1 : Int32) (a2 : Int32) (M : Mm) (P : Int32 → Mm → Prop) : Prop := (wp_X7_isEvent a1 M (fun (r2 : Int32) (M1 : Mm) => ((r2 = 0 → P (-1 : Int32) M1) ∧ (¬ r2 = 0 → (wp_X7_in a2 (0 : Int32) (rd M1 160 0 1) M1 (fun (r5 : Int32) (M4 : Mm) => ((¬ r5 = 0 → (jn (fun (v7 : Int32) (M8 : Mm) => (vp_in ((56 : Int32) + a1) 136 ∧ (∀ x12 : Int32, x12 = (rd M8 160 0 ((56 : Int32) + a1).toNatClampNeg) → (∀ M13 : Mm, M13 = wr M8 160 0 ((56 : Int32) + a1).toNatClampNeg (0 : Int32) → (jn (fun (v14 : Int32) (M15 : Mm) => (∀ M18 : Mm, M18 = wr M15 160 0 ((56 : Int32) + a1).toNatClampNeg x12 → P (v14 - v7) M18)) (fun J16 : Int32 → Mm → Prop => (((rd M13 160 0 1) ≤ a2 → (wp_X7_retainedOf a1 M13 (fun (r21 : Int32) (M20 : Mm) => J16 r21 M20))) ∧ (¬ (rd M13 160 0 1) ≤ a2 → (wp_X7_borneOf a1 a2 M13 (fun (r23 : Int32) (M22 : Mm) => J16 r23 M22)))))))))) (fun J9 : Int32 → Mm → Prop => (((rd M4 160 0 1) ≤ a2 → (wp_X7_retainedOf a1 M4 (fun (r26 : Int32) (M25 : Mm) => J9 r26 M25))) ∧ (¬ (rd M4 160 0 1) ≤ a2 → (wp_X7_borneOf a1 a2 M4 (fun (r28 : Int32) (M27 : Mm) => J9 r28 M27))))))) ∧ (r5 = 0 → P (-1 : Int32) M4))))))))
set_option maxHeartbeats 4000000 in
set_option maxRecDepth 100000 in
theorem met_X7_returned {l : Launch} {G : GT} (hG : GD G) (a1 : Int32) (a2 : Int32) (M : Mm) (P : Int32 → Mm → Prop) (h : wp_X7_returned a1 a2 M P) : MI l G yX7_returned cX7_returned 6 (some .int) ({ frames := 13, cells := 0, slots := 0, locals := 297 } : Room) [.ref (adr G 7 0), .int a1, .int a2] M P := by
  refine met_by hG (own := RX7) rfl (by decide +kernel) (Nat.le_of_ble_eq_true rfl) (fun E hE X Y => ?_)
  show J G E 6 0 [(0, .ref (adr G 7 0)), (1, .int a1), (2, .int a2)] [] M
  unfold wp_X7_returned at h
  refine j_aload_n X 0 dX7_returned_0 rfl rfl ?_
  refine j_iload_n X 1 dX7_returned_1 rfl rfl ?_
  refine jc_RX7_75 X ⟨Nat.le_of_ble_eq_true rfl, Nat.le_of_ble_eq_true rfl⟩ (Nat.le_of_ble_eq_true rfl) dX7_returned_2 h (fun r2 M1 h => ?_)
  refine j_if_eq X 22 dX7_returned_5 (by decide) (fun c3 => ?_) (fun c3 => ?_)
  · replace h := h.1 c3
    refine j_iconst (v := (-1 : Int32)) X (by decide) dX7_returned_22 ?_
    exact j_iret X Y dX7_returned_23 h
  · replace h := h.2 c3
    refine j_iload_n X 2 dX7_returned_8 rfl rfl ?_
    refine j_iconst (v := (0 : Int32)) X (by decide) dX7_returned_9 ?_
    refine j_aload_n X 0 dX7_returned_10 rfl rfl ?_
    refine jf_RX7_9 X  dX7_returned_11 ?_
    refine j_iconst (v := (1 : Int32)) X (by decide) dX7_returned_14 ?_
    refine j_iald X 1 (by decide) (mw160 0 (by decide)) kt160 lt160 (vpc (by decide)) dX7_returned_15 ?_
    refine jc_RX7_61 X ⟨Nat.le_of_ble_eq_true rfl, Nat.le_of_ble_eq_true rfl⟩ (Nat.le_of_ble_eq_true rfl) dX7_returned_16 h (fun r5 M4 h => ?_)
    refine j_if_ne X 24 dX7_returned_19 (by decide) (fun c6 => ?_) (fun c6 => ?_)
    · replace h := h.1 c6
      refine j_iload_n X 2 dX7_returned_24 rfl rfl ?_
      refine j_aload_n X 0 dX7_returned_25 rfl rfl ?_
      refine jf_RX7_9 X  dX7_returned_26 ?_
      refine j_iconst (v := (1 : Int32)) X (by decide) dX7_returned_29 ?_
      refine j_iald X 1 (by decide) (mw160 0 (by decide)) kt160 lt160 (vpc (by decide)) dX7_returned_30 ?_
      refine jn2_s h (fun (v7 : Int32) (M8 : Mm) => J G E 6 48 [(0, .ref (adr G 7 0)), (1, .int a1), (2, .int a2)] [.int v7] M8) (fun v7 M8 h => ?_) (fun J9 hj10 h => ?_)
      · refine j_istore_n X [(3, .int v7), (0, .ref (adr G 7 0)), (1, .int a1), (2, .int a2)] dX7_returned_48 rfl (by decide) rfl ?_
        refine j_aload_n X 1 dX7_returned_49 rfl rfl ?_
        refine jf_RX7_9 X  dX7_returned_50 ?_
        refine j_bipush (v := (56 : Int32)) X (by decide) dX7_returned_53 ?_
        refine j_iload_n X 2 dX7_returned_55 rfl rfl ?_
        refine j_iadd X dX7_returned_56 ?_
        have q11 := h.1
        replace h := h.2
        refine j_iald X _ rfl (mw160 0 (by decide)) kt160 lt160 q11 dX7_returned_57 ?_
        refine j_topi (fun x12 ex12 => ?_)
        replace h := h x12 ex12
        refine j_istore X [(4, .int x12), (3, .int v7), (0, .ref (adr G 7 0)), (1, .int a1), (2, .int a2)] dX7_returned_58 (by decide) rfl ?_
        refine j_aload_n X 2 dX7_returned_60 rfl rfl ?_
        refine jf_RX7_9 X  dX7_returned_61 ?_
        refine j_bipush (v := (56 : Int32)) X (by decide) dX7_returned_64 ?_
        refine j_iload_n X 3 dX7_returned_66 rfl rfl ?_
        refine j_iadd X dX7_returned_67 ?_
        refine j_iconst (v := (0 : Int32)) X (by decide) dX7_returned_68 ?_
        refine j_iast X _ rfl (mw160 0 (by decide)) kt160 lt160 q11 dX7_returned_69 ?_
        refine j_memo (fun M13 eM13 => ?_)
        replace h := h M13 eM13
        refine j_iload_n X 4 dX7_returned_70 rfl rfl ?_
        refine j_aload_n X 2 dX7_returned_71 rfl rfl ?_
        refine jf_RX7_9 X  dX7_returned_72 ?_
        refine j_iconst (v := (1 : Int32)) X (by decide) dX7_returned_75 ?_
        refine j_iald X 1 (by decide) (mw160 0 (by decide)) kt160 lt160 (vpc (by decide)) dX7_returned_76 ?_
        refine jn2_s h (fun (v14 : Int32) (M15 : Mm) => J G E 6 94 [(0, .ref (adr G 7 0)), (1, .int a1), (3, .int v7), (4, .int x12)] [.int v14] M15) (fun v14 M15 h => ?_) (fun J16 hj17 h => ?_)
        · refine j_istore X [(5, .int v14), (0, .ref (adr G 7 0)), (1, .int a1), (3, .int v7), (4, .int x12)] dX7_returned_94 (by decide) rfl ?_
          refine j_aload_n X 1 dX7_returned_96 rfl rfl ?_
          refine jf_RX7_9 X  dX7_returned_97 ?_
          refine j_bipush (v := (56 : Int32)) X (by decide) dX7_returned_100 ?_
          refine j_iload_n X 2 dX7_returned_102 rfl rfl ?_
          refine j_iadd X dX7_returned_103 ?_
          refine j_iload X 4 dX7_returned_104 rfl ?_
          refine j_iast X _ rfl (mw160 0 (by decide)) kt160 lt160 q11 dX7_returned_106 ?_
          refine j_memo (fun M18 eM18 => ?_)
          replace h := h M18 eM18
          refine j_iload X 0 dX7_returned_107 rfl ?_
          refine j_iload_n X 3 dX7_returned_109 rfl rfl ?_
          refine j_isub X dX7_returned_110 ?_
          exact j_iret X Y dX7_returned_111 h
        · refine j_icmp_ge X 89 dX7_returned_77 (by decide) (fun c19 => ?_) (fun c19 => ?_)
          · replace h := h.1 c19
            refine j_aload_n X 2 dX7_returned_89 rfl rfl ?_
            refine j_iload_n X 3 dX7_returned_90 rfl rfl ?_
            refine jc_RX7_214 X ⟨Nat.le_of_ble_eq_true rfl, Nat.le_of_ble_eq_true rfl⟩ (Nat.le_of_ble_eq_true rfl) dX7_returned_91 h (fun r21 M20 h => ?_)
            refine j_sub [2, 3, 1, 0] rfl ?_
            exact hj17 r21 M20 h
          · replace h := h.2 c19
            refine j_aload_n X 2 dX7_returned_80 rfl rfl ?_
            refine j_iload_n X 3 dX7_returned_81 rfl rfl ?_
            refine j_iload_n X 4 dX7_returned_82 rfl rfl ?_
            refine jc_RX7_190 X ⟨Nat.le_of_ble_eq_true rfl, Nat.le_of_ble_eq_true rfl⟩ (Nat.le_of_ble_eq_true rfl) dX7_returned_83 h (fun r23 M22 h => ?_)
            refine j_goto X 94 dX7_returned_86 (by decide) ?_
            refine j_sub [2, 3, 1, 0] rfl ?_
            exact hj17 r23 M22 h
      · refine j_icmp_ge X 43 dX7_returned_31 (by decide) (fun c24 => ?_) (fun c24 => ?_)
        · replace h := h.1 c24
          refine j_aload_n X 0 dX7_returned_43 rfl rfl ?_
          refine j_iload_n X 1 dX7_returned_44 rfl rfl ?_
          refine jc_RX7_214 X ⟨Nat.le_of_ble_eq_true rfl, Nat.le_of_ble_eq_true rfl⟩ (Nat.le_of_ble_eq_true rfl) dX7_returned_45 h (fun r26 M25 h => ?_)
          refine j_sub [0, 1, 2] rfl ?_
          exact hj10 r26 M25 h
        · replace h := h.2 c24
          refine j_aload_n X 0 dX7_returned_34 rfl rfl ?_
          refine j_iload_n X 1 dX7_returned_35 rfl rfl ?_
          refine j_iload_n X 2 dX7_returned_36 rfl rfl ?_
          refine jc_RX7_190 X ⟨Nat.le_of_ble_eq_true rfl, Nat.le_of_ble_eq_true rfl⟩ (Nat.le_of_ble_eq_true rfl) dX7_returned_37 h (fun r28 M27 h => ?_)
          refine j_goto X 48 dX7_returned_40 (by decide) ?_
          refine j_sub [0, 1, 2] rfl ?_
          exact hj10 r28 M27 h
    · replace h := h.2 c6
      refine j_iconst (v := (-1 : Int32)) X (by decide) dX7_returned_22 ?_
      exact j_iret X Y dX7_returned_23 h
/-- LayeredClaimsModel.place(I)I -/
def wp_X7_place (a1 : Int32) (M : Mm) (P : Int32 → Mm → Prop) : Prop := (wp_X7_isEvent a1 M (fun (r2 : Int32) (M1 : Mm) => ((¬ r2 = 0 → (∃ n, lq3 (fun self4 (x6 : Int32) (x7 : Int32) (M8 : Mm) => (((rd M8 160 0 1) ≤ x7 → P x6 M8) ∧ (¬ (rd M8 160 0 1) ≤ x7 → (wp_X7_borneOf a1 x7 M8 (fun (r11 : Int32) (M10 : Mm) => (jn (fun (v12 : Int32) => (∀ x15 : Int32, x15 = x7 + (1 : Int32) → self4 v12 x15 M10)) (fun J13 : Int32 → Prop => ((r11 ≤ 0 → J13 x6) ∧ (¬ r11 ≤ 0 → J13 (x7 + (1 : Int32))))))))))) n (0 : Int32) (0 : Int32) M1)) ∧ (r2 = 0 → P (-1 : Int32) M1))))
set_option maxHeartbeats 4000000 in
set_option maxRecDepth 100000 in
theorem met_X7_place {l : Launch} {G : GT} (hG : GD G) (a1 : Int32) (M : Mm) (P : Int32 → Mm → Prop) (h : wp_X7_place a1 M P) : MI l G yX7_place cX7_place 4 (some .int) ({ frames := 12, cells := 0, slots := 0, locals := 274 } : Room) [.ref (adr G 7 0), .int a1] M P := by
  refine met_by hG (own := RX7) rfl (by decide +kernel) (Nat.le_of_ble_eq_true rfl) (fun E hE X Y => ?_)
  show J G E 4 0 [(0, .ref (adr G 7 0)), (1, .int a1)] [] M
  unfold wp_X7_place at h
  refine j_aload_n X 0 dX7_place_0 rfl rfl ?_
  refine j_iload_n X 1 dX7_place_1 rfl rfl ?_
  refine jc_RX7_75 X ⟨Nat.le_of_ble_eq_true rfl, Nat.le_of_ble_eq_true rfl⟩ (Nat.le_of_ble_eq_true rfl) dX7_place_2 h (fun r2 M1 h => ?_)
  refine j_if_ne X 10 dX7_place_5 (by decide) (fun c3 => ?_) (fun c3 => ?_)
  · replace h := h.1 c3
    refine j_iconst (v := (0 : Int32)) X (by decide) dX7_place_10 ?_
    refine j_istore_n X [(2, .int (0 : Int32)), (0, .ref (adr G 7 0)), (1, .int a1)] dX7_place_11 rfl (by decide) rfl ?_
    refine j_iconst (v := (0 : Int32)) X (by decide) dX7_place_12 ?_
    refine j_istore_n X [(3, .int (0 : Int32)), (2, .int (0 : Int32)), (0, .ref (adr G 7 0)), (1, .int a1)] dX7_place_13 rfl (by decide) rfl ?_
    refine j_sub [2, 3, 1, 0] rfl ?_
    refine lq3_s h (fun (x6 : Int32) (x7 : Int32) (M8 : Mm) => J G E 4 14 [(0, .ref (adr G 7 0)), (1, .int a1), (2, .int x6), (3, .int x7)] [] M8) (fun self4 ih5 x6 x7 M8 h => ?_) id
    refine j_iload_n X 3 dX7_place_14 rfl rfl ?_
    refine j_aload_n X 0 dX7_place_15 rfl rfl ?_
    refine jf_RX7_9 X  dX7_place_16 ?_
    refine j_iconst (v := (1 : Int32)) X (by decide) dX7_place_19 ?_
    refine j_iald X 1 (by decide) (mw160 0 (by decide)) kt160 lt160 (vpc (by decide)) dX7_place_20 ?_
    refine j_icmp_ge X 47 dX7_place_21 (by decide) (fun c9 => ?_) (fun c9 => ?_)
    · replace h := h.1 c9
      refine j_iload_n X 2 dX7_place_47 rfl rfl ?_
      exact j_iret X Y dX7_place_48 h
    · replace h := h.2 c9
      refine j_aload_n X 0 dX7_place_24 rfl rfl ?_
      refine j_iload_n X 1 dX7_place_25 rfl rfl ?_
      refine j_iload_n X 3 dX7_place_26 rfl rfl ?_
      refine jc_RX7_190 X ⟨Nat.le_of_ble_eq_true rfl, Nat.le_of_ble_eq_true rfl⟩ (Nat.le_of_ble_eq_true rfl) dX7_place_27 h (fun r11 M10 h => ?_)
      refine jn1_s h (fun (v12 : Int32) => J G E 4 40 [(0, .ref (adr G 7 0)), (1, .int a1), (3, .int x7)] [.int v12] M10) (fun v12 h => ?_) (fun J13 hj14 h => ?_)
      · refine j_istore_n X [(2, .int v12), (0, .ref (adr G 7 0)), (1, .int a1), (3, .int x7)] dX7_place_40 rfl (by decide) rfl ?_
        obtain ⟨x15, ex15⟩ : ∃ z : Int32, z = x7 + (1 : Int32) := ⟨_, rfl⟩
        replace h := h x15 ex15
        refine j_iinc (v := x15) X 3 [(3, .int x15), (2, .int v12), (0, .ref (adr G 7 0)), (1, .int a1)] dX7_place_41 rfl (by rw [ex15]; rfl) (by decide) rfl ?_
        refine j_goto X 14 dX7_place_44 (by decide) ?_
        refine j_sub [2, 3, 1, 0] rfl ?_
        exact ih5 v12 x15 M10 h
      · refine j_if_le X 39 dX7_place_30 (by decide) (fun c16 => ?_) (fun c16 => ?_)
        · replace h := h.1 c16
          refine j_iload_n X 2 dX7_place_39 rfl rfl ?_
          refine j_sub [0, 1, 3] rfl ?_
          exact hj14 x6 h
        · replace h := h.2 c16
          refine j_iload_n X 3 dX7_place_33 rfl rfl ?_
          refine j_iconst (v := (1 : Int32)) X (by decide) dX7_place_34 ?_
          refine j_iadd X dX7_place_35 ?_
          refine j_goto X 40 dX7_place_36 (by decide) ?_
          refine j_sub [0, 1, 3] rfl ?_
          exact hj14 (x7 + (1 : Int32)) h
  · replace h := h.2 c3
    refine j_iconst (v := (-1 : Int32)) X (by decide) dX7_place_8 ?_
    exact j_iret X Y dX7_place_9 h
/-- LayeredClaimsModel.worst()I -/
def wp_X7_worst  (M : Mm) (P : Int32 → Mm → Prop) : Prop := (∃ n, lq3 (fun self1 (x3 : Int32) (x4 : Int32) (M5 : Mm) => (((rd M5 160 0 2) ≤ x4 → P x3 M5) ∧ (¬ (rd M5 160 0 2) ≤ x4 → (jn (fun (x7 : Int32) (M8 : Mm) => (∀ x11 : Int32, x11 = x4 + (1 : Int32) → self1 x7 x11 M8)) (fun J9 : Int32 → Mm → Prop => (jn (fun  (M12 : Mm) => (wp_X7_eventOn x4 M12 (fun (r16 : Int32) (M15 : Mm) => J9 r16 M15))) (fun J13 : Mm → Prop => ((x3 = (-4 : Int32) → J13 M5) ∧ (¬ x3 = (-4 : Int32) → (wp_X7_eventOn x4 M5 (fun (r19 : Int32) (M18 : Mm) => (wp_X7_burdenOf r19 M18 (fun (r21 : Int32) (M20 : Mm) => (wp_X7_burdenOf x3 M20 (fun (r23 : Int32) (M22 : Mm) => ((r21 ≤ r23 → J9 x3 M22) ∧ (¬ r21 ≤ r23 → J13 M22))))))))))))))))) n (-4 : Int32) (0 : Int32) M)
set_option maxHeartbeats 4000000 in
set_option maxRecDepth 100000 in
theorem met_X7_worst {l : Launch} {G : GT} (hG : GD G)  (M : Mm) (P : Int32 → Mm → Prop) (h : wp_X7_worst  M P) : MI l G yX7_worst cX7_worst 3 (some .int) ({ frames := 9, cells := 0, slots := 0, locals := 206 } : Room) [.ref (adr G 7 0)] M P := by
  refine met_by hG (own := RX7) rfl (by decide +kernel) (Nat.le_of_ble_eq_true rfl) (fun E hE X Y => ?_)
  show J G E 3 0 [(0, .ref (adr G 7 0))] [] M
  unfold wp_X7_worst at h
  refine j_bipush (v := (-4 : Int32)) X (by decide) dX7_worst_0 ?_
  refine j_istore_n X [(1, .int (-4 : Int32)), (0, .ref (adr G 7 0))] dX7_worst_2 rfl (by decide) rfl ?_
  refine j_iconst (v := (0 : Int32)) X (by decide) dX7_worst_3 ?_
  refine j_istore_n X [(2, .int (0 : Int32)), (1, .int (-4 : Int32)), (0, .ref (adr G 7 0))] dX7_worst_4 rfl (by decide) rfl ?_
  refine j_sub [2, 1, 0] rfl ?_
  refine lq3_s h (fun (x3 : Int32) (x4 : Int32) (M5 : Mm) => J G E 3 5 [(0, .ref (adr G 7 0)), (1, .int x3), (2, .int x4)] [] M5) (fun self1 ih2 x3 x4 M5 h => ?_) id
  refine j_iload_n X 2 dX7_worst_5 rfl rfl ?_
  refine j_aload_n X 0 dX7_worst_6 rfl rfl ?_
  refine jf_RX7_9 X  dX7_worst_7 ?_
  refine j_iconst (v := (2 : Int32)) X (by decide) dX7_worst_10 ?_
  refine j_iald X 2 (by decide) (mw160 0 (by decide)) kt160 lt160 (vpc (by decide)) dX7_worst_11 ?_
  refine j_icmp_ge X 50 dX7_worst_12 (by decide) (fun c6 => ?_) (fun c6 => ?_)
  · replace h := h.1 c6
    refine j_iload_n X 1 dX7_worst_50 rfl rfl ?_
    exact j_iret X Y dX7_worst_51 h
  · replace h := h.2 c6
    refine j_iload_n X 1 dX7_worst_15 rfl rfl ?_
    refine j_bipush (v := (-4 : Int32)) X (by decide) dX7_worst_16 ?_
    refine jn2_s h (fun (x7 : Int32) (M8 : Mm) => J G E 3 44 [(0, .ref (adr G 7 0)), (1, .int x7), (2, .int x4)] [] M8) (fun x7 M8 h => ?_) (fun J9 hj10 h => ?_)
    · obtain ⟨x11, ex11⟩ : ∃ z : Int32, z = x4 + (1 : Int32) := ⟨_, rfl⟩
      replace h := h x11 ex11
      refine j_iinc (v := x11) X 2 [(2, .int x11), (0, .ref (adr G 7 0)), (1, .int x7)] dX7_worst_44 rfl (by rw [ex11]; rfl) (by decide) rfl ?_
      refine j_goto X 5 dX7_worst_47 (by decide) ?_
      refine j_sub [1, 2, 0] rfl ?_
      exact ih2 x7 x11 M8 h
    · refine jn1_s h (fun  (M12 : Mm) => J G E 3 38 [(0, .ref (adr G 7 0)), (2, .int x4)] [] M12) (fun M12 h => ?_) (fun J13 hj14 h => ?_)
      · refine j_aload_n X 0 dX7_worst_38 rfl rfl ?_
        refine j_iload_n X 1 dX7_worst_39 rfl rfl ?_
        refine jc_RX7_160 X ⟨Nat.le_of_ble_eq_true rfl, Nat.le_of_ble_eq_true rfl⟩ (Nat.le_of_ble_eq_true rfl) dX7_worst_40 h (fun r16 M15 h => ?_)
        refine j_istore_n X [(1, .int r16), (0, .ref (adr G 7 0)), (2, .int x4)] dX7_worst_43 rfl (by decide) rfl ?_
        refine j_sub [1, 0, 2] rfl ?_
        exact hj10 r16 M15 h
      · refine j_icmp_eq X 38 dX7_worst_18 (by decide) (fun c17 => ?_) (fun c17 => ?_)
        · replace h := h.1 c17
          refine j_sub [0, 2] rfl ?_
          exact hj14 M5 h
        · replace h := h.2 c17
          refine j_aload_n X 0 dX7_worst_21 rfl rfl ?_
          refine j_aload_n X 0 dX7_worst_22 rfl rfl ?_
          refine j_iload_n X 2 dX7_worst_23 rfl rfl ?_
          refine jc_RX7_160 X ⟨Nat.le_of_ble_eq_true rfl, Nat.le_of_ble_eq_true rfl⟩ (Nat.le_of_ble_eq_true rfl) dX7_worst_24 h (fun r19 M18 h => ?_)
          refine jc_RX7_178 X ⟨Nat.le_of_ble_eq_true rfl, Nat.le_of_ble_eq_true rfl⟩ (Nat.le_of_ble_eq_true rfl) dX7_worst_27 h (fun r21 M20 h => ?_)
          refine j_aload_n X 0 dX7_worst_30 rfl rfl ?_
          refine j_iload_n X 1 dX7_worst_31 rfl rfl ?_
          refine jc_RX7_178 X ⟨Nat.le_of_ble_eq_true rfl, Nat.le_of_ble_eq_true rfl⟩ (Nat.le_of_ble_eq_true rfl) dX7_worst_32 h (fun r23 M22 h => ?_)
          refine j_icmp_le X 44 dX7_worst_35 (by decide) (fun c24 => ?_) (fun c24 => ?_)
          · replace h := h.1 c24
            refine j_sub [0, 1, 2] rfl ?_
            exact hj10 x3 M22 h
          · replace h := h.2 c24
            refine j_sub [0, 2] rfl ?_
            exact hj14 M22 h
/-- LayeredClaimsModel.allPaid()I -/
def wp_X7_allPaid  (M : Mm) (P : Int32 → Mm → Prop) : Prop := (∃ n, lq3 (fun self1 (x3 : Int32) (x4 : Int32) (M5 : Mm) => (((rd M5 160 0 0) ≤ x4 → P x3 M5) ∧ (¬ (rd M5 160 0 0) ≤ x4 → (wp_X7_paidInAll x4 M5 (fun (r8 : Int32) (M7 : Mm) => (∀ x9 : Int32, x9 = (x3 + r8) → (∀ x10 : Int32, x10 = x4 + (1 : Int32) → self1 x9 x10 M7))))))) n (0 : Int32) (0 : Int32) M)
set_option maxHeartbeats 4000000 in
set_option maxRecDepth 100000 in
theorem met_X7_allPaid {l : Launch} {G : GT} (hG : GD G)  (M : Mm) (P : Int32 → Mm → Prop) (h : wp_X7_allPaid  M P) : MI l G yX7_allPaid cX7_allPaid 3 (some .int) ({ frames := 7, cells := 0, slots := 0, locals := 161 } : Room) [.ref (adr G 7 0)] M P := by
  refine met_by hG (own := RX7) rfl (by decide +kernel) (Nat.le_of_ble_eq_true rfl) (fun E hE X Y => ?_)
  show J G E 3 0 [(0, .ref (adr G 7 0))] [] M
  unfold wp_X7_allPaid at h
  refine j_iconst (v := (0 : Int32)) X (by decide) dX7_allPaid_0 ?_
  refine j_istore_n X [(1, .int (0 : Int32)), (0, .ref (adr G 7 0))] dX7_allPaid_1 rfl (by decide) rfl ?_
  refine j_iconst (v := (0 : Int32)) X (by decide) dX7_allPaid_2 ?_
  refine j_istore_n X [(2, .int (0 : Int32)), (1, .int (0 : Int32)), (0, .ref (adr G 7 0))] dX7_allPaid_3 rfl (by decide) rfl ?_
  refine j_sub [2, 1, 0] rfl ?_
  refine lq3_s h (fun (x3 : Int32) (x4 : Int32) (M5 : Mm) => J G E 3 4 [(0, .ref (adr G 7 0)), (1, .int x3), (2, .int x4)] [] M5) (fun self1 ih2 x3 x4 M5 h => ?_) id
  refine j_iload_n X 2 dX7_allPaid_4 rfl rfl ?_
  refine j_aload_n X 0 dX7_allPaid_5 rfl rfl ?_
  refine jf_RX7_9 X  dX7_allPaid_6 ?_
  refine j_iconst (v := (0 : Int32)) X (by decide) dX7_allPaid_9 ?_
  refine j_iald X 0 (by decide) (mw160 0 (by decide)) kt160 lt160 (vpc (by decide)) dX7_allPaid_10 ?_
  refine j_icmp_ge X 28 dX7_allPaid_11 (by decide) (fun c6 => ?_) (fun c6 => ?_)
  · replace h := h.1 c6
    refine j_iload_n X 1 dX7_allPaid_28 rfl rfl ?_
    exact j_iret X Y dX7_allPaid_29 h
  · replace h := h.2 c6
    refine j_iload_n X 1 dX7_allPaid_14 rfl rfl ?_
    refine j_aload_n X 0 dX7_allPaid_15 rfl rfl ?_
    refine j_iload_n X 2 dX7_allPaid_16 rfl rfl ?_
    refine jc_RX7_199 X ⟨Nat.le_of_ble_eq_true rfl, Nat.le_of_ble_eq_true rfl⟩ (Nat.le_of_ble_eq_true rfl) dX7_allPaid_17 h (fun r8 M7 h => ?_)
    refine j_iadd X dX7_allPaid_20 ?_
    refine j_topi (fun x9 ex9 => ?_)
    replace h := h x9 ex9
    refine j_istore_n X [(1, .int x9), (0, .ref (adr G 7 0)), (2, .int x4)] dX7_allPaid_21 rfl (by decide) rfl ?_
    obtain ⟨x10, ex10⟩ : ∃ z : Int32, z = x4 + (1 : Int32) := ⟨_, rfl⟩
    replace h := h x10 ex10
    refine j_iinc (v := x10) X 2 [(2, .int x10), (1, .int x9), (0, .ref (adr G 7 0))] dX7_allPaid_22 rfl (by rw [ex10]; rfl) (by decide) rfl ?_
    refine j_goto X 4 dX7_allPaid_25 (by decide) ?_
    refine j_sub [2, 1, 0] rfl ?_
    exact ih2 x9 x10 M7 h
theorem jc_RX7_232 {G : GT} {E : ET} {cc : ByteArray} {nL pc : Nat} {rm : Room} {lv : List (Nat × Value)} {st : List Value} {M : Mm} (X : CX G E RX7 cc nL rm) (hR : 7 + 1 ≤ rm.frames ∧ 8 + (3 + 11) + 161 ≤ rm.locals) (hst : (st.map fun v => v.category).sum ≤ 8) (d : decode cc pc = .ok (.invokevirtual 232, 3))  {P : Int32 → Mm → Prop} (h : wp_X7_allPaid  M P) (k1 : ∀ (r : Int32) (M2 : Mm), P r M2 → J G E nL (pc + 3) lv (.int r :: st) M2) : J G E nL pc lv (.ref (adr G 7 0) :: st) M := fun H locs ls hP hS hl => by
  have hK := X.2.2.2.2.2.1.1
  have hm := met_X7_allPaid (l := eL E) X.2.2.2.2.2.2.1  M P h
  have hR2 : 7 + 1 ≤ (eR E).frames ∧ 8 + (3 + 11) + 161 ≤ (eR E).locals := by rw [X.2.2.2.2.2.2.2.1]; exact hR
  have hC2 : eCells E + 0 ≤ (eR E).cells ∧ eSlots E + 0 ≤ (eR E).slots := by rw [X.2.2.2.2.2.2.2.1]; exact ⟨X.2.2.2.2.2.2.2.2.1, X.2.2.2.2.2.2.2.2.2⟩
  obtain ⟨q0, -, hq⟩ := wld_get (G := G) M (mw7 0 (by decide))
  exact va_calli (va_runV (C := RX7) (As := []) (rest := st) ⟨X.1, X.2.1, X.2.2.1, X.2.2.2.1, X.2.2.2.2.1⟩ hm (cwV (ws' := lw_aw) 0 X.2.2.2.2.1 (gwV (tw (i := 1236) (by decide +kernel)) (tw (i := 1238) (by decide +kernel)) (tw (i := 65) (by decide +kernel)) (tw (i := 78) (by decide +kernel)) (tw (i := 1239) (by decide +kernel))) rfl rfl rfl (by decide +kernel) hR2) ⟨hr_blind, va_recv hK hP (ci := 7) (q := (RX7, TX7, 15)) (fs := objF7 G 0 (M.1 7 0)) (q0 := q0) rfl hq, fun U hU hW => ⟨rfl, by rw [hU]; exact hP, KK.warm hW X.2.2.2.2.2.1⟩⟩ rfl rfl hl.1 rfl (lv_room hst) d hC2) hS (fun q _ h => h) (fun q h => h) (fun r u t H1 locs1 ht hvm hw hB hz1 hk1 hS1 => k1 r u hw H1 locs1 ls (by rw [← ht]; exact hB.1) hS1 hl)
/-- LayeredClaimsModel.allDeducted()I -/
def wp_X7_allDeducted  (M : Mm) (P : Int32 → Mm → Prop) : Prop := (∃ n, lq3 (fun self1 (x3 : Int32) (x4 : Int32) (M5 : Mm) => (((rd M5 160 0 2) ≤ x4 → P x3 M5) ∧ (¬ (rd M5 160 0 2) ≤ x4 → (∃ n, lq3 (fun self7 (x9 : Int32) (x10 : Int32) (M11 : Mm) => (((rd M11 160 0 0) ≤ x10 → (∀ x13 : Int32, x13 = x4 + (1 : Int32) → self1 x9 x13 M11)) ∧ (¬ (rd M11 160 0 0) ≤ x10 → (wp_X7_deductedOf x4 x10 M11 (fun (r15 : Int32) (M14 : Mm) => (∀ x16 : Int32, x16 = (x9 + r15) → (∀ x17 : Int32, x17 = x10 + (1 : Int32) → self7 x16 x17 M14))))))) n x3 (0 : Int32) M5)))) n (0 : Int32) (0 : Int32) M)
set_option maxHeartbeats 4000000 in
set_option maxRecDepth 100000 in
theorem met_X7_allDeducted {l : Launch} {G : GT} (hG : GD G)  (M : Mm) (P : Int32 → Mm → Prop) (h : wp_X7_allDeducted  M P) : MI l G yX7_allDeducted cX7_allDeducted 4 (some .int) ({ frames := 4, cells := 0, slots := 0, locals := 94 } : Room) [.ref (adr G 7 0)] M P := by
  refine met_by hG (own := RX7) rfl (by decide +kernel) (Nat.le_of_ble_eq_true rfl) (fun E hE X Y => ?_)
  show J G E 4 0 [(0, .ref (adr G 7 0))] [] M
  unfold wp_X7_allDeducted at h
  refine j_iconst (v := (0 : Int32)) X (by decide) dX7_allDeducted_0 ?_
  refine j_istore_n X [(1, .int (0 : Int32)), (0, .ref (adr G 7 0))] dX7_allDeducted_1 rfl (by decide) rfl ?_
  refine j_iconst (v := (0 : Int32)) X (by decide) dX7_allDeducted_2 ?_
  refine j_istore_n X [(2, .int (0 : Int32)), (1, .int (0 : Int32)), (0, .ref (adr G 7 0))] dX7_allDeducted_3 rfl (by decide) rfl ?_
  refine j_sub [2, 1, 0] rfl ?_
  refine lq3_s h (fun (x3 : Int32) (x4 : Int32) (M5 : Mm) => J G E 4 4 [(0, .ref (adr G 7 0)), (1, .int x3), (2, .int x4)] [] M5) (fun self1 ih2 x3 x4 M5 h => ?_) id
  refine j_iload_n X 2 dX7_allDeducted_4 rfl rfl ?_
  refine j_aload_n X 0 dX7_allDeducted_5 rfl rfl ?_
  refine jf_RX7_9 X  dX7_allDeducted_6 ?_
  refine j_iconst (v := (2 : Int32)) X (by decide) dX7_allDeducted_9 ?_
  refine j_iald X 2 (by decide) (mw160 0 (by decide)) kt160 lt160 (vpc (by decide)) dX7_allDeducted_10 ?_
  refine j_icmp_ge X 47 dX7_allDeducted_11 (by decide) (fun c6 => ?_) (fun c6 => ?_)
  · replace h := h.1 c6
    refine j_iload_n X 1 dX7_allDeducted_47 rfl rfl ?_
    exact j_iret X Y dX7_allDeducted_48 h
  · replace h := h.2 c6
    refine j_iconst (v := (0 : Int32)) X (by decide) dX7_allDeducted_14 ?_
    refine j_istore_n X [(3, .int (0 : Int32)), (0, .ref (adr G 7 0)), (1, .int x3), (2, .int x4)] dX7_allDeducted_15 rfl (by decide) rfl ?_
    refine j_sub [1, 2, 3, 0] rfl ?_
    refine lq3_s h (fun (x9 : Int32) (x10 : Int32) (M11 : Mm) => J G E 4 16 [(0, .ref (adr G 7 0)), (1, .int x9), (2, .int x4), (3, .int x10)] [] M11) (fun self7 ih8 x9 x10 M11 h => ?_) id
    refine j_iload_n X 3 dX7_allDeducted_16 rfl rfl ?_
    refine j_aload_n X 0 dX7_allDeducted_17 rfl rfl ?_
    refine jf_RX7_9 X  dX7_allDeducted_18 ?_
    refine j_iconst (v := (0 : Int32)) X (by decide) dX7_allDeducted_21 ?_
    refine j_iald X 0 (by decide) (mw160 0 (by decide)) kt160 lt160 (vpc (by decide)) dX7_allDeducted_22 ?_
    refine j_icmp_ge X 41 dX7_allDeducted_23 (by decide) (fun c12 => ?_) (fun c12 => ?_)
    · replace h := h.1 c12
      obtain ⟨x13, ex13⟩ : ∃ z : Int32, z = x4 + (1 : Int32) := ⟨_, rfl⟩
      replace h := h x13 ex13
      refine j_iinc (v := x13) X 2 [(2, .int x13), (0, .ref (adr G 7 0)), (1, .int x9), (3, .int x10)] dX7_allDeducted_41 rfl (by rw [ex13]; rfl) (by decide) rfl ?_
      refine j_goto X 4 dX7_allDeducted_44 (by decide) ?_
      refine j_sub [1, 2, 0] rfl ?_
      exact ih2 x9 x13 M11 h
    · replace h := h.2 c12
      refine j_iload_n X 1 dX7_allDeducted_26 rfl rfl ?_
      refine j_aload_n X 0 dX7_allDeducted_27 rfl rfl ?_
      refine j_iload_n X 2 dX7_allDeducted_28 rfl rfl ?_
      refine j_iload_n X 3 dX7_allDeducted_29 rfl rfl ?_
      refine jc_RX7_157 X ⟨Nat.le_of_ble_eq_true rfl, Nat.le_of_ble_eq_true rfl⟩ (Nat.le_of_ble_eq_true rfl) dX7_allDeducted_30 h (fun r15 M14 h => ?_)
      refine j_iadd X dX7_allDeducted_33 ?_
      refine j_topi (fun x16 ex16 => ?_)
      replace h := h x16 ex16
      refine j_istore_n X [(1, .int x16), (0, .ref (adr G 7 0)), (2, .int x4), (3, .int x10)] dX7_allDeducted_34 rfl (by decide) rfl ?_
      obtain ⟨x17, ex17⟩ : ∃ z : Int32, z = x10 + (1 : Int32) := ⟨_, rfl⟩
      replace h := h x17 ex17
      refine j_iinc (v := x17) X 3 [(3, .int x17), (1, .int x16), (0, .ref (adr G 7 0)), (2, .int x4)] dX7_allDeducted_35 rfl (by rw [ex17]; rfl) (by decide) rfl ?_
      refine j_goto X 16 dX7_allDeducted_38 (by decide) ?_
      refine j_sub [2, 1, 3, 0] rfl ?_
      exact ih8 x16 x17 M14 h
theorem jc_RX7_235 {G : GT} {E : ET} {cc : ByteArray} {nL pc : Nat} {rm : Room} {lv : List (Nat × Value)} {st : List Value} {M : Mm} (X : CX G E RX7 cc nL rm) (hR : 4 + 1 ≤ rm.frames ∧ 8 + (4 + 11) + 94 ≤ rm.locals) (hst : (st.map fun v => v.category).sum ≤ 8) (d : decode cc pc = .ok (.invokevirtual 235, 3))  {P : Int32 → Mm → Prop} (h : wp_X7_allDeducted  M P) (k1 : ∀ (r : Int32) (M2 : Mm), P r M2 → J G E nL (pc + 3) lv (.int r :: st) M2) : J G E nL pc lv (.ref (adr G 7 0) :: st) M := fun H locs ls hP hS hl => by
  have hK := X.2.2.2.2.2.1.1
  have hm := met_X7_allDeducted (l := eL E) X.2.2.2.2.2.2.1  M P h
  have hR2 : 4 + 1 ≤ (eR E).frames ∧ 8 + (4 + 11) + 94 ≤ (eR E).locals := by rw [X.2.2.2.2.2.2.2.1]; exact hR
  have hC2 : eCells E + 0 ≤ (eR E).cells ∧ eSlots E + 0 ≤ (eR E).slots := by rw [X.2.2.2.2.2.2.2.1]; exact ⟨X.2.2.2.2.2.2.2.2.1, X.2.2.2.2.2.2.2.2.2⟩
  obtain ⟨q0, -, hq⟩ := wld_get (G := G) M (mw7 0 (by decide))
  exact va_calli (va_runV (C := RX7) (As := []) (rest := st) ⟨X.1, X.2.1, X.2.2.1, X.2.2.2.1, X.2.2.2.2.1⟩ hm (cwV (ws' := lw_aw) 0 X.2.2.2.2.1 (gwV (tw (i := 1240) (by decide +kernel)) (tw (i := 1242) (by decide +kernel)) (tw (i := 66) (by decide +kernel)) (tw (i := 78) (by decide +kernel)) (tw (i := 1243) (by decide +kernel))) rfl rfl rfl (by decide +kernel) hR2) ⟨hr_blind, va_recv hK hP (ci := 7) (q := (RX7, TX7, 15)) (fs := objF7 G 0 (M.1 7 0)) (q0 := q0) rfl hq, fun U hU hW => ⟨rfl, by rw [hU]; exact hP, KK.warm hW X.2.2.2.2.2.1⟩⟩ rfl rfl hl.1 rfl (lv_room hst) d hC2) hS (fun q _ h => h) (fun q h => h) (fun r u t H1 locs1 ht hvm hw hB hz1 hk1 hS1 => k1 r u hw H1 locs1 ls (by rw [← ht]; exact hB.1) hS1 hl)
/-- LayeredClaimsModel.premiums(II)I -/
def wp_X7_premiums (a1 : Int32) (a2 : Int32) (M : Mm) (P : Int32 → Mm → Prop) : Prop := (∃ n, lq2 (fun self1 (x3 : Int32) (x4 : Int32) => ((a2 ≤ x4 → P x3 M) ∧ (¬ a2 ≤ x4 → (vp_in ((a1 + ((4 : Int32) * x4)) + (2 : Int32)) 136 ∧ (∀ x7 : Int32, x7 = (x3 + (rd M 160 0 ((a1 + ((4 : Int32) * x4)) + (2 : Int32)).toNatClampNeg)) → (∀ x8 : Int32, x8 = x4 + (1 : Int32) → self1 x7 x8)))))) n (0 : Int32) (0 : Int32))
set_option maxHeartbeats 4000000 in
set_option maxRecDepth 100000 in
theorem met_X7_premiums {l : Launch} {G : GT} (hG : GD G) (a1 : Int32) (a2 : Int32) (M : Mm) (P : Int32 → Mm → Prop) (h : wp_X7_premiums a1 a2 M P) : MI l G yX7_premiums cX7_premiums 5 (some .int) ({ frames := 0, cells := 0, slots := 0, locals := 0 } : Room) [.ref (adr G 7 0), .int a1, .int a2] M P := by
  refine met_by hG (own := RX7) rfl (by decide +kernel) (Nat.le_of_ble_eq_true rfl) (fun E hE X Y => ?_)
  show J G E 5 0 [(0, .ref (adr G 7 0)), (1, .int a1), (2, .int a2)] [] M
  unfold wp_X7_premiums at h
  refine j_iconst (v := (0 : Int32)) X (by decide) dX7_premiums_0 ?_
  refine j_istore_n X [(3, .int (0 : Int32)), (0, .ref (adr G 7 0)), (1, .int a1), (2, .int a2)] dX7_premiums_1 rfl (by decide) rfl ?_
  refine j_iconst (v := (0 : Int32)) X (by decide) dX7_premiums_2 ?_
  refine j_istore X [(4, .int (0 : Int32)), (3, .int (0 : Int32)), (0, .ref (adr G 7 0)), (1, .int a1), (2, .int a2)] dX7_premiums_3 (by decide) rfl ?_
  refine j_sub [2, 3, 4, 1, 0] rfl ?_
  refine lq2_s h (fun (x3 : Int32) (x4 : Int32) => J G E 5 5 [(0, .ref (adr G 7 0)), (1, .int a1), (2, .int a2), (3, .int x3), (4, .int x4)] [] M) (fun self1 ih2 x3 x4 h => ?_) id
  refine j_iload X 4 dX7_premiums_5 rfl ?_
  refine j_iload_n X 2 dX7_premiums_7 rfl rfl ?_
  refine j_icmp_ge X 33 dX7_premiums_8 (by decide) (fun c5 => ?_) (fun c5 => ?_)
  · replace h := h.1 c5
    refine j_iload_n X 3 dX7_premiums_33 rfl rfl ?_
    exact j_iret X Y dX7_premiums_34 h
  · replace h := h.2 c5
    refine j_iload_n X 3 dX7_premiums_11 rfl rfl ?_
    refine j_aload_n X 0 dX7_premiums_12 rfl rfl ?_
    refine jf_RX7_9 X  dX7_premiums_13 ?_
    refine j_iload_n X 1 dX7_premiums_16 rfl rfl ?_
    refine j_iconst (v := (4 : Int32)) X (by decide) dX7_premiums_17 ?_
    refine j_iload X 4 dX7_premiums_18 rfl ?_
    refine j_imul X dX7_premiums_20 ?_
    refine j_iadd X dX7_premiums_21 ?_
    refine j_iconst (v := (2 : Int32)) X (by decide) dX7_premiums_22 ?_
    refine j_iadd X dX7_premiums_23 ?_
    have q6 := h.1
    replace h := h.2
    refine j_iald X _ rfl (mw160 0 (by decide)) kt160 lt160 q6 dX7_premiums_24 ?_
    refine j_iadd X dX7_premiums_25 ?_
    refine j_topi (fun x7 ex7 => ?_)
    replace h := h x7 ex7
    refine j_istore_n X [(3, .int x7), (0, .ref (adr G 7 0)), (1, .int a1), (2, .int a2), (4, .int x4)] dX7_premiums_26 rfl (by decide) rfl ?_
    obtain ⟨x8, ex8⟩ : ∃ z : Int32, z = x4 + (1 : Int32) := ⟨_, rfl⟩
    replace h := h x8 ex8
    refine j_iinc (v := x8) X 4 [(4, .int x8), (3, .int x7), (0, .ref (adr G 7 0)), (1, .int a1), (2, .int a2)] dX7_premiums_27 rfl (by rw [ex8]; rfl) (by decide) rfl ?_
    refine j_goto X 5 dX7_premiums_30 (by decide) ?_
    refine j_sub [2, 3, 4, 1, 0] rfl ?_
    exact ih2 x7 x8 h
theorem jc_RX7_226 {G : GT} {E : ET} {cc : ByteArray} {nL pc : Nat} {rm : Room} {lv : List (Nat × Value)} {st : List Value} {M : Mm} (X : CX G E RX7 cc nL rm) (hR : 0 + 1 ≤ rm.frames ∧ 8 + (5 + 11) + 0 ≤ rm.locals) (hst : (st.map fun v => v.category).sum ≤ 8) (d : decode cc pc = .ok (.invokevirtual 226, 3)) {a1 : Int32} {a2 : Int32} {P : Int32 → Mm → Prop} (h : wp_X7_premiums a1 a2 M P) (k1 : ∀ (r : Int32) (M2 : Mm), P r M2 → J G E nL (pc + 3) lv (.int r :: st) M2) : J G E nL pc lv (.int a2 :: .int a1 :: .ref (adr G 7 0) :: st) M := fun H locs ls hP hS hl => by
  have hK := X.2.2.2.2.2.1.1
  have hm := met_X7_premiums (l := eL E) X.2.2.2.2.2.2.1 a1 a2 M P h
  have hR2 : 0 + 1 ≤ (eR E).frames ∧ 8 + (5 + 11) + 0 ≤ (eR E).locals := by rw [X.2.2.2.2.2.2.2.1]; exact hR
  have hC2 : eCells E + 0 ≤ (eR E).cells ∧ eSlots E + 0 ≤ (eR E).slots := by rw [X.2.2.2.2.2.2.2.1]; exact ⟨X.2.2.2.2.2.2.2.2.1, X.2.2.2.2.2.2.2.2.2⟩
  obtain ⟨q0, -, hq⟩ := wld_get (G := G) M (mw7 0 (by decide))
  exact va_calli (va_runV (C := RX7) (As := [.int a1, .int a2]) (rest := st) ⟨X.1, X.2.1, X.2.2.1, X.2.2.2.1, X.2.2.2.2.1⟩ hm (cwV (ws' := lw_aw) 2 X.2.2.2.2.1 (gwV (tw (i := 1248) (by decide +kernel)) (tw (i := 1250) (by decide +kernel)) (tw (i := 68) (by decide +kernel)) (tw (i := 78) (by decide +kernel)) (tw (i := 1251) (by decide +kernel))) rfl rfl rfl (by decide +kernel) hR2) ⟨hr_blind, va_recv hK hP (ci := 7) (q := (RX7, TX7, 15)) (fs := objF7 G 0 (M.1 7 0)) (q0 := q0) rfl hq, fun U hU hW => ⟨rfl, by rw [hU]; exact hP, KK.warm hW X.2.2.2.2.2.1⟩⟩ rfl rfl hl.1 rfl (lv_room hst) d hC2) hS (fun q _ h => h) (fun q h => h) (fun r u t H1 locs1 ht hvm hw hB hz1 hk1 hS1 => k1 r u hw H1 locs1 ls (by rw [← ht]; exact hB.1) hS1 hl)
/-- LayeredClaimsModel.layerPremiums()I -/
def wp_X7_layerPremiums  (M : Mm) (P : Int32 → Mm → Prop) : Prop := (wp_X7_premiums (32 : Int32) (rd M 160 0 1) M (fun (r2 : Int32) (M1 : Mm) => (∃ n, lq3 (fun self3 (x5 : Int32) (x6 : Int32) (M7 : Mm) => (((rd M7 160 0 1) ≤ x6 → P x5 M7) ∧ (¬ (rd M7 160 0 1) ≤ x6 → (wp_X7_reinstatementPremium x6 M7 (fun (r10 : Int32) (M9 : Mm) => (∀ x11 : Int32, x11 = (x5 + r10) → (∀ x12 : Int32, x12 = x6 + (1 : Int32) → self3 x11 x12 M9))))))) n r2 (0 : Int32) M1)))
set_option maxHeartbeats 4000000 in
set_option maxRecDepth 100000 in
theorem met_X7_layerPremiums {l : Launch} {G : GT} (hG : GD G)  (M : Mm) (P : Int32 → Mm → Prop) (h : wp_X7_layerPremiums  M P) : MI l G yX7_layerPremiums cX7_layerPremiums 3 (some .int) ({ frames := 14, cells := 0, slots := 0, locals := 315 } : Room) [.ref (adr G 7 0)] M P := by
  refine met_by hG (own := RX7) rfl (by decide +kernel) (Nat.le_of_ble_eq_true rfl) (fun E hE X Y => ?_)
  show J G E 3 0 [(0, .ref (adr G 7 0))] [] M
  unfold wp_X7_layerPremiums at h
  refine j_aload_n X 0 dX7_layerPremiums_0 rfl rfl ?_
  refine j_bipush (v := (32 : Int32)) X (by decide) dX7_layerPremiums_1 ?_
  refine j_aload_n X 0 dX7_layerPremiums_3 rfl rfl ?_
  refine jf_RX7_9 X  dX7_layerPremiums_4 ?_
  refine j_iconst (v := (1 : Int32)) X (by decide) dX7_layerPremiums_7 ?_
  refine j_iald X 1 (by decide) (mw160 0 (by decide)) kt160 lt160 (vpc (by decide)) dX7_layerPremiums_8 ?_
  refine jc_RX7_226 X ⟨Nat.le_of_ble_eq_true rfl, Nat.le_of_ble_eq_true rfl⟩ (Nat.le_of_ble_eq_true rfl) dX7_layerPremiums_9 h (fun r2 M1 h => ?_)
  refine j_istore_n X [(1, .int r2), (0, .ref (adr G 7 0))] dX7_layerPremiums_12 rfl (by decide) rfl ?_
  refine j_iconst (v := (0 : Int32)) X (by decide) dX7_layerPremiums_13 ?_
  refine j_istore_n X [(2, .int (0 : Int32)), (1, .int r2), (0, .ref (adr G 7 0))] dX7_layerPremiums_14 rfl (by decide) rfl ?_
  refine j_sub [2, 1, 0] rfl ?_
  refine lq3_s h (fun (x5 : Int32) (x6 : Int32) (M7 : Mm) => J G E 3 15 [(0, .ref (adr G 7 0)), (1, .int x5), (2, .int x6)] [] M7) (fun self3 ih4 x5 x6 M7 h => ?_) id
  refine j_iload_n X 2 dX7_layerPremiums_15 rfl rfl ?_
  refine j_aload_n X 0 dX7_layerPremiums_16 rfl rfl ?_
  refine jf_RX7_9 X  dX7_layerPremiums_17 ?_
  refine j_iconst (v := (1 : Int32)) X (by decide) dX7_layerPremiums_20 ?_
  refine j_iald X 1 (by decide) (mw160 0 (by decide)) kt160 lt160 (vpc (by decide)) dX7_layerPremiums_21 ?_
  refine j_icmp_ge X 39 dX7_layerPremiums_22 (by decide) (fun c8 => ?_) (fun c8 => ?_)
  · replace h := h.1 c8
    refine j_iload_n X 1 dX7_layerPremiums_39 rfl rfl ?_
    exact j_iret X Y dX7_layerPremiums_40 h
  · replace h := h.2 c8
    refine j_iload_n X 1 dX7_layerPremiums_25 rfl rfl ?_
    refine j_aload_n X 0 dX7_layerPremiums_26 rfl rfl ?_
    refine j_iload_n X 2 dX7_layerPremiums_27 rfl rfl ?_
    refine jc_RX7_205 X ⟨Nat.le_of_ble_eq_true rfl, Nat.le_of_ble_eq_true rfl⟩ (Nat.le_of_ble_eq_true rfl) dX7_layerPremiums_28 h (fun r10 M9 h => ?_)
    refine j_iadd X dX7_layerPremiums_31 ?_
    refine j_topi (fun x11 ex11 => ?_)
    replace h := h x11 ex11
    refine j_istore_n X [(1, .int x11), (0, .ref (adr G 7 0)), (2, .int x6)] dX7_layerPremiums_32 rfl (by decide) rfl ?_
    obtain ⟨x12, ex12⟩ : ∃ z : Int32, z = x6 + (1 : Int32) := ⟨_, rfl⟩
    replace h := h x12 ex12
    refine j_iinc (v := x12) X 2 [(2, .int x12), (1, .int x11), (0, .ref (adr G 7 0))] dX7_layerPremiums_33 rfl (by rw [ex12]; rfl) (by decide) rfl ?_
    refine j_goto X 15 dX7_layerPremiums_36 (by decide) ?_
    refine j_sub [2, 1, 0] rfl ?_
    exact ih4 x11 x12 M9 h
theorem jc_RX7_241 {G : GT} {E : ET} {cc : ByteArray} {nL pc : Nat} {rm : Room} {lv : List (Nat × Value)} {st : List Value} {M : Mm} (X : CX G E RX7 cc nL rm) (hR : 14 + 1 ≤ rm.frames ∧ 8 + (3 + 11) + 315 ≤ rm.locals) (hst : (st.map fun v => v.category).sum ≤ 8) (d : decode cc pc = .ok (.invokevirtual 241, 3))  {P : Int32 → Mm → Prop} (h : wp_X7_layerPremiums  M P) (k1 : ∀ (r : Int32) (M2 : Mm), P r M2 → J G E nL (pc + 3) lv (.int r :: st) M2) : J G E nL pc lv (.ref (adr G 7 0) :: st) M := fun H locs ls hP hS hl => by
  have hK := X.2.2.2.2.2.1.1
  have hm := met_X7_layerPremiums (l := eL E) X.2.2.2.2.2.2.1  M P h
  have hR2 : 14 + 1 ≤ (eR E).frames ∧ 8 + (3 + 11) + 315 ≤ (eR E).locals := by rw [X.2.2.2.2.2.2.2.1]; exact hR
  have hC2 : eCells E + 0 ≤ (eR E).cells ∧ eSlots E + 0 ≤ (eR E).slots := by rw [X.2.2.2.2.2.2.2.1]; exact ⟨X.2.2.2.2.2.2.2.2.1, X.2.2.2.2.2.2.2.2.2⟩
  obtain ⟨q0, -, hq⟩ := wld_get (G := G) M (mw7 0 (by decide))
  exact va_calli (va_runV (C := RX7) (As := []) (rest := st) ⟨X.1, X.2.1, X.2.2.1, X.2.2.2.1, X.2.2.2.2.1⟩ hm (cwV (ws' := lw_aw) 0 X.2.2.2.2.1 (gwV (tw (i := 1252) (by decide +kernel)) (tw (i := 1254) (by decide +kernel)) (tw (i := 69) (by decide +kernel)) (tw (i := 78) (by decide +kernel)) (tw (i := 1255) (by decide +kernel))) rfl rfl rfl (by decide +kernel) hR2) ⟨hr_blind, va_recv hK hP (ci := 7) (q := (RX7, TX7, 15)) (fs := objF7 G 0 (M.1 7 0)) (q0 := q0) rfl hq, fun U hU hW => ⟨rfl, by rw [hU]; exact hP, KK.warm hW X.2.2.2.2.2.1⟩⟩ rfl rfl hl.1 rfl (lv_room hst) d hC2) hS (fun q _ h => h) (fun q h => h) (fun r u t H1 locs1 ht hvm hw hB hz1 hk1 hS1 => k1 r u hw H1 locs1 ls (by rw [← ht]; exact hB.1) hS1 hl)
/-- LayeredClaimsModel.overEvents(I)I -/
def wp_X7_overEvents (a1 : Int32) (M : Mm) (P : Int32 → Mm → Prop) : Prop := (∃ n, lq3 (fun self1 (x3 : Int32) (x4 : Int32) (M5 : Mm) => (((rd M5 160 0 2) ≤ x4 → P x3 M5) ∧ (¬ (rd M5 160 0 2) ≤ x4 → (jn (fun (v7 : Int32) (M8 : Mm) => (∀ x11 : Int32, x11 = (x3 + v7) → (∀ x12 : Int32, x12 = x4 + (1 : Int32) → self1 x11 x12 M8))) (fun J9 : Int32 → Mm → Prop => ((¬ a1 = 0 → ((¬ a1 = (3 : Int32) → (wp_X7_retainedOf x4 M5 (fun (r16 : Int32) (M15 : Mm) => J9 r16 M15))) ∧ (a1 = (3 : Int32) → (wp_X7_burdenOf x4 M5 (fun (r18 : Int32) (M17 : Mm) => J9 r18 M17))))) ∧ (a1 = 0 → (wp_X7_lossesIn x4 M5 (fun (r20 : Int32) (M19 : Mm) => J9 r20 M19))))))))) n (0 : Int32) (0 : Int32) M)
set_option maxHeartbeats 4000000 in
set_option maxRecDepth 100000 in
theorem met_X7_overEvents {l : Launch} {G : GT} (hG : GD G) (a1 : Int32) (M : Mm) (P : Int32 → Mm → Prop) (h : wp_X7_overEvents a1 M P) : MI l G yX7_overEvents cX7_overEvents 4 (some .int) ({ frames := 13, cells := 0, slots := 0, locals := 297 } : Room) [.ref (adr G 7 0), .int a1] M P := by
  refine met_by hG (own := RX7) rfl (by decide +kernel) (Nat.le_of_ble_eq_true rfl) (fun E hE X Y => ?_)
  show J G E 4 0 [(0, .ref (adr G 7 0)), (1, .int a1)] [] M
  unfold wp_X7_overEvents at h
  refine j_iconst (v := (0 : Int32)) X (by decide) dX7_overEvents_0 ?_
  refine j_istore_n X [(2, .int (0 : Int32)), (0, .ref (adr G 7 0)), (1, .int a1)] dX7_overEvents_1 rfl (by decide) rfl ?_
  refine j_iconst (v := (0 : Int32)) X (by decide) dX7_overEvents_2 ?_
  refine j_istore_n X [(3, .int (0 : Int32)), (2, .int (0 : Int32)), (0, .ref (adr G 7 0)), (1, .int a1)] dX7_overEvents_3 rfl (by decide) rfl ?_
  refine j_sub [2, 3, 1, 0] rfl ?_
  refine lq3_s h (fun (x3 : Int32) (x4 : Int32) (M5 : Mm) => J G E 4 4 [(0, .ref (adr G 7 0)), (1, .int a1), (2, .int x3), (3, .int x4)] [] M5) (fun self1 ih2 x3 x4 M5 h => ?_) id
  refine j_iload_n X 3 dX7_overEvents_4 rfl rfl ?_
  refine j_aload_n X 0 dX7_overEvents_5 rfl rfl ?_
  refine jf_RX7_9 X  dX7_overEvents_6 ?_
  refine j_iconst (v := (2 : Int32)) X (by decide) dX7_overEvents_9 ?_
  refine j_iald X 2 (by decide) (mw160 0 (by decide)) kt160 lt160 (vpc (by decide)) dX7_overEvents_10 ?_
  refine j_icmp_ge X 53 dX7_overEvents_11 (by decide) (fun c6 => ?_) (fun c6 => ?_)
  · replace h := h.1 c6
    refine j_iload_n X 2 dX7_overEvents_53 rfl rfl ?_
    exact j_iret X Y dX7_overEvents_54 h
  · replace h := h.2 c6
    refine j_iload_n X 2 dX7_overEvents_14 rfl rfl ?_
    refine j_iload_n X 1 dX7_overEvents_15 rfl rfl ?_
    refine jn2_s h (fun (v7 : Int32) (M8 : Mm) => J G E 4 45 [(0, .ref (adr G 7 0)), (1, .int a1), (3, .int x4)] [.int v7, .int x3] M8) (fun v7 M8 h => ?_) (fun J9 hj10 h => ?_)
    · refine j_iadd X dX7_overEvents_45 ?_
      refine j_topi (fun x11 ex11 => ?_)
      replace h := h x11 ex11
      refine j_istore_n X [(2, .int x11), (0, .ref (adr G 7 0)), (1, .int a1), (3, .int x4)] dX7_overEvents_46 rfl (by decide) rfl ?_
      obtain ⟨x12, ex12⟩ : ∃ z : Int32, z = x4 + (1 : Int32) := ⟨_, rfl⟩
      replace h := h x12 ex12
      refine j_iinc (v := x12) X 3 [(3, .int x12), (2, .int x11), (0, .ref (adr G 7 0)), (1, .int a1)] dX7_overEvents_47 rfl (by rw [ex12]; rfl) (by decide) rfl ?_
      refine j_goto X 4 dX7_overEvents_50 (by decide) ?_
      refine j_sub [2, 3, 1, 0] rfl ?_
      exact ih2 x11 x12 M8 h
    · refine j_if_ne X 27 dX7_overEvents_16 (by decide) (fun c13 => ?_) (fun c13 => ?_)
      · replace h := h.1 c13
        refine j_iload_n X 1 dX7_overEvents_27 rfl rfl ?_
        refine j_iconst (v := (3 : Int32)) X (by decide) dX7_overEvents_28 ?_
        refine j_icmp_ne X 40 dX7_overEvents_29 (by decide) (fun c14 => ?_) (fun c14 => ?_)
        · replace h := h.1 c14
          refine j_aload_n X 0 dX7_overEvents_40 rfl rfl ?_
          refine j_iload_n X 3 dX7_overEvents_41 rfl rfl ?_
          refine jc_RX7_214 X ⟨Nat.le_of_ble_eq_true rfl, Nat.le_of_ble_eq_true rfl⟩ (Nat.le_of_ble_eq_true rfl) dX7_overEvents_42 h (fun r16 M15 h => ?_)
          refine j_sub [0, 1, 3] rfl ?_
          exact hj10 r16 M15 h
        · replace h := h.2 c14
          refine j_aload_n X 0 dX7_overEvents_32 rfl rfl ?_
          refine j_iload_n X 3 dX7_overEvents_33 rfl rfl ?_
          refine jc_RX7_178 X ⟨Nat.le_of_ble_eq_true rfl, Nat.le_of_ble_eq_true rfl⟩ (Nat.le_of_ble_eq_true rfl) dX7_overEvents_34 h (fun r18 M17 h => ?_)
          refine j_goto X 45 dX7_overEvents_37 (by decide) ?_
          refine j_sub [0, 1, 3] rfl ?_
          exact hj10 r18 M17 h
      · replace h := h.2 c13
        refine j_aload_n X 0 dX7_overEvents_19 rfl rfl ?_
        refine j_iload_n X 3 dX7_overEvents_20 rfl rfl ?_
        refine jc_RX7_211 X ⟨Nat.le_of_ble_eq_true rfl, Nat.le_of_ble_eq_true rfl⟩ (Nat.le_of_ble_eq_true rfl) dX7_overEvents_21 h (fun r20 M19 h => ?_)
        refine j_goto X 45 dX7_overEvents_24 (by decide) ?_
        refine j_sub [0, 1, 3] rfl ?_
        exact hj10 r20 M19 h
theorem jc_RX7_229 {G : GT} {E : ET} {cc : ByteArray} {nL pc : Nat} {rm : Room} {lv : List (Nat × Value)} {st : List Value} {M : Mm} (X : CX G E RX7 cc nL rm) (hR : 13 + 1 ≤ rm.frames ∧ 8 + (4 + 11) + 297 ≤ rm.locals) (hst : (st.map fun v => v.category).sum ≤ 8) (d : decode cc pc = .ok (.invokevirtual 229, 3)) {a1 : Int32} {P : Int32 → Mm → Prop} (h : wp_X7_overEvents a1 M P) (k1 : ∀ (r : Int32) (M2 : Mm), P r M2 → J G E nL (pc + 3) lv (.int r :: st) M2) : J G E nL pc lv (.int a1 :: .ref (adr G 7 0) :: st) M := fun H locs ls hP hS hl => by
  have hK := X.2.2.2.2.2.1.1
  have hm := met_X7_overEvents (l := eL E) X.2.2.2.2.2.2.1 a1 M P h
  have hR2 : 13 + 1 ≤ (eR E).frames ∧ 8 + (4 + 11) + 297 ≤ (eR E).locals := by rw [X.2.2.2.2.2.2.2.1]; exact hR
  have hC2 : eCells E + 0 ≤ (eR E).cells ∧ eSlots E + 0 ≤ (eR E).slots := by rw [X.2.2.2.2.2.2.2.1]; exact ⟨X.2.2.2.2.2.2.2.2.1, X.2.2.2.2.2.2.2.2.2⟩
  obtain ⟨q0, -, hq⟩ := wld_get (G := G) M (mw7 0 (by decide))
  exact va_calli (va_runV (C := RX7) (As := [.int a1]) (rest := st) ⟨X.1, X.2.1, X.2.2.1, X.2.2.2.1, X.2.2.2.2.1⟩ hm (cwV (ws' := lw_aw) 1 X.2.2.2.2.1 (gwV (tw (i := 1232) (by decide +kernel)) (tw (i := 1234) (by decide +kernel)) (tw (i := 64) (by decide +kernel)) (tw (i := 78) (by decide +kernel)) (tw (i := 1235) (by decide +kernel))) rfl rfl rfl (by decide +kernel) hR2) ⟨hr_blind, va_recv hK hP (ci := 7) (q := (RX7, TX7, 15)) (fs := objF7 G 0 (M.1 7 0)) (q0 := q0) rfl hq, fun U hU hW => ⟨rfl, by rw [hU]; exact hP, KK.warm hW X.2.2.2.2.2.1⟩⟩ rfl rfl hl.1 rfl (lv_room hst) d hC2) hS (fun q _ h => h) (fun q h => h) (fun r u t H1 locs1 ht hvm hw hB hz1 hk1 hS1 => k1 r u hw H1 locs1 ls (by rw [← ht]; exact hB.1) hS1 hl)
/-- LayeredClaimsModel.allBorne()I -/
def wp_X7_allBorne  (M : Mm) (P : Int32 → Mm → Prop) : Prop := (∃ n, lq3 (fun self1 (x3 : Int32) (x4 : Int32) (M5 : Mm) => (((rd M5 160 0 1) ≤ x4 → P x3 M5) ∧ (¬ (rd M5 160 0 1) ≤ x4 → (wp_X7_borneInAll x4 M5 (fun (r8 : Int32) (M7 : Mm) => (∀ x9 : Int32, x9 = (x3 + r8) → (∀ x10 : Int32, x10 = x4 + (1 : Int32) → self1 x9 x10 M7))))))) n (0 : Int32) (0 : Int32) M)
set_option maxHeartbeats 4000000 in
set_option maxRecDepth 100000 in
theorem met_X7_allBorne {l : Launch} {G : GT} (hG : GD G)  (M : Mm) (P : Int32 → Mm → Prop) (h : wp_X7_allBorne  M P) : MI l G yX7_allBorne cX7_allBorne 3 (some .int) ({ frames := 12, cells := 0, slots := 0, locals := 273 } : Room) [.ref (adr G 7 0)] M P := by
  refine met_by hG (own := RX7) rfl (by decide +kernel) (Nat.le_of_ble_eq_true rfl) (fun E hE X Y => ?_)
  show J G E 3 0 [(0, .ref (adr G 7 0))] [] M
  unfold wp_X7_allBorne at h
  refine j_iconst (v := (0 : Int32)) X (by decide) dX7_allBorne_0 ?_
  refine j_istore_n X [(1, .int (0 : Int32)), (0, .ref (adr G 7 0))] dX7_allBorne_1 rfl (by decide) rfl ?_
  refine j_iconst (v := (0 : Int32)) X (by decide) dX7_allBorne_2 ?_
  refine j_istore_n X [(2, .int (0 : Int32)), (1, .int (0 : Int32)), (0, .ref (adr G 7 0))] dX7_allBorne_3 rfl (by decide) rfl ?_
  refine j_sub [2, 1, 0] rfl ?_
  refine lq3_s h (fun (x3 : Int32) (x4 : Int32) (M5 : Mm) => J G E 3 4 [(0, .ref (adr G 7 0)), (1, .int x3), (2, .int x4)] [] M5) (fun self1 ih2 x3 x4 M5 h => ?_) id
  refine j_iload_n X 2 dX7_allBorne_4 rfl rfl ?_
  refine j_aload_n X 0 dX7_allBorne_5 rfl rfl ?_
  refine jf_RX7_9 X  dX7_allBorne_6 ?_
  refine j_iconst (v := (1 : Int32)) X (by decide) dX7_allBorne_9 ?_
  refine j_iald X 1 (by decide) (mw160 0 (by decide)) kt160 lt160 (vpc (by decide)) dX7_allBorne_10 ?_
  refine j_icmp_ge X 28 dX7_allBorne_11 (by decide) (fun c6 => ?_) (fun c6 => ?_)
  · replace h := h.1 c6
    refine j_iload_n X 1 dX7_allBorne_28 rfl rfl ?_
    exact j_iret X Y dX7_allBorne_29 h
  · replace h := h.2 c6
    refine j_iload_n X 1 dX7_allBorne_14 rfl rfl ?_
    refine j_aload_n X 0 dX7_allBorne_15 rfl rfl ?_
    refine j_iload_n X 2 dX7_allBorne_16 rfl rfl ?_
    refine jc_RX7_193 X ⟨Nat.le_of_ble_eq_true rfl, Nat.le_of_ble_eq_true rfl⟩ (Nat.le_of_ble_eq_true rfl) dX7_allBorne_17 h (fun r8 M7 h => ?_)
    refine j_iadd X dX7_allBorne_20 ?_
    refine j_topi (fun x9 ex9 => ?_)
    replace h := h x9 ex9
    refine j_istore_n X [(1, .int x9), (0, .ref (adr G 7 0)), (2, .int x4)] dX7_allBorne_21 rfl (by decide) rfl ?_
    obtain ⟨x10, ex10⟩ : ∃ z : Int32, z = x4 + (1 : Int32) := ⟨_, rfl⟩
    replace h := h x10 ex10
    refine j_iinc (v := x10) X 2 [(2, .int x10), (1, .int x9), (0, .ref (adr G 7 0))] dX7_allBorne_22 rfl (by rw [ex10]; rfl) (by decide) rfl ?_
    refine j_goto X 4 dX7_allBorne_25 (by decide) ?_
    refine j_sub [2, 1, 0] rfl ?_
    exact ih2 x9 x10 M7 h
theorem jc_RX7_238 {G : GT} {E : ET} {cc : ByteArray} {nL pc : Nat} {rm : Room} {lv : List (Nat × Value)} {st : List Value} {M : Mm} (X : CX G E RX7 cc nL rm) (hR : 12 + 1 ≤ rm.frames ∧ 8 + (3 + 11) + 273 ≤ rm.locals) (hst : (st.map fun v => v.category).sum ≤ 8) (d : decode cc pc = .ok (.invokevirtual 238, 3))  {P : Int32 → Mm → Prop} (h : wp_X7_allBorne  M P) (k1 : ∀ (r : Int32) (M2 : Mm), P r M2 → J G E nL (pc + 3) lv (.int r :: st) M2) : J G E nL pc lv (.ref (adr G 7 0) :: st) M := fun H locs ls hP hS hl => by
  have hK := X.2.2.2.2.2.1.1
  have hm := met_X7_allBorne (l := eL E) X.2.2.2.2.2.2.1  M P h
  have hR2 : 12 + 1 ≤ (eR E).frames ∧ 8 + (3 + 11) + 273 ≤ (eR E).locals := by rw [X.2.2.2.2.2.2.2.1]; exact hR
  have hC2 : eCells E + 0 ≤ (eR E).cells ∧ eSlots E + 0 ≤ (eR E).slots := by rw [X.2.2.2.2.2.2.2.1]; exact ⟨X.2.2.2.2.2.2.2.2.1, X.2.2.2.2.2.2.2.2.2⟩
  obtain ⟨q0, -, hq⟩ := wld_get (G := G) M (mw7 0 (by decide))
  exact va_calli (va_runV (C := RX7) (As := []) (rest := st) ⟨X.1, X.2.1, X.2.2.1, X.2.2.2.1, X.2.2.2.2.1⟩ hm (cwV (ws' := lw_aw) 0 X.2.2.2.2.1 (gwV (tw (i := 1244) (by decide +kernel)) (tw (i := 1246) (by decide +kernel)) (tw (i := 67) (by decide +kernel)) (tw (i := 78) (by decide +kernel)) (tw (i := 1247) (by decide +kernel))) rfl rfl rfl (by decide +kernel) hR2) ⟨hr_blind, va_recv hK hP (ci := 7) (q := (RX7, TX7, 15)) (fs := objF7 G 0 (M.1 7 0)) (q0 := q0) rfl hq, fun U hU hW => ⟨rfl, by rw [hU]; exact hP, KK.warm hW X.2.2.2.2.2.1⟩⟩ rfl rfl hl.1 rfl (lv_room hst) d hC2) hS (fun q _ h => h) (fun q h => h) (fun r u t H1 locs1 ht hvm hw hB hz1 hk1 hS1 => k1 r u hw H1 locs1 ls (by rw [← ht]; exact hB.1) hS1 hl)
/-- LayeredClaimsModel.account(I)I -/
def wp_X7_account (a1 : Int32) (M : Mm) (P : Int32 → Mm → Prop) : Prop := ((a1 = 0 → (wp_X7_overEvents (0 : Int32) M (fun (r3 : Int32) (M2 : Mm) => P r3 M2))) ∧ (a1 = 1 → (wp_X7_allPaid  M (fun (r5 : Int32) (M4 : Mm) => P r5 M4))) ∧ (a1 = 2 → (wp_X7_allDeducted  M (fun (r7 : Int32) (M6 : Mm) => P r7 M6))) ∧ (a1 = 3 → (wp_X7_overEvents (3 : Int32) M (fun (r9 : Int32) (M8 : Mm) => P r9 M8))) ∧ (a1 = 4 → (wp_X7_allBorne  M (fun (r11 : Int32) (M10 : Mm) => P r11 M10))) ∧ (a1 = 5 → (wp_X7_overEvents (5 : Int32) M (fun (r13 : Int32) (M12 : Mm) => P r13 M12))) ∧ (a1 = 6 → (wp_X7_premiums (8 : Int32) (rd M 160 0 0) M (fun (r15 : Int32) (M14 : Mm) => P r15 M14))) ∧ (a1 = 7 → (wp_X7_layerPremiums  M (fun (r17 : Int32) (M16 : Mm) => P r17 M16))) ∧ (a1 = 8 → (wp_X7_overEvents (0 : Int32) M (fun (r19 : Int32) (M18 : Mm) => (wp_X7_allPaid  M18 (fun (r21 : Int32) (M20 : Mm) => P (r19 - r21) M20))))) ∧ (¬ a1 = 0 → ¬ a1 = 1 → ¬ a1 = 2 → ¬ a1 = 3 → ¬ a1 = 4 → ¬ a1 = 5 → ¬ a1 = 6 → ¬ a1 = 7 → ¬ a1 = 8 → P (-2 : Int32) M))
set_option maxHeartbeats 4000000 in
set_option maxRecDepth 100000 in
theorem met_X7_account {l : Launch} {G : GT} (hG : GD G) (a1 : Int32) (M : Mm) (P : Int32 → Mm → Prop) (h : wp_X7_account a1 M P) : MI l G yX7_account cX7_account 2 (some .int) ({ frames := 15, cells := 0, slots := 0, locals := 337 } : Room) [.ref (adr G 7 0), .int a1] M P := by
  refine met_by hG (own := RX7) rfl (by decide +kernel) (Nat.le_of_ble_eq_true rfl) (fun E hE X Y => ?_)
  show J G E 2 0 [(0, .ref (adr G 7 0)), (1, .int a1)] [] M
  unfold wp_X7_account at h
  refine j_iload_n X 1 dX7_account_0 rfl rfl ?_
  refine j_ts_0_8 X (t0 := 52) (t1 := 58) (t2 := 63) (t3 := 68) (t4 := 74) (t5 := 79) (t6 := 85) (t7 := 98) (t8 := 103) (td := 114) dX7_account_1 rfl (by decide) (by decide) (by decide) (by decide) (by decide) (by decide) (by decide) (by decide) (by decide) (by decide) (fun c1 => ?_) (fun c1 => ?_) (fun c1 => ?_) (fun c1 => ?_) (fun c1 => ?_) (fun c1 => ?_) (fun c1 => ?_) (fun c1 => ?_) (fun c1 => ?_) (fun c22 c23 c24 c25 c26 c27 c28 c29 c30 => ?_)
  · replace h := h.1 c1
    refine j_aload_n X 0 dX7_account_52 rfl rfl ?_
    refine j_iconst (v := (0 : Int32)) X (by decide) dX7_account_53 ?_
    refine jc_RX7_229 X ⟨Nat.le_of_ble_eq_true rfl, Nat.le_of_ble_eq_true rfl⟩ (Nat.le_of_ble_eq_true rfl) dX7_account_54 h (fun r3 M2 h => ?_)
    exact j_iret X Y dX7_account_57 h
  · replace h := h.2.1 c1
    refine j_aload_n X 0 dX7_account_58 rfl rfl ?_
    refine jc_RX7_232 X ⟨Nat.le_of_ble_eq_true rfl, Nat.le_of_ble_eq_true rfl⟩ (Nat.le_of_ble_eq_true rfl) dX7_account_59 h (fun r5 M4 h => ?_)
    exact j_iret X Y dX7_account_62 h
  · replace h := h.2.2.1 c1
    refine j_aload_n X 0 dX7_account_63 rfl rfl ?_
    refine jc_RX7_235 X ⟨Nat.le_of_ble_eq_true rfl, Nat.le_of_ble_eq_true rfl⟩ (Nat.le_of_ble_eq_true rfl) dX7_account_64 h (fun r7 M6 h => ?_)
    exact j_iret X Y dX7_account_67 h
  · replace h := h.2.2.2.1 c1
    refine j_aload_n X 0 dX7_account_68 rfl rfl ?_
    refine j_iconst (v := (3 : Int32)) X (by decide) dX7_account_69 ?_
    refine jc_RX7_229 X ⟨Nat.le_of_ble_eq_true rfl, Nat.le_of_ble_eq_true rfl⟩ (Nat.le_of_ble_eq_true rfl) dX7_account_70 h (fun r9 M8 h => ?_)
    exact j_iret X Y dX7_account_73 h
  · replace h := h.2.2.2.2.1 c1
    refine j_aload_n X 0 dX7_account_74 rfl rfl ?_
    refine jc_RX7_238 X ⟨Nat.le_of_ble_eq_true rfl, Nat.le_of_ble_eq_true rfl⟩ (Nat.le_of_ble_eq_true rfl) dX7_account_75 h (fun r11 M10 h => ?_)
    exact j_iret X Y dX7_account_78 h
  · replace h := h.2.2.2.2.2.1 c1
    refine j_aload_n X 0 dX7_account_79 rfl rfl ?_
    refine j_iconst (v := (5 : Int32)) X (by decide) dX7_account_80 ?_
    refine jc_RX7_229 X ⟨Nat.le_of_ble_eq_true rfl, Nat.le_of_ble_eq_true rfl⟩ (Nat.le_of_ble_eq_true rfl) dX7_account_81 h (fun r13 M12 h => ?_)
    exact j_iret X Y dX7_account_84 h
  · replace h := h.2.2.2.2.2.2.1 c1
    refine j_aload_n X 0 dX7_account_85 rfl rfl ?_
    refine j_bipush (v := (8 : Int32)) X (by decide) dX7_account_86 ?_
    refine j_aload_n X 0 dX7_account_88 rfl rfl ?_
    refine jf_RX7_9 X  dX7_account_89 ?_
    refine j_iconst (v := (0 : Int32)) X (by decide) dX7_account_92 ?_
    refine j_iald X 0 (by decide) (mw160 0 (by decide)) kt160 lt160 (vpc (by decide)) dX7_account_93 ?_
    refine jc_RX7_226 X ⟨Nat.le_of_ble_eq_true rfl, Nat.le_of_ble_eq_true rfl⟩ (Nat.le_of_ble_eq_true rfl) dX7_account_94 h (fun r15 M14 h => ?_)
    exact j_iret X Y dX7_account_97 h
  · replace h := h.2.2.2.2.2.2.2.1 c1
    refine j_aload_n X 0 dX7_account_98 rfl rfl ?_
    refine jc_RX7_241 X ⟨Nat.le_of_ble_eq_true rfl, Nat.le_of_ble_eq_true rfl⟩ (Nat.le_of_ble_eq_true rfl) dX7_account_99 h (fun r17 M16 h => ?_)
    exact j_iret X Y dX7_account_102 h
  · replace h := h.2.2.2.2.2.2.2.2.1 c1
    refine j_aload_n X 0 dX7_account_103 rfl rfl ?_
    refine j_iconst (v := (0 : Int32)) X (by decide) dX7_account_104 ?_
    refine jc_RX7_229 X ⟨Nat.le_of_ble_eq_true rfl, Nat.le_of_ble_eq_true rfl⟩ (Nat.le_of_ble_eq_true rfl) dX7_account_105 h (fun r19 M18 h => ?_)
    refine j_aload_n X 0 dX7_account_108 rfl rfl ?_
    refine jc_RX7_232 X ⟨Nat.le_of_ble_eq_true rfl, Nat.le_of_ble_eq_true rfl⟩ (Nat.le_of_ble_eq_true rfl) dX7_account_109 h (fun r21 M20 h => ?_)
    refine j_isub X dX7_account_112 ?_
    exact j_iret X Y dX7_account_113 h
  · replace h := h.2.2.2.2.2.2.2.2.2 c22 c23 c24 c25 c26 c27 c28 c29 c30
    refine j_bipush (v := (-2 : Int32)) X (by decide) dX7_account_114 ?_
    exact j_iret X Y dX7_account_116 h
/-- LayeredClaimsModel.result()I -/
def wp_X7_result  (M : Mm) (P : Int32 → Mm → Prop) : Prop := (wp_X7_premiums (8 : Int32) (rd M 160 0 0) M (fun (r2 : Int32) (M1 : Mm) => (wp_X7_layerPremiums  M1 (fun (r4 : Int32) (M3 : Mm) => (wp_X7_overEvents (5 : Int32) M3 (fun (r6 : Int32) (M5 : Mm) => P (((r2 - r4) - r6) + (10000000 : Int32)) M5))))))
set_option maxHeartbeats 4000000 in
set_option maxRecDepth 100000 in
theorem met_X7_result {l : Launch} {G : GT} (hG : GD G)  (M : Mm) (P : Int32 → Mm → Prop) (h : wp_X7_result  M P) : MI l G yX7_result cX7_result 1 (some .int) ({ frames := 15, cells := 0, slots := 0, locals := 337 } : Room) [.ref (adr G 7 0)] M P := by
  refine met_by hG (own := RX7) rfl (by decide +kernel) (Nat.le_of_ble_eq_true rfl) (fun E hE X Y => ?_)
  show J G E 1 0 [(0, .ref (adr G 7 0))] [] M
  unfold wp_X7_result at h
  refine j_aload_n X 0 dX7_result_0 rfl rfl ?_
  refine j_bipush (v := (8 : Int32)) X (by decide) dX7_result_1 ?_
  refine j_aload_n X 0 dX7_result_3 rfl rfl ?_
  refine jf_RX7_9 X  dX7_result_4 ?_
  refine j_iconst (v := (0 : Int32)) X (by decide) dX7_result_7 ?_
  refine j_iald X 0 (by decide) (mw160 0 (by decide)) kt160 lt160 (vpc (by decide)) dX7_result_8 ?_
  refine jc_RX7_226 X ⟨Nat.le_of_ble_eq_true rfl, Nat.le_of_ble_eq_true rfl⟩ (Nat.le_of_ble_eq_true rfl) dX7_result_9 h (fun r2 M1 h => ?_)
  refine j_aload_n X 0 dX7_result_12 rfl rfl ?_
  refine jc_RX7_241 X ⟨Nat.le_of_ble_eq_true rfl, Nat.le_of_ble_eq_true rfl⟩ (Nat.le_of_ble_eq_true rfl) dX7_result_13 h (fun r4 M3 h => ?_)
  refine j_isub X dX7_result_16 ?_
  refine j_aload_n X 0 dX7_result_17 rfl rfl ?_
  refine j_iconst (v := (5 : Int32)) X (by decide) dX7_result_18 ?_
  refine jc_RX7_229 X ⟨Nat.le_of_ble_eq_true rfl, Nat.le_of_ble_eq_true rfl⟩ (Nat.le_of_ble_eq_true rfl) dX7_result_19 h (fun r6 M5 h => ?_)
  refine j_isub X dX7_result_22 ?_
  refine j_ldc (v := (10000000 : Int32)) X (tw (i := 1260) (by decide +kernel)) dX7_result_23 ?_
  refine j_iadd X dX7_result_25 ?_
  exact j_iret X Y dX7_result_26 h
/-- java/lang/Float.isNaN(F)Z -/
def wp_Jxf58ca_isNaN_12338 (a1 : UInt32) (M : Mm) (P : Int32 → Mm → Prop) : Prop := (((Op.cmpValue (FP.fcmp a1 a1) CmpOp.l) = 0 → P (0 : Int32) M) ∧ (¬ (Op.cmpValue (FP.fcmp a1 a1) CmpOp.l) = 0 → P (1 : Int32) M))
set_option maxHeartbeats 4000000 in
set_option maxRecDepth 100000 in
theorem met_Jxf58ca_isNaN_12338 {l : Launch} {G : GT} (hG : GD G) (a1 : UInt32) (M : Mm) (P : Int32 → Mm → Prop) (h : wp_Jxf58ca_isNaN_12338 a1 M P) : MI l G yJxf58ca_isNaN_12338 cJxf58ca_isNaN_12338 1 (some .boolean) ({ frames := 0, cells := 0, slots := 0, locals := 0 } : Room) [.float a1] M P := by
  refine met_by hG (own := RJxf58ca) rfl (by decide +kernel) (Nat.le_of_ble_eq_true rfl) (fun E hE X Y => ?_)
  show J G E 1 0 [(0, .float a1)] [] M
  unfold wp_Jxf58ca_isNaN_12338 at h
  refine j_fload_n X 0 dJxf58ca_isNaN_12338_0 rfl rfl ?_
  refine j_fload_n X 0 dJxf58ca_isNaN_12338_1 rfl rfl ?_
  refine j_fcmp X dJxf58ca_isNaN_12338_2 ?_
  refine j_if_eq X 10 dJxf58ca_isNaN_12338_3 (by decide) (fun c1 => ?_) (fun c1 => ?_)
  · replace h := h.1 c1
    refine j_iconst (v := (0 : Int32)) X (by decide) dJxf58ca_isNaN_12338_10 ?_
    exact j_zret X Y dJxf58ca_isNaN_12338_11 rfl h
  · replace h := h.2 c1
    refine j_iconst (v := (1 : Int32)) X (by decide) dJxf58ca_isNaN_12338_6 ?_
    refine j_goto X 11 dJxf58ca_isNaN_12338_7 (by decide) ?_
    exact j_zret X Y dJxf58ca_isNaN_12338_11 rfl h
theorem jc_RJxf58ca_59 {G : GT} {E : ET} {cc : ByteArray} {nL pc : Nat} {rm : Room} {lv : List (Nat × Value)} {st : List Value} {M : Mm} (X : CX G E RJxf58ca cc nL rm) (hR : 0 + 1 ≤ rm.frames ∧ 8 + (1 + 11) + 0 ≤ rm.locals) (hst : (st.map fun v => v.category).sum ≤ 8) (d : decode cc pc = .ok (.invokestatic 59, 3)) {a1 : UInt32} {P : Int32 → Mm → Prop} (h : wp_Jxf58ca_isNaN_12338 a1 M P) (k1 : ∀ (r : Int32) (M2 : Mm), P r M2 → J G E nL (pc + 3) lv (.int r :: st) M2) : J G E nL pc lv (.float a1 :: st) M := fun H locs ls hP hS hl => by
  have hK := X.2.2.2.2.2.1.1
  have hm := met_Jxf58ca_isNaN_12338 (l := eL E) X.2.2.2.2.2.2.1 a1 M P h
  have hR2 : 0 + 1 ≤ (eR E).frames ∧ 8 + (1 + 11) + 0 ≤ (eR E).locals := by rw [X.2.2.2.2.2.2.2.1]; exact hR
  have hC2 : eCells E + 0 ≤ (eR E).cells ∧ eSlots E + 0 ≤ (eR E).slots := by rw [X.2.2.2.2.2.2.2.1]; exact ⟨X.2.2.2.2.2.2.2.2.1, X.2.2.2.2.2.2.2.2.2⟩
  exact va_calli (va_runS (As := [.float a1]) (rest := st) ⟨X.1, X.2.1, X.2.2.1, X.2.2.2.1, X.2.2.2.2.1⟩ hm (va_cwS (ws' := lw_aw) 1 X.2.2.2.2.1 (gwS (tw (i := 1268) (by decide +kernel)) (tw (i := 1269) (by decide +kernel)) (tw (i := 81) (by decide +kernel)) (tw (i := 1270) (by decide +kernel))) rfl rfl rfl (by decide +kernel) hR2) ⟨hr_blind, fun U hU hW => ⟨rfl, by rw [hU]; exact hP, KK.warm hW X.2.2.2.2.2.1⟩⟩ rfl rfl hl.1 rfl (lv_room hst) d hC2) hS (fun q _ h => h) (fun q h => h) (fun r u t H1 locs1 ht hvm hw hB hz1 hk1 hS1 => k1 r u hw H1 locs1 ls (by rw [← ht]; exact hB.1) hS1 hl)
/-- java/lang/Float.floatToIntBits(F)I -/
def wp_Jxf58ca_floatToIntBits_5c35a (a1 : UInt32) (M : Mm) (P : Int32 → Mm → Prop) : Prop := (wp_Jxf58ca_isNaN_12338 a1 M (fun (r2 : Int32) (M1 : Mm) => ((¬ r2 = 0 → P (2143289344 : Int32) M1) ∧ (r2 = 0 → P a1.toInt32 M1))))
set_option maxHeartbeats 4000000 in
set_option maxRecDepth 100000 in
theorem met_Jxf58ca_floatToIntBits_5c35a {l : Launch} {G : GT} (hG : GD G) (a1 : UInt32) (M : Mm) (P : Int32 → Mm → Prop) (h : wp_Jxf58ca_floatToIntBits_5c35a a1 M P) : MI l G yJxf58ca_floatToIntBits_5c35a cJxf58ca_floatToIntBits_5c35a 1 (some .int) ({ frames := 1, cells := 0, slots := 0, locals := 23 } : Room) [.float a1] M P := by
  refine met_by hG (own := RJxf58ca) rfl (by decide +kernel) (Nat.le_of_ble_eq_true rfl) (fun E hE X Y => ?_)
  show J G E 1 0 [(0, .float a1)] [] M
  unfold wp_Jxf58ca_floatToIntBits_5c35a at h
  refine j_fload_n X 0 dJxf58ca_floatToIntBits_5c35a_0 rfl rfl ?_
  refine jc_RJxf58ca_59 X ⟨Nat.le_of_ble_eq_true rfl, Nat.le_of_ble_eq_true rfl⟩ (Nat.le_of_ble_eq_true rfl) dJxf58ca_floatToIntBits_5c35a_1 h (fun r2 M1 h => ?_)
  refine j_if_ne X 12 dJxf58ca_floatToIntBits_5c35a_4 (by decide) (fun c3 => ?_) (fun c3 => ?_)
  · replace h := h.1 c3
    refine j_ldc (v := (2143289344 : Int32)) X (tw (i := 1274) (by decide +kernel)) dJxf58ca_floatToIntBits_5c35a_12 ?_
    exact j_iret X Y dJxf58ca_floatToIntBits_5c35a_14 h
  · replace h := h.2 c3
    refine j_fload_n X 0 dJxf58ca_floatToIntBits_5c35a_7 rfl rfl ?_
    refine j_f2bits X (tw (i := 1271) (by decide +kernel)) (Nat.le_of_ble_eq_true rfl) (Nat.le_of_ble_eq_true rfl) dJxf58ca_floatToIntBits_5c35a_8 ?_
    exact j_iret X Y dJxf58ca_floatToIntBits_5c35a_11 h
theorem jc_RX7_245 {G : GT} {E : ET} {cc : ByteArray} {nL pc : Nat} {rm : Room} {lv : List (Nat × Value)} {st : List Value} {M : Mm} (X : CX G E RX7 cc nL rm) (hR : 1 + 1 ≤ rm.frames ∧ 8 + (1 + 11) + 23 ≤ rm.locals) (hst : (st.map fun v => v.category).sum ≤ 8) (d : decode cc pc = .ok (.invokestatic 245, 3)) {a1 : UInt32} {P : Int32 → Mm → Prop} (h : wp_Jxf58ca_floatToIntBits_5c35a a1 M P) (k1 : ∀ (r : Int32) (M2 : Mm), P r M2 → J G E nL (pc + 3) lv (.int r :: st) M2) : J G E nL pc lv (.float a1 :: st) M := fun H locs ls hP hS hl => by
  have hK := X.2.2.2.2.2.1.1
  have hm := met_Jxf58ca_floatToIntBits_5c35a (l := eL E) X.2.2.2.2.2.2.1 a1 M P h
  have hR2 : 1 + 1 ≤ (eR E).frames ∧ 8 + (1 + 11) + 23 ≤ (eR E).locals := by rw [X.2.2.2.2.2.2.2.1]; exact hR
  have hC2 : eCells E + 0 ≤ (eR E).cells ∧ eSlots E + 0 ≤ (eR E).slots := by rw [X.2.2.2.2.2.2.2.1]; exact ⟨X.2.2.2.2.2.2.2.2.1, X.2.2.2.2.2.2.2.2.2⟩
  exact va_calli (va_runS (As := [.float a1]) (rest := st) ⟨X.1, X.2.1, X.2.2.1, X.2.2.2.1, X.2.2.2.2.1⟩ hm (va_cwS (ws' := lw_aw) 1 X.2.2.2.2.1 (gwS (tw (i := 1265) (by decide +kernel)) (tw (i := 1266) (by decide +kernel)) (tw (i := 81) (by decide +kernel)) (tw (i := 1267) (by decide +kernel))) rfl rfl rfl (by decide +kernel) hR2) ⟨hr_blind, fun U hU hW => ⟨rfl, by rw [hU]; exact hP, KK.warm hW X.2.2.2.2.2.1⟩⟩ rfl rfl hl.1 rfl (lv_room hst) d hC2) hS (fun q _ h => h) (fun q h => h) (fun r u t H1 locs1 ht hvm hw hB hz1 hk1 hS1 => k1 r u hw H1 locs1 ls (by rw [← ht]; exact hB.1) hS1 hl)
/-- LayeredClaimsModel.ratioBits()I -/
def wp_X7_ratioBits  (M : Mm) (P : Int32 → Mm → Prop) : Prop := (wp_X7_premiums (8 : Int32) (rd M 160 0 0) M (fun (r2 : Int32) (M1 : Mm) => ((¬ r2 = 0 → (wp_X7_allPaid  M1 (fun (r5 : Int32) (M4 : Mm) => (vf_n32 (FP.fdiv (FP.i2f r5) (FP.i2f r2)) ∧ (wp_Jxf58ca_floatToIntBits_5c35a (FP.fdiv (FP.i2f r5) (FP.i2f r2)) M4 (fun (r8 : Int32) (M7 : Mm) => P r8 M7)))))) ∧ (r2 = 0 → P (-4 : Int32) M1))))
set_option maxHeartbeats 4000000 in
set_option maxRecDepth 100000 in
theorem met_X7_ratioBits {l : Launch} {G : GT} (hG : GD G)  (M : Mm) (P : Int32 → Mm → Prop) (h : wp_X7_ratioBits  M P) : MI l G yX7_ratioBits cX7_ratioBits 2 (some .int) ({ frames := 8, cells := 0, slots := 0, locals := 183 } : Room) [.ref (adr G 7 0)] M P := by
  refine met_by hG (own := RX7) rfl (by decide +kernel) (Nat.le_of_ble_eq_true rfl) (fun E hE X Y => ?_)
  show J G E 2 0 [(0, .ref (adr G 7 0))] [] M
  unfold wp_X7_ratioBits at h
  refine j_aload_n X 0 dX7_ratioBits_0 rfl rfl ?_
  refine j_bipush (v := (8 : Int32)) X (by decide) dX7_ratioBits_1 ?_
  refine j_aload_n X 0 dX7_ratioBits_3 rfl rfl ?_
  refine jf_RX7_9 X  dX7_ratioBits_4 ?_
  refine j_iconst (v := (0 : Int32)) X (by decide) dX7_ratioBits_7 ?_
  refine j_iald X 0 (by decide) (mw160 0 (by decide)) kt160 lt160 (vpc (by decide)) dX7_ratioBits_8 ?_
  refine jc_RX7_226 X ⟨Nat.le_of_ble_eq_true rfl, Nat.le_of_ble_eq_true rfl⟩ (Nat.le_of_ble_eq_true rfl) dX7_ratioBits_9 h (fun r2 M1 h => ?_)
  refine j_istore_n X [(1, .int r2), (0, .ref (adr G 7 0))] dX7_ratioBits_12 rfl (by decide) rfl ?_
  refine j_iload_n X 0 dX7_ratioBits_13 rfl rfl ?_
  refine j_if_ne X 22 dX7_ratioBits_14 (by decide) (fun c3 => ?_) (fun c3 => ?_)
  · replace h := h.1 c3
    refine j_aload_n X 1 dX7_ratioBits_22 rfl rfl ?_
    refine jc_RX7_232 X ⟨Nat.le_of_ble_eq_true rfl, Nat.le_of_ble_eq_true rfl⟩ (Nat.le_of_ble_eq_true rfl) dX7_ratioBits_23 h (fun r5 M4 h => ?_)
    refine j_i2f X dX7_ratioBits_26 ?_
    refine j_iload_n X 0 dX7_ratioBits_27 rfl rfl ?_
    refine j_i2f X dX7_ratioBits_28 ?_
    have q6 := h.1
    replace h := h.2
    refine j_fdiv X q6 dX7_ratioBits_29 ?_
    refine jc_RX7_245 X ⟨Nat.le_of_ble_eq_true rfl, Nat.le_of_ble_eq_true rfl⟩ (Nat.le_of_ble_eq_true rfl) dX7_ratioBits_30 h (fun r8 M7 h => ?_)
    exact j_iret X Y dX7_ratioBits_33 h
  · replace h := h.2 c3
    refine j_bipush (v := (-4 : Int32)) X (by decide) dX7_ratioBits_17 ?_
    refine j_goto X 33 dX7_ratioBits_19 (by decide) ?_
    exact j_iret X Y dX7_ratioBits_33 h
/-- LayeredClaimsModel.isBalanced()I -/
def wp_X7_isBalanced  (M : Mm) (P : Int32 → Mm → Prop) : Prop := (∃ n, lq3 (fun self1 (x3 : Int32) (x4 : Int32) (M5 : Mm) => (((rd M5 160 0 3) ≤ x4 → (wp_X7_allPaid  M5 (fun (r8 : Int32) (M7 : Mm) => (jn (fun (v9 : Int32) (M10 : Mm) => ((v9 = 0 → P (0 : Int32) M10) ∧ (¬ v9 = 0 → P (1 : Int32) M10))) (fun J11 : Int32 → Mm → Prop => (jn (fun  (M14 : Mm) => J11 (0 : Int32) M14) (fun J15 : Mm → Prop => ((¬ x3 = r8 → J15 M7) ∧ (x3 = r8 → (wp_X7_allBorne  M7 (fun (r19 : Int32) (M18 : Mm) => (wp_X7_overEvents (5 : Int32) M18 (fun (r21 : Int32) (M20 : Mm) => (wp_X7_overEvents (3 : Int32) M20 (fun (r23 : Int32) (M22 : Mm) => ((¬ (r19 + r21) = r23 → J15 M22) ∧ ((r19 + r21) = r23 → (wp_X7_allPaid  M22 (fun (r26 : Int32) (M25 : Mm) => (wp_X7_allDeducted  M25 (fun (r28 : Int32) (M27 : Mm) => (wp_X7_overEvents (0 : Int32) M27 (fun (r30 : Int32) (M29 : Mm) => ((r30 < (r26 + r28) → J15 M29) ∧ (¬ r30 < (r26 + r28) → J11 (1 : Int32) M29))))))))))))))))))))))))) ∧ (¬ (rd M5 160 0 3) ≤ x4 → (wp_X7_paidFor x4 M5 (fun (r33 : Int32) (M32 : Mm) => (∀ x34 : Int32, x34 = (x3 + r33) → (∀ x35 : Int32, x35 = x4 + (1 : Int32) → self1 x34 x35 M32))))))) n (0 : Int32) (0 : Int32) M)
set_option maxHeartbeats 4000000 in
set_option maxRecDepth 100000 in
theorem met_X7_isBalanced {l : Launch} {G : GT} (hG : GD G)  (M : Mm) (P : Int32 → Mm → Prop) (h : wp_X7_isBalanced  M P) : MI l G yX7_isBalanced cX7_isBalanced 3 (some .int) ({ frames := 14, cells := 0, slots := 0, locals := 320 } : Room) [.ref (adr G 7 0)] M P := by
  refine met_by hG (own := RX7) rfl (by decide +kernel) (Nat.le_of_ble_eq_true rfl) (fun E hE X Y => ?_)
  show J G E 3 0 [(0, .ref (adr G 7 0))] [] M
  unfold wp_X7_isBalanced at h
  refine j_iconst (v := (0 : Int32)) X (by decide) dX7_isBalanced_0 ?_
  refine j_istore_n X [(1, .int (0 : Int32)), (0, .ref (adr G 7 0))] dX7_isBalanced_1 rfl (by decide) rfl ?_
  refine j_iconst (v := (0 : Int32)) X (by decide) dX7_isBalanced_2 ?_
  refine j_istore_n X [(2, .int (0 : Int32)), (1, .int (0 : Int32)), (0, .ref (adr G 7 0))] dX7_isBalanced_3 rfl (by decide) rfl ?_
  refine j_sub [2, 1, 0] rfl ?_
  refine lq3_s h (fun (x3 : Int32) (x4 : Int32) (M5 : Mm) => J G E 3 4 [(0, .ref (adr G 7 0)), (1, .int x3), (2, .int x4)] [] M5) (fun self1 ih2 x3 x4 M5 h => ?_) id
  refine j_iload_n X 2 dX7_isBalanced_4 rfl rfl ?_
  refine j_aload_n X 0 dX7_isBalanced_5 rfl rfl ?_
  refine jf_RX7_9 X  dX7_isBalanced_6 ?_
  refine j_iconst (v := (3 : Int32)) X (by decide) dX7_isBalanced_9 ?_
  refine j_iald X 3 (by decide) (mw160 0 (by decide)) kt160 lt160 (vpc (by decide)) dX7_isBalanced_10 ?_
  refine j_icmp_ge X 28 dX7_isBalanced_11 (by decide) (fun c6 => ?_) (fun c6 => ?_)
  · replace h := h.1 c6
    refine j_iload_n X 1 dX7_isBalanced_28 rfl rfl ?_
    refine j_aload_n X 0 dX7_isBalanced_29 rfl rfl ?_
    refine jc_RX7_232 X ⟨Nat.le_of_ble_eq_true rfl, Nat.le_of_ble_eq_true rfl⟩ (Nat.le_of_ble_eq_true rfl) dX7_isBalanced_30 h (fun r8 M7 h => ?_)
    refine jn2_s h (fun (v9 : Int32) (M10 : Mm) => J G E 3 76 [] [.int v9] M10) (fun v9 M10 h => ?_) (fun J11 hj12 h => ?_)
    · refine j_istore_n X [(2, .int v9)] dX7_isBalanced_76 rfl (by decide) rfl ?_
      refine j_iload_n X 0 dX7_isBalanced_77 rfl rfl ?_
      refine j_if_eq X 85 dX7_isBalanced_78 (by decide) (fun c13 => ?_) (fun c13 => ?_)
      · replace h := h.1 c13
        refine j_iconst (v := (0 : Int32)) X (by decide) dX7_isBalanced_85 ?_
        exact j_iret X Y dX7_isBalanced_86 h
      · replace h := h.2 c13
        refine j_iconst (v := (1 : Int32)) X (by decide) dX7_isBalanced_81 ?_
        refine j_goto X 86 dX7_isBalanced_82 (by decide) ?_
        exact j_iret X Y dX7_isBalanced_86 h
    · refine jn1_s h (fun  (M14 : Mm) => J G E 3 75 [] [] M14) (fun M14 h => ?_) (fun J15 hj16 h => ?_)
      · refine j_iconst (v := (0 : Int32)) X (by decide) dX7_isBalanced_75 ?_
        refine j_sub [] rfl ?_
        exact hj12 (0 : Int32) M14 h
      · refine j_icmp_ne X 75 dX7_isBalanced_33 (by decide) (fun c17 => ?_) (fun c17 => ?_)
        · replace h := h.1 c17
          refine j_sub [] rfl ?_
          exact hj16 M7 h
        · replace h := h.2 c17
          refine j_aload_n X 0 dX7_isBalanced_36 rfl rfl ?_
          refine jc_RX7_238 X ⟨Nat.le_of_ble_eq_true rfl, Nat.le_of_ble_eq_true rfl⟩ (Nat.le_of_ble_eq_true rfl) dX7_isBalanced_37 h (fun r19 M18 h => ?_)
          refine j_aload_n X 0 dX7_isBalanced_40 rfl rfl ?_
          refine j_iconst (v := (5 : Int32)) X (by decide) dX7_isBalanced_41 ?_
          refine jc_RX7_229 X ⟨Nat.le_of_ble_eq_true rfl, Nat.le_of_ble_eq_true rfl⟩ (Nat.le_of_ble_eq_true rfl) dX7_isBalanced_42 h (fun r21 M20 h => ?_)
          refine j_iadd X dX7_isBalanced_45 ?_
          refine j_aload_n X 0 dX7_isBalanced_46 rfl rfl ?_
          refine j_iconst (v := (3 : Int32)) X (by decide) dX7_isBalanced_47 ?_
          refine jc_RX7_229 X ⟨Nat.le_of_ble_eq_true rfl, Nat.le_of_ble_eq_true rfl⟩ (Nat.le_of_ble_eq_true rfl) dX7_isBalanced_48 h (fun r23 M22 h => ?_)
          refine j_icmp_ne X 75 dX7_isBalanced_51 (by decide) (fun c24 => ?_) (fun c24 => ?_)
          · replace h := h.1 c24
            refine j_sub [] rfl ?_
            exact hj16 M22 h
          · replace h := h.2 c24
            refine j_aload_n X 0 dX7_isBalanced_54 rfl rfl ?_
            refine jc_RX7_232 X ⟨Nat.le_of_ble_eq_true rfl, Nat.le_of_ble_eq_true rfl⟩ (Nat.le_of_ble_eq_true rfl) dX7_isBalanced_55 h (fun r26 M25 h => ?_)
            refine j_aload_n X 0 dX7_isBalanced_58 rfl rfl ?_
            refine jc_RX7_235 X ⟨Nat.le_of_ble_eq_true rfl, Nat.le_of_ble_eq_true rfl⟩ (Nat.le_of_ble_eq_true rfl) dX7_isBalanced_59 h (fun r28 M27 h => ?_)
            refine j_iadd X dX7_isBalanced_62 ?_
            refine j_aload_n X 0 dX7_isBalanced_63 rfl rfl ?_
            refine j_iconst (v := (0 : Int32)) X (by decide) dX7_isBalanced_64 ?_
            refine jc_RX7_229 X ⟨Nat.le_of_ble_eq_true rfl, Nat.le_of_ble_eq_true rfl⟩ (Nat.le_of_ble_eq_true rfl) dX7_isBalanced_65 h (fun r30 M29 h => ?_)
            refine j_icmp_gt X 75 dX7_isBalanced_68 (by decide) (fun c31 => ?_) (fun c31 => ?_)
            · replace h := h.1 c31
              refine j_sub [] rfl ?_
              exact hj16 M29 h
            · replace h := h.2 c31
              refine j_iconst (v := (1 : Int32)) X (by decide) dX7_isBalanced_71 ?_
              refine j_goto X 76 dX7_isBalanced_72 (by decide) ?_
              refine j_sub [] rfl ?_
              exact hj12 (1 : Int32) M29 h
  · replace h := h.2 c6
    refine j_iload_n X 1 dX7_isBalanced_14 rfl rfl ?_
    refine j_aload_n X 0 dX7_isBalanced_15 rfl rfl ?_
    refine j_iload_n X 2 dX7_isBalanced_16 rfl rfl ?_
    refine jc_RX7_217 X ⟨Nat.le_of_ble_eq_true rfl, Nat.le_of_ble_eq_true rfl⟩ (Nat.le_of_ble_eq_true rfl) dX7_isBalanced_17 h (fun r33 M32 h => ?_)
    refine j_iadd X dX7_isBalanced_20 ?_
    refine j_topi (fun x34 ex34 => ?_)
    replace h := h x34 ex34
    refine j_istore_n X [(1, .int x34), (0, .ref (adr G 7 0)), (2, .int x4)] dX7_isBalanced_21 rfl (by decide) rfl ?_
    obtain ⟨x35, ex35⟩ : ∃ z : Int32, z = x4 + (1 : Int32) := ⟨_, rfl⟩
    replace h := h x35 ex35
    refine j_iinc (v := x35) X 2 [(2, .int x35), (1, .int x34), (0, .ref (adr G 7 0))] dX7_isBalanced_22 rfl (by rw [ex35]; rfl) (by decide) rfl ?_
    refine j_goto X 4 dX7_isBalanced_25 (by decide) ?_
    refine j_sub [2, 1, 0] rfl ?_
    exact ih2 x34 x35 M32 h
/-- LayeredClaimsModel.paidIf(II)I -/
def wp_X7_paidIf (a1 : Int32) (a2 : Int32) (M : Mm) (P : Int32 → Mm → Prop) : Prop := (wp_X7_isEvent a1 M (fun (r2 : Int32) (M1 : Mm) => ((¬ r2 = 0 → (wp_X7_in a2 (0 : Int32) (364 : Int32) M1 (fun (r5 : Int32) (M4 : Mm) => ((¬ r5 = 0 → (vp_in ((48 : Int32) + a1) 136 ∧ (∀ x8 : Int32, x8 = (rd M4 160 0 ((48 : Int32) + a1).toNatClampNeg) → (∀ M9 : Mm, M9 = wr M4 160 0 ((48 : Int32) + a1).toNatClampNeg a2 → (wp_X7_allPaid  M9 (fun (r11 : Int32) (M10 : Mm) => (∀ M12 : Mm, M12 = wr M10 160 0 ((48 : Int32) + a1).toNatClampNeg x8 → P r11 M12))))))) ∧ (r5 = 0 → P (-2 : Int32) M4))))) ∧ (r2 = 0 → P (-1 : Int32) M1))))
set_option maxHeartbeats 4000000 in
set_option maxRecDepth 100000 in
theorem met_X7_paidIf {l : Launch} {G : GT} (hG : GD G) (a1 : Int32) (a2 : Int32) (M : Mm) (P : Int32 → Mm → Prop) (h : wp_X7_paidIf a1 a2 M P) : MI l G yX7_paidIf cX7_paidIf 5 (some .int) ({ frames := 8, cells := 0, slots := 0, locals := 183 } : Room) [.ref (adr G 7 0), .int a1, .int a2] M P := by
  refine met_by hG (own := RX7) rfl (by decide +kernel) (Nat.le_of_ble_eq_true rfl) (fun E hE X Y => ?_)
  show J G E 5 0 [(0, .ref (adr G 7 0)), (1, .int a1), (2, .int a2)] [] M
  unfold wp_X7_paidIf at h
  refine j_aload_n X 0 dX7_paidIf_0 rfl rfl ?_
  refine j_iload_n X 1 dX7_paidIf_1 rfl rfl ?_
  refine jc_RX7_75 X ⟨Nat.le_of_ble_eq_true rfl, Nat.le_of_ble_eq_true rfl⟩ (Nat.le_of_ble_eq_true rfl) dX7_paidIf_2 h (fun r2 M1 h => ?_)
  refine j_if_ne X 10 dX7_paidIf_5 (by decide) (fun c3 => ?_) (fun c3 => ?_)
  · replace h := h.1 c3
    refine j_iload_n X 2 dX7_paidIf_10 rfl rfl ?_
    refine j_iconst (v := (0 : Int32)) X (by decide) dX7_paidIf_11 ?_
    refine j_sipush (v := (364 : Int32)) X (by decide) dX7_paidIf_12 ?_
    refine jc_RX7_61 X ⟨Nat.le_of_ble_eq_true rfl, Nat.le_of_ble_eq_true rfl⟩ (Nat.le_of_ble_eq_true rfl) dX7_paidIf_15 h (fun r5 M4 h => ?_)
    refine j_if_ne X 24 dX7_paidIf_18 (by decide) (fun c6 => ?_) (fun c6 => ?_)
    · replace h := h.1 c6
      refine j_aload_n X 0 dX7_paidIf_24 rfl rfl ?_
      refine jf_RX7_9 X  dX7_paidIf_25 ?_
      refine j_bipush (v := (48 : Int32)) X (by decide) dX7_paidIf_28 ?_
      refine j_iload_n X 1 dX7_paidIf_30 rfl rfl ?_
      refine j_iadd X dX7_paidIf_31 ?_
      have q7 := h.1
      replace h := h.2
      refine j_iald X _ rfl (mw160 0 (by decide)) kt160 lt160 q7 dX7_paidIf_32 ?_
      refine j_topi (fun x8 ex8 => ?_)
      replace h := h x8 ex8
      refine j_istore_n X [(3, .int x8), (0, .ref (adr G 7 0)), (1, .int a1), (2, .int a2)] dX7_paidIf_33 rfl (by decide) rfl ?_
      refine j_aload_n X 1 dX7_paidIf_34 rfl rfl ?_
      refine jf_RX7_9 X  dX7_paidIf_35 ?_
      refine j_bipush (v := (48 : Int32)) X (by decide) dX7_paidIf_38 ?_
      refine j_iload_n X 2 dX7_paidIf_40 rfl rfl ?_
      refine j_iadd X dX7_paidIf_41 ?_
      refine j_iload_n X 3 dX7_paidIf_42 rfl rfl ?_
      refine j_iast X _ rfl (mw160 0 (by decide)) kt160 lt160 q7 dX7_paidIf_43 ?_
      refine j_memo (fun M9 eM9 => ?_)
      replace h := h M9 eM9
      refine j_aload_n X 1 dX7_paidIf_44 rfl rfl ?_
      refine jc_RX7_232 X ⟨Nat.le_of_ble_eq_true rfl, Nat.le_of_ble_eq_true rfl⟩ (Nat.le_of_ble_eq_true rfl) dX7_paidIf_45 h (fun r11 M10 h => ?_)
      refine j_istore X [(4, .int r11), (3, .int x8), (0, .ref (adr G 7 0)), (1, .int a1), (2, .int a2)] dX7_paidIf_48 (by decide) rfl ?_
      refine j_aload_n X 2 dX7_paidIf_50 rfl rfl ?_
      refine jf_RX7_9 X  dX7_paidIf_51 ?_
      refine j_bipush (v := (48 : Int32)) X (by decide) dX7_paidIf_54 ?_
      refine j_iload_n X 3 dX7_paidIf_56 rfl rfl ?_
      refine j_iadd X dX7_paidIf_57 ?_
      refine j_iload_n X 1 dX7_paidIf_58 rfl rfl ?_
      refine j_iast X _ rfl (mw160 0 (by decide)) kt160 lt160 q7 dX7_paidIf_59 ?_
      refine j_memo (fun M12 eM12 => ?_)
      replace h := h M12 eM12
      refine j_iload X 0 dX7_paidIf_60 rfl ?_
      exact j_iret X Y dX7_paidIf_62 h
    · replace h := h.2 c6
      refine j_bipush (v := (-2 : Int32)) X (by decide) dX7_paidIf_21 ?_
      exact j_iret X Y dX7_paidIf_23 h
  · replace h := h.2 c3
    refine j_iconst (v := (-1 : Int32)) X (by decide) dX7_paidIf_8 ?_
    exact j_iret X Y dX7_paidIf_9 h
/-- LayeredClaimsModel.leastLimit(I)I -/
def wp_X7_leastLimit (a1 : Int32) (M : Mm) (P : Int32 → Mm → Prop) : Prop := (wp_X7_isCover a1 M (fun (r2 : Int32) (M1 : Mm) => ((¬ r2 = 0 → (∃ n, lq3 (fun self4 (x6 : Int32) (x7 : Int32) (M8 : Mm) => (((rd M8 160 0 2) ≤ x7 → P (if (1 : Int32) < (if x6 < (99999 : Int32) then x6 else (99999 : Int32)) then (if x6 < (99999 : Int32) then x6 else (99999 : Int32)) else (1 : Int32)) M8) ∧ (¬ (rd M8 160 0 2) ≤ x7 → (wp_X7_netOf x7 a1 M8 (fun (r11 : Int32) (M10 : Mm) => (∀ x12 : Int32, x12 = (x6 + (if r11 < ((99999 : Int32) - (if x6 < (99999 : Int32) then x6 else (99999 : Int32))) then r11 else ((99999 : Int32) - (if x6 < (99999 : Int32) then x6 else (99999 : Int32))))) → (∀ x13 : Int32, x13 = x7 + (1 : Int32) → self4 x12 x13 M10))))))) n (0 : Int32) (0 : Int32) M1)) ∧ (r2 = 0 → P (-1 : Int32) M1))))
set_option maxHeartbeats 4000000 in
set_option maxRecDepth 100000 in
theorem met_X7_leastLimit {l : Launch} {G : GT} (hG : GD G) (a1 : Int32) (M : Mm) (P : Int32 → Mm → Prop) (h : wp_X7_leastLimit a1 M P) : MI l G yX7_leastLimit cX7_leastLimit 4 (some .int) ({ frames := 5, cells := 0, slots := 0, locals := 116 } : Room) [.ref (adr G 7 0), .int a1] M P := by
  refine met_by hG (own := RX7) rfl (by decide +kernel) (Nat.le_of_ble_eq_true rfl) (fun E hE X Y => ?_)
  show J G E 4 0 [(0, .ref (adr G 7 0)), (1, .int a1)] [] M
  unfold wp_X7_leastLimit at h
  refine j_aload_n X 0 dX7_leastLimit_0 rfl rfl ?_
  refine j_iload_n X 1 dX7_leastLimit_1 rfl rfl ?_
  refine jc_RX7_78 X ⟨Nat.le_of_ble_eq_true rfl, Nat.le_of_ble_eq_true rfl⟩ (Nat.le_of_ble_eq_true rfl) dX7_leastLimit_2 h (fun r2 M1 h => ?_)
  refine j_if_ne X 10 dX7_leastLimit_5 (by decide) (fun c3 => ?_) (fun c3 => ?_)
  · replace h := h.1 c3
    refine j_iconst (v := (0 : Int32)) X (by decide) dX7_leastLimit_10 ?_
    refine j_istore_n X [(2, .int (0 : Int32)), (0, .ref (adr G 7 0)), (1, .int a1)] dX7_leastLimit_11 rfl (by decide) rfl ?_
    refine j_iconst (v := (0 : Int32)) X (by decide) dX7_leastLimit_12 ?_
    refine j_istore_n X [(3, .int (0 : Int32)), (2, .int (0 : Int32)), (0, .ref (adr G 7 0)), (1, .int a1)] dX7_leastLimit_13 rfl (by decide) rfl ?_
    refine j_sub [2, 3, 1, 0] rfl ?_
    refine lq3_s h (fun (x6 : Int32) (x7 : Int32) (M8 : Mm) => J G E 4 14 [(0, .ref (adr G 7 0)), (1, .int a1), (2, .int x6), (3, .int x7)] [] M8) (fun self4 ih5 x6 x7 M8 h => ?_) id
    refine j_iload_n X 3 dX7_leastLimit_14 rfl rfl ?_
    refine j_aload_n X 0 dX7_leastLimit_15 rfl rfl ?_
    refine jf_RX7_9 X  dX7_leastLimit_16 ?_
    refine j_iconst (v := (2 : Int32)) X (by decide) dX7_leastLimit_19 ?_
    refine j_iald X 2 (by decide) (mw160 0 (by decide)) kt160 lt160 (vpc (by decide)) dX7_leastLimit_20 ?_
    refine j_icmp_ge X 51 dX7_leastLimit_21 (by decide) (fun c9 => ?_) (fun c9 => ?_)
    · replace h := h.1 c9
      refine j_iconst (v := (1 : Int32)) X (by decide) dX7_leastLimit_51 ?_
      refine j_ldc (v := (99999 : Int32)) X (tw (i := 933) (by decide +kernel)) dX7_leastLimit_52 ?_
      refine j_iload_n X 2 dX7_leastLimit_54 rfl rfl ?_
      refine j_min X (tw (i := 1098) (by decide +kernel)) (Nat.le_of_ble_eq_true rfl) (Nat.le_of_ble_eq_true rfl) dX7_leastLimit_55 ?_
      refine j_max X (tw (i := 1143) (by decide +kernel)) (Nat.le_of_ble_eq_true rfl) (Nat.le_of_ble_eq_true rfl) dX7_leastLimit_58 ?_
      exact j_iret X Y dX7_leastLimit_61 h
    · replace h := h.2 c9
      refine j_iload_n X 2 dX7_leastLimit_24 rfl rfl ?_
      refine j_ldc (v := (99999 : Int32)) X (tw (i := 933) (by decide +kernel)) dX7_leastLimit_25 ?_
      refine j_ldc (v := (99999 : Int32)) X (tw (i := 933) (by decide +kernel)) dX7_leastLimit_27 ?_
      refine j_iload_n X 2 dX7_leastLimit_29 rfl rfl ?_
      refine j_min X (tw (i := 1098) (by decide +kernel)) (Nat.le_of_ble_eq_true rfl) (Nat.le_of_ble_eq_true rfl) dX7_leastLimit_30 ?_
      refine j_isub X dX7_leastLimit_33 ?_
      refine j_aload_n X 0 dX7_leastLimit_34 rfl rfl ?_
      refine j_iload_n X 3 dX7_leastLimit_35 rfl rfl ?_
      refine j_iload_n X 1 dX7_leastLimit_36 rfl rfl ?_
      refine jc_RX7_163 X ⟨Nat.le_of_ble_eq_true rfl, Nat.le_of_ble_eq_true rfl⟩ (Nat.le_of_ble_eq_true rfl) dX7_leastLimit_37 h (fun r11 M10 h => ?_)
      refine j_min X (tw (i := 1098) (by decide +kernel)) (Nat.le_of_ble_eq_true rfl) (Nat.le_of_ble_eq_true rfl) dX7_leastLimit_40 ?_
      refine j_iadd X dX7_leastLimit_43 ?_
      refine j_topi (fun x12 ex12 => ?_)
      replace h := h x12 ex12
      refine j_istore_n X [(2, .int x12), (0, .ref (adr G 7 0)), (1, .int a1), (3, .int x7)] dX7_leastLimit_44 rfl (by decide) rfl ?_
      obtain ⟨x13, ex13⟩ : ∃ z : Int32, z = x7 + (1 : Int32) := ⟨_, rfl⟩
      replace h := h x13 ex13
      refine j_iinc (v := x13) X 3 [(3, .int x13), (2, .int x12), (0, .ref (adr G 7 0)), (1, .int a1)] dX7_leastLimit_45 rfl (by rw [ex13]; rfl) (by decide) rfl ?_
      refine j_goto X 14 dX7_leastLimit_48 (by decide) ?_
      refine j_sub [2, 3, 1, 0] rfl ?_
      exact ih5 x12 x13 M10 h
  · replace h := h.2 c3
    refine j_iconst (v := (-1 : Int32)) X (by decide) dX7_leastLimit_8 ?_
    exact j_iret X Y dX7_leastLimit_9 h
/-- LayeredClaimsModel.isPlace(II)Z -/
def wp_X7_isPlace (a1 : Int32) (a2 : Int32) (M : Mm) (P : Int32 → Mm → Prop) : Prop := (wp_X7_in a1 (0 : Int32) (2 : Int32) M (fun (r2 : Int32) (M1 : Mm) => ((r2 = 0 → P (0 : Int32) M1) ∧ (¬ r2 = 0 → (wp_X7_in a2 (0 : Int32) (3 : Int32) M1 (fun (r5 : Int32) (M4 : Mm) => ((r5 = 0 → P (0 : Int32) M4) ∧ (¬ r5 = 0 → P (1 : Int32) M4))))))))
set_option maxHeartbeats 4000000 in
set_option maxRecDepth 100000 in
theorem met_X7_isPlace {l : Launch} {G : GT} (hG : GD G) (a1 : Int32) (a2 : Int32) (M : Mm) (P : Int32 → Mm → Prop) (h : wp_X7_isPlace a1 a2 M P) : MI l G yX7_isPlace cX7_isPlace 2 (some .boolean) ({ frames := 1, cells := 0, slots := 0, locals := 22 } : Room) [.int a1, .int a2] M P := by
  refine met_by hG (own := RX7) rfl (by decide +kernel) (Nat.le_of_ble_eq_true rfl) (fun E hE X Y => ?_)
  show J G E 2 0 [(0, .int a1), (1, .int a2)] [] M
  unfold wp_X7_isPlace at h
  refine j_iload_n X 0 dX7_isPlace_0 rfl rfl ?_
  refine j_iconst (v := (0 : Int32)) X (by decide) dX7_isPlace_1 ?_
  refine j_iconst (v := (2 : Int32)) X (by decide) dX7_isPlace_2 ?_
  refine jc_RX7_61 X ⟨Nat.le_of_ble_eq_true rfl, Nat.le_of_ble_eq_true rfl⟩ (Nat.le_of_ble_eq_true rfl) dX7_isPlace_3 h (fun r2 M1 h => ?_)
  refine j_if_eq X 22 dX7_isPlace_6 (by decide) (fun c3 => ?_) (fun c3 => ?_)
  · replace h := h.1 c3
    refine j_iconst (v := (0 : Int32)) X (by decide) dX7_isPlace_22 ?_
    exact j_zret X Y dX7_isPlace_23 rfl h
  · replace h := h.2 c3
    refine j_iload_n X 1 dX7_isPlace_9 rfl rfl ?_
    refine j_iconst (v := (0 : Int32)) X (by decide) dX7_isPlace_10 ?_
    refine j_iconst (v := (3 : Int32)) X (by decide) dX7_isPlace_11 ?_
    refine jc_RX7_61 X ⟨Nat.le_of_ble_eq_true rfl, Nat.le_of_ble_eq_true rfl⟩ (Nat.le_of_ble_eq_true rfl) dX7_isPlace_12 h (fun r5 M4 h => ?_)
    refine j_if_eq X 22 dX7_isPlace_15 (by decide) (fun c6 => ?_) (fun c6 => ?_)
    · replace h := h.1 c6
      refine j_iconst (v := (0 : Int32)) X (by decide) dX7_isPlace_22 ?_
      exact j_zret X Y dX7_isPlace_23 rfl h
    · replace h := h.2 c6
      refine j_iconst (v := (1 : Int32)) X (by decide) dX7_isPlace_18 ?_
      refine j_goto X 23 dX7_isPlace_19 (by decide) ?_
      exact j_zret X Y dX7_isPlace_23 rfl h
theorem jc_RX7_251 {G : GT} {E : ET} {cc : ByteArray} {nL pc : Nat} {rm : Room} {lv : List (Nat × Value)} {st : List Value} {M : Mm} (X : CX G E RX7 cc nL rm) (hR : 1 + 1 ≤ rm.frames ∧ 8 + (2 + 11) + 22 ≤ rm.locals) (hst : (st.map fun v => v.category).sum ≤ 8) (d : decode cc pc = .ok (.invokestatic 251, 3)) {a1 : Int32} {a2 : Int32} {P : Int32 → Mm → Prop} (h : wp_X7_isPlace a1 a2 M P) (k1 : ∀ (r : Int32) (M2 : Mm), P r M2 → J G E nL (pc + 3) lv (.int r :: st) M2) : J G E nL pc lv (.int a2 :: .int a1 :: st) M := fun H locs ls hP hS hl => by
  have hK := X.2.2.2.2.2.1.1
  have hm := met_X7_isPlace (l := eL E) X.2.2.2.2.2.2.1 a1 a2 M P h
  have hR2 : 1 + 1 ≤ (eR E).frames ∧ 8 + (2 + 11) + 22 ≤ (eR E).locals := by rw [X.2.2.2.2.2.2.2.1]; exact hR
  have hC2 : eCells E + 0 ≤ (eR E).cells ∧ eSlots E + 0 ≤ (eR E).slots := by rw [X.2.2.2.2.2.2.2.1]; exact ⟨X.2.2.2.2.2.2.2.2.1, X.2.2.2.2.2.2.2.2.2⟩
  exact va_calli (va_runS (As := [.int a1, .int a2]) (rest := st) ⟨X.1, X.2.1, X.2.2.1, X.2.2.2.1, X.2.2.2.2.1⟩ hm (va_cwS (ws' := lw_aw) 2 X.2.2.2.2.1 (gwS (tw (i := 1291) (by decide +kernel)) (tw (i := 1292) (by decide +kernel)) (tw (i := 78) (by decide +kernel)) (tw (i := 1293) (by decide +kernel))) rfl rfl rfl (by decide +kernel) hR2) ⟨hr_blind, fun U hU hW => ⟨rfl, by rw [hU]; exact hP, KK.warm hW X.2.2.2.2.2.1⟩⟩ rfl rfl hl.1 rfl (lv_room hst) d hC2) hS (fun q _ h => h) (fun q h => h) (fun r u t H1 locs1 ht hvm hw hB hz1 hk1 hS1 => k1 r u hw H1 locs1 ls (by rw [← ht]; exact hB.1) hS1 hl)
/-- LayeredClaimsModel.file(IIII)I -/
def wp_X7_file (a1 : Int32) (a2 : Int32) (a3 : Int32) (a4 : Int32) (M : Mm) (P : Int32 → Mm → Prop) : Prop := (wp_X7_isPlace a1 a2 M (fun (r2 : Int32) (M1 : Mm) => ((¬ r2 = 0 → (wp_X7_in a3 (0 : Int32) (1 : Int32) M1 (fun (r5 : Int32) (M4 : Mm) => ((¬ r5 = 0 → (jn (fun  (M7 : Mm) => (jn (fun (z10 : Int32) => (∀ x13 : Int32, x13 = (((4 : Int32) * a1) + a2) → (vp_in x13 12 ∧ (∀ M15 : Mm, M15 = wr M7 173 0 x13.toNatClampNeg (a3 + (1 : Int32)) → (∃ n, lq2 (fun self16 (x18 : Int32) (M19 : Mm) => (((4 : Int32) ≤ x18 → (∃ n, lq2 (fun self21 (x23 : Int32) (x24 : Int32) => (((4 : Int32) ≤ x24 → P x23 M19) ∧ (¬ (4 : Int32) ≤ x24 → (vp_in (((4 : Int32) * a1) + x24) 12 ∧ (jn (fun (v27 : Int32) => (∀ x30 : Int32, x30 = (x23 + v27) → (∀ x31 : Int32, x31 = x24 + (1 : Int32) → self21 x30 x31))) (fun J28 : Int32 → Prop => (((rd M19 173 0 (((4 : Int32) * a1) + x24).toNatClampNeg) ≤ 0 → J28 (0 : Int32)) ∧ (¬ (rd M19 173 0 (((4 : Int32) * a1) + x24).toNatClampNeg) ≤ 0 → J28 (1 : Int32))))))))) n (0 : Int32) (0 : Int32))) ∧ (¬ (4 : Int32) ≤ x18 → (jn (fun (v33 : Int32) => (vp_in ((v33 + ((4 : Int32) * a4)) + x18) 136 ∧ (vp_in (((4 : Int32) * x13) + x18) 48 ∧ (∀ M38 : Mm, M38 = wr M19 174 0 (((4 : Int32) * x13) + x18).toNatClampNeg (rd M19 160 0 ((v33 + ((4 : Int32) * a4)) + x18).toNatClampNeg) → (∀ x39 : Int32, x39 = x18 + (1 : Int32) → self16 x39 M38))))) (fun J34 : Int32 → Prop => ((¬ a3 = 0 → J34 (32 : Int32)) ∧ (a3 = 0 → J34 (8 : Int32)))))))) n (0 : Int32) M15))))) (fun J11 : Int32 → Prop => ((a1 = (2 : Int32) → J11 (0 : Int32)) ∧ (¬ a1 = (2 : Int32) → ((a1 = a3 → J11 (0 : Int32)) ∧ (¬ a1 = a3 → P (-6 : Int32) M7))))))) (fun J8 : Mm → Prop => ((¬ a3 = 0 → (wp_X7_isLayer a4 M4 (fun (r45 : Int32) (M44 : Mm) => ((¬ r45 = 0 → J8 M44) ∧ (r45 = 0 → P (-1 : Int32) M44))))) ∧ (a3 = 0 → (wp_X7_isCover a4 M4 (fun (r48 : Int32) (M47 : Mm) => ((r48 = 0 → P (-1 : Int32) M47) ∧ (¬ r48 = 0 → J8 M47))))))))) ∧ (r5 = 0 → P (-2 : Int32) M4))))) ∧ (r2 = 0 → P (-1 : Int32) M1))))
set_option maxHeartbeats 4000000 in
set_option maxRecDepth 100000 in
theorem met_X7_file {l : Launch} {G : GT} (hG : GD G) (a1 : Int32) (a2 : Int32) (a3 : Int32) (a4 : Int32) (M : Mm) (P : Int32 → Mm → Prop) (h : wp_X7_file a1 a2 a3 a4 M P) : MI l G yX7_file cX7_file 8 (some .int) ({ frames := 2, cells := 0, slots := 0, locals := 43 } : Room) [.ref (adr G 7 0), .int a1, .int a2, .int a3, .int a4] M P := by
  refine met_by hG (own := RX7) rfl (by decide +kernel) (Nat.le_of_ble_eq_true rfl) (fun E hE X Y => ?_)
  show J G E 8 0 [(0, .ref (adr G 7 0)), (1, .int a1), (2, .int a2), (3, .int a3), (4, .int a4)] [] M
  unfold wp_X7_file at h
  refine j_iload_n X 1 dX7_file_0 rfl rfl ?_
  refine j_iload_n X 2 dX7_file_1 rfl rfl ?_
  refine jc_RX7_251 X ⟨Nat.le_of_ble_eq_true rfl, Nat.le_of_ble_eq_true rfl⟩ (Nat.le_of_ble_eq_true rfl) dX7_file_2 h (fun r2 M1 h => ?_)
  refine j_if_ne X 10 dX7_file_5 (by decide) (fun c3 => ?_) (fun c3 => ?_)
  · replace h := h.1 c3
    refine j_iload_n X 3 dX7_file_10 rfl rfl ?_
    refine j_iconst (v := (0 : Int32)) X (by decide) dX7_file_11 ?_
    refine j_iconst (v := (1 : Int32)) X (by decide) dX7_file_12 ?_
    refine jc_RX7_61 X ⟨Nat.le_of_ble_eq_true rfl, Nat.le_of_ble_eq_true rfl⟩ (Nat.le_of_ble_eq_true rfl) dX7_file_13 h (fun r5 M4 h => ?_)
    refine j_if_ne X 22 dX7_file_16 (by decide) (fun c6 => ?_) (fun c6 => ?_)
    · replace h := h.1 c6
      refine j_iload_n X 3 dX7_file_22 rfl rfl ?_
      refine jn1_s h (fun  (M7 : Mm) => J G E 8 49 [(0, .ref (adr G 7 0)), (1, .int a1), (2, .int a2), (3, .int a3), (4, .int a4)] [] M7) (fun M7 h => ?_) (fun J8 hj9 h => ?_)
      · refine j_iload_n X 1 dX7_file_49 rfl rfl ?_
        refine j_iconst (v := (2 : Int32)) X (by decide) dX7_file_50 ?_
        refine jn1_s h (fun (z10 : Int32) => J G E 8 62 [(0, .ref (adr G 7 0)), (1, .int a1), (2, .int a2), (3, .int a3), (4, .int a4)] [] M7) (fun z10 h => ?_) (fun J11 hj12 h => ?_)
        · refine j_iconst (v := (4 : Int32)) X (by decide) dX7_file_62 ?_
          refine j_iload_n X 1 dX7_file_63 rfl rfl ?_
          refine j_imul X dX7_file_64 ?_
          refine j_iload_n X 2 dX7_file_65 rfl rfl ?_
          refine j_iadd X dX7_file_66 ?_
          refine j_topi (fun x13 ex13 => ?_)
          replace h := h x13 ex13
          refine j_istore X [(5, .int x13), (0, .ref (adr G 7 0)), (1, .int a1), (2, .int a2), (3, .int a3), (4, .int a4)] dX7_file_67 (by decide) rfl ?_
          refine j_aload_n X 1 dX7_file_69 rfl rfl ?_
          refine jf_RX7_51 X  dX7_file_70 ?_
          refine j_iload X 0 dX7_file_73 rfl ?_
          refine j_iload_n X 4 dX7_file_75 rfl rfl ?_
          refine j_iconst (v := (1 : Int32)) X (by decide) dX7_file_76 ?_
          refine j_iadd X dX7_file_77 ?_
          have q14 := h.1
          replace h := h.2
          refine j_iast X _ rfl (mw173 0 (by decide)) kt173 lt173 q14 dX7_file_78 ?_
          refine j_memo (fun M15 eM15 => ?_)
          replace h := h M15 eM15
          refine j_iconst (v := (0 : Int32)) X (by decide) dX7_file_79 ?_
          refine j_istore X [(6, .int (0 : Int32)), (5, .int x13), (0, .ref (adr G 7 0)), (1, .int a1), (2, .int a2), (3, .int a3), (4, .int a4)] dX7_file_80 (by decide) rfl ?_
          refine j_sub [2, 3, 5, 6, 1, 0] rfl ?_
          refine lq2_s h (fun (x18 : Int32) (M19 : Mm) => J G E 8 82 [(0, .ref (adr G 7 0)), (1, .int a1), (3, .int a3), (4, .int a4), (5, .int x13), (6, .int x18)] [] M19) (fun self16 ih17 x18 M19 h => ?_) id
          refine j_iload X 5 dX7_file_82 rfl ?_
          refine j_iconst (v := (4 : Int32)) X (by decide) dX7_file_84 ?_
          refine j_icmp_ge X 130 dX7_file_85 (by decide) (fun c20 => ?_) (fun c20 => ?_)
          · replace h := h.1 c20
            refine j_iconst (v := (0 : Int32)) X (by decide) dX7_file_130 ?_
            refine j_istore X [(6, .int (0 : Int32)), (0, .ref (adr G 7 0)), (1, .int a1), (3, .int a3), (4, .int a4), (5, .int x13)] dX7_file_131 (by decide) rfl ?_
            refine j_iconst (v := (0 : Int32)) X (by decide) dX7_file_133 ?_
            refine j_istore X [(7, .int (0 : Int32)), (6, .int (0 : Int32)), (0, .ref (adr G 7 0)), (1, .int a1), (3, .int a3), (4, .int a4), (5, .int x13)] dX7_file_134 (by decide) rfl ?_
            refine j_sub [2, 3, 1, 0] rfl ?_
            refine lq2_s h (fun (x23 : Int32) (x24 : Int32) => J G E 8 136 [(0, .ref (adr G 7 0)), (1, .int a1), (6, .int x23), (7, .int x24)] [] M19) (fun self21 ih22 x23 x24 h => ?_) id
            refine j_iload X 3 dX7_file_136 rfl ?_
            refine j_iconst (v := (4 : Int32)) X (by decide) dX7_file_138 ?_
            refine j_icmp_ge X 172 dX7_file_139 (by decide) (fun c25 => ?_) (fun c25 => ?_)
            · replace h := h.1 c25
              refine j_iload X 2 dX7_file_172 rfl ?_
              exact j_iret X Y dX7_file_174 h
            · replace h := h.2 c25
              refine j_iload X 2 dX7_file_142 rfl ?_
              refine j_aload_n X 0 dX7_file_144 rfl rfl ?_
              refine jf_RX7_51 X  dX7_file_145 ?_
              refine j_iconst (v := (4 : Int32)) X (by decide) dX7_file_148 ?_
              refine j_iload_n X 1 dX7_file_149 rfl rfl ?_
              refine j_imul X dX7_file_150 ?_
              refine j_iload X 3 dX7_file_151 rfl ?_
              refine j_iadd X dX7_file_153 ?_
              have q26 := h.1
              replace h := h.2
              refine j_iald X _ rfl (mw173 0 (by decide)) kt173 lt173 q26 dX7_file_154 ?_
              refine jn1_s h (fun (v27 : Int32) => J G E 8 163 [(0, .ref (adr G 7 0)), (1, .int a1), (7, .int x24)] [.int v27, .int x23] M19) (fun v27 h => ?_) (fun J28 hj29 h => ?_)
              · refine j_iadd X dX7_file_163 ?_
                refine j_topi (fun x30 ex30 => ?_)
                replace h := h x30 ex30
                refine j_istore X [(6, .int x30), (0, .ref (adr G 7 0)), (1, .int a1), (7, .int x24)] dX7_file_164 (by decide) rfl ?_
                obtain ⟨x31, ex31⟩ : ∃ z : Int32, z = x24 + (1 : Int32) := ⟨_, rfl⟩
                replace h := h x31 ex31
                refine j_iinc (v := x31) X 3 [(7, .int x31), (6, .int x30), (0, .ref (adr G 7 0)), (1, .int a1)] dX7_file_166 rfl (by rw [ex31]; rfl) (by decide) rfl ?_
                refine j_goto X 136 dX7_file_169 (by decide) ?_
                refine j_sub [2, 3, 1, 0] rfl ?_
                exact ih22 x30 x31 h
              · refine j_if_le X 162 dX7_file_155 (by decide) (fun c32 => ?_) (fun c32 => ?_)
                · replace h := h.1 c32
                  refine j_iconst (v := (0 : Int32)) X (by decide) dX7_file_162 ?_
                  refine j_sub [0, 1, 3] rfl ?_
                  exact hj29 (0 : Int32) h
                · replace h := h.2 c32
                  refine j_iconst (v := (1 : Int32)) X (by decide) dX7_file_158 ?_
                  refine j_goto X 163 dX7_file_159 (by decide) ?_
                  refine j_sub [0, 1, 3] rfl ?_
                  exact hj29 (1 : Int32) h
          · replace h := h.2 c20
            refine j_aload_n X 0 dX7_file_88 rfl rfl ?_
            refine jf_RX7_54 X  dX7_file_89 ?_
            refine j_iconst (v := (4 : Int32)) X (by decide) dX7_file_92 ?_
            refine j_iload X 4 dX7_file_93 rfl ?_
            refine j_imul X dX7_file_95 ?_
            refine j_iload X 5 dX7_file_96 rfl ?_
            refine j_iadd X dX7_file_98 ?_
            refine j_aload_n X 0 dX7_file_99 rfl rfl ?_
            refine jf_RX7_9 X  dX7_file_100 ?_
            refine j_iload_n X 2 dX7_file_103 rfl rfl ?_
            refine jn1_s h (fun (v33 : Int32) => J G E 8 114 [(0, .ref (adr G 7 0)), (1, .int a1), (3, .int a3), (4, .int a4), (5, .int x13), (6, .int x18)] [.int v33, .ref (adr G 160 0), .int (((4 : Int32) * x13) + x18), .ref (adr G 174 0)] M19) (fun v33 h => ?_) (fun J34 hj35 h => ?_)
            · refine j_iconst (v := (4 : Int32)) X (by decide) dX7_file_114 ?_
              refine j_iload X 3 dX7_file_115 rfl ?_
              refine j_imul X dX7_file_117 ?_
              refine j_iadd X dX7_file_118 ?_
              refine j_iload X 5 dX7_file_119 rfl ?_
              refine j_iadd X dX7_file_121 ?_
              have q36 := h.1
              replace h := h.2
              refine j_iald X _ rfl (mw160 0 (by decide)) kt160 lt160 q36 dX7_file_122 ?_
              have q37 := h.1
              replace h := h.2
              refine j_iast X _ rfl (mw174 0 (by decide)) kt174 lt174 q37 dX7_file_123 ?_
              refine j_memo (fun M38 eM38 => ?_)
              replace h := h M38 eM38
              obtain ⟨x39, ex39⟩ : ∃ z : Int32, z = x18 + (1 : Int32) := ⟨_, rfl⟩
              replace h := h x39 ex39
              refine j_iinc (v := x39) X 5 [(6, .int x39), (0, .ref (adr G 7 0)), (1, .int a1), (3, .int a3), (4, .int a4), (5, .int x13)] dX7_file_124 rfl (by rw [ex39]; rfl) (by decide) rfl ?_
              refine j_goto X 82 dX7_file_127 (by decide) ?_
              refine j_sub [1, 2, 3, 4, 5, 0] rfl ?_
              exact ih17 x39 M38 h
            · refine j_if_ne X 112 dX7_file_104 (by decide) (fun c40 => ?_) (fun c40 => ?_)
              · replace h := h.1 c40
                refine j_bipush (v := (32 : Int32)) X (by decide) dX7_file_112 ?_
                refine j_sub [0, 1, 2, 3, 4, 5] rfl ?_
                exact hj35 (32 : Int32) h
              · replace h := h.2 c40
                refine j_bipush (v := (8 : Int32)) X (by decide) dX7_file_107 ?_
                refine j_goto X 114 dX7_file_109 (by decide) ?_
                refine j_sub [0, 1, 2, 3, 4, 5] rfl ?_
                exact hj35 (8 : Int32) h
        · refine j_icmp_eq X 62 dX7_file_51 (by decide) (fun c41 => ?_) (fun c41 => ?_)
          · replace h := h.1 c41
            refine j_sub [0, 1, 2, 3, 4] rfl ?_
            exact hj12 (0 : Int32) h
          · replace h := h.2 c41
            refine j_iload_n X 1 dX7_file_54 rfl rfl ?_
            refine j_iload_n X 3 dX7_file_55 rfl rfl ?_
            refine j_icmp_eq X 62 dX7_file_56 (by decide) (fun c42 => ?_) (fun c42 => ?_)
            · replace h := h.1 c42
              refine j_sub [0, 1, 2, 3, 4] rfl ?_
              exact hj12 (0 : Int32) h
            · replace h := h.2 c42
              refine j_bipush (v := (-6 : Int32)) X (by decide) dX7_file_59 ?_
              exact j_iret X Y dX7_file_61 h
      · refine j_if_ne X 38 dX7_file_23 (by decide) (fun c43 => ?_) (fun c43 => ?_)
        · replace h := h.1 c43
          refine j_aload_n X 0 dX7_file_38 rfl rfl ?_
          refine j_iload X 4 dX7_file_39 rfl ?_
          refine jc_RX7_202 X ⟨Nat.le_of_ble_eq_true rfl, Nat.le_of_ble_eq_true rfl⟩ (Nat.le_of_ble_eq_true rfl) dX7_file_41 h (fun r45 M44 h => ?_)
          refine j_if_ne X 49 dX7_file_44 (by decide) (fun c46 => ?_) (fun c46 => ?_)
          · replace h := h.1 c46
            refine j_sub [0, 1, 2, 3, 4] rfl ?_
            exact hj9 M44 h
          · replace h := h.2 c46
            refine j_iconst (v := (-1 : Int32)) X (by decide) dX7_file_47 ?_
            exact j_iret X Y dX7_file_48 h
        · replace h := h.2 c43
          refine j_aload_n X 0 dX7_file_26 rfl rfl ?_
          refine j_iload X 4 dX7_file_27 rfl ?_
          refine jc_RX7_78 X ⟨Nat.le_of_ble_eq_true rfl, Nat.le_of_ble_eq_true rfl⟩ (Nat.le_of_ble_eq_true rfl) dX7_file_29 h (fun r48 M47 h => ?_)
          refine j_if_eq X 47 dX7_file_32 (by decide) (fun c49 => ?_) (fun c49 => ?_)
          · replace h := h.1 c49
            refine j_iconst (v := (-1 : Int32)) X (by decide) dX7_file_47 ?_
            exact j_iret X Y dX7_file_48 h
          · replace h := h.2 c49
            refine j_goto X 49 dX7_file_35 (by decide) ?_
            refine j_sub [0, 1, 2, 3, 4] rfl ?_
            exact hj9 M47 h
    · replace h := h.2 c6
      refine j_bipush (v := (-2 : Int32)) X (by decide) dX7_file_19 ?_
      exact j_iret X Y dX7_file_21 h
  · replace h := h.2 c3
    refine j_iconst (v := (-1 : Int32)) X (by decide) dX7_file_8 ?_
    exact j_iret X Y dX7_file_9 h
/-- LayeredClaimsModel.use(II)I -/
def wp_X7_use (a1 : Int32) (a2 : Int32) (M : Mm) (P : Int32 → Mm → Prop) : Prop := (wp_X7_isPlace a1 a2 M (fun (r2 : Int32) (M1 : Mm) => ((¬ r2 = 0 → (∀ x4 : Int32, x4 = (((4 : Int32) * a1) + a2) → (vp_in x4 12 ∧ ((¬ (rd M1 173 0 x4.toNatClampNeg) = 0 → (wp_X7_keeps  M1 (fun (M7 : Mm) => (vp_in ((4 : Int32) * x4) 48 ∧ (∀ x9 : Int32, x9 = (rd M7 174 0 ((4 : Int32) * x4).toNatClampNeg) → (vp_in (((4 : Int32) * x4) + (1 : Int32)) 48 ∧ (∀ x11 : Int32, x11 = (rd M7 174 0 (((4 : Int32) * x4) + (1 : Int32)).toNatClampNeg) → (vp_in (((4 : Int32) * x4) + (2 : Int32)) 48 ∧ (∀ x13 : Int32, x13 = (rd M7 174 0 (((4 : Int32) * x4) + (2 : Int32)).toNatClampNeg) → (vp_in (((4 : Int32) * x4) + (3 : Int32)) 48 ∧ (∀ x15 : Int32, x15 = (rd M7 174 0 (((4 : Int32) * x4) + (3 : Int32)).toNatClampNeg) → (jn (fun (v16 : Int32) (M17 : Mm) => (wp_X7_made v16 M17 (fun (r21 : Int32) (M20 : Mm) => P r21 M20))) (fun J18 : Int32 → Mm → Prop => ((¬ (rd M7 173 0 x4.toNatClampNeg) = (1 : Int32) → (wp_X7_laysLayer x9 x11 x13 x15 M7 (fun (r24 : Int32) (M23 : Mm) => J18 r24 M23))) ∧ ((rd M7 173 0 x4.toNatClampNeg) = (1 : Int32) → (wp_X7_laysCover x9 x11 x13 x15 M7 (fun (r26 : Int32) (M25 : Mm) => J18 r26 M25))))))))))))))))) ∧ ((rd M1 173 0 x4.toNatClampNeg) = 0 → P (-4 : Int32) M1))))) ∧ (r2 = 0 → P (-1 : Int32) M1))))
set_option maxHeartbeats 4000000 in
set_option maxRecDepth 100000 in
theorem met_X7_use {l : Launch} {G : GT} (hG : GD G) (a1 : Int32) (a2 : Int32) (M : Mm) (P : Int32 → Mm → Prop) (h : wp_X7_use a1 a2 M P) : MI l G yX7_use cX7_use 8 (some .int) ({ frames := 3, cells := 0, slots := 0, locals := 66 } : Room) [.ref (adr G 7 0), .int a1, .int a2] M P := by
  refine met_by hG (own := RX7) rfl (by decide +kernel) (Nat.le_of_ble_eq_true rfl) (fun E hE X Y => ?_)
  show J G E 8 0 [(0, .ref (adr G 7 0)), (1, .int a1), (2, .int a2)] [] M
  unfold wp_X7_use at h
  refine j_iload_n X 1 dX7_use_0 rfl rfl ?_
  refine j_iload_n X 2 dX7_use_1 rfl rfl ?_
  refine jc_RX7_251 X ⟨Nat.le_of_ble_eq_true rfl, Nat.le_of_ble_eq_true rfl⟩ (Nat.le_of_ble_eq_true rfl) dX7_use_2 h (fun r2 M1 h => ?_)
  refine j_if_ne X 10 dX7_use_5 (by decide) (fun c3 => ?_) (fun c3 => ?_)
  · replace h := h.1 c3
    refine j_iconst (v := (4 : Int32)) X (by decide) dX7_use_10 ?_
    refine j_iload_n X 1 dX7_use_11 rfl rfl ?_
    refine j_imul X dX7_use_12 ?_
    refine j_iload_n X 2 dX7_use_13 rfl rfl ?_
    refine j_iadd X dX7_use_14 ?_
    refine j_topi (fun x4 ex4 => ?_)
    replace h := h x4 ex4
    refine j_istore_n X [(3, .int x4), (0, .ref (adr G 7 0)), (1, .int a1), (2, .int a2)] dX7_use_15 rfl (by decide) rfl ?_
    refine j_aload_n X 1 dX7_use_16 rfl rfl ?_
    refine jf_RX7_51 X  dX7_use_17 ?_
    refine j_iload_n X 0 dX7_use_20 rfl rfl ?_
    have q5 := h.1
    replace h := h.2
    refine j_iald X _ rfl (mw173 0 (by decide)) kt173 lt173 q5 dX7_use_21 ?_
    refine j_if_ne X 28 dX7_use_22 (by decide) (fun c6 => ?_) (fun c6 => ?_)
    · replace h := h.1 c6
      refine j_aload_n X 1 dX7_use_28 rfl rfl ?_
      refine jc_RX7_83 X ⟨Nat.le_of_ble_eq_true rfl, Nat.le_of_ble_eq_true rfl⟩ (Nat.le_of_ble_eq_true rfl) dX7_use_29 h (fun M7 h => ?_)
      refine j_aload_n X 1 dX7_use_32 rfl rfl ?_
      refine jf_RX7_54 X  dX7_use_33 ?_
      refine j_iconst (v := (4 : Int32)) X (by decide) dX7_use_36 ?_
      refine j_iload_n X 0 dX7_use_37 rfl rfl ?_
      refine j_imul X dX7_use_38 ?_
      have q8 := h.1
      replace h := h.2
      refine j_iald X _ rfl (mw174 0 (by decide)) kt174 lt174 q8 dX7_use_39 ?_
      refine j_topi (fun x9 ex9 => ?_)
      replace h := h x9 ex9
      refine j_istore X [(4, .int x9), (3, .int x4), (0, .ref (adr G 7 0)), (1, .int a1), (2, .int a2)] dX7_use_40 (by decide) rfl ?_
      refine j_aload_n X 2 dX7_use_42 rfl rfl ?_
      refine jf_RX7_54 X  dX7_use_43 ?_
      refine j_iconst (v := (4 : Int32)) X (by decide) dX7_use_46 ?_
      refine j_iload_n X 1 dX7_use_47 rfl rfl ?_
      refine j_imul X dX7_use_48 ?_
      refine j_iconst (v := (1 : Int32)) X (by decide) dX7_use_49 ?_
      refine j_iadd X dX7_use_50 ?_
      have q10 := h.1
      replace h := h.2
      refine j_iald X _ rfl (mw174 0 (by decide)) kt174 lt174 q10 dX7_use_51 ?_
      refine j_topi (fun x11 ex11 => ?_)
      replace h := h x11 ex11
      refine j_istore X [(5, .int x11), (4, .int x9), (3, .int x4), (0, .ref (adr G 7 0)), (1, .int a1), (2, .int a2)] dX7_use_52 (by decide) rfl ?_
      refine j_aload_n X 3 dX7_use_54 rfl rfl ?_
      refine jf_RX7_54 X  dX7_use_55 ?_
      refine j_iconst (v := (4 : Int32)) X (by decide) dX7_use_58 ?_
      refine j_iload_n X 2 dX7_use_59 rfl rfl ?_
      refine j_imul X dX7_use_60 ?_
      refine j_iconst (v := (2 : Int32)) X (by decide) dX7_use_61 ?_
      refine j_iadd X dX7_use_62 ?_
      have q12 := h.1
      replace h := h.2
      refine j_iald X _ rfl (mw174 0 (by decide)) kt174 lt174 q12 dX7_use_63 ?_
      refine j_topi (fun x13 ex13 => ?_)
      replace h := h x13 ex13
      refine j_istore X [(6, .int x13), (5, .int x11), (4, .int x9), (3, .int x4), (0, .ref (adr G 7 0)), (1, .int a1), (2, .int a2)] dX7_use_64 (by decide) rfl ?_
      refine j_aload_n X 4 dX7_use_66 rfl rfl ?_
      refine jf_RX7_54 X  dX7_use_67 ?_
      refine j_iconst (v := (4 : Int32)) X (by decide) dX7_use_70 ?_
      refine j_iload_n X 3 dX7_use_71 rfl rfl ?_
      refine j_imul X dX7_use_72 ?_
      refine j_iconst (v := (3 : Int32)) X (by decide) dX7_use_73 ?_
      refine j_iadd X dX7_use_74 ?_
      have q14 := h.1
      replace h := h.2
      refine j_iald X _ rfl (mw174 0 (by decide)) kt174 lt174 q14 dX7_use_75 ?_
      refine j_topi (fun x15 ex15 => ?_)
      replace h := h x15 ex15
      refine j_istore X [(7, .int x15), (6, .int x13), (5, .int x11), (4, .int x9), (3, .int x4), (0, .ref (adr G 7 0)), (1, .int a1), (2, .int a2)] dX7_use_76 (by decide) rfl ?_
      refine j_aload_n X 5 dX7_use_78 rfl rfl ?_
      refine j_aload_n X 5 dX7_use_79 rfl rfl ?_
      refine jf_RX7_51 X  dX7_use_80 ?_
      refine j_iload_n X 4 dX7_use_83 rfl rfl ?_
      refine j_iald X _ rfl (mw173 0 (by decide)) kt173 lt173 q5 dX7_use_84 ?_
      refine j_iconst (v := (1 : Int32)) X (by decide) dX7_use_85 ?_
      refine jn2_s h (fun (v16 : Int32) (M17 : Mm) => J G E 8 116 [] [.int v16, .ref (adr G 7 0)] M17) (fun v16 M17 h => ?_) (fun J18 hj19 h => ?_)
      · refine jc_RX7_90 X ⟨Nat.le_of_ble_eq_true rfl, Nat.le_of_ble_eq_true rfl⟩ (Nat.le_of_ble_eq_true rfl) dX7_use_116 h (fun r21 M20 h => ?_)
        exact j_iret X Y dX7_use_119 h
      · refine j_icmp_ne X 104 dX7_use_86 (by decide) (fun c22 => ?_) (fun c22 => ?_)
        · replace h := h.1 c22
          refine j_aload_n X 5 dX7_use_104 rfl rfl ?_
          refine j_iload X 3 dX7_use_105 rfl ?_
          refine j_iload X 2 dX7_use_107 rfl ?_
          refine j_iload X 1 dX7_use_109 rfl ?_
          refine j_iload X 0 dX7_use_111 rfl ?_
          refine jc_RX7_94 X ⟨Nat.le_of_ble_eq_true rfl, Nat.le_of_ble_eq_true rfl⟩ (Nat.le_of_ble_eq_true rfl) dX7_use_113 h (fun r24 M23 h => ?_)
          refine j_sub [] rfl ?_
          exact hj19 r24 M23 h
        · replace h := h.2 c22
          refine j_aload_n X 5 dX7_use_89 rfl rfl ?_
          refine j_iload X 3 dX7_use_90 rfl ?_
          refine j_iload X 2 dX7_use_92 rfl ?_
          refine j_iload X 1 dX7_use_94 rfl ?_
          refine j_iload X 0 dX7_use_96 rfl ?_
          refine jc_RX7_86 X ⟨Nat.le_of_ble_eq_true rfl, Nat.le_of_ble_eq_true rfl⟩ (Nat.le_of_ble_eq_true rfl) dX7_use_98 h (fun r26 M25 h => ?_)
          refine j_goto X 116 dX7_use_101 (by decide) ?_
          refine j_sub [] rfl ?_
          exact hj19 r26 M25 h
    · replace h := h.2 c6
      refine j_bipush (v := (-4 : Int32)) X (by decide) dX7_use_25 ?_
      exact j_iret X Y dX7_use_27 h
  · replace h := h.2 c3
    refine j_iconst (v := (-1 : Int32)) X (by decide) dX7_use_8 ?_
    exact j_iret X Y dX7_use_9 h
