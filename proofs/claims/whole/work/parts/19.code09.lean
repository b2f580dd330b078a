/-- LayeredClaimsModel.filed(II)I -/
def wp_X7_filed (a1 : Int32) (a2 : Int32) (M : Mm) (P : Int32 → Mm → Prop) : Prop := (wp_X7_isPlace a1 a2 M (fun (r2 : Int32) (M1 : Mm) => ((¬ r2 = 0 → (vp_in (((4 : Int32) * a1) + a2) 12 ∧ (∀ x5 : Int32, x5 = (rd M1 173 0 (((4 : Int32) * a1) + a2).toNatClampNeg) → ((¬ x5 = 0 → P (x5 - (1 : Int32)) M1) ∧ (x5 = 0 → P (-4 : Int32) M1))))) ∧ (r2 = 0 → P (-1 : Int32) M1))))
set_option maxHeartbeats 4000000 in
set_option maxRecDepth 100000 in
theorem met_X7_filed {l : Launch} {G : GT} (hG : GD G) (a1 : Int32) (a2 : Int32) (M : Mm) (P : Int32 → Mm → Prop) (h : wp_X7_filed a1 a2 M P) : MI l G yX7_filed cX7_filed 4 (some .int) ({ frames := 2, cells := 0, slots := 0, locals := 43 } : Room) [.ref (adr G 7 0), .int a1, .int a2] M P := by
  refine met_by hG (own := RX7) rfl (by decide +kernel) (Nat.le_of_ble_eq_true rfl) (fun E hE X Y => ?_)
  show J G E 4 0 [(0, .ref (adr G 7 0)), (1, .int a1), (2, .int a2)] [] M
  unfold wp_X7_filed at h
  refine j_iload_n X 1 dX7_filed_0 rfl rfl ?_
  refine j_iload_n X 2 dX7_filed_1 rfl rfl ?_
  refine jc_RX7_251 X ⟨Nat.le_of_ble_eq_true rfl, Nat.le_of_ble_eq_true rfl⟩ (Nat.le_of_ble_eq_true rfl) dX7_filed_2 h (fun r2 M1 h => ?_)
  refine j_if_ne X 10 dX7_filed_5 (by decide) (fun c3 => ?_) (fun c3 => ?_)
  · replace h := h.1 c3
    refine j_aload_n X 0 dX7_filed_10 rfl rfl ?_
    refine jf_RX7_51 X  dX7_filed_11 ?_
    refine j_iconst (v := (4 : Int32)) X (by decide) dX7_filed_14 ?_
    refine j_iload_n X 1 dX7_filed_15 rfl rfl ?_
    refine j_imul X dX7_filed_16 ?_
    refine j_iload_n X 2 dX7_filed_17 rfl rfl ?_
    refine j_iadd X dX7_filed_18 ?_
    have q4 := h.1
    replace h := h.2
    refine j_iald X _ rfl (mw173 0 (by decide)) kt173 lt173 q4 dX7_filed_19 ?_
    refine j_topi (fun x5 ex5 => ?_)
    replace h := h x5 ex5
    refine j_istore_n X [(3, .int x5), (0, .ref (adr G 7 0)), (1, .int a1), (2, .int a2)] dX7_filed_20 rfl (by decide) rfl ?_
    refine j_iload_n X 0 dX7_filed_21 rfl rfl ?_
    refine j_if_ne X 30 dX7_filed_22 (by decide) (fun c6 => ?_) (fun c6 => ?_)
    · replace h := h.1 c6
      refine j_iload_n X 0 dX7_filed_30 rfl rfl ?_
      refine j_iconst (v := (1 : Int32)) X (by decide) dX7_filed_31 ?_
      refine j_isub X dX7_filed_32 ?_
      exact j_iret X Y dX7_filed_33 h
    · replace h := h.2 c6
      refine j_bipush (v := (-4 : Int32)) X (by decide) dX7_filed_25 ?_
      refine j_goto X 33 dX7_filed_27 (by decide) ?_
      exact j_iret X Y dX7_filed_33 h
  · replace h := h.2 c3
    refine j_iconst (v := (-1 : Int32)) X (by decide) dX7_filed_8 ?_
    exact j_iret X Y dX7_filed_9 h
/-- LayeredClaimsModel.save()I -/
def wp_X7_save  (M : Mm) (P : Int32 → Mm → Prop) : Prop := (wp_X7_copies (160, 0) (0 : Int32) (162, 0) (0 : Int32) M (fun (M1 : Mm) => (∀ M2 : Mm, M2 = wr M1 7 0 5 (1 : Int32) → P (rd M2 160 0 3) M2)))
set_option maxHeartbeats 4000000 in
set_option maxRecDepth 100000 in
theorem met_X7_save {l : Launch} {G : GT} (hG : GD G)  (M : Mm) (P : Int32 → Mm → Prop) (h : wp_X7_save  M P) : MI l G yX7_save cX7_save 1 (some .int) ({ frames := 1, cells := 0, slots := 0, locals := 24 } : Room) [.ref (adr G 7 0)] M P := by
  refine met_by hG (own := RX7) rfl (by decide +kernel) (Nat.le_of_ble_eq_true rfl) (fun E hE X Y => ?_)
  show J G E 1 0 [(0, .ref (adr G 7 0))] [] M
  unfold wp_X7_save at h
  refine j_aload_n X 0 dX7_save_0 rfl rfl ?_
  refine jf_RX7_9 X  dX7_save_1 ?_
  refine j_iconst (v := (0 : Int32)) X (by decide) dX7_save_4 ?_
  refine j_aload_n X 0 dX7_save_5 rfl rfl ?_
  refine jf_RX7_16 X  dX7_save_6 ?_
  refine j_iconst (v := (0 : Int32)) X (by decide) dX7_save_9 ?_
  refine jc_RX7_57 X ⟨Nat.le_of_ble_eq_true rfl, Nat.le_of_ble_eq_true rfl⟩ (Nat.le_of_ble_eq_true rfl) dX7_save_10 h (fun M1 h => ?_)
  refine j_aload_n X 0 dX7_save_13 rfl rfl ?_
  refine j_iconst (v := (1 : Int32)) X (by decide) dX7_save_14 ?_
  refine jp_RX7_26 X  rfl dX7_save_15 ?_
  refine j_memo (fun M2 eM2 => ?_)
  replace h := h M2 eM2
  refine j_aload_n X 0 dX7_save_18 rfl rfl ?_
  refine jf_RX7_9 X  dX7_save_19 ?_
  refine j_iconst (v := (3 : Int32)) X (by decide) dX7_save_22 ?_
  refine j_iald X 3 (by decide) (mw160 0 (by decide)) kt160 lt160 (vpc (by decide)) dX7_save_23 ?_
  exact j_iret X Y dX7_save_24 h
/-- LayeredClaimsModel.restore()I -/
def wp_X7_restore  (M : Mm) (P : Int32 → Mm → Prop) : Prop := ((¬ (rd M 7 0 5) = 0 → (wp_X7_copies (162, 0) (0 : Int32) (160, 0) (0 : Int32) M (fun (M2 : Mm) => (∀ M3 : Mm, M3 = wr M2 7 0 4 (0 : Int32) → P (rd M3 160 0 3) M3)))) ∧ ((rd M 7 0 5) = 0 → P (-5 : Int32) M))
set_option maxHeartbeats 4000000 in
set_option maxRecDepth 100000 in
theorem met_X7_restore {l : Launch} {G : GT} (hG : GD G)  (M : Mm) (P : Int32 → Mm → Prop) (h : wp_X7_restore  M P) : MI l G yX7_restore cX7_restore 1 (some .int) ({ frames := 1, cells := 0, slots := 0, locals := 24 } : Room) [.ref (adr G 7 0)] M P := by
  refine met_by hG (own := RX7) rfl (by decide +kernel) (Nat.le_of_ble_eq_true rfl) (fun E hE X Y => ?_)
  show J G E 1 0 [(0, .ref (adr G 7 0))] [] M
  unfold wp_X7_restore at h
  refine j_aload_n X 0 dX7_restore_0 rfl rfl ?_
  refine jf_RX7_26 X  dX7_restore_1 ?_
  refine j_if_ne X 10 dX7_restore_4 (by decide) (fun c1 => ?_) (fun c1 => ?_)
  · replace h := h.1 c1
    refine j_aload_n X 0 dX7_restore_10 rfl rfl ?_
    refine jf_RX7_16 X  dX7_restore_11 ?_
    refine j_iconst (v := (0 : Int32)) X (by decide) dX7_restore_14 ?_
    refine j_aload_n X 0 dX7_restore_15 rfl rfl ?_
    refine jf_RX7_9 X  dX7_restore_16 ?_
    refine j_iconst (v := (0 : Int32)) X (by decide) dX7_restore_19 ?_
    refine jc_RX7_57 X ⟨Nat.le_of_ble_eq_true rfl, Nat.le_of_ble_eq_true rfl⟩ (Nat.le_of_ble_eq_true rfl) dX7_restore_20 h (fun M2 h => ?_)
    refine j_aload_n X 0 dX7_restore_23 rfl rfl ?_
    refine j_iconst (v := (0 : Int32)) X (by decide) dX7_restore_24 ?_
    refine jp_RX7_22 X   dX7_restore_25 ?_
    refine j_memo (fun M3 eM3 => ?_)
    replace h := h M3 eM3
    refine j_aload_n X 0 dX7_restore_28 rfl rfl ?_
    refine jf_RX7_9 X  dX7_restore_29 ?_
    refine j_iconst (v := (3 : Int32)) X (by decide) dX7_restore_32 ?_
    refine j_iald X 3 (by decide) (mw160 0 (by decide)) kt160 lt160 (vpc (by decide)) dX7_restore_33 ?_
    exact j_iret X Y dX7_restore_34 h
  · replace h := h.2 c1
    refine j_bipush (v := (-5 : Int32)) X (by decide) dX7_restore_7 ?_
    exact j_iret X Y dX7_restore_9 h
