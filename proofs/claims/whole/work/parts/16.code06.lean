/-- LayeredClaimsModel.number()I -/
def wp_X7_number  (M : Mm) (P : Int32 → Mm → Prop) : Prop := (∃ n, lq3 (fun self1 (x3 : Int32) (x4 : Int32) (M5 : Mm) => (jn (fun  (M6 : Mm) => (jn (fun (v9 : Int32) => (fits .boolean (.int ((rd M6 7 0 10) ||| v9)) = true ∧ (∀ M13 : Mm, M13 = wr M6 7 0 10 ((rd M6 7 0 10) ||| v9) → P x3 M13))) (fun J10 : Int32 → Prop => ((¬ x4 = 0 → J10 (0 : Int32)) ∧ (x4 = 0 → J10 (1 : Int32)))))) (fun J7 : Mm → Prop => (((6 : Int32) ≤ x4 → J7 M5) ∧ (¬ (6 : Int32) ≤ x4 → (wp_X7_sign  M5 (fun (r17 : Int32) (M16 : Mm) => (wp_X7_in r17 (48 : Int32) (57 : Int32) M16 (fun (r19 : Int32) (M18 : Mm) => ((r19 = 0 → J7 M18) ∧ (¬ r19 = 0 → (wp_X7_sign  M18 (fun (r22 : Int32) (M21 : Mm) => (∀ x23 : Int32, x23 = ((((10 : Int32) * x3) + r22) - (48 : Int32)) → (∀ M24 : Mm, M24 = wr M21 7 0 8 ((rd M21 7 0 8) + (1 : Int32)) → (∀ x25 : Int32, x25 = x4 + (1 : Int32) → self1 x23 x25 M24)))))))))))))))) n (0 : Int32) (0 : Int32) M)
set_option maxHeartbeats 4000000 in
set_option maxRecDepth 100000 in
theorem met_X7_number {l : Launch} {G : GT} (hG : GD G)  (M : Mm) (P : Int32 → Mm → Prop) (h : wp_X7_number  M P) : MI l G yX7_number cX7_number 3 (some .int) ({ frames := 1, cells := 0, slots := 0, locals := 22 } : Room) [.ref (adr G 7 0)] M P := by
  refine met_by hG (own := RX7) rfl (by decide +kernel) (Nat.le_of_ble_eq_true rfl) (fun E hE X Y => ?_)
  show J G E 3 0 [(0, .ref (adr G 7 0))] [] M
  unfold wp_X7_number at h
  refine j_iconst (v := (0 : Int32)) X (by decide) dX7_number_0 ?_
  refine j_istore_n X [(1, .int (0 : Int32)), (0, .ref (adr G 7 0))] dX7_number_1 rfl (by decide) rfl ?_
  refine j_iconst (v := (0 : Int32)) X (by decide) dX7_number_2 ?_
  refine j_istore_n X [(2, .int (0 : Int32)), (1, .int (0 : Int32)), (0, .ref (adr G 7 0))] dX7_number_3 rfl (by decide) rfl ?_
  refine j_sub [2, 1, 0] rfl ?_
  refine lq3_s h (fun (x3 : Int32) (x4 : Int32) (M5 : Mm) => J G E 3 4 [(0, .ref (adr G 7 0)), (1, .int x3), (2, .int x4)] [] M5) (fun self1 ih2 x3 x4 M5 h => ?_) id
  refine j_iload_n X 2 dX7_number_4 rfl rfl ?_
  refine j_bipush (v := (6 : Int32)) X (by decide) dX7_number_5 ?_
  refine jn1_s h (fun  (M6 : Mm) => J G E 3 53 [(0, .ref (adr G 7 0)), (1, .int x3), (2, .int x4)] [] M6) (fun M6 h => ?_) (fun J7 hj8 h => ?_)
  · refine j_aload_n X 0 dX7_number_53 rfl rfl ?_
    refine j_dup X rfl dX7_number_54 ?_
    refine jf_RX7_42 X  dX7_number_55 ?_
    refine j_iload_n X 2 dX7_number_58 rfl rfl ?_
    refine jn1_s h (fun (v9 : Int32) => J G E 3 67 [(1, .int x3)] [.int v9, .int (rd M6 7 0 10), .ref (adr G 7 0)] M6) (fun v9 h => ?_) (fun J10 hj11 h => ?_)
    · refine j_ior X dX7_number_67 ?_
      have q12 := h.1
      replace h := h.2
      refine jp_RX7_42 X  q12 dX7_number_68 ?_
      refine j_memo (fun M13 eM13 => ?_)
      replace h := h M13 eM13
      refine j_iload_n X 0 dX7_number_71 rfl rfl ?_
      exact j_iret X Y dX7_number_72 h
    · refine j_if_ne X 66 dX7_number_59 (by decide) (fun c14 => ?_) (fun c14 => ?_)
      · replace h := h.1 c14
        refine j_iconst (v := (0 : Int32)) X (by decide) dX7_number_66 ?_
        refine j_sub [1] rfl ?_
        exact hj11 (0 : Int32) h
      · replace h := h.2 c14
        refine j_iconst (v := (1 : Int32)) X (by decide) dX7_number_62 ?_
        refine j_goto X 67 dX7_number_63 (by decide) ?_
        refine j_sub [1] rfl ?_
        exact hj11 (1 : Int32) h
  · refine j_icmp_ge X 53 dX7_number_7 (by decide) (fun c15 => ?_) (fun c15 => ?_)
    · replace h := h.1 c15
      refine j_sub [0, 1, 2] rfl ?_
      exact hj8 M5 h
    · replace h := h.2 c15
      refine j_aload_n X 0 dX7_number_10 rfl rfl ?_
      refine jc_RX7_111 X ⟨Nat.le_of_ble_eq_true rfl, Nat.le_of_ble_eq_true rfl⟩ (Nat.le_of_ble_eq_true rfl) dX7_number_11 h (fun r17 M16 h => ?_)
      refine j_bipush (v := (48 : Int32)) X (by decide) dX7_number_14 ?_
      refine j_bipush (v := (57 : Int32)) X (by decide) dX7_number_16 ?_
      refine jc_RX7_61 X ⟨Nat.le_of_ble_eq_true rfl, Nat.le_of_ble_eq_true rfl⟩ (Nat.le_of_ble_eq_true rfl) dX7_number_18 h (fun r19 M18 h => ?_)
      refine j_if_eq X 53 dX7_number_21 (by decide) (fun c20 => ?_) (fun c20 => ?_)
      · replace h := h.1 c20
        refine j_sub [0, 1, 2] rfl ?_
        exact hj8 M18 h
      · replace h := h.2 c20
        refine j_bipush (v := (10 : Int32)) X (by decide) dX7_number_24 ?_
        refine j_iload_n X 1 dX7_number_26 rfl rfl ?_
        refine j_imul X dX7_number_27 ?_
        refine j_aload_n X 0 dX7_number_28 rfl rfl ?_
        refine jc_RX7_111 X ⟨Nat.le_of_ble_eq_true rfl, Nat.le_of_ble_eq_true rfl⟩ (Nat.le_of_ble_eq_true rfl) dX7_number_29 h (fun r22 M21 h => ?_)
        refine j_iadd X dX7_number_32 ?_
        refine j_bipush (v := (48 : Int32)) X (by decide) dX7_number_33 ?_
        refine j_isub X dX7_number_35 ?_
        refine j_topi (fun x23 ex23 => ?_)
        replace h := h x23 ex23
        refine j_istore_n X [(1, .int x23), (0, .ref (adr G 7 0)), (2, .int x4)] dX7_number_36 rfl (by decide) rfl ?_
        refine j_aload_n X 1 dX7_number_37 rfl rfl ?_
        refine j_dup X rfl dX7_number_38 ?_
        refine jf_RX7_36 X  dX7_number_39 ?_
        refine j_iconst (v := (1 : Int32)) X (by decide) dX7_number_42 ?_
        refine j_iadd X dX7_number_43 ?_
        refine jp_RX7_36 X   dX7_number_44 ?_
        refine j_memo (fun M24 eM24 => ?_)
        replace h := h M24 eM24
        obtain ⟨x25, ex25⟩ : ∃ z : Int32, z = x4 + (1 : Int32) := ⟨_, rfl⟩
        replace h := h x25 ex25
        refine j_iinc (v := x25) X 2 [(2, .int x25), (1, .int x23), (0, .ref (adr G 7 0))] dX7_number_47 rfl (by rw [ex25]; rfl) (by decide) rfl ?_
        refine j_goto X 4 dX7_number_50 (by decide) ?_
        refine j_sub [2, 1, 0] rfl ?_
        exact ih2 x23 x25 M24 h
theorem jc_RX7_115 {G : GT} {E : ET} {cc : ByteArray} {nL pc : Nat} {rm : Room} {lv : List (Nat × Value)} {st : List Value} {M : Mm} (X : CX G E RX7 cc nL rm) (hR : 1 + 1 ≤ rm.frames ∧ 8 + (3 + 11) + 22 ≤ rm.locals) (hst : (st.map fun v => v.category).sum ≤ 8) (d : decode cc pc = .ok (.invokevirtual 115, 3))  {P : Int32 → Mm → Prop} (h : wp_X7_number  M P) (k1 : ∀ (r : Int32) (M2 : Mm), P r M2 → J G E nL (pc + 3) lv (.int r :: st) M2) : J G E nL pc lv (.ref (adr G 7 0) :: st) M := fun H locs ls hP hS hl => by
  have hK := X.2.2.2.2.2.1.1
  have hm := met_X7_number (l := eL E) X.2.2.2.2.2.2.1  M P h
  have hR2 : 1 + 1 ≤ (eR E).frames ∧ 8 + (3 + 11) + 22 ≤ (eR E).locals := by rw [X.2.2.2.2.2.2.2.1]; exact hR
  have hC2 : eCells E + 0 ≤ (eR E).cells ∧ eSlots E + 0 ≤ (eR E).slots := by rw [X.2.2.2.2.2.2.2.1]; exact ⟨X.2.2.2.2.2.2.2.2.1, X.2.2.2.2.2.2.2.2.2⟩
  obtain ⟨q0, -, hq⟩ := wld_get (G := G) M (mw7 0 (by decide))
  exact va_calli (va_runV (C := RX7) (As := []) (rest := st) ⟨X.1, X.2.1, X.2.2.1, X.2.2.2.1, X.2.2.2.2.1⟩ hm (cwV (ws' := lw_aw) 0 X.2.2.2.2.1 (gwV (tw (i := 1033) (by decide +kernel)) (tw (i := 1035) (by decide +kernel)) (tw (i := 33) (by decide +kernel)) (tw (i := 78) (by decide +kernel)) (tw (i := 1036) (by decide +kernel))) rfl rfl rfl (by decide +kernel) hR2) ⟨hr_blind, va_recv hK hP (ci := 7) (q := (RX7, TX7, 15)) (fs := objF7 G 0 (M.1 7 0)) (q0 := q0) rfl hq, fun U hU hW => ⟨rfl, by rw [hU]; exact hP, KK.warm hW X.2.2.2.2.2.1⟩⟩ rfl rfl hl.1 rfl (lv_room hst) d hC2) hS (fun q _ h => h) (fun q h => h) (fun r u t H1 locs1 ht hvm hw hB hz1 hk1 hS1 => k1 r u hw H1 locs1 ls (by rw [← ht]; exact hB.1) hS1 hl)
/-- LayeredClaimsModel.entry()I -/
def wp_X7_entry  (M : Mm) (P : Int32 → Mm → Prop) : Prop := (wp_X7_sign  M (fun (r2 : Int32) (M1 : Mm) => (jn (fun (z3 : Int32) => (∀ M6 : Mm, M6 = wr M1 7 0 8 ((rd M1 7 0 8) + (1 : Int32)) → (wp_X7_number  M6 (fun (r8 : Int32) (M7 : Mm) => (∀ M9 : Mm, M9 = wr M7 171 0 0 r8 → ((¬ r2 = (101 : Int32) → (jn (fun (v11 : Int32) => (wp_X7_takes v11 M9 (fun (M14 : Mm) => (jn (fun (v15 : Int32) (M16 : Mm) => (∀ M19 : Mm, M19 = wr M16 171 0 1 v15 → ((¬ r2 = (114 : Int32) → (wp_X7_takes (44 : Int32) M19 (fun (M21 : Mm) => (jn (fun (v22 : Int32) (M23 : Mm) => (∀ M26 : Mm, M26 = wr M23 171 0 2 v22 → P r2 M26)) (fun J24 : Int32 → Mm → Prop => (((rd M21 7 0 10) = 0 → (wp_X7_number  M21 (fun (r29 : Int32) (M28 : Mm) => J24 r29 M28))) ∧ (¬ (rd M21 7 0 10) = 0 → J24 (0 : Int32) M21))))))) ∧ (r2 = (114 : Int32) → P r2 M19)))) (fun J17 : Int32 → Mm → Prop => (((rd M14 7 0 10) = 0 → (wp_X7_number  M14 (fun (r32 : Int32) (M31 : Mm) => J17 r32 M31))) ∧ (¬ (rd M14 7 0 10) = 0 → J17 (0 : Int32) M14))))))) (fun J12 : Int32 → Prop => ((¬ r2 = (99 : Int32) → J12 (61 : Int32)) ∧ (r2 = (99 : Int32) → J12 (44 : Int32)))))) ∧ (r2 = (101 : Int32) → P r2 M9))))))) (fun J4 : Int32 → Prop => ((r2 = (101 : Int32) → J4 (0 : Int32)) ∧ (¬ r2 = (101 : Int32) → ((r2 = (99 : Int32) → J4 (0 : Int32)) ∧ (¬ r2 = (99 : Int32) → ((r2 = (114 : Int32) → J4 (0 : Int32)) ∧ (¬ r2 = (114 : Int32) → (∀ M37 : Mm, M37 = wr M1 7 0 10 (1 : Int32) → P r2 M37)))))))))))
set_option maxHeartbeats 4000000 in
set_option maxRecDepth 100000 in
theorem met_X7_entry {l : Launch} {G : GT} (hG : GD G)  (M : Mm) (P : Int32 → Mm → Prop) (h : wp_X7_entry  M P) : MI l G yX7_entry cX7_entry 2 (some .int) ({ frames := 2, cells := 0, slots := 0, locals := 44 } : Room) [.ref (adr G 7 0)] M P := by
  refine met_by hG (own := RX7) rfl (by decide +kernel) (Nat.le_of_ble_eq_true rfl) (fun E hE X Y => ?_)
  show J G E 2 0 [(0, .ref (adr G 7 0))] [] M
  unfold wp_X7_entry at h
  refine j_aload_n X 0 dX7_entry_0 rfl rfl ?_
  refine jc_RX7_111 X ⟨Nat.le_of_ble_eq_true rfl, Nat.le_of_ble_eq_true rfl⟩ (Nat.le_of_ble_eq_true rfl) dX7_entry_1 h (fun r2 M1 h => ?_)
  refine j_istore_n X [(1, .int r2), (0, .ref (adr G 7 0))] dX7_entry_4 rfl (by decide) rfl ?_
  refine j_iload_n X 0 dX7_entry_5 rfl rfl ?_
  refine j_bipush (v := (101 : Int32)) X (by decide) dX7_entry_6 ?_
  refine jn1_s h (fun (z3 : Int32) => J G E 2 30 [(0, .ref (adr G 7 0)), (1, .int r2)] [] M1) (fun z3 h => ?_) (fun J4 hj5 h => ?_)
  · refine j_aload_n X 0 dX7_entry_30 rfl rfl ?_
    refine j_dup X rfl dX7_entry_31 ?_
    refine jf_RX7_36 X  dX7_entry_32 ?_
    refine j_iconst (v := (1 : Int32)) X (by decide) dX7_entry_35 ?_
    refine j_iadd X dX7_entry_36 ?_
    refine jp_RX7_36 X   dX7_entry_37 ?_
    refine j_memo (fun M6 eM6 => ?_)
    replace h := h M6 eM6
    refine j_aload_n X 0 dX7_entry_40 rfl rfl ?_
    refine jf_RX7_45 X  dX7_entry_41 ?_
    refine j_iconst (v := (0 : Int32)) X (by decide) dX7_entry_44 ?_
    refine j_aload_n X 0 dX7_entry_45 rfl rfl ?_
    refine jc_RX7_115 X ⟨Nat.le_of_ble_eq_true rfl, Nat.le_of_ble_eq_true rfl⟩ (Nat.le_of_ble_eq_true rfl) dX7_entry_46 h (fun r8 M7 h => ?_)
    refine j_iast X 0 (by decide) (mw171 0 (by decide)) kt171 lt171 (vpc (by decide)) dX7_entry_49 ?_
    refine j_memo (fun M9 eM9 => ?_)
    replace h := h M9 eM9
    refine j_iload_n X 1 dX7_entry_50 rfl rfl ?_
    refine j_bipush (v := (101 : Int32)) X (by decide) dX7_entry_51 ?_
    refine j_icmp_ne X 58 dX7_entry_53 (by decide) (fun c10 => ?_) (fun c10 => ?_)
    · replace h := h.1 c10
      refine j_aload_n X 0 dX7_entry_58 rfl rfl ?_
      refine j_iload_n X 1 dX7_entry_59 rfl rfl ?_
      refine j_bipush (v := (99 : Int32)) X (by decide) dX7_entry_60 ?_
      refine jn1_s h (fun (v11 : Int32) => J G E 2 72 [(0, .ref (adr G 7 0)), (1, .int r2)] [.int v11, .ref (adr G 7 0)] M9) (fun v11 h => ?_) (fun J12 hj13 h => ?_)
      · refine jc_RX7_118 X ⟨Nat.le_of_ble_eq_true rfl, Nat.le_of_ble_eq_true rfl⟩ (Nat.le_of_ble_eq_true rfl) dX7_entry_72 h (fun M14 h => ?_)
        refine j_aload_n X 0 dX7_entry_75 rfl rfl ?_
        refine jf_RX7_45 X  dX7_entry_76 ?_
        refine j_iconst (v := (1 : Int32)) X (by decide) dX7_entry_79 ?_
        refine j_aload_n X 0 dX7_entry_80 rfl rfl ?_
        refine jf_RX7_42 X  dX7_entry_81 ?_
        refine jn2_s h (fun (v15 : Int32) (M16 : Mm) => J G E 2 95 [(0, .ref (adr G 7 0)), (1, .int r2)] [.int v15, .int (1 : Int32), .ref (adr G 171 0)] M16) (fun v15 M16 h => ?_) (fun J17 hj18 h => ?_)
        · refine j_iast X 1 (by decide) (mw171 0 (by decide)) kt171 lt171 (vpc (by decide)) dX7_entry_95 ?_
          refine j_memo (fun M19 eM19 => ?_)
          replace h := h M19 eM19
          refine j_iload_n X 1 dX7_entry_96 rfl rfl ?_
          refine j_bipush (v := (114 : Int32)) X (by decide) dX7_entry_97 ?_
          refine j_icmp_ne X 104 dX7_entry_99 (by decide) (fun c20 => ?_) (fun c20 => ?_)
          · replace h := h.1 c20
            refine j_aload_n X 0 dX7_entry_104 rfl rfl ?_
            refine j_bipush (v := (44 : Int32)) X (by decide) dX7_entry_105 ?_
            refine jc_RX7_118 X ⟨Nat.le_of_ble_eq_true rfl, Nat.le_of_ble_eq_true rfl⟩ (Nat.le_of_ble_eq_true rfl) dX7_entry_107 h (fun M21 h => ?_)
            refine j_aload_n X 0 dX7_entry_110 rfl rfl ?_
            refine jf_RX7_45 X  dX7_entry_111 ?_
            refine j_iconst (v := (2 : Int32)) X (by decide) dX7_entry_114 ?_
            refine j_aload_n X 0 dX7_entry_115 rfl rfl ?_
            refine jf_RX7_42 X  dX7_entry_116 ?_
            refine jn2_s h (fun (v22 : Int32) (M23 : Mm) => J G E 2 130 [(1, .int r2)] [.int v22, .int (2 : Int32), .ref (adr G 171 0)] M23) (fun v22 M23 h => ?_) (fun J24 hj25 h => ?_)
            · refine j_iast X 2 (by decide) (mw171 0 (by decide)) kt171 lt171 (vpc (by decide)) dX7_entry_130 ?_
              refine j_memo (fun M26 eM26 => ?_)
              replace h := h M26 eM26
              refine j_iload_n X 0 dX7_entry_131 rfl rfl ?_
              exact j_iret X Y dX7_entry_132 h
            · refine j_if_eq X 126 dX7_entry_119 (by decide) (fun c27 => ?_) (fun c27 => ?_)
              · replace h := h.1 c27
                refine j_aload_n X 0 dX7_entry_126 rfl rfl ?_
                refine jc_RX7_115 X ⟨Nat.le_of_ble_eq_true rfl, Nat.le_of_ble_eq_true rfl⟩ (Nat.le_of_ble_eq_true rfl) dX7_entry_127 h (fun r29 M28 h => ?_)
                refine j_sub [1] rfl ?_
                exact hj25 r29 M28 h
              · replace h := h.2 c27
                refine j_iconst (v := (0 : Int32)) X (by decide) dX7_entry_122 ?_
                refine j_goto X 130 dX7_entry_123 (by decide) ?_
                refine j_sub [1] rfl ?_
                exact hj25 (0 : Int32) M21 h
          · replace h := h.2 c20
            refine j_iload_n X 1 dX7_entry_102 rfl rfl ?_
            exact j_iret X Y dX7_entry_103 h
        · refine j_if_eq X 91 dX7_entry_84 (by decide) (fun c30 => ?_) (fun c30 => ?_)
          · replace h := h.1 c30
            refine j_aload_n X 0 dX7_entry_91 rfl rfl ?_
            refine jc_RX7_115 X ⟨Nat.le_of_ble_eq_true rfl, Nat.le_of_ble_eq_true rfl⟩ (Nat.le_of_ble_eq_true rfl) dX7_entry_92 h (fun r32 M31 h => ?_)
            refine j_sub [0, 1] rfl ?_
            exact hj18 r32 M31 h
          · replace h := h.2 c30
            refine j_iconst (v := (0 : Int32)) X (by decide) dX7_entry_87 ?_
            refine j_goto X 95 dX7_entry_88 (by decide) ?_
            refine j_sub [0, 1] rfl ?_
            exact hj18 (0 : Int32) M14 h
      · refine j_icmp_ne X 70 dX7_entry_62 (by decide) (fun c33 => ?_) (fun c33 => ?_)
        · replace h := h.1 c33
          refine j_bipush (v := (61 : Int32)) X (by decide) dX7_entry_70 ?_
          refine j_sub [0, 1] rfl ?_
          exact hj13 (61 : Int32) h
        · replace h := h.2 c33
          refine j_bipush (v := (44 : Int32)) X (by decide) dX7_entry_65 ?_
          refine j_goto X 72 dX7_entry_67 (by decide) ?_
          refine j_sub [0, 1] rfl ?_
          exact hj13 (44 : Int32) h
    · replace h := h.2 c10
      refine j_iload_n X 1 dX7_entry_56 rfl rfl ?_
      exact j_iret X Y dX7_entry_57 h
  · refine j_icmp_eq X 30 dX7_entry_8 (by decide) (fun c34 => ?_) (fun c34 => ?_)
    · replace h := h.1 c34
      refine j_sub [1, 0] rfl ?_
      exact hj5 (0 : Int32) h
    · replace h := h.2 c34
      refine j_iload_n X 0 dX7_entry_11 rfl rfl ?_
      refine j_bipush (v := (99 : Int32)) X (by decide) dX7_entry_12 ?_
      refine j_icmp_eq X 30 dX7_entry_14 (by decide) (fun c35 => ?_) (fun c35 => ?_)
      · replace h := h.1 c35
        refine j_sub [1, 0] rfl ?_
        exact hj5 (0 : Int32) h
      · replace h := h.2 c35
        refine j_iload_n X 0 dX7_entry_17 rfl rfl ?_
        refine j_bipush (v := (114 : Int32)) X (by decide) dX7_entry_18 ?_
        refine j_icmp_eq X 30 dX7_entry_20 (by decide) (fun c36 => ?_) (fun c36 => ?_)
        · replace h := h.1 c36
          refine j_sub [1, 0] rfl ?_
          exact hj5 (0 : Int32) h
        · replace h := h.2 c36
          refine j_aload_n X 1 dX7_entry_23 rfl rfl ?_
          refine j_iconst (v := (1 : Int32)) X (by decide) dX7_entry_24 ?_
          refine jp_RX7_42 X  rfl dX7_entry_25 ?_
          refine j_memo (fun M37 eM37 => ?_)
          replace h := h M37 eM37
          refine j_iload_n X 0 dX7_entry_28 rfl rfl ?_
          exact j_iret X Y dX7_entry_29 h
theorem jc_RX7_122 {G : GT} {E : ET} {cc : ByteArray} {nL pc : Nat} {rm : Room} {lv : List (Nat × Value)} {st : List Value} {M : Mm} (X : CX G E RX7 cc nL rm) (hR : 2 + 1 ≤ rm.frames ∧ 8 + (2 + 11) + 44 ≤ rm.locals) (hst : (st.map fun v => v.category).sum ≤ 8) (d : decode cc pc = .ok (.invokevirtual 122, 3))  {P : Int32 → Mm → Prop} (h : wp_X7_entry  M P) (k1 : ∀ (r : Int32) (M2 : Mm), P r M2 → J G E nL (pc + 3) lv (.int r :: st) M2) : J G E nL pc lv (.ref (adr G 7 0) :: st) M := fun H locs ls hP hS hl => by
  have hK := X.2.2.2.2.2.1.1
  have hm := met_X7_entry (l := eL E) X.2.2.2.2.2.2.1  M P h
  have hR2 : 2 + 1 ≤ (eR E).frames ∧ 8 + (2 + 11) + 44 ≤ (eR E).locals := by rw [X.2.2.2.2.2.2.2.1]; exact hR
  have hC2 : eCells E + 0 ≤ (eR E).cells ∧ eSlots E + 0 ≤ (eR E).slots := by rw [X.2.2.2.2.2.2.2.1]; exact ⟨X.2.2.2.2.2.2.2.2.1, X.2.2.2.2.2.2.2.2.2⟩
  obtain ⟨q0, -, hq⟩ := wld_get (G := G) M (mw7 0 (by decide))
  exact va_calli (va_runV (C := RX7) (As := []) (rest := st) ⟨X.1, X.2.1, X.2.2.1, X.2.2.2.1, X.2.2.2.2.1⟩ hm (cwV (ws' := lw_aw) 0 X.2.2.2.2.1 (gwV (tw (i := 1025) (by decide +kernel)) (tw (i := 1027) (by decide +kernel)) (tw (i := 31) (by decide +kernel)) (tw (i := 78) (by decide +kernel)) (tw (i := 1028) (by decide +kernel))) rfl rfl rfl (by decide +kernel) hR2) ⟨hr_blind, va_recv hK hP (ci := 7) (q := (RX7, TX7, 15)) (fs := objF7 G 0 (M.1 7 0)) (q0 := q0) rfl hq, fun U hU hW => ⟨rfl, by rw [hU]; exact hP, KK.warm hW X.2.2.2.2.2.1⟩⟩ rfl rfl hl.1 rfl (lv_room hst) d hC2) hS (fun q _ h => h) (fun q h => h) (fun r u t H1 locs1 ht hvm hw hB hz1 hk1 hS1 => k1 r u hw H1 locs1 ls (by rw [← ht]; exact hB.1) hS1 hl)
/-- LayeredClaimsModel.isFaulty()Z -/
def wp_X7_isFaulty  (M : Mm) (P : Int32 → Mm → Prop) : Prop := (∀ M1 : Mm, M1 = wr M 7 0 8 (0 : Int32) → (∀ M2 : Mm, M2 = wr M1 7 0 10 (0 : Int32) → (wp_X7_entry  M2 (fun (r4 : Int32) (M3 : Mm) => (∃ n, lq1 (fun self5  (M7 : Mm) => (wp_X7_sign  M7 (fun (r9 : Int32) (M8 : Mm) => ((¬ r9 = (59 : Int32) → (jn (fun (z11 : Int32) => P (1 : Int32) M8) (fun J12 : Int32 → Prop => ((¬ (rd M8 7 0 10) = 0 → J12 (0 : Int32)) ∧ ((rd M8 7 0 10) = 0 → (((rd M8 7 0 7) ≤ (rd M8 7 0 8) → P (0 : Int32) M8) ∧ (¬ (rd M8 7 0 7) ≤ (rd M8 7 0 8) → J12 (0 : Int32)))))))) ∧ (r9 = (59 : Int32) → (∀ M16 : Mm, M16 = wr M8 7 0 8 ((rd M8 7 0 8) + (1 : Int32)) → (wp_X7_entry  M16 (fun (r18 : Int32) (M17 : Mm) => self5 M17)))))))) n M3)))))
set_option maxHeartbeats 4000000 in
set_option maxRecDepth 100000 in
theorem met_X7_isFaulty {l : Launch} {G : GT} (hG : GD G)  (M : Mm) (P : Int32 → Mm → Prop) (h : wp_X7_isFaulty  M P) : MI l G yX7_isFaulty cX7_isFaulty 2 (some .boolean) ({ frames := 3, cells := 0, slots := 0, locals := 65 } : Room) [.ref (adr G 7 0)] M P := by
  refine met_by hG (own := RX7) rfl (by decide +kernel) (Nat.le_of_ble_eq_true rfl) (fun E hE X Y => ?_)
  show J G E 2 0 [(0, .ref (adr G 7 0))] [] M
  unfold wp_X7_isFaulty at h
  refine j_aload_n X 0 dX7_isFaulty_0 rfl rfl ?_
  refine j_iconst (v := (0 : Int32)) X (by decide) dX7_isFaulty_1 ?_
  refine jp_RX7_36 X   dX7_isFaulty_2 ?_
  refine j_memo (fun M1 eM1 => ?_)
  replace h := h M1 eM1
  refine j_aload_n X 0 dX7_isFaulty_5 rfl rfl ?_
  refine j_iconst (v := (0 : Int32)) X (by decide) dX7_isFaulty_6 ?_
  refine jp_RX7_42 X  rfl dX7_isFaulty_7 ?_
  refine j_memo (fun M2 eM2 => ?_)
  replace h := h M2 eM2
  refine j_aload_n X 0 dX7_isFaulty_10 rfl rfl ?_
  refine jc_RX7_122 X ⟨Nat.le_of_ble_eq_true rfl, Nat.le_of_ble_eq_true rfl⟩ (Nat.le_of_ble_eq_true rfl) dX7_isFaulty_11 h (fun r4 M3 h => ?_)
  refine j_istore_n X [(1, .int r4), (0, .ref (adr G 7 0))] dX7_isFaulty_14 rfl (by decide) rfl ?_
  refine j_sub [1] rfl ?_
  refine lq1_s h (fun  (M7 : Mm) => J G E 2 15 [(0, .ref (adr G 7 0))] [] M7) (fun self5 ih6  M7 h => ?_) id
  refine j_aload_n X 0 dX7_isFaulty_15 rfl rfl ?_
  refine jc_RX7_111 X ⟨Nat.le_of_ble_eq_true rfl, Nat.le_of_ble_eq_true rfl⟩ (Nat.le_of_ble_eq_true rfl) dX7_isFaulty_16 h (fun r9 M8 h => ?_)
  refine j_bipush (v := (59 : Int32)) X (by decide) dX7_isFaulty_19 ?_
  refine j_icmp_ne X 42 dX7_isFaulty_21 (by decide) (fun c10 => ?_) (fun c10 => ?_)
  · replace h := h.1 c10
    refine j_aload_n X 0 dX7_isFaulty_42 rfl rfl ?_
    refine jf_RX7_42 X  dX7_isFaulty_43 ?_
    refine jn1_s h (fun (z11 : Int32) => J G E 2 60 [] [] M8) (fun z11 h => ?_) (fun J12 hj13 h => ?_)
    · refine j_iconst (v := (1 : Int32)) X (by decide) dX7_isFaulty_60 ?_
      refine j_goto X 65 dX7_isFaulty_61 (by decide) ?_
      exact j_zret X Y dX7_isFaulty_65 rfl h
    · refine j_if_ne X 60 dX7_isFaulty_46 (by decide) (fun c14 => ?_) (fun c14 => ?_)
      · replace h := h.1 c14
        refine j_sub [] rfl ?_
        exact hj13 (0 : Int32) h
      · replace h := h.2 c14
        refine j_aload_n X 0 dX7_isFaulty_49 rfl rfl ?_
        refine jf_RX7_36 X  dX7_isFaulty_50 ?_
        refine j_aload_n X 0 dX7_isFaulty_53 rfl rfl ?_
        refine jf_RX7_33 X  dX7_isFaulty_54 ?_
        refine j_icmp_ge X 64 dX7_isFaulty_57 (by decide) (fun c15 => ?_) (fun c15 => ?_)
        · replace h := h.1 c15
          refine j_iconst (v := (0 : Int32)) X (by decide) dX7_isFaulty_64 ?_
          exact j_zret X Y dX7_isFaulty_65 rfl h
        · replace h := h.2 c15
          refine j_sub [] rfl ?_
          exact hj13 (0 : Int32) h
  · replace h := h.2 c10
    refine j_aload_n X 0 dX7_isFaulty_24 rfl rfl ?_
    refine j_dup X rfl dX7_isFaulty_25 ?_
    refine jf_RX7_36 X  dX7_isFaulty_26 ?_
    refine j_iconst (v := (1 : Int32)) X (by decide) dX7_isFaulty_29 ?_
    refine j_iadd X dX7_isFaulty_30 ?_
    refine jp_RX7_36 X   dX7_isFaulty_31 ?_
    refine j_memo (fun M16 eM16 => ?_)
    replace h := h M16 eM16
    refine j_aload_n X 0 dX7_isFaulty_34 rfl rfl ?_
    refine jc_RX7_122 X ⟨Nat.le_of_ble_eq_true rfl, Nat.le_of_ble_eq_true rfl⟩ (Nat.le_of_ble_eq_true rfl) dX7_isFaulty_35 h (fun r18 M17 h => ?_)
    refine j_istore_n X [(1, .int r18), (0, .ref (adr G 7 0))] dX7_isFaulty_38 rfl (by decide) rfl ?_
    refine j_goto X 15 dX7_isFaulty_39 (by decide) ?_
    refine j_sub [1] rfl ?_
    exact ih6 M17 h
theorem jc_RX7_125 {G : GT} {E : ET} {cc : ByteArray} {nL pc : Nat} {rm : Room} {lv : List (Nat × Value)} {st : List Value} {M : Mm} (X : CX G E RX7 cc nL rm) (hR : 3 + 1 ≤ rm.frames ∧ 8 + (2 + 11) + 65 ≤ rm.locals) (hst : (st.map fun v => v.category).sum ≤ 8) (d : decode cc pc = .ok (.invokevirtual 125, 3))  {P : Int32 → Mm → Prop} (h : wp_X7_isFaulty  M P) (k1 : ∀ (r : Int32) (M2 : Mm), P r M2 → J G E nL (pc + 3) lv (.int r :: st) M2) : J G E nL pc lv (.ref (adr G 7 0) :: st) M := fun H locs ls hP hS hl => by
  have hK := X.2.2.2.2.2.1.1
  have hm := met_X7_isFaulty (l := eL E) X.2.2.2.2.2.2.1  M P h
  have hR2 : 3 + 1 ≤ (eR E).frames ∧ 8 + (2 + 11) + 65 ≤ (eR E).locals := by rw [X.2.2.2.2.2.2.2.1]; exact hR
  have hC2 : eCells E + 0 ≤ (eR E).cells ∧ eSlots E + 0 ≤ (eR E).slots := by rw [X.2.2.2.2.2.2.2.1]; exact ⟨X.2.2.2.2.2.2.2.2.1, X.2.2.2.2.2.2.2.2.2⟩
  obtain ⟨q0, -, hq⟩ := wld_get (G := G) M (mw7 0 (by decide))
  exact va_calli (va_runV (C := RX7) (As := []) (rest := st) ⟨X.1, X.2.1, X.2.2.1, X.2.2.2.1, X.2.2.2.2.1⟩ hm (cwV (ws' := lw_aw) 0 X.2.2.2.2.1 (gwV (tw (i := 1021) (by decide +kernel)) (tw (i := 1023) (by decide +kernel)) (tw (i := 30) (by decide +kernel)) (tw (i := 78) (by decide +kernel)) (tw (i := 1024) (by decide +kernel))) rfl rfl rfl (by decide +kernel) hR2) ⟨hr_blind, va_recv hK hP (ci := 7) (q := (RX7, TX7, 15)) (fs := objF7 G 0 (M.1 7 0)) (q0 := q0) rfl hq, fun U hU hW => ⟨rfl, by rw [hU]; exact hP, KK.warm hW X.2.2.2.2.2.1⟩⟩ rfl rfl hl.1 rfl (lv_room hst) d hC2) hS (fun q _ h => h) (fun q h => h) (fun r u t H1 locs1 ht hvm hw hB hz1 hk1 hS1 => k1 r u hw H1 locs1 ls (by rw [← ht]; exact hB.1) hS1 hl)
/-- LayeredClaimsModel.read()I -/
def wp_X7_read  (M : Mm) (P : Int32 → Mm → Prop) : Prop := (∀ M1 : Mm, M1 = wr M 7 0 9 (-4 : Int32) → (wp_X7_isFaulty  M1 (fun (r3 : Int32) (M2 : Mm) => ((r3 = 0 → (wp_X7_keeps  M2 (fun (M5 : Mm) => (∀ M6 : Mm, M6 = wr M5 7 0 8 (0 : Int32) → (∀ M7 : Mm, M7 = wr M6 7 0 10 (0 : Int32) → (∃ n, lq2 (fun self8 (x10 : Int32) (M11 : Mm) => (((rd M11 7 0 7) ≤ (rd M11 7 0 8) → (∀ M13 : Mm, M13 = wr M11 7 0 7 (0 : Int32) → (wp_X7_changes  M13 (fun (M14 : Mm) => P x10 M14)))) ∧ (¬ (rd M11 7 0 7) ≤ (rd M11 7 0 8) → (jn (fun  (M15 : Mm) => (∀ x18 : Int32, x18 = (rd M15 7 0 8) → (wp_X7_entry  M15 (fun (r20 : Int32) (M19 : Mm) => (jn (fun (v21 : Int32) (M22 : Mm) => ((0 ≤ v21 → (∀ x26 : Int32, x26 = x10 + (1 : Int32) → self8 x26 M22)) ∧ (¬ 0 ≤ v21 → (wp_X7_copies (163, 0) (0 : Int32) (160, 0) (0 : Int32) M22 (fun (M27 : Mm) => (∀ M28 : Mm, M28 = wr M27 7 0 9 x18 → (∀ M29 : Mm, M29 = wr M28 7 0 7 (0 : Int32) → P (-5 : Int32) M29))))))) (fun J23 : Int32 → Mm → Prop => ((¬ r20 = (101 : Int32) → ((¬ r20 = (99 : Int32) → (wp_X7_laysRecovery (rd M19 171 0 0) (rd M19 171 0 1) M19 (fun (r33 : Int32) (M32 : Mm) => J23 r33 M32))) ∧ (r20 = (99 : Int32) → (wp_X7_laysClaim (rd M19 171 0 0) (rd M19 171 0 1) (rd M19 171 0 2) M19 (fun (r35 : Int32) (M34 : Mm) => J23 r35 M34))))) ∧ (r20 = (101 : Int32) → (wp_X7_laysEvent (rd M19 171 0 0) M19 (fun (r37 : Int32) (M36 : Mm) => J23 r37 M36)))))))))) (fun J16 : Mm → Prop => ((x10 ≤ 0 → J16 M11) ∧ (¬ x10 ≤ 0 → (∀ M39 : Mm, M39 = wr M11 7 0 8 ((rd M11 7 0 8) + (1 : Int32)) → J16 M39)))))))) n (0 : Int32) M7)))))) ∧ (¬ r3 = 0 → (∀ M40 : Mm, M40 = wr M2 7 0 9 (rd M2 7 0 8) → (∀ M41 : Mm, M41 = wr M40 7 0 7 (0 : Int32) → P (-2 : Int32) M41)))))))
set_option maxHeartbeats 4000000 in
set_option maxRecDepth 100000 in
theorem met_X7_read {l : Launch} {G : GT} (hG : GD G)  (M : Mm) (P : Int32 → Mm → Prop) (h : wp_X7_read  M P) : MI l G yX7_read cX7_read 5 (some .int) ({ frames := 4, cells := 0, slots := 0, locals := 86 } : Room) [.ref (adr G 7 0)] M P := by
  refine met_by hG (own := RX7) rfl (by decide +kernel) (Nat.le_of_ble_eq_true rfl) (fun E hE X Y => ?_)
  show J G E 5 0 [(0, .ref (adr G 7 0))] [] M
  unfold wp_X7_read at h
  refine j_aload_n X 0 dX7_read_0 rfl rfl ?_
  refine j_bipush (v := (-4 : Int32)) X (by decide) dX7_read_1 ?_
  refine jp_RX7_39 X   dX7_read_3 ?_
  refine j_memo (fun M1 eM1 => ?_)
  replace h := h M1 eM1
  refine j_aload_n X 0 dX7_read_6 rfl rfl ?_
  refine jc_RX7_125 X ⟨Nat.le_of_ble_eq_true rfl, Nat.le_of_ble_eq_true rfl⟩ (Nat.le_of_ble_eq_true rfl) dX7_read_7 h (fun r3 M2 h => ?_)
  refine j_if_eq X 29 dX7_read_10 (by decide) (fun c4 => ?_) (fun c4 => ?_)
  · replace h := h.1 c4
    refine j_aload_n X 0 dX7_read_29 rfl rfl ?_
    refine jc_RX7_83 X ⟨Nat.le_of_ble_eq_true rfl, Nat.le_of_ble_eq_true rfl⟩ (Nat.le_of_ble_eq_true rfl) dX7_read_30 h (fun M5 h => ?_)
    refine j_aload_n X 0 dX7_read_33 rfl rfl ?_
    refine j_iconst (v := (0 : Int32)) X (by decide) dX7_read_34 ?_
    refine jp_RX7_36 X   dX7_read_35 ?_
    refine j_memo (fun M6 eM6 => ?_)
    replace h := h M6 eM6
    refine j_aload_n X 0 dX7_read_38 rfl rfl ?_
    refine j_iconst (v := (0 : Int32)) X (by decide) dX7_read_39 ?_
    refine jp_RX7_42 X  rfl dX7_read_40 ?_
    refine j_memo (fun M7 eM7 => ?_)
    replace h := h M7 eM7
    refine j_iconst (v := (0 : Int32)) X (by decide) dX7_read_43 ?_
    refine j_istore_n X [(1, .int (0 : Int32)), (0, .ref (adr G 7 0))] dX7_read_44 rfl (by decide) rfl ?_
    refine j_sub [1, 0] rfl ?_
    refine lq2_s h (fun (x10 : Int32) (M11 : Mm) => J G E 5 45 [(0, .ref (adr G 7 0)), (1, .int x10)] [] M11) (fun self8 ih9 x10 M11 h => ?_) id
    refine j_aload_n X 0 dX7_read_45 rfl rfl ?_
    refine jf_RX7_36 X  dX7_read_46 ?_
    refine j_aload_n X 0 dX7_read_49 rfl rfl ?_
    refine jf_RX7_33 X  dX7_read_50 ?_
    refine j_icmp_ge X 185 dX7_read_53 (by decide) (fun c12 => ?_) (fun c12 => ?_)
    · replace h := h.1 c12
      refine j_aload_n X 0 dX7_read_185 rfl rfl ?_
      refine j_iconst (v := (0 : Int32)) X (by decide) dX7_read_186 ?_
      refine jp_RX7_33 X   dX7_read_187 ?_
      refine j_memo (fun M13 eM13 => ?_)
      replace h := h M13 eM13
      refine j_aload_n X 0 dX7_read_190 rfl rfl ?_
      refine jc_RX7_81 X ⟨Nat.le_of_ble_eq_true rfl, Nat.le_of_ble_eq_true rfl⟩ (Nat.le_of_ble_eq_true rfl) dX7_read_191 h (fun M14 h => ?_)
      refine j_iload_n X 1 dX7_read_194 rfl rfl ?_
      exact j_iret X Y dX7_read_195 h
    · replace h := h.2 c12
      refine j_iload_n X 1 dX7_read_56 rfl rfl ?_
      refine jn1_s h (fun  (M15 : Mm) => J G E 5 70 [(0, .ref (adr G 7 0)), (1, .int x10)] [] M15) (fun M15 h => ?_) (fun J16 hj17 h => ?_)
      · refine j_aload_n X 0 dX7_read_70 rfl rfl ?_
        refine jf_RX7_36 X  dX7_read_71 ?_
        refine j_topi (fun x18 ex18 => ?_)
        replace h := h x18 ex18
        refine j_istore_n X [(2, .int x18), (0, .ref (adr G 7 0)), (1, .int x10)] dX7_read_74 rfl (by decide) rfl ?_
        refine j_aload_n X 1 dX7_read_75 rfl rfl ?_
        refine jc_RX7_122 X ⟨Nat.le_of_ble_eq_true rfl, Nat.le_of_ble_eq_true rfl⟩ (Nat.le_of_ble_eq_true rfl) dX7_read_76 h (fun r20 M19 h => ?_)
        refine j_istore_n X [(3, .int r20), (2, .int x18), (0, .ref (adr G 7 0)), (1, .int x10)] dX7_read_79 rfl (by decide) rfl ?_
        refine j_iload_n X 0 dX7_read_80 rfl rfl ?_
        refine j_bipush (v := (101 : Int32)) X (by decide) dX7_read_81 ?_
        refine jn2_s h (fun (v21 : Int32) (M22 : Mm) => J G E 5 146 [(0, .ref (adr G 7 0)), (1, .int x10), (2, .int x18)] [.int v21] M22) (fun v21 M22 h => ?_) (fun J23 hj24 h => ?_)
        · refine j_istore X [(4, .int v21), (0, .ref (adr G 7 0)), (1, .int x10), (2, .int x18)] dX7_read_146 (by decide) rfl ?_
          refine j_iload X 0 dX7_read_148 rfl ?_
          refine j_if_ge X 179 dX7_read_150 (by decide) (fun c25 => ?_) (fun c25 => ?_)
          · replace h := h.1 c25
            obtain ⟨x26, ex26⟩ : ∃ z : Int32, z = x10 + (1 : Int32) := ⟨_, rfl⟩
            replace h := h x26 ex26
            refine j_iinc (v := x26) X 2 [(1, .int x26), (4, .int v21), (0, .ref (adr G 7 0)), (2, .int x18)] dX7_read_179 rfl (by rw [ex26]; rfl) (by decide) rfl ?_
            refine j_goto X 45 dX7_read_182 (by decide) ?_
            refine j_sub [2, 0] rfl ?_
            exact ih9 x26 M22 h
          · replace h := h.2 c25
            refine j_aload_n X 1 dX7_read_153 rfl rfl ?_
            refine jf_RX7_19 X  dX7_read_154 ?_
            refine j_iconst (v := (0 : Int32)) X (by decide) dX7_read_157 ?_
            refine j_aload_n X 1 dX7_read_158 rfl rfl ?_
            refine jf_RX7_9 X  dX7_read_159 ?_
            refine j_iconst (v := (0 : Int32)) X (by decide) dX7_read_162 ?_
            refine jc_RX7_57 X ⟨Nat.le_of_ble_eq_true rfl, Nat.le_of_ble_eq_true rfl⟩ (Nat.le_of_ble_eq_true rfl) dX7_read_163 h (fun M27 h => ?_)
            refine j_aload_n X 1 dX7_read_166 rfl rfl ?_
            refine j_iload_n X 3 dX7_read_167 rfl rfl ?_
            refine jp_RX7_39 X   dX7_read_168 ?_
            refine j_memo (fun M28 eM28 => ?_)
            replace h := h M28 eM28
            refine j_aload_n X 1 dX7_read_171 rfl rfl ?_
            refine j_iconst (v := (0 : Int32)) X (by decide) dX7_read_172 ?_
            refine jp_RX7_33 X   dX7_read_173 ?_
            refine j_memo (fun M29 eM29 => ?_)
            replace h := h M29 eM29
            refine j_bipush (v := (-5 : Int32)) X (by decide) dX7_read_176 ?_
            exact j_iret X Y dX7_read_178 h
        · refine j_icmp_ne X 99 dX7_read_83 (by decide) (fun c30 => ?_) (fun c30 => ?_)
          · replace h := h.1 c30
            refine j_iload_n X 0 dX7_read_99 rfl rfl ?_
            refine j_bipush (v := (99 : Int32)) X (by decide) dX7_read_100 ?_
            refine j_icmp_ne X 130 dX7_read_102 (by decide) (fun c31 => ?_) (fun c31 => ?_)
            · replace h := h.1 c31
              refine j_aload_n X 2 dX7_read_130 rfl rfl ?_
              refine j_aload_n X 2 dX7_read_131 rfl rfl ?_
              refine jf_RX7_45 X  dX7_read_132 ?_
              refine j_iconst (v := (0 : Int32)) X (by decide) dX7_read_135 ?_
              refine j_iald X 0 (by decide) (mw171 0 (by decide)) kt171 lt171 (vpc (by decide)) dX7_read_136 ?_
              refine j_aload_n X 2 dX7_read_137 rfl rfl ?_
              refine jf_RX7_45 X  dX7_read_138 ?_
              refine j_iconst (v := (1 : Int32)) X (by decide) dX7_read_141 ?_
              refine j_iald X 1 (by decide) (mw171 0 (by decide)) kt171 lt171 (vpc (by decide)) dX7_read_142 ?_
              refine jc_RX7_107 X ⟨Nat.le_of_ble_eq_true rfl, Nat.le_of_ble_eq_true rfl⟩ (Nat.le_of_ble_eq_true rfl) dX7_read_143 h (fun r33 M32 h => ?_)
              refine j_sub [2, 3, 1] rfl ?_
              exact hj24 r33 M32 h
            · replace h := h.2 c31
              refine j_aload_n X 2 dX7_read_105 rfl rfl ?_
              refine j_aload_n X 2 dX7_read_106 rfl rfl ?_
              refine jf_RX7_45 X  dX7_read_107 ?_
              refine j_iconst (v := (0 : Int32)) X (by decide) dX7_read_110 ?_
              refine j_iald X 0 (by decide) (mw171 0 (by decide)) kt171 lt171 (vpc (by decide)) dX7_read_111 ?_
              refine j_aload_n X 2 dX7_read_112 rfl rfl ?_
              refine jf_RX7_45 X  dX7_read_113 ?_
              refine j_iconst (v := (1 : Int32)) X (by decide) dX7_read_116 ?_
              refine j_iald X 1 (by decide) (mw171 0 (by decide)) kt171 lt171 (vpc (by decide)) dX7_read_117 ?_
              refine j_aload_n X 2 dX7_read_118 rfl rfl ?_
              refine jf_RX7_45 X  dX7_read_119 ?_
              refine j_iconst (v := (2 : Int32)) X (by decide) dX7_read_122 ?_
              refine j_iald X 2 (by decide) (mw171 0 (by decide)) kt171 lt171 (vpc (by decide)) dX7_read_123 ?_
              refine jc_RX7_100 X ⟨Nat.le_of_ble_eq_true rfl, Nat.le_of_ble_eq_true rfl⟩ (Nat.le_of_ble_eq_true rfl) dX7_read_124 h (fun r35 M34 h => ?_)
              refine j_goto X 146 dX7_read_127 (by decide) ?_
              refine j_sub [2, 3, 1] rfl ?_
              exact hj24 r35 M34 h
          · replace h := h.2 c30
            refine j_aload_n X 2 dX7_read_86 rfl rfl ?_
            refine j_aload_n X 2 dX7_read_87 rfl rfl ?_
            refine jf_RX7_45 X  dX7_read_88 ?_
            refine j_iconst (v := (0 : Int32)) X (by decide) dX7_read_91 ?_
            refine j_iald X 0 (by decide) (mw171 0 (by decide)) kt171 lt171 (vpc (by decide)) dX7_read_92 ?_
            refine jc_RX7_97 X ⟨Nat.le_of_ble_eq_true rfl, Nat.le_of_ble_eq_true rfl⟩ (Nat.le_of_ble_eq_true rfl) dX7_read_93 h (fun r37 M36 h => ?_)
            refine j_goto X 146 dX7_read_96 (by decide) ?_
            refine j_sub [2, 3, 1] rfl ?_
            exact hj24 r37 M36 h
      · refine j_if_le X 70 dX7_read_57 (by decide) (fun c38 => ?_) (fun c38 => ?_)
        · replace h := h.1 c38
          refine j_sub [0, 1] rfl ?_
          exact hj17 M11 h
        · replace h := h.2 c38
          refine j_aload_n X 0 dX7_read_60 rfl rfl ?_
          refine j_dup X rfl dX7_read_61 ?_
          refine jf_RX7_36 X  dX7_read_62 ?_
          refine j_iconst (v := (1 : Int32)) X (by decide) dX7_read_65 ?_
          refine j_iadd X dX7_read_66 ?_
          refine jp_RX7_36 X   dX7_read_67 ?_
          refine j_memo (fun M39 eM39 => ?_)
          replace h := h M39 eM39
          refine j_sub [0, 1] rfl ?_
          exact hj17 M39 h
  · replace h := h.2 c4
    refine j_aload_n X 0 dX7_read_13 rfl rfl ?_
    refine j_aload_n X 0 dX7_read_14 rfl rfl ?_
    refine jf_RX7_36 X  dX7_read_15 ?_
    refine jp_RX7_39 X   dX7_read_18 ?_
    refine j_memo (fun M40 eM40 => ?_)
    replace h := h M40 eM40
    refine j_aload_n X 0 dX7_read_21 rfl rfl ?_
    refine j_iconst (v := (0 : Int32)) X (by decide) dX7_read_22 ?_
    refine jp_RX7_33 X   dX7_read_23 ?_
    refine j_memo (fun M41 eM41 => ?_)
    replace h := h M41 eM41
    refine j_bipush (v := (-2 : Int32)) X (by decide) dX7_read_26 ?_
    exact j_iret X Y dX7_read_28 h
/-- LayeredClaimsModel.faultPosition()I -/
def wp_X7_faultPosition  (M : Mm) (P : Int32 → Mm → Prop) : Prop := P (rd M 7 0 9) M
set_option maxHeartbeats 4000000 in
set_option maxRecDepth 100000 in
theorem met_X7_faultPosition {l : Launch} {G : GT} (hG : GD G)  (M : Mm) (P : Int32 → Mm → Prop) (h : wp_X7_faultPosition  M P) : MI l G yX7_faultPosition cX7_faultPosition 1 (some .int) ({ frames := 0, cells := 0, slots := 0, locals := 0 } : Room) [.ref (adr G 7 0)] M P := by
  refine met_by hG (own := RX7) rfl (by decide +kernel) (Nat.le_of_ble_eq_true rfl) (fun E hE X Y => ?_)
  show J G E 1 0 [(0, .ref (adr G 7 0))] [] M
  unfold wp_X7_faultPosition at h
  refine j_aload_n X 0 dX7_faultPosition_0 rfl rfl ?_
  refine jf_RX7_39 X  dX7_faultPosition_1 ?_
  exact j_iret X Y dX7_faultPosition_4 h
/-- LayeredClaimsModel.undo()I -/
def wp_X7_undo  (M : Mm) (P : Int32 → Mm → Prop) : Prop := ((¬ (rd M 7 0 4) = 0 → (∀ M2 : Mm, M2 = wr M 7 0 4 ((rd M 7 0 4) - (1 : Int32)) → (wp_X7_copies (161, 0) ((136 : Int32) * (rd M2 7 0 4)) (160, 0) (0 : Int32) M2 (fun (M3 : Mm) => P (rd M3 7 0 4) M3)))) ∧ ((rd M 7 0 4) = 0 → P (-4 : Int32) M))
set_option maxHeartbeats 4000000 in
set_option maxRecDepth 100000 in
theorem met_X7_undo {l : Launch} {G : GT} (hG : GD G)  (M : Mm) (P : Int32 → Mm → Prop) (h : wp_X7_undo  M P) : MI l G yX7_undo cX7_undo 1 (some .int) ({ frames := 1, cells := 0, slots := 0, locals := 24 } : Room) [.ref (adr G 7 0)] M P := by
  refine met_by hG (own := RX7) rfl (by decide +kernel) (Nat.le_of_ble_eq_true rfl) (fun E hE X Y => ?_)
  show J G E 1 0 [(0, .ref (adr G 7 0))] [] M
  unfold wp_X7_undo at h
  refine j_aload_n X 0 dX7_undo_0 rfl rfl ?_
  refine jf_RX7_22 X  dX7_undo_1 ?_
  refine j_if_ne X 10 dX7_undo_4 (by decide) (fun c1 => ?_) (fun c1 => ?_)
  · replace h := h.1 c1
    refine j_aload_n X 0 dX7_undo_10 rfl rfl ?_
    refine j_dup X rfl dX7_undo_11 ?_
    refine jf_RX7_22 X  dX7_undo_12 ?_
    refine j_iconst (v := (1 : Int32)) X (by decide) dX7_undo_15 ?_
    refine j_isub X dX7_undo_16 ?_
    refine jp_RX7_22 X   dX7_undo_17 ?_
    refine j_memo (fun M2 eM2 => ?_)
    replace h := h M2 eM2
    refine j_aload_n X 0 dX7_undo_20 rfl rfl ?_
    refine jf_RX7_13 X  dX7_undo_21 ?_
    refine j_sipush (v := (136 : Int32)) X (by decide) dX7_undo_24 ?_
    refine j_aload_n X 0 dX7_undo_27 rfl rfl ?_
    refine jf_RX7_22 X  dX7_undo_28 ?_
    refine j_imul X dX7_undo_31 ?_
    refine j_aload_n X 0 dX7_undo_32 rfl rfl ?_
    refine jf_RX7_9 X  dX7_undo_33 ?_
    refine j_iconst (v := (0 : Int32)) X (by decide) dX7_undo_36 ?_
    refine jc_RX7_57 X ⟨Nat.le_of_ble_eq_true rfl, Nat.le_of_ble_eq_true rfl⟩ (Nat.le_of_ble_eq_true rfl) dX7_undo_37 h (fun M3 h => ?_)
    refine j_aload_n X 0 dX7_undo_40 rfl rfl ?_
    refine jf_RX7_22 X  dX7_undo_41 ?_
    exact j_iret X Y dX7_undo_44 h
  · replace h := h.2 c1
    refine j_bipush (v := (-4 : Int32)) X (by decide) dX7_undo_7 ?_
    exact j_iret X Y dX7_undo_9 h
/-- LayeredClaimsModel.count(I)I -/
def wp_X7_count (a1 : Int32) (M : Mm) (P : Int32 → Mm → Prop) : Prop := ((a1 = 0 → P (rd M 160 0 0) M) ∧ (a1 = 1 → P (rd M 160 0 1) M) ∧ (a1 = 2 → P (rd M 160 0 2) M) ∧ (a1 = 3 → P (rd M 160 0 3) M) ∧ (a1 = 4 → P (rd M 7 0 7) M) ∧ (a1 = 5 → P (rd M 160 0 4) M) ∧ (¬ a1 = 0 → ¬ a1 = 1 → ¬ a1 = 2 → ¬ a1 = 3 → ¬ a1 = 4 → ¬ a1 = 5 → P (-2 : Int32) M))
set_option maxHeartbeats 4000000 in
set_option maxRecDepth 100000 in
theorem met_X7_count {l : Launch} {G : GT} (hG : GD G) (a1 : Int32) (M : Mm) (P : Int32 → Mm → Prop) (h : wp_X7_count a1 M P) : MI l G yX7_count cX7_count 2 (some .int) ({ frames := 0, cells := 0, slots := 0, locals := 0 } : Room) [.ref (adr G 7 0), .int a1] M P := by
  refine met_by hG (own := RX7) rfl (by decide +kernel) (Nat.le_of_ble_eq_true rfl) (fun E hE X Y => ?_)
  show J G E 2 0 [(0, .ref (adr G 7 0)), (1, .int a1)] [] M
  unfold wp_X7_count at h
  refine j_iload_n X 1 dX7_count_0 rfl rfl ?_
  refine j_ts_0_5 X (t0 := 40) (t1 := 47) (t2 := 54) (t3 := 61) (t4 := 68) (t5 := 73) (td := 80) dX7_count_1 rfl (by decide) (by decide) (by decide) (by decide) (by decide) (by decide) (by decide) (fun c1 => ?_) (fun c1 => ?_) (fun c1 => ?_) (fun c1 => ?_) (fun c1 => ?_) (fun c1 => ?_) (fun c2 c3 c4 c5 c6 c7 => ?_)
  · replace h := h.1 c1
    refine j_aload_n X 0 dX7_count_40 rfl rfl ?_
    refine jf_RX7_9 X  dX7_count_41 ?_
    refine j_iconst (v := (0 : Int32)) X (by decide) dX7_count_44 ?_
    refine j_iald X 0 (by decide) (mw160 0 (by decide)) kt160 lt160 (vpc (by decide)) dX7_count_45 ?_
    exact j_iret X Y dX7_count_46 h
  · replace h := h.2.1 c1
    refine j_aload_n X 0 dX7_count_47 rfl rfl ?_
    refine jf_RX7_9 X  dX7_count_48 ?_
    refine j_iconst (v := (1 : Int32)) X (by decide) dX7_count_51 ?_
    refine j_iald X 1 (by decide) (mw160 0 (by decide)) kt160 lt160 (vpc (by decide)) dX7_count_52 ?_
    exact j_iret X Y dX7_count_53 h
  · replace h := h.2.2.1 c1
    refine j_aload_n X 0 dX7_count_54 rfl rfl ?_
    refine jf_RX7_9 X  dX7_count_55 ?_
    refine j_iconst (v := (2 : Int32)) X (by decide) dX7_count_58 ?_
    refine j_iald X 2 (by decide) (mw160 0 (by decide)) kt160 lt160 (vpc (by decide)) dX7_count_59 ?_
    exact j_iret X Y dX7_count_60 h
  · replace h := h.2.2.2.1 c1
    refine j_aload_n X 0 dX7_count_61 rfl rfl ?_
    refine jf_RX7_9 X  dX7_count_62 ?_
    refine j_iconst (v := (3 : Int32)) X (by decide) dX7_count_65 ?_
    refine j_iald X 3 (by decide) (mw160 0 (by decide)) kt160 lt160 (vpc (by decide)) dX7_count_66 ?_
    exact j_iret X Y dX7_count_67 h
  · replace h := h.2.2.2.2.1 c1
    refine j_aload_n X 0 dX7_count_68 rfl rfl ?_
    refine jf_RX7_33 X  dX7_count_69 ?_
    exact j_iret X Y dX7_count_72 h
  · replace h := h.2.2.2.2.2.1 c1
    refine j_aload_n X 0 dX7_count_73 rfl rfl ?_
    refine jf_RX7_9 X  dX7_count_74 ?_
    refine j_iconst (v := (4 : Int32)) X (by decide) dX7_count_77 ?_
    refine j_iald X 4 (by decide) (mw160 0 (by decide)) kt160 lt160 (vpc (by decide)) dX7_count_78 ?_
    exact j_iret X Y dX7_count_79 h
  · replace h := h.2.2.2.2.2.2 c2 c3 c4 c5 c6 c7
    refine j_bipush (v := (-2 : Int32)) X (by decide) dX7_count_80 ?_
    exact j_iret X Y dX7_count_82 h
/-- LayeredClaimsModel.isBefore(II)Z -/
def wp_X7_isBefore (a1 : Int32) (a2 : Int32) (M : Mm) (P : Int32 → Mm → Prop) : Prop := (vp_in ((48 : Int32) + a1) 136 ∧ (vp_in ((48 : Int32) + a2) 136 ∧ (((rd M 160 0 ((48 : Int32) + a1).toNatClampNeg) = (rd M 160 0 ((48 : Int32) + a2).toNatClampNeg) → ((a2 ≤ a1 → P (0 : Int32) M) ∧ (¬ a2 ≤ a1 → P (1 : Int32) M))) ∧ (¬ (rd M 160 0 ((48 : Int32) + a1).toNatClampNeg) = (rd M 160 0 ((48 : Int32) + a2).toNatClampNeg) → (((rd M 160 0 ((48 : Int32) + a2).toNatClampNeg) ≤ (rd M 160 0 ((48 : Int32) + a1).toNatClampNeg) → P (0 : Int32) M) ∧ (¬ (rd M 160 0 ((48 : Int32) + a2).toNatClampNeg) ≤ (rd M 160 0 ((48 : Int32) + a1).toNatClampNeg) → P (1 : Int32) M))))))
set_option maxHeartbeats 4000000 in
set_option maxRecDepth 100000 in
theorem met_X7_isBefore {l : Launch} {G : GT} (hG : GD G) (a1 : Int32) (a2 : Int32) (M : Mm) (P : Int32 → Mm → Prop) (h : wp_X7_isBefore a1 a2 M P) : MI l G yX7_isBefore cX7_isBefore 3 (some .boolean) ({ frames := 0, cells := 0, slots := 0, locals := 0 } : Room) [.ref (adr G 7 0), .int a1, .int a2] M P := by
  refine met_by hG (own := RX7) rfl (by decide +kernel) (Nat.le_of_ble_eq_true rfl) (fun E hE X Y => ?_)
  show J G E 3 0 [(0, .ref (adr G 7 0)), (1, .int a1), (2, .int a2)] [] M
  unfold wp_X7_isBefore at h
  refine j_aload_n X 0 dX7_isBefore_0 rfl rfl ?_
  refine jf_RX7_9 X  dX7_isBefore_1 ?_
  refine j_bipush (v := (48 : Int32)) X (by decide) dX7_isBefore_4 ?_
  refine j_iload_n X 1 dX7_isBefore_6 rfl rfl ?_
  refine j_iadd X dX7_isBefore_7 ?_
  have q1 := h.1
  replace h := h.2
  refine j_iald X _ rfl (mw160 0 (by decide)) kt160 lt160 q1 dX7_isBefore_8 ?_
  refine j_aload_n X 0 dX7_isBefore_9 rfl rfl ?_
  refine jf_RX7_9 X  dX7_isBefore_10 ?_
  refine j_bipush (v := (48 : Int32)) X (by decide) dX7_isBefore_13 ?_
  refine j_iload_n X 2 dX7_isBefore_15 rfl rfl ?_
  refine j_iadd X dX7_isBefore_16 ?_
  have q2 := h.1
  replace h := h.2
  refine j_iald X _ rfl (mw160 0 (by decide)) kt160 lt160 q2 dX7_isBefore_17 ?_
  refine j_icmp_eq X 50 dX7_isBefore_18 (by decide) (fun c3 => ?_) (fun c3 => ?_)
  · replace h := h.1 c3
    refine j_iload_n X 1 dX7_isBefore_50 rfl rfl ?_
    refine j_iload_n X 2 dX7_isBefore_51 rfl rfl ?_
    refine j_icmp_ge X 59 dX7_isBefore_52 (by decide) (fun c4 => ?_) (fun c4 => ?_)
    · replace h := h.1 c4
      refine j_iconst (v := (0 : Int32)) X (by decide) dX7_isBefore_59 ?_
      exact j_zret X Y dX7_isBefore_60 rfl h
    · replace h := h.2 c4
      refine j_iconst (v := (1 : Int32)) X (by decide) dX7_isBefore_55 ?_
      refine j_goto X 60 dX7_isBefore_56 (by decide) ?_
      exact j_zret X Y dX7_isBefore_60 rfl h
  · replace h := h.2 c3
    refine j_aload_n X 0 dX7_isBefore_21 rfl rfl ?_
    refine jf_RX7_9 X  dX7_isBefore_22 ?_
    refine j_bipush (v := (48 : Int32)) X (by decide) dX7_isBefore_25 ?_
    refine j_iload_n X 1 dX7_isBefore_27 rfl rfl ?_
    refine j_iadd X dX7_isBefore_28 ?_
    refine j_iald X _ rfl (mw160 0 (by decide)) kt160 lt160 q1 dX7_isBefore_29 ?_
    refine j_aload_n X 0 dX7_isBefore_30 rfl rfl ?_
    refine jf_RX7_9 X  dX7_isBefore_31 ?_
    refine j_bipush (v := (48 : Int32)) X (by decide) dX7_isBefore_34 ?_
    refine j_iload_n X 2 dX7_isBefore_36 rfl rfl ?_
    refine j_iadd X dX7_isBefore_37 ?_
    refine j_iald X _ rfl (mw160 0 (by decide)) kt160 lt160 q2 dX7_isBefore_38 ?_
    refine j_icmp_ge X 46 dX7_isBefore_39 (by decide) (fun c5 => ?_) (fun c5 => ?_)
    · replace h := h.1 c5
      refine j_iconst (v := (0 : Int32)) X (by decide) dX7_isBefore_46 ?_
      refine j_goto X 60 dX7_isBefore_47 (by decide) ?_
      exact j_zret X Y dX7_isBefore_60 rfl h
    · replace h := h.2 c5
      refine j_iconst (v := (1 : Int32)) X (by decide) dX7_isBefore_42 ?_
      refine j_goto X 60 dX7_isBefore_43 (by decide) ?_
      exact j_zret X Y dX7_isBefore_60 rfl h
theorem jc_RX7_129 {G : GT} {E : ET} {cc : ByteArray} {nL pc : Nat} {rm : Room} {lv : List (Nat × Value)} {st : List Value} {M : Mm} (X : CX G E RX7 cc nL rm) (hR : 0 + 1 ≤ rm.frames ∧ 8 + (3 + 11) + 0 ≤ rm.locals) (hst : (st.map fun v => v.category).sum ≤ 8) (d : decode cc pc = .ok (.invokevirtual 129, 3)) {a1 : Int32} {a2 : Int32} {P : Int32 → Mm → Prop} (h : wp_X7_isBefore a1 a2 M P) (k1 : ∀ (r : Int32) (M2 : Mm), P r M2 → J G E nL (pc + 3) lv (.int r :: st) M2) : J G E nL pc lv (.int a2 :: .int a1 :: .ref (adr G 7 0) :: st) M := fun H locs ls hP hS hl => by
  have hK := X.2.2.2.2.2.1.1
  have hm := met_X7_isBefore (l := eL E) X.2.2.2.2.2.2.1 a1 a2 M P h
  have hR2 : 0 + 1 ≤ (eR E).frames ∧ 8 + (3 + 11) + 0 ≤ (eR E).locals := by rw [X.2.2.2.2.2.2.2.1]; exact hR
  have hC2 : eCells E + 0 ≤ (eR E).cells ∧ eSlots E + 0 ≤ (eR E).slots := by rw [X.2.2.2.2.2.2.2.1]; exact ⟨X.2.2.2.2.2.2.2.2.1, X.2.2.2.2.2.2.2.2.2⟩
  obtain ⟨q0, -, hq⟩ := wld_get (G := G) M (mw7 0 (by decide))
  exact va_calli (va_runV (C := RX7) (As := [.int a1, .int a2]) (rest := st) ⟨X.1, X.2.1, X.2.2.1, X.2.2.2.1, X.2.2.2.2.1⟩ hm (cwV (ws' := lw_aw) 2 X.2.2.2.2.1 (gwV (tw (i := 1073) (by decide +kernel)) (tw (i := 1075) (by decide +kernel)) (tw (i := 39) (by decide +kernel)) (tw (i := 78) (by decide +kernel)) (tw (i := 1076) (by decide +kernel))) rfl rfl rfl (by decide +kernel) hR2) ⟨hr_blind, va_recv hK hP (ci := 7) (q := (RX7, TX7, 15)) (fs := objF7 G 0 (M.1 7 0)) (q0 := q0) rfl hq, fun U hU hW => ⟨rfl, by rw [hU]; exact hP, KK.warm hW X.2.2.2.2.2.1⟩⟩ rfl rfl hl.1 rfl (lv_room hst) d hC2) hS (fun q _ h => h) (fun q h => h) (fun r u t H1 locs1 ht hvm hw hB hz1 hk1 hS1 => k1 r u hw H1 locs1 ls (by rw [← ht]; exact hB.1) hS1 hl)
/-- LayeredClaimsModel.positionOf(I)I -/
def wp_X7_positionOf (a1 : Int32) (M : Mm) (P : Int32 → Mm → Prop) : Prop := (∃ n, lq3 (fun self1 (x3 : Int32) (x4 : Int32) (M5 : Mm) => (((rd M5 160 0 2) ≤ x4 → P x3 M5) ∧ (¬ (rd M5 160 0 2) ≤ x4 → (jn (fun (v7 : Int32) (M8 : Mm) => (∀ x11 : Int32, x11 = (x3 + v7) → (∀ x12 : Int32, x12 = x4 + (1 : Int32) → self1 x11 x12 M8))) (fun J9 : Int32 → Mm → Prop => (jn (fun  (M13 : Mm) => J9 (0 : Int32) M13) (fun J14 : Mm → Prop => ((x4 = a1 → J14 M5) ∧ (¬ x4 = a1 → (wp_X7_isBefore x4 a1 M5 (fun (r18 : Int32) (M17 : Mm) => ((r18 = 0 → J14 M17) ∧ (¬ r18 = 0 → J9 (1 : Int32) M17))))))))))))) n (0 : Int32) (0 : Int32) M)
set_option maxHeartbeats 4000000 in
set_option maxRecDepth 100000 in
theorem met_X7_positionOf {l : Launch} {G : GT} (hG : GD G) (a1 : Int32) (M : Mm) (P : Int32 → Mm → Prop) (h : wp_X7_positionOf a1 M P) : MI l G yX7_positionOf cX7_positionOf 4 (some .int) ({ frames := 1, cells := 0, slots := 0, locals := 22 } : Room) [.ref (adr G 7 0), .int a1] M P := by
  refine met_by hG (own := RX7) rfl (by decide +kernel) (Nat.le_of_ble_eq_true rfl) (fun E hE X Y => ?_)
  show J G E 4 0 [(0, .ref (adr G 7 0)), (1, .int a1)] [] M
  unfold wp_X7_positionOf at h
  refine j_iconst (v := (0 : Int32)) X (by decide) dX7_positionOf_0 ?_
  refine j_istore_n X [(2, .int (0 : Int32)), (0, .ref (adr G 7 0)), (1, .int a1)] dX7_positionOf_1 rfl (by decide) rfl ?_
  refine j_iconst (v := (0 : Int32)) X (by decide) dX7_positionOf_2 ?_
  refine j_istore_n X [(3, .int (0 : Int32)), (2, .int (0 : Int32)), (0, .ref (adr G 7 0)), (1, .int a1)] dX7_positionOf_3 rfl (by decide) rfl ?_
  refine j_sub [2, 3, 1, 0] rfl ?_
  refine lq3_s h (fun (x3 : Int32) (x4 : Int32) (M5 : Mm) => J G E 4 4 [(0, .ref (adr G 7 0)), (1, .int a1), (2, .int x3), (3, .int x4)] [] M5) (fun self1 ih2 x3 x4 M5 h => ?_) id
  refine j_iload_n X 3 dX7_positionOf_4 rfl rfl ?_
  refine j_aload_n X 0 dX7_positionOf_5 rfl rfl ?_
  refine jf_RX7_9 X  dX7_positionOf_6 ?_
  refine j_iconst (v := (2 : Int32)) X (by decide) dX7_positionOf_9 ?_
  refine j_iald X 2 (by decide) (mw160 0 (by decide)) kt160 lt160 (vpc (by decide)) dX7_positionOf_10 ?_
  refine j_icmp_ge X 42 dX7_positionOf_11 (by decide) (fun c6 => ?_) (fun c6 => ?_)
  · replace h := h.1 c6
    refine j_iload_n X 2 dX7_positionOf_42 rfl rfl ?_
    exact j_iret X Y dX7_positionOf_43 h
  · replace h := h.2 c6
    refine j_iload_n X 2 dX7_positionOf_14 rfl rfl ?_
    refine j_iload_n X 3 dX7_positionOf_15 rfl rfl ?_
    refine j_iload_n X 1 dX7_positionOf_16 rfl rfl ?_
    refine jn2_s h (fun (v7 : Int32) (M8 : Mm) => J G E 4 34 [(0, .ref (adr G 7 0)), (1, .int a1), (3, .int x4)] [.int v7, .int x3] M8) (fun v7 M8 h => ?_) (fun J9 hj10 h => ?_)
    · refine j_iadd X dX7_positionOf_34 ?_
      refine j_topi (fun x11 ex11 => ?_)
      replace h := h x11 ex11
      refine j_istore_n X [(2, .int x11), (0, .ref (adr G 7 0)), (1, .int a1), (3, .int x4)] dX7_positionOf_35 rfl (by decide) rfl ?_
      obtain ⟨x12, ex12⟩ : ∃ z : Int32, z = x4 + (1 : Int32) := ⟨_, rfl⟩
      replace h := h x12 ex12
      refine j_iinc (v := x12) X 3 [(3, .int x12), (2, .int x11), (0, .ref (adr G 7 0)), (1, .int a1)] dX7_positionOf_36 rfl (by rw [ex12]; rfl) (by decide) rfl ?_
      refine j_goto X 4 dX7_positionOf_39 (by decide) ?_
      refine j_sub [2, 3, 1, 0] rfl ?_
      exact ih2 x11 x12 M8 h
    · refine jn1_s h (fun  (M13 : Mm) => J G E 4 33 [(0, .ref (adr G 7 0)), (1, .int a1), (3, .int x4)] [.int x3] M13) (fun M13 h => ?_) (fun J14 hj15 h => ?_)
      · refine j_iconst (v := (0 : Int32)) X (by decide) dX7_positionOf_33 ?_
        refine j_sub [0, 1, 2] rfl ?_
        exact hj10 (0 : Int32) M13 h
      · refine j_icmp_eq X 33 dX7_positionOf_17 (by decide) (fun c16 => ?_) (fun c16 => ?_)
        · replace h := h.1 c16
          refine j_sub [0, 1, 3] rfl ?_
          exact hj15 M5 h
        · replace h := h.2 c16
          refine j_aload_n X 0 dX7_positionOf_20 rfl rfl ?_
          refine j_iload_n X 3 dX7_positionOf_21 rfl rfl ?_
          refine j_iload_n X 1 dX7_positionOf_22 rfl rfl ?_
          refine jc_RX7_129 X ⟨Nat.le_of_ble_eq_true rfl, Nat.le_of_ble_eq_true rfl⟩ (Nat.le_of_ble_eq_true rfl) dX7_positionOf_23 h (fun r18 M17 h => ?_)
          refine j_if_eq X 33 dX7_positionOf_26 (by decide) (fun c19 => ?_) (fun c19 => ?_)
          · replace h := h.1 c19
            refine j_sub [0, 1, 3] rfl ?_
            exact hj15 M17 h
          · replace h := h.2 c19
            refine j_iconst (v := (1 : Int32)) X (by decide) dX7_positionOf_29 ?_
            refine j_goto X 34 dX7_positionOf_30 (by decide) ?_
            refine j_sub [0, 1, 3] rfl ?_
            exact hj10 (1 : Int32) M17 h
theorem jc_RX7_133 {G : GT} {E : ET} {cc : ByteArray} {nL pc : Nat} {rm : Room} {lv : List (Nat × Value)} {st : List Value} {M : Mm} (X : CX G E RX7 cc nL rm) (hR : 1 + 1 ≤ rm.frames ∧ 8 + (4 + 11) + 22 ≤ rm.locals) (hst : (st.map fun v => v.category).sum ≤ 8) (d : decode cc pc = .ok (.invokevirtual 133, 3)) {a1 : Int32} {P : Int32 → Mm → Prop} (h : wp_X7_positionOf a1 M P) (k1 : ∀ (r : Int32) (M2 : Mm), P r M2 → J G E nL (pc + 3) lv (.int r :: st) M2) : J G E nL pc lv (.int a1 :: .ref (adr G 7 0) :: st) M := fun H locs ls hP hS hl => by
  have hK := X.2.2.2.2.2.1.1
  have hm := met_X7_positionOf (l := eL E) X.2.2.2.2.2.2.1 a1 M P h
  have hR2 : 1 + 1 ≤ (eR E).frames ∧ 8 + (4 + 11) + 22 ≤ (eR E).locals := by rw [X.2.2.2.2.2.2.2.1]; exact hR
  have hC2 : eCells E + 0 ≤ (eR E).cells ∧ eSlots E + 0 ≤ (eR E).slots := by rw [X.2.2.2.2.2.2.2.1]; exact ⟨X.2.2.2.2.2.2.2.2.1, X.2.2.2.2.2.2.2.2.2⟩
  obtain ⟨q0, -, hq⟩ := wld_get (G := G) M (mw7 0 (by decide))
  exact va_calli (va_runV (C := RX7) (As := [.int a1]) (rest := st) ⟨X.1, X.2.1, X.2.2.1, X.2.2.2.1, X.2.2.2.2.1⟩ hm (cwV (ws' := lw_aw) 1 X.2.2.2.2.1 (gwV (tw (i := 1069) (by decide +kernel)) (tw (i := 1071) (by decide +kernel)) (tw (i := 38) (by decide +kernel)) (tw (i := 78) (by decide +kernel)) (tw (i := 1072) (by decide +kernel))) rfl rfl rfl (by decide +kernel) hR2) ⟨hr_blind, va_recv hK hP (ci := 7) (q := (RX7, TX7, 15)) (fs := objF7 G 0 (M.1 7 0)) (q0 := q0) rfl hq, fun U hU hW => ⟨rfl, by rw [hU]; exact hP, KK.warm hW X.2.2.2.2.2.1⟩⟩ rfl rfl hl.1 rfl (lv_room hst) d hC2) hS (fun q _ h => h) (fun q h => h) (fun r u t H1 locs1 ht hvm hw hB hz1 hk1 hS1 => k1 r u hw H1 locs1 ls (by rw [← ht]; exact hB.1) hS1 hl)
/-- LayeredClaimsModel.eventOn(I)I -/
def wp_X7_eventOn (a1 : Int32) (M : Mm) (P : Int32 → Mm → Prop) : Prop := (∃ n, lq2 (fun self1 (x3 : Int32) (M4 : Mm) => (((rd M4 160 0 2) ≤ x3 → P (-1 : Int32) M4) ∧ (¬ (rd M4 160 0 2) ≤ x3 → (wp_X7_positionOf x3 M4 (fun (r7 : Int32) (M6 : Mm) => ((¬ r7 = a1 → (∀ x9 : Int32, x9 = x3 + (1 : Int32) → self1 x9 M6)) ∧ (r7 = a1 → P x3 M6))))))) n (0 : Int32) M)
set_option maxHeartbeats 4000000 in
set_option maxRecDepth 100000 in
theorem met_X7_eventOn {l : Launch} {G : GT} (hG : GD G) (a1 : Int32) (M : Mm) (P : Int32 → Mm → Prop) (h : wp_X7_eventOn a1 M P) : MI l G yX7_eventOn cX7_eventOn 3 (some .int) ({ frames := 2, cells := 0, slots := 0, locals := 45 } : Room) [.ref (adr G 7 0), .int a1] M P := by
  refine met_by hG (own := RX7) rfl (by decide +kernel) (Nat.le_of_ble_eq_true rfl) (fun E hE X Y => ?_)
  show J G E 3 0 [(0, .ref (adr G 7 0)), (1, .int a1)] [] M
  unfold wp_X7_eventOn at h
  refine j_iconst (v := (0 : Int32)) X (by decide) dX7_eventOn_0 ?_
  refine j_istore_n X [(2, .int (0 : Int32)), (0, .ref (adr G 7 0)), (1, .int a1)] dX7_eventOn_1 rfl (by decide) rfl ?_
  refine j_sub [1, 2, 0] rfl ?_
  refine lq2_s h (fun (x3 : Int32) (M4 : Mm) => J G E 3 2 [(0, .ref (adr G 7 0)), (1, .int a1), (2, .int x3)] [] M4) (fun self1 ih2 x3 M4 h => ?_) id
  refine j_iload_n X 2 dX7_eventOn_2 rfl rfl ?_
  refine j_aload_n X 0 dX7_eventOn_3 rfl rfl ?_
  refine jf_RX7_9 X  dX7_eventOn_4 ?_
  refine j_iconst (v := (2 : Int32)) X (by decide) dX7_eventOn_7 ?_
  refine j_iald X 2 (by decide) (mw160 0 (by decide)) kt160 lt160 (vpc (by decide)) dX7_eventOn_8 ?_
  refine j_icmp_ge X 29 dX7_eventOn_9 (by decide) (fun c5 => ?_) (fun c5 => ?_)
  · replace h := h.1 c5
    refine j_iconst (v := (-1 : Int32)) X (by decide) dX7_eventOn_29 ?_
    exact j_iret X Y dX7_eventOn_30 h
  · replace h := h.2 c5
    refine j_aload_n X 0 dX7_eventOn_12 rfl rfl ?_
    refine j_iload_n X 2 dX7_eventOn_13 rfl rfl ?_
    refine jc_RX7_133 X ⟨Nat.le_of_ble_eq_true rfl, Nat.le_of_ble_eq_true rfl⟩ (Nat.le_of_ble_eq_true rfl) dX7_eventOn_14 h (fun r7 M6 h => ?_)
    refine j_iload_n X 1 dX7_eventOn_17 rfl rfl ?_
    refine j_icmp_ne X 23 dX7_eventOn_18 (by decide) (fun c8 => ?_) (fun c8 => ?_)
    · replace h := h.1 c8
      obtain ⟨x9, ex9⟩ : ∃ z : Int32, z = x3 + (1 : Int32) := ⟨_, rfl⟩
      replace h := h x9 ex9
      refine j_iinc (v := x9) X 2 [(2, .int x9), (0, .ref (adr G 7 0)), (1, .int a1)] dX7_eventOn_23 rfl (by rw [ex9]; rfl) (by decide) rfl ?_
      refine j_goto X 2 dX7_eventOn_26 (by decide) ?_
      refine j_sub [1, 2, 0] rfl ?_
      exact ih2 x9 M6 h
    · replace h := h.2 c8
      refine j_iload_n X 2 dX7_eventOn_21 rfl rfl ?_
      exact j_iret X Y dX7_eventOn_22 h
theorem jc_RX7_160 {G : GT} {E : ET} {cc : ByteArray} {nL pc : Nat} {rm : Room} {lv : List (Nat × Value)} {st : List Value} {M : Mm} (X : CX G E RX7 cc nL rm) (hR : 2 + 1 ≤ rm.frames ∧ 8 + (3 + 11) + 45 ≤ rm.locals) (hst : (st.map fun v => v.category).sum ≤ 8) (d : decode cc pc = .ok (.invokevirtual 160, 3)) {a1 : Int32} {P : Int32 → Mm → Prop} (h : wp_X7_eventOn a1 M P) (k1 : ∀ (r : Int32) (M2 : Mm), P r M2 → J G E nL (pc + 3) lv (.int r :: st) M2) : J G E nL pc lv (.int a1 :: .ref (adr G 7 0) :: st) M := fun H locs ls hP hS hl => by
  have hK := X.2.2.2.2.2.1.1
  have hm := met_X7_eventOn (l := eL E) X.2.2.2.2.2.2.1 a1 M P h
  have hR2 : 2 + 1 ≤ (eR E).frames ∧ 8 + (3 + 11) + 45 ≤ (eR E).locals := by rw [X.2.2.2.2.2.2.2.1]; exact hR
  have hC2 : eCells E + 0 ≤ (eR E).cells ∧ eSlots E + 0 ≤ (eR E).slots := by rw [X.2.2.2.2.2.2.2.1]; exact ⟨X.2.2.2.2.2.2.2.2.1, X.2.2.2.2.2.2.2.2.2⟩
  obtain ⟨q0, -, hq⟩ := wld_get (G := G) M (mw7 0 (by decide))
  exact va_calli (va_runV (C := RX7) (As := [.int a1]) (rest := st) ⟨X.1, X.2.1, X.2.2.1, X.2.2.2.1, X.2.2.2.2.1⟩ hm (cwV (ws' := lw_aw) 1 X.2.2.2.2.1 (gwV (tw (i := 1065) (by decide +kernel)) (tw (i := 1067) (by decide +kernel)) (tw (i := 37) (by decide +kernel)) (tw (i := 78) (by decide +kernel)) (tw (i := 1068) (by decide +kernel))) rfl rfl rfl (by decide +kernel) hR2) ⟨hr_blind, va_recv hK hP (ci := 7) (q := (RX7, TX7, 15)) (fs := objF7 G 0 (M.1 7 0)) (q0 := q0) rfl hq, fun U hU hW => ⟨rfl, by rw [hU]; exact hP, KK.warm hW X.2.2.2.2.2.1⟩⟩ rfl rfl hl.1 rfl (lv_room hst) d hC2) hS (fun q _ h => h) (fun q h => h) (fun r u t H1 locs1 ht hvm hw hB hz1 hk1 hS1 => k1 r u hw H1 locs1 ls (by rw [← ht]; exact hB.1) hS1 hl)
/-- LayeredClaimsModel.lossOf(I)I -/
def wp_X7_lossOf (a1 : Int32) (M : Mm) (P : Int32 → Mm → Prop) : Prop := (vp_in ((64 : Int32) + ((3 : Int32) * a1)) 136 ∧ (∀ x2 : Int32, x2 = (rd M 160 0 ((64 : Int32) + ((3 : Int32) * a1)).toNatClampNeg) → (vp_in ((48 : Int32) + x2) 136 ∧ (vf_n32 (FP.fdiv (FP.i2f (((rd M 160 0 4) * (rd M 160 0 ((48 : Int32) + x2).toNatClampNeg)) / (30 : Int32))) (1148846080 : UInt32)) ∧ (vf_n32 (FP.fadd FP.fconst1 (FP.fdiv (FP.i2f (((rd M 160 0 4) * (rd M 160 0 ((48 : Int32) + x2).toNatClampNeg)) / (30 : Int32))) (1148846080 : UInt32))) ∧ (∀ x6 : UInt32, x6 = (FP.fadd FP.fconst1 (FP.fdiv (FP.i2f (((rd M 160 0 4) * (rd M 160 0 ((48 : Int32) + x2).toNatClampNeg)) / (30 : Int32))) (1148846080 : UInt32))) → (vp_in (((64 : Int32) + ((3 : Int32) * a1)) + (2 : Int32)) 136 ∧ (vf_n32 (FP.fmul (FP.i2f (rd M 160 0 (((64 : Int32) + ((3 : Int32) * a1)) + (2 : Int32)).toNatClampNeg)) x6) ∧ P (FP.f2i (FP.fmul (FP.i2f (rd M 160 0 (((64 : Int32) + ((3 : Int32) * a1)) + (2 : Int32)).toNatClampNeg)) x6)) M))))))))
set_option maxHeartbeats 4000000 in
set_option maxRecDepth 100000 in
theorem met_X7_lossOf {l : Launch} {G : GT} (hG : GD G) (a1 : Int32) (M : Mm) (P : Int32 → Mm → Prop) (h : wp_X7_lossOf a1 M P) : MI l G yX7_lossOf cX7_lossOf 4 (some .int) ({ frames := 0, cells := 0, slots := 0, locals := 0 } : Room) [.ref (adr G 7 0), .int a1] M P := by
  refine met_by hG (own := RX7) rfl (by decide +kernel) (Nat.le_of_ble_eq_true rfl) (fun E hE X Y => ?_)
  show J G E 4 0 [(0, .ref (adr G 7 0)), (1, .int a1)] [] M
  unfold wp_X7_lossOf at h
  refine j_aload_n X 0 dX7_lossOf_0 rfl rfl ?_
  refine jf_RX7_9 X  dX7_lossOf_1 ?_
  refine j_bipush (v := (64 : Int32)) X (by decide) dX7_lossOf_4 ?_
  refine j_iconst (v := (3 : Int32)) X (by decide) dX7_lossOf_6 ?_
  refine j_iload_n X 1 dX7_lossOf_7 rfl rfl ?_
  refine j_imul X dX7_lossOf_8 ?_
  refine j_iadd X dX7_lossOf_9 ?_
  have q1 := h.1
  replace h := h.2
  refine j_iald X _ rfl (mw160 0 (by decide)) kt160 lt160 q1 dX7_lossOf_10 ?_
  refine j_topi (fun x2 ex2 => ?_)
  replace h := h x2 ex2
  refine j_istore_n X [(2, .int x2), (0, .ref (adr G 7 0)), (1, .int a1)] dX7_lossOf_11 rfl (by decide) rfl ?_
  refine j_fconst1 X dX7_lossOf_12 ?_
  refine j_aload_n X 1 dX7_lossOf_13 rfl rfl ?_
  refine jf_RX7_9 X  dX7_lossOf_14 ?_
  refine j_iconst (v := (4 : Int32)) X (by decide) dX7_lossOf_17 ?_
  refine j_iald X 4 (by decide) (mw160 0 (by decide)) kt160 lt160 (vpc (by decide)) dX7_lossOf_18 ?_
  refine j_aload_n X 1 dX7_lossOf_19 rfl rfl ?_
  refine jf_RX7_9 X  dX7_lossOf_20 ?_
  refine j_bipush (v := (48 : Int32)) X (by decide) dX7_lossOf_23 ?_
  refine j_iload_n X 0 dX7_lossOf_25 rfl rfl ?_
  refine j_iadd X dX7_lossOf_26 ?_
  have q3 := h.1
  replace h := h.2
  refine j_iald X _ rfl (mw160 0 (by decide)) kt160 lt160 q3 dX7_lossOf_27 ?_
  refine j_imul X dX7_lossOf_28 ?_
  refine j_bipush (v := (30 : Int32)) X (by decide) dX7_lossOf_29 ?_
  refine j_idiv X (by decide) dX7_lossOf_31 ?_
  refine j_i2f X dX7_lossOf_32 ?_
  refine j_ldcf (v := (1148846080 : UInt32)) X (tw (i := 1097) (by decide +kernel)) dX7_lossOf_33 ?_
  have q4 := h.1
  replace h := h.2
  refine j_fdiv X q4 dX7_lossOf_35 ?_
  have q5 := h.1
  replace h := h.2
  refine j_fadd X q5 dX7_lossOf_36 ?_
  refine j_topf (fun x6 ex6 => ?_)
  replace h := h x6 ex6
  refine j_fstore_n X [(3, .float x6), (2, .int x2), (0, .ref (adr G 7 0)), (1, .int a1)] dX7_lossOf_37 rfl (by decide) rfl ?_
  refine j_aload_n X 2 dX7_lossOf_38 rfl rfl ?_
  refine jf_RX7_9 X  dX7_lossOf_39 ?_
  refine j_bipush (v := (64 : Int32)) X (by decide) dX7_lossOf_42 ?_
  refine j_iconst (v := (3 : Int32)) X (by decide) dX7_lossOf_44 ?_
  refine j_iload_n X 3 dX7_lossOf_45 rfl rfl ?_
  refine j_imul X dX7_lossOf_46 ?_
  refine j_iadd X dX7_lossOf_47 ?_
  refine j_iconst (v := (2 : Int32)) X (by decide) dX7_lossOf_48 ?_
  refine j_iadd X dX7_lossOf_49 ?_
  have q7 := h.1
  replace h := h.2
  refine j_iald X _ rfl (mw160 0 (by decide)) kt160 lt160 q7 dX7_lossOf_50 ?_
  refine j_i2f X dX7_lossOf_51 ?_
  refine j_fload_n X 0 dX7_lossOf_52 rfl rfl ?_
  have q8 := h.1
  replace h := h.2
  refine j_fmul X q8 dX7_lossOf_53 ?_
  refine j_f2i X dX7_lossOf_54 ?_
  exact j_iret X Y dX7_lossOf_55 h
theorem jc_RX7_140 {G : GT} {E : ET} {cc : ByteArray} {nL pc : Nat} {rm : Room} {lv : List (Nat × Value)} {st : List Value} {M : Mm} (X : CX G E RX7 cc nL rm) (hR : 0 + 1 ≤ rm.frames ∧ 8 + (4 + 11) + 0 ≤ rm.locals) (hst : (st.map fun v => v.category).sum ≤ 8) (d : decode cc pc = .ok (.invokevirtual 140, 3)) {a1 : Int32} {P : Int32 → Mm → Prop} (h : wp_X7_lossOf a1 M P) (k1 : ∀ (r : Int32) (M2 : Mm), P r M2 → J G E nL (pc + 3) lv (.int r :: st) M2) : J G E nL pc lv (.int a1 :: .ref (adr G 7 0) :: st) M := fun H locs ls hP hS hl => by
  have hK := X.2.2.2.2.2.1.1
  have hm := met_X7_lossOf (l := eL E) X.2.2.2.2.2.2.1 a1 M P h
  have hR2 : 0 + 1 ≤ (eR E).frames ∧ 8 + (4 + 11) + 0 ≤ (eR E).locals := by rw [X.2.2.2.2.2.2.2.1]; exact hR
  have hC2 : eCells E + 0 ≤ (eR E).cells ∧ eSlots E + 0 ≤ (eR E).slots := by rw [X.2.2.2.2.2.2.2.1]; exact ⟨X.2.2.2.2.2.2.2.2.1, X.2.2.2.2.2.2.2.2.2⟩
  obtain ⟨q0, -, hq⟩ := wld_get (G := G) M (mw7 0 (by decide))
  exact va_calli (va_runV (C := RX7) (As := [.int a1]) (rest := st) ⟨X.1, X.2.1, X.2.2.1, X.2.2.2.1, X.2.2.2.2.1⟩ hm (cwV (ws' := lw_aw) 1 X.2.2.2.2.1 (gwV (tw (i := 1093) (by decide +kernel)) (tw (i := 1095) (by decide +kernel)) (tw (i := 44) (by decide +kernel)) (tw (i := 78) (by decide +kernel)) (tw (i := 1096) (by decide +kernel))) rfl rfl rfl (by decide +kernel) hR2) ⟨hr_blind, va_recv hK hP (ci := 7) (q := (RX7, TX7, 15)) (fs := objF7 G 0 (M.1 7 0)) (q0 := q0) rfl hq, fun U hU hW => ⟨rfl, by rw [hU]; exact hP, KK.warm hW X.2.2.2.2.2.1⟩⟩ rfl rfl hl.1 rfl (lv_room hst) d hC2) hS (fun q _ h => h) (fun q h => h) (fun r u t H1 locs1 ht hvm hw hB hz1 hk1 hS1 => k1 r u hw H1 locs1 ls (by rw [← ht]; exact hB.1) hS1 hl)
/-- LayeredClaimsModel.isOf(III)Z -/
def wp_X7_isOf (a1 : Int32) (a2 : Int32) (a3 : Int32) (M : Mm) (P : Int32 → Mm → Prop) : Prop := (vp_in ((64 : Int32) + ((3 : Int32) * a1)) 136 ∧ ((¬ (rd M 160 0 ((64 : Int32) + ((3 : Int32) * a1)).toNatClampNeg) = a2 → P (0 : Int32) M) ∧ ((rd M 160 0 ((64 : Int32) + ((3 : Int32) * a1)).toNatClampNeg) = a2 → (vp_in (((64 : Int32) + ((3 : Int32) * a1)) + (1 : Int32)) 136 ∧ ((¬ (rd M 160 0 (((64 : Int32) + ((3 : Int32) * a1)) + (1 : Int32)).toNatClampNeg) = a3 → P (0 : Int32) M) ∧ ((rd M 160 0 (((64 : Int32) + ((3 : Int32) * a1)) + (1 : Int32)).toNatClampNeg) = a3 → P (1 : Int32) M))))))
set_option maxHeartbeats 4000000 in
set_option maxRecDepth 100000 in
theorem met_X7_isOf {l : Launch} {G : GT} (hG : GD G) (a1 : Int32) (a2 : Int32) (a3 : Int32) (M : Mm) (P : Int32 → Mm → Prop) (h : wp_X7_isOf a1 a2 a3 M P) : MI l G yX7_isOf cX7_isOf 4 (some .boolean) ({ frames := 0, cells := 0, slots := 0, locals := 0 } : Room) [.ref (adr G 7 0), .int a1, .int a2, .int a3] M P := by
  refine met_by hG (own := RX7) rfl (by decide +kernel) (Nat.le_of_ble_eq_true rfl) (fun E hE X Y => ?_)
  show J G E 4 0 [(0, .ref (adr G 7 0)), (1, .int a1), (2, .int a2), (3, .int a3)] [] M
  unfold wp_X7_isOf at h
  refine j_aload_n X 0 dX7_isOf_0 rfl rfl ?_
  refine jf_RX7_9 X  dX7_isOf_1 ?_
  refine j_bipush (v := (64 : Int32)) X (by decide) dX7_isOf_4 ?_
  refine j_iconst (v := (3 : Int32)) X (by decide) dX7_isOf_6 ?_
  refine j_iload_n X 1 dX7_isOf_7 rfl rfl ?_
  refine j_imul X dX7_isOf_8 ?_
  refine j_iadd X dX7_isOf_9 ?_
  have q1 := h.1
  replace h := h.2
  refine j_iald X _ rfl (mw160 0 (by decide)) kt160 lt160 q1 dX7_isOf_10 ?_
  refine j_iload_n X 2 dX7_isOf_11 rfl rfl ?_
  refine j_icmp_ne X 36 dX7_isOf_12 (by decide) (fun c2 => ?_) (fun c2 => ?_)
  · replace h := h.1 c2
    refine j_iconst (v := (0 : Int32)) X (by decide) dX7_isOf_36 ?_
    exact j_zret X Y dX7_isOf_37 rfl h
  · replace h := h.2 c2
    refine j_aload_n X 0 dX7_isOf_15 rfl rfl ?_
    refine jf_RX7_9 X  dX7_isOf_16 ?_
    refine j_bipush (v := (64 : Int32)) X (by decide) dX7_isOf_19 ?_
    refine j_iconst (v := (3 : Int32)) X (by decide) dX7_isOf_21 ?_
    refine j_iload_n X 1 dX7_isOf_22 rfl rfl ?_
    refine j_imul X dX7_isOf_23 ?_
    refine j_iadd X dX7_isOf_24 ?_
    refine j_iconst (v := (1 : Int32)) X (by decide) dX7_isOf_25 ?_
    refine j_iadd X dX7_isOf_26 ?_
    have q3 := h.1
    replace h := h.2
    refine j_iald X _ rfl (mw160 0 (by decide)) kt160 lt160 q3 dX7_isOf_27 ?_
    refine j_iload_n X 3 dX7_isOf_28 rfl rfl ?_
    refine j_icmp_ne X 36 dX7_isOf_29 (by decide) (fun c4 => ?_) (fun c4 => ?_)
    · replace h := h.1 c4
      refine j_iconst (v := (0 : Int32)) X (by decide) dX7_isOf_36 ?_
      exact j_zret X Y dX7_isOf_37 rfl h
    · replace h := h.2 c4
      refine j_iconst (v := (1 : Int32)) X (by decide) dX7_isOf_32 ?_
      refine j_goto X 37 dX7_isOf_33 (by decide) ?_
      exact j_zret X Y dX7_isOf_37 rfl h
theorem jc_RX7_137 {G : GT} {E : ET} {cc : ByteArray} {nL pc : Nat} {rm : Room} {lv : List (Nat × Value)} {st : List Value} {M : Mm} (X : CX G E RX7 cc nL rm) (hR : 0 + 1 ≤ rm.frames ∧ 8 + (4 + 11) + 0 ≤ rm.locals) (hst : (st.map fun v => v.category).sum ≤ 8) (d : decode cc pc = .ok (.invokevirtual 137, 3)) {a1 : Int32} {a2 : Int32} {a3 : Int32} {P : Int32 → Mm → Prop} (h : wp_X7_isOf a1 a2 a3 M P) (k1 : ∀ (r : Int32) (M2 : Mm), P r M2 → J G E nL (pc + 3) lv (.int r :: st) M2) : J G E nL pc lv (.int a3 :: .int a2 :: .int a1 :: .ref (adr G 7 0) :: st) M := fun H locs ls hP hS hl => by
  have hK := X.2.2.2.2.2.1.1
  have hm := met_X7_isOf (l := eL E) X.2.2.2.2.2.2.1 a1 a2 a3 M P h
  have hR2 : 0 + 1 ≤ (eR E).frames ∧ 8 + (4 + 11) + 0 ≤ (eR E).locals := by rw [X.2.2.2.2.2.2.2.1]; exact hR
  have hC2 : eCells E + 0 ≤ (eR E).cells ∧ eSlots E + 0 ≤ (eR E).slots := by rw [X.2.2.2.2.2.2.2.1]; exact ⟨X.2.2.2.2.2.2.2.2.1, X.2.2.2.2.2.2.2.2.2⟩
  obtain ⟨q0, -, hq⟩ := wld_get (G := G) M (mw7 0 (by decide))
  exact va_calli (va_runV (C := RX7) (As := [.int a1, .int a2, .int a3]) (rest := st) ⟨X.1, X.2.1, X.2.2.1, X.2.2.2.1, X.2.2.2.2.1⟩ hm (cwV (ws' := lw_aw) 3 X.2.2.2.2.1 (gwV (tw (i := 1089) (by decide +kernel)) (tw (i := 1091) (by decide +kernel)) (tw (i := 43) (by decide +kernel)) (tw (i := 78) (by decide +kernel)) (tw (i := 1092) (by decide +kernel))) rfl rfl rfl (by decide +kernel) hR2) ⟨hr_blind, va_recv hK hP (ci := 7) (q := (RX7, TX7, 15)) (fs := objF7 G 0 (M.1 7 0)) (q0 := q0) rfl hq, fun U hU hW => ⟨rfl, by rw [hU]; exact hP, KK.warm hW X.2.2.2.2.2.1⟩⟩ rfl rfl hl.1 rfl (lv_room hst) d hC2) hS (fun q _ h => h) (fun q h => h) (fun r u t H1 locs1 ht hvm hw hB hz1 hk1 hS1 => k1 r u hw H1 locs1 ls (by rw [← ht]; exact hB.1) hS1 hl)
/-- LayeredClaimsModel.lossesOf(II)I -/
def wp_X7_lossesOf (a1 : Int32) (a2 : Int32) (M : Mm) (P : Int32 → Mm → Prop) : Prop := (∃ n, lq3 (fun self1 (x3 : Int32) (x4 : Int32) (M5 : Mm) => (((rd M5 160 0 3) ≤ x4 → P x3 M5) ∧ (¬ (rd M5 160 0 3) ≤ x4 → (wp_X7_isOf x4 a1 a2 M5 (fun (r8 : Int32) (M7 : Mm) => (jn (fun (v9 : Int32) (M10 : Mm) => (∀ x13 : Int32, x13 = (x3 + v9) → (∀ x14 : Int32, x14 = x4 + (1 : Int32) → self1 x13 x14 M10))) (fun J11 : Int32 → Mm → Prop => ((r8 = 0 → J11 (0 : Int32) M7) ∧ (¬ r8 = 0 → (wp_X7_lossOf x4 M7 (fun (r17 : Int32) (M16 : Mm) => J11 r17 M16))))))))))) n (0 : Int32) (0 : Int32) M)
set_option maxHeartbeats 4000000 in
set_option maxRecDepth 100000 in
theorem met_X7_lossesOf {l : Launch} {G : GT} (hG : GD G) (a1 : Int32) (a2 : Int32) (M : Mm) (P : Int32 → Mm → Prop) (h : wp_X7_lossesOf a1 a2 M P) : MI l G yX7_lossesOf cX7_lossesOf 5 (some .int) ({ frames := 1, cells := 0, slots := 0, locals := 23 } : Room) [.ref (adr G 7 0), .int a1, .int a2] M P := by
  refine met_by hG (own := RX7) rfl (by decide +kernel) (Nat.le_of_ble_eq_true rfl) (fun E hE X Y => ?_)
  show J G E 5 0 [(0, .ref (adr G 7 0)), (1, .int a1), (2, .int a2)] [] M
  unfold wp_X7_lossesOf at h
  refine j_iconst (v := (0 : Int32)) X (by decide) dX7_lossesOf_0 ?_
  refine j_istore_n X [(3, .int (0 : Int32)), (0, .ref (adr G 7 0)), (1, .int a1), (2, .int a2)] dX7_lossesOf_1 rfl (by decide) rfl ?_
  refine j_iconst (v := (0 : Int32)) X (by decide) dX7_lossesOf_2 ?_
  refine j_istore X [(4, .int (0 : Int32)), (3, .int (0 : Int32)), (0, .ref (adr G 7 0)), (1, .int a1), (2, .int a2)] dX7_lossesOf_3 (by decide) rfl ?_
  refine j_sub [2, 3, 4, 1, 0] rfl ?_
  refine lq3_s h (fun (x3 : Int32) (x4 : Int32) (M5 : Mm) => J G E 5 5 [(0, .ref (adr G 7 0)), (1, .int a1), (2, .int a2), (3, .int x3), (4, .int x4)] [] M5) (fun self1 ih2 x3 x4 M5 h => ?_) id
  refine j_iload X 4 dX7_lossesOf_5 rfl ?_
  refine j_aload_n X 0 dX7_lossesOf_7 rfl rfl ?_
  refine jf_RX7_9 X  dX7_lossesOf_8 ?_
  refine j_iconst (v := (3 : Int32)) X (by decide) dX7_lossesOf_11 ?_
  refine j_iald X 3 (by decide) (mw160 0 (by decide)) kt160 lt160 (vpc (by decide)) dX7_lossesOf_12 ?_
  refine j_icmp_ge X 46 dX7_lossesOf_13 (by decide) (fun c6 => ?_) (fun c6 => ?_)
  · replace h := h.1 c6
    refine j_iload_n X 3 dX7_lossesOf_46 rfl rfl ?_
    exact j_iret X Y dX7_lossesOf_47 h
  · replace h := h.2 c6
    refine j_iload_n X 3 dX7_lossesOf_16 rfl rfl ?_
    refine j_aload_n X 0 dX7_lossesOf_17 rfl rfl ?_
    refine j_iload X 4 dX7_lossesOf_18 rfl ?_
    refine j_iload_n X 1 dX7_lossesOf_20 rfl rfl ?_
    refine j_iload_n X 2 dX7_lossesOf_21 rfl rfl ?_
    refine jc_RX7_137 X ⟨Nat.le_of_ble_eq_true rfl, Nat.le_of_ble_eq_true rfl⟩ (Nat.le_of_ble_eq_true rfl) dX7_lossesOf_22 h (fun r8 M7 h => ?_)
    refine jn2_s h (fun (v9 : Int32) (M10 : Mm) => J G E 5 38 [(0, .ref (adr G 7 0)), (1, .int a1), (2, .int a2), (4, .int x4)] [.int v9, .int x3] M10) (fun v9 M10 h => ?_) (fun J11 hj12 h => ?_)
    · refine j_iadd X dX7_lossesOf_38 ?_
      refine j_topi (fun x13 ex13 => ?_)
      replace h := h x13 ex13
      refine j_istore_n X [(3, .int x13), (0, .ref (adr G 7 0)), (1, .int a1), (2, .int a2), (4, .int x4)] dX7_lossesOf_39 rfl (by decide) rfl ?_
      obtain ⟨x14, ex14⟩ : ∃ z : Int32, z = x4 + (1 : Int32) := ⟨_, rfl⟩
      replace h := h x14 ex14
      refine j_iinc (v := x14) X 4 [(4, .int x14), (3, .int x13), (0, .ref (adr G 7 0)), (1, .int a1), (2, .int a2)] dX7_lossesOf_40 rfl (by rw [ex14]; rfl) (by decide) rfl ?_
      refine j_goto X 5 dX7_lossesOf_43 (by decide) ?_
      refine j_sub [2, 3, 4, 1, 0] rfl ?_
      exact ih2 x13 x14 M10 h
    · refine j_if_eq X 37 dX7_lossesOf_25 (by decide) (fun c15 => ?_) (fun c15 => ?_)
      · replace h := h.1 c15
        refine j_iconst (v := (0 : Int32)) X (by decide) dX7_lossesOf_37 ?_
        refine j_sub [0, 1, 2, 4] rfl ?_
        exact hj12 (0 : Int32) M7 h
      · replace h := h.2 c15
        refine j_aload_n X 0 dX7_lossesOf_28 rfl rfl ?_
        refine j_iload X 4 dX7_lossesOf_29 rfl ?_
        refine jc_RX7_140 X ⟨Nat.le_of_ble_eq_true rfl, Nat.le_of_ble_eq_true rfl⟩ (Nat.le_of_ble_eq_true rfl) dX7_lossesOf_31 h (fun r17 M16 h => ?_)
        refine j_goto X 38 dX7_lossesOf_34 (by decide) ?_
        refine j_sub [0, 1, 2, 4] rfl ?_
        exact hj12 r17 M16 h
theorem jc_RX7_143 {G : GT} {E : ET} {cc : ByteArray} {nL pc : Nat} {rm : Room} {lv : List (Nat × Value)} {st : List Value} {M : Mm} (X : CX G E RX7 cc nL rm) (hR : 1 + 1 ≤ rm.frames ∧ 8 + (5 + 11) + 23 ≤ rm.locals) (hst : (st.map fun v => v.category).sum ≤ 8) (d : decode cc pc = .ok (.invokevirtual 143, 3)) {a1 : Int32} {a2 : Int32} {P : Int32 → Mm → Prop} (h : wp_X7_lossesOf a1 a2 M P) (k1 : ∀ (r : Int32) (M2 : Mm), P r M2 → J G E nL (pc + 3) lv (.int r :: st) M2) : J G E nL pc lv (.int a2 :: .int a1 :: .ref (adr G 7 0) :: st) M := fun H locs ls hP hS hl => by
  have hK := X.2.2.2.2.2.1.1
  have hm := met_X7_lossesOf (l := eL E) X.2.2.2.2.2.2.1 a1 a2 M P h
  have hR2 : 1 + 1 ≤ (eR E).frames ∧ 8 + (5 + 11) + 23 ≤ (eR E).locals := by rw [X.2.2.2.2.2.2.2.1]; exact hR
  have hC2 : eCells E + 0 ≤ (eR E).cells ∧ eSlots E + 0 ≤ (eR E).slots := by rw [X.2.2.2.2.2.2.2.1]; exact ⟨X.2.2.2.2.2.2.2.2.1, X.2.2.2.2.2.2.2.2.2⟩
  obtain ⟨q0, -, hq⟩ := wld_get (G := G) M (mw7 0 (by decide))
  exact va_calli (va_runV (C := RX7) (As := [.int a1, .int a2]) (rest := st) ⟨X.1, X.2.1, X.2.2.1, X.2.2.2.1, X.2.2.2.2.1⟩ hm (cwV (ws' := lw_aw) 2 X.2.2.2.2.1 (gwV (tw (i := 1085) (by decide +kernel)) (tw (i := 1087) (by decide +kernel)) (tw (i := 42) (by decide +kernel)) (tw (i := 78) (by decide +kernel)) (tw (i := 1088) (by decide +kernel))) rfl rfl rfl (by decide +kernel) hR2) ⟨hr_blind, va_recv hK hP (ci := 7) (q := (RX7, TX7, 15)) (fs := objF7 G 0 (M.1 7 0)) (q0 := q0) rfl hq, fun U hU hW => ⟨rfl, by rw [hU]; exact hP, KK.warm hW X.2.2.2.2.2.1⟩⟩ rfl rfl hl.1 rfl (lv_room hst) d hC2) hS (fun q _ h => h) (fun q h => h) (fun r u t H1 locs1 ht hvm hw hB hz1 hk1 hS1 => k1 r u hw H1 locs1 ls (by rw [← ht]; exact hB.1) hS1 hl)
/-- LayeredClaimsModel.grossOf(II)I -/
def wp_X7_grossOf (a1 : Int32) (a2 : Int32) (M : Mm) (P : Int32 → Mm → Prop) : Prop := (vp_in ((8 : Int32) + ((4 : Int32) * a2)) 136 ∧ (wp_X7_lossesOf a1 a2 M (fun (r3 : Int32) (M2 : Mm) => P (if r3 < (rd M 160 0 ((8 : Int32) + ((4 : Int32) * a2)).toNatClampNeg) then r3 else (rd M 160 0 ((8 : Int32) + ((4 : Int32) * a2)).toNatClampNeg)) M2)))
set_option maxHeartbeats 4000000 in
set_option maxRecDepth 100000 in
theorem met_X7_grossOf {l : Launch} {G : GT} (hG : GD G) (a1 : Int32) (a2 : Int32) (M : Mm) (P : Int32 → Mm → Prop) (h : wp_X7_grossOf a1 a2 M P) : MI l G yX7_grossOf cX7_grossOf 3 (some .int) ({ frames := 2, cells := 0, slots := 0, locals := 47 } : Room) [.ref (adr G 7 0), .int a1, .int a2] M P := by
  refine met_by hG (own := RX7) rfl (by decide +kernel) (Nat.le_of_ble_eq_true rfl) (fun E hE X Y => ?_)
  show J G E 3 0 [(0, .ref (adr G 7 0)), (1, .int a1), (2, .int a2)] [] M
  unfold wp_X7_grossOf at h
  refine j_aload_n X 0 dX7_grossOf_0 rfl rfl ?_
  refine jf_RX7_9 X  dX7_grossOf_1 ?_
  refine j_bipush (v := (8 : Int32)) X (by decide) dX7_grossOf_4 ?_
  refine j_iconst (v := (4 : Int32)) X (by decide) dX7_grossOf_6 ?_
  refine j_iload_n X 2 dX7_grossOf_7 rfl rfl ?_
  refine j_imul X dX7_grossOf_8 ?_
  refine j_iadd X dX7_grossOf_9 ?_
  have q1 := h.1
  replace h := h.2
  refine j_iald X _ rfl (mw160 0 (by decide)) kt160 lt160 q1 dX7_grossOf_10 ?_
  refine j_aload_n X 0 dX7_grossOf_11 rfl rfl ?_
  refine j_iload_n X 1 dX7_grossOf_12 rfl rfl ?_
  refine j_iload_n X 2 dX7_grossOf_13 rfl rfl ?_
  refine jc_RX7_143 X ⟨Nat.le_of_ble_eq_true rfl, Nat.le_of_ble_eq_true rfl⟩ (Nat.le_of_ble_eq_true rfl) dX7_grossOf_14 h (fun r3 M2 h => ?_)
  refine j_min X (tw (i := 1098) (by decide +kernel)) (Nat.le_of_ble_eq_true rfl) (Nat.le_of_ble_eq_true rfl) dX7_grossOf_17 ?_
  exact j_iret X Y dX7_grossOf_20 h
theorem jc_RX7_151 {G : GT} {E : ET} {cc : ByteArray} {nL pc : Nat} {rm : Room} {lv : List (Nat × Value)} {st : List Value} {M : Mm} (X : CX G E RX7 cc nL rm) (hR : 2 + 1 ≤ rm.frames ∧ 8 + (3 + 11) + 47 ≤ rm.locals) (hst : (st.map fun v => v.category).sum ≤ 8) (d : decode cc pc = .ok (.invokevirtual 151, 3)) {a1 : Int32} {a2 : Int32} {P : Int32 → Mm → Prop} (h : wp_X7_grossOf a1 a2 M P) (k1 : ∀ (r : Int32) (M2 : Mm), P r M2 → J G E nL (pc + 3) lv (.int r :: st) M2) : J G E nL pc lv (.int a2 :: .int a1 :: .ref (adr G 7 0) :: st) M := fun H locs ls hP hS hl => by
  have hK := X.2.2.2.2.2.1.1
  have hm := met_X7_grossOf (l := eL E) X.2.2.2.2.2.2.1 a1 a2 M P h
  have hR2 : 2 + 1 ≤ (eR E).frames ∧ 8 + (3 + 11) + 47 ≤ (eR E).locals := by rw [X.2.2.2.2.2.2.2.1]; exact hR
  have hC2 : eCells E + 0 ≤ (eR E).cells ∧ eSlots E + 0 ≤ (eR E).slots := by rw [X.2.2.2.2.2.2.2.1]; exact ⟨X.2.2.2.2.2.2.2.2.1, X.2.2.2.2.2.2.2.2.2⟩
  obtain ⟨q0, -, hq⟩ := wld_get (G := G) M (mw7 0 (by decide))
  exact va_calli (va_runV (C := RX7) (As := [.int a1, .int a2]) (rest := st) ⟨X.1, X.2.1, X.2.2.1, X.2.2.2.1, X.2.2.2.2.1⟩ hm (cwV (ws' := lw_aw) 2 X.2.2.2.2.1 (gwV (tw (i := 1081) (by decide +kernel)) (tw (i := 1083) (by decide +kernel)) (tw (i := 41) (by decide +kernel)) (tw (i := 78) (by decide +kernel)) (tw (i := 1084) (by decide +kernel))) rfl rfl rfl (by decide +kernel) hR2) ⟨hr_blind, va_recv hK hP (ci := 7) (q := (RX7, TX7, 15)) (fs := objF7 G 0 (M.1 7 0)) (q0 := q0) rfl hq, fun U hU hW => ⟨rfl, by rw [hU]; exact hP, KK.warm hW X.2.2.2.2.2.1⟩⟩ rfl rfl hl.1 rfl (lv_room hst) d hC2) hS (fun q _ h => h) (fun q h => h) (fun r u t H1 locs1 ht hvm hw hB hz1 hk1 hS1 => k1 r u hw H1 locs1 ls (by rw [← ht]; exact hB.1) hS1 hl)
/-- LayeredClaimsModel.shareOf(III)I -/
def wp_X7_shareOf (a1 : Int32) (a2 : Int32) (a3 : Int32) (M : Mm) (P : Int32 → Mm → Prop) : Prop := (∃ n, lq2 (fun self1 (x3 : Int64) (x4 : Int32) => ((a2 ≤ x4 → ((¬ (lg_cmp x3 (0 : Int64)) = 0 → (∃ n, lq2 (fun self7 (x9 : Int64) (x10 : Int32) => ((a2 ≤ x10 → (vp_in a3 24 ∧ (¬ x3 = 0 ∧ (∀ x14 : Int64, x14 = ((a1.toInt64 * (rd M 172 0 a3.toNatClampNeg).toInt64) - (a1.toInt64 * (rd M 172 0 a3.toNatClampNeg).toInt64) / x3 * x3) → (∃ n, lq2 (fun self15 (x17 : Int32) (x18 : Int32) => ((a2 ≤ x18 → (jn (fun (v20 : Int32) => P (((a1.toInt64 * (rd M 172 0 a3.toNatClampNeg).toInt64) / x3).toInt32 + v20) M) (fun J21 : Int32 → Prop => ((0 ≤ (lg_cmp x17.toInt64 (a1.toInt64 - x9)) → J21 (0 : Int32)) ∧ (¬ 0 ≤ (lg_cmp x17.toInt64 (a1.toInt64 - x9)) → J21 (1 : Int32)))))) ∧ (¬ a2 ≤ x18 → (vp_in x18 24 ∧ (∀ x25 : Int64, x25 = ((a1.toInt64 * (rd M 172 0 x18.toNatClampNeg).toInt64) - (a1.toInt64 * (rd M 172 0 x18.toNatClampNeg).toInt64) / x3 * x3) → (jn (fun (v26 : Int32) => (∀ x29 : Int32, x29 = (x17 + v26) → (∀ x30 : Int32, x30 = x18 + (1 : Int32) → self15 x29 x30))) (fun J27 : Int32 → Prop => (jn (fun (z31 : Int32) => J27 (1 : Int32)) (fun J32 : Int32 → Prop => ((0 < (lg_cmp x25 x14) → J32 (0 : Int32)) ∧ (¬ 0 < (lg_cmp x25 x14) → (jn (fun (z35 : Int32) => J27 (0 : Int32)) (fun J36 : Int32 → Prop => ((¬ (lg_cmp x25 x14) = 0 → J36 (0 : Int32)) ∧ ((lg_cmp x25 x14) = 0 → ((a3 ≤ x18 → J36 (0 : Int32)) ∧ (¬ a3 ≤ x18 → J32 (0 : Int32)))))))))))))))))) n (0 : Int32) (0 : Int32)))))) ∧ (¬ a2 ≤ x10 → (vp_in x10 24 ∧ (¬ x3 = 0 ∧ (∀ x42 : Int64, x42 = (x9 + ((a1.toInt64 * (rd M 172 0 x10.toNatClampNeg).toInt64) / x3)) → (∀ x43 : Int32, x43 = x10 + (1 : Int32) → self7 x42 x43))))))) n (0 : Int64) (0 : Int32))) ∧ ((lg_cmp x3 (0 : Int64)) = 0 → P (0 : Int32) M))) ∧ (¬ a2 ≤ x4 → (vp_in x4 24 ∧ (∀ x45 : Int64, x45 = (x3 + (rd M 172 0 x4.toNatClampNeg).toInt64) → (∀ x46 : Int32, x46 = x4 + (1 : Int32) → self1 x45 x46)))))) n (0 : Int64) (0 : Int32))
set_option maxHeartbeats 4000000 in
set_option maxRecDepth 100000 in
theorem met_X7_shareOf {l : Launch} {G : GT} (hG : GD G) (a1 : Int32) (a2 : Int32) (a3 : Int32) (M : Mm) (P : Int32 → Mm → Prop) (h : wp_X7_shareOf a1 a2 a3 M P) : MI l G yX7_shareOf cX7_shareOf 14 (some .int) ({ frames := 0, cells := 0, slots := 0, locals := 0 } : Room) [.ref (adr G 7 0), .int a1, .int a2, .int a3] M P := by
  refine met_by hG (own := RX7) rfl (by decide +kernel) (Nat.le_of_ble_eq_true rfl) (fun E hE X Y => ?_)
  show J G E 14 0 [(0, .ref (adr G 7 0)), (1, .int a1), (2, .int a2), (3, .int a3)] [] M
  unfold wp_X7_shareOf at h
  refine j_lconst (v := (0 : Int64)) X (by decide) dX7_shareOf_0 ?_
  refine j_lstore X [(4, .long (0 : Int64)), (0, .ref (adr G 7 0)), (1, .int a1), (2, .int a2), (3, .int a3)] dX7_shareOf_1 (by decide) rfl ?_
  refine j_iconst (v := (0 : Int32)) X (by decide) dX7_shareOf_3 ?_
  refine j_istore X [(6, .int (0 : Int32)), (4, .long (0 : Int64)), (0, .ref (adr G 7 0)), (1, .int a1), (2, .int a2), (3, .int a3)] dX7_shareOf_4 (by decide) rfl ?_
  refine j_sub [2, 3, 4, 5, 1, 0] rfl ?_
  refine lq2_s h (fun (x3 : Int64) (x4 : Int32) => J G E 14 6 [(0, .ref (adr G 7 0)), (1, .int a1), (2, .int a2), (3, .int a3), (4, .long x3), (6, .int x4)] [] M) (fun self1 ih2 x3 x4 h => ?_) id
  refine j_iload X 5 dX7_shareOf_6 rfl ?_
  refine j_iload_n X 2 dX7_shareOf_8 rfl rfl ?_
  refine j_icmp_ge X 31 dX7_shareOf_9 (by decide) (fun c5 => ?_) (fun c5 => ?_)
  · replace h := h.1 c5
    refine j_lload X 4 dX7_shareOf_31 rfl ?_
    refine j_lconst (v := (0 : Int64)) X (by decide) dX7_shareOf_33 ?_
    refine j_lcmp X dX7_shareOf_34 ?_
    refine j_if_ne X 40 dX7_shareOf_35 (by decide) (fun c6 => ?_) (fun c6 => ?_)
    · replace h := h.1 c6
      refine j_lconst (v := (0 : Int64)) X (by decide) dX7_shareOf_40 ?_
      refine j_lstore X [(6, .long (0 : Int64)), (0, .ref (adr G 7 0)), (1, .int a1), (2, .int a2), (3, .int a3), (4, .long x3)] dX7_shareOf_41 (by decide) rfl ?_
      refine j_iconst (v := (0 : Int32)) X (by decide) dX7_shareOf_43 ?_
      refine j_istore X [(8, .int (0 : Int32)), (6, .long (0 : Int64)), (0, .ref (adr G 7 0)), (1, .int a1), (2, .int a2), (3, .int a3), (4, .long x3)] dX7_shareOf_44 (by decide) rfl ?_
      refine j_sub [2, 3, 4, 5, 6, 1, 0] rfl ?_
      refine lq2_s h (fun (x9 : Int64) (x10 : Int32) => J G E 14 46 [(0, .ref (adr G 7 0)), (1, .int a1), (2, .int a2), (3, .int a3), (4, .long x3), (6, .long x9), (8, .int x10)] [] M) (fun self7 ih8 x9 x10 h => ?_) id
      refine j_iload X 6 dX7_shareOf_46 rfl ?_
      refine j_iload_n X 2 dX7_shareOf_48 rfl rfl ?_
      refine j_icmp_ge X 77 dX7_shareOf_49 (by decide) (fun c11 => ?_) (fun c11 => ?_)
      · replace h := h.1 c11
        refine j_iload_n X 1 dX7_shareOf_77 rfl rfl ?_
        refine j_i2l X dX7_shareOf_78 ?_
        refine j_aload_n X 0 dX7_shareOf_79 rfl rfl ?_
        refine jf_RX7_48 X  dX7_shareOf_80 ?_
        refine j_iload_n X 3 dX7_shareOf_83 rfl rfl ?_
        have q12 := h.1
        replace h := h.2
        refine j_iald X _ rfl (mw172 0 (by decide)) kt172 lt172 q12 dX7_shareOf_84 ?_
        refine j_i2l X dX7_shareOf_85 ?_
        refine j_lmul X dX7_shareOf_86 ?_
        refine j_lload X 4 dX7_shareOf_87 rfl ?_
        have q13 := h.1
        replace h := h.2
        refine j_lrem X q13 dX7_shareOf_89 ?_
        refine j_topl (fun x14 ex14 => ?_)
        replace h := h x14 ex14
        refine j_lstore X [(8, .long x14), (0, .ref (adr G 7 0)), (1, .int a1), (2, .int a2), (3, .int a3), (4, .long x3), (6, .long x9)] dX7_shareOf_90 (by decide) rfl ?_
        refine j_iconst (v := (0 : Int32)) X (by decide) dX7_shareOf_92 ?_
        refine j_istore X [(10, .int (0 : Int32)), (8, .long x14), (0, .ref (adr G 7 0)), (1, .int a1), (2, .int a2), (3, .int a3), (4, .long x3), (6, .long x9)] dX7_shareOf_93 (by decide) rfl ?_
        refine j_iconst (v := (0 : Int32)) X (by decide) dX7_shareOf_95 ?_
        refine j_istore X [(11, .int (0 : Int32)), (10, .int (0 : Int32)), (8, .long x14), (0, .ref (adr G 7 0)), (1, .int a1), (2, .int a2), (3, .int a3), (4, .long x3), (6, .long x9)] dX7_shareOf_96 (by decide) rfl ?_
        refine j_sub [3, 4, 5, 6, 7, 8, 2, 1, 0] rfl ?_
        refine lq2_s h (fun (x17 : Int32) (x18 : Int32) => J G E 14 98 [(0, .ref (adr G 7 0)), (1, .int a1), (2, .int a2), (3, .int a3), (4, .long x3), (6, .long x9), (8, .long x14), (10, .int x17), (11, .int x18)] [] M) (fun self15 ih16 x17 x18 h => ?_) id
        refine j_iload X 8 dX7_shareOf_98 rfl ?_
        refine j_iload_n X 2 dX7_shareOf_100 rfl rfl ?_
        refine j_icmp_ge X 158 dX7_shareOf_101 (by decide) (fun c19 => ?_) (fun c19 => ?_)
        · replace h := h.1 c19
          refine j_iload_n X 1 dX7_shareOf_158 rfl rfl ?_
          refine j_i2l X dX7_shareOf_159 ?_
          refine j_aload_n X 0 dX7_shareOf_160 rfl rfl ?_
          refine jf_RX7_48 X  dX7_shareOf_161 ?_
          refine j_iload_n X 3 dX7_shareOf_164 rfl rfl ?_
          refine j_iald X _ rfl (mw172 0 (by decide)) kt172 lt172 q12 dX7_shareOf_165 ?_
          refine j_i2l X dX7_shareOf_166 ?_
          refine j_lmul X dX7_shareOf_167 ?_
          refine j_lload X 4 dX7_shareOf_168 rfl ?_
          refine j_ldiv X q13 dX7_shareOf_170 ?_
          refine j_l2i X dX7_shareOf_171 ?_
          refine j_iload X 7 dX7_shareOf_172 rfl ?_
          refine j_i2l X dX7_shareOf_174 ?_
          refine j_iload_n X 1 dX7_shareOf_175 rfl rfl ?_
          refine j_i2l X dX7_shareOf_176 ?_
          refine j_lload X 5 dX7_shareOf_177 rfl ?_
          refine j_lsub X dX7_shareOf_179 ?_
          refine j_lcmp X dX7_shareOf_180 ?_
          refine jn1_s h (fun (v20 : Int32) => J G E 14 189 [] [.int v20, .int ((a1.toInt64 * (rd M 172 0 a3.toNatClampNeg).toInt64) / x3).toInt32] M) (fun v20 h => ?_) (fun J21 hj22 h => ?_)
          · refine j_iadd X dX7_shareOf_189 ?_
            exact j_iret X Y dX7_shareOf_190 h
          · refine j_if_ge X 188 dX7_shareOf_181 (by decide) (fun c23 => ?_) (fun c23 => ?_)
            · replace h := h.1 c23
              refine j_iconst (v := (0 : Int32)) X (by decide) dX7_shareOf_188 ?_
              refine j_sub [] rfl ?_
              exact hj22 (0 : Int32) h
            · replace h := h.2 c23
              refine j_iconst (v := (1 : Int32)) X (by decide) dX7_shareOf_184 ?_
              refine j_goto X 189 dX7_shareOf_185 (by decide) ?_
              refine j_sub [] rfl ?_
              exact hj22 (1 : Int32) h
        · replace h := h.2 c19
          refine j_iload_n X 1 dX7_shareOf_104 rfl rfl ?_
          refine j_i2l X dX7_shareOf_105 ?_
          refine j_aload_n X 0 dX7_shareOf_106 rfl rfl ?_
          refine jf_RX7_48 X  dX7_shareOf_107 ?_
          refine j_iload X 8 dX7_shareOf_110 rfl ?_
          have q24 := h.1
          replace h := h.2
          refine j_iald X _ rfl (mw172 0 (by decide)) kt172 lt172 q24 dX7_shareOf_112 ?_
          refine j_i2l X dX7_shareOf_113 ?_
          refine j_lmul X dX7_shareOf_114 ?_
          refine j_lload X 4 dX7_shareOf_115 rfl ?_
          refine j_lrem X q13 dX7_shareOf_117 ?_
          refine j_topl (fun x25 ex25 => ?_)
          replace h := h x25 ex25
          refine j_lstore X [(12, .long x25), (0, .ref (adr G 7 0)), (1, .int a1), (2, .int a2), (3, .int a3), (4, .long x3), (6, .long x9), (8, .long x14), (10, .int x17), (11, .int x18)] dX7_shareOf_118 (by decide) rfl ?_
          refine j_iload X 8 dX7_shareOf_120 rfl ?_
          refine j_lload X 0 dX7_shareOf_122 rfl ?_
          refine j_lload X 7 dX7_shareOf_124 rfl ?_
          refine j_lcmp X dX7_shareOf_126 ?_
          refine jn1_s h (fun (v26 : Int32) => J G E 14 149 [(0, .ref (adr G 7 0)), (1, .int a1), (2, .int a2), (3, .int a3), (4, .long x3), (6, .long x9), (8, .long x14), (11, .int x18)] [.int v26, .int x17] M) (fun v26 h => ?_) (fun J27 hj28 h => ?_)
          · refine j_iadd X dX7_shareOf_149 ?_
            refine j_topi (fun x29 ex29 => ?_)
            replace h := h x29 ex29
            refine j_istore X [(10, .int x29), (0, .ref (adr G 7 0)), (1, .int a1), (2, .int a2), (3, .int a3), (4, .long x3), (6, .long x9), (8, .long x14), (11, .int x18)] dX7_shareOf_150 (by decide) rfl ?_
            obtain ⟨x30, ex30⟩ : ∃ z : Int32, z = x18 + (1 : Int32) := ⟨_, rfl⟩
            replace h := h x30 ex30
            refine j_iinc (v := x30) X 8 [(11, .int x30), (10, .int x29), (0, .ref (adr G 7 0)), (1, .int a1), (2, .int a2), (3, .int a3), (4, .long x3), (6, .long x9), (8, .long x14)] dX7_shareOf_152 rfl (by rw [ex30]; rfl) (by decide) rfl ?_
            refine j_goto X 98 dX7_shareOf_155 (by decide) ?_
            refine j_sub [2, 3, 4, 5, 6, 7, 8, 1, 0] rfl ?_
            exact ih16 x29 x30 h
          · refine jn1_s h (fun (z31 : Int32) => J G E 14 144 [(0, .ref (adr G 7 0)), (1, .int a1), (2, .int a2), (3, .int a3), (4, .long x3), (6, .long x9), (8, .long x14), (11, .int x18)] [.int x17] M) (fun z31 h => ?_) (fun J32 hj33 h => ?_)
            · refine j_iconst (v := (1 : Int32)) X (by decide) dX7_shareOf_144 ?_
              refine j_goto X 149 dX7_shareOf_145 (by decide) ?_
              refine j_sub [0, 1, 2, 3, 4, 5, 6, 7] rfl ?_
              exact hj28 (1 : Int32) h
            · refine j_if_gt X 144 dX7_shareOf_127 (by decide) (fun c34 => ?_) (fun c34 => ?_)
              · replace h := h.1 c34
                refine j_sub [1, 2, 3, 4, 5, 6, 7, 9] rfl ?_
                exact hj33 (0 : Int32) h
              · replace h := h.2 c34
                refine j_lload X 0 dX7_shareOf_130 rfl ?_
                refine j_lload X 7 dX7_shareOf_132 rfl ?_
                refine j_lcmp X dX7_shareOf_134 ?_
                refine jn1_s h (fun (z35 : Int32) => J G E 14 148 [(0, .ref (adr G 7 0)), (1, .int a1), (2, .int a2), (3, .int a3), (4, .long x3), (6, .long x9), (8, .long x14), (11, .int x18)] [.int x17] M) (fun z35 h => ?_) (fun J36 hj37 h => ?_)
                · refine j_iconst (v := (0 : Int32)) X (by decide) dX7_shareOf_148 ?_
                  refine j_sub [0, 1, 2, 3, 4, 5, 6, 7] rfl ?_
                  exact hj28 (0 : Int32) h
                · refine j_if_ne X 148 dX7_shareOf_135 (by decide) (fun c38 => ?_) (fun c38 => ?_)
                  · replace h := h.1 c38
                    refine j_sub [1, 2, 3, 4, 5, 6, 7, 9] rfl ?_
                    exact hj37 (0 : Int32) h
                  · replace h := h.2 c38
                    refine j_iload X 9 dX7_shareOf_138 rfl ?_
                    refine j_iload_n X 4 dX7_shareOf_140 rfl rfl ?_
                    refine j_icmp_ge X 148 dX7_shareOf_141 (by decide) (fun c39 => ?_) (fun c39 => ?_)
                    · replace h := h.1 c39
                      refine j_sub [1, 2, 3, 4, 5, 6, 7, 9] rfl ?_
                      exact hj37 (0 : Int32) h
                    · replace h := h.2 c39
                      refine j_sub [1, 2, 3, 4, 5, 6, 7, 9] rfl ?_
                      exact hj33 (0 : Int32) h
      · replace h := h.2 c11
        refine j_lload X 5 dX7_shareOf_52 rfl ?_
        refine j_iload_n X 1 dX7_shareOf_54 rfl rfl ?_
        refine j_i2l X dX7_shareOf_55 ?_
        refine j_aload_n X 0 dX7_shareOf_56 rfl rfl ?_
        refine jf_RX7_48 X  dX7_shareOf_57 ?_
        refine j_iload X 6 dX7_shareOf_60 rfl ?_
        have q40 := h.1
        replace h := h.2
        refine j_iald X _ rfl (mw172 0 (by decide)) kt172 lt172 q40 dX7_shareOf_62 ?_
        refine j_i2l X dX7_shareOf_63 ?_
        refine j_lmul X dX7_shareOf_64 ?_
        refine j_lload X 4 dX7_shareOf_65 rfl ?_
        have q41 := h.1
        replace h := h.2
        refine j_ldiv X q41 dX7_shareOf_67 ?_
        refine j_ladd X dX7_shareOf_68 ?_
        refine j_topl (fun x42 ex42 => ?_)
        replace h := h x42 ex42
        refine j_lstore X [(6, .long x42), (0, .ref (adr G 7 0)), (1, .int a1), (2, .int a2), (3, .int a3), (4, .long x3), (8, .int x10)] dX7_shareOf_69 (by decide) rfl ?_
        obtain ⟨x43, ex43⟩ : ∃ z : Int32, z = x10 + (1 : Int32) := ⟨_, rfl⟩
        replace h := h x43 ex43
        refine j_iinc (v := x43) X 6 [(8, .int x43), (6, .long x42), (0, .ref (adr G 7 0)), (1, .int a1), (2, .int a2), (3, .int a3), (4, .long x3)] dX7_shareOf_71 rfl (by rw [ex43]; rfl) (by decide) rfl ?_
        refine j_goto X 46 dX7_shareOf_74 (by decide) ?_
        refine j_sub [2, 3, 4, 5, 6, 1, 0] rfl ?_
        exact ih8 x42 x43 h
    · replace h := h.2 c6
      refine j_iconst (v := (0 : Int32)) X (by decide) dX7_shareOf_38 ?_
      exact j_iret X Y dX7_shareOf_39 h
  · replace h := h.2 c5
    refine j_lload X 4 dX7_shareOf_12 rfl ?_
    refine j_aload_n X 0 dX7_shareOf_14 rfl rfl ?_
    refine jf_RX7_48 X  dX7_shareOf_15 ?_
    refine j_iload X 5 dX7_shareOf_18 rfl ?_
    have q44 := h.1
    replace h := h.2
    refine j_iald X _ rfl (mw172 0 (by decide)) kt172 lt172 q44 dX7_shareOf_20 ?_
    refine j_i2l X dX7_shareOf_21 ?_
    refine j_ladd X dX7_shareOf_22 ?_
    refine j_topl (fun x45 ex45 => ?_)
    replace h := h x45 ex45
    refine j_lstore X [(4, .long x45), (0, .ref (adr G 7 0)), (1, .int a1), (2, .int a2), (3, .int a3), (6, .int x4)] dX7_shareOf_23 (by decide) rfl ?_
    obtain ⟨x46, ex46⟩ : ∃ z : Int32, z = x4 + (1 : Int32) := ⟨_, rfl⟩
    replace h := h x46 ex46
    refine j_iinc (v := x46) X 5 [(6, .int x46), (4, .long x45), (0, .ref (adr G 7 0)), (1, .int a1), (2, .int a2), (3, .int a3)] dX7_shareOf_25 rfl (by rw [ex46]; rfl) (by decide) rfl ?_
    refine j_goto X 6 dX7_shareOf_28 (by decide) ?_
    refine j_sub [2, 3, 4, 5, 1, 0] rfl ?_
    exact ih2 x45 x46 h
theorem jc_RX7_154 {G : GT} {E : ET} {cc : ByteArray} {nL pc : Nat} {rm : Room} {lv : List (Nat × Value)} {st : List Value} {M : Mm} (X : CX G E RX7 cc nL rm) (hR : 0 + 1 ≤ rm.frames ∧ 8 + (14 + 11) + 0 ≤ rm.locals) (hst : (st.map fun v => v.category).sum ≤ 8) (d : decode cc pc = .ok (.invokevirtual 154, 3)) {a1 : Int32} {a2 : Int32} {a3 : Int32} {P : Int32 → Mm → Prop} (h : wp_X7_shareOf a1 a2 a3 M P) (k1 : ∀ (r : Int32) (M2 : Mm), P r M2 → J G E nL (pc + 3) lv (.int r :: st) M2) : J G E nL pc lv (.int a3 :: .int a2 :: .int a1 :: .ref (adr G 7 0) :: st) M := fun H locs ls hP hS hl => by
  have hK := X.2.2.2.2.2.1.1
  have hm := met_X7_shareOf (l := eL E) X.2.2.2.2.2.2.1 a1 a2 a3 M P h
  have hR2 : 0 + 1 ≤ (eR E).frames ∧ 8 + (14 + 11) + 0 ≤ (eR E).locals := by rw [X.2.2.2.2.2.2.2.1]; exact hR
  have hC2 : eCells E + 0 ≤ (eR E).cells ∧ eSlots E + 0 ≤ (eR E).slots := by rw [X.2.2.2.2.2.2.2.1]; exact ⟨X.2.2.2.2.2.2.2.2.1, X.2.2.2.2.2.2.2.2.2⟩
  obtain ⟨q0, -, hq⟩ := wld_get (G := G) M (mw7 0 (by decide))
  exact va_calli (va_runV (C := RX7) (As := [.int a1, .int a2, .int a3]) (rest := st) ⟨X.1, X.2.1, X.2.2.1, X.2.2.2.1, X.2.2.2.2.1⟩ hm (cwV (ws' := lw_aw) 3 X.2.2.2.2.1 (gwV (tw (i := 1103) (by decide +kernel)) (tw (i := 1105) (by decide +kernel)) (tw (i := 46) (by decide +kernel)) (tw (i := 78) (by decide +kernel)) (tw (i := 1106) (by decide +kernel))) rfl rfl rfl (by decide +kernel) hR2) ⟨hr_blind, va_recv hK hP (ci := 7) (q := (RX7, TX7, 15)) (fs := objF7 G 0 (M.1 7 0)) (q0 := q0) rfl hq, fun U hU hW => ⟨rfl, by rw [hU]; exact hP, KK.warm hW X.2.2.2.2.2.1⟩⟩ rfl rfl hl.1 rfl (lv_room hst) d hC2) hS (fun q _ h => h) (fun q h => h) (fun r u t H1 locs1 ht hvm hw hB hz1 hk1 hS1 => k1 r u hw H1 locs1 ls (by rw [← ht]; exact hB.1) hS1 hl)
/-- LayeredClaimsModel.deductedOf(II)I -/
def wp_X7_deductedOf (a1 : Int32) (a2 : Int32) (M : Mm) (P : Int32 → Mm → Prop) : Prop := (vp_in (((8 : Int32) + ((4 : Int32) * a2)) + (3 : Int32)) 136 ∧ (∀ x2 : Int32, x2 = (rd M 160 0 (((8 : Int32) + ((4 : Int32) * a2)) + (3 : Int32)).toNatClampNeg) → (∃ n, lq3 (fun self3 (x5 : Int32) (x6 : Int32) (M7 : Mm) => (((rd M7 160 0 0) ≤ x6 → (vp_in ((5 : Int32) + x2) 136 ∧ (wp_X7_shareOf (if x5 < (rd M7 160 0 ((5 : Int32) + x2).toNatClampNeg) then x5 else (rd M7 160 0 ((5 : Int32) + x2).toNatClampNeg)) (rd M7 160 0 0) a2 M7 (fun (r11 : Int32) (M10 : Mm) => P r11 M10)))) ∧ (¬ (rd M7 160 0 0) ≤ x6 → (vp_in (((8 : Int32) + ((4 : Int32) * x6)) + (3 : Int32)) 136 ∧ (jn (fun (v13 : Int32) (M14 : Mm) => (vp_in x6 24 ∧ (∀ M18 : Mm, M18 = wr M14 172 0 x6.toNatClampNeg v13 → (∀ x19 : Int32, x19 = (x5 + (rd M18 172 0 x6.toNatClampNeg)) → (∀ x20 : Int32, x20 = x6 + (1 : Int32) → self3 x19 x20 M18))))) (fun J15 : Int32 → Mm → Prop => ((¬ (rd M7 160 0 (((8 : Int32) + ((4 : Int32) * x6)) + (3 : Int32)).toNatClampNeg) = x2 → J15 (0 : Int32) M7) ∧ ((rd M7 160 0 (((8 : Int32) + ((4 : Int32) * x6)) + (3 : Int32)).toNatClampNeg) = x2 → (wp_X7_grossOf a1 x6 M7 (fun (r23 : Int32) (M22 : Mm) => J15 r23 M22)))))))))) n (0 : Int32) (0 : Int32) M)))
set_option maxHeartbeats 4000000 in
set_option maxRecDepth 100000 in
theorem met_X7_deductedOf {l : Launch} {G : GT} (hG : GD G) (a1 : Int32) (a2 : Int32) (M : Mm) (P : Int32 → Mm → Prop) (h : wp_X7_deductedOf a1 a2 M P) : MI l G yX7_deductedOf cX7_deductedOf 6 (some .int) ({ frames := 3, cells := 0, slots := 0, locals := 69 } : Room) [.ref (adr G 7 0), .int a1, .int a2] M P := by
  refine met_by hG (own := RX7) rfl (by decide +kernel) (Nat.le_of_ble_eq_true rfl) (fun E hE X Y => ?_)
  show J G E 6 0 [(0, .ref (adr G 7 0)), (1, .int a1), (2, .int a2)] [] M
  unfold wp_X7_deductedOf at h
  refine j_aload_n X 0 dX7_deductedOf_0 rfl rfl ?_
  refine jf_RX7_9 X  dX7_deductedOf_1 ?_
  refine j_bipush (v := (8 : Int32)) X (by decide) dX7_deductedOf_4 ?_
  refine j_iconst (v := (4 : Int32)) X (by decide) dX7_deductedOf_6 ?_
  refine j_iload_n X 2 dX7_deductedOf_7 rfl rfl ?_
  refine j_imul X dX7_deductedOf_8 ?_
  refine j_iadd X dX7_deductedOf_9 ?_
  refine j_iconst (v := (3 : Int32)) X (by decide) dX7_deductedOf_10 ?_
  refine j_iadd X dX7_deductedOf_11 ?_
  have q1 := h.1
  replace h := h.2
  refine j_iald X _ rfl (mw160 0 (by decide)) kt160 lt160 q1 dX7_deductedOf_12 ?_
  refine j_topi (fun x2 ex2 => ?_)
  replace h := h x2 ex2
  refine j_istore_n X [(3, .int x2), (0, .ref (adr G 7 0)), (1, .int a1), (2, .int a2)] dX7_deductedOf_13 rfl (by decide) rfl ?_
  refine j_iconst (v := (0 : Int32)) X (by decide) dX7_deductedOf_14 ?_
  refine j_istore X [(4, .int (0 : Int32)), (3, .int x2), (0, .ref (adr G 7 0)), (1, .int a1), (2, .int a2)] dX7_deductedOf_15 (by decide) rfl ?_
  refine j_iconst (v := (0 : Int32)) X (by decide) dX7_deductedOf_17 ?_
  refine j_istore X [(5, .int (0 : Int32)), (4, .int (0 : Int32)), (3, .int x2), (0, .ref (adr G 7 0)), (1, .int a1), (2, .int a2)] dX7_deductedOf_18 (by decide) rfl ?_
  refine j_sub [3, 4, 5, 2, 1, 0] rfl ?_
  refine lq3_s h (fun (x5 : Int32) (x6 : Int32) (M7 : Mm) => J G E 6 20 [(0, .ref (adr G 7 0)), (1, .int a1), (2, .int a2), (3, .int x2), (4, .int x5), (5, .int x6)] [] M7) (fun self3 ih4 x5 x6 M7 h => ?_) id
  refine j_iload X 5 dX7_deductedOf_20 rfl ?_
  refine j_aload_n X 0 dX7_deductedOf_22 rfl rfl ?_
  refine jf_RX7_9 X  dX7_deductedOf_23 ?_
  refine j_iconst (v := (0 : Int32)) X (by decide) dX7_deductedOf_26 ?_
  refine j_iald X 0 (by decide) (mw160 0 (by decide)) kt160 lt160 (vpc (by decide)) dX7_deductedOf_27 ?_
  refine j_icmp_ge X 85 dX7_deductedOf_28 (by decide) (fun c8 => ?_) (fun c8 => ?_)
  · replace h := h.1 c8
    refine j_aload_n X 0 dX7_deductedOf_85 rfl rfl ?_
    refine j_aload_n X 0 dX7_deductedOf_86 rfl rfl ?_
    refine jf_RX7_9 X  dX7_deductedOf_87 ?_
    refine j_iconst (v := (5 : Int32)) X (by decide) dX7_deductedOf_90 ?_
    refine j_iload_n X 3 dX7_deductedOf_91 rfl rfl ?_
    refine j_iadd X dX7_deductedOf_92 ?_
    have q9 := h.1
    replace h := h.2
    refine j_iald X _ rfl (mw160 0 (by decide)) kt160 lt160 q9 dX7_deductedOf_93 ?_
    refine j_iload X 4 dX7_deductedOf_94 rfl ?_
    refine j_min X (tw (i := 1098) (by decide +kernel)) (Nat.le_of_ble_eq_true rfl) (Nat.le_of_ble_eq_true rfl) dX7_deductedOf_96 ?_
    refine j_aload_n X 0 dX7_deductedOf_99 rfl rfl ?_
    refine jf_RX7_9 X  dX7_deductedOf_100 ?_
    refine j_iconst (v := (0 : Int32)) X (by decide) dX7_deductedOf_103 ?_
    refine j_iald X 0 (by decide) (mw160 0 (by decide)) kt160 lt160 (vpc (by decide)) dX7_deductedOf_104 ?_
    refine j_iload_n X 2 dX7_deductedOf_105 rfl rfl ?_
    refine jc_RX7_154 X ⟨Nat.le_of_ble_eq_true rfl, Nat.le_of_ble_eq_true rfl⟩ (Nat.le_of_ble_eq_true rfl) dX7_deductedOf_106 h (fun r11 M10 h => ?_)
    exact j_iret X Y dX7_deductedOf_109 h
  · replace h := h.2 c8
    refine j_aload_n X 0 dX7_deductedOf_31 rfl rfl ?_
    refine jf_RX7_48 X  dX7_deductedOf_32 ?_
    refine j_iload X 5 dX7_deductedOf_35 rfl ?_
    refine j_aload_n X 0 dX7_deductedOf_37 rfl rfl ?_
    refine jf_RX7_9 X  dX7_deductedOf_38 ?_
    refine j_bipush (v := (8 : Int32)) X (by decide) dX7_deductedOf_41 ?_
    refine j_iconst (v := (4 : Int32)) X (by decide) dX7_deductedOf_43 ?_
    refine j_iload X 5 dX7_deductedOf_44 rfl ?_
    refine j_imul X dX7_deductedOf_46 ?_
    refine j_iadd X dX7_deductedOf_47 ?_
    refine j_iconst (v := (3 : Int32)) X (by decide) dX7_deductedOf_48 ?_
    refine j_iadd X dX7_deductedOf_49 ?_
    have q12 := h.1
    replace h := h.2
    refine j_iald X _ rfl (mw160 0 (by decide)) kt160 lt160 q12 dX7_deductedOf_50 ?_
    refine j_iload_n X 3 dX7_deductedOf_51 rfl rfl ?_
    refine jn2_s h (fun (v13 : Int32) (M14 : Mm) => J G E 6 66 [(0, .ref (adr G 7 0)), (1, .int a1), (2, .int a2), (3, .int x2), (4, .int x5), (5, .int x6)] [.int v13, .int x6, .ref (adr G 172 0)] M14) (fun v13 M14 h => ?_) (fun J15 hj16 h => ?_)
    · have q17 := h.1
      replace h := h.2
      refine j_iast X _ rfl (mw172 0 (by decide)) kt172 lt172 q17 dX7_deductedOf_66 ?_
      refine j_memo (fun M18 eM18 => ?_)
      replace h := h M18 eM18
      refine j_iload X 4 dX7_deductedOf_67 rfl ?_
      refine j_aload_n X 0 dX7_deductedOf_69 rfl rfl ?_
      refine jf_RX7_48 X  dX7_deductedOf_70 ?_
      refine j_iload X 5 dX7_deductedOf_73 rfl ?_
      refine j_iald X _ rfl (mw172 0 (by decide)) kt172 lt172 q17 dX7_deductedOf_75 ?_
      refine j_iadd X dX7_deductedOf_76 ?_
      refine j_topi (fun x19 ex19 => ?_)
      replace h := h x19 ex19
      refine j_istore X [(4, .int x19), (0, .ref (adr G 7 0)), (1, .int a1), (2, .int a2), (3, .int x2), (5, .int x6)] dX7_deductedOf_77 (by decide) rfl ?_
      obtain ⟨x20, ex20⟩ : ∃ z : Int32, z = x6 + (1 : Int32) := ⟨_, rfl⟩
      replace h := h x20 ex20
      refine j_iinc (v := x20) X 5 [(5, .int x20), (4, .int x19), (0, .ref (adr G 7 0)), (1, .int a1), (2, .int a2), (3, .int x2)] dX7_deductedOf_79 rfl (by rw [ex20]; rfl) (by decide) rfl ?_
      refine j_goto X 20 dX7_deductedOf_82 (by decide) ?_
      refine j_sub [2, 3, 4, 5, 1, 0] rfl ?_
      exact ih4 x19 x20 M18 h
    · refine j_icmp_ne X 65 dX7_deductedOf_52 (by decide) (fun c21 => ?_) (fun c21 => ?_)
      · replace h := h.1 c21
        refine j_iconst (v := (0 : Int32)) X (by decide) dX7_deductedOf_65 ?_
        refine j_sub [0, 1, 2, 3, 4, 5] rfl ?_
        exact hj16 (0 : Int32) M7 h
      · replace h := h.2 c21
        refine j_aload_n X 0 dX7_deductedOf_55 rfl rfl ?_
        refine j_iload_n X 1 dX7_deductedOf_56 rfl rfl ?_
        refine j_iload X 5 dX7_deductedOf_57 rfl ?_
        refine jc_RX7_151 X ⟨Nat.le_of_ble_eq_true rfl, Nat.le_of_ble_eq_true rfl⟩ (Nat.le_of_ble_eq_true rfl) dX7_deductedOf_59 h (fun r23 M22 h => ?_)
        refine j_goto X 66 dX7_deductedOf_62 (by decide) ?_
        refine j_sub [0, 1, 2, 3, 4, 5] rfl ?_
        exact hj16 r23 M22 h
theorem jc_RX7_157 {G : GT} {E : ET} {cc : ByteArray} {nL pc : Nat} {rm : Room} {lv : List (Nat × Value)} {st : List Value} {M : Mm} (X : CX G E RX7 cc nL rm) (hR : 3 + 1 ≤ rm.frames ∧ 8 + (6 + 11) + 69 ≤ rm.locals) (hst : (st.map fun v => v.category).sum ≤ 8) (d : decode cc pc = .ok (.invokevirtual 157, 3)) {a1 : Int32} {a2 : Int32} {P : Int32 → Mm → Prop} (h : wp_X7_deductedOf a1 a2 M P) (k1 : ∀ (r : Int32) (M2 : Mm), P r M2 → J G E nL (pc + 3) lv (.int r :: st) M2) : J G E nL pc lv (.int a2 :: .int a1 :: .ref (adr G 7 0) :: st) M := fun H locs ls hP hS hl => by
  have hK := X.2.2.2.2.2.1.1
  have hm := met_X7_deductedOf (l := eL E) X.2.2.2.2.2.2.1 a1 a2 M P h
  have hR2 : 3 + 1 ≤ (eR E).frames ∧ 8 + (6 + 11) + 69 ≤ (eR E).locals := by rw [X.2.2.2.2.2.2.2.1]; exact hR
  have hC2 : eCells E + 0 ≤ (eR E).cells ∧ eSlots E + 0 ≤ (eR E).slots := by rw [X.2.2.2.2.2.2.2.1]; exact ⟨X.2.2.2.2.2.2.2.2.1, X.2.2.2.2.2.2.2.2.2⟩
  obtain ⟨q0, -, hq⟩ := wld_get (G := G) M (mw7 0 (by decide))
  exact va_calli (va_runV (C := RX7) (As := [.int a1, .int a2]) (rest := st) ⟨X.1, X.2.1, X.2.2.1, X.2.2.2.1, X.2.2.2.2.1⟩ hm (cwV (ws' := lw_aw) 2 X.2.2.2.2.1 (gwV (tw (i := 1099) (by decide +kernel)) (tw (i := 1101) (by decide +kernel)) (tw (i := 45) (by decide +kernel)) (tw (i := 78) (by decide +kernel)) (tw (i := 1102) (by decide +kernel))) rfl rfl rfl (by decide +kernel) hR2) ⟨hr_blind, va_recv hK hP (ci := 7) (q := (RX7, TX7, 15)) (fs := objF7 G 0 (M.1 7 0)) (q0 := q0) rfl hq, fun U hU hW => ⟨rfl, by rw [hU]; exact hP, KK.warm hW X.2.2.2.2.2.1⟩⟩ rfl rfl hl.1 rfl (lv_room hst) d hC2) hS (fun q _ h => h) (fun q h => h) (fun r u t H1 locs1 ht hvm hw hB hz1 hk1 hS1 => k1 r u hw H1 locs1 ls (by rw [← ht]; exact hB.1) hS1 hl)
/-- LayeredClaimsModel.netOf(II)I -/
def wp_X7_netOf (a1 : Int32) (a2 : Int32) (M : Mm) (P : Int32 → Mm → Prop) : Prop := (wp_X7_grossOf a1 a2 M (fun (r2 : Int32) (M1 : Mm) => (wp_X7_deductedOf a1 a2 M1 (fun (r4 : Int32) (M3 : Mm) => P (r2 - r4) M3))))
set_option maxHeartbeats 4000000 in
set_option maxRecDepth 100000 in
theorem met_X7_netOf {l : Launch} {G : GT} (hG : GD G) (a1 : Int32) (a2 : Int32) (M : Mm) (P : Int32 → Mm → Prop) (h : wp_X7_netOf a1 a2 M P) : MI l G yX7_netOf cX7_netOf 3 (some .int) ({ frames := 4, cells := 0, slots := 0, locals := 94 } : Room) [.ref (adr G 7 0), .int a1, .int a2] M P := by
  refine met_by hG (own := RX7) rfl (by decide +kernel) (Nat.le_of_ble_eq_true rfl) (fun E hE X Y => ?_)
  show J G E 3 0 [(0, .ref (adr G 7 0)), (1, .int a1), (2, .int a2)] [] M
  unfold wp_X7_netOf at h
  refine j_aload_n X 0 dX7_netOf_0 rfl rfl ?_
  refine j_iload_n X 1 dX7_netOf_1 rfl rfl ?_
  refine j_iload_n X 2 dX7_netOf_2 rfl rfl ?_
  refine jc_RX7_151 X ⟨Nat.le_of_ble_eq_true rfl, Nat.le_of_ble_eq_true rfl⟩ (Nat.le_of_ble_eq_true rfl) dX7_netOf_3 h (fun r2 M1 h => ?_)
  refine j_aload_n X 0 dX7_netOf_6 rfl rfl ?_
  refine j_iload_n X 1 dX7_netOf_7 rfl rfl ?_
  refine j_iload_n X 2 dX7_netOf_8 rfl rfl ?_
  refine jc_RX7_157 X ⟨Nat.le_of_ble_eq_true rfl, Nat.le_of_ble_eq_true rfl⟩ (Nat.le_of_ble_eq_true rfl) dX7_netOf_9 h (fun r4 M3 h => ?_)
  refine j_isub X dX7_netOf_12 ?_
  exact j_iret X Y dX7_netOf_13 h
theorem jc_RX7_163 {G : GT} {E : ET} {cc : ByteArray} {nL pc : Nat} {rm : Room} {lv : List (Nat × Value)} {st : List Value} {M : Mm} (X : CX G E RX7 cc nL rm) (hR : 4 + 1 ≤ rm.frames ∧ 8 + (3 + 11) + 94 ≤ rm.locals) (hst : (st.map fun v => v.category).sum ≤ 8) (d : decode cc pc = .ok (.invokevirtual 163, 3)) {a1 : Int32} {a2 : Int32} {P : Int32 → Mm → Prop} (h : wp_X7_netOf a1 a2 M P) (k1 : ∀ (r : Int32) (M2 : Mm), P r M2 → J G E nL (pc + 3) lv (.int r :: st) M2) : J G E nL pc lv (.int a2 :: .int a1 :: .ref (adr G 7 0) :: st) M := fun H locs ls hP hS hl => by
  have hK := X.2.2.2.2.2.1.1
  have hm := met_X7_netOf (l := eL E) X.2.2.2.2.2.2.1 a1 a2 M P h
  have hR2 : 4 + 1 ≤ (eR E).frames ∧ 8 + (3 + 11) + 94 ≤ (eR E).locals := by rw [X.2.2.2.2.2.2.2.1]; exact hR
  have hC2 : eCells E + 0 ≤ (eR E).cells ∧ eSlots E + 0 ≤ (eR E).slots := by rw [X.2.2.2.2.2.2.2.1]; exact ⟨X.2.2.2.2.2.2.2.2.1, X.2.2.2.2.2.2.2.2.2⟩
  obtain ⟨q0, -, hq⟩ := wld_get (G := G) M (mw7 0 (by decide))
  exact va_calli (va_runV (C := RX7) (As := [.int a1, .int a2]) (rest := st) ⟨X.1, X.2.1, X.2.2.1, X.2.2.2.1, X.2.2.2.2.1⟩ hm (cwV (ws' := lw_aw) 2 X.2.2.2.2.1 (gwV (tw (i := 1077) (by decide +kernel)) (tw (i := 1079) (by decide +kernel)) (tw (i := 40) (by decide +kernel)) (tw (i := 78) (by decide +kernel)) (tw (i := 1080) (by decide +kernel))) rfl rfl rfl (by decide +kernel) hR2) ⟨hr_blind, va_recv hK hP (ci := 7) (q := (RX7, TX7, 15)) (fs := objF7 G 0 (M.1 7 0)) (q0 := q0) rfl hq, fun U hU hW => ⟨rfl, by rw [hU]; exact hP, KK.warm hW X.2.2.2.2.2.1⟩⟩ rfl rfl hl.1 rfl (lv_room hst) d hC2) hS (fun q _ h => h) (fun q h => h) (fun r u t H1 locs1 ht hvm hw hB hz1 hk1 hS1 => k1 r u hw H1 locs1 ls (by rw [← ht]; exact hB.1) hS1 hl)
/-- LayeredClaimsModel.leftAt(II)I -/
def wp_X7_leftAt (a1 : Int32) (a2 : Int32) (M : Mm) (P : Int32 → Mm → Prop) : Prop := (vp_in (((8 : Int32) + ((4 : Int32) * a2)) + (1 : Int32)) 136 ∧ (∀ x2 : Int32, x2 = (rd M 160 0 (((8 : Int32) + ((4 : Int32) * a2)) + (1 : Int32)).toNatClampNeg) → (∃ n, lq3 (fun self3 (x5 : Int32) (x6 : Int32) (M7 : Mm) => ((a1 ≤ x6 → P x5 M7) ∧ (¬ a1 ≤ x6 → (wp_X7_eventOn x6 M7 (fun (r10 : Int32) (M9 : Mm) => (wp_X7_netOf r10 a2 M9 (fun (r12 : Int32) (M11 : Mm) => (∀ x13 : Int32, x13 = (x5 - (if r12 < x5 then r12 else x5)) → (∀ x14 : Int32, x14 = x6 + (1 : Int32) → self3 x13 x14 M11))))))))) n x2 (0 : Int32) M)))
set_option maxHeartbeats 4000000 in
set_option maxRecDepth 100000 in
theorem met_X7_leftAt {l : Launch} {G : GT} (hG : GD G) (a1 : Int32) (a2 : Int32) (M : Mm) (P : Int32 → Mm → Prop) (h : wp_X7_leftAt a1 a2 M P) : MI l G yX7_leftAt cX7_leftAt 5 (some .int) ({ frames := 5, cells := 0, slots := 0, locals := 116 } : Room) [.ref (adr G 7 0), .int a1, .int a2] M P := by
  refine met_by hG (own := RX7) rfl (by decide +kernel) (Nat.le_of_ble_eq_true rfl) (fun E hE X Y => ?_)
  show J G E 5 0 [(0, .ref (adr G 7 0)), (1, .int a1), (2, .int a2)] [] M
  unfold wp_X7_leftAt at h
  refine j_aload_n X 0 dX7_leftAt_0 rfl rfl ?_
  refine jf_RX7_9 X  dX7_leftAt_1 ?_
  refine j_bipush (v := (8 : Int32)) X (by decide) dX7_leftAt_4 ?_
  refine j_iconst (v := (4 : Int32)) X (by decide) dX7_leftAt_6 ?_
  refine j_iload_n X 2 dX7_leftAt_7 rfl rfl ?_
  refine j_imul X dX7_leftAt_8 ?_
  refine j_iadd X dX7_leftAt_9 ?_
  refine j_iconst (v := (1 : Int32)) X (by decide) dX7_leftAt_10 ?_
  refine j_iadd X dX7_leftAt_11 ?_
  have q1 := h.1
  replace h := h.2
  refine j_iald X _ rfl (mw160 0 (by decide)) kt160 lt160 q1 dX7_leftAt_12 ?_
  refine j_topi (fun x2 ex2 => ?_)
  replace h := h x2 ex2
  refine j_istore_n X [(3, .int x2), (0, .ref (adr G 7 0)), (1, .int a1), (2, .int a2)] dX7_leftAt_13 rfl (by decide) rfl ?_
  refine j_iconst (v := (0 : Int32)) X (by decide) dX7_leftAt_14 ?_
  refine j_istore X [(4, .int (0 : Int32)), (3, .int x2), (0, .ref (adr G 7 0)), (1, .int a1), (2, .int a2)] dX7_leftAt_15 (by decide) rfl ?_
  refine j_sub [2, 3, 4, 1, 0] rfl ?_
  refine lq3_s h (fun (x5 : Int32) (x6 : Int32) (M7 : Mm) => J G E 5 17 [(0, .ref (adr G 7 0)), (1, .int a1), (2, .int a2), (3, .int x5), (4, .int x6)] [] M7) (fun self3 ih4 x5 x6 M7 h => ?_) id
  refine j_iload X 4 dX7_leftAt_17 rfl ?_
  refine j_iload_n X 1 dX7_leftAt_19 rfl rfl ?_
  refine j_icmp_ge X 47 dX7_leftAt_20 (by decide) (fun c8 => ?_) (fun c8 => ?_)
  · replace h := h.1 c8
    refine j_iload_n X 3 dX7_leftAt_47 rfl rfl ?_
    exact j_iret X Y dX7_leftAt_48 h
  · replace h := h.2 c8
    refine j_iload_n X 3 dX7_leftAt_23 rfl rfl ?_
    refine j_iload_n X 3 dX7_leftAt_24 rfl rfl ?_
    refine j_aload_n X 0 dX7_leftAt_25 rfl rfl ?_
    refine j_aload_n X 0 dX7_leftAt_26 rfl rfl ?_
    refine j_iload X 4 dX7_leftAt_27 rfl ?_
    refine jc_RX7_160 X ⟨Nat.le_of_ble_eq_true rfl, Nat.le_of_ble_eq_true rfl⟩ (Nat.le_of_ble_eq_true rfl) dX7_leftAt_29 h (fun r10 M9 h => ?_)
    refine j_iload_n X 2 dX7_leftAt_32 rfl rfl ?_
    refine jc_RX7_163 X ⟨Nat.le_of_ble_eq_true rfl, Nat.le_of_ble_eq_true rfl⟩ (Nat.le_of_ble_eq_true rfl) dX7_leftAt_33 h (fun r12 M11 h => ?_)
    refine j_min X (tw (i := 1098) (by decide +kernel)) (Nat.le_of_ble_eq_true rfl) (Nat.le_of_ble_eq_true rfl) dX7_leftAt_36 ?_
    refine j_isub X dX7_leftAt_39 ?_
    refine j_topi (fun x13 ex13 => ?_)
    replace h := h x13 ex13
    refine j_istore_n X [(3, .int x13), (0, .ref (adr G 7 0)), (1, .int a1), (2, .int a2), (4, .int x6)] dX7_leftAt_40 rfl (by decide) rfl ?_
    obtain ⟨x14, ex14⟩ : ∃ z : Int32, z = x6 + (1 : Int32) := ⟨_, rfl⟩
    replace h := h x14 ex14
    refine j_iinc (v := x14) X 4 [(4, .int x14), (3, .int x13), (0, .ref (adr G 7 0)), (1, .int a1), (2, .int a2)] dX7_leftAt_41 rfl (by rw [ex14]; rfl) (by decide) rfl ?_
    refine j_goto X 17 dX7_leftAt_44 (by decide) ?_
    refine j_sub [2, 3, 4, 1, 0] rfl ?_
    exact ih4 x13 x14 M11 h
theorem jc_RX7_166 {G : GT} {E : ET} {cc : ByteArray} {nL pc : Nat} {rm : Room} {lv : List (Nat × Value)} {st : List Value} {M : Mm} (X : CX G E RX7 cc nL rm) (hR : 5 + 1 ≤ rm.frames ∧ 8 + (5 + 11) + 116 ≤ rm.locals) (hst : (st.map fun v => v.category).sum ≤ 8) (d : decode cc pc = .ok (.invokevirtual 166, 3)) {a1 : Int32} {a2 : Int32} {P : Int32 → Mm → Prop} (h : wp_X7_leftAt a1 a2 M P) (k1 : ∀ (r : Int32) (M2 : Mm), P r M2 → J G E nL (pc + 3) lv (.int r :: st) M2) : J G E nL pc lv (.int a2 :: .int a1 :: .ref (adr G 7 0) :: st) M := fun H locs ls hP hS hl => by
  have hK := X.2.2.2.2.2.1.1
  have hm := met_X7_leftAt (l := eL E) X.2.2.2.2.2.2.1 a1 a2 M P h
  have hR2 : 5 + 1 ≤ (eR E).frames ∧ 8 + (5 + 11) + 116 ≤ (eR E).locals := by rw [X.2.2.2.2.2.2.2.1]; exact hR
  have hC2 : eCells E + 0 ≤ (eR E).cells ∧ eSlots E + 0 ≤ (eR E).slots := by rw [X.2.2.2.2.2.2.2.1]; exact ⟨X.2.2.2.2.2.2.2.2.1, X.2.2.2.2.2.2.2.2.2⟩
  obtain ⟨q0, -, hq⟩ := wld_get (G := G) M (mw7 0 (by decide))
  exact va_calli (va_runV (C := RX7) (As := [.int a1, .int a2]) (rest := st) ⟨X.1, X.2.1, X.2.2.1, X.2.2.2.1, X.2.2.2.2.1⟩ hm (cwV (ws' := lw_aw) 2 X.2.2.2.2.1 (gwV (tw (i := 1061) (by decide +kernel)) (tw (i := 1063) (by decide +kernel)) (tw (i := 36) (by decide +kernel)) (tw (i := 78) (by decide +kernel)) (tw (i := 1064) (by decide +kernel))) rfl rfl rfl (by decide +kernel) hR2) ⟨hr_blind, va_recv hK hP (ci := 7) (q := (RX7, TX7, 15)) (fs := objF7 G 0 (M.1 7 0)) (q0 := q0) rfl hq, fun U hU hW => ⟨rfl, by rw [hU]; exact hP, KK.warm hW X.2.2.2.2.2.1⟩⟩ rfl rfl hl.1 rfl (lv_room hst) d hC2) hS (fun q _ h => h) (fun q h => h) (fun r u t H1 locs1 ht hvm hw hB hz1 hk1 hS1 => k1 r u hw H1 locs1 ls (by rw [← ht]; exact hB.1) hS1 hl)
