/-- LayeredClaimsModel.paidOf(II)I -/
def wp_X7_paidOf (a1 : Int32) (a2 : Int32) (M : Mm) (P : Int32 → Mm → Prop) : Prop := (wp_X7_netOf a1 a2 M (fun (r2 : Int32) (M1 : Mm) => (wp_X7_positionOf a1 M1 (fun (r4 : Int32) (M3 : Mm) => (wp_X7_leftAt r4 a2 M3 (fun (r6 : Int32) (M5 : Mm) => P (if r6 < r2 then r6 else r2) M5))))))
set_option maxHeartbeats 4000000 in
set_option maxRecDepth 100000 in
theorem met_X7_paidOf {l : Launch} {G : GT} (hG : GD G) (a1 : Int32) (a2 : Int32) (M : Mm) (P : Int32 → Mm → Prop) (h : wp_X7_paidOf a1 a2 M P) : MI l G yX7_paidOf cX7_paidOf 3 (some .int) ({ frames := 6, cells := 0, slots := 0, locals := 140 } : Room) [.ref (adr G 7 0), .int a1, .int a2] M P := by
  refine met_by hG (own := RX7) rfl (by decide +kernel) (Nat.le_of_ble_eq_true rfl) (fun E hE X Y => ?_)
  show J G E 3 0 [(0, .ref (adr G 7 0)), (1, .int a1), (2, .int a2)] [] M
  unfold wp_X7_paidOf at h
  refine j_aload_n X 0 dX7_paidOf_0 rfl rfl ?_
  refine j_iload_n X 1 dX7_paidOf_1 rfl rfl ?_
  refine j_iload_n X 2 dX7_paidOf_2 rfl rfl ?_
  refine jc_RX7_163 X ⟨Nat.le_of_ble_eq_true rfl, Nat.le_of_ble_eq_true rfl⟩ (Nat.le_of_ble_eq_true rfl) dX7_paidOf_3 h (fun r2 M1 h => ?_)
  refine j_aload_n X 0 dX7_paidOf_6 rfl rfl ?_
  refine j_aload_n X 0 dX7_paidOf_7 rfl rfl ?_
  refine j_iload_n X 1 dX7_paidOf_8 rfl rfl ?_
  refine jc_RX7_133 X ⟨Nat.le_of_ble_eq_true rfl, Nat.le_of_ble_eq_true rfl⟩ (Nat.le_of_ble_eq_true rfl) dX7_paidOf_9 h (fun r4 M3 h => ?_)
  refine j_iload_n X 2 dX7_paidOf_12 rfl rfl ?_
  refine jc_RX7_166 X ⟨Nat.le_of_ble_eq_true rfl, Nat.le_of_ble_eq_true rfl⟩ (Nat.le_of_ble_eq_true rfl) dX7_paidOf_13 h (fun r6 M5 h => ?_)
  refine j_min X (tw (i := 1098) (by decide +kernel)) (Nat.le_of_ble_eq_true rfl) (Nat.le_of_ble_eq_true rfl) dX7_paidOf_16 ?_
  exact j_iret X Y dX7_paidOf_19 h
theorem jc_RX7_169 {G : GT} {E : ET} {cc : ByteArray} {nL pc : Nat} {rm : Room} {lv : List (Nat × Value)} {st : List Value} {M : Mm} (X : CX G E RX7 cc nL rm) (hR : 6 + 1 ≤ rm.frames ∧ 8 + (3 + 11) + 140 ≤ rm.locals) (hst : (st.map fun v => v.category).sum ≤ 8) (d : decode cc pc = .ok (.invokevirtual 169, 3)) {a1 : Int32} {a2 : Int32} {P : Int32 → Mm → Prop} (h : wp_X7_paidOf a1 a2 M P) (k1 : ∀ (r : Int32) (M2 : Mm), P r M2 → J G E nL (pc + 3) lv (.int r :: st) M2) : J G E nL pc lv (.int a2 :: .int a1 :: .ref (adr G 7 0) :: st) M := fun H locs ls hP hS hl => by
  have hK := X.2.2.2.2.2.1.1
  have hm := met_X7_paidOf (l := eL E) X.2.2.2.2.2.2.1 a1 a2 M P h
  have hR2 : 6 + 1 ≤ (eR E).frames ∧ 8 + (3 + 11) + 140 ≤ (eR E).locals := by rw [X.2.2.2.2.2.2.2.1]; exact hR
  have hC2 : eCells E + 0 ≤ (eR E).cells ∧ eSlots E + 0 ≤ (eR E).slots := by rw [X.2.2.2.2.2.2.2.1]; exact ⟨X.2.2.2.2.2.2.2.2.1, X.2.2.2.2.2.2.2.2.2⟩
  obtain ⟨q0, -, hq⟩ := wld_get (G := G) M (mw7 0 (by decide))
  exact va_calli (va_runV (C := RX7) (As := [.int a1, .int a2]) (rest := st) ⟨X.1, X.2.1, X.2.2.1, X.2.2.2.1, X.2.2.2.2.1⟩ hm (cwV (ws' := lw_aw) 2 X.2.2.2.2.1 (gwV (tw (i := 1139) (by decide +kernel)) (tw (i := 1141) (by decide +kernel)) (tw (i := 54) (by decide +kernel)) (tw (i := 78) (by decide +kernel)) (tw (i := 1142) (by decide +kernel))) rfl rfl rfl (by decide +kernel) hR2) ⟨hr_blind, va_recv hK hP (ci := 7) (q := (RX7, TX7, 15)) (fs := objF7 G 0 (M.1 7 0)) (q0 := q0) rfl hq, fun U hU hW => ⟨rfl, by rw [hU]; exact hP, KK.warm hW X.2.2.2.2.2.1⟩⟩ rfl rfl hl.1 rfl (lv_room hst) d hC2) hS (fun q _ h => h) (fun q h => h) (fun r u t H1 locs1 ht hvm hw hB hz1 hk1 hS1 => k1 r u hw H1 locs1 ls (by rw [← ht]; exact hB.1) hS1 hl)
/-- LayeredClaimsModel.paidFor(I)I -/
def wp_X7_paidFor (a1 : Int32) (M : Mm) (P : Int32 → Mm → Prop) : Prop := (vp_in ((64 : Int32) + ((3 : Int32) * a1)) 136 ∧ (∀ x2 : Int32, x2 = (rd M 160 0 ((64 : Int32) + ((3 : Int32) * a1)).toNatClampNeg) → (vp_in (((64 : Int32) + ((3 : Int32) * a1)) + (1 : Int32)) 136 ∧ (∀ x4 : Int32, x4 = (rd M 160 0 (((64 : Int32) + ((3 : Int32) * a1)) + (1 : Int32)).toNatClampNeg) → (wp_X7_paidOf x2 x4 M (fun (r6 : Int32) (M5 : Mm) => (∃ n, lq2 (fun self7 (x9 : Int32) (M10 : Mm) => (((rd M10 160 0 3) ≤ x9 → (wp_X7_shareOf r6 (rd M10 160 0 3) a1 M10 (fun (r13 : Int32) (M12 : Mm) => P r13 M12))) ∧ (¬ (rd M10 160 0 3) ≤ x9 → (wp_X7_isOf x9 x2 x4 M10 (fun (r15 : Int32) (M14 : Mm) => (jn (fun (v16 : Int32) (M17 : Mm) => (vp_in x9 24 ∧ (∀ M21 : Mm, M21 = wr M17 172 0 x9.toNatClampNeg v16 → (∀ x22 : Int32, x22 = x9 + (1 : Int32) → self7 x22 M21)))) (fun J18 : Int32 → Mm → Prop => ((r15 = 0 → J18 (0 : Int32) M14) ∧ (¬ r15 = 0 → (wp_X7_lossOf x9 M14 (fun (r25 : Int32) (M24 : Mm) => J18 r25 M24))))))))))) n (0 : Int32) M5)))))))
set_option maxHeartbeats 4000000 in
set_option maxRecDepth 100000 in
theorem met_X7_paidFor {l : Launch} {G : GT} (hG : GD G) (a1 : Int32) (M : Mm) (P : Int32 → Mm → Prop) (h : wp_X7_paidFor a1 M P) : MI l G yX7_paidFor cX7_paidFor 6 (some .int) ({ frames := 7, cells := 0, slots := 0, locals := 162 } : Room) [.ref (adr G 7 0), .int a1] M P := by
  refine met_by hG (own := RX7) rfl (by decide +kernel) (Nat.le_of_ble_eq_true rfl) (fun E hE X Y => ?_)
  show J G E 6 0 [(0, .ref (adr G 7 0)), (1, .int a1)] [] M
  unfold wp_X7_paidFor at h
  refine j_aload_n X 0 dX7_paidFor_0 rfl rfl ?_
  refine jf_RX7_9 X  dX7_paidFor_1 ?_
  refine j_bipush (v := (64 : Int32)) X (by decide) dX7_paidFor_4 ?_
  refine j_iconst (v := (3 : Int32)) X (by decide) dX7_paidFor_6 ?_
  refine j_iload_n X 1 dX7_paidFor_7 rfl rfl ?_
  refine j_imul X dX7_paidFor_8 ?_
  refine j_iadd X dX7_paidFor_9 ?_
  have q1 := h.1
  replace h := h.2
  refine j_iald X _ rfl (mw160 0 (by decide)) kt160 lt160 q1 dX7_paidFor_10 ?_
  refine j_topi (fun x2 ex2 => ?_)
  replace h := h x2 ex2
  refine j_istore_n X [(2, .int x2), (0, .ref (adr G 7 0)), (1, .int a1)] dX7_paidFor_11 rfl (by decide) rfl ?_
  refine j_aload_n X 1 dX7_paidFor_12 rfl rfl ?_
  refine jf_RX7_9 X  dX7_paidFor_13 ?_
  refine j_bipush (v := (64 : Int32)) X (by decide) dX7_paidFor_16 ?_
  refine j_iconst (v := (3 : Int32)) X (by decide) dX7_paidFor_18 ?_
  refine j_iload_n X 2 dX7_paidFor_19 rfl rfl ?_
  refine j_imul X dX7_paidFor_20 ?_
  refine j_iadd X dX7_paidFor_21 ?_
  refine j_iconst (v := (1 : Int32)) X (by decide) dX7_paidFor_22 ?_
  refine j_iadd X dX7_paidFor_23 ?_
  have q3 := h.1
  replace h := h.2
  refine j_iald X _ rfl (mw160 0 (by decide)) kt160 lt160 q3 dX7_paidFor_24 ?_
  refine j_topi (fun x4 ex4 => ?_)
  replace h := h x4 ex4
  refine j_istore_n X [(3, .int x4), (2, .int x2), (0, .ref (adr G 7 0)), (1, .int a1)] dX7_paidFor_25 rfl (by decide) rfl ?_
  refine j_aload_n X 2 dX7_paidFor_26 rfl rfl ?_
  refine j_iload_n X 1 dX7_paidFor_27 rfl rfl ?_
  refine j_iload_n X 0 dX7_paidFor_28 rfl rfl ?_
  refine jc_RX7_169 X ⟨Nat.le_of_ble_eq_true rfl, Nat.le_of_ble_eq_true rfl⟩ (Nat.le_of_ble_eq_true rfl) dX7_paidFor_29 h (fun r6 M5 h => ?_)
  refine j_istore X [(4, .int r6), (3, .int x4), (2, .int x2), (0, .ref (adr G 7 0)), (1, .int a1)] dX7_paidFor_32 (by decide) rfl ?_
  refine j_iconst (v := (0 : Int32)) X (by decide) dX7_paidFor_34 ?_
  refine j_istore X [(5, .int (0 : Int32)), (4, .int r6), (3, .int x4), (2, .int x2), (0, .ref (adr G 7 0)), (1, .int a1)] dX7_paidFor_35 (by decide) rfl ?_
  refine j_sub [4, 5, 3, 2, 1, 0] rfl ?_
  refine lq2_s h (fun (x9 : Int32) (M10 : Mm) => J G E 6 37 [(0, .ref (adr G 7 0)), (1, .int a1), (2, .int x2), (3, .int x4), (4, .int r6), (5, .int x9)] [] M10) (fun self7 ih8 x9 M10 h => ?_) id
  refine j_iload X 5 dX7_paidFor_37 rfl ?_
  refine j_aload_n X 0 dX7_paidFor_39 rfl rfl ?_
  refine jf_RX7_9 X  dX7_paidFor_40 ?_
  refine j_iconst (v := (3 : Int32)) X (by decide) dX7_paidFor_43 ?_
  refine j_iald X 3 (by decide) (mw160 0 (by decide)) kt160 lt160 (vpc (by decide)) dX7_paidFor_44 ?_
  refine j_icmp_ge X 82 dX7_paidFor_45 (by decide) (fun c11 => ?_) (fun c11 => ?_)
  · replace h := h.1 c11
    refine j_aload_n X 0 dX7_paidFor_82 rfl rfl ?_
    refine j_iload X 4 dX7_paidFor_83 rfl ?_
    refine j_aload_n X 0 dX7_paidFor_85 rfl rfl ?_
    refine jf_RX7_9 X  dX7_paidFor_86 ?_
    refine j_iconst (v := (3 : Int32)) X (by decide) dX7_paidFor_89 ?_
    refine j_iald X 3 (by decide) (mw160 0 (by decide)) kt160 lt160 (vpc (by decide)) dX7_paidFor_90 ?_
    refine j_iload_n X 1 dX7_paidFor_91 rfl rfl ?_
    refine jc_RX7_154 X ⟨Nat.le_of_ble_eq_true rfl, Nat.le_of_ble_eq_true rfl⟩ (Nat.le_of_ble_eq_true rfl) dX7_paidFor_92 h (fun r13 M12 h => ?_)
    exact j_iret X Y dX7_paidFor_95 h
  · replace h := h.2 c11
    refine j_aload_n X 0 dX7_paidFor_48 rfl rfl ?_
    refine jf_RX7_48 X  dX7_paidFor_49 ?_
    refine j_iload X 5 dX7_paidFor_52 rfl ?_
    refine j_aload_n X 0 dX7_paidFor_54 rfl rfl ?_
    refine j_iload X 5 dX7_paidFor_55 rfl ?_
    refine j_iload_n X 2 dX7_paidFor_57 rfl rfl ?_
    refine j_iload_n X 3 dX7_paidFor_58 rfl rfl ?_
    refine jc_RX7_137 X ⟨Nat.le_of_ble_eq_true rfl, Nat.le_of_ble_eq_true rfl⟩ (Nat.le_of_ble_eq_true rfl) dX7_paidFor_59 h (fun r15 M14 h => ?_)
    refine jn2_s h (fun (v16 : Int32) (M17 : Mm) => J G E 6 75 [(0, .ref (adr G 7 0)), (1, .int a1), (2, .int x2), (3, .int x4), (4, .int r6), (5, .int x9)] [.int v16, .int x9, .ref (adr G 172 0)] M17) (fun v16 M17 h => ?_) (fun J18 hj19 h => ?_)
    · have q20 := h.1
      replace h := h.2
      refine j_iast X _ rfl (mw172 0 (by decide)) kt172 lt172 q20 dX7_paidFor_75 ?_
      refine j_memo (fun M21 eM21 => ?_)
      replace h := h M21 eM21
      obtain ⟨x22, ex22⟩ : ∃ z : Int32, z = x9 + (1 : Int32) := ⟨_, rfl⟩
      replace h := h x22 ex22
      refine j_iinc (v := x22) X 5 [(5, .int x22), (0, .ref (adr G 7 0)), (1, .int a1), (2, .int x2), (3, .int x4), (4, .int r6)] dX7_paidFor_76 rfl (by rw [ex22]; rfl) (by decide) rfl ?_
      refine j_goto X 37 dX7_paidFor_79 (by decide) ?_
      refine j_sub [1, 2, 3, 4, 5, 0] rfl ?_
      exact ih8 x22 M21 h
    · refine j_if_eq X 74 dX7_paidFor_62 (by decide) (fun c23 => ?_) (fun c23 => ?_)
      · replace h := h.1 c23
        refine j_iconst (v := (0 : Int32)) X (by decide) dX7_paidFor_74 ?_
        refine j_sub [0, 1, 2, 3, 4, 5] rfl ?_
        exact hj19 (0 : Int32) M14 h
      · replace h := h.2 c23
        refine j_aload_n X 0 dX7_paidFor_65 rfl rfl ?_
        refine j_iload X 5 dX7_paidFor_66 rfl ?_
        refine jc_RX7_140 X ⟨Nat.le_of_ble_eq_true rfl, Nat.le_of_ble_eq_true rfl⟩ (Nat.le_of_ble_eq_true rfl) dX7_paidFor_68 h (fun r25 M24 h => ?_)
        refine j_goto X 75 dX7_paidFor_71 (by decide) ?_
        refine j_sub [0, 1, 2, 3, 4, 5] rfl ?_
        exact hj19 r25 M24 h
theorem jc_RX7_217 {G : GT} {E : ET} {cc : ByteArray} {nL pc : Nat} {rm : Room} {lv : List (Nat × Value)} {st : List Value} {M : Mm} (X : CX G E RX7 cc nL rm) (hR : 7 + 1 ≤ rm.frames ∧ 8 + (6 + 11) + 162 ≤ rm.locals) (hst : (st.map fun v => v.category).sum ≤ 8) (d : decode cc pc = .ok (.invokevirtual 217, 3)) {a1 : Int32} {P : Int32 → Mm → Prop} (h : wp_X7_paidFor a1 M P) (k1 : ∀ (r : Int32) (M2 : Mm), P r M2 → J G E nL (pc + 3) lv (.int r :: st) M2) : J G E nL pc lv (.int a1 :: .ref (adr G 7 0) :: st) M := fun H locs ls hP hS hl => by
  have hK := X.2.2.2.2.2.1.1
  have hm := met_X7_paidFor (l := eL E) X.2.2.2.2.2.2.1 a1 M P h
  have hR2 : 7 + 1 ≤ (eR E).frames ∧ 8 + (6 + 11) + 162 ≤ (eR E).locals := by rw [X.2.2.2.2.2.2.2.1]; exact hR
  have hC2 : eCells E + 0 ≤ (eR E).cells ∧ eSlots E + 0 ≤ (eR E).slots := by rw [X.2.2.2.2.2.2.2.1]; exact ⟨X.2.2.2.2.2.2.2.2.1, X.2.2.2.2.2.2.2.2.2⟩
  obtain ⟨q0, -, hq⟩ := wld_get (G := G) M (mw7 0 (by decide))
  exact va_calli (va_runV (C := RX7) (As := [.int a1]) (rest := st) ⟨X.1, X.2.1, X.2.2.1, X.2.2.2.1, X.2.2.2.2.1⟩ hm (cwV (ws' := lw_aw) 1 X.2.2.2.2.1 (gwV (tw (i := 1184) (by decide +kernel)) (tw (i := 1186) (by decide +kernel)) (tw (i := 61) (by decide +kernel)) (tw (i := 78) (by decide +kernel)) (tw (i := 1187) (by decide +kernel))) rfl rfl rfl (by decide +kernel) hR2) ⟨hr_blind, va_recv hK hP (ci := 7) (q := (RX7, TX7, 15)) (fs := objF7 G 0 (M.1 7 0)) (q0 := q0) rfl hq, fun U hU hW => ⟨rfl, by rw [hU]; exact hP, KK.warm hW X.2.2.2.2.2.1⟩⟩ rfl rfl hl.1 rfl (lv_room hst) d hC2) hS (fun q _ h => h) (fun q h => h) (fun r u t H1 locs1 ht hvm hw hB hz1 hk1 hS1 => k1 r u hw H1 locs1 ls (by rw [← ht]; exact hB.1) hS1 hl)
/-- LayeredClaimsModel.paidByAll(I)I -/
def wp_X7_paidByAll (a1 : Int32) (M : Mm) (P : Int32 → Mm → Prop) : Prop := (∃ n, lq3 (fun self1 (x3 : Int32) (x4 : Int32) (M5 : Mm) => (((rd M5 160 0 0) ≤ x4 → P x3 M5) ∧ (¬ (rd M5 160 0 0) ≤ x4 → (wp_X7_paidOf a1 x4 M5 (fun (r8 : Int32) (M7 : Mm) => (∀ x9 : Int32, x9 = (x3 + r8) → (∀ x10 : Int32, x10 = x4 + (1 : Int32) → self1 x9 x10 M7))))))) n (0 : Int32) (0 : Int32) M)
set_option maxHeartbeats 4000000 in
set_option maxRecDepth 100000 in
theorem met_X7_paidByAll {l : Launch} {G : GT} (hG : GD G) (a1 : Int32) (M : Mm) (P : Int32 → Mm → Prop) (h : wp_X7_paidByAll a1 M P) : MI l G yX7_paidByAll cX7_paidByAll 4 (some .int) ({ frames := 7, cells := 0, slots := 0, locals := 162 } : Room) [.ref (adr G 7 0), .int a1] M P := by
  refine met_by hG (own := RX7) rfl (by decide +kernel) (Nat.le_of_ble_eq_true rfl) (fun E hE X Y => ?_)
  show J G E 4 0 [(0, .ref (adr G 7 0)), (1, .int a1)] [] M
  unfold wp_X7_paidByAll at h
  refine j_iconst (v := (0 : Int32)) X (by decide) dX7_paidByAll_0 ?_
  refine j_istore_n X [(2, .int (0 : Int32)), (0, .ref (adr G 7 0)), (1, .int a1)] dX7_paidByAll_1 rfl (by decide) rfl ?_
  refine j_iconst (v := (0 : Int32)) X (by decide) dX7_paidByAll_2 ?_
  refine j_istore_n X [(3, .int (0 : Int32)), (2, .int (0 : Int32)), (0, .ref (adr G 7 0)), (1, .int a1)] dX7_paidByAll_3 rfl (by decide) rfl ?_
  refine j_sub [2, 3, 1, 0] rfl ?_
  refine lq3_s h (fun (x3 : Int32) (x4 : Int32) (M5 : Mm) => J G E 4 4 [(0, .ref (adr G 7 0)), (1, .int a1), (2, .int x3), (3, .int x4)] [] M5) (fun self1 ih2 x3 x4 M5 h => ?_) id
  refine j_iload_n X 3 dX7_paidByAll_4 rfl rfl ?_
  refine j_aload_n X 0 dX7_paidByAll_5 rfl rfl ?_
  refine jf_RX7_9 X  dX7_paidByAll_6 ?_
  refine j_iconst (v := (0 : Int32)) X (by decide) dX7_paidByAll_9 ?_
  refine j_iald X 0 (by decide) (mw160 0 (by decide)) kt160 lt160 (vpc (by decide)) dX7_paidByAll_10 ?_
  refine j_icmp_ge X 29 dX7_paidByAll_11 (by decide) (fun c6 => ?_) (fun c6 => ?_)
  · replace h := h.1 c6
    refine j_iload_n X 2 dX7_paidByAll_29 rfl rfl ?_
    exact j_iret X Y dX7_paidByAll_30 h
  · replace h := h.2 c6
    refine j_iload_n X 2 dX7_paidByAll_14 rfl rfl ?_
    refine j_aload_n X 0 dX7_paidByAll_15 rfl rfl ?_
    refine j_iload_n X 1 dX7_paidByAll_16 rfl rfl ?_
    refine j_iload_n X 3 dX7_paidByAll_17 rfl rfl ?_
    refine jc_RX7_169 X ⟨Nat.le_of_ble_eq_true rfl, Nat.le_of_ble_eq_true rfl⟩ (Nat.le_of_ble_eq_true rfl) dX7_paidByAll_18 h (fun r8 M7 h => ?_)
    refine j_iadd X dX7_paidByAll_21 ?_
    refine j_topi (fun x9 ex9 => ?_)
    replace h := h x9 ex9
    refine j_istore_n X [(2, .int x9), (0, .ref (adr G 7 0)), (1, .int a1), (3, .int x4)] dX7_paidByAll_22 rfl (by decide) rfl ?_
    obtain ⟨x10, ex10⟩ : ∃ z : Int32, z = x4 + (1 : Int32) := ⟨_, rfl⟩
    replace h := h x10 ex10
    refine j_iinc (v := x10) X 3 [(3, .int x10), (2, .int x9), (0, .ref (adr G 7 0)), (1, .int a1)] dX7_paidByAll_23 rfl (by rw [ex10]; rfl) (by decide) rfl ?_
    refine j_goto X 4 dX7_paidByAll_26 (by decide) ?_
    refine j_sub [2, 3, 1, 0] rfl ?_
    exact ih2 x9 x10 M7 h
theorem jc_RX7_172 {G : GT} {E : ET} {cc : ByteArray} {nL pc : Nat} {rm : Room} {lv : List (Nat × Value)} {st : List Value} {M : Mm} (X : CX G E RX7 cc nL rm) (hR : 7 + 1 ≤ rm.frames ∧ 8 + (4 + 11) + 162 ≤ rm.locals) (hst : (st.map fun v => v.category).sum ≤ 8) (d : decode cc pc = .ok (.invokevirtual 172, 3)) {a1 : Int32} {P : Int32 → Mm → Prop} (h : wp_X7_paidByAll a1 M P) (k1 : ∀ (r : Int32) (M2 : Mm), P r M2 → J G E nL (pc + 3) lv (.int r :: st) M2) : J G E nL pc lv (.int a1 :: .ref (adr G 7 0) :: st) M := fun H locs ls hP hS hl => by
  have hK := X.2.2.2.2.2.1.1
  have hm := met_X7_paidByAll (l := eL E) X.2.2.2.2.2.2.1 a1 M P h
  have hR2 : 7 + 1 ≤ (eR E).frames ∧ 8 + (4 + 11) + 162 ≤ (eR E).locals := by rw [X.2.2.2.2.2.2.2.1]; exact hR
  have hC2 : eCells E + 0 ≤ (eR E).cells ∧ eSlots E + 0 ≤ (eR E).slots := by rw [X.2.2.2.2.2.2.2.1]; exact ⟨X.2.2.2.2.2.2.2.2.1, X.2.2.2.2.2.2.2.2.2⟩
  obtain ⟨q0, -, hq⟩ := wld_get (G := G) M (mw7 0 (by decide))
  exact va_calli (va_runV (C := RX7) (As := [.int a1]) (rest := st) ⟨X.1, X.2.1, X.2.2.1, X.2.2.2.1, X.2.2.2.2.1⟩ hm (cwV (ws' := lw_aw) 1 X.2.2.2.2.1 (gwV (tw (i := 1135) (by decide +kernel)) (tw (i := 1137) (by decide +kernel)) (tw (i := 53) (by decide +kernel)) (tw (i := 78) (by decide +kernel)) (tw (i := 1138) (by decide +kernel))) rfl rfl rfl (by decide +kernel) hR2) ⟨hr_blind, va_recv hK hP (ci := 7) (q := (RX7, TX7, 15)) (fs := objF7 G 0 (M.1 7 0)) (q0 := q0) rfl hq, fun U hU hW => ⟨rfl, by rw [hU]; exact hP, KK.warm hW X.2.2.2.2.2.1⟩⟩ rfl rfl hl.1 rfl (lv_room hst) d hC2) hS (fun q _ h => h) (fun q h => h) (fun r u t H1 locs1 ht hvm hw hB hz1 hk1 hS1 => k1 r u hw H1 locs1 ls (by rw [← ht]; exact hB.1) hS1 hl)
/-- LayeredClaimsModel.burdenOf(I)I -/
def wp_X7_burdenOf (a1 : Int32) (M : Mm) (P : Int32 → Mm → Prop) : Prop := (wp_X7_paidByAll a1 M (fun (r2 : Int32) (M1 : Mm) => (vp_in ((56 : Int32) + a1) 136 ∧ P (if (0 : Int32) < (r2 - (rd M1 160 0 ((56 : Int32) + a1).toNatClampNeg)) then (r2 - (rd M1 160 0 ((56 : Int32) + a1).toNatClampNeg)) else (0 : Int32)) M1)))
set_option maxHeartbeats 4000000 in
set_option maxRecDepth 100000 in
theorem met_X7_burdenOf {l : Launch} {G : GT} (hG : GD G) (a1 : Int32) (M : Mm) (P : Int32 → Mm → Prop) (h : wp_X7_burdenOf a1 M P) : MI l G yX7_burdenOf cX7_burdenOf 2 (some .int) ({ frames := 8, cells := 0, slots := 0, locals := 185 } : Room) [.ref (adr G 7 0), .int a1] M P := by
  refine met_by hG (own := RX7) rfl (by decide +kernel) (Nat.le_of_ble_eq_true rfl) (fun E hE X Y => ?_)
  show J G E 2 0 [(0, .ref (adr G 7 0)), (1, .int a1)] [] M
  unfold wp_X7_burdenOf at h
  refine j_iconst (v := (0 : Int32)) X (by decide) dX7_burdenOf_0 ?_
  refine j_aload_n X 0 dX7_burdenOf_1 rfl rfl ?_
  refine j_iload_n X 1 dX7_burdenOf_2 rfl rfl ?_
  refine jc_RX7_172 X ⟨Nat.le_of_ble_eq_true rfl, Nat.le_of_ble_eq_true rfl⟩ (Nat.le_of_ble_eq_true rfl) dX7_burdenOf_3 h (fun r2 M1 h => ?_)
  refine j_aload_n X 0 dX7_burdenOf_6 rfl rfl ?_
  refine jf_RX7_9 X  dX7_burdenOf_7 ?_
  refine j_bipush (v := (56 : Int32)) X (by decide) dX7_burdenOf_10 ?_
  refine j_iload_n X 1 dX7_burdenOf_12 rfl rfl ?_
  refine j_iadd X dX7_burdenOf_13 ?_
  have q3 := h.1
  replace h := h.2
  refine j_iald X _ rfl (mw160 0 (by decide)) kt160 lt160 q3 dX7_burdenOf_14 ?_
  refine j_isub X dX7_burdenOf_15 ?_
  refine j_max X (tw (i := 1143) (by decide +kernel)) (Nat.le_of_ble_eq_true rfl) (Nat.le_of_ble_eq_true rfl) dX7_burdenOf_16 ?_
  exact j_iret X Y dX7_burdenOf_19 h
theorem jc_RX7_178 {G : GT} {E : ET} {cc : ByteArray} {nL pc : Nat} {rm : Room} {lv : List (Nat × Value)} {st : List Value} {M : Mm} (X : CX G E RX7 cc nL rm) (hR : 8 + 1 ≤ rm.frames ∧ 8 + (2 + 11) + 185 ≤ rm.locals) (hst : (st.map fun v => v.category).sum ≤ 8) (d : decode cc pc = .ok (.invokevirtual 178, 3)) {a1 : Int32} {P : Int32 → Mm → Prop} (h : wp_X7_burdenOf a1 M P) (k1 : ∀ (r : Int32) (M2 : Mm), P r M2 → J G E nL (pc + 3) lv (.int r :: st) M2) : J G E nL pc lv (.int a1 :: .ref (adr G 7 0) :: st) M := fun H locs ls hP hS hl => by
  have hK := X.2.2.2.2.2.1.1
  have hm := met_X7_burdenOf (l := eL E) X.2.2.2.2.2.2.1 a1 M P h
  have hR2 : 8 + 1 ≤ (eR E).frames ∧ 8 + (2 + 11) + 185 ≤ (eR E).locals := by rw [X.2.2.2.2.2.2.2.1]; exact hR
  have hC2 : eCells E + 0 ≤ (eR E).cells ∧ eSlots E + 0 ≤ (eR E).slots := by rw [X.2.2.2.2.2.2.2.1]; exact ⟨X.2.2.2.2.2.2.2.2.1, X.2.2.2.2.2.2.2.2.2⟩
  obtain ⟨q0, -, hq⟩ := wld_get (G := G) M (mw7 0 (by decide))
  exact va_calli (va_runV (C := RX7) (As := [.int a1]) (rest := st) ⟨X.1, X.2.1, X.2.2.1, X.2.2.2.1, X.2.2.2.2.1⟩ hm (cwV (ws' := lw_aw) 1 X.2.2.2.2.1 (gwV (tw (i := 1131) (by decide +kernel)) (tw (i := 1133) (by decide +kernel)) (tw (i := 52) (by decide +kernel)) (tw (i := 78) (by decide +kernel)) (tw (i := 1134) (by decide +kernel))) rfl rfl rfl (by decide +kernel) hR2) ⟨hr_blind, va_recv hK hP (ci := 7) (q := (RX7, TX7, 15)) (fs := objF7 G 0 (M.1 7 0)) (q0 := q0) rfl hq, fun U hU hW => ⟨rfl, by rw [hU]; exact hP, KK.warm hW X.2.2.2.2.2.1⟩⟩ rfl rfl hl.1 rfl (lv_room hst) d hC2) hS (fun q _ h => h) (fun q h => h) (fun r u t H1 locs1 ht hvm hw hB hz1 hk1 hS1 => k1 r u hw H1 locs1 ls (by rw [← ht]; exact hB.1) hS1 hl)
/-- LayeredClaimsModel.capacityOf(I)I -/
def wp_X7_capacityOf (a1 : Int32) (M : Mm) (P : Int32 → Mm → Prop) : Prop := (vp_in (((32 : Int32) + ((4 : Int32) * a1)) + (1 : Int32)) 136 ∧ (vp_in (((32 : Int32) + ((4 : Int32) * a1)) + (3 : Int32)) 136 ∧ P ((rd M 160 0 (((32 : Int32) + ((4 : Int32) * a1)) + (1 : Int32)).toNatClampNeg) * ((rd M 160 0 (((32 : Int32) + ((4 : Int32) * a1)) + (3 : Int32)).toNatClampNeg) + (1 : Int32))) M))
set_option maxHeartbeats 4000000 in
set_option maxRecDepth 100000 in
theorem met_X7_capacityOf {l : Launch} {G : GT} (hG : GD G) (a1 : Int32) (M : Mm) (P : Int32 → Mm → Prop) (h : wp_X7_capacityOf a1 M P) : MI l G yX7_capacityOf cX7_capacityOf 2 (some .int) ({ frames := 0, cells := 0, slots := 0, locals := 0 } : Room) [.ref (adr G 7 0), .int a1] M P := by
  refine met_by hG (own := RX7) rfl (by decide +kernel) (Nat.le_of_ble_eq_true rfl) (fun E hE X Y => ?_)
  show J G E 2 0 [(0, .ref (adr G 7 0)), (1, .int a1)] [] M
  unfold wp_X7_capacityOf at h
  refine j_aload_n X 0 dX7_capacityOf_0 rfl rfl ?_
  refine jf_RX7_9 X  dX7_capacityOf_1 ?_
  refine j_bipush (v := (32 : Int32)) X (by decide) dX7_capacityOf_4 ?_
  refine j_iconst (v := (4 : Int32)) X (by decide) dX7_capacityOf_6 ?_
  refine j_iload_n X 1 dX7_capacityOf_7 rfl rfl ?_
  refine j_imul X dX7_capacityOf_8 ?_
  refine j_iadd X dX7_capacityOf_9 ?_
  refine j_iconst (v := (1 : Int32)) X (by decide) dX7_capacityOf_10 ?_
  refine j_iadd X dX7_capacityOf_11 ?_
  have q1 := h.1
  replace h := h.2
  refine j_iald X _ rfl (mw160 0 (by decide)) kt160 lt160 q1 dX7_capacityOf_12 ?_
  refine j_aload_n X 0 dX7_capacityOf_13 rfl rfl ?_
  refine jf_RX7_9 X  dX7_capacityOf_14 ?_
  refine j_bipush (v := (32 : Int32)) X (by decide) dX7_capacityOf_17 ?_
  refine j_iconst (v := (4 : Int32)) X (by decide) dX7_capacityOf_19 ?_
  refine j_iload_n X 1 dX7_capacityOf_20 rfl rfl ?_
  refine j_imul X dX7_capacityOf_21 ?_
  refine j_iadd X dX7_capacityOf_22 ?_
  refine j_iconst (v := (3 : Int32)) X (by decide) dX7_capacityOf_23 ?_
  refine j_iadd X dX7_capacityOf_24 ?_
  have q2 := h.1
  replace h := h.2
  refine j_iald X _ rfl (mw160 0 (by decide)) kt160 lt160 q2 dX7_capacityOf_25 ?_
  refine j_iconst (v := (1 : Int32)) X (by decide) dX7_capacityOf_26 ?_
  refine j_iadd X dX7_capacityOf_27 ?_
  refine j_imul X dX7_capacityOf_28 ?_
  exact j_iret X Y dX7_capacityOf_29 h
theorem jc_RX7_181 {G : GT} {E : ET} {cc : ByteArray} {nL pc : Nat} {rm : Room} {lv : List (Nat × Value)} {st : List Value} {M : Mm} (X : CX G E RX7 cc nL rm) (hR : 0 + 1 ≤ rm.frames ∧ 8 + (2 + 11) + 0 ≤ rm.locals) (hst : (st.map fun v => v.category).sum ≤ 8) (d : decode cc pc = .ok (.invokevirtual 181, 3)) {a1 : Int32} {P : Int32 → Mm → Prop} (h : wp_X7_capacityOf a1 M P) (k1 : ∀ (r : Int32) (M2 : Mm), P r M2 → J G E nL (pc + 3) lv (.int r :: st) M2) : J G E nL pc lv (.int a1 :: .ref (adr G 7 0) :: st) M := fun H locs ls hP hS hl => by
  have hK := X.2.2.2.2.2.1.1
  have hm := met_X7_capacityOf (l := eL E) X.2.2.2.2.2.2.1 a1 M P h
  have hR2 : 0 + 1 ≤ (eR E).frames ∧ 8 + (2 + 11) + 0 ≤ (eR E).locals := by rw [X.2.2.2.2.2.2.2.1]; exact hR
  have hC2 : eCells E + 0 ≤ (eR E).cells ∧ eSlots E + 0 ≤ (eR E).slots := by rw [X.2.2.2.2.2.2.2.1]; exact ⟨X.2.2.2.2.2.2.2.2.1, X.2.2.2.2.2.2.2.2.2⟩
  obtain ⟨q0, -, hq⟩ := wld_get (G := G) M (mw7 0 (by decide))
  exact va_calli (va_runV (C := RX7) (As := [.int a1]) (rest := st) ⟨X.1, X.2.1, X.2.2.1, X.2.2.2.1, X.2.2.2.2.1⟩ hm (cwV (ws' := lw_aw) 1 X.2.2.2.2.1 (gwV (tw (i := 1119) (by decide +kernel)) (tw (i := 1121) (by decide +kernel)) (tw (i := 49) (by decide +kernel)) (tw (i := 78) (by decide +kernel)) (tw (i := 1122) (by decide +kernel))) rfl rfl rfl (by decide +kernel) hR2) ⟨hr_blind, va_recv hK hP (ci := 7) (q := (RX7, TX7, 15)) (fs := objF7 G 0 (M.1 7 0)) (q0 := q0) rfl hq, fun U hU hW => ⟨rfl, by rw [hU]; exact hP, KK.warm hW X.2.2.2.2.2.1⟩⟩ rfl rfl hl.1 rfl (lv_room hst) d hC2) hS (fun q _ h => h) (fun q h => h) (fun r u t H1 locs1 ht hvm hw hB hz1 hk1 hS1 => k1 r u hw H1 locs1 ls (by rw [← ht]; exact hB.1) hS1 hl)
/-- LayeredClaimsModel.wantOf(II)I -/
def wp_X7_wantOf (a1 : Int32) (a2 : Int32) (M : Mm) (P : Int32 → Mm → Prop) : Prop := (vp_in (((32 : Int32) + ((4 : Int32) * a2)) + (1 : Int32)) 136 ∧ (wp_X7_burdenOf a1 M (fun (r3 : Int32) (M2 : Mm) => (vp_in ((32 : Int32) + ((4 : Int32) * a2)) 136 ∧ P (if (if (0 : Int32) < (r3 - (rd M2 160 0 ((32 : Int32) + ((4 : Int32) * a2)).toNatClampNeg)) then (r3 - (rd M2 160 0 ((32 : Int32) + ((4 : Int32) * a2)).toNatClampNeg)) else (0 : Int32)) < (rd M 160 0 (((32 : Int32) + ((4 : Int32) * a2)) + (1 : Int32)).toNatClampNeg) then (if (0 : Int32) < (r3 - (rd M2 160 0 ((32 : Int32) + ((4 : Int32) * a2)).toNatClampNeg)) then (r3 - (rd M2 160 0 ((32 : Int32) + ((4 : Int32) * a2)).toNatClampNeg)) else (0 : Int32)) else (rd M 160 0 (((32 : Int32) + ((4 : Int32) * a2)) + (1 : Int32)).toNatClampNeg)) M2))))
set_option maxHeartbeats 4000000 in
set_option maxRecDepth 100000 in
theorem met_X7_wantOf {l : Launch} {G : GT} (hG : GD G) (a1 : Int32) (a2 : Int32) (M : Mm) (P : Int32 → Mm → Prop) (h : wp_X7_wantOf a1 a2 M P) : MI l G yX7_wantOf cX7_wantOf 3 (some .int) ({ frames := 9, cells := 0, slots := 0, locals := 206 } : Room) [.ref (adr G 7 0), .int a1, .int a2] M P := by
  refine met_by hG (own := RX7) rfl (by decide +kernel) (Nat.le_of_ble_eq_true rfl) (fun E hE X Y => ?_)
  show J G E 3 0 [(0, .ref (adr G 7 0)), (1, .int a1), (2, .int a2)] [] M
  unfold wp_X7_wantOf at h
  refine j_aload_n X 0 dX7_wantOf_0 rfl rfl ?_
  refine jf_RX7_9 X  dX7_wantOf_1 ?_
  refine j_bipush (v := (32 : Int32)) X (by decide) dX7_wantOf_4 ?_
  refine j_iconst (v := (4 : Int32)) X (by decide) dX7_wantOf_6 ?_
  refine j_iload_n X 2 dX7_wantOf_7 rfl rfl ?_
  refine j_imul X dX7_wantOf_8 ?_
  refine j_iadd X dX7_wantOf_9 ?_
  refine j_iconst (v := (1 : Int32)) X (by decide) dX7_wantOf_10 ?_
  refine j_iadd X dX7_wantOf_11 ?_
  have q1 := h.1
  replace h := h.2
  refine j_iald X _ rfl (mw160 0 (by decide)) kt160 lt160 q1 dX7_wantOf_12 ?_
  refine j_iconst (v := (0 : Int32)) X (by decide) dX7_wantOf_13 ?_
  refine j_aload_n X 0 dX7_wantOf_14 rfl rfl ?_
  refine j_iload_n X 1 dX7_wantOf_15 rfl rfl ?_
  refine jc_RX7_178 X ⟨Nat.le_of_ble_eq_true rfl, Nat.le_of_ble_eq_true rfl⟩ (Nat.le_of_ble_eq_true rfl) dX7_wantOf_16 h (fun r3 M2 h => ?_)
  refine j_aload_n X 0 dX7_wantOf_19 rfl rfl ?_
  refine jf_RX7_9 X  dX7_wantOf_20 ?_
  refine j_bipush (v := (32 : Int32)) X (by decide) dX7_wantOf_23 ?_
  refine j_iconst (v := (4 : Int32)) X (by decide) dX7_wantOf_25 ?_
  refine j_iload_n X 2 dX7_wantOf_26 rfl rfl ?_
  refine j_imul X dX7_wantOf_27 ?_
  refine j_iadd X dX7_wantOf_28 ?_
  have q4 := h.1
  replace h := h.2
  refine j_iald X _ rfl (mw160 0 (by decide)) kt160 lt160 q4 dX7_wantOf_29 ?_
  refine j_isub X dX7_wantOf_30 ?_
  refine j_max X (tw (i := 1143) (by decide +kernel)) (Nat.le_of_ble_eq_true rfl) (Nat.le_of_ble_eq_true rfl) dX7_wantOf_31 ?_
  refine j_min X (tw (i := 1098) (by decide +kernel)) (Nat.le_of_ble_eq_true rfl) (Nat.le_of_ble_eq_true rfl) dX7_wantOf_34 ?_
  exact j_iret X Y dX7_wantOf_37 h
theorem jc_RX7_184 {G : GT} {E : ET} {cc : ByteArray} {nL pc : Nat} {rm : Room} {lv : List (Nat × Value)} {st : List Value} {M : Mm} (X : CX G E RX7 cc nL rm) (hR : 9 + 1 ≤ rm.frames ∧ 8 + (3 + 11) + 206 ≤ rm.locals) (hst : (st.map fun v => v.category).sum ≤ 8) (d : decode cc pc = .ok (.invokevirtual 184, 3)) {a1 : Int32} {a2 : Int32} {P : Int32 → Mm → Prop} (h : wp_X7_wantOf a1 a2 M P) (k1 : ∀ (r : Int32) (M2 : Mm), P r M2 → J G E nL (pc + 3) lv (.int r :: st) M2) : J G E nL pc lv (.int a2 :: .int a1 :: .ref (adr G 7 0) :: st) M := fun H locs ls hP hS hl => by
  have hK := X.2.2.2.2.2.1.1
  have hm := met_X7_wantOf (l := eL E) X.2.2.2.2.2.2.1 a1 a2 M P h
  have hR2 : 9 + 1 ≤ (eR E).frames ∧ 8 + (3 + 11) + 206 ≤ (eR E).locals := by rw [X.2.2.2.2.2.2.2.1]; exact hR
  have hC2 : eCells E + 0 ≤ (eR E).cells ∧ eSlots E + 0 ≤ (eR E).slots := by rw [X.2.2.2.2.2.2.2.1]; exact ⟨X.2.2.2.2.2.2.2.2.1, X.2.2.2.2.2.2.2.2.2⟩
  obtain ⟨q0, -, hq⟩ := wld_get (G := G) M (mw7 0 (by decide))
  exact va_calli (va_runV (C := RX7) (As := [.int a1, .int a2]) (rest := st) ⟨X.1, X.2.1, X.2.2.1, X.2.2.2.1, X.2.2.2.2.1⟩ hm (cwV (ws' := lw_aw) 2 X.2.2.2.2.1 (gwV (tw (i := 1127) (by decide +kernel)) (tw (i := 1129) (by decide +kernel)) (tw (i := 51) (by decide +kernel)) (tw (i := 78) (by decide +kernel)) (tw (i := 1130) (by decide +kernel))) rfl rfl rfl (by decide +kernel) hR2) ⟨hr_blind, va_recv hK hP (ci := 7) (q := (RX7, TX7, 15)) (fs := objF7 G 0 (M.1 7 0)) (q0 := q0) rfl hq, fun U hU hW => ⟨rfl, by rw [hU]; exact hP, KK.warm hW X.2.2.2.2.2.1⟩⟩ rfl rfl hl.1 rfl (lv_room hst) d hC2) hS (fun q _ h => h) (fun q h => h) (fun r u t H1 locs1 ht hvm hw hB hz1 hk1 hS1 => k1 r u hw H1 locs1 ls (by rw [← ht]; exact hB.1) hS1 hl)
/-- LayeredClaimsModel.capacityAt(II)I -/
def wp_X7_capacityAt (a1 : Int32) (a2 : Int32) (M : Mm) (P : Int32 → Mm → Prop) : Prop := (wp_X7_capacityOf a2 M (fun (r2 : Int32) (M1 : Mm) => (∃ n, lq3 (fun self3 (x5 : Int32) (x6 : Int32) (M7 : Mm) => ((a1 ≤ x6 → P x5 M7) ∧ (¬ a1 ≤ x6 → (wp_X7_eventOn x6 M7 (fun (r10 : Int32) (M9 : Mm) => (wp_X7_wantOf r10 a2 M9 (fun (r12 : Int32) (M11 : Mm) => (∀ x13 : Int32, x13 = (x5 - (if r12 < x5 then r12 else x5)) → (∀ x14 : Int32, x14 = x6 + (1 : Int32) → self3 x13 x14 M11))))))))) n r2 (0 : Int32) M1)))
set_option maxHeartbeats 4000000 in
set_option maxRecDepth 100000 in
theorem met_X7_capacityAt {l : Launch} {G : GT} (hG : GD G) (a1 : Int32) (a2 : Int32) (M : Mm) (P : Int32 → Mm → Prop) (h : wp_X7_capacityAt a1 a2 M P) : MI l G yX7_capacityAt cX7_capacityAt 5 (some .int) ({ frames := 10, cells := 0, slots := 0, locals := 228 } : Room) [.ref (adr G 7 0), .int a1, .int a2] M P := by
  refine met_by hG (own := RX7) rfl (by decide +kernel) (Nat.le_of_ble_eq_true rfl) (fun E hE X Y => ?_)
  show J G E 5 0 [(0, .ref (adr G 7 0)), (1, .int a1), (2, .int a2)] [] M
  unfold wp_X7_capacityAt at h
  refine j_aload_n X 0 dX7_capacityAt_0 rfl rfl ?_
  refine j_iload_n X 2 dX7_capacityAt_1 rfl rfl ?_
  refine jc_RX7_181 X ⟨Nat.le_of_ble_eq_true rfl, Nat.le_of_ble_eq_true rfl⟩ (Nat.le_of_ble_eq_true rfl) dX7_capacityAt_2 h (fun r2 M1 h => ?_)
  refine j_istore_n X [(3, .int r2), (0, .ref (adr G 7 0)), (1, .int a1), (2, .int a2)] dX7_capacityAt_5 rfl (by decide) rfl ?_
  refine j_iconst (v := (0 : Int32)) X (by decide) dX7_capacityAt_6 ?_
  refine j_istore X [(4, .int (0 : Int32)), (3, .int r2), (0, .ref (adr G 7 0)), (1, .int a1), (2, .int a2)] dX7_capacityAt_7 (by decide) rfl ?_
  refine j_sub [2, 3, 4, 1, 0] rfl ?_
  refine lq3_s h (fun (x5 : Int32) (x6 : Int32) (M7 : Mm) => J G E 5 9 [(0, .ref (adr G 7 0)), (1, .int a1), (2, .int a2), (3, .int x5), (4, .int x6)] [] M7) (fun self3 ih4 x5 x6 M7 h => ?_) id
  refine j_iload X 4 dX7_capacityAt_9 rfl ?_
  refine j_iload_n X 1 dX7_capacityAt_11 rfl rfl ?_
  refine j_icmp_ge X 39 dX7_capacityAt_12 (by decide) (fun c8 => ?_) (fun c8 => ?_)
  · replace h := h.1 c8
    refine j_iload_n X 3 dX7_capacityAt_39 rfl rfl ?_
    exact j_iret X Y dX7_capacityAt_40 h
  · replace h := h.2 c8
    refine j_iload_n X 3 dX7_capacityAt_15 rfl rfl ?_
    refine j_iload_n X 3 dX7_capacityAt_16 rfl rfl ?_
    refine j_aload_n X 0 dX7_capacityAt_17 rfl rfl ?_
    refine j_aload_n X 0 dX7_capacityAt_18 rfl rfl ?_
    refine j_iload X 4 dX7_capacityAt_19 rfl ?_
    refine jc_RX7_160 X ⟨Nat.le_of_ble_eq_true rfl, Nat.le_of_ble_eq_true rfl⟩ (Nat.le_of_ble_eq_true rfl) dX7_capacityAt_21 h (fun r10 M9 h => ?_)
    refine j_iload_n X 2 dX7_capacityAt_24 rfl rfl ?_
    refine jc_RX7_184 X ⟨Nat.le_of_ble_eq_true rfl, Nat.le_of_ble_eq_true rfl⟩ (Nat.le_of_ble_eq_true rfl) dX7_capacityAt_25 h (fun r12 M11 h => ?_)
    refine j_min X (tw (i := 1098) (by decide +kernel)) (Nat.le_of_ble_eq_true rfl) (Nat.le_of_ble_eq_true rfl) dX7_capacityAt_28 ?_
    refine j_isub X dX7_capacityAt_31 ?_
    refine j_topi (fun x13 ex13 => ?_)
    replace h := h x13 ex13
    refine j_istore_n X [(3, .int x13), (0, .ref (adr G 7 0)), (1, .int a1), (2, .int a2), (4, .int x6)] dX7_capacityAt_32 rfl (by decide) rfl ?_
    obtain ⟨x14, ex14⟩ : ∃ z : Int32, z = x6 + (1 : Int32) := ⟨_, rfl⟩
    replace h := h x14 ex14
    refine j_iinc (v := x14) X 4 [(4, .int x14), (3, .int x13), (0, .ref (adr G 7 0)), (1, .int a1), (2, .int a2)] dX7_capacityAt_33 rfl (by rw [ex14]; rfl) (by decide) rfl ?_
    refine j_goto X 9 dX7_capacityAt_36 (by decide) ?_
    refine j_sub [2, 3, 4, 1, 0] rfl ?_
    exact ih4 x13 x14 M11 h
theorem jc_RX7_187 {G : GT} {E : ET} {cc : ByteArray} {nL pc : Nat} {rm : Room} {lv : List (Nat × Value)} {st : List Value} {M : Mm} (X : CX G E RX7 cc nL rm) (hR : 10 + 1 ≤ rm.frames ∧ 8 + (5 + 11) + 228 ≤ rm.locals) (hst : (st.map fun v => v.category).sum ≤ 8) (d : decode cc pc = .ok (.invokevirtual 187, 3)) {a1 : Int32} {a2 : Int32} {P : Int32 → Mm → Prop} (h : wp_X7_capacityAt a1 a2 M P) (k1 : ∀ (r : Int32) (M2 : Mm), P r M2 → J G E nL (pc + 3) lv (.int r :: st) M2) : J G E nL pc lv (.int a2 :: .int a1 :: .ref (adr G 7 0) :: st) M := fun H locs ls hP hS hl => by
  have hK := X.2.2.2.2.2.1.1
  have hm := met_X7_capacityAt (l := eL E) X.2.2.2.2.2.2.1 a1 a2 M P h
  have hR2 : 10 + 1 ≤ (eR E).frames ∧ 8 + (5 + 11) + 228 ≤ (eR E).locals := by rw [X.2.2.2.2.2.2.2.1]; exact hR
  have hC2 : eCells E + 0 ≤ (eR E).cells ∧ eSlots E + 0 ≤ (eR E).slots := by rw [X.2.2.2.2.2.2.2.1]; exact ⟨X.2.2.2.2.2.2.2.2.1, X.2.2.2.2.2.2.2.2.2⟩
  obtain ⟨q0, -, hq⟩ := wld_get (G := G) M (mw7 0 (by decide))
  exact va_calli (va_runV (C := RX7) (As := [.int a1, .int a2]) (rest := st) ⟨X.1, X.2.1, X.2.2.1, X.2.2.2.1, X.2.2.2.2.1⟩ hm (cwV (ws' := lw_aw) 2 X.2.2.2.2.1 (gwV (tw (i := 1123) (by decide +kernel)) (tw (i := 1125) (by decide +kernel)) (tw (i := 50) (by decide +kernel)) (tw (i := 78) (by decide +kernel)) (tw (i := 1126) (by decide +kernel))) rfl rfl rfl (by decide +kernel) hR2) ⟨hr_blind, va_recv hK hP (ci := 7) (q := (RX7, TX7, 15)) (fs := objF7 G 0 (M.1 7 0)) (q0 := q0) rfl hq, fun U hU hW => ⟨rfl, by rw [hU]; exact hP, KK.warm hW X.2.2.2.2.2.1⟩⟩ rfl rfl hl.1 rfl (lv_room hst) d hC2) hS (fun q _ h => h) (fun q h => h) (fun r u t H1 locs1 ht hvm hw hB hz1 hk1 hS1 => k1 r u hw H1 locs1 ls (by rw [← ht]; exact hB.1) hS1 hl)
/-- LayeredClaimsModel.borneOf(II)I -/
def wp_X7_borneOf (a1 : Int32) (a2 : Int32) (M : Mm) (P : Int32 → Mm → Prop) : Prop := (wp_X7_wantOf a1 a2 M (fun (r2 : Int32) (M1 : Mm) => (wp_X7_positionOf a1 M1 (fun (r4 : Int32) (M3 : Mm) => (wp_X7_capacityAt r4 a2 M3 (fun (r6 : Int32) (M5 : Mm) => P (if r6 < r2 then r6 else r2) M5))))))
set_option maxHeartbeats 4000000 in
set_option maxRecDepth 100000 in
theorem met_X7_borneOf {l : Launch} {G : GT} (hG : GD G) (a1 : Int32) (a2 : Int32) (M : Mm) (P : Int32 → Mm → Prop) (h : wp_X7_borneOf a1 a2 M P) : MI l G yX7_borneOf cX7_borneOf 3 (some .int) ({ frames := 11, cells := 0, slots := 0, locals := 252 } : Room) [.ref (adr G 7 0), .int a1, .int a2] M P := by
  refine met_by hG (own := RX7) rfl (by decide +kernel) (Nat.le_of_ble_eq_true rfl) (fun E hE X Y => ?_)
  show J G E 3 0 [(0, .ref (adr G 7 0)), (1, .int a1), (2, .int a2)] [] M
  unfold wp_X7_borneOf at h
  refine j_aload_n X 0 dX7_borneOf_0 rfl rfl ?_
  refine j_iload_n X 1 dX7_borneOf_1 rfl rfl ?_
  refine j_iload_n X 2 dX7_borneOf_2 rfl rfl ?_
  refine jc_RX7_184 X ⟨Nat.le_of_ble_eq_true rfl, Nat.le_of_ble_eq_true rfl⟩ (Nat.le_of_ble_eq_true rfl) dX7_borneOf_3 h (fun r2 M1 h => ?_)
  refine j_aload_n X 0 dX7_borneOf_6 rfl rfl ?_
  refine j_aload_n X 0 dX7_borneOf_7 rfl rfl ?_
  refine j_iload_n X 1 dX7_borneOf_8 rfl rfl ?_
  refine jc_RX7_133 X ⟨Nat.le_of_ble_eq_true rfl, Nat.le_of_ble_eq_true rfl⟩ (Nat.le_of_ble_eq_true rfl) dX7_borneOf_9 h (fun r4 M3 h => ?_)
  refine j_iload_n X 2 dX7_borneOf_12 rfl rfl ?_
  refine jc_RX7_187 X ⟨Nat.le_of_ble_eq_true rfl, Nat.le_of_ble_eq_true rfl⟩ (Nat.le_of_ble_eq_true rfl) dX7_borneOf_13 h (fun r6 M5 h => ?_)
  refine j_min X (tw (i := 1098) (by decide +kernel)) (Nat.le_of_ble_eq_true rfl) (Nat.le_of_ble_eq_true rfl) dX7_borneOf_16 ?_
  exact j_iret X Y dX7_borneOf_19 h
theorem jc_RX7_190 {G : GT} {E : ET} {cc : ByteArray} {nL pc : Nat} {rm : Room} {lv : List (Nat × Value)} {st : List Value} {M : Mm} (X : CX G E RX7 cc nL rm) (hR : 11 + 1 ≤ rm.frames ∧ 8 + (3 + 11) + 252 ≤ rm.locals) (hst : (st.map fun v => v.category).sum ≤ 8) (d : decode cc pc = .ok (.invokevirtual 190, 3)) {a1 : Int32} {a2 : Int32} {P : Int32 → Mm → Prop} (h : wp_X7_borneOf a1 a2 M P) (k1 : ∀ (r : Int32) (M2 : Mm), P r M2 → J G E nL (pc + 3) lv (.int r :: st) M2) : J G E nL pc lv (.int a2 :: .int a1 :: .ref (adr G 7 0) :: st) M := fun H locs ls hP hS hl => by
  have hK := X.2.2.2.2.2.1.1
  have hm := met_X7_borneOf (l := eL E) X.2.2.2.2.2.2.1 a1 a2 M P h
  have hR2 : 11 + 1 ≤ (eR E).frames ∧ 8 + (3 + 11) + 252 ≤ (eR E).locals := by rw [X.2.2.2.2.2.2.2.1]; exact hR
  have hC2 : eCells E + 0 ≤ (eR E).cells ∧ eSlots E + 0 ≤ (eR E).slots := by rw [X.2.2.2.2.2.2.2.1]; exact ⟨X.2.2.2.2.2.2.2.2.1, X.2.2.2.2.2.2.2.2.2⟩
  obtain ⟨q0, -, hq⟩ := wld_get (G := G) M (mw7 0 (by decide))
  exact va_calli (va_runV (C := RX7) (As := [.int a1, .int a2]) (rest := st) ⟨X.1, X.2.1, X.2.2.1, X.2.2.2.1, X.2.2.2.2.1⟩ hm (cwV (ws' := lw_aw) 2 X.2.2.2.2.1 (gwV (tw (i := 1172) (by decide +kernel)) (tw (i := 1174) (by decide +kernel)) (tw (i := 60) (by decide +kernel)) (tw (i := 78) (by decide +kernel)) (tw (i := 1175) (by decide +kernel))) rfl rfl rfl (by decide +kernel) hR2) ⟨hr_blind, va_recv hK hP (ci := 7) (q := (RX7, TX7, 15)) (fs := objF7 G 0 (M.1 7 0)) (q0 := q0) rfl hq, fun U hU hW => ⟨rfl, by rw [hU]; exact hP, KK.warm hW X.2.2.2.2.2.1⟩⟩ rfl rfl hl.1 rfl (lv_room hst) d hC2) hS (fun q _ h => h) (fun q h => h) (fun r u t H1 locs1 ht hvm hw hB hz1 hk1 hS1 => k1 r u hw H1 locs1 ls (by rw [← ht]; exact hB.1) hS1 hl)
/-- LayeredClaimsModel.retainedOf(I)I -/
def wp_X7_retainedOf (a1 : Int32) (M : Mm) (P : Int32 → Mm → Prop) : Prop := (wp_X7_burdenOf a1 M (fun (r2 : Int32) (M1 : Mm) => (∃ n, lq3 (fun self3 (x5 : Int32) (x6 : Int32) (M7 : Mm) => (((rd M7 160 0 1) ≤ x6 → P x5 M7) ∧ (¬ (rd M7 160 0 1) ≤ x6 → (wp_X7_borneOf a1 x6 M7 (fun (r10 : Int32) (M9 : Mm) => (∀ x11 : Int32, x11 = (x5 - r10) → (∀ x12 : Int32, x12 = x6 + (1 : Int32) → self3 x11 x12 M9))))))) n r2 (0 : Int32) M1)))
set_option maxHeartbeats 4000000 in
set_option maxRecDepth 100000 in
theorem met_X7_retainedOf {l : Launch} {G : GT} (hG : GD G) (a1 : Int32) (M : Mm) (P : Int32 → Mm → Prop) (h : wp_X7_retainedOf a1 M P) : MI l G yX7_retainedOf cX7_retainedOf 4 (some .int) ({ frames := 12, cells := 0, slots := 0, locals := 274 } : Room) [.ref (adr G 7 0), .int a1] M P := by
  refine met_by hG (own := RX7) rfl (by decide +kernel) (Nat.le_of_ble_eq_true rfl) (fun E hE X Y => ?_)
  show J G E 4 0 [(0, .ref (adr G 7 0)), (1, .int a1)] [] M
  unfold wp_X7_retainedOf at h
  refine j_aload_n X 0 dX7_retainedOf_0 rfl rfl ?_
  refine j_iload_n X 1 dX7_retainedOf_1 rfl rfl ?_
  refine jc_RX7_178 X ⟨Nat.le_of_ble_eq_true rfl, Nat.le_of_ble_eq_true rfl⟩ (Nat.le_of_ble_eq_true rfl) dX7_retainedOf_2 h (fun r2 M1 h => ?_)
  refine j_istore_n X [(2, .int r2), (0, .ref (adr G 7 0)), (1, .int a1)] dX7_retainedOf_5 rfl (by decide) rfl ?_
  refine j_iconst (v := (0 : Int32)) X (by decide) dX7_retainedOf_6 ?_
  refine j_istore_n X [(3, .int (0 : Int32)), (2, .int r2), (0, .ref (adr G 7 0)), (1, .int a1)] dX7_retainedOf_7 rfl (by decide) rfl ?_
  refine j_sub [2, 3, 1, 0] rfl ?_
  refine lq3_s h (fun (x5 : Int32) (x6 : Int32) (M7 : Mm) => J G E 4 8 [(0, .ref (adr G 7 0)), (1, .int a1), (2, .int x5), (3, .int x6)] [] M7) (fun self3 ih4 x5 x6 M7 h => ?_) id
  refine j_iload_n X 3 dX7_retainedOf_8 rfl rfl ?_
  refine j_aload_n X 0 dX7_retainedOf_9 rfl rfl ?_
  refine jf_RX7_9 X  dX7_retainedOf_10 ?_
  refine j_iconst (v := (1 : Int32)) X (by decide) dX7_retainedOf_13 ?_
  refine j_iald X 1 (by decide) (mw160 0 (by decide)) kt160 lt160 (vpc (by decide)) dX7_retainedOf_14 ?_
  refine j_icmp_ge X 33 dX7_retainedOf_15 (by decide) (fun c8 => ?_) (fun c8 => ?_)
  · replace h := h.1 c8
    refine j_iload_n X 2 dX7_retainedOf_33 rfl rfl ?_
    exact j_iret X Y dX7_retainedOf_34 h
  · replace h := h.2 c8
    refine j_iload_n X 2 dX7_retainedOf_18 rfl rfl ?_
    refine j_aload_n X 0 dX7_retainedOf_19 rfl rfl ?_
    refine j_iload_n X 1 dX7_retainedOf_20 rfl rfl ?_
    refine j_iload_n X 3 dX7_retainedOf_21 rfl rfl ?_
    refine jc_RX7_190 X ⟨Nat.le_of_ble_eq_true rfl, Nat.le_of_ble_eq_true rfl⟩ (Nat.le_of_ble_eq_true rfl) dX7_retainedOf_22 h (fun r10 M9 h => ?_)
    refine j_isub X dX7_retainedOf_25 ?_
    refine j_topi (fun x11 ex11 => ?_)
    replace h := h x11 ex11
    refine j_istore_n X [(2, .int x11), (0, .ref (adr G 7 0)), (1, .int a1), (3, .int x6)] dX7_retainedOf_26 rfl (by decide) rfl ?_
    obtain ⟨x12, ex12⟩ : ∃ z : Int32, z = x6 + (1 : Int32) := ⟨_, rfl⟩
    replace h := h x12 ex12
    refine j_iinc (v := x12) X 3 [(3, .int x12), (2, .int x11), (0, .ref (adr G 7 0)), (1, .int a1)] dX7_retainedOf_27 rfl (by rw [ex12]; rfl) (by decide) rfl ?_
    refine j_goto X 8 dX7_retainedOf_30 (by decide) ?_
    refine j_sub [2, 3, 1, 0] rfl ?_
    exact ih4 x11 x12 M9 h
theorem jc_RX7_214 {G : GT} {E : ET} {cc : ByteArray} {nL pc : Nat} {rm : Room} {lv : List (Nat × Value)} {st : List Value} {M : Mm} (X : CX G E RX7 cc nL rm) (hR : 12 + 1 ≤ rm.frames ∧ 8 + (4 + 11) + 274 ≤ rm.locals) (hst : (st.map fun v => v.category).sum ≤ 8) (d : decode cc pc = .ok (.invokevirtual 214, 3)) {a1 : Int32} {P : Int32 → Mm → Prop} (h : wp_X7_retainedOf a1 M P) (k1 : ∀ (r : Int32) (M2 : Mm), P r M2 → J G E nL (pc + 3) lv (.int r :: st) M2) : J G E nL pc lv (.int a1 :: .ref (adr G 7 0) :: st) M := fun H locs ls hP hS hl => by
  have hK := X.2.2.2.2.2.1.1
  have hm := met_X7_retainedOf (l := eL E) X.2.2.2.2.2.2.1 a1 M P h
  have hR2 : 12 + 1 ≤ (eR E).frames ∧ 8 + (4 + 11) + 274 ≤ (eR E).locals := by rw [X.2.2.2.2.2.2.2.1]; exact hR
  have hC2 : eCells E + 0 ≤ (eR E).cells ∧ eSlots E + 0 ≤ (eR E).slots := by rw [X.2.2.2.2.2.2.2.1]; exact ⟨X.2.2.2.2.2.2.2.2.1, X.2.2.2.2.2.2.2.2.2⟩
  obtain ⟨q0, -, hq⟩ := wld_get (G := G) M (mw7 0 (by decide))
  exact va_calli (va_runV (C := RX7) (As := [.int a1]) (rest := st) ⟨X.1, X.2.1, X.2.2.1, X.2.2.2.1, X.2.2.2.2.1⟩ hm (cwV (ws' := lw_aw) 1 X.2.2.2.2.1 (gwV (tw (i := 1168) (by decide +kernel)) (tw (i := 1170) (by decide +kernel)) (tw (i := 59) (by decide +kernel)) (tw (i := 78) (by decide +kernel)) (tw (i := 1171) (by decide +kernel))) rfl rfl rfl (by decide +kernel) hR2) ⟨hr_blind, va_recv hK hP (ci := 7) (q := (RX7, TX7, 15)) (fs := objF7 G 0 (M.1 7 0)) (q0 := q0) rfl hq, fun U hU hW => ⟨rfl, by rw [hU]; exact hP, KK.warm hW X.2.2.2.2.2.1⟩⟩ rfl rfl hl.1 rfl (lv_room hst) d hC2) hS (fun q _ h => h) (fun q h => h) (fun r u t H1 locs1 ht hvm hw hB hz1 hk1 hS1 => k1 r u hw H1 locs1 ls (by rw [← ht]; exact hB.1) hS1 hl)
/-- LayeredClaimsModel.borneInAll(I)I -/
def wp_X7_borneInAll (a1 : Int32) (M : Mm) (P : Int32 → Mm → Prop) : Prop := (wp_X7_capacityOf a1 M (fun (r2 : Int32) (M1 : Mm) => (wp_X7_capacityAt (rd M1 160 0 2) a1 M1 (fun (r4 : Int32) (M3 : Mm) => P (r2 - r4) M3))))
set_option maxHeartbeats 4000000 in
set_option maxRecDepth 100000 in
theorem met_X7_borneInAll {l : Launch} {G : GT} (hG : GD G) (a1 : Int32) (M : Mm) (P : Int32 → Mm → Prop) (h : wp_X7_borneInAll a1 M P) : MI l G yX7_borneInAll cX7_borneInAll 2 (some .int) ({ frames := 11, cells := 0, slots := 0, locals := 252 } : Room) [.ref (adr G 7 0), .int a1] M P := by
  refine met_by hG (own := RX7) rfl (by decide +kernel) (Nat.le_of_ble_eq_true rfl) (fun E hE X Y => ?_)
  show J G E 2 0 [(0, .ref (adr G 7 0)), (1, .int a1)] [] M
  unfold wp_X7_borneInAll at h
  refine j_aload_n X 0 dX7_borneInAll_0 rfl rfl ?_
  refine j_iload_n X 1 dX7_borneInAll_1 rfl rfl ?_
  refine jc_RX7_181 X ⟨Nat.le_of_ble_eq_true rfl, Nat.le_of_ble_eq_true rfl⟩ (Nat.le_of_ble_eq_true rfl) dX7_borneInAll_2 h (fun r2 M1 h => ?_)
  refine j_aload_n X 0 dX7_borneInAll_5 rfl rfl ?_
  refine j_aload_n X 0 dX7_borneInAll_6 rfl rfl ?_
  refine jf_RX7_9 X  dX7_borneInAll_7 ?_
  refine j_iconst (v := (2 : Int32)) X (by decide) dX7_borneInAll_10 ?_
  refine j_iald X 2 (by decide) (mw160 0 (by decide)) kt160 lt160 (vpc (by decide)) dX7_borneInAll_11 ?_
  refine j_iload_n X 1 dX7_borneInAll_12 rfl rfl ?_
  refine jc_RX7_187 X ⟨Nat.le_of_ble_eq_true rfl, Nat.le_of_ble_eq_true rfl⟩ (Nat.le_of_ble_eq_true rfl) dX7_borneInAll_13 h (fun r4 M3 h => ?_)
  refine j_isub X dX7_borneInAll_16 ?_
  exact j_iret X Y dX7_borneInAll_17 h
theorem jc_RX7_193 {G : GT} {E : ET} {cc : ByteArray} {nL pc : Nat} {rm : Room} {lv : List (Nat × Value)} {st : List Value} {M : Mm} (X : CX G E RX7 cc nL rm) (hR : 11 + 1 ≤ rm.frames ∧ 8 + (2 + 11) + 252 ≤ rm.locals) (hst : (st.map fun v => v.category).sum ≤ 8) (d : decode cc pc = .ok (.invokevirtual 193, 3)) {a1 : Int32} {P : Int32 → Mm → Prop} (h : wp_X7_borneInAll a1 M P) (k1 : ∀ (r : Int32) (M2 : Mm), P r M2 → J G E nL (pc + 3) lv (.int r :: st) M2) : J G E nL pc lv (.int a1 :: .ref (adr G 7 0) :: st) M := fun H locs ls hP hS hl => by
  have hK := X.2.2.2.2.2.1.1
  have hm := met_X7_borneInAll (l := eL E) X.2.2.2.2.2.2.1 a1 M P h
  have hR2 : 11 + 1 ≤ (eR E).frames ∧ 8 + (2 + 11) + 252 ≤ (eR E).locals := by rw [X.2.2.2.2.2.2.2.1]; exact hR
  have hC2 : eCells E + 0 ≤ (eR E).cells ∧ eSlots E + 0 ≤ (eR E).slots := by rw [X.2.2.2.2.2.2.2.1]; exact ⟨X.2.2.2.2.2.2.2.2.1, X.2.2.2.2.2.2.2.2.2⟩
  obtain ⟨q0, -, hq⟩ := wld_get (G := G) M (mw7 0 (by decide))
  exact va_calli (va_runV (C := RX7) (As := [.int a1]) (rest := st) ⟨X.1, X.2.1, X.2.2.1, X.2.2.2.1, X.2.2.2.2.1⟩ hm (cwV (ws' := lw_aw) 1 X.2.2.2.2.1 (gwV (tw (i := 1115) (by decide +kernel)) (tw (i := 1117) (by decide +kernel)) (tw (i := 48) (by decide +kernel)) (tw (i := 78) (by decide +kernel)) (tw (i := 1118) (by decide +kernel))) rfl rfl rfl (by decide +kernel) hR2) ⟨hr_blind, va_recv hK hP (ci := 7) (q := (RX7, TX7, 15)) (fs := objF7 G 0 (M.1 7 0)) (q0 := q0) rfl hq, fun U hU hW => ⟨rfl, by rw [hU]; exact hP, KK.warm hW X.2.2.2.2.2.1⟩⟩ rfl rfl hl.1 rfl (lv_room hst) d hC2) hS (fun q _ h => h) (fun q h => h) (fun r u t H1 locs1 ht hvm hw hB hz1 hk1 hS1 => k1 r u hw H1 locs1 ls (by rw [← ht]; exact hB.1) hS1 hl)
/-- LayeredClaimsModel.reinstated(I)I -/
def wp_X7_reinstated (a1 : Int32) (M : Mm) (P : Int32 → Mm → Prop) : Prop := (wp_X7_borneInAll a1 M (fun (r2 : Int32) (M1 : Mm) => (vp_in (((32 : Int32) + ((4 : Int32) * a1)) + (1 : Int32)) 136 ∧ (vp_in (((32 : Int32) + ((4 : Int32) * a1)) + (3 : Int32)) 136 ∧ P (if ((rd M1 160 0 (((32 : Int32) + ((4 : Int32) * a1)) + (1 : Int32)).toNatClampNeg) * (rd M1 160 0 (((32 : Int32) + ((4 : Int32) * a1)) + (3 : Int32)).toNatClampNeg)) < r2 then ((rd M1 160 0 (((32 : Int32) + ((4 : Int32) * a1)) + (1 : Int32)).toNatClampNeg) * (rd M1 160 0 (((32 : Int32) + ((4 : Int32) * a1)) + (3 : Int32)).toNatClampNeg)) else r2) M1))))
set_option maxHeartbeats 4000000 in
set_option maxRecDepth 100000 in
theorem met_X7_reinstated {l : Launch} {G : GT} (hG : GD G) (a1 : Int32) (M : Mm) (P : Int32 → Mm → Prop) (h : wp_X7_reinstated a1 M P) : MI l G yX7_reinstated cX7_reinstated 2 (some .int) ({ frames := 12, cells := 0, slots := 0, locals := 273 } : Room) [.ref (adr G 7 0), .int a1] M P := by
  refine met_by hG (own := RX7) rfl (by decide +kernel) (Nat.le_of_ble_eq_true rfl) (fun E hE X Y => ?_)
  show J G E 2 0 [(0, .ref (adr G 7 0)), (1, .int a1)] [] M
  unfold wp_X7_reinstated at h
  refine j_aload_n X 0 dX7_reinstated_0 rfl rfl ?_
  refine j_iload_n X 1 dX7_reinstated_1 rfl rfl ?_
  refine jc_RX7_193 X ⟨Nat.le_of_ble_eq_true rfl, Nat.le_of_ble_eq_true rfl⟩ (Nat.le_of_ble_eq_true rfl) dX7_reinstated_2 h (fun r2 M1 h => ?_)
  refine j_aload_n X 0 dX7_reinstated_5 rfl rfl ?_
  refine jf_RX7_9 X  dX7_reinstated_6 ?_
  refine j_bipush (v := (32 : Int32)) X (by decide) dX7_reinstated_9 ?_
  refine j_iconst (v := (4 : Int32)) X (by decide) dX7_reinstated_11 ?_
  refine j_iload_n X 1 dX7_reinstated_12 rfl rfl ?_
  refine j_imul X dX7_reinstated_13 ?_
  refine j_iadd X dX7_reinstated_14 ?_
  refine j_iconst (v := (1 : Int32)) X (by decide) dX7_reinstated_15 ?_
  refine j_iadd X dX7_reinstated_16 ?_
  have q3 := h.1
  replace h := h.2
  refine j_iald X _ rfl (mw160 0 (by decide)) kt160 lt160 q3 dX7_reinstated_17 ?_
  refine j_aload_n X 0 dX7_reinstated_18 rfl rfl ?_
  refine jf_RX7_9 X  dX7_reinstated_19 ?_
  refine j_bipush (v := (32 : Int32)) X (by decide) dX7_reinstated_22 ?_
  refine j_iconst (v := (4 : Int32)) X (by decide) dX7_reinstated_24 ?_
  refine j_iload_n X 1 dX7_reinstated_25 rfl rfl ?_
  refine j_imul X dX7_reinstated_26 ?_
  refine j_iadd X dX7_reinstated_27 ?_
  refine j_iconst (v := (3 : Int32)) X (by decide) dX7_reinstated_28 ?_
  refine j_iadd X dX7_reinstated_29 ?_
  have q4 := h.1
  replace h := h.2
  refine j_iald X _ rfl (mw160 0 (by decide)) kt160 lt160 q4 dX7_reinstated_30 ?_
  refine j_imul X dX7_reinstated_31 ?_
  refine j_min X (tw (i := 1098) (by decide +kernel)) (Nat.le_of_ble_eq_true rfl) (Nat.le_of_ble_eq_true rfl) dX7_reinstated_32 ?_
  exact j_iret X Y dX7_reinstated_35 h
theorem jc_RX7_196 {G : GT} {E : ET} {cc : ByteArray} {nL pc : Nat} {rm : Room} {lv : List (Nat × Value)} {st : List Value} {M : Mm} (X : CX G E RX7 cc nL rm) (hR : 12 + 1 ≤ rm.frames ∧ 8 + (2 + 11) + 273 ≤ rm.locals) (hst : (st.map fun v => v.category).sum ≤ 8) (d : decode cc pc = .ok (.invokevirtual 196, 3)) {a1 : Int32} {P : Int32 → Mm → Prop} (h : wp_X7_reinstated a1 M P) (k1 : ∀ (r : Int32) (M2 : Mm), P r M2 → J G E nL (pc + 3) lv (.int r :: st) M2) : J G E nL pc lv (.int a1 :: .ref (adr G 7 0) :: st) M := fun H locs ls hP hS hl => by
  have hK := X.2.2.2.2.2.1.1
  have hm := met_X7_reinstated (l := eL E) X.2.2.2.2.2.2.1 a1 M P h
  have hR2 : 12 + 1 ≤ (eR E).frames ∧ 8 + (2 + 11) + 273 ≤ (eR E).locals := by rw [X.2.2.2.2.2.2.2.1]; exact hR
  have hC2 : eCells E + 0 ≤ (eR E).cells ∧ eSlots E + 0 ≤ (eR E).slots := by rw [X.2.2.2.2.2.2.2.1]; exact ⟨X.2.2.2.2.2.2.2.2.1, X.2.2.2.2.2.2.2.2.2⟩
  obtain ⟨q0, -, hq⟩ := wld_get (G := G) M (mw7 0 (by decide))
  exact va_calli (va_runV (C := RX7) (As := [.int a1]) (rest := st) ⟨X.1, X.2.1, X.2.2.1, X.2.2.2.1, X.2.2.2.2.1⟩ hm (cwV (ws' := lw_aw) 1 X.2.2.2.2.1 (gwV (tw (i := 1144) (by decide +kernel)) (tw (i := 1146) (by decide +kernel)) (tw (i := 55) (by decide +kernel)) (tw (i := 78) (by decide +kernel)) (tw (i := 1147) (by decide +kernel))) rfl rfl rfl (by decide +kernel) hR2) ⟨hr_blind, va_recv hK hP (ci := 7) (q := (RX7, TX7, 15)) (fs := objF7 G 0 (M.1 7 0)) (q0 := q0) rfl hq, fun U hU hW => ⟨rfl, by rw [hU]; exact hP, KK.warm hW X.2.2.2.2.2.1⟩⟩ rfl rfl hl.1 rfl (lv_room hst) d hC2) hS (fun q _ h => h) (fun q h => h) (fun r u t H1 locs1 ht hvm hw hB hz1 hk1 hS1 => k1 r u hw H1 locs1 ls (by rw [← ht]; exact hB.1) hS1 hl)
/-- LayeredClaimsModel.reinstatementPremium(I)I -/
def wp_X7_reinstatementPremium (a1 : Int32) (M : Mm) (P : Int32 → Mm → Prop) : Prop := (vp_in (((32 : Int32) + ((4 : Int32) * a1)) + (2 : Int32)) 136 ∧ (wp_X7_reinstated a1 M (fun (r3 : Int32) (M2 : Mm) => (vp_in (((32 : Int32) + ((4 : Int32) * a1)) + (1 : Int32)) 136 ∧ (¬ (rd M2 160 0 (((32 : Int32) + ((4 : Int32) * a1)) + (1 : Int32)).toNatClampNeg).toInt64 = 0 ∧ P (((rd M 160 0 (((32 : Int32) + ((4 : Int32) * a1)) + (2 : Int32)).toNatClampNeg).toInt64 * r3.toInt64) / (rd M2 160 0 (((32 : Int32) + ((4 : Int32) * a1)) + (1 : Int32)).toNatClampNeg).toInt64).toInt32 M2)))))
set_option maxHeartbeats 4000000 in
set_option maxRecDepth 100000 in
theorem met_X7_reinstatementPremium {l : Launch} {G : GT} (hG : GD G) (a1 : Int32) (M : Mm) (P : Int32 → Mm → Prop) (h : wp_X7_reinstatementPremium a1 M P) : MI l G yX7_reinstatementPremium cX7_reinstatementPremium 2 (some .int) ({ frames := 13, cells := 0, slots := 0, locals := 294 } : Room) [.ref (adr G 7 0), .int a1] M P := by
  refine met_by hG (own := RX7) rfl (by decide +kernel) (Nat.le_of_ble_eq_true rfl) (fun E hE X Y => ?_)
  show J G E 2 0 [(0, .ref (adr G 7 0)), (1, .int a1)] [] M
  unfold wp_X7_reinstatementPremium at h
  refine j_aload_n X 0 dX7_reinstatementPremium_0 rfl rfl ?_
  refine jf_RX7_9 X  dX7_reinstatementPremium_1 ?_
  refine j_bipush (v := (32 : Int32)) X (by decide) dX7_reinstatementPremium_4 ?_
  refine j_iconst (v := (4 : Int32)) X (by decide) dX7_reinstatementPremium_6 ?_
  refine j_iload_n X 1 dX7_reinstatementPremium_7 rfl rfl ?_
  refine j_imul X dX7_reinstatementPremium_8 ?_
  refine j_iadd X dX7_reinstatementPremium_9 ?_
  refine j_iconst (v := (2 : Int32)) X (by decide) dX7_reinstatementPremium_10 ?_
  refine j_iadd X dX7_reinstatementPremium_11 ?_
  have q1 := h.1
  replace h := h.2
  refine j_iald X _ rfl (mw160 0 (by decide)) kt160 lt160 q1 dX7_reinstatementPremium_12 ?_
  refine j_i2l X dX7_reinstatementPremium_13 ?_
  refine j_aload_n X 0 dX7_reinstatementPremium_14 rfl rfl ?_
  refine j_iload_n X 1 dX7_reinstatementPremium_15 rfl rfl ?_
  refine jc_RX7_196 X ⟨Nat.le_of_ble_eq_true rfl, Nat.le_of_ble_eq_true rfl⟩ (Nat.le_of_ble_eq_true rfl) dX7_reinstatementPremium_16 h (fun r3 M2 h => ?_)
  refine j_i2l X dX7_reinstatementPremium_19 ?_
  refine j_lmul X dX7_reinstatementPremium_20 ?_
  refine j_aload_n X 0 dX7_reinstatementPremium_21 rfl rfl ?_
  refine jf_RX7_9 X  dX7_reinstatementPremium_22 ?_
  refine j_bipush (v := (32 : Int32)) X (by decide) dX7_reinstatementPremium_25 ?_
  refine j_iconst (v := (4 : Int32)) X (by decide) dX7_reinstatementPremium_27 ?_
  refine j_iload_n X 1 dX7_reinstatementPremium_28 rfl rfl ?_
  refine j_imul X dX7_reinstatementPremium_29 ?_
  refine j_iadd X dX7_reinstatementPremium_30 ?_
  refine j_iconst (v := (1 : Int32)) X (by decide) dX7_reinstatementPremium_31 ?_
  refine j_iadd X dX7_reinstatementPremium_32 ?_
  have q4 := h.1
  replace h := h.2
  refine j_iald X _ rfl (mw160 0 (by decide)) kt160 lt160 q4 dX7_reinstatementPremium_33 ?_
  refine j_i2l X dX7_reinstatementPremium_34 ?_
  have q5 := h.1
  replace h := h.2
  refine j_ldiv X q5 dX7_reinstatementPremium_35 ?_
  refine j_l2i X dX7_reinstatementPremium_36 ?_
  exact j_iret X Y dX7_reinstatementPremium_37 h
theorem jc_RX7_205 {G : GT} {E : ET} {cc : ByteArray} {nL pc : Nat} {rm : Room} {lv : List (Nat × Value)} {st : List Value} {M : Mm} (X : CX G E RX7 cc nL rm) (hR : 13 + 1 ≤ rm.frames ∧ 8 + (2 + 11) + 294 ≤ rm.locals) (hst : (st.map fun v => v.category).sum ≤ 8) (d : decode cc pc = .ok (.invokevirtual 205, 3)) {a1 : Int32} {P : Int32 → Mm → Prop} (h : wp_X7_reinstatementPremium a1 M P) (k1 : ∀ (r : Int32) (M2 : Mm), P r M2 → J G E nL (pc + 3) lv (.int r :: st) M2) : J G E nL pc lv (.int a1 :: .ref (adr G 7 0) :: st) M := fun H locs ls hP hS hl => by
  have hK := X.2.2.2.2.2.1.1
  have hm := met_X7_reinstatementPremium (l := eL E) X.2.2.2.2.2.2.1 a1 M P h
  have hR2 : 13 + 1 ≤ (eR E).frames ∧ 8 + (2 + 11) + 294 ≤ (eR E).locals := by rw [X.2.2.2.2.2.2.2.1]; exact hR
  have hC2 : eCells E + 0 ≤ (eR E).cells ∧ eSlots E + 0 ≤ (eR E).slots := by rw [X.2.2.2.2.2.2.2.1]; exact ⟨X.2.2.2.2.2.2.2.2.1, X.2.2.2.2.2.2.2.2.2⟩
  obtain ⟨q0, -, hq⟩ := wld_get (G := G) M (mw7 0 (by decide))
  exact va_calli (va_runV (C := RX7) (As := [.int a1]) (rest := st) ⟨X.1, X.2.1, X.2.2.1, X.2.2.2.1, X.2.2.2.2.1⟩ hm (cwV (ws' := lw_aw) 1 X.2.2.2.2.1 (gwV (tw (i := 1148) (by decide +kernel)) (tw (i := 1150) (by decide +kernel)) (tw (i := 56) (by decide +kernel)) (tw (i := 78) (by decide +kernel)) (tw (i := 1151) (by decide +kernel))) rfl rfl rfl (by decide +kernel) hR2) ⟨hr_blind, va_recv hK hP (ci := 7) (q := (RX7, TX7, 15)) (fs := objF7 G 0 (M.1 7 0)) (q0 := q0) rfl hq, fun U hU hW => ⟨rfl, by rw [hU]; exact hP, KK.warm hW X.2.2.2.2.2.1⟩⟩ rfl rfl hl.1 rfl (lv_room hst) d hC2) hS (fun q _ h => h) (fun q h => h) (fun r u t H1 locs1 ht hvm hw hB hz1 hk1 hS1 => k1 r u hw H1 locs1 ls (by rw [← ht]; exact hB.1) hS1 hl)
/-- LayeredClaimsModel.paidInAll(I)I -/
def wp_X7_paidInAll (a1 : Int32) (M : Mm) (P : Int32 → Mm → Prop) : Prop := (vp_in (((8 : Int32) + ((4 : Int32) * a1)) + (1 : Int32)) 136 ∧ (wp_X7_leftAt (rd M 160 0 2) a1 M (fun (r3 : Int32) (M2 : Mm) => P ((rd M 160 0 (((8 : Int32) + ((4 : Int32) * a1)) + (1 : Int32)).toNatClampNeg) - r3) M2)))
set_option maxHeartbeats 4000000 in
set_option maxRecDepth 100000 in
theorem met_X7_paidInAll {l : Launch} {G : GT} (hG : GD G) (a1 : Int32) (M : Mm) (P : Int32 → Mm → Prop) (h : wp_X7_paidInAll a1 M P) : MI l G yX7_paidInAll cX7_paidInAll 2 (some .int) ({ frames := 6, cells := 0, slots := 0, locals := 140 } : Room) [.ref (adr G 7 0), .int a1] M P := by
  refine met_by hG (own := RX7) rfl (by decide +kernel) (Nat.le_of_ble_eq_true rfl) (fun E hE X Y => ?_)
  show J G E 2 0 [(0, .ref (adr G 7 0)), (1, .int a1)] [] M
  unfold wp_X7_paidInAll at h
  refine j_aload_n X 0 dX7_paidInAll_0 rfl rfl ?_
  refine jf_RX7_9 X  dX7_paidInAll_1 ?_
  refine j_bipush (v := (8 : Int32)) X (by decide) dX7_paidInAll_4 ?_
  refine j_iconst (v := (4 : Int32)) X (by decide) dX7_paidInAll_6 ?_
  refine j_iload_n X 1 dX7_paidInAll_7 rfl rfl ?_
  refine j_imul X dX7_paidInAll_8 ?_
  refine j_iadd X dX7_paidInAll_9 ?_
  refine j_iconst (v := (1 : Int32)) X (by decide) dX7_paidInAll_10 ?_
  refine j_iadd X dX7_paidInAll_11 ?_
  have q1 := h.1
  replace h := h.2
  refine j_iald X _ rfl (mw160 0 (by decide)) kt160 lt160 q1 dX7_paidInAll_12 ?_
  refine j_aload_n X 0 dX7_paidInAll_13 rfl rfl ?_
  refine j_aload_n X 0 dX7_paidInAll_14 rfl rfl ?_
  refine jf_RX7_9 X  dX7_paidInAll_15 ?_
  refine j_iconst (v := (2 : Int32)) X (by decide) dX7_paidInAll_18 ?_
  refine j_iald X 2 (by decide) (mw160 0 (by decide)) kt160 lt160 (vpc (by decide)) dX7_paidInAll_19 ?_
  refine j_iload_n X 1 dX7_paidInAll_20 rfl rfl ?_
  refine jc_RX7_166 X ⟨Nat.le_of_ble_eq_true rfl, Nat.le_of_ble_eq_true rfl⟩ (Nat.le_of_ble_eq_true rfl) dX7_paidInAll_21 h (fun r3 M2 h => ?_)
  refine j_isub X dX7_paidInAll_24 ?_
  exact j_iret X Y dX7_paidInAll_25 h
theorem jc_RX7_199 {G : GT} {E : ET} {cc : ByteArray} {nL pc : Nat} {rm : Room} {lv : List (Nat × Value)} {st : List Value} {M : Mm} (X : CX G E RX7 cc nL rm) (hR : 6 + 1 ≤ rm.frames ∧ 8 + (2 + 11) + 140 ≤ rm.locals) (hst : (st.map fun v => v.category).sum ≤ 8) (d : decode cc pc = .ok (.invokevirtual 199, 3)) {a1 : Int32} {P : Int32 → Mm → Prop} (h : wp_X7_paidInAll a1 M P) (k1 : ∀ (r : Int32) (M2 : Mm), P r M2 → J G E nL (pc + 3) lv (.int r :: st) M2) : J G E nL pc lv (.int a1 :: .ref (adr G 7 0) :: st) M := fun H locs ls hP hS hl => by
  have hK := X.2.2.2.2.2.1.1
  have hm := met_X7_paidInAll (l := eL E) X.2.2.2.2.2.2.1 a1 M P h
  have hR2 : 6 + 1 ≤ (eR E).frames ∧ 8 + (2 + 11) + 140 ≤ (eR E).locals := by rw [X.2.2.2.2.2.2.2.1]; exact hR
  have hC2 : eCells E + 0 ≤ (eR E).cells ∧ eSlots E + 0 ≤ (eR E).slots := by rw [X.2.2.2.2.2.2.2.1]; exact ⟨X.2.2.2.2.2.2.2.2.1, X.2.2.2.2.2.2.2.2.2⟩
  obtain ⟨q0, -, hq⟩ := wld_get (G := G) M (mw7 0 (by decide))
  exact va_calli (va_runV (C := RX7) (As := [.int a1]) (rest := st) ⟨X.1, X.2.1, X.2.2.1, X.2.2.2.1, X.2.2.2.2.1⟩ hm (cwV (ws' := lw_aw) 1 X.2.2.2.2.1 (gwV (tw (i := 1057) (by decide +kernel)) (tw (i := 1059) (by decide +kernel)) (tw (i := 35) (by decide +kernel)) (tw (i := 78) (by decide +kernel)) (tw (i := 1060) (by decide +kernel))) rfl rfl rfl (by decide +kernel) hR2) ⟨hr_blind, va_recv hK hP (ci := 7) (q := (RX7, TX7, 15)) (fs := objF7 G 0 (M.1 7 0)) (q0 := q0) rfl hq, fun U hU hW => ⟨rfl, by rw [hU]; exact hP, KK.warm hW X.2.2.2.2.2.1⟩⟩ rfl rfl hl.1 rfl (lv_room hst) d hC2) hS (fun q _ h => h) (fun q h => h) (fun r u t H1 locs1 ht hvm hw hB hz1 hk1 hS1 => k1 r u hw H1 locs1 ls (by rw [← ht]; exact hB.1) hS1 hl)
/-- LayeredClaimsModel.cover(II)I -/
def wp_X7_cover (a1 : Int32) (a2 : Int32) (M : Mm) (P : Int32 → Mm → Prop) : Prop := (wp_X7_isCover a1 M (fun (r2 : Int32) (M1 : Mm) => ((¬ r2 = 0 → (wp_X7_in a2 (0 : Int32) (3 : Int32) M1 (fun (r5 : Int32) (M4 : Mm) => ((r5 = 0 → ((¬ a2 = (4 : Int32) → ((¬ a2 = (5 : Int32) → P (-2 : Int32) M4) ∧ (a2 = (5 : Int32) → (wp_X7_leftAt (rd M4 160 0 2) a1 M4 (fun (r10 : Int32) (M9 : Mm) => P r10 M9))))) ∧ (a2 = (4 : Int32) → (wp_X7_paidInAll a1 M4 (fun (r12 : Int32) (M11 : Mm) => P r12 M11))))) ∧ (¬ r5 = 0 → (vp_in (((8 : Int32) + ((4 : Int32) * a1)) + a2) 136 ∧ P (rd M4 160 0 (((8 : Int32) + ((4 : Int32) * a1)) + a2).toNatClampNeg) M4)))))) ∧ (r2 = 0 → P (-1 : Int32) M1))))
set_option maxHeartbeats 4000000 in
set_option maxRecDepth 100000 in
theorem met_X7_cover {l : Launch} {G : GT} (hG : GD G) (a1 : Int32) (a2 : Int32) (M : Mm) (P : Int32 → Mm → Prop) (h : wp_X7_cover a1 a2 M P) : MI l G yX7_cover cX7_cover 3 (some .int) ({ frames := 7, cells := 0, slots := 0, locals := 161 } : Room) [.ref (adr G 7 0), .int a1, .int a2] M P := by
  refine met_by hG (own := RX7) rfl (by decide +kernel) (Nat.le_of_ble_eq_true rfl) (fun E hE X Y => ?_)
  show J G E 3 0 [(0, .ref (adr G 7 0)), (1, .int a1), (2, .int a2)] [] M
  unfold wp_X7_cover at h
  refine j_aload_n X 0 dX7_cover_0 rfl rfl ?_
  refine j_iload_n X 1 dX7_cover_1 rfl rfl ?_
  refine jc_RX7_78 X ⟨Nat.le_of_ble_eq_true rfl, Nat.le_of_ble_eq_true rfl⟩ (Nat.le_of_ble_eq_true rfl) dX7_cover_2 h (fun r2 M1 h => ?_)
  refine j_if_ne X 10 dX7_cover_5 (by decide) (fun c3 => ?_) (fun c3 => ?_)
  · replace h := h.1 c3
    refine j_iload_n X 2 dX7_cover_10 rfl rfl ?_
    refine j_iconst (v := (0 : Int32)) X (by decide) dX7_cover_11 ?_
    refine j_iconst (v := (3 : Int32)) X (by decide) dX7_cover_12 ?_
    refine jc_RX7_61 X ⟨Nat.le_of_ble_eq_true rfl, Nat.le_of_ble_eq_true rfl⟩ (Nat.le_of_ble_eq_true rfl) dX7_cover_13 h (fun r5 M4 h => ?_)
    refine j_if_eq X 33 dX7_cover_16 (by decide) (fun c6 => ?_) (fun c6 => ?_)
    · replace h := h.1 c6
      refine j_iload_n X 2 dX7_cover_33 rfl rfl ?_
      refine j_iconst (v := (4 : Int32)) X (by decide) dX7_cover_34 ?_
      refine j_icmp_ne X 46 dX7_cover_35 (by decide) (fun c7 => ?_) (fun c7 => ?_)
      · replace h := h.1 c7
        refine j_iload_n X 2 dX7_cover_46 rfl rfl ?_
        refine j_iconst (v := (5 : Int32)) X (by decide) dX7_cover_47 ?_
        refine j_icmp_ne X 65 dX7_cover_48 (by decide) (fun c8 => ?_) (fun c8 => ?_)
        · replace h := h.1 c8
          refine j_bipush (v := (-2 : Int32)) X (by decide) dX7_cover_65 ?_
          exact j_iret X Y dX7_cover_67 h
        · replace h := h.2 c8
          refine j_aload_n X 0 dX7_cover_51 rfl rfl ?_
          refine j_aload_n X 0 dX7_cover_52 rfl rfl ?_
          refine jf_RX7_9 X  dX7_cover_53 ?_
          refine j_iconst (v := (2 : Int32)) X (by decide) dX7_cover_56 ?_
          refine j_iald X 2 (by decide) (mw160 0 (by decide)) kt160 lt160 (vpc (by decide)) dX7_cover_57 ?_
          refine j_iload_n X 1 dX7_cover_58 rfl rfl ?_
          refine jc_RX7_166 X ⟨Nat.le_of_ble_eq_true rfl, Nat.le_of_ble_eq_true rfl⟩ (Nat.le_of_ble_eq_true rfl) dX7_cover_59 h (fun r10 M9 h => ?_)
          refine j_goto X 67 dX7_cover_62 (by decide) ?_
          exact j_iret X Y dX7_cover_67 h
      · replace h := h.2 c7
        refine j_aload_n X 0 dX7_cover_38 rfl rfl ?_
        refine j_iload_n X 1 dX7_cover_39 rfl rfl ?_
        refine jc_RX7_199 X ⟨Nat.le_of_ble_eq_true rfl, Nat.le_of_ble_eq_true rfl⟩ (Nat.le_of_ble_eq_true rfl) dX7_cover_40 h (fun r12 M11 h => ?_)
        refine j_goto X 67 dX7_cover_43 (by decide) ?_
        exact j_iret X Y dX7_cover_67 h
    · replace h := h.2 c6
      refine j_aload_n X 0 dX7_cover_19 rfl rfl ?_
      refine jf_RX7_9 X  dX7_cover_20 ?_
      refine j_bipush (v := (8 : Int32)) X (by decide) dX7_cover_23 ?_
      refine j_iconst (v := (4 : Int32)) X (by decide) dX7_cover_25 ?_
      refine j_iload_n X 1 dX7_cover_26 rfl rfl ?_
      refine j_imul X dX7_cover_27 ?_
      refine j_iadd X dX7_cover_28 ?_
      refine j_iload_n X 2 dX7_cover_29 rfl rfl ?_
      refine j_iadd X dX7_cover_30 ?_
      have q13 := h.1
      replace h := h.2
      refine j_iald X _ rfl (mw160 0 (by decide)) kt160 lt160 q13 dX7_cover_31 ?_
      exact j_iret X Y dX7_cover_32 h
  · replace h := h.2 c3
    refine j_iconst (v := (-1 : Int32)) X (by decide) dX7_cover_8 ?_
    exact j_iret X Y dX7_cover_9 h
/-- LayeredClaimsModel.layer(II)I -/
def wp_X7_layer (a1 : Int32) (a2 : Int32) (M : Mm) (P : Int32 → Mm → Prop) : Prop := (wp_X7_isLayer a1 M (fun (r2 : Int32) (M1 : Mm) => ((¬ r2 = 0 → (wp_X7_in a2 (0 : Int32) (3 : Int32) M1 (fun (r5 : Int32) (M4 : Mm) => ((r5 = 0 → ((a2 = 4 → (wp_X7_borneInAll a1 M4 (fun (r9 : Int32) (M8 : Mm) => P r9 M8))) ∧ (a2 = 5 → (wp_X7_capacityAt (rd M4 160 0 2) a1 M4 (fun (r11 : Int32) (M10 : Mm) => P r11 M10))) ∧ (a2 = 6 → (wp_X7_reinstated a1 M4 (fun (r13 : Int32) (M12 : Mm) => P r13 M12))) ∧ (a2 = 7 → (wp_X7_reinstatementPremium a1 M4 (fun (r15 : Int32) (M14 : Mm) => P r15 M14))) ∧ (¬ a2 = 4 → ¬ a2 = 5 → ¬ a2 = 6 → ¬ a2 = 7 → P (-2 : Int32) M4))) ∧ (¬ r5 = 0 → (vp_in (((32 : Int32) + ((4 : Int32) * a1)) + a2) 136 ∧ P (rd M4 160 0 (((32 : Int32) + ((4 : Int32) * a1)) + a2).toNatClampNeg) M4)))))) ∧ (r2 = 0 → P (-1 : Int32) M1))))
set_option maxHeartbeats 4000000 in
set_option maxRecDepth 100000 in
theorem met_X7_layer {l : Launch} {G : GT} (hG : GD G) (a1 : Int32) (a2 : Int32) (M : Mm) (P : Int32 → Mm → Prop) (h : wp_X7_layer a1 a2 M P) : MI l G yX7_layer cX7_layer 3 (some .int) ({ frames := 14, cells := 0, slots := 0, locals := 315 } : Room) [.ref (adr G 7 0), .int a1, .int a2] M P := by
  refine met_by hG (own := RX7) rfl (by decide +kernel) (Nat.le_of_ble_eq_true rfl) (fun E hE X Y => ?_)
  show J G E 3 0 [(0, .ref (adr G 7 0)), (1, .int a1), (2, .int a2)] [] M
  unfold wp_X7_layer at h
  refine j_aload_n X 0 dX7_layer_0 rfl rfl ?_
  refine j_iload_n X 1 dX7_layer_1 rfl rfl ?_
  refine jc_RX7_202 X ⟨Nat.le_of_ble_eq_true rfl, Nat.le_of_ble_eq_true rfl⟩ (Nat.le_of_ble_eq_true rfl) dX7_layer_2 h (fun r2 M1 h => ?_)
  refine j_if_ne X 10 dX7_layer_5 (by decide) (fun c3 => ?_) (fun c3 => ?_)
  · replace h := h.1 c3
    refine j_iload_n X 2 dX7_layer_10 rfl rfl ?_
    refine j_iconst (v := (0 : Int32)) X (by decide) dX7_layer_11 ?_
    refine j_iconst (v := (3 : Int32)) X (by decide) dX7_layer_12 ?_
    refine jc_RX7_61 X ⟨Nat.le_of_ble_eq_true rfl, Nat.le_of_ble_eq_true rfl⟩ (Nat.le_of_ble_eq_true rfl) dX7_layer_13 h (fun r5 M4 h => ?_)
    refine j_if_eq X 33 dX7_layer_16 (by decide) (fun c6 => ?_) (fun c6 => ?_)
    · replace h := h.1 c6
      refine j_iload_n X 2 dX7_layer_33 rfl rfl ?_
      refine j_ts_4_7 X (t4 := 64) (t5 := 70) (t6 := 82) (t7 := 88) (td := 94) dX7_layer_34 rfl (by decide) (by decide) (by decide) (by decide) (by decide) (fun c7 => ?_) (fun c7 => ?_) (fun c7 => ?_) (fun c7 => ?_) (fun c16 c17 c18 c19 => ?_)
      · replace h := h.1 c7
        refine j_aload_n X 0 dX7_layer_64 rfl rfl ?_
        refine j_iload_n X 1 dX7_layer_65 rfl rfl ?_
        refine jc_RX7_193 X ⟨Nat.le_of_ble_eq_true rfl, Nat.le_of_ble_eq_true rfl⟩ (Nat.le_of_ble_eq_true rfl) dX7_layer_66 h (fun r9 M8 h => ?_)
        exact j_iret X Y dX7_layer_69 h
      · replace h := h.2.1 c7
        refine j_aload_n X 0 dX7_layer_70 rfl rfl ?_
        refine j_aload_n X 0 dX7_layer_71 rfl rfl ?_
        refine jf_RX7_9 X  dX7_layer_72 ?_
        refine j_iconst (v := (2 : Int32)) X (by decide) dX7_layer_75 ?_
        refine j_iald X 2 (by decide) (mw160 0 (by decide)) kt160 lt160 (vpc (by decide)) dX7_layer_76 ?_
        refine j_iload_n X 1 dX7_layer_77 rfl rfl ?_
        refine jc_RX7_187 X ⟨Nat.le_of_ble_eq_true rfl, Nat.le_of_ble_eq_true rfl⟩ (Nat.le_of_ble_eq_true rfl) dX7_layer_78 h (fun r11 M10 h => ?_)
        exact j_iret X Y dX7_layer_81 h
      · replace h := h.2.2.1 c7
        refine j_aload_n X 0 dX7_layer_82 rfl rfl ?_
        refine j_iload_n X 1 dX7_layer_83 rfl rfl ?_
        refine jc_RX7_196 X ⟨Nat.le_of_ble_eq_true rfl, Nat.le_of_ble_eq_true rfl⟩ (Nat.le_of_ble_eq_true rfl) dX7_layer_84 h (fun r13 M12 h => ?_)
        exact j_iret X Y dX7_layer_87 h
      · replace h := h.2.2.2.1 c7
        refine j_aload_n X 0 dX7_layer_88 rfl rfl ?_
        refine j_iload_n X 1 dX7_layer_89 rfl rfl ?_
        refine jc_RX7_205 X ⟨Nat.le_of_ble_eq_true rfl, Nat.le_of_ble_eq_true rfl⟩ (Nat.le_of_ble_eq_true rfl) dX7_layer_90 h (fun r15 M14 h => ?_)
        exact j_iret X Y dX7_layer_93 h
      · replace h := h.2.2.2.2 c16 c17 c18 c19
        refine j_bipush (v := (-2 : Int32)) X (by decide) dX7_layer_94 ?_
        exact j_iret X Y dX7_layer_96 h
    · replace h := h.2 c6
      refine j_aload_n X 0 dX7_layer_19 rfl rfl ?_
      refine jf_RX7_9 X  dX7_layer_20 ?_
      refine j_bipush (v := (32 : Int32)) X (by decide) dX7_layer_23 ?_
      refine j_iconst (v := (4 : Int32)) X (by decide) dX7_layer_25 ?_
      refine j_iload_n X 1 dX7_layer_26 rfl rfl ?_
      refine j_imul X dX7_layer_27 ?_
      refine j_iadd X dX7_layer_28 ?_
      refine j_iload_n X 2 dX7_layer_29 rfl rfl ?_
      refine j_iadd X dX7_layer_30 ?_
      have q20 := h.1
      replace h := h.2
      refine j_iald X _ rfl (mw160 0 (by decide)) kt160 lt160 q20 dX7_layer_31 ?_
      exact j_iret X Y dX7_layer_32 h
  · replace h := h.2 c3
    refine j_iconst (v := (-1 : Int32)) X (by decide) dX7_layer_8 ?_
    exact j_iret X Y dX7_layer_9 h
/-- LayeredClaimsModel.deductible(I)I -/
def wp_X7_deductible (a1 : Int32) (M : Mm) (P : Int32 → Mm → Prop) : Prop := (wp_X7_isGroup a1 M (fun (r2 : Int32) (M1 : Mm) => ((r2 = 0 → P (-1 : Int32) M1) ∧ (¬ r2 = 0 → (vp_in ((5 : Int32) + a1) 136 ∧ P (rd M1 160 0 ((5 : Int32) + a1).toNatClampNeg) M1)))))
set_option maxHeartbeats 4000000 in
set_option maxRecDepth 100000 in
theorem met_X7_deductible {l : Launch} {G : GT} (hG : GD G) (a1 : Int32) (M : Mm) (P : Int32 → Mm → Prop) (h : wp_X7_deductible a1 M P) : MI l G yX7_deductible cX7_deductible 2 (some .int) ({ frames := 2, cells := 0, slots := 0, locals := 42 } : Room) [.ref (adr G 7 0), .int a1] M P := by
  refine met_by hG (own := RX7) rfl (by decide +kernel) (Nat.le_of_ble_eq_true rfl) (fun E hE X Y => ?_)
  show J G E 2 0 [(0, .ref (adr G 7 0)), (1, .int a1)] [] M
  unfold wp_X7_deductible at h
  refine j_iload_n X 1 dX7_deductible_0 rfl rfl ?_
  refine jc_RX7_66 X ⟨Nat.le_of_ble_eq_true rfl, Nat.le_of_ble_eq_true rfl⟩ (Nat.le_of_ble_eq_true rfl) dX7_deductible_1 h (fun r2 M1 h => ?_)
  refine j_if_eq X 18 dX7_deductible_4 (by decide) (fun c3 => ?_) (fun c3 => ?_)
  · replace h := h.1 c3
    refine j_iconst (v := (-1 : Int32)) X (by decide) dX7_deductible_18 ?_
    exact j_iret X Y dX7_deductible_19 h
  · replace h := h.2 c3
    refine j_aload_n X 0 dX7_deductible_7 rfl rfl ?_
    refine jf_RX7_9 X  dX7_deductible_8 ?_
    refine j_iconst (v := (5 : Int32)) X (by decide) dX7_deductible_11 ?_
    refine j_iload_n X 1 dX7_deductible_12 rfl rfl ?_
    refine j_iadd X dX7_deductible_13 ?_
    have q4 := h.1
    replace h := h.2
    refine j_iald X _ rfl (mw160 0 (by decide)) kt160 lt160 q4 dX7_deductible_14 ?_
    refine j_goto X 19 dX7_deductible_15 (by decide) ?_
    exact j_iret X Y dX7_deductible_19 h
/-- LayeredClaimsModel.manyClaims(I)I -/
def wp_X7_manyClaims (a1 : Int32) (M : Mm) (P : Int32 → Mm → Prop) : Prop := (∃ n, lq2 (fun self1 (x3 : Int32) (x4 : Int32) => (((rd M 160 0 3) ≤ x4 → P x3 M) ∧ (¬ (rd M 160 0 3) ≤ x4 → (vp_in ((64 : Int32) + ((3 : Int32) * x4)) 136 ∧ (jn (fun (v7 : Int32) => (∀ x10 : Int32, x10 = (x3 + v7) → (∀ x11 : Int32, x11 = x4 + (1 : Int32) → self1 x10 x11))) (fun J8 : Int32 → Prop => ((¬ (rd M 160 0 ((64 : Int32) + ((3 : Int32) * x4)).toNatClampNeg) = a1 → J8 (0 : Int32)) ∧ ((rd M 160 0 ((64 : Int32) + ((3 : Int32) * x4)).toNatClampNeg) = a1 → J8 (1 : Int32))))))))) n (0 : Int32) (0 : Int32))
set_option maxHeartbeats 4000000 in
set_option maxRecDepth 100000 in
theorem met_X7_manyClaims {l : Launch} {G : GT} (hG : GD G) (a1 : Int32) (M : Mm) (P : Int32 → Mm → Prop) (h : wp_X7_manyClaims a1 M P) : MI l G yX7_manyClaims cX7_manyClaims 4 (some .int) ({ frames := 0, cells := 0, slots := 0, locals := 0 } : Room) [.ref (adr G 7 0), .int a1] M P := by
  refine met_by hG (own := RX7) rfl (by decide +kernel) (Nat.le_of_ble_eq_true rfl) (fun E hE X Y => ?_)
  show J G E 4 0 [(0, .ref (adr G 7 0)), (1, .int a1)] [] M
  unfold wp_X7_manyClaims at h
  refine j_iconst (v := (0 : Int32)) X (by decide) dX7_manyClaims_0 ?_
  refine j_istore_n X [(2, .int (0 : Int32)), (0, .ref (adr G 7 0)), (1, .int a1)] dX7_manyClaims_1 rfl (by decide) rfl ?_
  refine j_iconst (v := (0 : Int32)) X (by decide) dX7_manyClaims_2 ?_
  refine j_istore_n X [(3, .int (0 : Int32)), (2, .int (0 : Int32)), (0, .ref (adr G 7 0)), (1, .int a1)] dX7_manyClaims_3 rfl (by decide) rfl ?_
  refine j_sub [2, 3, 1, 0] rfl ?_
  refine lq2_s h (fun (x3 : Int32) (x4 : Int32) => J G E 4 4 [(0, .ref (adr G 7 0)), (1, .int a1), (2, .int x3), (3, .int x4)] [] M) (fun self1 ih2 x3 x4 h => ?_) id
  refine j_iload_n X 3 dX7_manyClaims_4 rfl rfl ?_
  refine j_aload_n X 0 dX7_manyClaims_5 rfl rfl ?_
  refine jf_RX7_9 X  dX7_manyClaims_6 ?_
  refine j_iconst (v := (3 : Int32)) X (by decide) dX7_manyClaims_9 ?_
  refine j_iald X 3 (by decide) (mw160 0 (by decide)) kt160 lt160 (vpc (by decide)) dX7_manyClaims_10 ?_
  refine j_icmp_ge X 43 dX7_manyClaims_11 (by decide) (fun c5 => ?_) (fun c5 => ?_)
  · replace h := h.1 c5
    refine j_iload_n X 2 dX7_manyClaims_43 rfl rfl ?_
    exact j_iret X Y dX7_manyClaims_44 h
  · replace h := h.2 c5
    refine j_iload_n X 2 dX7_manyClaims_14 rfl rfl ?_
    refine j_aload_n X 0 dX7_manyClaims_15 rfl rfl ?_
    refine jf_RX7_9 X  dX7_manyClaims_16 ?_
    refine j_bipush (v := (64 : Int32)) X (by decide) dX7_manyClaims_19 ?_
    refine j_iconst (v := (3 : Int32)) X (by decide) dX7_manyClaims_21 ?_
    refine j_iload_n X 3 dX7_manyClaims_22 rfl rfl ?_
    refine j_imul X dX7_manyClaims_23 ?_
    refine j_iadd X dX7_manyClaims_24 ?_
    have q6 := h.1
    replace h := h.2
    refine j_iald X _ rfl (mw160 0 (by decide)) kt160 lt160 q6 dX7_manyClaims_25 ?_
    refine j_iload_n X 1 dX7_manyClaims_26 rfl rfl ?_
    refine jn1_s h (fun (v7 : Int32) => J G E 4 35 [(0, .ref (adr G 7 0)), (1, .int a1), (3, .int x4)] [.int v7, .int x3] M) (fun v7 h => ?_) (fun J8 hj9 h => ?_)
    · refine j_iadd X dX7_manyClaims_35 ?_
      refine j_topi (fun x10 ex10 => ?_)
      replace h := h x10 ex10
      refine j_istore_n X [(2, .int x10), (0, .ref (adr G 7 0)), (1, .int a1), (3, .int x4)] dX7_manyClaims_36 rfl (by decide) rfl ?_
      obtain ⟨x11, ex11⟩ : ∃ z : Int32, z = x4 + (1 : Int32) := ⟨_, rfl⟩
      replace h := h x11 ex11
      refine j_iinc (v := x11) X 3 [(3, .int x11), (2, .int x10), (0, .ref (adr G 7 0)), (1, .int a1)] dX7_manyClaims_37 rfl (by rw [ex11]; rfl) (by decide) rfl ?_
      refine j_goto X 4 dX7_manyClaims_40 (by decide) ?_
      refine j_sub [2, 3, 1, 0] rfl ?_
      exact ih2 x10 x11 h
    · refine j_icmp_ne X 34 dX7_manyClaims_27 (by decide) (fun c12 => ?_) (fun c12 => ?_)
      · replace h := h.1 c12
        refine j_iconst (v := (0 : Int32)) X (by decide) dX7_manyClaims_34 ?_
        refine j_sub [0, 1, 3] rfl ?_
        exact hj9 (0 : Int32) h
      · replace h := h.2 c12
        refine j_iconst (v := (1 : Int32)) X (by decide) dX7_manyClaims_30 ?_
        refine j_goto X 35 dX7_manyClaims_31 (by decide) ?_
        refine j_sub [0, 1, 3] rfl ?_
        exact hj9 (1 : Int32) h
theorem jc_RX7_208 {G : GT} {E : ET} {cc : ByteArray} {nL pc : Nat} {rm : Room} {lv : List (Nat × Value)} {st : List Value} {M : Mm} (X : CX G E RX7 cc nL rm) (hR : 0 + 1 ≤ rm.frames ∧ 8 + (4 + 11) + 0 ≤ rm.locals) (hst : (st.map fun v => v.category).sum ≤ 8) (d : decode cc pc = .ok (.invokevirtual 208, 3)) {a1 : Int32} {P : Int32 → Mm → Prop} (h : wp_X7_manyClaims a1 M P) (k1 : ∀ (r : Int32) (M2 : Mm), P r M2 → J G E nL (pc + 3) lv (.int r :: st) M2) : J G E nL pc lv (.int a1 :: .ref (adr G 7 0) :: st) M := fun H locs ls hP hS hl => by
  have hK := X.2.2.2.2.2.1.1
  have hm := met_X7_manyClaims (l := eL E) X.2.2.2.2.2.2.1 a1 M P h
  have hR2 : 0 + 1 ≤ (eR E).frames ∧ 8 + (4 + 11) + 0 ≤ (eR E).locals := by rw [X.2.2.2.2.2.2.2.1]; exact hR
  have hC2 : eCells E + 0 ≤ (eR E).cells ∧ eSlots E + 0 ≤ (eR E).slots := by rw [X.2.2.2.2.2.2.2.1]; exact ⟨X.2.2.2.2.2.2.2.2.1, X.2.2.2.2.2.2.2.2.2⟩
  obtain ⟨q0, -, hq⟩ := wld_get (G := G) M (mw7 0 (by decide))
  exact va_calli (va_runV (C := RX7) (As := [.int a1]) (rest := st) ⟨X.1, X.2.1, X.2.2.1, X.2.2.2.1, X.2.2.2.2.1⟩ hm (cwV (ws' := lw_aw) 1 X.2.2.2.2.1 (gwV (tw (i := 1160) (by decide +kernel)) (tw (i := 1162) (by decide +kernel)) (tw (i := 57) (by decide +kernel)) (tw (i := 78) (by decide +kernel)) (tw (i := 1163) (by decide +kernel))) rfl rfl rfl (by decide +kernel) hR2) ⟨hr_blind, va_recv hK hP (ci := 7) (q := (RX7, TX7, 15)) (fs := objF7 G 0 (M.1 7 0)) (q0 := q0) rfl hq, fun U hU hW => ⟨rfl, by rw [hU]; exact hP, KK.warm hW X.2.2.2.2.2.1⟩⟩ rfl rfl hl.1 rfl (lv_room hst) d hC2) hS (fun q _ h => h) (fun q h => h) (fun r u t H1 locs1 ht hvm hw hB hz1 hk1 hS1 => k1 r u hw H1 locs1 ls (by rw [← ht]; exact hB.1) hS1 hl)
/-- LayeredClaimsModel.lossesIn(I)I -/
def wp_X7_lossesIn (a1 : Int32) (M : Mm) (P : Int32 → Mm → Prop) : Prop := (∃ n, lq3 (fun self1 (x3 : Int32) (x4 : Int32) (M5 : Mm) => (((rd M5 160 0 3) ≤ x4 → P x3 M5) ∧ (¬ (rd M5 160 0 3) ≤ x4 → (vp_in ((64 : Int32) + ((3 : Int32) * x4)) 136 ∧ (jn (fun (v8 : Int32) (M9 : Mm) => (∀ x12 : Int32, x12 = (x3 + v8) → (∀ x13 : Int32, x13 = x4 + (1 : Int32) → self1 x12 x13 M9))) (fun J10 : Int32 → Mm → Prop => ((¬ (rd M5 160 0 ((64 : Int32) + ((3 : Int32) * x4)).toNatClampNeg) = a1 → J10 (0 : Int32) M5) ∧ ((rd M5 160 0 ((64 : Int32) + ((3 : Int32) * x4)).toNatClampNeg) = a1 → (wp_X7_lossOf x4 M5 (fun (r16 : Int32) (M15 : Mm) => J10 r16 M15)))))))))) n (0 : Int32) (0 : Int32) M)
set_option maxHeartbeats 4000000 in
set_option maxRecDepth 100000 in
theorem met_X7_lossesIn {l : Launch} {G : GT} (hG : GD G) (a1 : Int32) (M : Mm) (P : Int32 → Mm → Prop) (h : wp_X7_lossesIn a1 M P) : MI l G yX7_lossesIn cX7_lossesIn 4 (some .int) ({ frames := 1, cells := 0, slots := 0, locals := 23 } : Room) [.ref (adr G 7 0), .int a1] M P := by
  refine met_by hG (own := RX7) rfl (by decide +kernel) (Nat.le_of_ble_eq_true rfl) (fun E hE X Y => ?_)
  show J G E 4 0 [(0, .ref (adr G 7 0)), (1, .int a1)] [] M
  unfold wp_X7_lossesIn at h
  refine j_iconst (v := (0 : Int32)) X (by decide) dX7_lossesIn_0 ?_
  refine j_istore_n X [(2, .int (0 : Int32)), (0, .ref (adr G 7 0)), (1, .int a1)] dX7_lossesIn_1 rfl (by decide) rfl ?_
  refine j_iconst (v := (0 : Int32)) X (by decide) dX7_lossesIn_2 ?_
  refine j_istore_n X [(3, .int (0 : Int32)), (2, .int (0 : Int32)), (0, .ref (adr G 7 0)), (1, .int a1)] dX7_lossesIn_3 rfl (by decide) rfl ?_
  refine j_sub [2, 3, 1, 0] rfl ?_
  refine lq3_s h (fun (x3 : Int32) (x4 : Int32) (M5 : Mm) => J G E 4 4 [(0, .ref (adr G 7 0)), (1, .int a1), (2, .int x3), (3, .int x4)] [] M5) (fun self1 ih2 x3 x4 M5 h => ?_) id
  refine j_iload_n X 3 dX7_lossesIn_4 rfl rfl ?_
  refine j_aload_n X 0 dX7_lossesIn_5 rfl rfl ?_
  refine jf_RX7_9 X  dX7_lossesIn_6 ?_
  refine j_iconst (v := (3 : Int32)) X (by decide) dX7_lossesIn_9 ?_
  refine j_iald X 3 (by decide) (mw160 0 (by decide)) kt160 lt160 (vpc (by decide)) dX7_lossesIn_10 ?_
  refine j_icmp_ge X 47 dX7_lossesIn_11 (by decide) (fun c6 => ?_) (fun c6 => ?_)
  · replace h := h.1 c6
    refine j_iload_n X 2 dX7_lossesIn_47 rfl rfl ?_
    exact j_iret X Y dX7_lossesIn_48 h
  · replace h := h.2 c6
    refine j_iload_n X 2 dX7_lossesIn_14 rfl rfl ?_
    refine j_aload_n X 0 dX7_lossesIn_15 rfl rfl ?_
    refine jf_RX7_9 X  dX7_lossesIn_16 ?_
    refine j_bipush (v := (64 : Int32)) X (by decide) dX7_lossesIn_19 ?_
    refine j_iconst (v := (3 : Int32)) X (by decide) dX7_lossesIn_21 ?_
    refine j_iload_n X 3 dX7_lossesIn_22 rfl rfl ?_
    refine j_imul X dX7_lossesIn_23 ?_
    refine j_iadd X dX7_lossesIn_24 ?_
    have q7 := h.1
    replace h := h.2
    refine j_iald X _ rfl (mw160 0 (by decide)) kt160 lt160 q7 dX7_lossesIn_25 ?_
    refine j_iload_n X 1 dX7_lossesIn_26 rfl rfl ?_
    refine jn2_s h (fun (v8 : Int32) (M9 : Mm) => J G E 4 39 [(0, .ref (adr G 7 0)), (1, .int a1), (3, .int x4)] [.int v8, .int x3] M9) (fun v8 M9 h => ?_) (fun J10 hj11 h => ?_)
    · refine j_iadd X dX7_lossesIn_39 ?_
      refine j_topi (fun x12 ex12 => ?_)
      replace h := h x12 ex12
      refine j_istore_n X [(2, .int x12), (0, .ref (adr G 7 0)), (1, .int a1), (3, .int x4)] dX7_lossesIn_40 rfl (by decide) rfl ?_
      obtain ⟨x13, ex13⟩ : ∃ z : Int32, z = x4 + (1 : Int32) := ⟨_, rfl⟩
      replace h := h x13 ex13
      refine j_iinc (v := x13) X 3 [(3, .int x13), (2, .int x12), (0, .ref (adr G 7 0)), (1, .int a1)] dX7_lossesIn_41 rfl (by rw [ex13]; rfl) (by decide) rfl ?_
      refine j_goto X 4 dX7_lossesIn_44 (by decide) ?_
      refine j_sub [2, 3, 1, 0] rfl ?_
      exact ih2 x12 x13 M9 h
    · refine j_icmp_ne X 38 dX7_lossesIn_27 (by decide) (fun c14 => ?_) (fun c14 => ?_)
      · replace h := h.1 c14
        refine j_iconst (v := (0 : Int32)) X (by decide) dX7_lossesIn_38 ?_
        refine j_sub [0, 1, 3] rfl ?_
        exact hj11 (0 : Int32) M5 h
      · replace h := h.2 c14
        refine j_aload_n X 0 dX7_lossesIn_30 rfl rfl ?_
        refine j_iload_n X 3 dX7_lossesIn_31 rfl rfl ?_
        refine jc_RX7_140 X ⟨Nat.le_of_ble_eq_true rfl, Nat.le_of_ble_eq_true rfl⟩ (Nat.le_of_ble_eq_true rfl) dX7_lossesIn_32 h (fun r16 M15 h => ?_)
        refine j_goto X 39 dX7_lossesIn_35 (by decide) ?_
        refine j_sub [0, 1, 3] rfl ?_
        exact hj11 r16 M15 h
theorem jc_RX7_211 {G : GT} {E : ET} {cc : ByteArray} {nL pc : Nat} {rm : Room} {lv : List (Nat × Value)} {st : List Value} {M : Mm} (X : CX G E RX7 cc nL rm) (hR : 1 + 1 ≤ rm.frames ∧ 8 + (4 + 11) + 23 ≤ rm.locals) (hst : (st.map fun v => v.category).sum ≤ 8) (d : decode cc pc = .ok (.invokevirtual 211, 3)) {a1 : Int32} {P : Int32 → Mm → Prop} (h : wp_X7_lossesIn a1 M P) (k1 : ∀ (r : Int32) (M2 : Mm), P r M2 → J G E nL (pc + 3) lv (.int r :: st) M2) : J G E nL pc lv (.int a1 :: .ref (adr G 7 0) :: st) M := fun H locs ls hP hS hl => by
  have hK := X.2.2.2.2.2.1.1
  have hm := met_X7_lossesIn (l := eL E) X.2.2.2.2.2.2.1 a1 M P h
  have hR2 : 1 + 1 ≤ (eR E).frames ∧ 8 + (4 + 11) + 23 ≤ (eR E).locals := by rw [X.2.2.2.2.2.2.2.1]; exact hR
  have hC2 : eCells E + 0 ≤ (eR E).cells ∧ eSlots E + 0 ≤ (eR E).slots := by rw [X.2.2.2.2.2.2.2.1]; exact ⟨X.2.2.2.2.2.2.2.2.1, X.2.2.2.2.2.2.2.2.2⟩
  obtain ⟨q0, -, hq⟩ := wld_get (G := G) M (mw7 0 (by decide))
  exact va_calli (va_runV (C := RX7) (As := [.int a1]) (rest := st) ⟨X.1, X.2.1, X.2.2.1, X.2.2.2.1, X.2.2.2.2.1⟩ hm (cwV (ws' := lw_aw) 1 X.2.2.2.2.1 (gwV (tw (i := 1164) (by decide +kernel)) (tw (i := 1166) (by decide +kernel)) (tw (i := 58) (by decide +kernel)) (tw (i := 78) (by decide +kernel)) (tw (i := 1167) (by decide +kernel))) rfl rfl rfl (by decide +kernel) hR2) ⟨hr_blind, va_recv hK hP (ci := 7) (q := (RX7, TX7, 15)) (fs := objF7 G 0 (M.1 7 0)) (q0 := q0) rfl hq, fun U hU hW => ⟨rfl, by rw [hU]; exact hP, KK.warm hW X.2.2.2.2.2.1⟩⟩ rfl rfl hl.1 rfl (lv_room hst) d hC2) hS (fun q _ h => h) (fun q h => h) (fun r u t H1 locs1 ht hvm hw hB hz1 hk1 hS1 => k1 r u hw H1 locs1 ls (by rw [← ht]; exact hB.1) hS1 hl)
/-- LayeredClaimsModel.event(II)I -/
def wp_X7_event (a1 : Int32) (a2 : Int32) (M : Mm) (P : Int32 → Mm → Prop) : Prop := (wp_X7_isEvent a1 M (fun (r2 : Int32) (M1 : Mm) => ((¬ r2 = 0 → ((a2 = 0 → (vp_in ((48 : Int32) + a1) 136 ∧ P (rd M1 160 0 ((48 : Int32) + a1).toNatClampNeg) M1)) ∧ (a2 = 1 → (vp_in ((56 : Int32) + a1) 136 ∧ P (rd M1 160 0 ((56 : Int32) + a1).toNatClampNeg) M1)) ∧ (a2 = 2 → (wp_X7_manyClaims a1 M1 (fun (r8 : Int32) (M7 : Mm) => P r8 M7))) ∧ (a2 = 3 → (wp_X7_lossesIn a1 M1 (fun (r10 : Int32) (M9 : Mm) => P r10 M9))) ∧ (a2 = 4 → (wp_X7_paidByAll a1 M1 (fun (r12 : Int32) (M11 : Mm) => P r12 M11))) ∧ (a2 = 5 → (wp_X7_burdenOf a1 M1 (fun (r14 : Int32) (M13 : Mm) => P r14 M13))) ∧ (a2 = 6 → (wp_X7_retainedOf a1 M1 (fun (r16 : Int32) (M15 : Mm) => P r16 M15))) ∧ (a2 = 7 → (wp_X7_positionOf a1 M1 (fun (r18 : Int32) (M17 : Mm) => P r18 M17))) ∧ (¬ a2 = 0 → ¬ a2 = 1 → ¬ a2 = 2 → ¬ a2 = 3 → ¬ a2 = 4 → ¬ a2 = 5 → ¬ a2 = 6 → ¬ a2 = 7 → P (-2 : Int32) M1))) ∧ (r2 = 0 → P (-1 : Int32) M1))))
set_option maxHeartbeats 4000000 in
set_option maxRecDepth 100000 in
theorem met_X7_event {l : Launch} {G : GT} (hG : GD G) (a1 : Int32) (a2 : Int32) (M : Mm) (P : Int32 → Mm → Prop) (h : wp_X7_event a1 a2 M P) : MI l G yX7_event cX7_event 3 (some .int) ({ frames := 13, cells := 0, slots := 0, locals := 297 } : Room) [.ref (adr G 7 0), .int a1, .int a2] M P := by
  refine met_by hG (own := RX7) rfl (by decide +kernel) (Nat.le_of_ble_eq_true rfl) (fun E hE X Y => ?_)
  show J G E 3 0 [(0, .ref (adr G 7 0)), (1, .int a1), (2, .int a2)] [] M
  unfold wp_X7_event at h
  refine j_aload_n X 0 dX7_event_0 rfl rfl ?_
  refine j_iload_n X 1 dX7_event_1 rfl rfl ?_
  refine jc_RX7_75 X ⟨Nat.le_of_ble_eq_true rfl, Nat.le_of_ble_eq_true rfl⟩ (Nat.le_of_ble_eq_true rfl) dX7_event_2 h (fun r2 M1 h => ?_)
  refine j_if_ne X 10 dX7_event_5 (by decide) (fun c3 => ?_) (fun c3 => ?_)
  · replace h := h.1 c3
    refine j_iload_n X 2 dX7_event_10 rfl rfl ?_
    refine j_ts_0_7 X (t0 := 56) (t1 := 66) (t2 := 76) (t3 := 82) (t4 := 88) (t5 := 94) (t6 := 100) (t7 := 106) (td := 112) dX7_event_11 rfl (by decide) (by decide) (by decide) (by decide) (by decide) (by decide) (by decide) (by decide) (by decide) (fun c4 => ?_) (fun c4 => ?_) (fun c4 => ?_) (fun c4 => ?_) (fun c4 => ?_) (fun c4 => ?_) (fun c4 => ?_) (fun c4 => ?_) (fun c19 c20 c21 c22 c23 c24 c25 c26 => ?_)
    · replace h := h.1 c4
      refine j_aload_n X 0 dX7_event_56 rfl rfl ?_
      refine jf_RX7_9 X  dX7_event_57 ?_
      refine j_bipush (v := (48 : Int32)) X (by decide) dX7_event_60 ?_
      refine j_iload_n X 1 dX7_event_62 rfl rfl ?_
      refine j_iadd X dX7_event_63 ?_
      have q5 := h.1
      replace h := h.2
      refine j_iald X _ rfl (mw160 0 (by decide)) kt160 lt160 q5 dX7_event_64 ?_
      exact j_iret X Y dX7_event_65 h
    · replace h := h.2.1 c4
      refine j_aload_n X 0 dX7_event_66 rfl rfl ?_
      refine jf_RX7_9 X  dX7_event_67 ?_
      refine j_bipush (v := (56 : Int32)) X (by decide) dX7_event_70 ?_
      refine j_iload_n X 1 dX7_event_72 rfl rfl ?_
      refine j_iadd X dX7_event_73 ?_
      have q6 := h.1
      replace h := h.2
      refine j_iald X _ rfl (mw160 0 (by decide)) kt160 lt160 q6 dX7_event_74 ?_
      exact j_iret X Y dX7_event_75 h
    · replace h := h.2.2.1 c4
      refine j_aload_n X 0 dX7_event_76 rfl rfl ?_
      refine j_iload_n X 1 dX7_event_77 rfl rfl ?_
      refine jc_RX7_208 X ⟨Nat.le_of_ble_eq_true rfl, Nat.le_of_ble_eq_true rfl⟩ (Nat.le_of_ble_eq_true rfl) dX7_event_78 h (fun r8 M7 h => ?_)
      exact j_iret X Y dX7_event_81 h
    · replace h := h.2.2.2.1 c4
      refine j_aload_n X 0 dX7_event_82 rfl rfl ?_
      refine j_iload_n X 1 dX7_event_83 rfl rfl ?_
      refine jc_RX7_211 X ⟨Nat.le_of_ble_eq_true rfl, Nat.le_of_ble_eq_true rfl⟩ (Nat.le_of_ble_eq_true rfl) dX7_event_84 h (fun r10 M9 h => ?_)
      exact j_iret X Y dX7_event_87 h
    · replace h := h.2.2.2.2.1 c4
      refine j_aload_n X 0 dX7_event_88 rfl rfl ?_
      refine j_iload_n X 1 dX7_event_89 rfl rfl ?_
      refine jc_RX7_172 X ⟨Nat.le_of_ble_eq_true rfl, Nat.le_of_ble_eq_true rfl⟩ (Nat.le_of_ble_eq_true rfl) dX7_event_90 h (fun r12 M11 h => ?_)
      exact j_iret X Y dX7_event_93 h
    · replace h := h.2.2.2.2.2.1 c4
      refine j_aload_n X 0 dX7_event_94 rfl rfl ?_
      refine j_iload_n X 1 dX7_event_95 rfl rfl ?_
      refine jc_RX7_178 X ⟨Nat.le_of_ble_eq_true rfl, Nat.le_of_ble_eq_true rfl⟩ (Nat.le_of_ble_eq_true rfl) dX7_event_96 h (fun r14 M13 h => ?_)
      exact j_iret X Y dX7_event_99 h
    · replace h := h.2.2.2.2.2.2.1 c4
      refine j_aload_n X 0 dX7_event_100 rfl rfl ?_
      refine j_iload_n X 1 dX7_event_101 rfl rfl ?_
      refine jc_RX7_214 X ⟨Nat.le_of_ble_eq_true rfl, Nat.le_of_ble_eq_true rfl⟩ (Nat.le_of_ble_eq_true rfl) dX7_event_102 h (fun r16 M15 h => ?_)
      exact j_iret X Y dX7_event_105 h
    · replace h := h.2.2.2.2.2.2.2.1 c4
      refine j_aload_n X 0 dX7_event_106 rfl rfl ?_
      refine j_iload_n X 1 dX7_event_107 rfl rfl ?_
      refine jc_RX7_133 X ⟨Nat.le_of_ble_eq_true rfl, Nat.le_of_ble_eq_true rfl⟩ (Nat.le_of_ble_eq_true rfl) dX7_event_108 h (fun r18 M17 h => ?_)
      exact j_iret X Y dX7_event_111 h
    · replace h := h.2.2.2.2.2.2.2.2 c19 c20 c21 c22 c23 c24 c25 c26
      refine j_bipush (v := (-2 : Int32)) X (by decide) dX7_event_112 ?_
      exact j_iret X Y dX7_event_114 h
  · replace h := h.2 c3
    refine j_iconst (v := (-1 : Int32)) X (by decide) dX7_event_8 ?_
    exact j_iret X Y dX7_event_9 h
/-- LayeredClaimsModel.eventAt(I)I -/
def wp_X7_eventAt (a1 : Int32) (M : Mm) (P : Int32 → Mm → Prop) : Prop := (wp_X7_eventOn a1 M (fun (r2 : Int32) (M1 : Mm) => P r2 M1))
set_option maxHeartbeats 4000000 in
set_option maxRecDepth 100000 in
theorem met_X7_eventAt {l : Launch} {G : GT} (hG : GD G) (a1 : Int32) (M : Mm) (P : Int32 → Mm → Prop) (h : wp_X7_eventAt a1 M P) : MI l G yX7_eventAt cX7_eventAt 2 (some .int) ({ frames := 3, cells := 0, slots := 0, locals := 67 } : Room) [.ref (adr G 7 0), .int a1] M P := by
  refine met_by hG (own := RX7) rfl (by decide +kernel) (Nat.le_of_ble_eq_true rfl) (fun E hE X Y => ?_)
  show J G E 2 0 [(0, .ref (adr G 7 0)), (1, .int a1)] [] M
  unfold wp_X7_eventAt at h
  refine j_aload_n X 0 dX7_eventAt_0 rfl rfl ?_
  refine j_iload_n X 1 dX7_eventAt_1 rfl rfl ?_
  refine jc_RX7_160 X ⟨Nat.le_of_ble_eq_true rfl, Nat.le_of_ble_eq_true rfl⟩ (Nat.le_of_ble_eq_true rfl) dX7_eventAt_2 h (fun r2 M1 h => ?_)
  exact j_iret X Y dX7_eventAt_5 h
/-- LayeredClaimsModel.reasonOf(I)I -/
def wp_X7_reasonOf (a1 : Int32) (M : Mm) (P : Int32 → Mm → Prop) : Prop := (vp_in ((64 : Int32) + ((3 : Int32) * a1)) 136 ∧ (∀ x2 : Int32, x2 = (rd M 160 0 ((64 : Int32) + ((3 : Int32) * a1)).toNatClampNeg) → (vp_in (((64 : Int32) + ((3 : Int32) * a1)) + (1 : Int32)) 136 ∧ (∀ x4 : Int32, x4 = (rd M 160 0 (((64 : Int32) + ((3 : Int32) * a1)) + (1 : Int32)).toNatClampNeg) → (wp_X7_paidFor a1 M (fun (r6 : Int32) (M5 : Mm) => ((¬ r6 = 0 → (wp_X7_paidOf x2 x4 M5 (fun (r9 : Int32) (M8 : Mm) => (wp_X7_netOf x2 x4 M8 (fun (r11 : Int32) (M10 : Mm) => ((r11 ≤ r9 → (wp_X7_grossOf x2 x4 M10 (fun (r14 : Int32) (M13 : Mm) => (wp_X7_lossesOf x2 x4 M13 (fun (r16 : Int32) (M15 : Mm) => ((r16 ≤ r14 → (wp_X7_deductedOf x2 x4 M15 (fun (r19 : Int32) (M18 : Mm) => ((r19 ≤ 0 → P (0 : Int32) M18) ∧ (¬ r19 ≤ 0 → P (5 : Int32) M18))))) ∧ (¬ r16 ≤ r14 → P (4 : Int32) M15))))))) ∧ (¬ r11 ≤ r9 → P (3 : Int32) M10))))))) ∧ (r6 = 0 → (wp_X7_positionOf x2 M5 (fun (r22 : Int32) (M21 : Mm) => (wp_X7_leftAt r22 x4 M21 (fun (r24 : Int32) (M23 : Mm) => ((¬ r24 = 0 → P (2 : Int32) M23) ∧ (r24 = 0 → P (1 : Int32) M23))))))))))))))
set_option maxHeartbeats 4000000 in
set_option maxRecDepth 100000 in
theorem met_X7_reasonOf {l : Launch} {G : GT} (hG : GD G) (a1 : Int32) (M : Mm) (P : Int32 → Mm → Prop) (h : wp_X7_reasonOf a1 M P) : MI l G yX7_reasonOf cX7_reasonOf 4 (some .int) ({ frames := 8, cells := 0, slots := 0, locals := 187 } : Room) [.ref (adr G 7 0), .int a1] M P := by
  refine met_by hG (own := RX7) rfl (by decide +kernel) (Nat.le_of_ble_eq_true rfl) (fun E hE X Y => ?_)
  show J G E 4 0 [(0, .ref (adr G 7 0)), (1, .int a1)] [] M
  unfold wp_X7_reasonOf at h
  refine j_aload_n X 0 dX7_reasonOf_0 rfl rfl ?_
  refine jf_RX7_9 X  dX7_reasonOf_1 ?_
  refine j_bipush (v := (64 : Int32)) X (by decide) dX7_reasonOf_4 ?_
  refine j_iconst (v := (3 : Int32)) X (by decide) dX7_reasonOf_6 ?_
  refine j_iload_n X 1 dX7_reasonOf_7 rfl rfl ?_
  refine j_imul X dX7_reasonOf_8 ?_
  refine j_iadd X dX7_reasonOf_9 ?_
  have q1 := h.1
  replace h := h.2
  refine j_iald X _ rfl (mw160 0 (by decide)) kt160 lt160 q1 dX7_reasonOf_10 ?_
  refine j_topi (fun x2 ex2 => ?_)
  replace h := h x2 ex2
  refine j_istore_n X [(2, .int x2), (0, .ref (adr G 7 0)), (1, .int a1)] dX7_reasonOf_11 rfl (by decide) rfl ?_
  refine j_aload_n X 1 dX7_reasonOf_12 rfl rfl ?_
  refine jf_RX7_9 X  dX7_reasonOf_13 ?_
  refine j_bipush (v := (64 : Int32)) X (by decide) dX7_reasonOf_16 ?_
  refine j_iconst (v := (3 : Int32)) X (by decide) dX7_reasonOf_18 ?_
  refine j_iload_n X 2 dX7_reasonOf_19 rfl rfl ?_
  refine j_imul X dX7_reasonOf_20 ?_
  refine j_iadd X dX7_reasonOf_21 ?_
  refine j_iconst (v := (1 : Int32)) X (by decide) dX7_reasonOf_22 ?_
  refine j_iadd X dX7_reasonOf_23 ?_
  have q3 := h.1
  replace h := h.2
  refine j_iald X _ rfl (mw160 0 (by decide)) kt160 lt160 q3 dX7_reasonOf_24 ?_
  refine j_topi (fun x4 ex4 => ?_)
  replace h := h x4 ex4
  refine j_istore_n X [(3, .int x4), (2, .int x2), (0, .ref (adr G 7 0)), (1, .int a1)] dX7_reasonOf_25 rfl (by decide) rfl ?_
  refine j_aload_n X 2 dX7_reasonOf_26 rfl rfl ?_
  refine j_iload_n X 3 dX7_reasonOf_27 rfl rfl ?_
  refine jc_RX7_217 X ⟨Nat.le_of_ble_eq_true rfl, Nat.le_of_ble_eq_true rfl⟩ (Nat.le_of_ble_eq_true rfl) dX7_reasonOf_28 h (fun r6 M5 h => ?_)
  refine j_if_ne X 53 dX7_reasonOf_31 (by decide) (fun c7 => ?_) (fun c7 => ?_)
  · replace h := h.1 c7
    refine j_aload_n X 2 dX7_reasonOf_53 rfl rfl ?_
    refine j_iload_n X 1 dX7_reasonOf_54 rfl rfl ?_
    refine j_iload_n X 0 dX7_reasonOf_55 rfl rfl ?_
    refine jc_RX7_169 X ⟨Nat.le_of_ble_eq_true rfl, Nat.le_of_ble_eq_true rfl⟩ (Nat.le_of_ble_eq_true rfl) dX7_reasonOf_56 h (fun r9 M8 h => ?_)
    refine j_aload_n X 2 dX7_reasonOf_59 rfl rfl ?_
    refine j_iload_n X 1 dX7_reasonOf_60 rfl rfl ?_
    refine j_iload_n X 0 dX7_reasonOf_61 rfl rfl ?_
    refine jc_RX7_163 X ⟨Nat.le_of_ble_eq_true rfl, Nat.le_of_ble_eq_true rfl⟩ (Nat.le_of_ble_eq_true rfl) dX7_reasonOf_62 h (fun r11 M10 h => ?_)
    refine j_icmp_ge X 70 dX7_reasonOf_65 (by decide) (fun c12 => ?_) (fun c12 => ?_)
    · replace h := h.1 c12
      refine j_aload_n X 2 dX7_reasonOf_70 rfl rfl ?_
      refine j_iload_n X 1 dX7_reasonOf_71 rfl rfl ?_
      refine j_iload_n X 0 dX7_reasonOf_72 rfl rfl ?_
      refine jc_RX7_151 X ⟨Nat.le_of_ble_eq_true rfl, Nat.le_of_ble_eq_true rfl⟩ (Nat.le_of_ble_eq_true rfl) dX7_reasonOf_73 h (fun r14 M13 h => ?_)
      refine j_aload_n X 2 dX7_reasonOf_76 rfl rfl ?_
      refine j_iload_n X 1 dX7_reasonOf_77 rfl rfl ?_
      refine j_iload_n X 0 dX7_reasonOf_78 rfl rfl ?_
      refine jc_RX7_143 X ⟨Nat.le_of_ble_eq_true rfl, Nat.le_of_ble_eq_true rfl⟩ (Nat.le_of_ble_eq_true rfl) dX7_reasonOf_79 h (fun r16 M15 h => ?_)
      refine j_icmp_ge X 87 dX7_reasonOf_82 (by decide) (fun c17 => ?_) (fun c17 => ?_)
      · replace h := h.1 c17
        refine j_aload_n X 2 dX7_reasonOf_87 rfl rfl ?_
        refine j_iload_n X 1 dX7_reasonOf_88 rfl rfl ?_
        refine j_iload_n X 0 dX7_reasonOf_89 rfl rfl ?_
        refine jc_RX7_157 X ⟨Nat.le_of_ble_eq_true rfl, Nat.le_of_ble_eq_true rfl⟩ (Nat.le_of_ble_eq_true rfl) dX7_reasonOf_90 h (fun r19 M18 h => ?_)
        refine j_if_le X 100 dX7_reasonOf_93 (by decide) (fun c20 => ?_) (fun c20 => ?_)
        · replace h := h.1 c20
          refine j_iconst (v := (0 : Int32)) X (by decide) dX7_reasonOf_100 ?_
          exact j_iret X Y dX7_reasonOf_101 h
        · replace h := h.2 c20
          refine j_iconst (v := (5 : Int32)) X (by decide) dX7_reasonOf_96 ?_
          refine j_goto X 101 dX7_reasonOf_97 (by decide) ?_
          exact j_iret X Y dX7_reasonOf_101 h
      · replace h := h.2 c17
        refine j_iconst (v := (4 : Int32)) X (by decide) dX7_reasonOf_85 ?_
        exact j_iret X Y dX7_reasonOf_86 h
    · replace h := h.2 c12
      refine j_iconst (v := (3 : Int32)) X (by decide) dX7_reasonOf_68 ?_
      exact j_iret X Y dX7_reasonOf_69 h
  · replace h := h.2 c7
    refine j_aload_n X 2 dX7_reasonOf_34 rfl rfl ?_
    refine j_aload_n X 2 dX7_reasonOf_35 rfl rfl ?_
    refine j_iload_n X 1 dX7_reasonOf_36 rfl rfl ?_
    refine jc_RX7_133 X ⟨Nat.le_of_ble_eq_true rfl, Nat.le_of_ble_eq_true rfl⟩ (Nat.le_of_ble_eq_true rfl) dX7_reasonOf_37 h (fun r22 M21 h => ?_)
    refine j_iload_n X 0 dX7_reasonOf_40 rfl rfl ?_
    refine jc_RX7_166 X ⟨Nat.le_of_ble_eq_true rfl, Nat.le_of_ble_eq_true rfl⟩ (Nat.le_of_ble_eq_true rfl) dX7_reasonOf_41 h (fun r24 M23 h => ?_)
    refine j_if_ne X 51 dX7_reasonOf_44 (by decide) (fun c25 => ?_) (fun c25 => ?_)
    · replace h := h.1 c25
      refine j_iconst (v := (2 : Int32)) X (by decide) dX7_reasonOf_51 ?_
      exact j_iret X Y dX7_reasonOf_52 h
    · replace h := h.2 c25
      refine j_iconst (v := (1 : Int32)) X (by decide) dX7_reasonOf_47 ?_
      refine j_goto X 52 dX7_reasonOf_48 (by decide) ?_
      exact j_iret X Y dX7_reasonOf_52 h
theorem jc_RX7_220 {G : GT} {E : ET} {cc : ByteArray} {nL pc : Nat} {rm : Room} {lv : List (Nat × Value)} {st : List Value} {M : Mm} (X : CX G E RX7 cc nL rm) (hR : 8 + 1 ≤ rm.frames ∧ 8 + (4 + 11) + 187 ≤ rm.locals) (hst : (st.map fun v => v.category).sum ≤ 8) (d : decode cc pc = .ok (.invokevirtual 220, 3)) {a1 : Int32} {P : Int32 → Mm → Prop} (h : wp_X7_reasonOf a1 M P) (k1 : ∀ (r : Int32) (M2 : Mm), P r M2 → J G E nL (pc + 3) lv (.int r :: st) M2) : J G E nL pc lv (.int a1 :: .ref (adr G 7 0) :: st) M := fun H locs ls hP hS hl => by
  have hK := X.2.2.2.2.2.1.1
  have hm := met_X7_reasonOf (l := eL E) X.2.2.2.2.2.2.1 a1 M P h
  have hR2 : 8 + 1 ≤ (eR E).frames ∧ 8 + (4 + 11) + 187 ≤ (eR E).locals := by rw [X.2.2.2.2.2.2.2.1]; exact hR
  have hC2 : eCells E + 0 ≤ (eR E).cells ∧ eSlots E + 0 ≤ (eR E).slots := by rw [X.2.2.2.2.2.2.2.1]; exact ⟨X.2.2.2.2.2.2.2.2.1, X.2.2.2.2.2.2.2.2.2⟩
  obtain ⟨q0, -, hq⟩ := wld_get (G := G) M (mw7 0 (by decide))
  exact va_calli (va_runV (C := RX7) (As := [.int a1]) (rest := st) ⟨X.1, X.2.1, X.2.2.1, X.2.2.2.1, X.2.2.2.2.1⟩ hm (cwV (ws' := lw_aw) 1 X.2.2.2.2.1 (gwV (tw (i := 1188) (by decide +kernel)) (tw (i := 1190) (by decide +kernel)) (tw (i := 62) (by decide +kernel)) (tw (i := 78) (by decide +kernel)) (tw (i := 1191) (by decide +kernel))) rfl rfl rfl (by decide +kernel) hR2) ⟨hr_blind, va_recv hK hP (ci := 7) (q := (RX7, TX7, 15)) (fs := objF7 G 0 (M.1 7 0)) (q0 := q0) rfl hq, fun U hU hW => ⟨rfl, by rw [hU]; exact hP, KK.warm hW X.2.2.2.2.2.1⟩⟩ rfl rfl hl.1 rfl (lv_room hst) d hC2) hS (fun q _ h => h) (fun q h => h) (fun r u t H1 locs1 ht hvm hw hB hz1 hk1 hS1 => k1 r u hw H1 locs1 ls (by rw [← ht]; exact hB.1) hS1 hl)
/-- LayeredClaimsModel.claim(II)I -/
def wp_X7_claim (a1 : Int32) (a2 : Int32) (M : Mm) (P : Int32 → Mm → Prop) : Prop := (wp_X7_isClaim a1 M (fun (r2 : Int32) (M1 : Mm) => ((¬ r2 = 0 → (wp_X7_in a2 (0 : Int32) (2 : Int32) M1 (fun (r5 : Int32) (M4 : Mm) => ((r5 = 0 → ((¬ a2 = (3 : Int32) → ((¬ a2 = (4 : Int32) → ((¬ a2 = (5 : Int32) → P (-2 : Int32) M4) ∧ (a2 = (5 : Int32) → (wp_X7_reasonOf a1 M4 (fun (r11 : Int32) (M10 : Mm) => P r11 M10))))) ∧ (a2 = (4 : Int32) → (wp_X7_paidFor a1 M4 (fun (r13 : Int32) (M12 : Mm) => P r13 M12))))) ∧ (a2 = (3 : Int32) → (wp_X7_lossOf a1 M4 (fun (r15 : Int32) (M14 : Mm) => P r15 M14))))) ∧ (¬ r5 = 0 → (vp_in (((64 : Int32) + ((3 : Int32) * a1)) + a2) 136 ∧ P (rd M4 160 0 (((64 : Int32) + ((3 : Int32) * a1)) + a2).toNatClampNeg) M4)))))) ∧ (r2 = 0 → P (-1 : Int32) M1))))
set_option maxHeartbeats 4000000 in
set_option maxRecDepth 100000 in
theorem met_X7_claim {l : Launch} {G : GT} (hG : GD G) (a1 : Int32) (a2 : Int32) (M : Mm) (P : Int32 → Mm → Prop) (h : wp_X7_claim a1 a2 M P) : MI l G yX7_claim cX7_claim 3 (some .int) ({ frames := 9, cells := 0, slots := 0, locals := 210 } : Room) [.ref (adr G 7 0), .int a1, .int a2] M P := by
  refine met_by hG (own := RX7) rfl (by decide +kernel) (Nat.le_of_ble_eq_true rfl) (fun E hE X Y => ?_)
  show J G E 3 0 [(0, .ref (adr G 7 0)), (1, .int a1), (2, .int a2)] [] M
  unfold wp_X7_claim at h
  refine j_aload_n X 0 dX7_claim_0 rfl rfl ?_
  refine j_iload_n X 1 dX7_claim_1 rfl rfl ?_
  refine jc_RX7_104 X ⟨Nat.le_of_ble_eq_true rfl, Nat.le_of_ble_eq_true rfl⟩ (Nat.le_of_ble_eq_true rfl) dX7_claim_2 h (fun r2 M1 h => ?_)
  refine j_if_ne X 10 dX7_claim_5 (by decide) (fun c3 => ?_) (fun c3 => ?_)
  · replace h := h.1 c3
    refine j_iload_n X 2 dX7_claim_10 rfl rfl ?_
    refine j_iconst (v := (0 : Int32)) X (by decide) dX7_claim_11 ?_
    refine j_iconst (v := (2 : Int32)) X (by decide) dX7_claim_12 ?_
    refine jc_RX7_61 X ⟨Nat.le_of_ble_eq_true rfl, Nat.le_of_ble_eq_true rfl⟩ (Nat.le_of_ble_eq_true rfl) dX7_claim_13 h (fun r5 M4 h => ?_)
    refine j_if_eq X 33 dX7_claim_16 (by decide) (fun c6 => ?_) (fun c6 => ?_)
    · replace h := h.1 c6
      refine j_iload_n X 2 dX7_claim_33 rfl rfl ?_
      refine j_iconst (v := (3 : Int32)) X (by decide) dX7_claim_34 ?_
      refine j_icmp_ne X 46 dX7_claim_35 (by decide) (fun c7 => ?_) (fun c7 => ?_)
      · replace h := h.1 c7
        refine j_iload_n X 2 dX7_claim_46 rfl rfl ?_
        refine j_iconst (v := (4 : Int32)) X (by decide) dX7_claim_47 ?_
        refine j_icmp_ne X 59 dX7_claim_48 (by decide) (fun c8 => ?_) (fun c8 => ?_)
        · replace h := h.1 c8
          refine j_iload_n X 2 dX7_claim_59 rfl rfl ?_
          refine j_iconst (v := (5 : Int32)) X (by decide) dX7_claim_60 ?_
          refine j_icmp_ne X 72 dX7_claim_61 (by decide) (fun c9 => ?_) (fun c9 => ?_)
          · replace h := h.1 c9
            refine j_bipush (v := (-2 : Int32)) X (by decide) dX7_claim_72 ?_
            exact j_iret X Y dX7_claim_74 h
          · replace h := h.2 c9
            refine j_aload_n X 0 dX7_claim_64 rfl rfl ?_
            refine j_iload_n X 1 dX7_claim_65 rfl rfl ?_
            refine jc_RX7_220 X ⟨Nat.le_of_ble_eq_true rfl, Nat.le_of_ble_eq_true rfl⟩ (Nat.le_of_ble_eq_true rfl) dX7_claim_66 h (fun r11 M10 h => ?_)
            refine j_goto X 74 dX7_claim_69 (by decide) ?_
            exact j_iret X Y dX7_claim_74 h
        · replace h := h.2 c8
          refine j_aload_n X 0 dX7_claim_51 rfl rfl ?_
          refine j_iload_n X 1 dX7_claim_52 rfl rfl ?_
          refine jc_RX7_217 X ⟨Nat.le_of_ble_eq_true rfl, Nat.le_of_ble_eq_true rfl⟩ (Nat.le_of_ble_eq_true rfl) dX7_claim_53 h (fun r13 M12 h => ?_)
          refine j_goto X 74 dX7_claim_56 (by decide) ?_
          exact j_iret X Y dX7_claim_74 h
      · replace h := h.2 c7
        refine j_aload_n X 0 dX7_claim_38 rfl rfl ?_
        refine j_iload_n X 1 dX7_claim_39 rfl rfl ?_
        refine jc_RX7_140 X ⟨Nat.le_of_ble_eq_true rfl, Nat.le_of_ble_eq_true rfl⟩ (Nat.le_of_ble_eq_true rfl) dX7_claim_40 h (fun r15 M14 h => ?_)
        refine j_goto X 74 dX7_claim_43 (by decide) ?_
        exact j_iret X Y dX7_claim_74 h
    · replace h := h.2 c6
      refine j_aload_n X 0 dX7_claim_19 rfl rfl ?_
      refine jf_RX7_9 X  dX7_claim_20 ?_
      refine j_bipush (v := (64 : Int32)) X (by decide) dX7_claim_23 ?_
      refine j_iconst (v := (3 : Int32)) X (by decide) dX7_claim_25 ?_
      refine j_iload_n X 1 dX7_claim_26 rfl rfl ?_
      refine j_imul X dX7_claim_27 ?_
      refine j_iadd X dX7_claim_28 ?_
      refine j_iload_n X 2 dX7_claim_29 rfl rfl ?_
      refine j_iadd X dX7_claim_30 ?_
      have q16 := h.1
      replace h := h.2
      refine j_iald X _ rfl (mw160 0 (by decide)) kt160 lt160 q16 dX7_claim_31 ?_
      exact j_iret X Y dX7_claim_32 h
  · replace h := h.2 c3
    refine j_iconst (v := (-1 : Int32)) X (by decide) dX7_claim_8 ?_
    exact j_iret X Y dX7_claim_9 h
/-- LayeredClaimsModel.areThere(II)Z -/
def wp_X7_areThere (a1 : Int32) (a2 : Int32) (M : Mm) (P : Int32 → Mm → Prop) : Prop := (wp_X7_isEvent a1 M (fun (r2 : Int32) (M1 : Mm) => ((r2 = 0 → P (0 : Int32) M1) ∧ (¬ r2 = 0 → (wp_X7_isCover a2 M1 (fun (r5 : Int32) (M4 : Mm) => ((r5 = 0 → P (0 : Int32) M4) ∧ (¬ r5 = 0 → P (1 : Int32) M4))))))))
set_option maxHeartbeats 4000000 in
set_option maxRecDepth 100000 in
theorem met_X7_areThere {l : Launch} {G : GT} (hG : GD G) (a1 : Int32) (a2 : Int32) (M : Mm) (P : Int32 → Mm → Prop) (h : wp_X7_areThere a1 a2 M P) : MI l G yX7_areThere cX7_areThere 3 (some .boolean) ({ frames := 2, cells := 0, slots := 0, locals := 43 } : Room) [.ref (adr G 7 0), .int a1, .int a2] M P := by
  refine met_by hG (own := RX7) rfl (by decide +kernel) (Nat.le_of_ble_eq_true rfl) (fun E hE X Y => ?_)
  show J G E 3 0 [(0, .ref (adr G 7 0)), (1, .int a1), (2, .int a2)] [] M
  unfold wp_X7_areThere at h
  refine j_aload_n X 0 dX7_areThere_0 rfl rfl ?_
  refine j_iload_n X 1 dX7_areThere_1 rfl rfl ?_
  refine jc_RX7_75 X ⟨Nat.le_of_ble_eq_true rfl, Nat.le_of_ble_eq_true rfl⟩ (Nat.le_of_ble_eq_true rfl) dX7_areThere_2 h (fun r2 M1 h => ?_)
  refine j_if_eq X 20 dX7_areThere_5 (by decide) (fun c3 => ?_) (fun c3 => ?_)
  · replace h := h.1 c3
    refine j_iconst (v := (0 : Int32)) X (by decide) dX7_areThere_20 ?_
    exact j_zret X Y dX7_areThere_21 rfl h
  · replace h := h.2 c3
    refine j_aload_n X 0 dX7_areThere_8 rfl rfl ?_
    refine j_iload_n X 2 dX7_areThere_9 rfl rfl ?_
    refine jc_RX7_78 X ⟨Nat.le_of_ble_eq_true rfl, Nat.le_of_ble_eq_true rfl⟩ (Nat.le_of_ble_eq_true rfl) dX7_areThere_10 h (fun r5 M4 h => ?_)
    refine j_if_eq X 20 dX7_areThere_13 (by decide) (fun c6 => ?_) (fun c6 => ?_)
    · replace h := h.1 c6
      refine j_iconst (v := (0 : Int32)) X (by decide) dX7_areThere_20 ?_
      exact j_zret X Y dX7_areThere_21 rfl h
    · replace h := h.2 c6
      refine j_iconst (v := (1 : Int32)) X (by decide) dX7_areThere_16 ?_
      refine j_goto X 21 dX7_areThere_17 (by decide) ?_
      exact j_zret X Y dX7_areThere_21 rfl h
theorem jc_RX7_223 {G : GT} {E : ET} {cc : ByteArray} {nL pc : Nat} {rm : Room} {lv : List (Nat × Value)} {st : List Value} {M : Mm} (X : CX G E RX7 cc nL rm) (hR : 2 + 1 ≤ rm.frames ∧ 8 + (3 + 11) + 43 ≤ rm.locals) (hst : (st.map fun v => v.category).sum ≤ 8) (d : decode cc pc = .ok (.invokevirtual 223, 3)) {a1 : Int32} {a2 : Int32} {P : Int32 → Mm → Prop} (h : wp_X7_areThere a1 a2 M P) (k1 : ∀ (r : Int32) (M2 : Mm), P r M2 → J G E nL (pc + 3) lv (.int r :: st) M2) : J G E nL pc lv (.int a2 :: .int a1 :: .ref (adr G 7 0) :: st) M := fun H locs ls hP hS hl => by
  have hK := X.2.2.2.2.2.1.1
  have hm := met_X7_areThere (l := eL E) X.2.2.2.2.2.2.1 a1 a2 M P h
  have hR2 : 2 + 1 ≤ (eR E).frames ∧ 8 + (3 + 11) + 43 ≤ (eR E).locals := by rw [X.2.2.2.2.2.2.2.1]; exact hR
  have hC2 : eCells E + 0 ≤ (eR E).cells ∧ eSlots E + 0 ≤ (eR E).slots := by rw [X.2.2.2.2.2.2.2.1]; exact ⟨X.2.2.2.2.2.2.2.2.1, X.2.2.2.2.2.2.2.2.2⟩
  obtain ⟨q0, -, hq⟩ := wld_get (G := G) M (mw7 0 (by decide))
  exact va_calli (va_runV (C := RX7) (As := [.int a1, .int a2]) (rest := st) ⟨X.1, X.2.1, X.2.2.1, X.2.2.2.1, X.2.2.2.2.1⟩ hm (cwV (ws' := lw_aw) 2 X.2.2.2.2.1 (gwV (tw (i := 1196) (by decide +kernel)) (tw (i := 1198) (by decide +kernel)) (tw (i := 63) (by decide +kernel)) (tw (i := 78) (by decide +kernel)) (tw (i := 1199) (by decide +kernel))) rfl rfl rfl (by decide +kernel) hR2) ⟨hr_blind, va_recv hK hP (ci := 7) (q := (RX7, TX7, 15)) (fs := objF7 G 0 (M.1 7 0)) (q0 := q0) rfl hq, fun U hU hW => ⟨rfl, by rw [hU]; exact hP, KK.warm hW X.2.2.2.2.2.1⟩⟩ rfl rfl hl.1 rfl (lv_room hst) d hC2) hS (fun q _ h => h) (fun q h => h) (fun r u t H1 locs1 ht hvm hw hB hz1 hk1 hS1 => k1 r u hw H1 locs1 ls (by rw [← ht]; exact hB.1) hS1 hl)
/-- LayeredClaimsModel.gross(II)I -/
def wp_X7_gross (a1 : Int32) (a2 : Int32) (M : Mm) (P : Int32 → Mm → Prop) : Prop := (wp_X7_areThere a1 a2 M (fun (r2 : Int32) (M1 : Mm) => ((r2 = 0 → P (-1 : Int32) M1) ∧ (¬ r2 = 0 → (wp_X7_grossOf a1 a2 M1 (fun (r5 : Int32) (M4 : Mm) => P r5 M4))))))
set_option maxHeartbeats 4000000 in
set_option maxRecDepth 100000 in
theorem met_X7_gross {l : Launch} {G : GT} (hG : GD G) (a1 : Int32) (a2 : Int32) (M : Mm) (P : Int32 → Mm → Prop) (h : wp_X7_gross a1 a2 M P) : MI l G yX7_gross cX7_gross 3 (some .int) ({ frames := 3, cells := 0, slots := 0, locals := 69 } : Room) [.ref (adr G 7 0), .int a1, .int a2] M P := by
  refine met_by hG (own := RX7) rfl (by decide +kernel) (Nat.le_of_ble_eq_true rfl) (fun E hE X Y => ?_)
  show J G E 3 0 [(0, .ref (adr G 7 0)), (1, .int a1), (2, .int a2)] [] M
  unfold wp_X7_gross at h
  refine j_aload_n X 0 dX7_gross_0 rfl rfl ?_
  refine j_iload_n X 1 dX7_gross_1 rfl rfl ?_
  refine j_iload_n X 2 dX7_gross_2 rfl rfl ?_
  refine jc_RX7_223 X ⟨Nat.le_of_ble_eq_true rfl, Nat.le_of_ble_eq_true rfl⟩ (Nat.le_of_ble_eq_true rfl) dX7_gross_3 h (fun r2 M1 h => ?_)
  refine j_if_eq X 18 dX7_gross_6 (by decide) (fun c3 => ?_) (fun c3 => ?_)
  · replace h := h.1 c3
    refine j_iconst (v := (-1 : Int32)) X (by decide) dX7_gross_18 ?_
    exact j_iret X Y dX7_gross_19 h
  · replace h := h.2 c3
    refine j_aload_n X 0 dX7_gross_9 rfl rfl ?_
    refine j_iload_n X 1 dX7_gross_10 rfl rfl ?_
    refine j_iload_n X 2 dX7_gross_11 rfl rfl ?_
    refine jc_RX7_151 X ⟨Nat.le_of_ble_eq_true rfl, Nat.le_of_ble_eq_true rfl⟩ (Nat.le_of_ble_eq_true rfl) dX7_gross_12 h (fun r5 M4 h => ?_)
    refine j_goto X 19 dX7_gross_15 (by decide) ?_
    exact j_iret X Y dX7_gross_19 h
/-- LayeredClaimsModel.deducted(II)I -/
def wp_X7_deducted (a1 : Int32) (a2 : Int32) (M : Mm) (P : Int32 → Mm → Prop) : Prop := (wp_X7_areThere a1 a2 M (fun (r2 : Int32) (M1 : Mm) => ((r2 = 0 → P (-1 : Int32) M1) ∧ (¬ r2 = 0 → (wp_X7_deductedOf a1 a2 M1 (fun (r5 : Int32) (M4 : Mm) => P r5 M4))))))
set_option maxHeartbeats 4000000 in
set_option maxRecDepth 100000 in
theorem met_X7_deducted {l : Launch} {G : GT} (hG : GD G) (a1 : Int32) (a2 : Int32) (M : Mm) (P : Int32 → Mm → Prop) (h : wp_X7_deducted a1 a2 M P) : MI l G yX7_deducted cX7_deducted 3 (some .int) ({ frames := 4, cells := 0, slots := 0, locals := 94 } : Room) [.ref (adr G 7 0), .int a1, .int a2] M P := by
  refine met_by hG (own := RX7) rfl (by decide +kernel) (Nat.le_of_ble_eq_true rfl) (fun E hE X Y => ?_)
  show J G E 3 0 [(0, .ref (adr G 7 0)), (1, .int a1), (2, .int a2)] [] M
  unfold wp_X7_deducted at h
  refine j_aload_n X 0 dX7_deducted_0 rfl rfl ?_
  refine j_iload_n X 1 dX7_deducted_1 rfl rfl ?_
  refine j_iload_n X 2 dX7_deducted_2 rfl rfl ?_
  refine jc_RX7_223 X ⟨Nat.le_of_ble_eq_true rfl, Nat.le_of_ble_eq_true rfl⟩ (Nat.le_of_ble_eq_true rfl) dX7_deducted_3 h (fun r2 M1 h => ?_)
  refine j_if_eq X 18 dX7_deducted_6 (by decide) (fun c3 => ?_) (fun c3 => ?_)
  · replace h := h.1 c3
    refine j_iconst (v := (-1 : Int32)) X (by decide) dX7_deducted_18 ?_
    exact j_iret X Y dX7_deducted_19 h
  · replace h := h.2 c3
    refine j_aload_n X 0 dX7_deducted_9 rfl rfl ?_
    refine j_iload_n X 1 dX7_deducted_10 rfl rfl ?_
    refine j_iload_n X 2 dX7_deducted_11 rfl rfl ?_
    refine jc_RX7_157 X ⟨Nat.le_of_ble_eq_true rfl, Nat.le_of_ble_eq_true rfl⟩ (Nat.le_of_ble_eq_true rfl) dX7_deducted_12 h (fun r5 M4 h => ?_)
    refine j_goto X 19 dX7_deducted_15 (by decide) ?_
    exact j_iret X Y dX7_deducted_19 h
/-- LayeredClaimsModel.paid(II)I -/
def wp_X7_paid (a1 : Int32) (a2 : Int32) (M : Mm) (P : Int32 → Mm → Prop) : Prop := (wp_X7_areThere a1 a2 M (fun (r2 : Int32) (M1 : Mm) => ((r2 = 0 → P (-1 : Int32) M1) ∧ (¬ r2 = 0 → (wp_X7_paidOf a1 a2 M1 (fun (r5 : Int32) (M4 : Mm) => P r5 M4))))))
set_option maxHeartbeats 4000000 in
set_option maxRecDepth 100000 in
theorem met_X7_paid {l : Launch} {G : GT} (hG : GD G) (a1 : Int32) (a2 : Int32) (M : Mm) (P : Int32 → Mm → Prop) (h : wp_X7_paid a1 a2 M P) : MI l G yX7_paid cX7_paid 3 (some .int) ({ frames := 7, cells := 0, slots := 0, locals := 162 } : Room) [.ref (adr G 7 0), .int a1, .int a2] M P := by
  refine met_by hG (own := RX7) rfl (by decide +kernel) (Nat.le_of_ble_eq_true rfl) (fun E hE X Y => ?_)
  show J G E 3 0 [(0, .ref (adr G 7 0)), (1, .int a1), (2, .int a2)] [] M
  unfold wp_X7_paid at h
  refine j_aload_n X 0 dX7_paid_0 rfl rfl ?_
  refine j_iload_n X 1 dX7_paid_1 rfl rfl ?_
  refine j_iload_n X 2 dX7_paid_2 rfl rfl ?_
  refine jc_RX7_223 X ⟨Nat.le_of_ble_eq_true rfl, Nat.le_of_ble_eq_true rfl⟩ (Nat.le_of_ble_eq_true rfl) dX7_paid_3 h (fun r2 M1 h => ?_)
  refine j_if_eq X 18 dX7_paid_6 (by decide) (fun c3 => ?_) (fun c3 => ?_)
  · replace h := h.1 c3
    refine j_iconst (v := (-1 : Int32)) X (by decide) dX7_paid_18 ?_
    exact j_iret X Y dX7_paid_19 h
  · replace h := h.2 c3
    refine j_aload_n X 0 dX7_paid_9 rfl rfl ?_
    refine j_iload_n X 1 dX7_paid_10 rfl rfl ?_
    refine j_iload_n X 2 dX7_paid_11 rfl rfl ?_
    refine jc_RX7_169 X ⟨Nat.le_of_ble_eq_true rfl, Nat.le_of_ble_eq_true rfl⟩ (Nat.le_of_ble_eq_true rfl) dX7_paid_12 h (fun r5 M4 h => ?_)
    refine j_goto X 19 dX7_paid_15 (by decide) ?_
    exact j_iret X Y dX7_paid_19 h
