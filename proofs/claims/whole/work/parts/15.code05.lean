/-- LayeredClaimsModel.keeps()V -/
def wp_X7_keeps  (M : Mm) (P : Mm → Prop) : Prop := (wp_X7_copies (160, 0) (0 : Int32) (163, 0) (0 : Int32) M (fun (M1 : Mm) => P M1))
set_option maxHeartbeats 4000000 in
set_option maxRecDepth 100000 in
theorem met_X7_keeps {l : Launch} {G : GT} (hG : GD G)  (M : Mm) (P : Mm → Prop) (h : wp_X7_keeps  M P) : MV l G yX7_keeps cX7_keeps 1 none ({ frames := 1, cells := 0, slots := 0, locals := 24 } : Room) [.ref (adr G 7 0)] M P := by
  refine met_by hG (own := RX7) rfl (by decide +kernel) (Nat.le_of_ble_eq_true rfl) (fun E hE X Y => ?_)
  show J G E 1 0 [(0, .ref (adr G 7 0))] [] M
  unfold wp_X7_keeps at h
  refine j_aload_n X 0 dX7_keeps_0 rfl rfl ?_
  refine jf_RX7_9 X  dX7_keeps_1 ?_
  refine j_iconst (v := (0 : Int32)) X (by decide) dX7_keeps_4 ?_
  refine j_aload_n X 0 dX7_keeps_5 rfl rfl ?_
  refine jf_RX7_19 X  dX7_keeps_6 ?_
  refine j_iconst (v := (0 : Int32)) X (by decide) dX7_keeps_9 ?_
  refine jc_RX7_57 X ⟨Nat.le_of_ble_eq_true rfl, Nat.le_of_ble_eq_true rfl⟩ (Nat.le_of_ble_eq_true rfl) dX7_keeps_10 h (fun M1 h => ?_)
  exact j_vret X Y dX7_keeps_13 h
theorem jc_RX7_83 {G : GT} {E : ET} {cc : ByteArray} {nL pc : Nat} {rm : Room} {lv : List (Nat × Value)} {st : List Value} {M : Mm} (X : CX G E RX7 cc nL rm) (hR : 1 + 1 ≤ rm.frames ∧ 8 + (1 + 11) + 24 ≤ rm.locals) (hst : (st.map fun v => v.category).sum ≤ 8) (d : decode cc pc = .ok (.invokevirtual 83, 3))  {P : Mm → Prop} (h : wp_X7_keeps  M P) (k1 : ∀ M2 : Mm, P M2 → J G E nL (pc + 3) lv st M2) : J G E nL pc lv (.ref (adr G 7 0) :: st) M := fun H locs ls hP hS hl => by
  have hK := X.2.2.2.2.2.1.1
  have hm := met_X7_keeps (l := eL E) X.2.2.2.2.2.2.1  M P h
  have hR2 : 1 + 1 ≤ (eR E).frames ∧ 8 + (1 + 11) + 24 ≤ (eR E).locals := by rw [X.2.2.2.2.2.2.2.1]; exact hR
  have hC2 : eCells E + 0 ≤ (eR E).cells ∧ eSlots E + 0 ≤ (eR E).slots := by rw [X.2.2.2.2.2.2.2.1]; exact ⟨X.2.2.2.2.2.2.2.2.1, X.2.2.2.2.2.2.2.2.2⟩
  obtain ⟨q0, -, hq⟩ := wld_get (G := G) M (mw7 0 (by decide))
  exact va_callv (va_runV (C := RX7) (As := []) (rest := st) ⟨X.1, X.2.1, X.2.2.1, X.2.2.2.1, X.2.2.2.2.1⟩ hm (cwV (ws' := lw_aw) 0 X.2.2.2.2.1 (gwV (tw (i := 922) (by decide +kernel)) (tw (i := 924) (by decide +kernel)) (tw (i := 18) (by decide +kernel)) (tw (i := 78) (by decide +kernel)) (tw (i := 925) (by decide +kernel))) rfl rfl rfl (by decide +kernel) hR2) ⟨hr_blind, va_recv hK hP (ci := 7) (q := (RX7, TX7, 15)) (fs := objF7 G 0 (M.1 7 0)) (q0 := q0) rfl hq, fun U hU hW => ⟨rfl, by rw [hU]; exact hP, KK.warm hW X.2.2.2.2.2.1⟩⟩ rfl rfl hl.1 rfl (lv_room hst) d hC2) hS (fun q _ h => h) (fun q h => h) (fun u t H1 locs1 ht hvm hw hB hz1 hk1 hS1 => k1 u hw H1 locs1 ls (by rw [← ht]; exact hB.1) hS1 hl)
/-- LayeredClaimsModel.changes()V -/
def wp_X7_changes  (M : Mm) (P : Mm → Prop) : Prop := (jn (fun  (M1 : Mm) => (wp_X7_copies (163, 0) (0 : Int32) (161, 0) ((136 : Int32) * (rd M1 7 0 4)) M1 (fun (M4 : Mm) => (∀ M5 : Mm, M5 = wr M4 7 0 4 ((rd M4 7 0 4) + (1 : Int32)) → P M5)))) (fun J2 : Mm → Prop => ((¬ (rd M 7 0 4) = (6 : Int32) → J2 M) ∧ ((rd M 7 0 4) = (6 : Int32) → (∃ n, lq2 (fun self7 (x9 : Int32) (M10 : Mm) => (((6 : Int32) ≤ x9 → (∀ M12 : Mm, M12 = wr M10 7 0 4 ((rd M10 7 0 4) - (1 : Int32)) → J2 M12)) ∧ (¬ (6 : Int32) ≤ x9 → (wp_X7_copies (161, 0) ((136 : Int32) * x9) (161, 0) ((136 : Int32) * (x9 - (1 : Int32))) M10 (fun (M13 : Mm) => (∀ x14 : Int32, x14 = x9 + (1 : Int32) → self7 x14 M13)))))) n (1 : Int32) M)))))
set_option maxHeartbeats 4000000 in
set_option maxRecDepth 100000 in
theorem met_X7_changes {l : Launch} {G : GT} (hG : GD G)  (M : Mm) (P : Mm → Prop) (h : wp_X7_changes  M P) : MV l G yX7_changes cX7_changes 2 none ({ frames := 1, cells := 0, slots := 0, locals := 24 } : Room) [.ref (adr G 7 0)] M P := by
  refine met_by hG (own := RX7) rfl (by decide +kernel) (Nat.le_of_ble_eq_true rfl) (fun E hE X Y => ?_)
  show J G E 2 0 [(0, .ref (adr G 7 0))] [] M
  unfold wp_X7_changes at h
  refine j_aload_n X 0 dX7_changes_0 rfl rfl ?_
  refine jf_RX7_22 X  dX7_changes_1 ?_
  refine j_bipush (v := (6 : Int32)) X (by decide) dX7_changes_4 ?_
  refine jn1_s h (fun  (M1 : Mm) => J G E 2 56 [(0, .ref (adr G 7 0))] [] M1) (fun M1 h => ?_) (fun J2 hj3 h => ?_)
  · refine j_aload_n X 0 dX7_changes_56 rfl rfl ?_
    refine jf_RX7_19 X  dX7_changes_57 ?_
    refine j_iconst (v := (0 : Int32)) X (by decide) dX7_changes_60 ?_
    refine j_aload_n X 0 dX7_changes_61 rfl rfl ?_
    refine jf_RX7_13 X  dX7_changes_62 ?_
    refine j_sipush (v := (136 : Int32)) X (by decide) dX7_changes_65 ?_
    refine j_aload_n X 0 dX7_changes_68 rfl rfl ?_
    refine jf_RX7_22 X  dX7_changes_69 ?_
    refine j_imul X dX7_changes_72 ?_
    refine jc_RX7_57 X ⟨Nat.le_of_ble_eq_true rfl, Nat.le_of_ble_eq_true rfl⟩ (Nat.le_of_ble_eq_true rfl) dX7_changes_73 h (fun M4 h => ?_)
    refine j_aload_n X 0 dX7_changes_76 rfl rfl ?_
    refine j_dup X rfl dX7_changes_77 ?_
    refine jf_RX7_22 X  dX7_changes_78 ?_
    refine j_iconst (v := (1 : Int32)) X (by decide) dX7_changes_81 ?_
    refine j_iadd X dX7_changes_82 ?_
    refine jp_RX7_22 X   dX7_changes_83 ?_
    refine j_memo (fun M5 eM5 => ?_)
    replace h := h M5 eM5
    exact j_vret X Y dX7_changes_86 h
  · refine j_icmp_ne X 56 dX7_changes_6 (by decide) (fun c6 => ?_) (fun c6 => ?_)
    · replace h := h.1 c6
      refine j_sub [0] rfl ?_
      exact hj3 M h
    · replace h := h.2 c6
      refine j_iconst (v := (1 : Int32)) X (by decide) dX7_changes_9 ?_
      refine j_istore_n X [(1, .int (1 : Int32)), (0, .ref (adr G 7 0))] dX7_changes_10 rfl (by decide) rfl ?_
      refine j_sub [1, 0] rfl ?_
      refine lq2_s h (fun (x9 : Int32) (M10 : Mm) => J G E 2 11 [(0, .ref (adr G 7 0)), (1, .int x9)] [] M10) (fun self7 ih8 x9 M10 h => ?_) id
      refine j_iload_n X 1 dX7_changes_11 rfl rfl ?_
      refine j_bipush (v := (6 : Int32)) X (by decide) dX7_changes_12 ?_
      refine j_icmp_ge X 46 dX7_changes_14 (by decide) (fun c11 => ?_) (fun c11 => ?_)
      · replace h := h.1 c11
        refine j_aload_n X 0 dX7_changes_46 rfl rfl ?_
        refine j_dup X rfl dX7_changes_47 ?_
        refine jf_RX7_22 X  dX7_changes_48 ?_
        refine j_iconst (v := (1 : Int32)) X (by decide) dX7_changes_51 ?_
        refine j_isub X dX7_changes_52 ?_
        refine jp_RX7_22 X   dX7_changes_53 ?_
        refine j_memo (fun M12 eM12 => ?_)
        replace h := h M12 eM12
        refine j_sub [0] rfl ?_
        exact hj3 M12 h
      · replace h := h.2 c11
        refine j_aload_n X 0 dX7_changes_17 rfl rfl ?_
        refine jf_RX7_13 X  dX7_changes_18 ?_
        refine j_sipush (v := (136 : Int32)) X (by decide) dX7_changes_21 ?_
        refine j_iload_n X 1 dX7_changes_24 rfl rfl ?_
        refine j_imul X dX7_changes_25 ?_
        refine j_aload_n X 0 dX7_changes_26 rfl rfl ?_
        refine jf_RX7_13 X  dX7_changes_27 ?_
        refine j_sipush (v := (136 : Int32)) X (by decide) dX7_changes_30 ?_
        refine j_iload_n X 1 dX7_changes_33 rfl rfl ?_
        refine j_iconst (v := (1 : Int32)) X (by decide) dX7_changes_34 ?_
        refine j_isub X dX7_changes_35 ?_
        refine j_imul X dX7_changes_36 ?_
        refine jc_RX7_57 X ⟨Nat.le_of_ble_eq_true rfl, Nat.le_of_ble_eq_true rfl⟩ (Nat.le_of_ble_eq_true rfl) dX7_changes_37 h (fun M13 h => ?_)
        obtain ⟨x14, ex14⟩ : ∃ z : Int32, z = x9 + (1 : Int32) := ⟨_, rfl⟩
        replace h := h x14 ex14
        refine j_iinc (v := x14) X 1 [(1, .int x14), (0, .ref (adr G 7 0))] dX7_changes_40 rfl (by rw [ex14]; rfl) (by decide) rfl ?_
        refine j_goto X 11 dX7_changes_43 (by decide) ?_
        refine j_sub [1, 0] rfl ?_
        exact ih8 x14 M13 h
theorem jc_RX7_81 {G : GT} {E : ET} {cc : ByteArray} {nL pc : Nat} {rm : Room} {lv : List (Nat × Value)} {st : List Value} {M : Mm} (X : CX G E RX7 cc nL rm) (hR : 1 + 1 ≤ rm.frames ∧ 8 + (2 + 11) + 24 ≤ rm.locals) (hst : (st.map fun v => v.category).sum ≤ 8) (d : decode cc pc = .ok (.invokevirtual 81, 3))  {P : Mm → Prop} (h : wp_X7_changes  M P) (k1 : ∀ M2 : Mm, P M2 → J G E nL (pc + 3) lv st M2) : J G E nL pc lv (.ref (adr G 7 0) :: st) M := fun H locs ls hP hS hl => by
  have hK := X.2.2.2.2.2.1.1
  have hm := met_X7_changes (l := eL E) X.2.2.2.2.2.2.1  M P h
  have hR2 : 1 + 1 ≤ (eR E).frames ∧ 8 + (2 + 11) + 24 ≤ (eR E).locals := by rw [X.2.2.2.2.2.2.2.1]; exact hR
  have hC2 : eCells E + 0 ≤ (eR E).cells ∧ eSlots E + 0 ≤ (eR E).slots := by rw [X.2.2.2.2.2.2.2.1]; exact ⟨X.2.2.2.2.2.2.2.2.1, X.2.2.2.2.2.2.2.2.2⟩
  obtain ⟨q0, -, hq⟩ := wld_get (G := G) M (mw7 0 (by decide))
  exact va_callv (va_runV (C := RX7) (As := []) (rest := st) ⟨X.1, X.2.1, X.2.2.1, X.2.2.2.1, X.2.2.2.2.1⟩ hm (cwV (ws' := lw_aw) 0 X.2.2.2.2.1 (gwV (tw (i := 948) (by decide +kernel)) (tw (i := 950) (by decide +kernel)) (tw (i := 22) (by decide +kernel)) (tw (i := 78) (by decide +kernel)) (tw (i := 951) (by decide +kernel))) rfl rfl rfl (by decide +kernel) hR2) ⟨hr_blind, va_recv hK hP (ci := 7) (q := (RX7, TX7, 15)) (fs := objF7 G 0 (M.1 7 0)) (q0 := q0) rfl hq, fun U hU hW => ⟨rfl, by rw [hU]; exact hP, KK.warm hW X.2.2.2.2.2.1⟩⟩ rfl rfl hl.1 rfl (lv_room hst) d hC2) hS (fun q _ h => h) (fun q h => h) (fun u t H1 locs1 ht hvm hw hB hz1 hk1 hS1 => k1 u hw H1 locs1 ls (by rw [← ht]; exact hB.1) hS1 hl)
/-- LayeredClaimsModel.isCover(I)Z -/
def wp_X7_isCover (a1 : Int32) (M : Mm) (P : Int32 → Mm → Prop) : Prop := (wp_X7_in a1 (0 : Int32) ((rd M 160 0 0) - (1 : Int32)) M (fun (r2 : Int32) (M1 : Mm) => (narrow .boolean (.int r2) = .int r2 ∧ P r2 M1)))
set_option maxHeartbeats 4000000 in
set_option maxRecDepth 100000 in
theorem met_X7_isCover {l : Launch} {G : GT} (hG : GD G) (a1 : Int32) (M : Mm) (P : Int32 → Mm → Prop) (h : wp_X7_isCover a1 M P) : MI l G yX7_isCover cX7_isCover 2 (some .boolean) ({ frames := 1, cells := 0, slots := 0, locals := 22 } : Room) [.ref (adr G 7 0), .int a1] M P := by
  refine met_by hG (own := RX7) rfl (by decide +kernel) (Nat.le_of_ble_eq_true rfl) (fun E hE X Y => ?_)
  show J G E 2 0 [(0, .ref (adr G 7 0)), (1, .int a1)] [] M
  unfold wp_X7_isCover at h
  refine j_iload_n X 1 dX7_isCover_0 rfl rfl ?_
  refine j_iconst (v := (0 : Int32)) X (by decide) dX7_isCover_1 ?_
  refine j_aload_n X 0 dX7_isCover_2 rfl rfl ?_
  refine jf_RX7_9 X  dX7_isCover_3 ?_
  refine j_iconst (v := (0 : Int32)) X (by decide) dX7_isCover_6 ?_
  refine j_iald X 0 (by decide) (mw160 0 (by decide)) kt160 lt160 (vpc (by decide)) dX7_isCover_7 ?_
  refine j_iconst (v := (1 : Int32)) X (by decide) dX7_isCover_8 ?_
  refine j_isub X dX7_isCover_9 ?_
  refine jc_RX7_61 X ⟨Nat.le_of_ble_eq_true rfl, Nat.le_of_ble_eq_true rfl⟩ (Nat.le_of_ble_eq_true rfl) dX7_isCover_10 h (fun r2 M1 h => ?_)
  exact j_zret X Y dX7_isCover_13 h.1 h.2
theorem jc_RX7_78 {G : GT} {E : ET} {cc : ByteArray} {nL pc : Nat} {rm : Room} {lv : List (Nat × Value)} {st : List Value} {M : Mm} (X : CX G E RX7 cc nL rm) (hR : 1 + 1 ≤ rm.frames ∧ 8 + (2 + 11) + 22 ≤ rm.locals) (hst : (st.map fun v => v.category).sum ≤ 8) (d : decode cc pc = .ok (.invokevirtual 78, 3)) {a1 : Int32} {P : Int32 → Mm → Prop} (h : wp_X7_isCover a1 M P) (k1 : ∀ (r : Int32) (M2 : Mm), P r M2 → J G E nL (pc + 3) lv (.int r :: st) M2) : J G E nL pc lv (.int a1 :: .ref (adr G 7 0) :: st) M := fun H locs ls hP hS hl => by
  have hK := X.2.2.2.2.2.1.1
  have hm := met_X7_isCover (l := eL E) X.2.2.2.2.2.2.1 a1 M P h
  have hR2 : 1 + 1 ≤ (eR E).frames ∧ 8 + (2 + 11) + 22 ≤ (eR E).locals := by rw [X.2.2.2.2.2.2.2.1]; exact hR
  have hC2 : eCells E + 0 ≤ (eR E).cells ∧ eSlots E + 0 ≤ (eR E).slots := by rw [X.2.2.2.2.2.2.2.1]; exact ⟨X.2.2.2.2.2.2.2.2.1, X.2.2.2.2.2.2.2.2.2⟩
  obtain ⟨q0, -, hq⟩ := wld_get (G := G) M (mw7 0 (by decide))
  exact va_calli (va_runV (C := RX7) (As := [.int a1]) (rest := st) ⟨X.1, X.2.1, X.2.2.1, X.2.2.2.1, X.2.2.2.2.1⟩ hm (cwV (ws' := lw_aw) 1 X.2.2.2.2.1 (gwV (tw (i := 981) (by decide +kernel)) (tw (i := 983) (by decide +kernel)) (tw (i := 27) (by decide +kernel)) (tw (i := 78) (by decide +kernel)) (tw (i := 984) (by decide +kernel))) rfl rfl rfl (by decide +kernel) hR2) ⟨hr_blind, va_recv hK hP (ci := 7) (q := (RX7, TX7, 15)) (fs := objF7 G 0 (M.1 7 0)) (q0 := q0) rfl hq, fun U hU hW => ⟨rfl, by rw [hU]; exact hP, KK.warm hW X.2.2.2.2.2.1⟩⟩ rfl rfl hl.1 rfl (lv_room hst) d hC2) hS (fun q _ h => h) (fun q h => h) (fun r u t H1 locs1 ht hvm hw hB hz1 hk1 hS1 => k1 r u hw H1 locs1 ls (by rw [← ht]; exact hB.1) hS1 hl)
/-- LayeredClaimsModel.isLayer(I)Z -/
def wp_X7_isLayer (a1 : Int32) (M : Mm) (P : Int32 → Mm → Prop) : Prop := (wp_X7_in a1 (0 : Int32) ((rd M 160 0 1) - (1 : Int32)) M (fun (r2 : Int32) (M1 : Mm) => (narrow .boolean (.int r2) = .int r2 ∧ P r2 M1)))
set_option maxHeartbeats 4000000 in
set_option maxRecDepth 100000 in
theorem met_X7_isLayer {l : Launch} {G : GT} (hG : GD G) (a1 : Int32) (M : Mm) (P : Int32 → Mm → Prop) (h : wp_X7_isLayer a1 M P) : MI l G yX7_isLayer cX7_isLayer 2 (some .boolean) ({ frames := 1, cells := 0, slots := 0, locals := 22 } : Room) [.ref (adr G 7 0), .int a1] M P := by
  refine met_by hG (own := RX7) rfl (by decide +kernel) (Nat.le_of_ble_eq_true rfl) (fun E hE X Y => ?_)
  show J G E 2 0 [(0, .ref (adr G 7 0)), (1, .int a1)] [] M
  unfold wp_X7_isLayer at h
  refine j_iload_n X 1 dX7_isLayer_0 rfl rfl ?_
  refine j_iconst (v := (0 : Int32)) X (by decide) dX7_isLayer_1 ?_
  refine j_aload_n X 0 dX7_isLayer_2 rfl rfl ?_
  refine jf_RX7_9 X  dX7_isLayer_3 ?_
  refine j_iconst (v := (1 : Int32)) X (by decide) dX7_isLayer_6 ?_
  refine j_iald X 1 (by decide) (mw160 0 (by decide)) kt160 lt160 (vpc (by decide)) dX7_isLayer_7 ?_
  refine j_iconst (v := (1 : Int32)) X (by decide) dX7_isLayer_8 ?_
  refine j_isub X dX7_isLayer_9 ?_
  refine jc_RX7_61 X ⟨Nat.le_of_ble_eq_true rfl, Nat.le_of_ble_eq_true rfl⟩ (Nat.le_of_ble_eq_true rfl) dX7_isLayer_10 h (fun r2 M1 h => ?_)
  exact j_zret X Y dX7_isLayer_13 h.1 h.2
theorem jc_RX7_202 {G : GT} {E : ET} {cc : ByteArray} {nL pc : Nat} {rm : Room} {lv : List (Nat × Value)} {st : List Value} {M : Mm} (X : CX G E RX7 cc nL rm) (hR : 1 + 1 ≤ rm.frames ∧ 8 + (2 + 11) + 22 ≤ rm.locals) (hst : (st.map fun v => v.category).sum ≤ 8) (d : decode cc pc = .ok (.invokevirtual 202, 3)) {a1 : Int32} {P : Int32 → Mm → Prop} (h : wp_X7_isLayer a1 M P) (k1 : ∀ (r : Int32) (M2 : Mm), P r M2 → J G E nL (pc + 3) lv (.int r :: st) M2) : J G E nL pc lv (.int a1 :: .ref (adr G 7 0) :: st) M := fun H locs ls hP hS hl => by
  have hK := X.2.2.2.2.2.1.1
  have hm := met_X7_isLayer (l := eL E) X.2.2.2.2.2.2.1 a1 M P h
  have hR2 : 1 + 1 ≤ (eR E).frames ∧ 8 + (2 + 11) + 22 ≤ (eR E).locals := by rw [X.2.2.2.2.2.2.2.1]; exact hR
  have hC2 : eCells E + 0 ≤ (eR E).cells ∧ eSlots E + 0 ≤ (eR E).slots := by rw [X.2.2.2.2.2.2.2.1]; exact ⟨X.2.2.2.2.2.2.2.2.1, X.2.2.2.2.2.2.2.2.2⟩
  obtain ⟨q0, -, hq⟩ := wld_get (G := G) M (mw7 0 (by decide))
  exact va_calli (va_runV (C := RX7) (As := [.int a1]) (rest := st) ⟨X.1, X.2.1, X.2.2.1, X.2.2.2.1, X.2.2.2.2.1⟩ hm (cwV (ws' := lw_aw) 1 X.2.2.2.2.1 (gwV (tw (i := 1111) (by decide +kernel)) (tw (i := 1113) (by decide +kernel)) (tw (i := 47) (by decide +kernel)) (tw (i := 78) (by decide +kernel)) (tw (i := 1114) (by decide +kernel))) rfl rfl rfl (by decide +kernel) hR2) ⟨hr_blind, va_recv hK hP (ci := 7) (q := (RX7, TX7, 15)) (fs := objF7 G 0 (M.1 7 0)) (q0 := q0) rfl hq, fun U hU hW => ⟨rfl, by rw [hU]; exact hP, KK.warm hW X.2.2.2.2.2.1⟩⟩ rfl rfl hl.1 rfl (lv_room hst) d hC2) hS (fun q _ h => h) (fun q h => h) (fun r u t H1 locs1 ht hvm hw hB hz1 hk1 hS1 => k1 r u hw H1 locs1 ls (by rw [← ht]; exact hB.1) hS1 hl)
/-- LayeredClaimsModel.isEvent(I)Z -/
def wp_X7_isEvent (a1 : Int32) (M : Mm) (P : Int32 → Mm → Prop) : Prop := (wp_X7_in a1 (0 : Int32) ((rd M 160 0 2) - (1 : Int32)) M (fun (r2 : Int32) (M1 : Mm) => (narrow .boolean (.int r2) = .int r2 ∧ P r2 M1)))
set_option maxHeartbeats 4000000 in
set_option maxRecDepth 100000 in
theorem met_X7_isEvent {l : Launch} {G : GT} (hG : GD G) (a1 : Int32) (M : Mm) (P : Int32 → Mm → Prop) (h : wp_X7_isEvent a1 M P) : MI l G yX7_isEvent cX7_isEvent 2 (some .boolean) ({ frames := 1, cells := 0, slots := 0, locals := 22 } : Room) [.ref (adr G 7 0), .int a1] M P := by
  refine met_by hG (own := RX7) rfl (by decide +kernel) (Nat.le_of_ble_eq_true rfl) (fun E hE X Y => ?_)
  show J G E 2 0 [(0, .ref (adr G 7 0)), (1, .int a1)] [] M
  unfold wp_X7_isEvent at h
  refine j_iload_n X 1 dX7_isEvent_0 rfl rfl ?_
  refine j_iconst (v := (0 : Int32)) X (by decide) dX7_isEvent_1 ?_
  refine j_aload_n X 0 dX7_isEvent_2 rfl rfl ?_
  refine jf_RX7_9 X  dX7_isEvent_3 ?_
  refine j_iconst (v := (2 : Int32)) X (by decide) dX7_isEvent_6 ?_
  refine j_iald X 2 (by decide) (mw160 0 (by decide)) kt160 lt160 (vpc (by decide)) dX7_isEvent_7 ?_
  refine j_iconst (v := (1 : Int32)) X (by decide) dX7_isEvent_8 ?_
  refine j_isub X dX7_isEvent_9 ?_
  refine jc_RX7_61 X ⟨Nat.le_of_ble_eq_true rfl, Nat.le_of_ble_eq_true rfl⟩ (Nat.le_of_ble_eq_true rfl) dX7_isEvent_10 h (fun r2 M1 h => ?_)
  exact j_zret X Y dX7_isEvent_13 h.1 h.2
theorem jc_RX7_75 {G : GT} {E : ET} {cc : ByteArray} {nL pc : Nat} {rm : Room} {lv : List (Nat × Value)} {st : List Value} {M : Mm} (X : CX G E RX7 cc nL rm) (hR : 1 + 1 ≤ rm.frames ∧ 8 + (2 + 11) + 22 ≤ rm.locals) (hst : (st.map fun v => v.category).sum ≤ 8) (d : decode cc pc = .ok (.invokevirtual 75, 3)) {a1 : Int32} {P : Int32 → Mm → Prop} (h : wp_X7_isEvent a1 M P) (k1 : ∀ (r : Int32) (M2 : Mm), P r M2 → J G E nL (pc + 3) lv (.int r :: st) M2) : J G E nL pc lv (.int a1 :: .ref (adr G 7 0) :: st) M := fun H locs ls hP hS hl => by
  have hK := X.2.2.2.2.2.1.1
  have hm := met_X7_isEvent (l := eL E) X.2.2.2.2.2.2.1 a1 M P h
  have hR2 : 1 + 1 ≤ (eR E).frames ∧ 8 + (2 + 11) + 22 ≤ (eR E).locals := by rw [X.2.2.2.2.2.2.2.1]; exact hR
  have hC2 : eCells E + 0 ≤ (eR E).cells ∧ eSlots E + 0 ≤ (eR E).slots := by rw [X.2.2.2.2.2.2.2.1]; exact ⟨X.2.2.2.2.2.2.2.2.1, X.2.2.2.2.2.2.2.2.2⟩
  obtain ⟨q0, -, hq⟩ := wld_get (G := G) M (mw7 0 (by decide))
  exact va_calli (va_runV (C := RX7) (As := [.int a1]) (rest := st) ⟨X.1, X.2.1, X.2.2.1, X.2.2.2.1, X.2.2.2.2.1⟩ hm (cwV (ws' := lw_aw) 1 X.2.2.2.2.1 (gwV (tw (i := 977) (by decide +kernel)) (tw (i := 979) (by decide +kernel)) (tw (i := 26) (by decide +kernel)) (tw (i := 78) (by decide +kernel)) (tw (i := 980) (by decide +kernel))) rfl rfl rfl (by decide +kernel) hR2) ⟨hr_blind, va_recv hK hP (ci := 7) (q := (RX7, TX7, 15)) (fs := objF7 G 0 (M.1 7 0)) (q0 := q0) rfl hq, fun U hU hW => ⟨rfl, by rw [hU]; exact hP, KK.warm hW X.2.2.2.2.2.1⟩⟩ rfl rfl hl.1 rfl (lv_room hst) d hC2) hS (fun q _ h => h) (fun q h => h) (fun r u t H1 locs1 ht hvm hw hB hz1 hk1 hS1 => k1 r u hw H1 locs1 ls (by rw [← ht]; exact hB.1) hS1 hl)
/-- LayeredClaimsModel.isClaim(I)Z -/
def wp_X7_isClaim (a1 : Int32) (M : Mm) (P : Int32 → Mm → Prop) : Prop := (wp_X7_in a1 (0 : Int32) ((rd M 160 0 3) - (1 : Int32)) M (fun (r2 : Int32) (M1 : Mm) => (narrow .boolean (.int r2) = .int r2 ∧ P r2 M1)))
set_option maxHeartbeats 4000000 in
set_option maxRecDepth 100000 in
theorem met_X7_isClaim {l : Launch} {G : GT} (hG : GD G) (a1 : Int32) (M : Mm) (P : Int32 → Mm → Prop) (h : wp_X7_isClaim a1 M P) : MI l G yX7_isClaim cX7_isClaim 2 (some .boolean) ({ frames := 1, cells := 0, slots := 0, locals := 22 } : Room) [.ref (adr G 7 0), .int a1] M P := by
  refine met_by hG (own := RX7) rfl (by decide +kernel) (Nat.le_of_ble_eq_true rfl) (fun E hE X Y => ?_)
  show J G E 2 0 [(0, .ref (adr G 7 0)), (1, .int a1)] [] M
  unfold wp_X7_isClaim at h
  refine j_iload_n X 1 dX7_isClaim_0 rfl rfl ?_
  refine j_iconst (v := (0 : Int32)) X (by decide) dX7_isClaim_1 ?_
  refine j_aload_n X 0 dX7_isClaim_2 rfl rfl ?_
  refine jf_RX7_9 X  dX7_isClaim_3 ?_
  refine j_iconst (v := (3 : Int32)) X (by decide) dX7_isClaim_6 ?_
  refine j_iald X 3 (by decide) (mw160 0 (by decide)) kt160 lt160 (vpc (by decide)) dX7_isClaim_7 ?_
  refine j_iconst (v := (1 : Int32)) X (by decide) dX7_isClaim_8 ?_
  refine j_isub X dX7_isClaim_9 ?_
  refine jc_RX7_61 X ⟨Nat.le_of_ble_eq_true rfl, Nat.le_of_ble_eq_true rfl⟩ (Nat.le_of_ble_eq_true rfl) dX7_isClaim_10 h (fun r2 M1 h => ?_)
  exact j_zret X Y dX7_isClaim_13 h.1 h.2
theorem jc_RX7_104 {G : GT} {E : ET} {cc : ByteArray} {nL pc : Nat} {rm : Room} {lv : List (Nat × Value)} {st : List Value} {M : Mm} (X : CX G E RX7 cc nL rm) (hR : 1 + 1 ≤ rm.frames ∧ 8 + (2 + 11) + 22 ≤ rm.locals) (hst : (st.map fun v => v.category).sum ≤ 8) (d : decode cc pc = .ok (.invokevirtual 104, 3)) {a1 : Int32} {P : Int32 → Mm → Prop} (h : wp_X7_isClaim a1 M P) (k1 : ∀ (r : Int32) (M2 : Mm), P r M2 → J G E nL (pc + 3) lv (.int r :: st) M2) : J G E nL pc lv (.int a1 :: .ref (adr G 7 0) :: st) M := fun H locs ls hP hS hl => by
  have hK := X.2.2.2.2.2.1.1
  have hm := met_X7_isClaim (l := eL E) X.2.2.2.2.2.2.1 a1 M P h
  have hR2 : 1 + 1 ≤ (eR E).frames ∧ 8 + (2 + 11) + 22 ≤ (eR E).locals := by rw [X.2.2.2.2.2.2.2.1]; exact hR
  have hC2 : eCells E + 0 ≤ (eR E).cells ∧ eSlots E + 0 ≤ (eR E).slots := by rw [X.2.2.2.2.2.2.2.1]; exact ⟨X.2.2.2.2.2.2.2.2.1, X.2.2.2.2.2.2.2.2.2⟩
  obtain ⟨q0, -, hq⟩ := wld_get (G := G) M (mw7 0 (by decide))
  exact va_calli (va_runV (C := RX7) (As := [.int a1]) (rest := st) ⟨X.1, X.2.1, X.2.2.1, X.2.2.2.1, X.2.2.2.2.1⟩ hm (cwV (ws' := lw_aw) 1 X.2.2.2.2.1 (gwV (tw (i := 989) (by decide +kernel)) (tw (i := 991) (by decide +kernel)) (tw (i := 28) (by decide +kernel)) (tw (i := 78) (by decide +kernel)) (tw (i := 992) (by decide +kernel))) rfl rfl rfl (by decide +kernel) hR2) ⟨hr_blind, va_recv hK hP (ci := 7) (q := (RX7, TX7, 15)) (fs := objF7 G 0 (M.1 7 0)) (q0 := q0) rfl hq, fun U hU hW => ⟨rfl, by rw [hU]; exact hP, KK.warm hW X.2.2.2.2.2.1⟩⟩ rfl rfl hl.1 rfl (lv_room hst) d hC2) hS (fun q _ h => h) (fun q h => h) (fun r u t H1 locs1 ht hvm hw hB hz1 hk1 hS1 => k1 r u hw H1 locs1 ls (by rw [← ht]; exact hB.1) hS1 hl)
/-- LayeredClaimsModel.isGroup(I)Z -/
def wp_X7_isGroup (a1 : Int32) (M : Mm) (P : Int32 → Mm → Prop) : Prop := (wp_X7_in a1 (0 : Int32) (2 : Int32) M (fun (r2 : Int32) (M1 : Mm) => (narrow .boolean (.int r2) = .int r2 ∧ P r2 M1)))
set_option maxHeartbeats 4000000 in
set_option maxRecDepth 100000 in
theorem met_X7_isGroup {l : Launch} {G : GT} (hG : GD G) (a1 : Int32) (M : Mm) (P : Int32 → Mm → Prop) (h : wp_X7_isGroup a1 M P) : MI l G yX7_isGroup cX7_isGroup 1 (some .boolean) ({ frames := 1, cells := 0, slots := 0, locals := 22 } : Room) [.int a1] M P := by
  refine met_by hG (own := RX7) rfl (by decide +kernel) (Nat.le_of_ble_eq_true rfl) (fun E hE X Y => ?_)
  show J G E 1 0 [(0, .int a1)] [] M
  unfold wp_X7_isGroup at h
  refine j_iload_n X 0 dX7_isGroup_0 rfl rfl ?_
  refine j_iconst (v := (0 : Int32)) X (by decide) dX7_isGroup_1 ?_
  refine j_iconst (v := (2 : Int32)) X (by decide) dX7_isGroup_2 ?_
  refine jc_RX7_61 X ⟨Nat.le_of_ble_eq_true rfl, Nat.le_of_ble_eq_true rfl⟩ (Nat.le_of_ble_eq_true rfl) dX7_isGroup_3 h (fun r2 M1 h => ?_)
  exact j_zret X Y dX7_isGroup_6 h.1 h.2
theorem jc_RX7_66 {G : GT} {E : ET} {cc : ByteArray} {nL pc : Nat} {rm : Room} {lv : List (Nat × Value)} {st : List Value} {M : Mm} (X : CX G E RX7 cc nL rm) (hR : 1 + 1 ≤ rm.frames ∧ 8 + (1 + 11) + 22 ≤ rm.locals) (hst : (st.map fun v => v.category).sum ≤ 8) (d : decode cc pc = .ok (.invokestatic 66, 3)) {a1 : Int32} {P : Int32 → Mm → Prop} (h : wp_X7_isGroup a1 M P) (k1 : ∀ (r : Int32) (M2 : Mm), P r M2 → J G E nL (pc + 3) lv (.int r :: st) M2) : J G E nL pc lv (.int a1 :: st) M := fun H locs ls hP hS hl => by
  have hK := X.2.2.2.2.2.1.1
  have hm := met_X7_isGroup (l := eL E) X.2.2.2.2.2.2.1 a1 M P h
  have hR2 : 1 + 1 ≤ (eR E).frames ∧ 8 + (1 + 11) + 22 ≤ (eR E).locals := by rw [X.2.2.2.2.2.2.2.1]; exact hR
  have hC2 : eCells E + 0 ≤ (eR E).cells ∧ eSlots E + 0 ≤ (eR E).slots := by rw [X.2.2.2.2.2.2.2.1]; exact ⟨X.2.2.2.2.2.2.2.2.1, X.2.2.2.2.2.2.2.2.2⟩
  exact va_calli (va_runS (As := [.int a1]) (rest := st) ⟨X.1, X.2.1, X.2.2.1, X.2.2.2.1, X.2.2.2.2.1⟩ hm (va_cwS (ws' := lw_aw) 1 X.2.2.2.2.1 (gwS (tw (i := 937) (by decide +kernel)) (tw (i := 938) (by decide +kernel)) (tw (i := 78) (by decide +kernel)) (tw (i := 939) (by decide +kernel))) rfl rfl rfl (by decide +kernel) hR2) ⟨hr_blind, fun U hU hW => ⟨rfl, by rw [hU]; exact hP, KK.warm hW X.2.2.2.2.2.1⟩⟩ rfl rfl hl.1 rfl (lv_room hst) d hC2) hS (fun q _ h => h) (fun q h => h) (fun r u t H1 locs1 ht hvm hw hB hz1 hk1 hS1 => k1 r u hw H1 locs1 ls (by rw [← ht]; exact hB.1) hS1 hl)
/-- LayeredClaimsModel.puts(IIIIII)I -/
def wp_X7_puts (a1 : Int32) (a2 : Int32) (a3 : Int32) (a4 : Int32) (a5 : Int32) (a6 : Int32) (M : Mm) (P : Int32 → Mm → Prop) : Prop := (vp_in a2 136 ∧ (∀ x2 : Int32, x2 = (a1 + ((4 : Int32) * (rd M 160 0 a2.toNatClampNeg))) → (vp_in x2 136 ∧ (∀ M4 : Mm, M4 = wr M 160 0 x2.toNatClampNeg a3 → (vp_in (x2 + (1 : Int32)) 136 ∧ (∀ M6 : Mm, M6 = wr M4 160 0 (x2 + (1 : Int32)).toNatClampNeg a4 → (vp_in (x2 + (2 : Int32)) 136 ∧ (∀ M8 : Mm, M8 = wr M6 160 0 (x2 + (2 : Int32)).toNatClampNeg a5 → (vp_in (x2 + (3 : Int32)) 136 ∧ (∀ M10 : Mm, M10 = wr M8 160 0 (x2 + (3 : Int32)).toNatClampNeg a6 → (∀ M11 : Mm, M11 = wr M10 160 0 a2.toNatClampNeg ((rd M10 160 0 a2.toNatClampNeg) + (1 : Int32)) → P ((rd M11 160 0 a2.toNatClampNeg) - (1 : Int32)) M11)))))))))))
set_option maxHeartbeats 4000000 in
set_option maxRecDepth 100000 in
theorem met_X7_puts {l : Launch} {G : GT} (hG : GD G) (a1 : Int32) (a2 : Int32) (a3 : Int32) (a4 : Int32) (a5 : Int32) (a6 : Int32) (M : Mm) (P : Int32 → Mm → Prop) (h : wp_X7_puts a1 a2 a3 a4 a5 a6 M P) : MI l G yX7_puts cX7_puts 8 (some .int) ({ frames := 0, cells := 0, slots := 0, locals := 0 } : Room) [.ref (adr G 7 0), .int a1, .int a2, .int a3, .int a4, .int a5, .int a6] M P := by
  refine met_by hG (own := RX7) rfl (by decide +kernel) (Nat.le_of_ble_eq_true rfl) (fun E hE X Y => ?_)
  show J G E 8 0 [(0, .ref (adr G 7 0)), (1, .int a1), (2, .int a2), (3, .int a3), (4, .int a4), (5, .int a5), (6, .int a6)] [] M
  unfold wp_X7_puts at h
  refine j_iload_n X 1 dX7_puts_0 rfl rfl ?_
  refine j_iconst (v := (4 : Int32)) X (by decide) dX7_puts_1 ?_
  refine j_aload_n X 0 dX7_puts_2 rfl rfl ?_
  refine jf_RX7_9 X  dX7_puts_3 ?_
  refine j_iload_n X 2 dX7_puts_6 rfl rfl ?_
  have q1 := h.1
  replace h := h.2
  refine j_iald X _ rfl (mw160 0 (by decide)) kt160 lt160 q1 dX7_puts_7 ?_
  refine j_imul X dX7_puts_8 ?_
  refine j_iadd X dX7_puts_9 ?_
  refine j_topi (fun x2 ex2 => ?_)
  replace h := h x2 ex2
  refine j_istore X [(7, .int x2), (0, .ref (adr G 7 0)), (1, .int a1), (2, .int a2), (3, .int a3), (4, .int a4), (5, .int a5), (6, .int a6)] dX7_puts_10 (by decide) rfl ?_
  refine j_aload_n X 1 dX7_puts_12 rfl rfl ?_
  refine jf_RX7_9 X  dX7_puts_13 ?_
  refine j_iload X 0 dX7_puts_16 rfl ?_
  refine j_iload_n X 4 dX7_puts_18 rfl rfl ?_
  have q3 := h.1
  replace h := h.2
  refine j_iast X _ rfl (mw160 0 (by decide)) kt160 lt160 q3 dX7_puts_19 ?_
  refine j_memo (fun M4 eM4 => ?_)
  replace h := h M4 eM4
  refine j_aload_n X 1 dX7_puts_20 rfl rfl ?_
  refine jf_RX7_9 X  dX7_puts_21 ?_
  refine j_iload X 0 dX7_puts_24 rfl ?_
  refine j_iconst (v := (1 : Int32)) X (by decide) dX7_puts_26 ?_
  refine j_iadd X dX7_puts_27 ?_
  refine j_iload X 5 dX7_puts_28 rfl ?_
  have q5 := h.1
  replace h := h.2
  refine j_iast X _ rfl (mw160 0 (by decide)) kt160 lt160 q5 dX7_puts_30 ?_
  refine j_memo (fun M6 eM6 => ?_)
  replace h := h M6 eM6
  refine j_aload_n X 1 dX7_puts_31 rfl rfl ?_
  refine jf_RX7_9 X  dX7_puts_32 ?_
  refine j_iload X 0 dX7_puts_35 rfl ?_
  refine j_iconst (v := (2 : Int32)) X (by decide) dX7_puts_37 ?_
  refine j_iadd X dX7_puts_38 ?_
  refine j_iload X 6 dX7_puts_39 rfl ?_
  have q7 := h.1
  replace h := h.2
  refine j_iast X _ rfl (mw160 0 (by decide)) kt160 lt160 q7 dX7_puts_41 ?_
  refine j_memo (fun M8 eM8 => ?_)
  replace h := h M8 eM8
  refine j_aload_n X 1 dX7_puts_42 rfl rfl ?_
  refine jf_RX7_9 X  dX7_puts_43 ?_
  refine j_iload X 0 dX7_puts_46 rfl ?_
  refine j_iconst (v := (3 : Int32)) X (by decide) dX7_puts_48 ?_
  refine j_iadd X dX7_puts_49 ?_
  refine j_iload X 7 dX7_puts_50 rfl ?_
  have q9 := h.1
  replace h := h.2
  refine j_iast X _ rfl (mw160 0 (by decide)) kt160 lt160 q9 dX7_puts_52 ?_
  refine j_memo (fun M10 eM10 => ?_)
  replace h := h M10 eM10
  refine j_aload_n X 1 dX7_puts_53 rfl rfl ?_
  refine jf_RX7_9 X  dX7_puts_54 ?_
  refine j_iload_n X 3 dX7_puts_57 rfl rfl ?_
  refine j_dup2 X rfl rfl dX7_puts_58 ?_
  refine j_iald X _ rfl (mw160 0 (by decide)) kt160 lt160 q1 dX7_puts_59 ?_
  refine j_iconst (v := (1 : Int32)) X (by decide) dX7_puts_60 ?_
  refine j_iadd X dX7_puts_61 ?_
  refine j_iast X _ rfl (mw160 0 (by decide)) kt160 lt160 q1 dX7_puts_62 ?_
  refine j_memo (fun M11 eM11 => ?_)
  replace h := h M11 eM11
  refine j_aload_n X 1 dX7_puts_63 rfl rfl ?_
  refine jf_RX7_9 X  dX7_puts_64 ?_
  refine j_iload_n X 3 dX7_puts_67 rfl rfl ?_
  refine j_iald X _ rfl (mw160 0 (by decide)) kt160 lt160 q1 dX7_puts_68 ?_
  refine j_iconst (v := (1 : Int32)) X (by decide) dX7_puts_69 ?_
  refine j_isub X dX7_puts_70 ?_
  exact j_iret X Y dX7_puts_71 h
theorem jc_RX7_70 {G : GT} {E : ET} {cc : ByteArray} {nL pc : Nat} {rm : Room} {lv : List (Nat × Value)} {st : List Value} {M : Mm} (X : CX G E RX7 cc nL rm) (hR : 0 + 1 ≤ rm.frames ∧ 8 + (8 + 11) + 0 ≤ rm.locals) (hst : (st.map fun v => v.category).sum ≤ 8) (d : decode cc pc = .ok (.invokevirtual 70, 3)) {a1 : Int32} {a2 : Int32} {a3 : Int32} {a4 : Int32} {a5 : Int32} {a6 : Int32} {P : Int32 → Mm → Prop} (h : wp_X7_puts a1 a2 a3 a4 a5 a6 M P) (k1 : ∀ (r : Int32) (M2 : Mm), P r M2 → J G E nL (pc + 3) lv (.int r :: st) M2) : J G E nL pc lv (.int a6 :: .int a5 :: .int a4 :: .int a3 :: .int a2 :: .int a1 :: .ref (adr G 7 0) :: st) M := fun H locs ls hP hS hl => by
  have hK := X.2.2.2.2.2.1.1
  have hm := met_X7_puts (l := eL E) X.2.2.2.2.2.2.1 a1 a2 a3 a4 a5 a6 M P h
  have hR2 : 0 + 1 ≤ (eR E).frames ∧ 8 + (8 + 11) + 0 ≤ (eR E).locals := by rw [X.2.2.2.2.2.2.2.1]; exact hR
  have hC2 : eCells E + 0 ≤ (eR E).cells ∧ eSlots E + 0 ≤ (eR E).slots := by rw [X.2.2.2.2.2.2.2.1]; exact ⟨X.2.2.2.2.2.2.2.2.1, X.2.2.2.2.2.2.2.2.2⟩
  obtain ⟨q0, -, hq⟩ := wld_get (G := G) M (mw7 0 (by decide))
  exact va_calli (va_runV (C := RX7) (As := [.int a1, .int a2, .int a3, .int a4, .int a5, .int a6]) (rest := st) ⟨X.1, X.2.1, X.2.2.1, X.2.2.2.1, X.2.2.2.2.1⟩ hm (cwV (ws' := lw_aw) 6 X.2.2.2.2.1 (gwV (tw (i := 940) (by decide +kernel)) (tw (i := 942) (by decide +kernel)) (tw (i := 20) (by decide +kernel)) (tw (i := 78) (by decide +kernel)) (tw (i := 943) (by decide +kernel))) rfl rfl rfl (by decide +kernel) hR2) ⟨hr_blind, va_recv hK hP (ci := 7) (q := (RX7, TX7, 15)) (fs := objF7 G 0 (M.1 7 0)) (q0 := q0) rfl hq, fun U hU hW => ⟨rfl, by rw [hU]; exact hP, KK.warm hW X.2.2.2.2.2.1⟩⟩ rfl rfl hl.1 rfl (lv_room hst) d hC2) hS (fun q _ h => h) (fun q h => h) (fun r u t H1 locs1 ht hvm hw hB hz1 hk1 hS1 => k1 r u hw H1 locs1 ls (by rw [← ht]; exact hB.1) hS1 hl)
/-- LayeredClaimsModel.laysCover(IIII)I -/
def wp_X7_laysCover (a1 : Int32) (a2 : Int32) (a3 : Int32) (a4 : Int32) (M : Mm) (P : Int32 → Mm → Prop) : Prop := (wp_X7_in a1 (1 : Int32) (99999 : Int32) M (fun (r2 : Int32) (M1 : Mm) => ((r2 = 0 → P (-2 : Int32) M1) ∧ (¬ r2 = 0 → (wp_X7_in a2 (1 : Int32) (99999 : Int32) M1 (fun (r5 : Int32) (M4 : Mm) => ((r5 = 0 → P (-2 : Int32) M4) ∧ (¬ r5 = 0 → (wp_X7_in a3 (0 : Int32) (99999 : Int32) M4 (fun (r8 : Int32) (M7 : Mm) => ((r8 = 0 → P (-2 : Int32) M7) ∧ (¬ r8 = 0 → (wp_X7_isGroup a4 M7 (fun (r11 : Int32) (M10 : Mm) => ((¬ r11 = 0 → ((¬ (rd M10 160 0 0) = (6 : Int32) → (wp_X7_puts (8 : Int32) (0 : Int32) a1 a2 a3 a4 M10 (fun (r15 : Int32) (M14 : Mm) => P r15 M14))) ∧ ((rd M10 160 0 0) = (6 : Int32) → P (-3 : Int32) M10))) ∧ (r11 = 0 → P (-2 : Int32) M10))))))))))))))))
set_option maxHeartbeats 4000000 in
set_option maxRecDepth 100000 in
theorem met_X7_laysCover {l : Launch} {G : GT} (hG : GD G) (a1 : Int32) (a2 : Int32) (a3 : Int32) (a4 : Int32) (M : Mm) (P : Int32 → Mm → Prop) (h : wp_X7_laysCover a1 a2 a3 a4 M P) : MI l G yX7_laysCover cX7_laysCover 5 (some .int) ({ frames := 2, cells := 0, slots := 0, locals := 42 } : Room) [.ref (adr G 7 0), .int a1, .int a2, .int a3, .int a4] M P := by
  refine met_by hG (own := RX7) rfl (by decide +kernel) (Nat.le_of_ble_eq_true rfl) (fun E hE X Y => ?_)
  show J G E 5 0 [(0, .ref (adr G 7 0)), (1, .int a1), (2, .int a2), (3, .int a3), (4, .int a4)] [] M
  unfold wp_X7_laysCover at h
  refine j_iload_n X 1 dX7_laysCover_0 rfl rfl ?_
  refine j_iconst (v := (1 : Int32)) X (by decide) dX7_laysCover_1 ?_
  refine j_ldc (v := (99999 : Int32)) X (tw (i := 933) (by decide +kernel)) dX7_laysCover_2 ?_
  refine jc_RX7_61 X ⟨Nat.le_of_ble_eq_true rfl, Nat.le_of_ble_eq_true rfl⟩ (Nat.le_of_ble_eq_true rfl) dX7_laysCover_4 h (fun r2 M1 h => ?_)
  refine j_if_eq X 38 dX7_laysCover_7 (by decide) (fun c3 => ?_) (fun c3 => ?_)
  · replace h := h.1 c3
    refine j_bipush (v := (-2 : Int32)) X (by decide) dX7_laysCover_38 ?_
    exact j_iret X Y dX7_laysCover_40 h
  · replace h := h.2 c3
    refine j_iload_n X 2 dX7_laysCover_10 rfl rfl ?_
    refine j_iconst (v := (1 : Int32)) X (by decide) dX7_laysCover_11 ?_
    refine j_ldc (v := (99999 : Int32)) X (tw (i := 933) (by decide +kernel)) dX7_laysCover_12 ?_
    refine jc_RX7_61 X ⟨Nat.le_of_ble_eq_true rfl, Nat.le_of_ble_eq_true rfl⟩ (Nat.le_of_ble_eq_true rfl) dX7_laysCover_14 h (fun r5 M4 h => ?_)
    refine j_if_eq X 38 dX7_laysCover_17 (by decide) (fun c6 => ?_) (fun c6 => ?_)
    · replace h := h.1 c6
      refine j_bipush (v := (-2 : Int32)) X (by decide) dX7_laysCover_38 ?_
      exact j_iret X Y dX7_laysCover_40 h
    · replace h := h.2 c6
      refine j_iload_n X 3 dX7_laysCover_20 rfl rfl ?_
      refine j_iconst (v := (0 : Int32)) X (by decide) dX7_laysCover_21 ?_
      refine j_ldc (v := (99999 : Int32)) X (tw (i := 933) (by decide +kernel)) dX7_laysCover_22 ?_
      refine jc_RX7_61 X ⟨Nat.le_of_ble_eq_true rfl, Nat.le_of_ble_eq_true rfl⟩ (Nat.le_of_ble_eq_true rfl) dX7_laysCover_24 h (fun r8 M7 h => ?_)
      refine j_if_eq X 38 dX7_laysCover_27 (by decide) (fun c9 => ?_) (fun c9 => ?_)
      · replace h := h.1 c9
        refine j_bipush (v := (-2 : Int32)) X (by decide) dX7_laysCover_38 ?_
        exact j_iret X Y dX7_laysCover_40 h
      · replace h := h.2 c9
        refine j_iload X 4 dX7_laysCover_30 rfl ?_
        refine jc_RX7_66 X ⟨Nat.le_of_ble_eq_true rfl, Nat.le_of_ble_eq_true rfl⟩ (Nat.le_of_ble_eq_true rfl) dX7_laysCover_32 h (fun r11 M10 h => ?_)
        refine j_if_ne X 41 dX7_laysCover_35 (by decide) (fun c12 => ?_) (fun c12 => ?_)
        · replace h := h.1 c12
          refine j_aload_n X 0 dX7_laysCover_41 rfl rfl ?_
          refine jf_RX7_9 X  dX7_laysCover_42 ?_
          refine j_iconst (v := (0 : Int32)) X (by decide) dX7_laysCover_45 ?_
          refine j_iald X 0 (by decide) (mw160 0 (by decide)) kt160 lt160 (vpc (by decide)) dX7_laysCover_46 ?_
          refine j_bipush (v := (6 : Int32)) X (by decide) dX7_laysCover_47 ?_
          refine j_icmp_ne X 55 dX7_laysCover_49 (by decide) (fun c13 => ?_) (fun c13 => ?_)
          · replace h := h.1 c13
            refine j_aload_n X 0 dX7_laysCover_55 rfl rfl ?_
            refine j_bipush (v := (8 : Int32)) X (by decide) dX7_laysCover_56 ?_
            refine j_iconst (v := (0 : Int32)) X (by decide) dX7_laysCover_58 ?_
            refine j_iload_n X 1 dX7_laysCover_59 rfl rfl ?_
            refine j_iload_n X 2 dX7_laysCover_60 rfl rfl ?_
            refine j_iload_n X 3 dX7_laysCover_61 rfl rfl ?_
            refine j_iload X 4 dX7_laysCover_62 rfl ?_
            refine jc_RX7_70 X ⟨Nat.le_of_ble_eq_true rfl, Nat.le_of_ble_eq_true rfl⟩ (Nat.le_of_ble_eq_true rfl) dX7_laysCover_64 h (fun r15 M14 h => ?_)
            exact j_iret X Y dX7_laysCover_67 h
          · replace h := h.2 c13
            refine j_bipush (v := (-3 : Int32)) X (by decide) dX7_laysCover_52 ?_
            exact j_iret X Y dX7_laysCover_54 h
        · replace h := h.2 c12
          refine j_bipush (v := (-2 : Int32)) X (by decide) dX7_laysCover_38 ?_
          exact j_iret X Y dX7_laysCover_40 h
theorem jc_RX7_86 {G : GT} {E : ET} {cc : ByteArray} {nL pc : Nat} {rm : Room} {lv : List (Nat × Value)} {st : List Value} {M : Mm} (X : CX G E RX7 cc nL rm) (hR : 2 + 1 ≤ rm.frames ∧ 8 + (5 + 11) + 42 ≤ rm.locals) (hst : (st.map fun v => v.category).sum ≤ 8) (d : decode cc pc = .ok (.invokevirtual 86, 3)) {a1 : Int32} {a2 : Int32} {a3 : Int32} {a4 : Int32} {P : Int32 → Mm → Prop} (h : wp_X7_laysCover a1 a2 a3 a4 M P) (k1 : ∀ (r : Int32) (M2 : Mm), P r M2 → J G E nL (pc + 3) lv (.int r :: st) M2) : J G E nL pc lv (.int a4 :: .int a3 :: .int a2 :: .int a1 :: .ref (adr G 7 0) :: st) M := fun H locs ls hP hS hl => by
  have hK := X.2.2.2.2.2.1.1
  have hm := met_X7_laysCover (l := eL E) X.2.2.2.2.2.2.1 a1 a2 a3 a4 M P h
  have hR2 : 2 + 1 ≤ (eR E).frames ∧ 8 + (5 + 11) + 42 ≤ (eR E).locals := by rw [X.2.2.2.2.2.2.2.1]; exact hR
  have hC2 : eCells E + 0 ≤ (eR E).cells ∧ eSlots E + 0 ≤ (eR E).slots := by rw [X.2.2.2.2.2.2.2.1]; exact ⟨X.2.2.2.2.2.2.2.2.1, X.2.2.2.2.2.2.2.2.2⟩
  obtain ⟨q0, -, hq⟩ := wld_get (G := G) M (mw7 0 (by decide))
  exact va_calli (va_runV (C := RX7) (As := [.int a1, .int a2, .int a3, .int a4]) (rest := st) ⟨X.1, X.2.1, X.2.2.1, X.2.2.2.1, X.2.2.2.2.1⟩ hm (cwV (ws' := lw_aw) 4 X.2.2.2.2.1 (gwV (tw (i := 929) (by decide +kernel)) (tw (i := 931) (by decide +kernel)) (tw (i := 19) (by decide +kernel)) (tw (i := 78) (by decide +kernel)) (tw (i := 932) (by decide +kernel))) rfl rfl rfl (by decide +kernel) hR2) ⟨hr_blind, va_recv hK hP (ci := 7) (q := (RX7, TX7, 15)) (fs := objF7 G 0 (M.1 7 0)) (q0 := q0) rfl hq, fun U hU hW => ⟨rfl, by rw [hU]; exact hP, KK.warm hW X.2.2.2.2.2.1⟩⟩ rfl rfl hl.1 rfl (lv_room hst) d hC2) hS (fun q _ h => h) (fun q h => h) (fun r u t H1 locs1 ht hvm hw hB hz1 hk1 hS1 => k1 r u hw H1 locs1 ls (by rw [← ht]; exact hB.1) hS1 hl)
/-- LayeredClaimsModel.laysLayer(IIII)I -/
def wp_X7_laysLayer (a1 : Int32) (a2 : Int32) (a3 : Int32) (a4 : Int32) (M : Mm) (P : Int32 → Mm → Prop) : Prop := (wp_X7_in a1 (0 : Int32) (999999 : Int32) M (fun (r2 : Int32) (M1 : Mm) => ((r2 = 0 → P (-2 : Int32) M1) ∧ (¬ r2 = 0 → (wp_X7_in a2 (1 : Int32) (99999 : Int32) M1 (fun (r5 : Int32) (M4 : Mm) => ((r5 = 0 → P (-2 : Int32) M4) ∧ (¬ r5 = 0 → (wp_X7_in a3 (0 : Int32) (99999 : Int32) M4 (fun (r8 : Int32) (M7 : Mm) => ((r8 = 0 → P (-2 : Int32) M7) ∧ (¬ r8 = 0 → (wp_X7_in a4 (0 : Int32) (3 : Int32) M7 (fun (r11 : Int32) (M10 : Mm) => ((¬ r11 = 0 → (∀ x13 : Int32, x13 = (rd M10 160 0 1) → (jn (fun (z14 : Int32) => ((¬ x13 = (4 : Int32) → (wp_X7_puts (32 : Int32) (1 : Int32) a1 a2 a3 a4 M10 (fun (r19 : Int32) (M18 : Mm) => P r19 M18))) ∧ (x13 = (4 : Int32) → P (-3 : Int32) M10))) (fun J15 : Int32 → Prop => ((x13 ≤ 0 → J15 (0 : Int32)) ∧ (¬ x13 ≤ 0 → (vp_in (((32 : Int32) + ((4 : Int32) * x13)) - (4 : Int32)) 136 ∧ (vp_in (((32 : Int32) + ((4 : Int32) * x13)) - (3 : Int32)) 136 ∧ ((((rd M10 160 0 (((32 : Int32) + ((4 : Int32) * x13)) - (4 : Int32)).toNatClampNeg) + (rd M10 160 0 (((32 : Int32) + ((4 : Int32) * x13)) - (3 : Int32)).toNatClampNeg)) ≤ a1 → J15 (0 : Int32)) ∧ (¬ ((rd M10 160 0 (((32 : Int32) + ((4 : Int32) * x13)) - (4 : Int32)).toNatClampNeg) + (rd M10 160 0 (((32 : Int32) + ((4 : Int32) * x13)) - (3 : Int32)).toNatClampNeg)) ≤ a1 → P (-5 : Int32) M10)))))))))) ∧ (r11 = 0 → P (-2 : Int32) M10))))))))))))))))
set_option maxHeartbeats 4000000 in
set_option maxRecDepth 100000 in
theorem met_X7_laysLayer {l : Launch} {G : GT} (hG : GD G) (a1 : Int32) (a2 : Int32) (a3 : Int32) (a4 : Int32) (M : Mm) (P : Int32 → Mm → Prop) (h : wp_X7_laysLayer a1 a2 a3 a4 M P) : MI l G yX7_laysLayer cX7_laysLayer 6 (some .int) ({ frames := 1, cells := 0, slots := 0, locals := 27 } : Room) [.ref (adr G 7 0), .int a1, .int a2, .int a3, .int a4] M P := by
  refine met_by hG (own := RX7) rfl (by decide +kernel) (Nat.le_of_ble_eq_true rfl) (fun E hE X Y => ?_)
  show J G E 6 0 [(0, .ref (adr G 7 0)), (1, .int a1), (2, .int a2), (3, .int a3), (4, .int a4)] [] M
  unfold wp_X7_laysLayer at h
  refine j_iload_n X 1 dX7_laysLayer_0 rfl rfl ?_
  refine j_iconst (v := (0 : Int32)) X (by decide) dX7_laysLayer_1 ?_
  refine j_ldc (v := (999999 : Int32)) X (tw (i := 960) (by decide +kernel)) dX7_laysLayer_2 ?_
  refine jc_RX7_61 X ⟨Nat.le_of_ble_eq_true rfl, Nat.le_of_ble_eq_true rfl⟩ (Nat.le_of_ble_eq_true rfl) dX7_laysLayer_4 h (fun r2 M1 h => ?_)
  refine j_if_eq X 40 dX7_laysLayer_7 (by decide) (fun c3 => ?_) (fun c3 => ?_)
  · replace h := h.1 c3
    refine j_bipush (v := (-2 : Int32)) X (by decide) dX7_laysLayer_40 ?_
    exact j_iret X Y dX7_laysLayer_42 h
  · replace h := h.2 c3
    refine j_iload_n X 2 dX7_laysLayer_10 rfl rfl ?_
    refine j_iconst (v := (1 : Int32)) X (by decide) dX7_laysLayer_11 ?_
    refine j_ldc (v := (99999 : Int32)) X (tw (i := 933) (by decide +kernel)) dX7_laysLayer_12 ?_
    refine jc_RX7_61 X ⟨Nat.le_of_ble_eq_true rfl, Nat.le_of_ble_eq_true rfl⟩ (Nat.le_of_ble_eq_true rfl) dX7_laysLayer_14 h (fun r5 M4 h => ?_)
    refine j_if_eq X 40 dX7_laysLayer_17 (by decide) (fun c6 => ?_) (fun c6 => ?_)
    · replace h := h.1 c6
      refine j_bipush (v := (-2 : Int32)) X (by decide) dX7_laysLayer_40 ?_
      exact j_iret X Y dX7_laysLayer_42 h
    · replace h := h.2 c6
      refine j_iload_n X 3 dX7_laysLayer_20 rfl rfl ?_
      refine j_iconst (v := (0 : Int32)) X (by decide) dX7_laysLayer_21 ?_
      refine j_ldc (v := (99999 : Int32)) X (tw (i := 933) (by decide +kernel)) dX7_laysLayer_22 ?_
      refine jc_RX7_61 X ⟨Nat.le_of_ble_eq_true rfl, Nat.le_of_ble_eq_true rfl⟩ (Nat.le_of_ble_eq_true rfl) dX7_laysLayer_24 h (fun r8 M7 h => ?_)
      refine j_if_eq X 40 dX7_laysLayer_27 (by decide) (fun c9 => ?_) (fun c9 => ?_)
      · replace h := h.1 c9
        refine j_bipush (v := (-2 : Int32)) X (by decide) dX7_laysLayer_40 ?_
        exact j_iret X Y dX7_laysLayer_42 h
      · replace h := h.2 c9
        refine j_iload X 4 dX7_laysLayer_30 rfl ?_
        refine j_iconst (v := (0 : Int32)) X (by decide) dX7_laysLayer_32 ?_
        refine j_iconst (v := (3 : Int32)) X (by decide) dX7_laysLayer_33 ?_
        refine jc_RX7_61 X ⟨Nat.le_of_ble_eq_true rfl, Nat.le_of_ble_eq_true rfl⟩ (Nat.le_of_ble_eq_true rfl) dX7_laysLayer_34 h (fun r11 M10 h => ?_)
        refine j_if_ne X 43 dX7_laysLayer_37 (by decide) (fun c12 => ?_) (fun c12 => ?_)
        · replace h := h.1 c12
          refine j_aload_n X 0 dX7_laysLayer_43 rfl rfl ?_
          refine jf_RX7_9 X  dX7_laysLayer_44 ?_
          refine j_iconst (v := (1 : Int32)) X (by decide) dX7_laysLayer_47 ?_
          refine j_iald X 1 (by decide) (mw160 0 (by decide)) kt160 lt160 (vpc (by decide)) dX7_laysLayer_48 ?_
          refine j_topi (fun x13 ex13 => ?_)
          replace h := h x13 ex13
          refine j_istore X [(5, .int x13), (0, .ref (adr G 7 0)), (1, .int a1), (2, .int a2), (3, .int a3), (4, .int a4)] dX7_laysLayer_49 (by decide) rfl ?_
          refine j_iload X 0 dX7_laysLayer_51 rfl ?_
          refine jn1_s h (fun (z14 : Int32) => J G E 6 92 [(0, .ref (adr G 7 0)), (1, .int a1), (2, .int a2), (3, .int a3), (4, .int a4), (5, .int x13)] [] M10) (fun z14 h => ?_) (fun J15 hj16 h => ?_)
          · refine j_iload X 5 dX7_laysLayer_92 rfl ?_
            refine j_iconst (v := (4 : Int32)) X (by decide) dX7_laysLayer_94 ?_
            refine j_icmp_ne X 103 dX7_laysLayer_95 (by decide) (fun c17 => ?_) (fun c17 => ?_)
            · replace h := h.1 c17
              refine j_aload_n X 0 dX7_laysLayer_103 rfl rfl ?_
              refine j_bipush (v := (32 : Int32)) X (by decide) dX7_laysLayer_104 ?_
              refine j_iconst (v := (1 : Int32)) X (by decide) dX7_laysLayer_106 ?_
              refine j_iload_n X 1 dX7_laysLayer_107 rfl rfl ?_
              refine j_iload_n X 2 dX7_laysLayer_108 rfl rfl ?_
              refine j_iload_n X 3 dX7_laysLayer_109 rfl rfl ?_
              refine j_iload X 4 dX7_laysLayer_110 rfl ?_
              refine jc_RX7_70 X ⟨Nat.le_of_ble_eq_true rfl, Nat.le_of_ble_eq_true rfl⟩ (Nat.le_of_ble_eq_true rfl) dX7_laysLayer_112 h (fun r19 M18 h => ?_)
              exact j_iret X Y dX7_laysLayer_115 h
            · replace h := h.2 c17
              refine j_bipush (v := (-3 : Int32)) X (by decide) dX7_laysLayer_98 ?_
              refine j_goto X 115 dX7_laysLayer_100 (by decide) ?_
              exact j_iret X Y dX7_laysLayer_115 h
          · refine j_if_le X 92 dX7_laysLayer_53 (by decide) (fun c20 => ?_) (fun c20 => ?_)
            · replace h := h.1 c20
              refine j_sub [1, 2, 3, 4, 5, 0] rfl ?_
              exact hj16 (0 : Int32) h
            · replace h := h.2 c20
              refine j_iload_n X 2 dX7_laysLayer_56 rfl rfl ?_
              refine j_aload_n X 1 dX7_laysLayer_57 rfl rfl ?_
              refine jf_RX7_9 X  dX7_laysLayer_58 ?_
              refine j_bipush (v := (32 : Int32)) X (by decide) dX7_laysLayer_61 ?_
              refine j_iconst (v := (4 : Int32)) X (by decide) dX7_laysLayer_63 ?_
              refine j_iload X 0 dX7_laysLayer_64 rfl ?_
              refine j_imul X dX7_laysLayer_66 ?_
              refine j_iadd X dX7_laysLayer_67 ?_
              refine j_iconst (v := (4 : Int32)) X (by decide) dX7_laysLayer_68 ?_
              refine j_isub X dX7_laysLayer_69 ?_
              have q21 := h.1
              replace h := h.2
              refine j_iald X _ rfl (mw160 0 (by decide)) kt160 lt160 q21 dX7_laysLayer_70 ?_
              refine j_aload_n X 1 dX7_laysLayer_71 rfl rfl ?_
              refine jf_RX7_9 X  dX7_laysLayer_72 ?_
              refine j_bipush (v := (32 : Int32)) X (by decide) dX7_laysLayer_75 ?_
              refine j_iconst (v := (4 : Int32)) X (by decide) dX7_laysLayer_77 ?_
              refine j_iload X 0 dX7_laysLayer_78 rfl ?_
              refine j_imul X dX7_laysLayer_80 ?_
              refine j_iadd X dX7_laysLayer_81 ?_
              refine j_iconst (v := (3 : Int32)) X (by decide) dX7_laysLayer_82 ?_
              refine j_isub X dX7_laysLayer_83 ?_
              have q22 := h.1
              replace h := h.2
              refine j_iald X _ rfl (mw160 0 (by decide)) kt160 lt160 q22 dX7_laysLayer_84 ?_
              refine j_iadd X dX7_laysLayer_85 ?_
              refine j_icmp_ge X 92 dX7_laysLayer_86 (by decide) (fun c23 => ?_) (fun c23 => ?_)
              · replace h := h.1 c23
                refine j_sub [1, 2, 3, 4, 5, 0] rfl ?_
                exact hj16 (0 : Int32) h
              · replace h := h.2 c23
                refine j_bipush (v := (-5 : Int32)) X (by decide) dX7_laysLayer_89 ?_
                exact j_iret X Y dX7_laysLayer_91 h
        · replace h := h.2 c12
          refine j_bipush (v := (-2 : Int32)) X (by decide) dX7_laysLayer_40 ?_
          exact j_iret X Y dX7_laysLayer_42 h
theorem jc_RX7_94 {G : GT} {E : ET} {cc : ByteArray} {nL pc : Nat} {rm : Room} {lv : List (Nat × Value)} {st : List Value} {M : Mm} (X : CX G E RX7 cc nL rm) (hR : 1 + 1 ≤ rm.frames ∧ 8 + (6 + 11) + 27 ≤ rm.locals) (hst : (st.map fun v => v.category).sum ≤ 8) (d : decode cc pc = .ok (.invokevirtual 94, 3)) {a1 : Int32} {a2 : Int32} {a3 : Int32} {a4 : Int32} {P : Int32 → Mm → Prop} (h : wp_X7_laysLayer a1 a2 a3 a4 M P) (k1 : ∀ (r : Int32) (M2 : Mm), P r M2 → J G E nL (pc + 3) lv (.int r :: st) M2) : J G E nL pc lv (.int a4 :: .int a3 :: .int a2 :: .int a1 :: .ref (adr G 7 0) :: st) M := fun H locs ls hP hS hl => by
  have hK := X.2.2.2.2.2.1.1
  have hm := met_X7_laysLayer (l := eL E) X.2.2.2.2.2.2.1 a1 a2 a3 a4 M P h
  have hR2 : 1 + 1 ≤ (eR E).frames ∧ 8 + (6 + 11) + 27 ≤ (eR E).locals := by rw [X.2.2.2.2.2.2.2.1]; exact hR
  have hC2 : eCells E + 0 ≤ (eR E).cells ∧ eSlots E + 0 ≤ (eR E).slots := by rw [X.2.2.2.2.2.2.2.1]; exact ⟨X.2.2.2.2.2.2.2.2.1, X.2.2.2.2.2.2.2.2.2⟩
  obtain ⟨q0, -, hq⟩ := wld_get (G := G) M (mw7 0 (by decide))
  exact va_calli (va_runV (C := RX7) (As := [.int a1, .int a2, .int a3, .int a4]) (rest := st) ⟨X.1, X.2.1, X.2.2.1, X.2.2.2.1, X.2.2.2.2.1⟩ hm (cwV (ws' := lw_aw) 4 X.2.2.2.2.1 (gwV (tw (i := 956) (by decide +kernel)) (tw (i := 958) (by decide +kernel)) (tw (i := 23) (by decide +kernel)) (tw (i := 78) (by decide +kernel)) (tw (i := 959) (by decide +kernel))) rfl rfl rfl (by decide +kernel) hR2) ⟨hr_blind, va_recv hK hP (ci := 7) (q := (RX7, TX7, 15)) (fs := objF7 G 0 (M.1 7 0)) (q0 := q0) rfl hq, fun U hU hW => ⟨rfl, by rw [hU]; exact hP, KK.warm hW X.2.2.2.2.2.1⟩⟩ rfl rfl hl.1 rfl (lv_room hst) d hC2) hS (fun q _ h => h) (fun q h => h) (fun r u t H1 locs1 ht hvm hw hB hz1 hk1 hS1 => k1 r u hw H1 locs1 ls (by rw [← ht]; exact hB.1) hS1 hl)
/-- LayeredClaimsModel.laysEvent(I)I -/
def wp_X7_laysEvent (a1 : Int32) (M : Mm) (P : Int32 → Mm → Prop) : Prop := (wp_X7_in a1 (0 : Int32) (364 : Int32) M (fun (r2 : Int32) (M1 : Mm) => ((¬ r2 = 0 → ((¬ (rd M1 160 0 2) = (8 : Int32) → (vp_in ((48 : Int32) + (rd M1 160 0 2)) 136 ∧ (∀ M6 : Mm, M6 = wr M1 160 0 ((48 : Int32) + (rd M1 160 0 2)).toNatClampNeg a1 → (vp_in ((56 : Int32) + (rd M6 160 0 2)) 136 ∧ (∀ M8 : Mm, M8 = wr M6 160 0 ((56 : Int32) + (rd M6 160 0 2)).toNatClampNeg (0 : Int32) → (∀ M9 : Mm, M9 = wr M8 160 0 2 ((rd M8 160 0 2) + (1 : Int32)) → P ((rd M9 160 0 2) - (1 : Int32)) M9)))))) ∧ ((rd M1 160 0 2) = (8 : Int32) → P (-3 : Int32) M1))) ∧ (r2 = 0 → P (-2 : Int32) M1))))
set_option maxHeartbeats 4000000 in
set_option maxRecDepth 100000 in
theorem met_X7_laysEvent {l : Launch} {G : GT} (hG : GD G) (a1 : Int32) (M : Mm) (P : Int32 → Mm → Prop) (h : wp_X7_laysEvent a1 M P) : MI l G yX7_laysEvent cX7_laysEvent 2 (some .int) ({ frames := 1, cells := 0, slots := 0, locals := 22 } : Room) [.ref (adr G 7 0), .int a1] M P := by
  refine met_by hG (own := RX7) rfl (by decide +kernel) (Nat.le_of_ble_eq_true rfl) (fun E hE X Y => ?_)
  show J G E 2 0 [(0, .ref (adr G 7 0)), (1, .int a1)] [] M
  unfold wp_X7_laysEvent at h
  refine j_iload_n X 1 dX7_laysEvent_0 rfl rfl ?_
  refine j_iconst (v := (0 : Int32)) X (by decide) dX7_laysEvent_1 ?_
  refine j_sipush (v := (364 : Int32)) X (by decide) dX7_laysEvent_2 ?_
  refine jc_RX7_61 X ⟨Nat.le_of_ble_eq_true rfl, Nat.le_of_ble_eq_true rfl⟩ (Nat.le_of_ble_eq_true rfl) dX7_laysEvent_5 h (fun r2 M1 h => ?_)
  refine j_if_ne X 14 dX7_laysEvent_8 (by decide) (fun c3 => ?_) (fun c3 => ?_)
  · replace h := h.1 c3
    refine j_aload_n X 0 dX7_laysEvent_14 rfl rfl ?_
    refine jf_RX7_9 X  dX7_laysEvent_15 ?_
    refine j_iconst (v := (2 : Int32)) X (by decide) dX7_laysEvent_18 ?_
    refine j_iald X 2 (by decide) (mw160 0 (by decide)) kt160 lt160 (vpc (by decide)) dX7_laysEvent_19 ?_
    refine j_bipush (v := (8 : Int32)) X (by decide) dX7_laysEvent_20 ?_
    refine j_icmp_ne X 28 dX7_laysEvent_22 (by decide) (fun c4 => ?_) (fun c4 => ?_)
    · replace h := h.1 c4
      refine j_aload_n X 0 dX7_laysEvent_28 rfl rfl ?_
      refine jf_RX7_9 X  dX7_laysEvent_29 ?_
      refine j_bipush (v := (48 : Int32)) X (by decide) dX7_laysEvent_32 ?_
      refine j_aload_n X 0 dX7_laysEvent_34 rfl rfl ?_
      refine jf_RX7_9 X  dX7_laysEvent_35 ?_
      refine j_iconst (v := (2 : Int32)) X (by decide) dX7_laysEvent_38 ?_
      refine j_iald X 2 (by decide) (mw160 0 (by decide)) kt160 lt160 (vpc (by decide)) dX7_laysEvent_39 ?_
      refine j_iadd X dX7_laysEvent_40 ?_
      refine j_iload_n X 1 dX7_laysEvent_41 rfl rfl ?_
      have q5 := h.1
      replace h := h.2
      refine j_iast X _ rfl (mw160 0 (by decide)) kt160 lt160 q5 dX7_laysEvent_42 ?_
      refine j_memo (fun M6 eM6 => ?_)
      replace h := h M6 eM6
      refine j_aload_n X 0 dX7_laysEvent_43 rfl rfl ?_
      refine jf_RX7_9 X  dX7_laysEvent_44 ?_
      refine j_bipush (v := (56 : Int32)) X (by decide) dX7_laysEvent_47 ?_
      refine j_aload_n X 0 dX7_laysEvent_49 rfl rfl ?_
      refine jf_RX7_9 X  dX7_laysEvent_50 ?_
      refine j_iconst (v := (2 : Int32)) X (by decide) dX7_laysEvent_53 ?_
      refine j_iald X 2 (by decide) (mw160 0 (by decide)) kt160 lt160 (vpc (by decide)) dX7_laysEvent_54 ?_
      refine j_iadd X dX7_laysEvent_55 ?_
      refine j_iconst (v := (0 : Int32)) X (by decide) dX7_laysEvent_56 ?_
      have q7 := h.1
      replace h := h.2
      refine j_iast X _ rfl (mw160 0 (by decide)) kt160 lt160 q7 dX7_laysEvent_57 ?_
      refine j_memo (fun M8 eM8 => ?_)
      replace h := h M8 eM8
      refine j_aload_n X 0 dX7_laysEvent_58 rfl rfl ?_
      refine jf_RX7_9 X  dX7_laysEvent_59 ?_
      refine j_iconst (v := (2 : Int32)) X (by decide) dX7_laysEvent_62 ?_
      refine j_dup2 X rfl rfl dX7_laysEvent_63 ?_
      refine j_iald X 2 (by decide) (mw160 0 (by decide)) kt160 lt160 (vpc (by decide)) dX7_laysEvent_64 ?_
      refine j_iconst (v := (1 : Int32)) X (by decide) dX7_laysEvent_65 ?_
      refine j_iadd X dX7_laysEvent_66 ?_
      refine j_iast X 2 (by decide) (mw160 0 (by decide)) kt160 lt160 (vpc (by decide)) dX7_laysEvent_67 ?_
      refine j_memo (fun M9 eM9 => ?_)
      replace h := h M9 eM9
      refine j_aload_n X 0 dX7_laysEvent_68 rfl rfl ?_
      refine jf_RX7_9 X  dX7_laysEvent_69 ?_
      refine j_iconst (v := (2 : Int32)) X (by decide) dX7_laysEvent_72 ?_
      refine j_iald X 2 (by decide) (mw160 0 (by decide)) kt160 lt160 (vpc (by decide)) dX7_laysEvent_73 ?_
      refine j_iconst (v := (1 : Int32)) X (by decide) dX7_laysEvent_74 ?_
      refine j_isub X dX7_laysEvent_75 ?_
      exact j_iret X Y dX7_laysEvent_76 h
    · replace h := h.2 c4
      refine j_bipush (v := (-3 : Int32)) X (by decide) dX7_laysEvent_25 ?_
      exact j_iret X Y dX7_laysEvent_27 h
  · replace h := h.2 c3
    refine j_bipush (v := (-2 : Int32)) X (by decide) dX7_laysEvent_11 ?_
    exact j_iret X Y dX7_laysEvent_13 h
theorem jc_RX7_97 {G : GT} {E : ET} {cc : ByteArray} {nL pc : Nat} {rm : Room} {lv : List (Nat × Value)} {st : List Value} {M : Mm} (X : CX G E RX7 cc nL rm) (hR : 1 + 1 ≤ rm.frames ∧ 8 + (2 + 11) + 22 ≤ rm.locals) (hst : (st.map fun v => v.category).sum ≤ 8) (d : decode cc pc = .ok (.invokevirtual 97, 3)) {a1 : Int32} {P : Int32 → Mm → Prop} (h : wp_X7_laysEvent a1 M P) (k1 : ∀ (r : Int32) (M2 : Mm), P r M2 → J G E nL (pc + 3) lv (.int r :: st) M2) : J G E nL pc lv (.int a1 :: .ref (adr G 7 0) :: st) M := fun H locs ls hP hS hl => by
  have hK := X.2.2.2.2.2.1.1
  have hm := met_X7_laysEvent (l := eL E) X.2.2.2.2.2.2.1 a1 M P h
  have hR2 : 1 + 1 ≤ (eR E).frames ∧ 8 + (2 + 11) + 22 ≤ (eR E).locals := by rw [X.2.2.2.2.2.2.2.1]; exact hR
  have hC2 : eCells E + 0 ≤ (eR E).cells ∧ eSlots E + 0 ≤ (eR E).slots := by rw [X.2.2.2.2.2.2.2.1]; exact ⟨X.2.2.2.2.2.2.2.2.1, X.2.2.2.2.2.2.2.2.2⟩
  obtain ⟨q0, -, hq⟩ := wld_get (G := G) M (mw7 0 (by decide))
  exact va_calli (va_runV (C := RX7) (As := [.int a1]) (rest := st) ⟨X.1, X.2.1, X.2.2.1, X.2.2.2.1, X.2.2.2.2.1⟩ hm (cwV (ws' := lw_aw) 1 X.2.2.2.2.1 (gwV (tw (i := 965) (by decide +kernel)) (tw (i := 967) (by decide +kernel)) (tw (i := 24) (by decide +kernel)) (tw (i := 78) (by decide +kernel)) (tw (i := 968) (by decide +kernel))) rfl rfl rfl (by decide +kernel) hR2) ⟨hr_blind, va_recv hK hP (ci := 7) (q := (RX7, TX7, 15)) (fs := objF7 G 0 (M.1 7 0)) (q0 := q0) rfl hq, fun U hU hW => ⟨rfl, by rw [hU]; exact hP, KK.warm hW X.2.2.2.2.2.1⟩⟩ rfl rfl hl.1 rfl (lv_room hst) d hC2) hS (fun q _ h => h) (fun q h => h) (fun r u t H1 locs1 ht hvm hw hB hz1 hk1 hS1 => k1 r u hw H1 locs1 ls (by rw [← ht]; exact hB.1) hS1 hl)
/-- LayeredClaimsModel.laysClaim(III)I -/
def wp_X7_laysClaim (a1 : Int32) (a2 : Int32) (a3 : Int32) (M : Mm) (P : Int32 → Mm → Prop) : Prop := (wp_X7_isEvent a1 M (fun (r2 : Int32) (M1 : Mm) => ((r2 = 0 → P (-1 : Int32) M1) ∧ (¬ r2 = 0 → (wp_X7_isCover a2 M1 (fun (r5 : Int32) (M4 : Mm) => ((¬ r5 = 0 → (wp_X7_in a3 (1 : Int32) (99999 : Int32) M4 (fun (r8 : Int32) (M7 : Mm) => ((¬ r8 = 0 → ((¬ (rd M7 160 0 3) = (24 : Int32) → (∀ x11 : Int32, x11 = ((64 : Int32) + ((3 : Int32) * (rd M7 160 0 3))) → (vp_in x11 136 ∧ (∀ M13 : Mm, M13 = wr M7 160 0 x11.toNatClampNeg a1 → (vp_in (x11 + (1 : Int32)) 136 ∧ (∀ M15 : Mm, M15 = wr M13 160 0 (x11 + (1 : Int32)).toNatClampNeg a2 → (vp_in (x11 + (2 : Int32)) 136 ∧ (∀ M17 : Mm, M17 = wr M15 160 0 (x11 + (2 : Int32)).toNatClampNeg a3 → (∀ M18 : Mm, M18 = wr M17 160 0 3 ((rd M17 160 0 3) + (1 : Int32)) → P ((rd M18 160 0 3) - (1 : Int32)) M18))))))))) ∧ ((rd M7 160 0 3) = (24 : Int32) → P (-3 : Int32) M7))) ∧ (r8 = 0 → P (-2 : Int32) M7))))) ∧ (r5 = 0 → P (-1 : Int32) M4))))))))
set_option maxHeartbeats 4000000 in
set_option maxRecDepth 100000 in
theorem met_X7_laysClaim {l : Launch} {G : GT} (hG : GD G) (a1 : Int32) (a2 : Int32) (a3 : Int32) (M : Mm) (P : Int32 → Mm → Prop) (h : wp_X7_laysClaim a1 a2 a3 M P) : MI l G yX7_laysClaim cX7_laysClaim 5 (some .int) ({ frames := 2, cells := 0, slots := 0, locals := 43 } : Room) [.ref (adr G 7 0), .int a1, .int a2, .int a3] M P := by
  refine met_by hG (own := RX7) rfl (by decide +kernel) (Nat.le_of_ble_eq_true rfl) (fun E hE X Y => ?_)
  show J G E 5 0 [(0, .ref (adr G 7 0)), (1, .int a1), (2, .int a2), (3, .int a3)] [] M
  unfold wp_X7_laysClaim at h
  refine j_aload_n X 0 dX7_laysClaim_0 rfl rfl ?_
  refine j_iload_n X 1 dX7_laysClaim_1 rfl rfl ?_
  refine jc_RX7_75 X ⟨Nat.le_of_ble_eq_true rfl, Nat.le_of_ble_eq_true rfl⟩ (Nat.le_of_ble_eq_true rfl) dX7_laysClaim_2 h (fun r2 M1 h => ?_)
  refine j_if_eq X 16 dX7_laysClaim_5 (by decide) (fun c3 => ?_) (fun c3 => ?_)
  · replace h := h.1 c3
    refine j_iconst (v := (-1 : Int32)) X (by decide) dX7_laysClaim_16 ?_
    exact j_iret X Y dX7_laysClaim_17 h
  · replace h := h.2 c3
    refine j_aload_n X 0 dX7_laysClaim_8 rfl rfl ?_
    refine j_iload_n X 2 dX7_laysClaim_9 rfl rfl ?_
    refine jc_RX7_78 X ⟨Nat.le_of_ble_eq_true rfl, Nat.le_of_ble_eq_true rfl⟩ (Nat.le_of_ble_eq_true rfl) dX7_laysClaim_10 h (fun r5 M4 h => ?_)
    refine j_if_ne X 18 dX7_laysClaim_13 (by decide) (fun c6 => ?_) (fun c6 => ?_)
    · replace h := h.1 c6
      refine j_iload_n X 3 dX7_laysClaim_18 rfl rfl ?_
      refine j_iconst (v := (1 : Int32)) X (by decide) dX7_laysClaim_19 ?_
      refine j_ldc (v := (99999 : Int32)) X (tw (i := 933) (by decide +kernel)) dX7_laysClaim_20 ?_
      refine jc_RX7_61 X ⟨Nat.le_of_ble_eq_true rfl, Nat.le_of_ble_eq_true rfl⟩ (Nat.le_of_ble_eq_true rfl) dX7_laysClaim_22 h (fun r8 M7 h => ?_)
      refine j_if_ne X 31 dX7_laysClaim_25 (by decide) (fun c9 => ?_) (fun c9 => ?_)
      · replace h := h.1 c9
        refine j_aload_n X 0 dX7_laysClaim_31 rfl rfl ?_
        refine jf_RX7_9 X  dX7_laysClaim_32 ?_
        refine j_iconst (v := (3 : Int32)) X (by decide) dX7_laysClaim_35 ?_
        refine j_iald X 3 (by decide) (mw160 0 (by decide)) kt160 lt160 (vpc (by decide)) dX7_laysClaim_36 ?_
        refine j_bipush (v := (24 : Int32)) X (by decide) dX7_laysClaim_37 ?_
        refine j_icmp_ne X 45 dX7_laysClaim_39 (by decide) (fun c10 => ?_) (fun c10 => ?_)
        · replace h := h.1 c10
          refine j_bipush (v := (64 : Int32)) X (by decide) dX7_laysClaim_45 ?_
          refine j_iconst (v := (3 : Int32)) X (by decide) dX7_laysClaim_47 ?_
          refine j_aload_n X 0 dX7_laysClaim_48 rfl rfl ?_
          refine jf_RX7_9 X  dX7_laysClaim_49 ?_
          refine j_iconst (v := (3 : Int32)) X (by decide) dX7_laysClaim_52 ?_
          refine j_iald X 3 (by decide) (mw160 0 (by decide)) kt160 lt160 (vpc (by decide)) dX7_laysClaim_53 ?_
          refine j_imul X dX7_laysClaim_54 ?_
          refine j_iadd X dX7_laysClaim_55 ?_
          refine j_topi (fun x11 ex11 => ?_)
          replace h := h x11 ex11
          refine j_istore X [(4, .int x11), (0, .ref (adr G 7 0)), (1, .int a1), (2, .int a2), (3, .int a3)] dX7_laysClaim_56 (by decide) rfl ?_
          refine j_aload_n X 1 dX7_laysClaim_58 rfl rfl ?_
          refine jf_RX7_9 X  dX7_laysClaim_59 ?_
          refine j_iload X 0 dX7_laysClaim_62 rfl ?_
          refine j_iload_n X 2 dX7_laysClaim_64 rfl rfl ?_
          have q12 := h.1
          replace h := h.2
          refine j_iast X _ rfl (mw160 0 (by decide)) kt160 lt160 q12 dX7_laysClaim_65 ?_
          refine j_memo (fun M13 eM13 => ?_)
          replace h := h M13 eM13
          refine j_aload_n X 1 dX7_laysClaim_66 rfl rfl ?_
          refine jf_RX7_9 X  dX7_laysClaim_67 ?_
          refine j_iload X 0 dX7_laysClaim_70 rfl ?_
          refine j_iconst (v := (1 : Int32)) X (by decide) dX7_laysClaim_72 ?_
          refine j_iadd X dX7_laysClaim_73 ?_
          refine j_iload_n X 3 dX7_laysClaim_74 rfl rfl ?_
          have q14 := h.1
          replace h := h.2
          refine j_iast X _ rfl (mw160 0 (by decide)) kt160 lt160 q14 dX7_laysClaim_75 ?_
          refine j_memo (fun M15 eM15 => ?_)
          replace h := h M15 eM15
          refine j_aload_n X 1 dX7_laysClaim_76 rfl rfl ?_
          refine jf_RX7_9 X  dX7_laysClaim_77 ?_
          refine j_iload X 0 dX7_laysClaim_80 rfl ?_
          refine j_iconst (v := (2 : Int32)) X (by decide) dX7_laysClaim_82 ?_
          refine j_iadd X dX7_laysClaim_83 ?_
          refine j_iload_n X 4 dX7_laysClaim_84 rfl rfl ?_
          have q16 := h.1
          replace h := h.2
          refine j_iast X _ rfl (mw160 0 (by decide)) kt160 lt160 q16 dX7_laysClaim_85 ?_
          refine j_memo (fun M17 eM17 => ?_)
          replace h := h M17 eM17
          refine j_aload_n X 1 dX7_laysClaim_86 rfl rfl ?_
          refine jf_RX7_9 X  dX7_laysClaim_87 ?_
          refine j_iconst (v := (3 : Int32)) X (by decide) dX7_laysClaim_90 ?_
          refine j_dup2 X rfl rfl dX7_laysClaim_91 ?_
          refine j_iald X 3 (by decide) (mw160 0 (by decide)) kt160 lt160 (vpc (by decide)) dX7_laysClaim_92 ?_
          refine j_iconst (v := (1 : Int32)) X (by decide) dX7_laysClaim_93 ?_
          refine j_iadd X dX7_laysClaim_94 ?_
          refine j_iast X 3 (by decide) (mw160 0 (by decide)) kt160 lt160 (vpc (by decide)) dX7_laysClaim_95 ?_
          refine j_memo (fun M18 eM18 => ?_)
          replace h := h M18 eM18
          refine j_aload_n X 1 dX7_laysClaim_96 rfl rfl ?_
          refine jf_RX7_9 X  dX7_laysClaim_97 ?_
          refine j_iconst (v := (3 : Int32)) X (by decide) dX7_laysClaim_100 ?_
          refine j_iald X 3 (by decide) (mw160 0 (by decide)) kt160 lt160 (vpc (by decide)) dX7_laysClaim_101 ?_
          refine j_iconst (v := (1 : Int32)) X (by decide) dX7_laysClaim_102 ?_
          refine j_isub X dX7_laysClaim_103 ?_
          exact j_iret X Y dX7_laysClaim_104 h
        · replace h := h.2 c10
          refine j_bipush (v := (-3 : Int32)) X (by decide) dX7_laysClaim_42 ?_
          exact j_iret X Y dX7_laysClaim_44 h
      · replace h := h.2 c9
        refine j_bipush (v := (-2 : Int32)) X (by decide) dX7_laysClaim_28 ?_
        exact j_iret X Y dX7_laysClaim_30 h
    · replace h := h.2 c6
      refine j_iconst (v := (-1 : Int32)) X (by decide) dX7_laysClaim_16 ?_
      exact j_iret X Y dX7_laysClaim_17 h
theorem jc_RX7_100 {G : GT} {E : ET} {cc : ByteArray} {nL pc : Nat} {rm : Room} {lv : List (Nat × Value)} {st : List Value} {M : Mm} (X : CX G E RX7 cc nL rm) (hR : 2 + 1 ≤ rm.frames ∧ 8 + (5 + 11) + 43 ≤ rm.locals) (hst : (st.map fun v => v.category).sum ≤ 8) (d : decode cc pc = .ok (.invokevirtual 100, 3)) {a1 : Int32} {a2 : Int32} {a3 : Int32} {P : Int32 → Mm → Prop} (h : wp_X7_laysClaim a1 a2 a3 M P) (k1 : ∀ (r : Int32) (M2 : Mm), P r M2 → J G E nL (pc + 3) lv (.int r :: st) M2) : J G E nL pc lv (.int a3 :: .int a2 :: .int a1 :: .ref (adr G 7 0) :: st) M := fun H locs ls hP hS hl => by
  have hK := X.2.2.2.2.2.1.1
  have hm := met_X7_laysClaim (l := eL E) X.2.2.2.2.2.2.1 a1 a2 a3 M P h
  have hR2 : 2 + 1 ≤ (eR E).frames ∧ 8 + (5 + 11) + 43 ≤ (eR E).locals := by rw [X.2.2.2.2.2.2.2.1]; exact hR
  have hC2 : eCells E + 0 ≤ (eR E).cells ∧ eSlots E + 0 ≤ (eR E).slots := by rw [X.2.2.2.2.2.2.2.1]; exact ⟨X.2.2.2.2.2.2.2.2.1, X.2.2.2.2.2.2.2.2.2⟩
  obtain ⟨q0, -, hq⟩ := wld_get (G := G) M (mw7 0 (by decide))
  exact va_calli (va_runV (C := RX7) (As := [.int a1, .int a2, .int a3]) (rest := st) ⟨X.1, X.2.1, X.2.2.1, X.2.2.2.1, X.2.2.2.2.1⟩ hm (cwV (ws' := lw_aw) 3 X.2.2.2.2.1 (gwV (tw (i := 973) (by decide +kernel)) (tw (i := 975) (by decide +kernel)) (tw (i := 25) (by decide +kernel)) (tw (i := 78) (by decide +kernel)) (tw (i := 976) (by decide +kernel))) rfl rfl rfl (by decide +kernel) hR2) ⟨hr_blind, va_recv hK hP (ci := 7) (q := (RX7, TX7, 15)) (fs := objF7 G 0 (M.1 7 0)) (q0 := q0) rfl hq, fun U hU hW => ⟨rfl, by rw [hU]; exact hP, KK.warm hW X.2.2.2.2.2.1⟩⟩ rfl rfl hl.1 rfl (lv_room hst) d hC2) hS (fun q _ h => h) (fun q h => h) (fun r u t H1 locs1 ht hvm hw hB hz1 hk1 hS1 => k1 r u hw H1 locs1 ls (by rw [← ht]; exact hB.1) hS1 hl)
/-- LayeredClaimsModel.laysRecovery(II)I -/
def wp_X7_laysRecovery (a1 : Int32) (a2 : Int32) (M : Mm) (P : Int32 → Mm → Prop) : Prop := (wp_X7_isEvent a1 M (fun (r2 : Int32) (M1 : Mm) => ((¬ r2 = 0 → (wp_X7_in a2 (0 : Int32) (999999 : Int32) M1 (fun (r5 : Int32) (M4 : Mm) => ((¬ r5 = 0 → (vp_in ((56 : Int32) + a1) 136 ∧ (∀ x8 : Int32, x8 = (rd M4 160 0 ((56 : Int32) + a1).toNatClampNeg) → (∀ M9 : Mm, M9 = wr M4 160 0 ((56 : Int32) + a1).toNatClampNeg a2 → P x8 M9)))) ∧ (r5 = 0 → P (-2 : Int32) M4))))) ∧ (r2 = 0 → P (-1 : Int32) M1))))
set_option maxHeartbeats 4000000 in
set_option maxRecDepth 100000 in
theorem met_X7_laysRecovery {l : Launch} {G : GT} (hG : GD G) (a1 : Int32) (a2 : Int32) (M : Mm) (P : Int32 → Mm → Prop) (h : wp_X7_laysRecovery a1 a2 M P) : MI l G yX7_laysRecovery cX7_laysRecovery 4 (some .int) ({ frames := 2, cells := 0, slots := 0, locals := 43 } : Room) [.ref (adr G 7 0), .int a1, .int a2] M P := by
  refine met_by hG (own := RX7) rfl (by decide +kernel) (Nat.le_of_ble_eq_true rfl) (fun E hE X Y => ?_)
  show J G E 4 0 [(0, .ref (adr G 7 0)), (1, .int a1), (2, .int a2)] [] M
  unfold wp_X7_laysRecovery at h
  refine j_aload_n X 0 dX7_laysRecovery_0 rfl rfl ?_
  refine j_iload_n X 1 dX7_laysRecovery_1 rfl rfl ?_
  refine jc_RX7_75 X ⟨Nat.le_of_ble_eq_true rfl, Nat.le_of_ble_eq_true rfl⟩ (Nat.le_of_ble_eq_true rfl) dX7_laysRecovery_2 h (fun r2 M1 h => ?_)
  refine j_if_ne X 10 dX7_laysRecovery_5 (by decide) (fun c3 => ?_) (fun c3 => ?_)
  · replace h := h.1 c3
    refine j_iload_n X 2 dX7_laysRecovery_10 rfl rfl ?_
    refine j_iconst (v := (0 : Int32)) X (by decide) dX7_laysRecovery_11 ?_
    refine j_ldc (v := (999999 : Int32)) X (tw (i := 960) (by decide +kernel)) dX7_laysRecovery_12 ?_
    refine jc_RX7_61 X ⟨Nat.le_of_ble_eq_true rfl, Nat.le_of_ble_eq_true rfl⟩ (Nat.le_of_ble_eq_true rfl) dX7_laysRecovery_14 h (fun r5 M4 h => ?_)
    refine j_if_ne X 23 dX7_laysRecovery_17 (by decide) (fun c6 => ?_) (fun c6 => ?_)
    · replace h := h.1 c6
      refine j_aload_n X 0 dX7_laysRecovery_23 rfl rfl ?_
      refine jf_RX7_9 X  dX7_laysRecovery_24 ?_
      refine j_bipush (v := (56 : Int32)) X (by decide) dX7_laysRecovery_27 ?_
      refine j_iload_n X 1 dX7_laysRecovery_29 rfl rfl ?_
      refine j_iadd X dX7_laysRecovery_30 ?_
      have q7 := h.1
      replace h := h.2
      refine j_iald X _ rfl (mw160 0 (by decide)) kt160 lt160 q7 dX7_laysRecovery_31 ?_
      refine j_topi (fun x8 ex8 => ?_)
      replace h := h x8 ex8
      refine j_istore_n X [(3, .int x8), (0, .ref (adr G 7 0)), (1, .int a1), (2, .int a2)] dX7_laysRecovery_32 rfl (by decide) rfl ?_
      refine j_aload_n X 1 dX7_laysRecovery_33 rfl rfl ?_
      refine jf_RX7_9 X  dX7_laysRecovery_34 ?_
      refine j_bipush (v := (56 : Int32)) X (by decide) dX7_laysRecovery_37 ?_
      refine j_iload_n X 2 dX7_laysRecovery_39 rfl rfl ?_
      refine j_iadd X dX7_laysRecovery_40 ?_
      refine j_iload_n X 3 dX7_laysRecovery_41 rfl rfl ?_
      refine j_iast X _ rfl (mw160 0 (by decide)) kt160 lt160 q7 dX7_laysRecovery_42 ?_
      refine j_memo (fun M9 eM9 => ?_)
      replace h := h M9 eM9
      refine j_iload_n X 0 dX7_laysRecovery_43 rfl rfl ?_
      exact j_iret X Y dX7_laysRecovery_44 h
    · replace h := h.2 c6
      refine j_bipush (v := (-2 : Int32)) X (by decide) dX7_laysRecovery_20 ?_
      exact j_iret X Y dX7_laysRecovery_22 h
  · replace h := h.2 c3
    refine j_iconst (v := (-1 : Int32)) X (by decide) dX7_laysRecovery_8 ?_
    exact j_iret X Y dX7_laysRecovery_9 h
theorem jc_RX7_107 {G : GT} {E : ET} {cc : ByteArray} {nL pc : Nat} {rm : Room} {lv : List (Nat × Value)} {st : List Value} {M : Mm} (X : CX G E RX7 cc nL rm) (hR : 2 + 1 ≤ rm.frames ∧ 8 + (4 + 11) + 43 ≤ rm.locals) (hst : (st.map fun v => v.category).sum ≤ 8) (d : decode cc pc = .ok (.invokevirtual 107, 3)) {a1 : Int32} {a2 : Int32} {P : Int32 → Mm → Prop} (h : wp_X7_laysRecovery a1 a2 M P) (k1 : ∀ (r : Int32) (M2 : Mm), P r M2 → J G E nL (pc + 3) lv (.int r :: st) M2) : J G E nL pc lv (.int a2 :: .int a1 :: .ref (adr G 7 0) :: st) M := fun H locs ls hP hS hl => by
  have hK := X.2.2.2.2.2.1.1
  have hm := met_X7_laysRecovery (l := eL E) X.2.2.2.2.2.2.1 a1 a2 M P h
  have hR2 : 2 + 1 ≤ (eR E).frames ∧ 8 + (4 + 11) + 43 ≤ (eR E).locals := by rw [X.2.2.2.2.2.2.2.1]; exact hR
  have hC2 : eCells E + 0 ≤ (eR E).cells ∧ eSlots E + 0 ≤ (eR E).slots := by rw [X.2.2.2.2.2.2.2.1]; exact ⟨X.2.2.2.2.2.2.2.2.1, X.2.2.2.2.2.2.2.2.2⟩
  obtain ⟨q0, -, hq⟩ := wld_get (G := G) M (mw7 0 (by decide))
  exact va_calli (va_runV (C := RX7) (As := [.int a1, .int a2]) (rest := st) ⟨X.1, X.2.1, X.2.2.1, X.2.2.2.1, X.2.2.2.2.1⟩ hm (cwV (ws' := lw_aw) 2 X.2.2.2.2.1 (gwV (tw (i := 1009) (by decide +kernel)) (tw (i := 1011) (by decide +kernel)) (tw (i := 29) (by decide +kernel)) (tw (i := 78) (by decide +kernel)) (tw (i := 1012) (by decide +kernel))) rfl rfl rfl (by decide +kernel) hR2) ⟨hr_blind, va_recv hK hP (ci := 7) (q := (RX7, TX7, 15)) (fs := objF7 G 0 (M.1 7 0)) (q0 := q0) rfl hq, fun U hU hW => ⟨rfl, by rw [hU]; exact hP, KK.warm hW X.2.2.2.2.2.1⟩⟩ rfl rfl hl.1 rfl (lv_room hst) d hC2) hS (fun q _ h => h) (fun q h => h) (fun r u t H1 locs1 ht hvm hw hB hz1 hk1 hS1 => k1 r u hw H1 locs1 ls (by rw [← ht]; exact hB.1) hS1 hl)
/-- LayeredClaimsModel.made(I)I -/
def wp_X7_made (a1 : Int32) (M : Mm) (P : Int32 → Mm → Prop) : Prop := (jn (fun  (M1 : Mm) => P a1 M1) (fun J2 : Mm → Prop => ((a1 < 0 → J2 M) ∧ (¬ a1 < 0 → (wp_X7_changes  M (fun (M5 : Mm) => J2 M5))))))
set_option maxHeartbeats 4000000 in
set_option maxRecDepth 100000 in
theorem met_X7_made {l : Launch} {G : GT} (hG : GD G) (a1 : Int32) (M : Mm) (P : Int32 → Mm → Prop) (h : wp_X7_made a1 M P) : MI l G yX7_made cX7_made 2 (some .int) ({ frames := 2, cells := 0, slots := 0, locals := 45 } : Room) [.ref (adr G 7 0), .int a1] M P := by
  refine met_by hG (own := RX7) rfl (by decide +kernel) (Nat.le_of_ble_eq_true rfl) (fun E hE X Y => ?_)
  show J G E 2 0 [(0, .ref (adr G 7 0)), (1, .int a1)] [] M
  unfold wp_X7_made at h
  refine j_iload_n X 1 dX7_made_0 rfl rfl ?_
  refine jn1_s h (fun  (M1 : Mm) => J G E 2 8 [(1, .int a1)] [] M1) (fun M1 h => ?_) (fun J2 hj3 h => ?_)
  · refine j_iload_n X 0 dX7_made_8 rfl rfl ?_
    exact j_iret X Y dX7_made_9 h
  · refine j_if_lt X 8 dX7_made_1 (by decide) (fun c4 => ?_) (fun c4 => ?_)
    · replace h := h.1 c4
      refine j_sub [1] rfl ?_
      exact hj3 M h
    · replace h := h.2 c4
      refine j_aload_n X 0 dX7_made_4 rfl rfl ?_
      refine jc_RX7_81 X ⟨Nat.le_of_ble_eq_true rfl, Nat.le_of_ble_eq_true rfl⟩ (Nat.le_of_ble_eq_true rfl) dX7_made_5 h (fun M5 h => ?_)
      refine j_sub [1] rfl ?_
      exact hj3 M5 h
theorem jc_RX7_90 {G : GT} {E : ET} {cc : ByteArray} {nL pc : Nat} {rm : Room} {lv : List (Nat × Value)} {st : List Value} {M : Mm} (X : CX G E RX7 cc nL rm) (hR : 2 + 1 ≤ rm.frames ∧ 8 + (2 + 11) + 45 ≤ rm.locals) (hst : (st.map fun v => v.category).sum ≤ 8) (d : decode cc pc = .ok (.invokevirtual 90, 3)) {a1 : Int32} {P : Int32 → Mm → Prop} (h : wp_X7_made a1 M P) (k1 : ∀ (r : Int32) (M2 : Mm), P r M2 → J G E nL (pc + 3) lv (.int r :: st) M2) : J G E nL pc lv (.int a1 :: .ref (adr G 7 0) :: st) M := fun H locs ls hP hS hl => by
  have hK := X.2.2.2.2.2.1.1
  have hm := met_X7_made (l := eL E) X.2.2.2.2.2.2.1 a1 M P h
  have hR2 : 2 + 1 ≤ (eR E).frames ∧ 8 + (2 + 11) + 45 ≤ (eR E).locals := by rw [X.2.2.2.2.2.2.2.1]; exact hR
  have hC2 : eCells E + 0 ≤ (eR E).cells ∧ eSlots E + 0 ≤ (eR E).slots := by rw [X.2.2.2.2.2.2.2.1]; exact ⟨X.2.2.2.2.2.2.2.2.1, X.2.2.2.2.2.2.2.2.2⟩
  obtain ⟨q0, -, hq⟩ := wld_get (G := G) M (mw7 0 (by decide))
  exact va_calli (va_runV (C := RX7) (As := [.int a1]) (rest := st) ⟨X.1, X.2.1, X.2.2.1, X.2.2.2.1, X.2.2.2.2.1⟩ hm (cwV (ws' := lw_aw) 1 X.2.2.2.2.1 (gwV (tw (i := 944) (by decide +kernel)) (tw (i := 946) (by decide +kernel)) (tw (i := 21) (by decide +kernel)) (tw (i := 78) (by decide +kernel)) (tw (i := 947) (by decide +kernel))) rfl rfl rfl (by decide +kernel) hR2) ⟨hr_blind, va_recv hK hP (ci := 7) (q := (RX7, TX7, 15)) (fs := objF7 G 0 (M.1 7 0)) (q0 := q0) rfl hq, fun U hU hW => ⟨rfl, by rw [hU]; exact hP, KK.warm hW X.2.2.2.2.2.1⟩⟩ rfl rfl hl.1 rfl (lv_room hst) d hC2) hS (fun q _ h => h) (fun q h => h) (fun r u t H1 locs1 ht hvm hw hB hz1 hk1 hS1 => k1 r u hw H1 locs1 ls (by rw [← ht]; exact hB.1) hS1 hl)
/-- LayeredClaimsModel.addCover(IIII)I -/
def wp_X7_addCover (a1 : Int32) (a2 : Int32) (a3 : Int32) (a4 : Int32) (M : Mm) (P : Int32 → Mm → Prop) : Prop := (wp_X7_keeps  M (fun (M1 : Mm) => (wp_X7_laysCover a1 a2 a3 a4 M1 (fun (r3 : Int32) (M2 : Mm) => (wp_X7_made r3 M2 (fun (r5 : Int32) (M4 : Mm) => P r5 M4))))))
set_option maxHeartbeats 4000000 in
set_option maxRecDepth 100000 in
theorem met_X7_addCover {l : Launch} {G : GT} (hG : GD G) (a1 : Int32) (a2 : Int32) (a3 : Int32) (a4 : Int32) (M : Mm) (P : Int32 → Mm → Prop) (h : wp_X7_addCover a1 a2 a3 a4 M P) : MI l G yX7_addCover cX7_addCover 5 (some .int) ({ frames := 3, cells := 0, slots := 0, locals := 66 } : Room) [.ref (adr G 7 0), .int a1, .int a2, .int a3, .int a4] M P := by
  refine met_by hG (own := RX7) rfl (by decide +kernel) (Nat.le_of_ble_eq_true rfl) (fun E hE X Y => ?_)
  show J G E 5 0 [(0, .ref (adr G 7 0)), (1, .int a1), (2, .int a2), (3, .int a3), (4, .int a4)] [] M
  unfold wp_X7_addCover at h
  refine j_aload_n X 0 dX7_addCover_0 rfl rfl ?_
  refine jc_RX7_83 X ⟨Nat.le_of_ble_eq_true rfl, Nat.le_of_ble_eq_true rfl⟩ (Nat.le_of_ble_eq_true rfl) dX7_addCover_1 h (fun M1 h => ?_)
  refine j_aload_n X 0 dX7_addCover_4 rfl rfl ?_
  refine j_aload_n X 0 dX7_addCover_5 rfl rfl ?_
  refine j_iload_n X 1 dX7_addCover_6 rfl rfl ?_
  refine j_iload_n X 2 dX7_addCover_7 rfl rfl ?_
  refine j_iload_n X 3 dX7_addCover_8 rfl rfl ?_
  refine j_iload X 4 dX7_addCover_9 rfl ?_
  refine jc_RX7_86 X ⟨Nat.le_of_ble_eq_true rfl, Nat.le_of_ble_eq_true rfl⟩ (Nat.le_of_ble_eq_true rfl) dX7_addCover_11 h (fun r3 M2 h => ?_)
  refine jc_RX7_90 X ⟨Nat.le_of_ble_eq_true rfl, Nat.le_of_ble_eq_true rfl⟩ (Nat.le_of_ble_eq_true rfl) dX7_addCover_14 h (fun r5 M4 h => ?_)
  exact j_iret X Y dX7_addCover_17 h
/-- LayeredClaimsModel.addLayer(IIII)I -/
def wp_X7_addLayer (a1 : Int32) (a2 : Int32) (a3 : Int32) (a4 : Int32) (M : Mm) (P : Int32 → Mm → Prop) : Prop := (wp_X7_keeps  M (fun (M1 : Mm) => (wp_X7_laysLayer a1 a2 a3 a4 M1 (fun (r3 : Int32) (M2 : Mm) => (wp_X7_made r3 M2 (fun (r5 : Int32) (M4 : Mm) => P r5 M4))))))
set_option maxHeartbeats 4000000 in
set_option maxRecDepth 100000 in
theorem met_X7_addLayer {l : Launch} {G : GT} (hG : GD G) (a1 : Int32) (a2 : Int32) (a3 : Int32) (a4 : Int32) (M : Mm) (P : Int32 → Mm → Prop) (h : wp_X7_addLayer a1 a2 a3 a4 M P) : MI l G yX7_addLayer cX7_addLayer 5 (some .int) ({ frames := 3, cells := 0, slots := 0, locals := 66 } : Room) [.ref (adr G 7 0), .int a1, .int a2, .int a3, .int a4] M P := by
  refine met_by hG (own := RX7) rfl (by decide +kernel) (Nat.le_of_ble_eq_true rfl) (fun E hE X Y => ?_)
  show J G E 5 0 [(0, .ref (adr G 7 0)), (1, .int a1), (2, .int a2), (3, .int a3), (4, .int a4)] [] M
  unfold wp_X7_addLayer at h
  refine j_aload_n X 0 dX7_addLayer_0 rfl rfl ?_
  refine jc_RX7_83 X ⟨Nat.le_of_ble_eq_true rfl, Nat.le_of_ble_eq_true rfl⟩ (Nat.le_of_ble_eq_true rfl) dX7_addLayer_1 h (fun M1 h => ?_)
  refine j_aload_n X 0 dX7_addLayer_4 rfl rfl ?_
  refine j_aload_n X 0 dX7_addLayer_5 rfl rfl ?_
  refine j_iload_n X 1 dX7_addLayer_6 rfl rfl ?_
  refine j_iload_n X 2 dX7_addLayer_7 rfl rfl ?_
  refine j_iload_n X 3 dX7_addLayer_8 rfl rfl ?_
  refine j_iload X 4 dX7_addLayer_9 rfl ?_
  refine jc_RX7_94 X ⟨Nat.le_of_ble_eq_true rfl, Nat.le_of_ble_eq_true rfl⟩ (Nat.le_of_ble_eq_true rfl) dX7_addLayer_11 h (fun r3 M2 h => ?_)
  refine jc_RX7_90 X ⟨Nat.le_of_ble_eq_true rfl, Nat.le_of_ble_eq_true rfl⟩ (Nat.le_of_ble_eq_true rfl) dX7_addLayer_14 h (fun r5 M4 h => ?_)
  exact j_iret X Y dX7_addLayer_17 h
/-- LayeredClaimsModel.addEvent(I)I -/
def wp_X7_addEvent (a1 : Int32) (M : Mm) (P : Int32 → Mm → Prop) : Prop := (wp_X7_keeps  M (fun (M1 : Mm) => (wp_X7_laysEvent a1 M1 (fun (r3 : Int32) (M2 : Mm) => (wp_X7_made r3 M2 (fun (r5 : Int32) (M4 : Mm) => P r5 M4))))))
set_option maxHeartbeats 4000000 in
set_option maxRecDepth 100000 in
theorem met_X7_addEvent {l : Launch} {G : GT} (hG : GD G) (a1 : Int32) (M : Mm) (P : Int32 → Mm → Prop) (h : wp_X7_addEvent a1 M P) : MI l G yX7_addEvent cX7_addEvent 2 (some .int) ({ frames := 3, cells := 0, slots := 0, locals := 66 } : Room) [.ref (adr G 7 0), .int a1] M P := by
  refine met_by hG (own := RX7) rfl (by decide +kernel) (Nat.le_of_ble_eq_true rfl) (fun E hE X Y => ?_)
  show J G E 2 0 [(0, .ref (adr G 7 0)), (1, .int a1)] [] M
  unfold wp_X7_addEvent at h
  refine j_aload_n X 0 dX7_addEvent_0 rfl rfl ?_
  refine jc_RX7_83 X ⟨Nat.le_of_ble_eq_true rfl, Nat.le_of_ble_eq_true rfl⟩ (Nat.le_of_ble_eq_true rfl) dX7_addEvent_1 h (fun M1 h => ?_)
  refine j_aload_n X 0 dX7_addEvent_4 rfl rfl ?_
  refine j_aload_n X 0 dX7_addEvent_5 rfl rfl ?_
  refine j_iload_n X 1 dX7_addEvent_6 rfl rfl ?_
  refine jc_RX7_97 X ⟨Nat.le_of_ble_eq_true rfl, Nat.le_of_ble_eq_true rfl⟩ (Nat.le_of_ble_eq_true rfl) dX7_addEvent_7 h (fun r3 M2 h => ?_)
  refine jc_RX7_90 X ⟨Nat.le_of_ble_eq_true rfl, Nat.le_of_ble_eq_true rfl⟩ (Nat.le_of_ble_eq_true rfl) dX7_addEvent_10 h (fun r5 M4 h => ?_)
  exact j_iret X Y dX7_addEvent_13 h
/-- LayeredClaimsModel.addClaim(III)I -/
def wp_X7_addClaim (a1 : Int32) (a2 : Int32) (a3 : Int32) (M : Mm) (P : Int32 → Mm → Prop) : Prop := (wp_X7_keeps  M (fun (M1 : Mm) => (wp_X7_laysClaim a1 a2 a3 M1 (fun (r3 : Int32) (M2 : Mm) => (wp_X7_made r3 M2 (fun (r5 : Int32) (M4 : Mm) => P r5 M4))))))
set_option maxHeartbeats 4000000 in
set_option maxRecDepth 100000 in
theorem met_X7_addClaim {l : Launch} {G : GT} (hG : GD G) (a1 : Int32) (a2 : Int32) (a3 : Int32) (M : Mm) (P : Int32 → Mm → Prop) (h : wp_X7_addClaim a1 a2 a3 M P) : MI l G yX7_addClaim cX7_addClaim 4 (some .int) ({ frames := 3, cells := 0, slots := 0, locals := 67 } : Room) [.ref (adr G 7 0), .int a1, .int a2, .int a3] M P := by
  refine met_by hG (own := RX7) rfl (by decide +kernel) (Nat.le_of_ble_eq_true rfl) (fun E hE X Y => ?_)
  show J G E 4 0 [(0, .ref (adr G 7 0)), (1, .int a1), (2, .int a2), (3, .int a3)] [] M
  unfold wp_X7_addClaim at h
  refine j_aload_n X 0 dX7_addClaim_0 rfl rfl ?_
  refine jc_RX7_83 X ⟨Nat.le_of_ble_eq_true rfl, Nat.le_of_ble_eq_true rfl⟩ (Nat.le_of_ble_eq_true rfl) dX7_addClaim_1 h (fun M1 h => ?_)
  refine j_aload_n X 0 dX7_addClaim_4 rfl rfl ?_
  refine j_aload_n X 0 dX7_addClaim_5 rfl rfl ?_
  refine j_iload_n X 1 dX7_addClaim_6 rfl rfl ?_
  refine j_iload_n X 2 dX7_addClaim_7 rfl rfl ?_
  refine j_iload_n X 3 dX7_addClaim_8 rfl rfl ?_
  refine jc_RX7_100 X ⟨Nat.le_of_ble_eq_true rfl, Nat.le_of_ble_eq_true rfl⟩ (Nat.le_of_ble_eq_true rfl) dX7_addClaim_9 h (fun r3 M2 h => ?_)
  refine jc_RX7_90 X ⟨Nat.le_of_ble_eq_true rfl, Nat.le_of_ble_eq_true rfl⟩ (Nat.le_of_ble_eq_true rfl) dX7_addClaim_12 h (fun r5 M4 h => ?_)
  exact j_iret X Y dX7_addClaim_15 h
/-- LayeredClaimsModel.removeClaim(I)I -/
def wp_X7_removeClaim (a1 : Int32) (M : Mm) (P : Int32 → Mm → Prop) : Prop := (wp_X7_isClaim a1 M (fun (r2 : Int32) (M1 : Mm) => ((¬ r2 = 0 → (wp_X7_keeps  M1 (fun (M4 : Mm) => (∀ x5 : Int32, x5 = ((64 : Int32) + ((3 : Int32) * a1)) → (∃ n, lq2 (fun self6 (x8 : Int32) (M9 : Mm) => (((136 : Int32) ≤ (x8 + (3 : Int32)) → (∀ M11 : Mm, M11 = wr M9 160 0 3 ((rd M9 160 0 3) - (1 : Int32)) → (wp_X7_made (rd M11 160 0 3) M11 (fun (r13 : Int32) (M12 : Mm) => P r13 M12)))) ∧ (¬ (136 : Int32) ≤ (x8 + (3 : Int32)) → (vp_in (x8 + (3 : Int32)) 136 ∧ (vp_in x8 136 ∧ (∀ M16 : Mm, M16 = wr M9 160 0 x8.toNatClampNeg (rd M9 160 0 (x8 + (3 : Int32)).toNatClampNeg) → (∀ x17 : Int32, x17 = x8 + (1 : Int32) → self6 x17 M16))))))) n x5 M4))))) ∧ (r2 = 0 → P (-1 : Int32) M1))))
set_option maxHeartbeats 4000000 in
set_option maxRecDepth 100000 in
theorem met_X7_removeClaim {l : Launch} {G : GT} (hG : GD G) (a1 : Int32) (M : Mm) (P : Int32 → Mm → Prop) (h : wp_X7_removeClaim a1 M P) : MI l G yX7_removeClaim cX7_removeClaim 3 (some .int) ({ frames := 3, cells := 0, slots := 0, locals := 66 } : Room) [.ref (adr G 7 0), .int a1] M P := by
  refine met_by hG (own := RX7) rfl (by decide +kernel) (Nat.le_of_ble_eq_true rfl) (fun E hE X Y => ?_)
  show J G E 3 0 [(0, .ref (adr G 7 0)), (1, .int a1)] [] M
  unfold wp_X7_removeClaim at h
  refine j_aload_n X 0 dX7_removeClaim_0 rfl rfl ?_
  refine j_iload_n X 1 dX7_removeClaim_1 rfl rfl ?_
  refine jc_RX7_104 X ⟨Nat.le_of_ble_eq_true rfl, Nat.le_of_ble_eq_true rfl⟩ (Nat.le_of_ble_eq_true rfl) dX7_removeClaim_2 h (fun r2 M1 h => ?_)
  refine j_if_ne X 10 dX7_removeClaim_5 (by decide) (fun c3 => ?_) (fun c3 => ?_)
  · replace h := h.1 c3
    refine j_aload_n X 0 dX7_removeClaim_10 rfl rfl ?_
    refine jc_RX7_83 X ⟨Nat.le_of_ble_eq_true rfl, Nat.le_of_ble_eq_true rfl⟩ (Nat.le_of_ble_eq_true rfl) dX7_removeClaim_11 h (fun M4 h => ?_)
    refine j_bipush (v := (64 : Int32)) X (by decide) dX7_removeClaim_14 ?_
    refine j_iconst (v := (3 : Int32)) X (by decide) dX7_removeClaim_16 ?_
    refine j_iload_n X 1 dX7_removeClaim_17 rfl rfl ?_
    refine j_imul X dX7_removeClaim_18 ?_
    refine j_iadd X dX7_removeClaim_19 ?_
    refine j_topi (fun x5 ex5 => ?_)
    replace h := h x5 ex5
    refine j_istore_n X [(2, .int x5), (0, .ref (adr G 7 0)), (1, .int a1)] dX7_removeClaim_20 rfl (by decide) rfl ?_
    refine j_sub [1, 0] rfl ?_
    refine lq2_s h (fun (x8 : Int32) (M9 : Mm) => J G E 3 21 [(0, .ref (adr G 7 0)), (2, .int x8)] [] M9) (fun self6 ih7 x8 M9 h => ?_) id
    refine j_iload_n X 1 dX7_removeClaim_21 rfl rfl ?_
    refine j_iconst (v := (3 : Int32)) X (by decide) dX7_removeClaim_22 ?_
    refine j_iadd X dX7_removeClaim_23 ?_
    refine j_sipush (v := (136 : Int32)) X (by decide) dX7_removeClaim_24 ?_
    refine j_icmp_ge X 50 dX7_removeClaim_27 (by decide) (fun c10 => ?_) (fun c10 => ?_)
    · replace h := h.1 c10
      refine j_aload_n X 0 dX7_removeClaim_50 rfl rfl ?_
      refine jf_RX7_9 X  dX7_removeClaim_51 ?_
      refine j_iconst (v := (3 : Int32)) X (by decide) dX7_removeClaim_54 ?_
      refine j_dup2 X rfl rfl dX7_removeClaim_55 ?_
      refine j_iald X 3 (by decide) (mw160 0 (by decide)) kt160 lt160 (vpc (by decide)) dX7_removeClaim_56 ?_
      refine j_iconst (v := (1 : Int32)) X (by decide) dX7_removeClaim_57 ?_
      refine j_isub X dX7_removeClaim_58 ?_
      refine j_iast X 3 (by decide) (mw160 0 (by decide)) kt160 lt160 (vpc (by decide)) dX7_removeClaim_59 ?_
      refine j_memo (fun M11 eM11 => ?_)
      replace h := h M11 eM11
      refine j_aload_n X 0 dX7_removeClaim_60 rfl rfl ?_
      refine j_aload_n X 0 dX7_removeClaim_61 rfl rfl ?_
      refine jf_RX7_9 X  dX7_removeClaim_62 ?_
      refine j_iconst (v := (3 : Int32)) X (by decide) dX7_removeClaim_65 ?_
      refine j_iald X 3 (by decide) (mw160 0 (by decide)) kt160 lt160 (vpc (by decide)) dX7_removeClaim_66 ?_
      refine jc_RX7_90 X ⟨Nat.le_of_ble_eq_true rfl, Nat.le_of_ble_eq_true rfl⟩ (Nat.le_of_ble_eq_true rfl) dX7_removeClaim_67 h (fun r13 M12 h => ?_)
      exact j_iret X Y dX7_removeClaim_70 h
    · replace h := h.2 c10
      refine j_aload_n X 0 dX7_removeClaim_30 rfl rfl ?_
      refine jf_RX7_9 X  dX7_removeClaim_31 ?_
      refine j_iload_n X 1 dX7_removeClaim_34 rfl rfl ?_
      refine j_aload_n X 0 dX7_removeClaim_35 rfl rfl ?_
      refine jf_RX7_9 X  dX7_removeClaim_36 ?_
      refine j_iload_n X 1 dX7_removeClaim_39 rfl rfl ?_
      refine j_iconst (v := (3 : Int32)) X (by decide) dX7_removeClaim_40 ?_
      refine j_iadd X dX7_removeClaim_41 ?_
      have q14 := h.1
      replace h := h.2
      refine j_iald X _ rfl (mw160 0 (by decide)) kt160 lt160 q14 dX7_removeClaim_42 ?_
      have q15 := h.1
      replace h := h.2
      refine j_iast X _ rfl (mw160 0 (by decide)) kt160 lt160 q15 dX7_removeClaim_43 ?_
      refine j_memo (fun M16 eM16 => ?_)
      replace h := h M16 eM16
      obtain ⟨x17, ex17⟩ : ∃ z : Int32, z = x8 + (1 : Int32) := ⟨_, rfl⟩
      replace h := h x17 ex17
      refine j_iinc (v := x17) X 1 [(2, .int x17), (0, .ref (adr G 7 0))] dX7_removeClaim_44 rfl (by rw [ex17]; rfl) (by decide) rfl ?_
      refine j_goto X 21 dX7_removeClaim_47 (by decide) ?_
      refine j_sub [1, 0] rfl ?_
      exact ih7 x17 M16 h
  · replace h := h.2 c3
    refine j_iconst (v := (-1 : Int32)) X (by decide) dX7_removeClaim_8 ?_
    exact j_iret X Y dX7_removeClaim_9 h
/-- LayeredClaimsModel.setDay(II)I -/
def wp_X7_setDay (a1 : Int32) (a2 : Int32) (M : Mm) (P : Int32 → Mm → Prop) : Prop := (wp_X7_isEvent a1 M (fun (r2 : Int32) (M1 : Mm) => ((¬ r2 = 0 → (wp_X7_in a2 (0 : Int32) (364 : Int32) M1 (fun (r5 : Int32) (M4 : Mm) => ((¬ r5 = 0 → (wp_X7_keeps  M4 (fun (M7 : Mm) => (vp_in ((48 : Int32) + a1) 136 ∧ (∀ x9 : Int32, x9 = (rd M7 160 0 ((48 : Int32) + a1).toNatClampNeg) → (∀ M10 : Mm, M10 = wr M7 160 0 ((48 : Int32) + a1).toNatClampNeg a2 → (wp_X7_made x9 M10 (fun (r12 : Int32) (M11 : Mm) => P r12 M11)))))))) ∧ (r5 = 0 → P (-2 : Int32) M4))))) ∧ (r2 = 0 → P (-1 : Int32) M1))))
set_option maxHeartbeats 4000000 in
set_option maxRecDepth 100000 in
theorem met_X7_setDay {l : Launch} {G : GT} (hG : GD G) (a1 : Int32) (a2 : Int32) (M : Mm) (P : Int32 → Mm → Prop) (h : wp_X7_setDay a1 a2 M P) : MI l G yX7_setDay cX7_setDay 4 (some .int) ({ frames := 3, cells := 0, slots := 0, locals := 66 } : Room) [.ref (adr G 7 0), .int a1, .int a2] M P := by
  refine met_by hG (own := RX7) rfl (by decide +kernel) (Nat.le_of_ble_eq_true rfl) (fun E hE X Y => ?_)
  show J G E 4 0 [(0, .ref (adr G 7 0)), (1, .int a1), (2, .int a2)] [] M
  unfold wp_X7_setDay at h
  refine j_aload_n X 0 dX7_setDay_0 rfl rfl ?_
  refine j_iload_n X 1 dX7_setDay_1 rfl rfl ?_
  refine jc_RX7_75 X ⟨Nat.le_of_ble_eq_true rfl, Nat.le_of_ble_eq_true rfl⟩ (Nat.le_of_ble_eq_true rfl) dX7_setDay_2 h (fun r2 M1 h => ?_)
  refine j_if_ne X 10 dX7_setDay_5 (by decide) (fun c3 => ?_) (fun c3 => ?_)
  · replace h := h.1 c3
    refine j_iload_n X 2 dX7_setDay_10 rfl rfl ?_
    refine j_iconst (v := (0 : Int32)) X (by decide) dX7_setDay_11 ?_
    refine j_sipush (v := (364 : Int32)) X (by decide) dX7_setDay_12 ?_
    refine jc_RX7_61 X ⟨Nat.le_of_ble_eq_true rfl, Nat.le_of_ble_eq_true rfl⟩ (Nat.le_of_ble_eq_true rfl) dX7_setDay_15 h (fun r5 M4 h => ?_)
    refine j_if_ne X 24 dX7_setDay_18 (by decide) (fun c6 => ?_) (fun c6 => ?_)
    · replace h := h.1 c6
      refine j_aload_n X 0 dX7_setDay_24 rfl rfl ?_
      refine jc_RX7_83 X ⟨Nat.le_of_ble_eq_true rfl, Nat.le_of_ble_eq_true rfl⟩ (Nat.le_of_ble_eq_true rfl) dX7_setDay_25 h (fun M7 h => ?_)
      refine j_aload_n X 0 dX7_setDay_28 rfl rfl ?_
      refine jf_RX7_9 X  dX7_setDay_29 ?_
      refine j_bipush (v := (48 : Int32)) X (by decide) dX7_setDay_32 ?_
      refine j_iload_n X 1 dX7_setDay_34 rfl rfl ?_
      refine j_iadd X dX7_setDay_35 ?_
      have q8 := h.1
      replace h := h.2
      refine j_iald X _ rfl (mw160 0 (by decide)) kt160 lt160 q8 dX7_setDay_36 ?_
      refine j_topi (fun x9 ex9 => ?_)
      replace h := h x9 ex9
      refine j_istore_n X [(3, .int x9), (0, .ref (adr G 7 0)), (1, .int a1), (2, .int a2)] dX7_setDay_37 rfl (by decide) rfl ?_
      refine j_aload_n X 1 dX7_setDay_38 rfl rfl ?_
      refine jf_RX7_9 X  dX7_setDay_39 ?_
      refine j_bipush (v := (48 : Int32)) X (by decide) dX7_setDay_42 ?_
      refine j_iload_n X 2 dX7_setDay_44 rfl rfl ?_
      refine j_iadd X dX7_setDay_45 ?_
      refine j_iload_n X 3 dX7_setDay_46 rfl rfl ?_
      refine j_iast X _ rfl (mw160 0 (by decide)) kt160 lt160 q8 dX7_setDay_47 ?_
      refine j_memo (fun M10 eM10 => ?_)
      replace h := h M10 eM10
      refine j_aload_n X 1 dX7_setDay_48 rfl rfl ?_
      refine j_iload_n X 0 dX7_setDay_49 rfl rfl ?_
      refine jc_RX7_90 X ⟨Nat.le_of_ble_eq_true rfl, Nat.le_of_ble_eq_true rfl⟩ (Nat.le_of_ble_eq_true rfl) dX7_setDay_50 h (fun r12 M11 h => ?_)
      exact j_iret X Y dX7_setDay_53 h
    · replace h := h.2 c6
      refine j_bipush (v := (-2 : Int32)) X (by decide) dX7_setDay_21 ?_
      exact j_iret X Y dX7_setDay_23 h
  · replace h := h.2 c3
    refine j_iconst (v := (-1 : Int32)) X (by decide) dX7_setDay_8 ?_
    exact j_iret X Y dX7_setDay_9 h
/-- LayeredClaimsModel.setDeductible(II)I -/
def wp_X7_setDeductible (a1 : Int32) (a2 : Int32) (M : Mm) (P : Int32 → Mm → Prop) : Prop := (wp_X7_isGroup a1 M (fun (r2 : Int32) (M1 : Mm) => ((¬ r2 = 0 → (wp_X7_in a2 (0 : Int32) (99999 : Int32) M1 (fun (r5 : Int32) (M4 : Mm) => ((¬ r5 = 0 → (wp_X7_keeps  M4 (fun (M7 : Mm) => (vp_in ((5 : Int32) + a1) 136 ∧ (∀ x9 : Int32, x9 = (rd M7 160 0 ((5 : Int32) + a1).toNatClampNeg) → (∀ M10 : Mm, M10 = wr M7 160 0 ((5 : Int32) + a1).toNatClampNeg a2 → (wp_X7_made x9 M10 (fun (r12 : Int32) (M11 : Mm) => P r12 M11)))))))) ∧ (r5 = 0 → P (-2 : Int32) M4))))) ∧ (r2 = 0 → P (-1 : Int32) M1))))
set_option maxHeartbeats 4000000 in
set_option maxRecDepth 100000 in
theorem met_X7_setDeductible {l : Launch} {G : GT} (hG : GD G) (a1 : Int32) (a2 : Int32) (M : Mm) (P : Int32 → Mm → Prop) (h : wp_X7_setDeductible a1 a2 M P) : MI l G yX7_setDeductible cX7_setDeductible 4 (some .int) ({ frames := 3, cells := 0, slots := 0, locals := 66 } : Room) [.ref (adr G 7 0), .int a1, .int a2] M P := by
  refine met_by hG (own := RX7) rfl (by decide +kernel) (Nat.le_of_ble_eq_true rfl) (fun E hE X Y => ?_)
  show J G E 4 0 [(0, .ref (adr G 7 0)), (1, .int a1), (2, .int a2)] [] M
  unfold wp_X7_setDeductible at h
  refine j_iload_n X 1 dX7_setDeductible_0 rfl rfl ?_
  refine jc_RX7_66 X ⟨Nat.le_of_ble_eq_true rfl, Nat.le_of_ble_eq_true rfl⟩ (Nat.le_of_ble_eq_true rfl) dX7_setDeductible_1 h (fun r2 M1 h => ?_)
  refine j_if_ne X 9 dX7_setDeductible_4 (by decide) (fun c3 => ?_) (fun c3 => ?_)
  · replace h := h.1 c3
    refine j_iload_n X 2 dX7_setDeductible_9 rfl rfl ?_
    refine j_iconst (v := (0 : Int32)) X (by decide) dX7_setDeductible_10 ?_
    refine j_ldc (v := (99999 : Int32)) X (tw (i := 933) (by decide +kernel)) dX7_setDeductible_11 ?_
    refine jc_RX7_61 X ⟨Nat.le_of_ble_eq_true rfl, Nat.le_of_ble_eq_true rfl⟩ (Nat.le_of_ble_eq_true rfl) dX7_setDeductible_13 h (fun r5 M4 h => ?_)
    refine j_if_ne X 22 dX7_setDeductible_16 (by decide) (fun c6 => ?_) (fun c6 => ?_)
    · replace h := h.1 c6
      refine j_aload_n X 0 dX7_setDeductible_22 rfl rfl ?_
      refine jc_RX7_83 X ⟨Nat.le_of_ble_eq_true rfl, Nat.le_of_ble_eq_true rfl⟩ (Nat.le_of_ble_eq_true rfl) dX7_setDeductible_23 h (fun M7 h => ?_)
      refine j_aload_n X 0 dX7_setDeductible_26 rfl rfl ?_
      refine jf_RX7_9 X  dX7_setDeductible_27 ?_
      refine j_iconst (v := (5 : Int32)) X (by decide) dX7_setDeductible_30 ?_
      refine j_iload_n X 1 dX7_setDeductible_31 rfl rfl ?_
      refine j_iadd X dX7_setDeductible_32 ?_
      have q8 := h.1
      replace h := h.2
      refine j_iald X _ rfl (mw160 0 (by decide)) kt160 lt160 q8 dX7_setDeductible_33 ?_
      refine j_topi (fun x9 ex9 => ?_)
      replace h := h x9 ex9
      refine j_istore_n X [(3, .int x9), (0, .ref (adr G 7 0)), (1, .int a1), (2, .int a2)] dX7_setDeductible_34 rfl (by decide) rfl ?_
      refine j_aload_n X 1 dX7_setDeductible_35 rfl rfl ?_
      refine jf_RX7_9 X  dX7_setDeductible_36 ?_
      refine j_iconst (v := (5 : Int32)) X (by decide) dX7_setDeductible_39 ?_
      refine j_iload_n X 2 dX7_setDeductible_40 rfl rfl ?_
      refine j_iadd X dX7_setDeductible_41 ?_
      refine j_iload_n X 3 dX7_setDeductible_42 rfl rfl ?_
      refine j_iast X _ rfl (mw160 0 (by decide)) kt160 lt160 q8 dX7_setDeductible_43 ?_
      refine j_memo (fun M10 eM10 => ?_)
      replace h := h M10 eM10
      refine j_aload_n X 1 dX7_setDeductible_44 rfl rfl ?_
      refine j_iload_n X 0 dX7_setDeductible_45 rfl rfl ?_
      refine jc_RX7_90 X ⟨Nat.le_of_ble_eq_true rfl, Nat.le_of_ble_eq_true rfl⟩ (Nat.le_of_ble_eq_true rfl) dX7_setDeductible_46 h (fun r12 M11 h => ?_)
      exact j_iret X Y dX7_setDeductible_49 h
    · replace h := h.2 c6
      refine j_bipush (v := (-2 : Int32)) X (by decide) dX7_setDeductible_19 ?_
      exact j_iret X Y dX7_setDeductible_21 h
  · replace h := h.2 c3
    refine j_iconst (v := (-1 : Int32)) X (by decide) dX7_setDeductible_7 ?_
    exact j_iret X Y dX7_setDeductible_8 h
/-- LayeredClaimsModel.setIndex(I)I -/
def wp_X7_setIndex (a1 : Int32) (M : Mm) (P : Int32 → Mm → Prop) : Prop := (wp_X7_in a1 (0 : Int32) (100 : Int32) M (fun (r2 : Int32) (M1 : Mm) => ((¬ r2 = 0 → (wp_X7_keeps  M1 (fun (M4 : Mm) => (∀ x5 : Int32, x5 = (rd M4 160 0 4) → (∀ M6 : Mm, M6 = wr M4 160 0 4 a1 → (wp_X7_made x5 M6 (fun (r8 : Int32) (M7 : Mm) => P r8 M7))))))) ∧ (r2 = 0 → P (-2 : Int32) M1))))
set_option maxHeartbeats 4000000 in
set_option maxRecDepth 100000 in
theorem met_X7_setIndex {l : Launch} {G : GT} (hG : GD G) (a1 : Int32) (M : Mm) (P : Int32 → Mm → Prop) (h : wp_X7_setIndex a1 M P) : MI l G yX7_setIndex cX7_setIndex 3 (some .int) ({ frames := 3, cells := 0, slots := 0, locals := 66 } : Room) [.ref (adr G 7 0), .int a1] M P := by
  refine met_by hG (own := RX7) rfl (by decide +kernel) (Nat.le_of_ble_eq_true rfl) (fun E hE X Y => ?_)
  show J G E 3 0 [(0, .ref (adr G 7 0)), (1, .int a1)] [] M
  unfold wp_X7_setIndex at h
  refine j_iload_n X 1 dX7_setIndex_0 rfl rfl ?_
  refine j_iconst (v := (0 : Int32)) X (by decide) dX7_setIndex_1 ?_
  refine j_bipush (v := (100 : Int32)) X (by decide) dX7_setIndex_2 ?_
  refine jc_RX7_61 X ⟨Nat.le_of_ble_eq_true rfl, Nat.le_of_ble_eq_true rfl⟩ (Nat.le_of_ble_eq_true rfl) dX7_setIndex_4 h (fun r2 M1 h => ?_)
  refine j_if_ne X 13 dX7_setIndex_7 (by decide) (fun c3 => ?_) (fun c3 => ?_)
  · replace h := h.1 c3
    refine j_aload_n X 0 dX7_setIndex_13 rfl rfl ?_
    refine jc_RX7_83 X ⟨Nat.le_of_ble_eq_true rfl, Nat.le_of_ble_eq_true rfl⟩ (Nat.le_of_ble_eq_true rfl) dX7_setIndex_14 h (fun M4 h => ?_)
    refine j_aload_n X 0 dX7_setIndex_17 rfl rfl ?_
    refine jf_RX7_9 X  dX7_setIndex_18 ?_
    refine j_iconst (v := (4 : Int32)) X (by decide) dX7_setIndex_21 ?_
    refine j_iald X 4 (by decide) (mw160 0 (by decide)) kt160 lt160 (vpc (by decide)) dX7_setIndex_22 ?_
    refine j_topi (fun x5 ex5 => ?_)
    replace h := h x5 ex5
    refine j_istore_n X [(2, .int x5), (0, .ref (adr G 7 0)), (1, .int a1)] dX7_setIndex_23 rfl (by decide) rfl ?_
    refine j_aload_n X 1 dX7_setIndex_24 rfl rfl ?_
    refine jf_RX7_9 X  dX7_setIndex_25 ?_
    refine j_iconst (v := (4 : Int32)) X (by decide) dX7_setIndex_28 ?_
    refine j_iload_n X 2 dX7_setIndex_29 rfl rfl ?_
    refine j_iast X 4 (by decide) (mw160 0 (by decide)) kt160 lt160 (vpc (by decide)) dX7_setIndex_30 ?_
    refine j_memo (fun M6 eM6 => ?_)
    replace h := h M6 eM6
    refine j_aload_n X 1 dX7_setIndex_31 rfl rfl ?_
    refine j_iload_n X 0 dX7_setIndex_32 rfl rfl ?_
    refine jc_RX7_90 X ⟨Nat.le_of_ble_eq_true rfl, Nat.le_of_ble_eq_true rfl⟩ (Nat.le_of_ble_eq_true rfl) dX7_setIndex_33 h (fun r8 M7 h => ?_)
    exact j_iret X Y dX7_setIndex_36 h
  · replace h := h.2 c3
    refine j_bipush (v := (-2 : Int32)) X (by decide) dX7_setIndex_10 ?_
    exact j_iret X Y dX7_setIndex_12 h
/-- LayeredClaimsModel.setRecovery(II)I -/
def wp_X7_setRecovery (a1 : Int32) (a2 : Int32) (M : Mm) (P : Int32 → Mm → Prop) : Prop := (wp_X7_keeps  M (fun (M1 : Mm) => (wp_X7_laysRecovery a1 a2 M1 (fun (r3 : Int32) (M2 : Mm) => (wp_X7_made r3 M2 (fun (r5 : Int32) (M4 : Mm) => P r5 M4))))))
set_option maxHeartbeats 4000000 in
set_option maxRecDepth 100000 in
theorem met_X7_setRecovery {l : Launch} {G : GT} (hG : GD G) (a1 : Int32) (a2 : Int32) (M : Mm) (P : Int32 → Mm → Prop) (h : wp_X7_setRecovery a1 a2 M P) : MI l G yX7_setRecovery cX7_setRecovery 3 (some .int) ({ frames := 3, cells := 0, slots := 0, locals := 66 } : Room) [.ref (adr G 7 0), .int a1, .int a2] M P := by
  refine met_by hG (own := RX7) rfl (by decide +kernel) (Nat.le_of_ble_eq_true rfl) (fun E hE X Y => ?_)
  show J G E 3 0 [(0, .ref (adr G 7 0)), (1, .int a1), (2, .int a2)] [] M
  unfold wp_X7_setRecovery at h
  refine j_aload_n X 0 dX7_setRecovery_0 rfl rfl ?_
  refine jc_RX7_83 X ⟨Nat.le_of_ble_eq_true rfl, Nat.le_of_ble_eq_true rfl⟩ (Nat.le_of_ble_eq_true rfl) dX7_setRecovery_1 h (fun M1 h => ?_)
  refine j_aload_n X 0 dX7_setRecovery_4 rfl rfl ?_
  refine j_aload_n X 0 dX7_setRecovery_5 rfl rfl ?_
  refine j_iload_n X 1 dX7_setRecovery_6 rfl rfl ?_
  refine j_iload_n X 2 dX7_setRecovery_7 rfl rfl ?_
  refine jc_RX7_107 X ⟨Nat.le_of_ble_eq_true rfl, Nat.le_of_ble_eq_true rfl⟩ (Nat.le_of_ble_eq_true rfl) dX7_setRecovery_8 h (fun r3 M2 h => ?_)
  refine jc_RX7_90 X ⟨Nat.le_of_ble_eq_true rfl, Nat.le_of_ble_eq_true rfl⟩ (Nat.le_of_ble_eq_true rfl) dX7_setRecovery_11 h (fun r5 M4 h => ?_)
  exact j_iret X Y dX7_setRecovery_14 h
/-- LayeredClaimsModel.append(I)I -/
def wp_X7_append (a1 : Int32) (M : Mm) (P : Int32 → Mm → Prop) : Prop := (∃ n, lq3 (fun self1 (x3 : Int32) (x4 : Int32) (M5 : Mm) => ((x4 < 0 → ((((rd M5 7 0 7) + x3) ≤ (60 : Int32) → (∃ n, lq2 (fun self8 (x10 : Int32) (M11 : Mm) => ((x10 < 0 → P (rd M11 7 0 7) M11) ∧ (¬ x10 < 0 → (∀ x13 : Int32, x13 = ((a1.toUInt32 >>> (x10.toUInt32 &&& Int32.toUInt32 31)).toInt32 &&& (255 : Int32)) → (jn (fun  (M14 : Mm) => (∀ x17 : Int32, x17 = x10 + (-8 : Int32) → self8 x17 M14)) (fun J15 : Mm → Prop => ((¬ x13 = 0 → (vp_in (rd M11 7 0 7) 60 ∧ (∀ M20 : Mm, M20 = wr M11 166 0 (rd M11 7 0 7).toNatClampNeg x13 → (∀ M21 : Mm, M21 = wr M20 7 0 7 ((rd M20 7 0 7) + (1 : Int32)) → J15 M21)))) ∧ (x13 = 0 → J15 M11)))))))) n (24 : Int32) M5)) ∧ (¬ ((rd M5 7 0 7) + x3) ≤ (60 : Int32) → P (-3 : Int32) M5))) ∧ (¬ x4 < 0 → (∀ x22 : Int32, x22 = ((a1.toUInt32 >>> (x4.toUInt32 &&& Int32.toUInt32 31)).toInt32 &&& (255 : Int32)) → (jn (fun (x23 : Int32) (M24 : Mm) => (∀ x27 : Int32, x27 = x4 + (-8 : Int32) → self1 x23 x27 M24)) (fun J25 : Int32 → Mm → Prop => ((¬ x22 = 0 → (wp_X7_in x22 (33 : Int32) (126 : Int32) M5 (fun (r30 : Int32) (M29 : Mm) => ((¬ r30 = 0 → (∀ x32 : Int32, x32 = x3 + (1 : Int32) → J25 x32 M29)) ∧ (r30 = 0 → P (-2 : Int32) M29))))) ∧ (x22 = 0 → J25 x3 M5)))))))) n (0 : Int32) (24 : Int32) M)
set_option maxHeartbeats 4000000 in
set_option maxRecDepth 100000 in
theorem met_X7_append {l : Launch} {G : GT} (hG : GD G) (a1 : Int32) (M : Mm) (P : Int32 → Mm → Prop) (h : wp_X7_append a1 M P) : MI l G yX7_append cX7_append 5 (some .int) ({ frames := 1, cells := 0, slots := 0, locals := 22 } : Room) [.ref (adr G 7 0), .int a1] M P := by
  refine met_by hG (own := RX7) rfl (by decide +kernel) (Nat.le_of_ble_eq_true rfl) (fun E hE X Y => ?_)
  show J G E 5 0 [(0, .ref (adr G 7 0)), (1, .int a1)] [] M
  unfold wp_X7_append at h
  refine j_iconst (v := (0 : Int32)) X (by decide) dX7_append_0 ?_
  refine j_istore_n X [(2, .int (0 : Int32)), (0, .ref (adr G 7 0)), (1, .int a1)] dX7_append_1 rfl (by decide) rfl ?_
  refine j_bipush (v := (24 : Int32)) X (by decide) dX7_append_2 ?_
  refine j_istore_n X [(3, .int (24 : Int32)), (2, .int (0 : Int32)), (0, .ref (adr G 7 0)), (1, .int a1)] dX7_append_4 rfl (by decide) rfl ?_
  refine j_sub [2, 3, 1, 0] rfl ?_
  refine lq3_s h (fun (x3 : Int32) (x4 : Int32) (M5 : Mm) => J G E 5 5 [(0, .ref (adr G 7 0)), (1, .int a1), (2, .int x3), (3, .int x4)] [] M5) (fun self1 ih2 x3 x4 M5 h => ?_) id
  refine j_iload_n X 3 dX7_append_5 rfl rfl ?_
  refine j_if_lt X 50 dX7_append_6 (by decide) (fun c6 => ?_) (fun c6 => ?_)
  · replace h := h.1 c6
    refine j_aload_n X 0 dX7_append_50 rfl rfl ?_
    refine jf_RX7_33 X  dX7_append_51 ?_
    refine j_iload_n X 2 dX7_append_54 rfl rfl ?_
    refine j_iadd X dX7_append_55 ?_
    refine j_bipush (v := (60 : Int32)) X (by decide) dX7_append_56 ?_
    refine j_icmp_le X 64 dX7_append_58 (by decide) (fun c7 => ?_) (fun c7 => ?_)
    · replace h := h.1 c7
      refine j_bipush (v := (24 : Int32)) X (by decide) dX7_append_64 ?_
      refine j_istore_n X [(3, .int (24 : Int32)), (0, .ref (adr G 7 0)), (1, .int a1), (2, .int x3)] dX7_append_66 rfl (by decide) rfl ?_
      refine j_sub [1, 2, 0] rfl ?_
      refine lq2_s h (fun (x10 : Int32) (M11 : Mm) => J G E 5 67 [(0, .ref (adr G 7 0)), (1, .int a1), (3, .int x10)] [] M11) (fun self8 ih9 x10 M11 h => ?_) id
      refine j_iload_n X 2 dX7_append_67 rfl rfl ?_
      refine j_if_lt X 115 dX7_append_68 (by decide) (fun c12 => ?_) (fun c12 => ?_)
      · replace h := h.1 c12
        refine j_aload_n X 0 dX7_append_115 rfl rfl ?_
        refine jf_RX7_33 X  dX7_append_116 ?_
        exact j_iret X Y dX7_append_119 h
      · replace h := h.2 c12
        refine j_iload_n X 1 dX7_append_71 rfl rfl ?_
        refine j_iload_n X 2 dX7_append_72 rfl rfl ?_
        refine j_iushr X dX7_append_73 ?_
        refine j_sipush (v := (255 : Int32)) X (by decide) dX7_append_74 ?_
        refine j_iand X dX7_append_77 ?_
        refine j_topi (fun x13 ex13 => ?_)
        replace h := h x13 ex13
        refine j_istore X [(4, .int x13), (0, .ref (adr G 7 0)), (1, .int a1), (3, .int x10)] dX7_append_78 (by decide) rfl ?_
        refine j_iload X 0 dX7_append_80 rfl ?_
        refine jn1_s h (fun  (M14 : Mm) => J G E 5 109 [(0, .ref (adr G 7 0)), (1, .int a1), (3, .int x10)] [] M14) (fun M14 h => ?_) (fun J15 hj16 h => ?_)
        · obtain ⟨x17, ex17⟩ : ∃ z : Int32, z = x10 + (-8 : Int32) := ⟨_, rfl⟩
          replace h := h x17 ex17
          refine j_iinc (v := x17) X 2 [(3, .int x17), (0, .ref (adr G 7 0)), (1, .int a1)] dX7_append_109 rfl (by rw [ex17]; rfl) (by decide) rfl ?_
          refine j_goto X 67 dX7_append_112 (by decide) ?_
          refine j_sub [1, 2, 0] rfl ?_
          exact ih9 x17 M14 h
        · refine j_if_ne X 88 dX7_append_82 (by decide) (fun c18 => ?_) (fun c18 => ?_)
          · replace h := h.1 c18
            refine j_aload_n X 1 dX7_append_88 rfl rfl ?_
            refine jf_RX7_30 X  dX7_append_89 ?_
            refine j_aload_n X 1 dX7_append_92 rfl rfl ?_
            refine jf_RX7_33 X  dX7_append_93 ?_
            refine j_iload X 0 dX7_append_96 rfl ?_
            have q19 := h.1
            replace h := h.2
            refine j_iast X _ rfl (mw166 0 (by decide)) kt166 lt166 q19 dX7_append_98 ?_
            refine j_memo (fun M20 eM20 => ?_)
            replace h := h M20 eM20
            refine j_aload_n X 1 dX7_append_99 rfl rfl ?_
            refine j_dup X rfl dX7_append_100 ?_
            refine jf_RX7_33 X  dX7_append_101 ?_
            refine j_iconst (v := (1 : Int32)) X (by decide) dX7_append_104 ?_
            refine j_iadd X dX7_append_105 ?_
            refine jp_RX7_33 X   dX7_append_106 ?_
            refine j_memo (fun M21 eM21 => ?_)
            replace h := h M21 eM21
            refine j_sub [1, 2, 3] rfl ?_
            exact hj16 M21 h
          · replace h := h.2 c18
            refine j_goto X 109 dX7_append_85 (by decide) ?_
            refine j_sub [1, 2, 3] rfl ?_
            exact hj16 M11 h
    · replace h := h.2 c7
      refine j_bipush (v := (-3 : Int32)) X (by decide) dX7_append_61 ?_
      exact j_iret X Y dX7_append_63 h
  · replace h := h.2 c6
    refine j_iload_n X 1 dX7_append_9 rfl rfl ?_
    refine j_iload_n X 3 dX7_append_10 rfl rfl ?_
    refine j_iushr X dX7_append_11 ?_
    refine j_sipush (v := (255 : Int32)) X (by decide) dX7_append_12 ?_
    refine j_iand X dX7_append_15 ?_
    refine j_topi (fun x22 ex22 => ?_)
    replace h := h x22 ex22
    refine j_istore X [(4, .int x22), (0, .ref (adr G 7 0)), (1, .int a1), (2, .int x3), (3, .int x4)] dX7_append_16 (by decide) rfl ?_
    refine j_iload X 0 dX7_append_18 rfl ?_
    refine jn2_s h (fun (x23 : Int32) (M24 : Mm) => J G E 5 44 [(0, .ref (adr G 7 0)), (1, .int a1), (2, .int x23), (3, .int x4)] [] M24) (fun x23 M24 h => ?_) (fun J25 hj26 h => ?_)
    · obtain ⟨x27, ex27⟩ : ∃ z : Int32, z = x4 + (-8 : Int32) := ⟨_, rfl⟩
      replace h := h x27 ex27
      refine j_iinc (v := x27) X 3 [(3, .int x27), (0, .ref (adr G 7 0)), (1, .int a1), (2, .int x23)] dX7_append_44 rfl (by rw [ex27]; rfl) (by decide) rfl ?_
      refine j_goto X 5 dX7_append_47 (by decide) ?_
      refine j_sub [1, 2, 3, 0] rfl ?_
      exact ih2 x23 x27 M24 h
    · refine j_if_ne X 26 dX7_append_20 (by decide) (fun c28 => ?_) (fun c28 => ?_)
      · replace h := h.1 c28
        refine j_iload X 0 dX7_append_26 rfl ?_
        refine j_bipush (v := (33 : Int32)) X (by decide) dX7_append_28 ?_
        refine j_bipush (v := (126 : Int32)) X (by decide) dX7_append_30 ?_
        refine jc_RX7_61 X ⟨Nat.le_of_ble_eq_true rfl, Nat.le_of_ble_eq_true rfl⟩ (Nat.le_of_ble_eq_true rfl) dX7_append_32 h (fun r30 M29 h => ?_)
        refine j_if_ne X 41 dX7_append_35 (by decide) (fun c31 => ?_) (fun c31 => ?_)
        · replace h := h.1 c31
          obtain ⟨x32, ex32⟩ : ∃ z : Int32, z = x3 + (1 : Int32) := ⟨_, rfl⟩
          replace h := h x32 ex32
          refine j_iinc (v := x32) X 3 [(2, .int x32), (4, .int x22), (0, .ref (adr G 7 0)), (1, .int a1), (3, .int x4)] dX7_append_41 rfl (by rw [ex32]; rfl) (by decide) rfl ?_
          refine j_sub [2, 3, 0, 4] rfl ?_
          exact hj26 x32 M29 h
        · replace h := h.2 c31
          refine j_bipush (v := (-2 : Int32)) X (by decide) dX7_append_38 ?_
          exact j_iret X Y dX7_append_40 h
      · replace h := h.2 c28
        refine j_goto X 44 dX7_append_23 (by decide) ?_
        refine j_sub [1, 2, 3, 4] rfl ?_
        exact hj26 x3 M5 h
/-- LayeredClaimsModel.sign()I -/
def wp_X7_sign  (M : Mm) (P : Int32 → Mm → Prop) : Prop := ((¬ (rd M 7 0 10) = 0 → P (-4 : Int32) M) ∧ ((rd M 7 0 10) = 0 → (((rd M 7 0 7) ≤ (rd M 7 0 8) → P (-4 : Int32) M) ∧ (¬ (rd M 7 0 7) ≤ (rd M 7 0 8) → (vp_in (rd M 7 0 8) 60 ∧ P (rd M 166 0 (rd M 7 0 8).toNatClampNeg) M)))))
set_option maxHeartbeats 4000000 in
set_option maxRecDepth 100000 in
theorem met_X7_sign {l : Launch} {G : GT} (hG : GD G)  (M : Mm) (P : Int32 → Mm → Prop) (h : wp_X7_sign  M P) : MI l G yX7_sign cX7_sign 1 (some .int) ({ frames := 0, cells := 0, slots := 0, locals := 0 } : Room) [.ref (adr G 7 0)] M P := by
  refine met_by hG (own := RX7) rfl (by decide +kernel) (Nat.le_of_ble_eq_true rfl) (fun E hE X Y => ?_)
  show J G E 1 0 [(0, .ref (adr G 7 0))] [] M
  unfold wp_X7_sign at h
  refine j_aload_n X 0 dX7_sign_0 rfl rfl ?_
  refine jf_RX7_42 X  dX7_sign_1 ?_
  refine j_if_ne X 30 dX7_sign_4 (by decide) (fun c1 => ?_) (fun c1 => ?_)
  · replace h := h.1 c1
    refine j_bipush (v := (-4 : Int32)) X (by decide) dX7_sign_30 ?_
    exact j_iret X Y dX7_sign_32 h
  · replace h := h.2 c1
    refine j_aload_n X 0 dX7_sign_7 rfl rfl ?_
    refine jf_RX7_36 X  dX7_sign_8 ?_
    refine j_aload_n X 0 dX7_sign_11 rfl rfl ?_
    refine jf_RX7_33 X  dX7_sign_12 ?_
    refine j_icmp_ge X 30 dX7_sign_15 (by decide) (fun c2 => ?_) (fun c2 => ?_)
    · replace h := h.1 c2
      refine j_bipush (v := (-4 : Int32)) X (by decide) dX7_sign_30 ?_
      exact j_iret X Y dX7_sign_32 h
    · replace h := h.2 c2
      refine j_aload_n X 0 dX7_sign_18 rfl rfl ?_
      refine jf_RX7_30 X  dX7_sign_19 ?_
      refine j_aload_n X 0 dX7_sign_22 rfl rfl ?_
      refine jf_RX7_36 X  dX7_sign_23 ?_
      have q3 := h.1
      replace h := h.2
      refine j_iald X _ rfl (mw166 0 (by decide)) kt166 lt166 q3 dX7_sign_26 ?_
      refine j_goto X 32 dX7_sign_27 (by decide) ?_
      exact j_iret X Y dX7_sign_32 h
theorem jc_RX7_111 {G : GT} {E : ET} {cc : ByteArray} {nL pc : Nat} {rm : Room} {lv : List (Nat × Value)} {st : List Value} {M : Mm} (X : CX G E RX7 cc nL rm) (hR : 0 + 1 ≤ rm.frames ∧ 8 + (1 + 11) + 0 ≤ rm.locals) (hst : (st.map fun v => v.category).sum ≤ 8) (d : decode cc pc = .ok (.invokevirtual 111, 3))  {P : Int32 → Mm → Prop} (h : wp_X7_sign  M P) (k1 : ∀ (r : Int32) (M2 : Mm), P r M2 → J G E nL (pc + 3) lv (.int r :: st) M2) : J G E nL pc lv (.ref (adr G 7 0) :: st) M := fun H locs ls hP hS hl => by
  have hK := X.2.2.2.2.2.1.1
  have hm := met_X7_sign (l := eL E) X.2.2.2.2.2.2.1  M P h
  have hR2 : 0 + 1 ≤ (eR E).frames ∧ 8 + (1 + 11) + 0 ≤ (eR E).locals := by rw [X.2.2.2.2.2.2.2.1]; exact hR
  have hC2 : eCells E + 0 ≤ (eR E).cells ∧ eSlots E + 0 ≤ (eR E).slots := by rw [X.2.2.2.2.2.2.2.1]; exact ⟨X.2.2.2.2.2.2.2.2.1, X.2.2.2.2.2.2.2.2.2⟩
  obtain ⟨q0, -, hq⟩ := wld_get (G := G) M (mw7 0 (by decide))
  exact va_calli (va_runV (C := RX7) (As := []) (rest := st) ⟨X.1, X.2.1, X.2.2.1, X.2.2.2.1, X.2.2.2.2.1⟩ hm (cwV (ws' := lw_aw) 0 X.2.2.2.2.1 (gwV (tw (i := 1029) (by decide +kernel)) (tw (i := 1031) (by decide +kernel)) (tw (i := 32) (by decide +kernel)) (tw (i := 78) (by decide +kernel)) (tw (i := 1032) (by decide +kernel))) rfl rfl rfl (by decide +kernel) hR2) ⟨hr_blind, va_recv hK hP (ci := 7) (q := (RX7, TX7, 15)) (fs := objF7 G 0 (M.1 7 0)) (q0 := q0) rfl hq, fun U hU hW => ⟨rfl, by rw [hU]; exact hP, KK.warm hW X.2.2.2.2.2.1⟩⟩ rfl rfl hl.1 rfl (lv_room hst) d hC2) hS (fun q _ h => h) (fun q h => h) (fun r u t H1 locs1 ht hvm hw hB hz1 hk1 hS1 => k1 r u hw H1 locs1 ls (by rw [← ht]; exact hB.1) hS1 hl)
/-- LayeredClaimsModel.takes(I)V -/
def wp_X7_takes (a1 : Int32) (M : Mm) (P : Mm → Prop) : Prop := (wp_X7_sign  M (fun (r2 : Int32) (M1 : Mm) => ((¬ r2 = a1 → (∀ M4 : Mm, M4 = wr M1 7 0 10 (1 : Int32) → P M4)) ∧ (r2 = a1 → (∀ M5 : Mm, M5 = wr M1 7 0 8 ((rd M1 7 0 8) + (1 : Int32)) → P M5)))))
set_option maxHeartbeats 4000000 in
set_option maxRecDepth 100000 in
theorem met_X7_takes {l : Launch} {G : GT} (hG : GD G) (a1 : Int32) (M : Mm) (P : Mm → Prop) (h : wp_X7_takes a1 M P) : MV l G yX7_takes cX7_takes 2 none ({ frames := 1, cells := 0, slots := 0, locals := 20 } : Room) [.ref (adr G 7 0), .int a1] M P := by
  refine met_by hG (own := RX7) rfl (by decide +kernel) (Nat.le_of_ble_eq_true rfl) (fun E hE X Y => ?_)
  show J G E 2 0 [(0, .ref (adr G 7 0)), (1, .int a1)] [] M
  unfold wp_X7_takes at h
  refine j_aload_n X 0 dX7_takes_0 rfl rfl ?_
  refine jc_RX7_111 X ⟨Nat.le_of_ble_eq_true rfl, Nat.le_of_ble_eq_true rfl⟩ (Nat.le_of_ble_eq_true rfl) dX7_takes_1 h (fun r2 M1 h => ?_)
  refine j_iload_n X 1 dX7_takes_4 rfl rfl ?_
  refine j_icmp_ne X 21 dX7_takes_5 (by decide) (fun c3 => ?_) (fun c3 => ?_)
  · replace h := h.1 c3
    refine j_aload_n X 0 dX7_takes_21 rfl rfl ?_
    refine j_iconst (v := (1 : Int32)) X (by decide) dX7_takes_22 ?_
    refine jp_RX7_42 X  rfl dX7_takes_23 ?_
    refine j_memo (fun M4 eM4 => ?_)
    replace h := h M4 eM4
    exact j_vret X Y dX7_takes_26 h
  · replace h := h.2 c3
    refine j_aload_n X 0 dX7_takes_8 rfl rfl ?_
    refine j_dup X rfl dX7_takes_9 ?_
    refine jf_RX7_36 X  dX7_takes_10 ?_
    refine j_iconst (v := (1 : Int32)) X (by decide) dX7_takes_13 ?_
    refine j_iadd X dX7_takes_14 ?_
    refine jp_RX7_36 X   dX7_takes_15 ?_
    refine j_memo (fun M5 eM5 => ?_)
    replace h := h M5 eM5
    refine j_goto X 26 dX7_takes_18 (by decide) ?_
    exact j_vret X Y dX7_takes_26 h
theorem jc_RX7_118 {G : GT} {E : ET} {cc : ByteArray} {nL pc : Nat} {rm : Room} {lv : List (Nat × Value)} {st : List Value} {M : Mm} (X : CX G E RX7 cc nL rm) (hR : 1 + 1 ≤ rm.frames ∧ 8 + (2 + 11) + 20 ≤ rm.locals) (hst : (st.map fun v => v.category).sum ≤ 8) (d : decode cc pc = .ok (.invokevirtual 118, 3)) {a1 : Int32} {P : Mm → Prop} (h : wp_X7_takes a1 M P) (k1 : ∀ M2 : Mm, P M2 → J G E nL (pc + 3) lv st M2) : J G E nL pc lv (.int a1 :: .ref (adr G 7 0) :: st) M := fun H locs ls hP hS hl => by
  have hK := X.2.2.2.2.2.1.1
  have hm := met_X7_takes (l := eL E) X.2.2.2.2.2.2.1 a1 M P h
  have hR2 : 1 + 1 ≤ (eR E).frames ∧ 8 + (2 + 11) + 20 ≤ (eR E).locals := by rw [X.2.2.2.2.2.2.2.1]; exact hR
  have hC2 : eCells E + 0 ≤ (eR E).cells ∧ eSlots E + 0 ≤ (eR E).slots := by rw [X.2.2.2.2.2.2.2.1]; exact ⟨X.2.2.2.2.2.2.2.2.1, X.2.2.2.2.2.2.2.2.2⟩
  obtain ⟨q0, -, hq⟩ := wld_get (G := G) M (mw7 0 (by decide))
  exact va_callv (va_runV (C := RX7) (As := [.int a1]) (rest := st) ⟨X.1, X.2.1, X.2.2.1, X.2.2.2.1, X.2.2.2.2.1⟩ hm (cwV (ws' := lw_aw) 1 X.2.2.2.2.1 (gwV (tw (i := 1037) (by decide +kernel)) (tw (i := 1039) (by decide +kernel)) (tw (i := 34) (by decide +kernel)) (tw (i := 78) (by decide +kernel)) (tw (i := 1040) (by decide +kernel))) rfl rfl rfl (by decide +kernel) hR2) ⟨hr_blind, va_recv hK hP (ci := 7) (q := (RX7, TX7, 15)) (fs := objF7 G 0 (M.1 7 0)) (q0 := q0) rfl hq, fun U hU hW => ⟨rfl, by rw [hU]; exact hP, KK.warm hW X.2.2.2.2.2.1⟩⟩ rfl rfl hl.1 rfl (lv_room hst) d hC2) hS (fun q _ h => h) (fun q h => h) (fun u t H1 locs1 ht hvm hw hB hz1 hk1 hS1 => k1 u hw H1 locs1 ls (by rw [← ht]; exact hB.1) hS1 hl)
