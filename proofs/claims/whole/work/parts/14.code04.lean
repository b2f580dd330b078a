/-- LayeredClaims.layer(II)I -/
def wp_X6_layer (a1 : Int32) (a2 : Int32) (M : Mm) (P : Int32 → Mm → Prop) : Prop := (wp_X0_hasLayer 0 a1 M (fun (r2 : Int32) (M1 : Mm) => ((¬ r2 = 0 → (wp_X5_reckon  M1 (fun (M4 : Mm) => ((a2 = 0 → (vp_in a1 4 ∧ P (rd M4 26 0 a1.toNatClampNeg) M4)) ∧ (a2 = 1 → (vp_in a1 4 ∧ P (rd M4 27 0 a1.toNatClampNeg) M4)) ∧ (a2 = 2 → (vp_in a1 4 ∧ P (rd M4 28 0 a1.toNatClampNeg) M4)) ∧ (a2 = 3 → (vp_in a1 4 ∧ P (rd M4 29 0 a1.toNatClampNeg) M4)) ∧ (a2 = 4 → (wp_X5_borneByLayer a1 M4 (fun (r11 : Int32) (M10 : Mm) => P r11 M10))) ∧ (a2 = 5 → (vp_in a1 4 ∧ P (rd M4 132 0 a1.toNatClampNeg) M4)) ∧ (a2 = 6 → (wp_X5_reinstatedAmount a1 M4 (fun (r14 : Int32) (M13 : Mm) => P r14 M13))) ∧ (a2 = 7 → (wp_X5_reinstatementPremium a1 M4 (fun (r16 : Int32) (M15 : Mm) => P r16 M15))) ∧ (¬ a2 = 0 → ¬ a2 = 1 → ¬ a2 = 2 → ¬ a2 = 3 → ¬ a2 = 4 → ¬ a2 = 5 → ¬ a2 = 6 → ¬ a2 = 7 → P (-2 : Int32) M4))))) ∧ (r2 = 0 → P (-1 : Int32) M1))))
set_option maxHeartbeats 4000000 in
set_option maxRecDepth 100000 in
theorem met_X6_layer {l : Launch} {G : GT} (hG : GD G) (a1 : Int32) (a2 : Int32) (M : Mm) (P : Int32 → Mm → Prop) (h : wp_X6_layer a1 a2 M P) : MI l G yX6_layer cX6_layer 3 (some .int) ({ frames := 4, cells := 0, slots := 0, locals := 97 } : Room) [.ref (adr G 6 0), .int a1, .int a2] M P := by
  refine met_by hG (own := RX6) rfl (by decide +kernel) (Nat.le_of_ble_eq_true rfl) (fun E hE X Y => ?_)
  show J G E 3 0 [(0, .ref (adr G 6 0)), (1, .int a1), (2, .int a2)] [] M
  unfold wp_X6_layer at h
  refine j_aload_n X 0 dX6_layer_0 rfl rfl ?_
  refine jf_RX6_20 X  dX6_layer_1 ?_
  refine j_iload_n X 1 dX6_layer_4 rfl rfl ?_
  refine jc_RX6_160 X ⟨Nat.le_of_ble_eq_true rfl, Nat.le_of_ble_eq_true rfl⟩ (Nat.le_of_ble_eq_true rfl) dX6_layer_5 (by decide) h (fun r2 M1 h => ?_)
  refine j_if_ne X 13 dX6_layer_8 (by decide) (fun c3 => ?_) (fun c3 => ?_)
  · replace h := h.1 c3
    refine j_aload_n X 0 dX6_layer_13 rfl rfl ?_
    refine jf_RX6_10 X  dX6_layer_14 ?_
    refine jc_RX6_142 X ⟨Nat.le_of_ble_eq_true rfl, Nat.le_of_ble_eq_true rfl⟩ (Nat.le_of_ble_eq_true rfl) dX6_layer_17 h (fun M4 h => ?_)
    refine j_iload_n X 2 dX6_layer_20 rfl rfl ?_
    refine j_ts_0_7 X (t0 := 68) (t1 := 78) (t2 := 88) (t3 := 98) (t4 := 108) (t5 := 117) (t6 := 127) (t7 := 136) (td := 145) dX6_layer_21 rfl (by decide) (by decide) (by decide) (by decide) (by decide) (by decide) (by decide) (by decide) (by decide) (fun c5 => ?_) (fun c5 => ?_) (fun c5 => ?_) (fun c5 => ?_) (fun c5 => ?_) (fun c5 => ?_) (fun c5 => ?_) (fun c5 => ?_) (fun c17 c18 c19 c20 c21 c22 c23 c24 => ?_)
    · replace h := h.1 c5
      refine j_aload_n X 0 dX6_layer_68 rfl rfl ?_
      refine jf_RX6_20 X  dX6_layer_69 ?_
      refine jf_RX6_163 X (by decide) dX6_layer_72 ?_
      refine j_iload_n X 1 dX6_layer_75 rfl rfl ?_
      have q6 := h.1
      replace h := h.2
      refine j_iald X _ rfl (mw26 0 (by decide)) kt26 lt26 q6 dX6_layer_76 ?_
      exact j_iret X Y dX6_layer_77 h
    · replace h := h.2.1 c5
      refine j_aload_n X 0 dX6_layer_78 rfl rfl ?_
      refine jf_RX6_20 X  dX6_layer_79 ?_
      refine jf_RX6_166 X (by decide) dX6_layer_82 ?_
      refine j_iload_n X 1 dX6_layer_85 rfl rfl ?_
      have q7 := h.1
      replace h := h.2
      refine j_iald X _ rfl (mw27 0 (by decide)) kt27 lt27 q7 dX6_layer_86 ?_
      exact j_iret X Y dX6_layer_87 h
    · replace h := h.2.2.1 c5
      refine j_aload_n X 0 dX6_layer_88 rfl rfl ?_
      refine jf_RX6_20 X  dX6_layer_89 ?_
      refine jf_RX6_169 X (by decide) dX6_layer_92 ?_
      refine j_iload_n X 1 dX6_layer_95 rfl rfl ?_
      have q8 := h.1
      replace h := h.2
      refine j_iald X _ rfl (mw28 0 (by decide)) kt28 lt28 q8 dX6_layer_96 ?_
      exact j_iret X Y dX6_layer_97 h
    · replace h := h.2.2.2.1 c5
      refine j_aload_n X 0 dX6_layer_98 rfl rfl ?_
      refine jf_RX6_20 X  dX6_layer_99 ?_
      refine jf_RX6_172 X (by decide) dX6_layer_102 ?_
      refine j_iload_n X 1 dX6_layer_105 rfl rfl ?_
      have q9 := h.1
      replace h := h.2
      refine j_iald X _ rfl (mw29 0 (by decide)) kt29 lt29 q9 dX6_layer_106 ?_
      exact j_iret X Y dX6_layer_107 h
    · replace h := h.2.2.2.2.1 c5
      refine j_aload_n X 0 dX6_layer_108 rfl rfl ?_
      refine jf_RX6_10 X  dX6_layer_109 ?_
      refine j_iload_n X 1 dX6_layer_112 rfl rfl ?_
      refine jc_RX6_175 X ⟨Nat.le_of_ble_eq_true rfl, Nat.le_of_ble_eq_true rfl⟩ (Nat.le_of_ble_eq_true rfl) dX6_layer_113 h (fun r11 M10 h => ?_)
      exact j_iret X Y dX6_layer_116 h
    · replace h := h.2.2.2.2.2.1 c5
      refine j_aload_n X 0 dX6_layer_117 rfl rfl ?_
      refine jf_RX6_10 X  dX6_layer_118 ?_
      refine jf_RX6_178 X  dX6_layer_121 ?_
      refine j_iload_n X 1 dX6_layer_124 rfl rfl ?_
      have q12 := h.1
      replace h := h.2
      refine j_iald X _ rfl (mw132 0 (by decide)) kt132 lt132 q12 dX6_layer_125 ?_
      exact j_iret X Y dX6_layer_126 h
    · replace h := h.2.2.2.2.2.2.1 c5
      refine j_aload_n X 0 dX6_layer_127 rfl rfl ?_
      refine jf_RX6_10 X  dX6_layer_128 ?_
      refine j_iload_n X 1 dX6_layer_131 rfl rfl ?_
      refine jc_RX6_181 X ⟨Nat.le_of_ble_eq_true rfl, Nat.le_of_ble_eq_true rfl⟩ (Nat.le_of_ble_eq_true rfl) dX6_layer_132 h (fun r14 M13 h => ?_)
      exact j_iret X Y dX6_layer_135 h
    · replace h := h.2.2.2.2.2.2.2.1 c5
      refine j_aload_n X 0 dX6_layer_136 rfl rfl ?_
      refine jf_RX6_10 X  dX6_layer_137 ?_
      refine j_iload_n X 1 dX6_layer_140 rfl rfl ?_
      refine jc_RX6_184 X ⟨Nat.le_of_ble_eq_true rfl, Nat.le_of_ble_eq_true rfl⟩ (Nat.le_of_ble_eq_true rfl) dX6_layer_141 h (fun r16 M15 h => ?_)
      exact j_iret X Y dX6_layer_144 h
    · replace h := h.2.2.2.2.2.2.2.2 c17 c18 c19 c20 c21 c22 c23 c24
      refine j_bipush (v := (-2 : Int32)) X (by decide) dX6_layer_145 ?_
      exact j_iret X Y dX6_layer_147 h
  · replace h := h.2 c3
    refine j_iconst (v := (-1 : Int32)) X (by decide) dX6_layer_11 ?_
    exact j_iret X Y dX6_layer_12 h
/-- LayeredClaims.deductible(I)I -/
def wp_X6_deductible (a1 : Int32) (M : Mm) (P : Int32 → Mm → Prop) : Prop := (wp_X6_isWithin a1 (0 : Int32) (2 : Int32) M (fun (r2 : Int32) (M1 : Mm) => ((r2 = 0 → P (-1 : Int32) M1) ∧ (¬ r2 = 0 → (vp_in a1 3 ∧ P (rd M1 30 0 a1.toNatClampNeg) M1)))))
set_option maxHeartbeats 4000000 in
set_option maxRecDepth 100000 in
theorem met_X6_deductible {l : Launch} {G : GT} (hG : GD G) (a1 : Int32) (M : Mm) (P : Int32 → Mm → Prop) (h : wp_X6_deductible a1 M P) : MI l G yX6_deductible cX6_deductible 2 (some .int) ({ frames := 1, cells := 0, slots := 0, locals := 22 } : Room) [.ref (adr G 6 0), .int a1] M P := by
  refine met_by hG (own := RX6) rfl (by decide +kernel) (Nat.le_of_ble_eq_true rfl) (fun E hE X Y => ?_)
  show J G E 2 0 [(0, .ref (adr G 6 0)), (1, .int a1)] [] M
  unfold wp_X6_deductible at h
  refine j_iload_n X 1 dX6_deductible_0 rfl rfl ?_
  refine j_iconst (v := (0 : Int32)) X (by decide) dX6_deductible_1 ?_
  refine j_iconst (v := (2 : Int32)) X (by decide) dX6_deductible_2 ?_
  refine jc_RX6_187 X ⟨Nat.le_of_ble_eq_true rfl, Nat.le_of_ble_eq_true rfl⟩ (Nat.le_of_ble_eq_true rfl) dX6_deductible_3 h (fun r2 M1 h => ?_)
  refine j_if_eq X 21 dX6_deductible_6 (by decide) (fun c3 => ?_) (fun c3 => ?_)
  · replace h := h.1 c3
    refine j_iconst (v := (-1 : Int32)) X (by decide) dX6_deductible_21 ?_
    exact j_iret X Y dX6_deductible_22 h
  · replace h := h.2 c3
    refine j_aload_n X 0 dX6_deductible_9 rfl rfl ?_
    refine jf_RX6_20 X  dX6_deductible_10 ?_
    refine jf_RX6_191 X (by decide) dX6_deductible_13 ?_
    refine j_iload_n X 1 dX6_deductible_16 rfl rfl ?_
    have q4 := h.1
    replace h := h.2
    refine j_iald X _ rfl (mw30 0 (by decide)) kt30 lt30 q4 dX6_deductible_17 ?_
    refine j_goto X 22 dX6_deductible_18 (by decide) ?_
    exact j_iret X Y dX6_deductible_22 h
/-- LayeredClaims.event(II)I -/
def wp_X6_event (a1 : Int32) (a2 : Int32) (M : Mm) (P : Int32 → Mm → Prop) : Prop := (wp_X0_hasEvent 0 a1 M (fun (r2 : Int32) (M1 : Mm) => ((¬ r2 = 0 → (wp_X5_reckon  M1 (fun (M4 : Mm) => ((a2 = 0 → (vp_in a1 8 ∧ P (rd M4 33 0 a1.toNatClampNeg) M4)) ∧ (a2 = 1 → (vp_in a1 8 ∧ P (rd M4 34 0 a1.toNatClampNeg) M4)) ∧ (a2 = 2 → (wp_X0_claimsOfEvent 0 a1 M4 (fun (r9 : Int32) (M8 : Mm) => P r9 M8))) ∧ (a2 = 3 → (wp_X5_lossOfEvent a1 M4 (fun (r11 : Int32) (M10 : Mm) => P r11 M10))) ∧ (a2 = 4 → (wp_X5_paidForEvent a1 M4 (fun (r13 : Int32) (M12 : Mm) => P r13 M12))) ∧ (a2 = 5 → (vp_in a1 8 ∧ P (rd M4 130 0 a1.toNatClampNeg) M4)) ∧ (a2 = 6 → (vp_in a1 8 ∧ P (rd M4 133 0 a1.toNatClampNeg) M4)) ∧ (a2 = 7 → (vp_in a1 8 ∧ P (rd M4 122 0 a1.toNatClampNeg) M4)) ∧ (¬ a2 = 0 → ¬ a2 = 1 → ¬ a2 = 2 → ¬ a2 = 3 → ¬ a2 = 4 → ¬ a2 = 5 → ¬ a2 = 6 → ¬ a2 = 7 → P (-2 : Int32) M4))))) ∧ (r2 = 0 → P (-1 : Int32) M1))))
set_option maxHeartbeats 4000000 in
set_option maxRecDepth 100000 in
theorem met_X6_event {l : Launch} {G : GT} (hG : GD G) (a1 : Int32) (a2 : Int32) (M : Mm) (P : Int32 → Mm → Prop) (h : wp_X6_event a1 a2 M P) : MI l G yX6_event cX6_event 3 (some .int) ({ frames := 4, cells := 0, slots := 0, locals := 97 } : Room) [.ref (adr G 6 0), .int a1, .int a2] M P := by
  refine met_by hG (own := RX6) rfl (by decide +kernel) (Nat.le_of_ble_eq_true rfl) (fun E hE X Y => ?_)
  show J G E 3 0 [(0, .ref (adr G 6 0)), (1, .int a1), (2, .int a2)] [] M
  unfold wp_X6_event at h
  refine j_aload_n X 0 dX6_event_0 rfl rfl ?_
  refine jf_RX6_20 X  dX6_event_1 ?_
  refine j_iload_n X 1 dX6_event_4 rfl rfl ?_
  refine jc_RX6_194 X ⟨Nat.le_of_ble_eq_true rfl, Nat.le_of_ble_eq_true rfl⟩ (Nat.le_of_ble_eq_true rfl) dX6_event_5 (by decide) h (fun r2 M1 h => ?_)
  refine j_if_ne X 13 dX6_event_8 (by decide) (fun c3 => ?_) (fun c3 => ?_)
  · replace h := h.1 c3
    refine j_aload_n X 0 dX6_event_13 rfl rfl ?_
    refine jf_RX6_10 X  dX6_event_14 ?_
    refine jc_RX6_142 X ⟨Nat.le_of_ble_eq_true rfl, Nat.le_of_ble_eq_true rfl⟩ (Nat.le_of_ble_eq_true rfl) dX6_event_17 h (fun M4 h => ?_)
    refine j_iload_n X 2 dX6_event_20 rfl rfl ?_
    refine j_ts_0_7 X (t0 := 68) (t1 := 78) (t2 := 88) (t3 := 97) (t4 := 106) (t5 := 115) (t6 := 125) (t7 := 135) (td := 145) dX6_event_21 rfl (by decide) (by decide) (by decide) (by decide) (by decide) (by decide) (by decide) (by decide) (by decide) (fun c5 => ?_) (fun c5 => ?_) (fun c5 => ?_) (fun c5 => ?_) (fun c5 => ?_) (fun c5 => ?_) (fun c5 => ?_) (fun c5 => ?_) (fun c17 c18 c19 c20 c21 c22 c23 c24 => ?_)
    · replace h := h.1 c5
      refine j_aload_n X 0 dX6_event_68 rfl rfl ?_
      refine jf_RX6_20 X  dX6_event_69 ?_
      refine jf_RX6_197 X (by decide) dX6_event_72 ?_
      refine j_iload_n X 1 dX6_event_75 rfl rfl ?_
      have q6 := h.1
      replace h := h.2
      refine j_iald X _ rfl (mw33 0 (by decide)) kt33 lt33 q6 dX6_event_76 ?_
      exact j_iret X Y dX6_event_77 h
    · replace h := h.2.1 c5
      refine j_aload_n X 0 dX6_event_78 rfl rfl ?_
      refine jf_RX6_20 X  dX6_event_79 ?_
      refine jf_RX6_200 X (by decide) dX6_event_82 ?_
      refine j_iload_n X 1 dX6_event_85 rfl rfl ?_
      have q7 := h.1
      replace h := h.2
      refine j_iald X _ rfl (mw34 0 (by decide)) kt34 lt34 q7 dX6_event_86 ?_
      exact j_iret X Y dX6_event_87 h
    · replace h := h.2.2.1 c5
      refine j_aload_n X 0 dX6_event_88 rfl rfl ?_
      refine jf_RX6_20 X  dX6_event_89 ?_
      refine j_iload_n X 1 dX6_event_92 rfl rfl ?_
      refine jc_RX6_203 X ⟨Nat.le_of_ble_eq_true rfl, Nat.le_of_ble_eq_true rfl⟩ (Nat.le_of_ble_eq_true rfl) dX6_event_93 (by decide) h (fun r9 M8 h => ?_)
      exact j_iret X Y dX6_event_96 h
    · replace h := h.2.2.2.1 c5
      refine j_aload_n X 0 dX6_event_97 rfl rfl ?_
      refine jf_RX6_10 X  dX6_event_98 ?_
      refine j_iload_n X 1 dX6_event_101 rfl rfl ?_
      refine jc_RX6_206 X ⟨Nat.le_of_ble_eq_true rfl, Nat.le_of_ble_eq_true rfl⟩ (Nat.le_of_ble_eq_true rfl) dX6_event_102 h (fun r11 M10 h => ?_)
      exact j_iret X Y dX6_event_105 h
    · replace h := h.2.2.2.2.1 c5
      refine j_aload_n X 0 dX6_event_106 rfl rfl ?_
      refine jf_RX6_10 X  dX6_event_107 ?_
      refine j_iload_n X 1 dX6_event_110 rfl rfl ?_
      refine jc_RX6_209 X ⟨Nat.le_of_ble_eq_true rfl, Nat.le_of_ble_eq_true rfl⟩ (Nat.le_of_ble_eq_true rfl) dX6_event_111 h (fun r13 M12 h => ?_)
      exact j_iret X Y dX6_event_114 h
    · replace h := h.2.2.2.2.2.1 c5
      refine j_aload_n X 0 dX6_event_115 rfl rfl ?_
      refine jf_RX6_10 X  dX6_event_116 ?_
      refine jf_RX6_212 X  dX6_event_119 ?_
      refine j_iload_n X 1 dX6_event_122 rfl rfl ?_
      have q14 := h.1
      replace h := h.2
      refine j_iald X _ rfl (mw130 0 (by decide)) kt130 lt130 q14 dX6_event_123 ?_
      exact j_iret X Y dX6_event_124 h
    · replace h := h.2.2.2.2.2.2.1 c5
      refine j_aload_n X 0 dX6_event_125 rfl rfl ?_
      refine jf_RX6_10 X  dX6_event_126 ?_
      refine jf_RX6_215 X  dX6_event_129 ?_
      refine j_iload_n X 1 dX6_event_132 rfl rfl ?_
      have q15 := h.1
      replace h := h.2
      refine j_iald X _ rfl (mw133 0 (by decide)) kt133 lt133 q15 dX6_event_133 ?_
      exact j_iret X Y dX6_event_134 h
    · replace h := h.2.2.2.2.2.2.2.1 c5
      refine j_aload_n X 0 dX6_event_135 rfl rfl ?_
      refine jf_RX6_10 X  dX6_event_136 ?_
      refine jf_RX6_218 X  dX6_event_139 ?_
      refine j_iload_n X 1 dX6_event_142 rfl rfl ?_
      have q16 := h.1
      replace h := h.2
      refine j_iald X _ rfl (mw122 0 (by decide)) kt122 lt122 q16 dX6_event_143 ?_
      exact j_iret X Y dX6_event_144 h
    · replace h := h.2.2.2.2.2.2.2.2 c17 c18 c19 c20 c21 c22 c23 c24
      refine j_bipush (v := (-2 : Int32)) X (by decide) dX6_event_145 ?_
      exact j_iret X Y dX6_event_147 h
  · replace h := h.2 c3
    refine j_iconst (v := (-1 : Int32)) X (by decide) dX6_event_11 ?_
    exact j_iret X Y dX6_event_12 h
/-- LayeredClaims.eventAt(I)I -/
def wp_X6_eventAt (a1 : Int32) (M : Mm) (P : Int32 → Mm → Prop) : Prop := (wp_X0_hasEvent 0 a1 M (fun (r2 : Int32) (M1 : Mm) => ((¬ r2 = 0 → (wp_X5_reckon  M1 (fun (M4 : Mm) => (vp_in a1 8 ∧ P (rd M4 121 0 a1.toNatClampNeg) M4)))) ∧ (r2 = 0 → P (-1 : Int32) M1))))
set_option maxHeartbeats 4000000 in
set_option maxRecDepth 100000 in
theorem met_X6_eventAt {l : Launch} {G : GT} (hG : GD G) (a1 : Int32) (M : Mm) (P : Int32 → Mm → Prop) (h : wp_X6_eventAt a1 M P) : MI l G yX6_eventAt cX6_eventAt 2 (some .int) ({ frames := 4, cells := 0, slots := 0, locals := 97 } : Room) [.ref (adr G 6 0), .int a1] M P := by
  refine met_by hG (own := RX6) rfl (by decide +kernel) (Nat.le_of_ble_eq_true rfl) (fun E hE X Y => ?_)
  show J G E 2 0 [(0, .ref (adr G 6 0)), (1, .int a1)] [] M
  unfold wp_X6_eventAt at h
  refine j_aload_n X 0 dX6_eventAt_0 rfl rfl ?_
  refine jf_RX6_20 X  dX6_eventAt_1 ?_
  refine j_iload_n X 1 dX6_eventAt_4 rfl rfl ?_
  refine jc_RX6_194 X ⟨Nat.le_of_ble_eq_true rfl, Nat.le_of_ble_eq_true rfl⟩ (Nat.le_of_ble_eq_true rfl) dX6_eventAt_5 (by decide) h (fun r2 M1 h => ?_)
  refine j_if_ne X 13 dX6_eventAt_8 (by decide) (fun c3 => ?_) (fun c3 => ?_)
  · replace h := h.1 c3
    refine j_aload_n X 0 dX6_eventAt_13 rfl rfl ?_
    refine jf_RX6_10 X  dX6_eventAt_14 ?_
    refine jc_RX6_142 X ⟨Nat.le_of_ble_eq_true rfl, Nat.le_of_ble_eq_true rfl⟩ (Nat.le_of_ble_eq_true rfl) dX6_eventAt_17 h (fun M4 h => ?_)
    refine j_aload_n X 0 dX6_eventAt_20 rfl rfl ?_
    refine jf_RX6_10 X  dX6_eventAt_21 ?_
    refine jf_RX6_221 X  dX6_eventAt_24 ?_
    refine j_iload_n X 1 dX6_eventAt_27 rfl rfl ?_
    have q5 := h.1
    replace h := h.2
    refine j_iald X _ rfl (mw121 0 (by decide)) kt121 lt121 q5 dX6_eventAt_28 ?_
    exact j_iret X Y dX6_eventAt_29 h
  · replace h := h.2 c3
    refine j_iconst (v := (-1 : Int32)) X (by decide) dX6_eventAt_11 ?_
    exact j_iret X Y dX6_eventAt_12 h
/-- LayeredClaims.claim(II)I -/
def wp_X6_claim (a1 : Int32) (a2 : Int32) (M : Mm) (P : Int32 → Mm → Prop) : Prop := (wp_X0_hasClaim 0 a1 M (fun (r2 : Int32) (M1 : Mm) => ((¬ r2 = 0 → (wp_X5_reckon  M1 (fun (M4 : Mm) => (vp_in a1 24 ∧ (wp_X5_payClaims (rd M4 36 0 a1.toNatClampNeg) (rd M4 37 0 a1.toNatClampNeg) M4 (fun (M6 : Mm) => ((a2 = 0 → P (rd M6 36 0 a1.toNatClampNeg) M6) ∧ (a2 = 1 → P (rd M6 37 0 a1.toNatClampNeg) M6) ∧ (a2 = 2 → P (rd M6 38 0 a1.toNatClampNeg) M6) ∧ (a2 = 3 → P (rd M6 123 0 a1.toNatClampNeg) M6) ∧ (a2 = 4 → P (rd M6 134 0 a1.toNatClampNeg) M6) ∧ (a2 = 5 → (wp_X5_reasonOfClaim a1 M6 (fun (r9 : Int32) (M8 : Mm) => P r9 M8))) ∧ (¬ a2 = 0 → ¬ a2 = 1 → ¬ a2 = 2 → ¬ a2 = 3 → ¬ a2 = 4 → ¬ a2 = 5 → P (-2 : Int32) M6)))))))) ∧ (r2 = 0 → P (-1 : Int32) M1))))
set_option maxHeartbeats 4000000 in
set_option maxRecDepth 100000 in
theorem met_X6_claim {l : Launch} {G : GT} (hG : GD G) (a1 : Int32) (a2 : Int32) (M : Mm) (P : Int32 → Mm → Prop) (h : wp_X6_claim a1 a2 M P) : MI l G yX6_claim cX6_claim 3 (some .int) ({ frames := 4, cells := 0, slots := 0, locals := 97 } : Room) [.ref (adr G 6 0), .int a1, .int a2] M P := by
  refine met_by hG (own := RX6) rfl (by decide +kernel) (Nat.le_of_ble_eq_true rfl) (fun E hE X Y => ?_)
  show J G E 3 0 [(0, .ref (adr G 6 0)), (1, .int a1), (2, .int a2)] [] M
  unfold wp_X6_claim at h
  refine j_aload_n X 0 dX6_claim_0 rfl rfl ?_
  refine jf_RX6_20 X  dX6_claim_1 ?_
  refine j_iload_n X 1 dX6_claim_4 rfl rfl ?_
  refine jc_RX6_224 X ⟨Nat.le_of_ble_eq_true rfl, Nat.le_of_ble_eq_true rfl⟩ (Nat.le_of_ble_eq_true rfl) dX6_claim_5 (by decide) h (fun r2 M1 h => ?_)
  refine j_if_ne X 13 dX6_claim_8 (by decide) (fun c3 => ?_) (fun c3 => ?_)
  · replace h := h.1 c3
    refine j_aload_n X 0 dX6_claim_13 rfl rfl ?_
    refine jf_RX6_10 X  dX6_claim_14 ?_
    refine jc_RX6_142 X ⟨Nat.le_of_ble_eq_true rfl, Nat.le_of_ble_eq_true rfl⟩ (Nat.le_of_ble_eq_true rfl) dX6_claim_17 h (fun M4 h => ?_)
    refine j_aload_n X 0 dX6_claim_20 rfl rfl ?_
    refine jf_RX6_10 X  dX6_claim_21 ?_
    refine j_aload_n X 0 dX6_claim_24 rfl rfl ?_
    refine jf_RX6_20 X  dX6_claim_25 ?_
    refine jf_RX6_227 X (by decide) dX6_claim_28 ?_
    refine j_iload_n X 1 dX6_claim_31 rfl rfl ?_
    have q5 := h.1
    replace h := h.2
    refine j_iald X _ rfl (mw36 0 (by decide)) kt36 lt36 q5 dX6_claim_32 ?_
    refine j_aload_n X 0 dX6_claim_33 rfl rfl ?_
    refine jf_RX6_20 X  dX6_claim_34 ?_
    refine jf_RX6_230 X (by decide) dX6_claim_37 ?_
    refine j_iload_n X 1 dX6_claim_40 rfl rfl ?_
    refine j_iald X _ rfl (mw37 0 (by decide)) kt37 lt37 q5 dX6_claim_41 ?_
    refine jc_RX6_233 X ⟨Nat.le_of_ble_eq_true rfl, Nat.le_of_ble_eq_true rfl⟩ (Nat.le_of_ble_eq_true rfl) dX6_claim_42 h (fun M6 h => ?_)
    refine j_iload_n X 2 dX6_claim_45 rfl rfl ?_
    refine j_ts_0_5 X (t0 := 84) (t1 := 94) (t2 := 104) (t3 := 114) (t4 := 124) (t5 := 134) (td := 143) dX6_claim_46 rfl (by decide) (by decide) (by decide) (by decide) (by decide) (by decide) (by decide) (fun c7 => ?_) (fun c7 => ?_) (fun c7 => ?_) (fun c7 => ?_) (fun c7 => ?_) (fun c7 => ?_) (fun c10 c11 c12 c13 c14 c15 => ?_)
    · replace h := h.1 c7
      refine j_aload_n X 0 dX6_claim_84 rfl rfl ?_
      refine jf_RX6_20 X  dX6_claim_85 ?_
      refine jf_RX6_227 X (by decide) dX6_claim_88 ?_
      refine j_iload_n X 1 dX6_claim_91 rfl rfl ?_
      refine j_iald X _ rfl (mw36 0 (by decide)) kt36 lt36 q5 dX6_claim_92 ?_
      exact j_iret X Y dX6_claim_93 h
    · replace h := h.2.1 c7
      refine j_aload_n X 0 dX6_claim_94 rfl rfl ?_
      refine jf_RX6_20 X  dX6_claim_95 ?_
      refine jf_RX6_230 X (by decide) dX6_claim_98 ?_
      refine j_iload_n X 1 dX6_claim_101 rfl rfl ?_
      refine j_iald X _ rfl (mw37 0 (by decide)) kt37 lt37 q5 dX6_claim_102 ?_
      exact j_iret X Y dX6_claim_103 h
    · replace h := h.2.2.1 c7
      refine j_aload_n X 0 dX6_claim_104 rfl rfl ?_
      refine jf_RX6_20 X  dX6_claim_105 ?_
      refine jf_RX6_237 X (by decide) dX6_claim_108 ?_
      refine j_iload_n X 1 dX6_claim_111 rfl rfl ?_
      refine j_iald X _ rfl (mw38 0 (by decide)) kt38 lt38 q5 dX6_claim_112 ?_
      exact j_iret X Y dX6_claim_113 h
    · replace h := h.2.2.2.1 c7
      refine j_aload_n X 0 dX6_claim_114 rfl rfl ?_
      refine jf_RX6_10 X  dX6_claim_115 ?_
      refine jf_RX6_240 X  dX6_claim_118 ?_
      refine j_iload_n X 1 dX6_claim_121 rfl rfl ?_
      refine j_iald X _ rfl (mw123 0 (by decide)) kt123 lt123 q5 dX6_claim_122 ?_
      exact j_iret X Y dX6_claim_123 h
    · replace h := h.2.2.2.2.1 c7
      refine j_aload_n X 0 dX6_claim_124 rfl rfl ?_
      refine jf_RX6_10 X  dX6_claim_125 ?_
      refine jf_RX6_243 X  dX6_claim_128 ?_
      refine j_iload_n X 1 dX6_claim_131 rfl rfl ?_
      refine j_iald X _ rfl (mw134 0 (by decide)) kt134 lt134 q5 dX6_claim_132 ?_
      exact j_iret X Y dX6_claim_133 h
    · replace h := h.2.2.2.2.2.1 c7
      refine j_aload_n X 0 dX6_claim_134 rfl rfl ?_
      refine jf_RX6_10 X  dX6_claim_135 ?_
      refine j_iload_n X 1 dX6_claim_138 rfl rfl ?_
      refine jc_RX6_246 X ⟨Nat.le_of_ble_eq_true rfl, Nat.le_of_ble_eq_true rfl⟩ (Nat.le_of_ble_eq_true rfl) dX6_claim_139 h (fun r9 M8 h => ?_)
      exact j_iret X Y dX6_claim_142 h
    · replace h := h.2.2.2.2.2.2 c10 c11 c12 c13 c14 c15
      refine j_bipush (v := (-2 : Int32)) X (by decide) dX6_claim_143 ?_
      exact j_iret X Y dX6_claim_145 h
  · replace h := h.2 c3
    refine j_iconst (v := (-1 : Int32)) X (by decide) dX6_claim_11 ?_
    exact j_iret X Y dX6_claim_12 h
/-- LayeredClaims.answerOf([[III)I -/
def wp_X6_answerOf (a1 : Nat × Nat) (a2 : Int32) (a3 : Int32) (M : Mm) (P : Int32 → Mm → Prop) : Prop := (wp_X0_hasEvent 0 a2 M (fun (r2 : Int32) (M1 : Mm) => ((r2 = 0 → P (-1 : Int32) M1) ∧ (¬ r2 = 0 → (wp_X0_hasCover 0 a3 M1 (fun (r5 : Int32) (M4 : Mm) => ((¬ r5 = 0 → (wp_X5_reckon  M4 (fun (M7 : Mm) => (AA (a1.1, a1.2) ∧ (vp_in a2 (lenT a1.1) ∧ (IA ((a1.1 + 200), a2.toNatClampNeg) ∧ (vp_in a3 (lenT (a1.1 + 200)) ∧ P (rd M7 (a1.1 + 200) a2.toNatClampNeg a3.toNatClampNeg) M7))))))) ∧ (r5 = 0 → P (-1 : Int32) M4))))))))
set_option maxHeartbeats 4000000 in
set_option maxRecDepth 100000 in
theorem met_X6_answerOf {l : Launch} {G : GT} (hG : GD G) (a1 : Nat × Nat) (a2 : Int32) (a3 : Int32) (M : Mm) (P : Int32 → Mm → Prop) (h : wp_X6_answerOf a1 a2 a3 M P) : MI l G yX6_answerOf cX6_answerOf 4 (some .int) ({ frames := 4, cells := 0, slots := 0, locals := 97 } : Room) [.ref (adr G 6 0), .ref (adr G a1.1 a1.2), .int a2, .int a3] M P := by
  refine met_by hG (own := RX6) rfl (by decide +kernel) (Nat.le_of_ble_eq_true rfl) (fun E hE X Y => ?_)
  show J G E 4 0 [(0, .ref (adr G 6 0)), (1, .ref (adr G a1.1 a1.2)), (2, .int a2), (3, .int a3)] [] M
  unfold wp_X6_answerOf at h
  refine j_aload_n X 0 dX6_answerOf_0 rfl rfl ?_
  refine jf_RX6_20 X  dX6_answerOf_1 ?_
  refine j_iload_n X 2 dX6_answerOf_4 rfl rfl ?_
  refine jc_RX6_194 X ⟨Nat.le_of_ble_eq_true rfl, Nat.le_of_ble_eq_true rfl⟩ (Nat.le_of_ble_eq_true rfl) dX6_answerOf_5 (by decide) h (fun r2 M1 h => ?_)
  refine j_if_eq X 22 dX6_answerOf_8 (by decide) (fun c3 => ?_) (fun c3 => ?_)
  · replace h := h.1 c3
    refine j_iconst (v := (-1 : Int32)) X (by decide) dX6_answerOf_22 ?_
    exact j_iret X Y dX6_answerOf_23 h
  · replace h := h.2 c3
    refine j_aload_n X 0 dX6_answerOf_11 rfl rfl ?_
    refine jf_RX6_20 X  dX6_answerOf_12 ?_
    refine j_iload_n X 3 dX6_answerOf_15 rfl rfl ?_
    refine jc_RX6_138 X ⟨Nat.le_of_ble_eq_true rfl, Nat.le_of_ble_eq_true rfl⟩ (Nat.le_of_ble_eq_true rfl) dX6_answerOf_16 (by decide) h (fun r5 M4 h => ?_)
    refine j_if_ne X 24 dX6_answerOf_19 (by decide) (fun c6 => ?_) (fun c6 => ?_)
    · replace h := h.1 c6
      refine j_aload_n X 0 dX6_answerOf_24 rfl rfl ?_
      refine jf_RX6_10 X  dX6_answerOf_25 ?_
      refine jc_RX6_142 X ⟨Nat.le_of_ble_eq_true rfl, Nat.le_of_ble_eq_true rfl⟩ (Nat.le_of_ble_eq_true rfl) dX6_answerOf_28 h (fun M7 h => ?_)
      refine j_aload_n X 1 dX6_answerOf_31 rfl rfl ?_
      refine j_iload_n X 2 dX6_answerOf_32 rfl rfl ?_
      have q8 := h.1
      replace h := h.2
      have q9 := h.1
      replace h := h.2
      refine j_aaldI X q8.1 q8.2 rfl q9 dX6_answerOf_33 ?_
      refine j_iload_n X 3 dX6_answerOf_34 rfl rfl ?_
      have q10 := h.1
      replace h := h.2
      have q11 := h.1
      replace h := h.2
      refine j_iald X _ rfl q10.1 q10.2 rfl q11 dX6_answerOf_35 ?_
      exact j_iret X Y dX6_answerOf_36 h
    · replace h := h.2 c6
      refine j_iconst (v := (-1 : Int32)) X (by decide) dX6_answerOf_22 ?_
      exact j_iret X Y dX6_answerOf_23 h
theorem jc_RX6_253 {G : GT} {E : ET} {cc : ByteArray} {nL pc : Nat} {rm : Room} {lv : List (Nat × Value)} {st : List Value} {M : Mm} (X : CX G E RX6 cc nL rm) (hR : 4 + 1 ≤ rm.frames ∧ 8 + (4 + 11) + 97 ≤ rm.locals) (hst : (st.map fun v => v.category).sum ≤ 8) (d : decode cc pc = .ok (.invokevirtual 253, 3)) {a1t a1b : Nat} {a2 : Int32} {a3 : Int32} {P : Int32 → Mm → Prop} (h : wp_X6_answerOf (a1t, a1b) a2 a3 M P) (k1 : ∀ (r : Int32) (M2 : Mm), P r M2 → J G E nL (pc + 3) lv (.int r :: st) M2) : J G E nL pc lv (.int a3 :: .int a2 :: .ref (adr G a1t a1b) :: .ref (adr G 6 0) :: st) M := fun H locs ls hP hS hl => by
  have hK := X.2.2.2.2.2.1.1
  have hm := met_X6_answerOf (l := eL E) X.2.2.2.2.2.2.1 (a1t, a1b) a2 a3 M P h
  have hR2 : 4 + 1 ≤ (eR E).frames ∧ 8 + (4 + 11) + 97 ≤ (eR E).locals := by rw [X.2.2.2.2.2.2.2.1]; exact hR
  have hC2 : eCells E + 0 ≤ (eR E).cells ∧ eSlots E + 0 ≤ (eR E).slots := by rw [X.2.2.2.2.2.2.2.1]; exact ⟨X.2.2.2.2.2.2.2.2.1, X.2.2.2.2.2.2.2.2.2⟩
  obtain ⟨q0, -, hq⟩ := wld_get (G := G) M (mw6 0 (by decide))
  exact va_calli (va_runV (C := RX6) (As := [.ref (adr G a1t a1b), .int a2, .int a3]) (rest := st) ⟨X.1, X.2.1, X.2.2.1, X.2.2.2.1, X.2.2.2.2.1⟩ hm (cwV (ws' := lw_aw) 3 X.2.2.2.2.1 (gwV (tw (i := 688) (by decide +kernel)) (tw (i := 690) (by decide +kernel)) (tw (i := 17) (by decide +kernel)) (tw (i := 71) (by decide +kernel)) (tw (i := 691) (by decide +kernel))) rfl rfl rfl (by decide +kernel) hR2) ⟨hr_blind, va_recv hK hP (ci := 6) (q := (RX6, TX6, 8)) (fs := objF6 G 0 (M.1 6 0)) (q0 := q0) rfl hq, fun U hU hW => ⟨rfl, by rw [hU]; exact hP, KK.warm hW X.2.2.2.2.2.1⟩⟩ rfl rfl hl.1 rfl (lv_room hst) d hC2) hS (fun q _ h => h) (fun q h => h) (fun r u t H1 locs1 ht hvm hw hB hz1 hk1 hS1 => k1 r u hw H1 locs1 ls (by rw [← ht]; exact hB.1) hS1 hl)
/-- LayeredClaims.gross(II)I -/
def wp_X6_gross (a1 : Int32) (a2 : Int32) (M : Mm) (P : Int32 → Mm → Prop) : Prop := (wp_X6_answerOf (125, 0) a1 a2 M (fun (r2 : Int32) (M1 : Mm) => P r2 M1))
set_option maxHeartbeats 4000000 in
set_option maxRecDepth 100000 in
theorem met_X6_gross {l : Launch} {G : GT} (hG : GD G) (a1 : Int32) (a2 : Int32) (M : Mm) (P : Int32 → Mm → Prop) (h : wp_X6_gross a1 a2 M P) : MI l G yX6_gross cX6_gross 3 (some .int) ({ frames := 5, cells := 0, slots := 0, locals := 120 } : Room) [.ref (adr G 6 0), .int a1, .int a2] M P := by
  refine met_by hG (own := RX6) rfl (by decide +kernel) (Nat.le_of_ble_eq_true rfl) (fun E hE X Y => ?_)
  show J G E 3 0 [(0, .ref (adr G 6 0)), (1, .int a1), (2, .int a2)] [] M
  unfold wp_X6_gross at h
  refine j_aload_n X 0 dX6_gross_0 rfl rfl ?_
  refine j_aload_n X 0 dX6_gross_1 rfl rfl ?_
  refine jf_RX6_10 X  dX6_gross_2 ?_
  refine jf_RX6_249 X  dX6_gross_5 ?_
  refine j_iload_n X 1 dX6_gross_8 rfl rfl ?_
  refine j_iload_n X 2 dX6_gross_9 rfl rfl ?_
  refine jc_RX6_253 X ⟨Nat.le_of_ble_eq_true rfl, Nat.le_of_ble_eq_true rfl⟩ (Nat.le_of_ble_eq_true rfl) dX6_gross_10 h (fun r2 M1 h => ?_)
  exact j_iret X Y dX6_gross_13 h
/-- LayeredClaims.deducted(II)I -/
def wp_X6_deducted (a1 : Int32) (a2 : Int32) (M : Mm) (P : Int32 → Mm → Prop) : Prop := (wp_X6_answerOf (126, 0) a1 a2 M (fun (r2 : Int32) (M1 : Mm) => P r2 M1))
set_option maxHeartbeats 4000000 in
set_option maxRecDepth 100000 in
theorem met_X6_deducted {l : Launch} {G : GT} (hG : GD G) (a1 : Int32) (a2 : Int32) (M : Mm) (P : Int32 → Mm → Prop) (h : wp_X6_deducted a1 a2 M P) : MI l G yX6_deducted cX6_deducted 3 (some .int) ({ frames := 5, cells := 0, slots := 0, locals := 120 } : Room) [.ref (adr G 6 0), .int a1, .int a2] M P := by
  refine met_by hG (own := RX6) rfl (by decide +kernel) (Nat.le_of_ble_eq_true rfl) (fun E hE X Y => ?_)
  show J G E 3 0 [(0, .ref (adr G 6 0)), (1, .int a1), (2, .int a2)] [] M
  unfold wp_X6_deducted at h
  refine j_aload_n X 0 dX6_deducted_0 rfl rfl ?_
  refine j_aload_n X 0 dX6_deducted_1 rfl rfl ?_
  refine jf_RX6_10 X  dX6_deducted_2 ?_
  refine jf_RX6_257 X  dX6_deducted_5 ?_
  refine j_iload_n X 1 dX6_deducted_8 rfl rfl ?_
  refine j_iload_n X 2 dX6_deducted_9 rfl rfl ?_
  refine jc_RX6_253 X ⟨Nat.le_of_ble_eq_true rfl, Nat.le_of_ble_eq_true rfl⟩ (Nat.le_of_ble_eq_true rfl) dX6_deducted_10 h (fun r2 M1 h => ?_)
  exact j_iret X Y dX6_deducted_13 h
/-- LayeredClaims.paid(II)I -/
def wp_X6_paid (a1 : Int32) (a2 : Int32) (M : Mm) (P : Int32 → Mm → Prop) : Prop := (wp_X6_answerOf (128, 0) a1 a2 M (fun (r2 : Int32) (M1 : Mm) => P r2 M1))
set_option maxHeartbeats 4000000 in
set_option maxRecDepth 100000 in
theorem met_X6_paid {l : Launch} {G : GT} (hG : GD G) (a1 : Int32) (a2 : Int32) (M : Mm) (P : Int32 → Mm → Prop) (h : wp_X6_paid a1 a2 M P) : MI l G yX6_paid cX6_paid 3 (some .int) ({ frames := 5, cells := 0, slots := 0, locals := 120 } : Room) [.ref (adr G 6 0), .int a1, .int a2] M P := by
  refine met_by hG (own := RX6) rfl (by decide +kernel) (Nat.le_of_ble_eq_true rfl) (fun E hE X Y => ?_)
  show J G E 3 0 [(0, .ref (adr G 6 0)), (1, .int a1), (2, .int a2)] [] M
  unfold wp_X6_paid at h
  refine j_aload_n X 0 dX6_paid_0 rfl rfl ?_
  refine j_aload_n X 0 dX6_paid_1 rfl rfl ?_
  refine jf_RX6_10 X  dX6_paid_2 ?_
  refine jf_RX6_260 X  dX6_paid_5 ?_
  refine j_iload_n X 1 dX6_paid_8 rfl rfl ?_
  refine j_iload_n X 2 dX6_paid_9 rfl rfl ?_
  refine jc_RX6_253 X ⟨Nat.le_of_ble_eq_true rfl, Nat.le_of_ble_eq_true rfl⟩ (Nat.le_of_ble_eq_true rfl) dX6_paid_10 h (fun r2 M1 h => ?_)
  exact j_iret X Y dX6_paid_13 h
/-- LayeredClaims.leftBefore(II)I -/
def wp_X6_leftBefore (a1 : Int32) (a2 : Int32) (M : Mm) (P : Int32 → Mm → Prop) : Prop := (wp_X6_answerOf (127, 0) a1 a2 M (fun (r2 : Int32) (M1 : Mm) => P r2 M1))
set_option maxHeartbeats 4000000 in
set_option maxRecDepth 100000 in
theorem met_X6_leftBefore {l : Launch} {G : GT} (hG : GD G) (a1 : Int32) (a2 : Int32) (M : Mm) (P : Int32 → Mm → Prop) (h : wp_X6_leftBefore a1 a2 M P) : MI l G yX6_leftBefore cX6_leftBefore 3 (some .int) ({ frames := 5, cells := 0, slots := 0, locals := 120 } : Room) [.ref (adr G 6 0), .int a1, .int a2] M P := by
  refine met_by hG (own := RX6) rfl (by decide +kernel) (Nat.le_of_ble_eq_true rfl) (fun E hE X Y => ?_)
  show J G E 3 0 [(0, .ref (adr G 6 0)), (1, .int a1), (2, .int a2)] [] M
  unfold wp_X6_leftBefore at h
  refine j_aload_n X 0 dX6_leftBefore_0 rfl rfl ?_
  refine j_aload_n X 0 dX6_leftBefore_1 rfl rfl ?_
  refine jf_RX6_10 X  dX6_leftBefore_2 ?_
  refine jf_RX6_263 X  dX6_leftBefore_5 ?_
  refine j_iload_n X 1 dX6_leftBefore_8 rfl rfl ?_
  refine j_iload_n X 2 dX6_leftBefore_9 rfl rfl ?_
  refine jc_RX6_253 X ⟨Nat.le_of_ble_eq_true rfl, Nat.le_of_ble_eq_true rfl⟩ (Nat.le_of_ble_eq_true rfl) dX6_leftBefore_10 h (fun r2 M1 h => ?_)
  exact j_iret X Y dX6_leftBefore_13 h
/-- LayeredClaims.borne(II)I -/
def wp_X6_borne (a1 : Int32) (a2 : Int32) (M : Mm) (P : Int32 → Mm → Prop) : Prop := (wp_X0_hasEvent 0 a1 M (fun (r2 : Int32) (M1 : Mm) => ((r2 = 0 → P (-1 : Int32) M1) ∧ (¬ r2 = 0 → (wp_X0_hasLayer 0 a2 M1 (fun (r5 : Int32) (M4 : Mm) => ((¬ r5 = 0 → (wp_X5_reckon  M4 (fun (M7 : Mm) => (vp_in a1 8 ∧ (a1.toNatClampNeg < 8 ∧ (vp_in a2 4 ∧ P (rd M7 331 a1.toNatClampNeg a2.toNatClampNeg) M7)))))) ∧ (r5 = 0 → P (-1 : Int32) M4))))))))
set_option maxHeartbeats 4000000 in
set_option maxRecDepth 100000 in
theorem met_X6_borne {l : Launch} {G : GT} (hG : GD G) (a1 : Int32) (a2 : Int32) (M : Mm) (P : Int32 → Mm → Prop) (h : wp_X6_borne a1 a2 M P) : MI l G yX6_borne cX6_borne 3 (some .int) ({ frames := 4, cells := 0, slots := 0, locals := 97 } : Room) [.ref (adr G 6 0), .int a1, .int a2] M P := by
  refine met_by hG (own := RX6) rfl (by decide +kernel) (Nat.le_of_ble_eq_true rfl) (fun E hE X Y => ?_)
  show J G E 3 0 [(0, .ref (adr G 6 0)), (1, .int a1), (2, .int a2)] [] M
  unfold wp_X6_borne at h
  refine j_aload_n X 0 dX6_borne_0 rfl rfl ?_
  refine jf_RX6_20 X  dX6_borne_1 ?_
  refine j_iload_n X 1 dX6_borne_4 rfl rfl ?_
  refine jc_RX6_194 X ⟨Nat.le_of_ble_eq_true rfl, Nat.le_of_ble_eq_true rfl⟩ (Nat.le_of_ble_eq_true rfl) dX6_borne_5 (by decide) h (fun r2 M1 h => ?_)
  refine j_if_eq X 22 dX6_borne_8 (by decide) (fun c3 => ?_) (fun c3 => ?_)
  · replace h := h.1 c3
    refine j_iconst (v := (-1 : Int32)) X (by decide) dX6_borne_22 ?_
    exact j_iret X Y dX6_borne_23 h
  · replace h := h.2 c3
    refine j_aload_n X 0 dX6_borne_11 rfl rfl ?_
    refine jf_RX6_20 X  dX6_borne_12 ?_
    refine j_iload_n X 2 dX6_borne_15 rfl rfl ?_
    refine jc_RX6_160 X ⟨Nat.le_of_ble_eq_true rfl, Nat.le_of_ble_eq_true rfl⟩ (Nat.le_of_ble_eq_true rfl) dX6_borne_16 (by decide) h (fun r5 M4 h => ?_)
    refine j_if_ne X 24 dX6_borne_19 (by decide) (fun c6 => ?_) (fun c6 => ?_)
    · replace h := h.1 c6
      refine j_aload_n X 0 dX6_borne_24 rfl rfl ?_
      refine jf_RX6_10 X  dX6_borne_25 ?_
      refine jc_RX6_142 X ⟨Nat.le_of_ble_eq_true rfl, Nat.le_of_ble_eq_true rfl⟩ (Nat.le_of_ble_eq_true rfl) dX6_borne_28 h (fun M7 h => ?_)
      refine j_aload_n X 0 dX6_borne_31 rfl rfl ?_
      refine jf_RX6_10 X  dX6_borne_32 ?_
      refine jf_RX6_266 X  dX6_borne_35 ?_
      refine j_iload_n X 1 dX6_borne_38 rfl rfl ?_
      have q8 := h.1
      replace h := h.2
      refine j_aaldI X (mw131 0 (by decide)) kt131 lt131 q8 dX6_borne_39 ?_
      refine j_iload_n X 2 dX6_borne_40 rfl rfl ?_
      have q9 := h.1
      replace h := h.2
      have q10 := h.1
      replace h := h.2
      refine j_iald X _ rfl (mw331 a1.toNatClampNeg q9) kt331 lt331 q10 dX6_borne_41 ?_
      exact j_iret X Y dX6_borne_42 h
    · replace h := h.2 c6
      refine j_iconst (v := (-1 : Int32)) X (by decide) dX6_borne_22 ?_
      exact j_iret X Y dX6_borne_23 h
/-- LayeredClaims.returned(II)I -/
def wp_X6_returned (a1 : Int32) (a2 : Int32) (M : Mm) (P : Int32 → Mm → Prop) : Prop := (wp_X0_hasEvent 0 a1 M (fun (r2 : Int32) (M1 : Mm) => ((r2 = 0 → P (-1 : Int32) M1) ∧ (¬ r2 = 0 → (wp_X6_isWithin a2 (0 : Int32) (rd M1 0 0 5) M1 (fun (r5 : Int32) (M4 : Mm) => ((¬ r5 = 0 → (wp_X5_reckon  M4 (fun (M7 : Mm) => (wp_X5_partOfBurden a1 a2 M7 (fun (r9 : Int32) (M8 : Mm) => (vp_in a1 8 ∧ (∀ x11 : Int32, x11 = (rd M8 34 0 a1.toNatClampNeg) → (∀ M12 : Mm, M12 = wr M8 34 0 a1.toNatClampNeg (0 : Int32) → (wp_X5_reckon  M12 (fun (M13 : Mm) => (∀ M14 : Mm, M14 = wr M13 34 0 a1.toNatClampNeg x11 → (wp_X5_partOfBurden a1 a2 M14 (fun (r16 : Int32) (M15 : Mm) => P (r16 - r9) M15))))))))))))) ∧ (r5 = 0 → P (-1 : Int32) M4))))))))
set_option maxHeartbeats 4000000 in
set_option maxRecDepth 100000 in
theorem met_X6_returned {l : Launch} {G : GT} (hG : GD G) (a1 : Int32) (a2 : Int32) (M : Mm) (P : Int32 → Mm → Prop) (h : wp_X6_returned a1 a2 M P) : MI l G yX6_returned cX6_returned 5 (some .int) ({ frames := 4, cells := 0, slots := 0, locals := 97 } : Room) [.ref (adr G 6 0), .int a1, .int a2] M P := by
  refine met_by hG (own := RX6) rfl (by decide +kernel) (Nat.le_of_ble_eq_true rfl) (fun E hE X Y => ?_)
  show J G E 5 0 [(0, .ref (adr G 6 0)), (1, .int a1), (2, .int a2)] [] M
  unfold wp_X6_returned at h
  refine j_aload_n X 0 dX6_returned_0 rfl rfl ?_
  refine jf_RX6_20 X  dX6_returned_1 ?_
  refine j_iload_n X 1 dX6_returned_4 rfl rfl ?_
  refine jc_RX6_194 X ⟨Nat.le_of_ble_eq_true rfl, Nat.le_of_ble_eq_true rfl⟩ (Nat.le_of_ble_eq_true rfl) dX6_returned_5 (by decide) h (fun r2 M1 h => ?_)
  refine j_if_eq X 26 dX6_returned_8 (by decide) (fun c3 => ?_) (fun c3 => ?_)
  · replace h := h.1 c3
    refine j_iconst (v := (-1 : Int32)) X (by decide) dX6_returned_26 ?_
    exact j_iret X Y dX6_returned_27 h
  · replace h := h.2 c3
    refine j_iload_n X 2 dX6_returned_11 rfl rfl ?_
    refine j_iconst (v := (0 : Int32)) X (by decide) dX6_returned_12 ?_
    refine j_aload_n X 0 dX6_returned_13 rfl rfl ?_
    refine jf_RX6_20 X  dX6_returned_14 ?_
    refine jf_RX6_123 X (by decide) dX6_returned_17 ?_
    refine jc_RX6_187 X ⟨Nat.le_of_ble_eq_true rfl, Nat.le_of_ble_eq_true rfl⟩ (Nat.le_of_ble_eq_true rfl) dX6_returned_20 h (fun r5 M4 h => ?_)
    refine j_if_ne X 28 dX6_returned_23 (by decide) (fun c6 => ?_) (fun c6 => ?_)
    · replace h := h.1 c6
      refine j_aload_n X 0 dX6_returned_28 rfl rfl ?_
      refine jf_RX6_10 X  dX6_returned_29 ?_
      refine jc_RX6_142 X ⟨Nat.le_of_ble_eq_true rfl, Nat.le_of_ble_eq_true rfl⟩ (Nat.le_of_ble_eq_true rfl) dX6_returned_32 h (fun M7 h => ?_)
      refine j_aload_n X 0 dX6_returned_35 rfl rfl ?_
      refine jf_RX6_10 X  dX6_returned_36 ?_
      refine j_iload_n X 1 dX6_returned_39 rfl rfl ?_
      refine j_iload_n X 2 dX6_returned_40 rfl rfl ?_
      refine jc_RX6_269 X ⟨Nat.le_of_ble_eq_true rfl, Nat.le_of_ble_eq_true rfl⟩ (Nat.le_of_ble_eq_true rfl) dX6_returned_41 h (fun r9 M8 h => ?_)
      refine j_istore_n X [(3, .int r9), (0, .ref (adr G 6 0)), (1, .int a1), (2, .int a2)] dX6_returned_44 rfl (by decide) rfl ?_
      refine j_aload_n X 1 dX6_returned_45 rfl rfl ?_
      refine jf_RX6_20 X  dX6_returned_46 ?_
      refine jf_RX6_200 X (by decide) dX6_returned_49 ?_
      refine j_iload_n X 2 dX6_returned_52 rfl rfl ?_
      have q10 := h.1
      replace h := h.2
      refine j_iald X _ rfl (mw34 0 (by decide)) kt34 lt34 q10 dX6_returned_53 ?_
      refine j_topi (fun x11 ex11 => ?_)
      replace h := h x11 ex11
      refine j_istore X [(4, .int x11), (3, .int r9), (0, .ref (adr G 6 0)), (1, .int a1), (2, .int a2)] dX6_returned_54 (by decide) rfl ?_
      refine j_aload_n X 2 dX6_returned_56 rfl rfl ?_
      refine jf_RX6_20 X  dX6_returned_57 ?_
      refine jf_RX6_200 X (by decide) dX6_returned_60 ?_
      refine j_iload_n X 3 dX6_returned_63 rfl rfl ?_
      refine j_iconst (v := (0 : Int32)) X (by decide) dX6_returned_64 ?_
      refine j_iast X _ rfl (mw34 0 (by decide)) kt34 lt34 q10 dX6_returned_65 ?_
      refine j_memo (fun M12 eM12 => ?_)
      replace h := h M12 eM12
      refine j_aload_n X 2 dX6_returned_66 rfl rfl ?_
      refine jf_RX6_10 X  dX6_returned_67 ?_
      refine jc_RX6_142 X ⟨Nat.le_of_ble_eq_true rfl, Nat.le_of_ble_eq_true rfl⟩ (Nat.le_of_ble_eq_true rfl) dX6_returned_70 h (fun M13 h => ?_)
      refine j_aload_n X 2 dX6_returned_73 rfl rfl ?_
      refine jf_RX6_20 X  dX6_returned_74 ?_
      refine jf_RX6_200 X (by decide) dX6_returned_77 ?_
      refine j_iload_n X 3 dX6_returned_80 rfl rfl ?_
      refine j_iload X 0 dX6_returned_81 rfl ?_
      refine j_iast X _ rfl (mw34 0 (by decide)) kt34 lt34 q10 dX6_returned_83 ?_
      refine j_memo (fun M14 eM14 => ?_)
      replace h := h M14 eM14
      refine j_aload_n X 2 dX6_returned_84 rfl rfl ?_
      refine jf_RX6_10 X  dX6_returned_85 ?_
      refine j_iload_n X 3 dX6_returned_88 rfl rfl ?_
      refine j_iload_n X 4 dX6_returned_89 rfl rfl ?_
      refine jc_RX6_269 X ⟨Nat.le_of_ble_eq_true rfl, Nat.le_of_ble_eq_true rfl⟩ (Nat.le_of_ble_eq_true rfl) dX6_returned_90 h (fun r16 M15 h => ?_)
      refine j_iload_n X 1 dX6_returned_93 rfl rfl ?_
      refine j_isub X dX6_returned_94 ?_
      exact j_iret X Y dX6_returned_95 h
    · replace h := h.2 c6
      refine j_iconst (v := (-1 : Int32)) X (by decide) dX6_returned_26 ?_
      exact j_iret X Y dX6_returned_27 h
/-- LayeredClaims.place(I)I -/
def wp_X6_place (a1 : Int32) (M : Mm) (P : Int32 → Mm → Prop) : Prop := (wp_X0_hasEvent 0 a1 M (fun (r2 : Int32) (M1 : Mm) => ((¬ r2 = 0 → (wp_X5_reckon  M1 (fun (M4 : Mm) => (∃ n, lq2 (fun self5 (x7 : Int32) (x8 : Int32) => (((rd M4 0 0 5) ≤ x8 → P x7 M4) ∧ (¬ (rd M4 0 0 5) ≤ x8 → (vp_in a1 8 ∧ (a1.toNatClampNeg < 8 ∧ (vp_in x8 4 ∧ (jn (fun (x13 : Int32) => (∀ x16 : Int32, x16 = x8 + (1 : Int32) → self5 x13 x16)) (fun J14 : Int32 → Prop => (((rd M4 331 a1.toNatClampNeg x8.toNatClampNeg) ≤ 0 → J14 x7) ∧ (¬ (rd M4 331 a1.toNatClampNeg x8.toNatClampNeg) ≤ 0 → (∀ x18 : Int32, x18 = (x8 + (1 : Int32)) → J14 x18))))))))))) n (0 : Int32) (0 : Int32))))) ∧ (r2 = 0 → P (-1 : Int32) M1))))
set_option maxHeartbeats 4000000 in
set_option maxRecDepth 100000 in
theorem met_X6_place {l : Launch} {G : GT} (hG : GD G) (a1 : Int32) (M : Mm) (P : Int32 → Mm → Prop) (h : wp_X6_place a1 M P) : MI l G yX6_place cX6_place 4 (some .int) ({ frames := 4, cells := 0, slots := 0, locals := 97 } : Room) [.ref (adr G 6 0), .int a1] M P := by
  refine met_by hG (own := RX6) rfl (by decide +kernel) (Nat.le_of_ble_eq_true rfl) (fun E hE X Y => ?_)
  show J G E 4 0 [(0, .ref (adr G 6 0)), (1, .int a1)] [] M
  unfold wp_X6_place at h
  refine j_aload_n X 0 dX6_place_0 rfl rfl ?_
  refine jf_RX6_20 X  dX6_place_1 ?_
  refine j_iload_n X 1 dX6_place_4 rfl rfl ?_
  refine jc_RX6_194 X ⟨Nat.le_of_ble_eq_true rfl, Nat.le_of_ble_eq_true rfl⟩ (Nat.le_of_ble_eq_true rfl) dX6_place_5 (by decide) h (fun r2 M1 h => ?_)
  refine j_if_ne X 13 dX6_place_8 (by decide) (fun c3 => ?_) (fun c3 => ?_)
  · replace h := h.1 c3
    refine j_aload_n X 0 dX6_place_13 rfl rfl ?_
    refine jf_RX6_10 X  dX6_place_14 ?_
    refine jc_RX6_142 X ⟨Nat.le_of_ble_eq_true rfl, Nat.le_of_ble_eq_true rfl⟩ (Nat.le_of_ble_eq_true rfl) dX6_place_17 h (fun M4 h => ?_)
    refine j_iconst (v := (0 : Int32)) X (by decide) dX6_place_20 ?_
    refine j_istore_n X [(2, .int (0 : Int32)), (0, .ref (adr G 6 0)), (1, .int a1)] dX6_place_21 rfl (by decide) rfl ?_
    refine j_iconst (v := (0 : Int32)) X (by decide) dX6_place_22 ?_
    refine j_istore_n X [(3, .int (0 : Int32)), (2, .int (0 : Int32)), (0, .ref (adr G 6 0)), (1, .int a1)] dX6_place_23 rfl (by decide) rfl ?_
    refine j_sub [2, 3, 1, 0] rfl ?_
    refine lq2_s h (fun (x7 : Int32) (x8 : Int32) => J G E 4 24 [(0, .ref (adr G 6 0)), (1, .int a1), (2, .int x7), (3, .int x8)] [] M4) (fun self5 ih6 x7 x8 h => ?_) id
    refine j_iload_n X 3 dX6_place_24 rfl rfl ?_
    refine j_aload_n X 0 dX6_place_25 rfl rfl ?_
    refine jf_RX6_20 X  dX6_place_26 ?_
    refine jf_RX6_123 X (by decide) dX6_place_29 ?_
    refine j_icmp_ge X 59 dX6_place_32 (by decide) (fun c9 => ?_) (fun c9 => ?_)
    · replace h := h.1 c9
      refine j_iload_n X 2 dX6_place_59 rfl rfl ?_
      exact j_iret X Y dX6_place_60 h
    · replace h := h.2 c9
      refine j_aload_n X 0 dX6_place_35 rfl rfl ?_
      refine jf_RX6_10 X  dX6_place_36 ?_
      refine jf_RX6_266 X  dX6_place_39 ?_
      refine j_iload_n X 1 dX6_place_42 rfl rfl ?_
      have q10 := h.1
      replace h := h.2
      refine j_aaldI X (mw131 0 (by decide)) kt131 lt131 q10 dX6_place_43 ?_
      refine j_iload_n X 3 dX6_place_44 rfl rfl ?_
      have q11 := h.1
      replace h := h.2
      have q12 := h.1
      replace h := h.2
      refine j_iald X _ rfl (mw331 a1.toNatClampNeg q11) kt331 lt331 q12 dX6_place_45 ?_
      refine jn1_s h (fun (x13 : Int32) => J G E 4 53 [(0, .ref (adr G 6 0)), (1, .int a1), (2, .int x13), (3, .int x8)] [] M4) (fun x13 h => ?_) (fun J14 hj15 h => ?_)
      · obtain ⟨x16, ex16⟩ : ∃ z : Int32, z = x8 + (1 : Int32) := ⟨_, rfl⟩
        replace h := h x16 ex16
        refine j_iinc (v := x16) X 3 [(3, .int x16), (0, .ref (adr G 6 0)), (1, .int a1), (2, .int x13)] dX6_place_53 rfl (by rw [ex16]; rfl) (by decide) rfl ?_
        refine j_goto X 24 dX6_place_56 (by decide) ?_
        refine j_sub [1, 2, 3, 0] rfl ?_
        exact ih6 x13 x16 h
      · refine j_if_le X 53 dX6_place_46 (by decide) (fun c17 => ?_) (fun c17 => ?_)
        · replace h := h.1 c17
          refine j_sub [0, 1, 2, 3] rfl ?_
          exact hj15 x7 h
        · replace h := h.2 c17
          refine j_iload_n X 3 dX6_place_49 rfl rfl ?_
          refine j_iconst (v := (1 : Int32)) X (by decide) dX6_place_50 ?_
          refine j_iadd X dX6_place_51 ?_
          refine j_topi (fun x18 ex18 => ?_)
          replace h := h x18 ex18
          refine j_istore_n X [(2, .int x18), (0, .ref (adr G 6 0)), (1, .int a1), (3, .int x8)] dX6_place_52 rfl (by decide) rfl ?_
          refine j_sub [1, 2, 0, 3] rfl ?_
          exact hj15 x18 h
  · replace h := h.2 c3
    refine j_iconst (v := (-1 : Int32)) X (by decide) dX6_place_11 ?_
    exact j_iret X Y dX6_place_12 h
/-- LayeredClaims.worst()I -/
def wp_X6_worst  (M : Mm) (P : Int32 → Mm → Prop) : Prop := ((¬ (rd M 0 0 12) = 0 → (wp_X5_reckon  M (fun (M2 : Mm) => (∀ x3 : Int32, x3 = (rd M2 121 0 0) → (∃ n, lq2 (fun self4 (x6 : Int32) (x7 : Int32) => (((rd M2 0 0 12) ≤ x7 → P x6 M2) ∧ (¬ (rd M2 0 0 12) ≤ x7 → (vp_in x7 8 ∧ (∀ x10 : Int32, x10 = (rd M2 121 0 x7.toNatClampNeg) → (vp_in x10 8 ∧ (vp_in x6 8 ∧ (jn (fun (x13 : Int32) => (∀ x16 : Int32, x16 = x7 + (1 : Int32) → self4 x13 x16)) (fun J14 : Int32 → Prop => (((rd M2 130 0 x10.toNatClampNeg) ≤ (rd M2 130 0 x6.toNatClampNeg) → J14 x6) ∧ (¬ (rd M2 130 0 x10.toNatClampNeg) ≤ (rd M2 130 0 x6.toNatClampNeg) → J14 x10))))))))))) n x3 (1 : Int32)))))) ∧ ((rd M 0 0 12) = 0 → P (-4 : Int32) M))
set_option maxHeartbeats 4000000 in
set_option maxRecDepth 100000 in
theorem met_X6_worst {l : Launch} {G : GT} (hG : GD G)  (M : Mm) (P : Int32 → Mm → Prop) (h : wp_X6_worst  M P) : MI l G yX6_worst cX6_worst 4 (some .int) ({ frames := 4, cells := 0, slots := 0, locals := 97 } : Room) [.ref (adr G 6 0)] M P := by
  refine met_by hG (own := RX6) rfl (by decide +kernel) (Nat.le_of_ble_eq_true rfl) (fun E hE X Y => ?_)
  show J G E 4 0 [(0, .ref (adr G 6 0))] [] M
  unfold wp_X6_worst at h
  refine j_aload_n X 0 dX6_worst_0 rfl rfl ?_
  refine jf_RX6_20 X  dX6_worst_1 ?_
  refine jf_RX6_126 X (by decide) dX6_worst_4 ?_
  refine j_if_ne X 13 dX6_worst_7 (by decide) (fun c1 => ?_) (fun c1 => ?_)
  · replace h := h.1 c1
    refine j_aload_n X 0 dX6_worst_13 rfl rfl ?_
    refine jf_RX6_10 X  dX6_worst_14 ?_
    refine jc_RX6_142 X ⟨Nat.le_of_ble_eq_true rfl, Nat.le_of_ble_eq_true rfl⟩ (Nat.le_of_ble_eq_true rfl) dX6_worst_17 h (fun M2 h => ?_)
    refine j_aload_n X 0 dX6_worst_20 rfl rfl ?_
    refine jf_RX6_10 X  dX6_worst_21 ?_
    refine jf_RX6_221 X  dX6_worst_24 ?_
    refine j_iconst (v := (0 : Int32)) X (by decide) dX6_worst_27 ?_
    refine j_iald X 0 (by decide) (mw121 0 (by decide)) kt121 lt121 (vpc (by decide)) dX6_worst_28 ?_
    refine j_topi (fun x3 ex3 => ?_)
    replace h := h x3 ex3
    refine j_istore_n X [(1, .int x3), (0, .ref (adr G 6 0))] dX6_worst_29 rfl (by decide) rfl ?_
    refine j_iconst (v := (1 : Int32)) X (by decide) dX6_worst_30 ?_
    refine j_istore_n X [(2, .int (1 : Int32)), (1, .int x3), (0, .ref (adr G 6 0))] dX6_worst_31 rfl (by decide) rfl ?_
    refine j_sub [2, 1, 0] rfl ?_
    refine lq2_s h (fun (x6 : Int32) (x7 : Int32) => J G E 4 32 [(0, .ref (adr G 6 0)), (1, .int x6), (2, .int x7)] [] M2) (fun self4 ih5 x6 x7 h => ?_) id
    refine j_iload_n X 2 dX6_worst_32 rfl rfl ?_
    refine j_aload_n X 0 dX6_worst_33 rfl rfl ?_
    refine jf_RX6_20 X  dX6_worst_34 ?_
    refine jf_RX6_126 X (by decide) dX6_worst_37 ?_
    refine j_icmp_ge X 82 dX6_worst_40 (by decide) (fun c8 => ?_) (fun c8 => ?_)
    · replace h := h.1 c8
      refine j_iload_n X 1 dX6_worst_82 rfl rfl ?_
      exact j_iret X Y dX6_worst_83 h
    · replace h := h.2 c8
      refine j_aload_n X 0 dX6_worst_43 rfl rfl ?_
      refine jf_RX6_10 X  dX6_worst_44 ?_
      refine jf_RX6_221 X  dX6_worst_47 ?_
      refine j_iload_n X 2 dX6_worst_50 rfl rfl ?_
      have q9 := h.1
      replace h := h.2
      refine j_iald X _ rfl (mw121 0 (by decide)) kt121 lt121 q9 dX6_worst_51 ?_
      refine j_topi (fun x10 ex10 => ?_)
      replace h := h x10 ex10
      refine j_istore_n X [(3, .int x10), (0, .ref (adr G 6 0)), (1, .int x6), (2, .int x7)] dX6_worst_52 rfl (by decide) rfl ?_
      refine j_aload_n X 1 dX6_worst_53 rfl rfl ?_
      refine jf_RX6_10 X  dX6_worst_54 ?_
      refine jf_RX6_212 X  dX6_worst_57 ?_
      refine j_iload_n X 0 dX6_worst_60 rfl rfl ?_
      have q11 := h.1
      replace h := h.2
      refine j_iald X _ rfl (mw130 0 (by decide)) kt130 lt130 q11 dX6_worst_61 ?_
      refine j_aload_n X 1 dX6_worst_62 rfl rfl ?_
      refine jf_RX6_10 X  dX6_worst_63 ?_
      refine jf_RX6_212 X  dX6_worst_66 ?_
      refine j_iload_n X 2 dX6_worst_69 rfl rfl ?_
      have q12 := h.1
      replace h := h.2
      refine j_iald X _ rfl (mw130 0 (by decide)) kt130 lt130 q12 dX6_worst_70 ?_
      refine jn1_s h (fun (x13 : Int32) => J G E 4 76 [(0, .ref (adr G 6 0)), (1, .int x13), (2, .int x7)] [] M2) (fun x13 h => ?_) (fun J14 hj15 h => ?_)
      · obtain ⟨x16, ex16⟩ : ∃ z : Int32, z = x7 + (1 : Int32) := ⟨_, rfl⟩
        replace h := h x16 ex16
        refine j_iinc (v := x16) X 2 [(2, .int x16), (0, .ref (adr G 6 0)), (1, .int x13)] dX6_worst_76 rfl (by rw [ex16]; rfl) (by decide) rfl ?_
        refine j_goto X 32 dX6_worst_79 (by decide) ?_
        refine j_sub [1, 2, 0] rfl ?_
        exact ih5 x13 x16 h
      · refine j_icmp_le X 76 dX6_worst_71 (by decide) (fun c17 => ?_) (fun c17 => ?_)
        · replace h := h.1 c17
          refine j_sub [1, 2, 3] rfl ?_
          exact hj15 x6 h
        · replace h := h.2 c17
          refine j_iload_n X 0 dX6_worst_74 rfl rfl ?_
          refine j_istore_n X [(1, .int x10), (3, .int x10), (0, .ref (adr G 6 0)), (2, .int x7)] dX6_worst_75 rfl (by decide) rfl ?_
          refine j_sub [2, 0, 3] rfl ?_
          exact hj15 x10 h
  · replace h := h.2 c1
    refine j_bipush (v := (-4 : Int32)) X (by decide) dX6_worst_10 ?_
    exact j_iret X Y dX6_worst_12 h
/-- LayeredClaims.account(I)I -/
def wp_X6_account (a1 : Int32) (M : Mm) (P : Int32 → Mm → Prop) : Prop := (wp_X5_reckon  M (fun (M1 : Mm) => ((a1 = 0 → (wp_X5_sumOfLosses  M1 (fun (r4 : Int32) (M3 : Mm) => P r4 M3))) ∧ (a1 = 1 → (wp_X5_sumOfPayments  M1 (fun (r6 : Int32) (M5 : Mm) => P r6 M5))) ∧ (a1 = 2 → (wp_X5_sumOfDeductions  M1 (fun (r8 : Int32) (M7 : Mm) => P r8 M7))) ∧ (a1 = 3 → (wp_X5_sumOfBurdens  M1 (fun (r10 : Int32) (M9 : Mm) => P r10 M9))) ∧ (a1 = 4 → (wp_X5_sumOfBorne  M1 (fun (r12 : Int32) (M11 : Mm) => P r12 M11))) ∧ (a1 = 5 → (wp_X5_sumOfRetained  M1 (fun (r14 : Int32) (M13 : Mm) => P r14 M13))) ∧ (a1 = 6 → (wp_X0_sumOfCoverPremiums 0 M1 (fun (r16 : Int32) (M15 : Mm) => P r16 M15))) ∧ (a1 = 7 → (wp_X5_costOfLayers  M1 (fun (r18 : Int32) (M17 : Mm) => P r18 M17))) ∧ (a1 = 8 → (wp_X5_sumOfLosses  M1 (fun (r20 : Int32) (M19 : Mm) => (wp_X5_sumOfPayments  M19 (fun (r22 : Int32) (M21 : Mm) => P (r20 - r22) M21))))) ∧ (¬ a1 = 0 → ¬ a1 = 1 → ¬ a1 = 2 → ¬ a1 = 3 → ¬ a1 = 4 → ¬ a1 = 5 → ¬ a1 = 6 → ¬ a1 = 7 → ¬ a1 = 8 → P (-2 : Int32) M1))))
set_option maxHeartbeats 4000000 in
set_option maxRecDepth 100000 in
theorem met_X6_account {l : Launch} {G : GT} (hG : GD G) (a1 : Int32) (M : Mm) (P : Int32 → Mm → Prop) (h : wp_X6_account a1 M P) : MI l G yX6_account cX6_account 2 (some .int) ({ frames := 5, cells := 0, slots := 0, locals := 108 } : Room) [.ref (adr G 6 0), .int a1] M P := by
  refine met_by hG (own := RX6) rfl (by decide +kernel) (Nat.le_of_ble_eq_true rfl) (fun E hE X Y => ?_)
  show J G E 2 0 [(0, .ref (adr G 6 0)), (1, .int a1)] [] M
  unfold wp_X6_account at h
  refine j_aload_n X 0 dX6_account_0 rfl rfl ?_
  refine jf_RX6_10 X  dX6_account_1 ?_
  refine jc_RX6_142 X ⟨Nat.le_of_ble_eq_true rfl, Nat.le_of_ble_eq_true rfl⟩ (Nat.le_of_ble_eq_true rfl) dX6_account_4 h (fun M1 h => ?_)
  refine j_iload_n X 1 dX6_account_7 rfl rfl ?_
  refine j_ts_0_8 X (t0 := 60) (t1 := 68) (t2 := 76) (t3 := 84) (t4 := 92) (t5 := 100) (t6 := 108) (t7 := 116) (t8 := 124) (td := 140) dX6_account_8 rfl (by decide) (by decide) (by decide) (by decide) (by decide) (by decide) (by decide) (by decide) (by decide) (by decide) (fun c2 => ?_) (fun c2 => ?_) (fun c2 => ?_) (fun c2 => ?_) (fun c2 => ?_) (fun c2 => ?_) (fun c2 => ?_) (fun c2 => ?_) (fun c2 => ?_) (fun c23 c24 c25 c26 c27 c28 c29 c30 c31 => ?_)
  · replace h := h.1 c2
    refine j_aload_n X 0 dX6_account_60 rfl rfl ?_
    refine jf_RX6_10 X  dX6_account_61 ?_
    refine jc_RX6_272 X ⟨Nat.le_of_ble_eq_true rfl, Nat.le_of_ble_eq_true rfl⟩ (Nat.le_of_ble_eq_true rfl) dX6_account_64 h (fun r4 M3 h => ?_)
    exact j_iret X Y dX6_account_67 h
  · replace h := h.2.1 c2
    refine j_aload_n X 0 dX6_account_68 rfl rfl ?_
    refine jf_RX6_10 X  dX6_account_69 ?_
    refine jc_RX6_276 X ⟨Nat.le_of_ble_eq_true rfl, Nat.le_of_ble_eq_true rfl⟩ (Nat.le_of_ble_eq_true rfl) dX6_account_72 h (fun r6 M5 h => ?_)
    exact j_iret X Y dX6_account_75 h
  · replace h := h.2.2.1 c2
    refine j_aload_n X 0 dX6_account_76 rfl rfl ?_
    refine jf_RX6_10 X  dX6_account_77 ?_
    refine jc_RX6_279 X ⟨Nat.le_of_ble_eq_true rfl, Nat.le_of_ble_eq_true rfl⟩ (Nat.le_of_ble_eq_true rfl) dX6_account_80 h (fun r8 M7 h => ?_)
    exact j_iret X Y dX6_account_83 h
  · replace h := h.2.2.2.1 c2
    refine j_aload_n X 0 dX6_account_84 rfl rfl ?_
    refine jf_RX6_10 X  dX6_account_85 ?_
    refine jc_RX6_282 X ⟨Nat.le_of_ble_eq_true rfl, Nat.le_of_ble_eq_true rfl⟩ (Nat.le_of_ble_eq_true rfl) dX6_account_88 h (fun r10 M9 h => ?_)
    exact j_iret X Y dX6_account_91 h
  · replace h := h.2.2.2.2.1 c2
    refine j_aload_n X 0 dX6_account_92 rfl rfl ?_
    refine jf_RX6_10 X  dX6_account_93 ?_
    refine jc_RX6_285 X ⟨Nat.le_of_ble_eq_true rfl, Nat.le_of_ble_eq_true rfl⟩ (Nat.le_of_ble_eq_true rfl) dX6_account_96 h (fun r12 M11 h => ?_)
    exact j_iret X Y dX6_account_99 h
  · replace h := h.2.2.2.2.2.1 c2
    refine j_aload_n X 0 dX6_account_100 rfl rfl ?_
    refine jf_RX6_10 X  dX6_account_101 ?_
    refine jc_RX6_288 X ⟨Nat.le_of_ble_eq_true rfl, Nat.le_of_ble_eq_true rfl⟩ (Nat.le_of_ble_eq_true rfl) dX6_account_104 h (fun r14 M13 h => ?_)
    exact j_iret X Y dX6_account_107 h
  · replace h := h.2.2.2.2.2.2.1 c2
    refine j_aload_n X 0 dX6_account_108 rfl rfl ?_
    refine jf_RX6_20 X  dX6_account_109 ?_
    refine jc_RX6_291 X ⟨Nat.le_of_ble_eq_true rfl, Nat.le_of_ble_eq_true rfl⟩ (Nat.le_of_ble_eq_true rfl) dX6_account_112 (by decide) h (fun r16 M15 h => ?_)
    exact j_iret X Y dX6_account_115 h
  · replace h := h.2.2.2.2.2.2.2.1 c2
    refine j_aload_n X 0 dX6_account_116 rfl rfl ?_
    refine jf_RX6_10 X  dX6_account_117 ?_
    refine jc_RX6_294 X ⟨Nat.le_of_ble_eq_true rfl, Nat.le_of_ble_eq_true rfl⟩ (Nat.le_of_ble_eq_true rfl) dX6_account_120 h (fun r18 M17 h => ?_)
    exact j_iret X Y dX6_account_123 h
  · replace h := h.2.2.2.2.2.2.2.2.1 c2
    refine j_aload_n X 0 dX6_account_124 rfl rfl ?_
    refine jf_RX6_10 X  dX6_account_125 ?_
    refine jc_RX6_272 X ⟨Nat.le_of_ble_eq_true rfl, Nat.le_of_ble_eq_true rfl⟩ (Nat.le_of_ble_eq_true rfl) dX6_account_128 h (fun r20 M19 h => ?_)
    refine j_aload_n X 0 dX6_account_131 rfl rfl ?_
    refine jf_RX6_10 X  dX6_account_132 ?_
    refine jc_RX6_276 X ⟨Nat.le_of_ble_eq_true rfl, Nat.le_of_ble_eq_true rfl⟩ (Nat.le_of_ble_eq_true rfl) dX6_account_135 h (fun r22 M21 h => ?_)
    refine j_isub X dX6_account_138 ?_
    exact j_iret X Y dX6_account_139 h
  · replace h := h.2.2.2.2.2.2.2.2.2 c23 c24 c25 c26 c27 c28 c29 c30 c31
    refine j_bipush (v := (-2 : Int32)) X (by decide) dX6_account_140 ?_
    exact j_iret X Y dX6_account_142 h
/-- LayeredClaims.result()I -/
def wp_X6_result  (M : Mm) (P : Int32 → Mm → Prop) : Prop := (wp_X5_reckon  M (fun (M1 : Mm) => (wp_X0_sumOfCoverPremiums 0 M1 (fun (r3 : Int32) (M2 : Mm) => (wp_X5_costOfLayers  M2 (fun (r5 : Int32) (M4 : Mm) => (wp_X5_sumOfRetained  M4 (fun (r7 : Int32) (M6 : Mm) => P (((r3 - r5) - r7) + (10000000 : Int32)) M6))))))))
set_option maxHeartbeats 4000000 in
set_option maxRecDepth 100000 in
theorem met_X6_result {l : Launch} {G : GT} (hG : GD G)  (M : Mm) (P : Int32 → Mm → Prop) (h : wp_X6_result  M P) : MI l G yX6_result cX6_result 1 (some .int) ({ frames := 5, cells := 0, slots := 0, locals := 108 } : Room) [.ref (adr G 6 0)] M P := by
  refine met_by hG (own := RX6) rfl (by decide +kernel) (Nat.le_of_ble_eq_true rfl) (fun E hE X Y => ?_)
  show J G E 1 0 [(0, .ref (adr G 6 0))] [] M
  unfold wp_X6_result at h
  refine j_aload_n X 0 dX6_result_0 rfl rfl ?_
  refine jf_RX6_10 X  dX6_result_1 ?_
  refine jc_RX6_142 X ⟨Nat.le_of_ble_eq_true rfl, Nat.le_of_ble_eq_true rfl⟩ (Nat.le_of_ble_eq_true rfl) dX6_result_4 h (fun M1 h => ?_)
  refine j_aload_n X 0 dX6_result_7 rfl rfl ?_
  refine jf_RX6_20 X  dX6_result_8 ?_
  refine jc_RX6_291 X ⟨Nat.le_of_ble_eq_true rfl, Nat.le_of_ble_eq_true rfl⟩ (Nat.le_of_ble_eq_true rfl) dX6_result_11 (by decide) h (fun r3 M2 h => ?_)
  refine j_aload_n X 0 dX6_result_14 rfl rfl ?_
  refine jf_RX6_10 X  dX6_result_15 ?_
  refine jc_RX6_294 X ⟨Nat.le_of_ble_eq_true rfl, Nat.le_of_ble_eq_true rfl⟩ (Nat.le_of_ble_eq_true rfl) dX6_result_18 h (fun r5 M4 h => ?_)
  refine j_isub X dX6_result_21 ?_
  refine j_aload_n X 0 dX6_result_22 rfl rfl ?_
  refine jf_RX6_10 X  dX6_result_23 ?_
  refine jc_RX6_288 X ⟨Nat.le_of_ble_eq_true rfl, Nat.le_of_ble_eq_true rfl⟩ (Nat.le_of_ble_eq_true rfl) dX6_result_26 h (fun r7 M6 h => ?_)
  refine j_isub X dX6_result_29 ?_
  refine j_ldcw (v := (10000000 : Int32)) X (tw (i := 766) (by decide +kernel)) dX6_result_30 ?_
  refine j_iadd X dX6_result_33 ?_
  exact j_iret X Y dX6_result_34 h
/-- LayeredClaims.bitsOfFloat(F)I -/
def wp_X6_bitsOfFloat (a1 : UInt32) (M : Mm) (P : Int32 → Mm → Prop) : Prop := ((0 < (Op.cmpValue (FP.fcmp a1 FP.fconst0) CmpOp.g) → (∃ n, lq2 (fun self2 (x4 : UInt32) (x5 : Int32) => (((Op.cmpValue (FP.fcmp x4 FP.fconst2) CmpOp.l) < 0 → (∃ n, lq2 (fun self7 (x9 : UInt32) (x10 : Int32) => (jn (fun (z11 : Int32) => (vf_n32 (FP.fsub x9 FP.fconst1) ∧ (vf_n32 (FP.fmul (FP.fsub x9 FP.fconst1) (1258291200 : UInt32)) ∧ P ((x10 <<< ((23 : Int32) &&& 31)) + (FP.f2i (FP.fmul (FP.fsub x9 FP.fconst1) (1258291200 : UInt32)))) M))) (fun J12 : Int32 → Prop => ((0 ≤ (Op.cmpValue (FP.fcmp x9 FP.fconst1) CmpOp.g) → J12 (0 : Int32)) ∧ (¬ 0 ≤ (Op.cmpValue (FP.fcmp x9 FP.fconst1) CmpOp.g) → ((x10 ≤ (1 : Int32) → J12 (0 : Int32)) ∧ (¬ x10 ≤ (1 : Int32) → (vf_n32 (FP.fmul x9 FP.fconst2) ∧ (∀ x19 : UInt32, x19 = (FP.fmul x9 FP.fconst2) → (∀ x20 : Int32, x20 = x10 + (-1 : Int32) → self7 x19 x20)))))))))) n x4 x5)) ∧ (¬ (Op.cmpValue (FP.fcmp x4 FP.fconst2) CmpOp.l) < 0 → (((254 : Int32) ≤ x5 → (∃ n, lq2 (fun self22 (x24 : UInt32) (x25 : Int32) => (jn (fun (z26 : Int32) => (vf_n32 (FP.fsub x24 FP.fconst1) ∧ (vf_n32 (FP.fmul (FP.fsub x24 FP.fconst1) (1258291200 : UInt32)) ∧ P ((x25 <<< ((23 : Int32) &&& 31)) + (FP.f2i (FP.fmul (FP.fsub x24 FP.fconst1) (1258291200 : UInt32)))) M))) (fun J27 : Int32 → Prop => ((0 ≤ (Op.cmpValue (FP.fcmp x24 FP.fconst1) CmpOp.g) → J27 (0 : Int32)) ∧ (¬ 0 ≤ (Op.cmpValue (FP.fcmp x24 FP.fconst1) CmpOp.g) → ((x25 ≤ (1 : Int32) → J27 (0 : Int32)) ∧ (¬ x25 ≤ (1 : Int32) → (vf_n32 (FP.fmul x24 FP.fconst2) ∧ (∀ x34 : UInt32, x34 = (FP.fmul x24 FP.fconst2) → (∀ x35 : Int32, x35 = x25 + (-1 : Int32) → self22 x34 x35)))))))))) n x4 x5)) ∧ (¬ (254 : Int32) ≤ x5 → (vf_n32 (FP.fdiv x4 FP.fconst2) ∧ (∀ x37 : UInt32, x37 = (FP.fdiv x4 FP.fconst2) → (∀ x38 : Int32, x38 = x5 + (1 : Int32) → self2 x37 x38)))))))) n a1 (127 : Int32))) ∧ (¬ 0 < (Op.cmpValue (FP.fcmp a1 FP.fconst0) CmpOp.g) → P (0 : Int32) M))
set_option maxHeartbeats 4000000 in
set_option maxRecDepth 100000 in
theorem met_X6_bitsOfFloat {l : Launch} {G : GT} (hG : GD G) (a1 : UInt32) (M : Mm) (P : Int32 → Mm → Prop) (h : wp_X6_bitsOfFloat a1 M P) : MI l G yX6_bitsOfFloat cX6_bitsOfFloat 3 (some .int) ({ frames := 0, cells := 0, slots := 0, locals := 0 } : Room) [.float a1] M P := by
  refine met_by hG (own := RX6) rfl (by decide +kernel) (Nat.le_of_ble_eq_true rfl) (fun E hE X Y => ?_)
  show J G E 3 0 [(0, .float a1)] [] M
  unfold wp_X6_bitsOfFloat at h
  refine j_fload_n X 0 dX6_bitsOfFloat_0 rfl rfl ?_
  refine j_fconst0 X dX6_bitsOfFloat_1 ?_
  refine j_fcmp X dX6_bitsOfFloat_2 ?_
  refine j_if_gt X 8 dX6_bitsOfFloat_3 (by decide) (fun c1 => ?_) (fun c1 => ?_)
  · replace h := h.1 c1
    refine j_fload_n X 0 dX6_bitsOfFloat_8 rfl rfl ?_
    refine j_fstore_n X [(1, .float a1), (0, .float a1)] dX6_bitsOfFloat_9 rfl (by decide) rfl ?_
    refine j_bipush (v := (127 : Int32)) X (by decide) dX6_bitsOfFloat_10 ?_
    refine j_istore_n X [(2, .int (127 : Int32)), (1, .float a1), (0, .float a1)] dX6_bitsOfFloat_12 rfl (by decide) rfl ?_
    refine j_sub [1, 0] rfl ?_
    refine lq2_s h (fun (x4 : UInt32) (x5 : Int32) => J G E 3 13 [(1, .float x4), (2, .int x5)] [] M) (fun self2 ih3 x4 x5 h => ?_) id
    refine j_fload_n X 0 dX6_bitsOfFloat_13 rfl rfl ?_
    refine j_fconst2 X dX6_bitsOfFloat_14 ?_
    refine j_fcmp X dX6_bitsOfFloat_15 ?_
    refine j_if_lt X 36 dX6_bitsOfFloat_16 (by decide) (fun c6 => ?_) (fun c6 => ?_)
    · replace h := h.1 c6
      refine j_sub [0, 1] rfl ?_
      refine lq2_s h (fun (x9 : UInt32) (x10 : Int32) => J G E 3 36 [(1, .float x9), (2, .int x10)] [] M) (fun self7 ih8 x9 x10 h => ?_) id
      refine j_fload_n X 0 dX6_bitsOfFloat_36 rfl rfl ?_
      refine j_fconst1 X dX6_bitsOfFloat_37 ?_
      refine j_fcmp X dX6_bitsOfFloat_38 ?_
      refine jn1_s h (fun (z11 : Int32) => J G E 3 57 [(1, .float x9), (2, .int x10)] [] M) (fun z11 h => ?_) (fun J12 hj13 h => ?_)
      · refine j_iload_n X 1 dX6_bitsOfFloat_57 rfl rfl ?_
        refine j_bipush (v := (23 : Int32)) X (by decide) dX6_bitsOfFloat_58 ?_
        refine j_ishl X dX6_bitsOfFloat_60 ?_
        refine j_fload_n X 0 dX6_bitsOfFloat_61 rfl rfl ?_
        refine j_fconst1 X dX6_bitsOfFloat_62 ?_
        have q14 := h.1
        replace h := h.2
        refine j_fsub X q14 dX6_bitsOfFloat_63 ?_
        refine j_ldcwf (v := (1258291200 : UInt32)) X (tw (i := 774) (by decide +kernel)) dX6_bitsOfFloat_64 ?_
        have q15 := h.1
        replace h := h.2
        refine j_fmul X q15 dX6_bitsOfFloat_67 ?_
        refine j_f2i X dX6_bitsOfFloat_68 ?_
        refine j_iadd X dX6_bitsOfFloat_69 ?_
        exact j_iret X Y dX6_bitsOfFloat_70 h
      · refine j_if_ge X 57 dX6_bitsOfFloat_39 (by decide) (fun c16 => ?_) (fun c16 => ?_)
        · replace h := h.1 c16
          refine j_sub [0, 1] rfl ?_
          exact hj13 (0 : Int32) h
        · replace h := h.2 c16
          refine j_iload_n X 1 dX6_bitsOfFloat_42 rfl rfl ?_
          refine j_iconst (v := (1 : Int32)) X (by decide) dX6_bitsOfFloat_43 ?_
          refine j_icmp_le X 57 dX6_bitsOfFloat_44 (by decide) (fun c17 => ?_) (fun c17 => ?_)
          · replace h := h.1 c17
            refine j_sub [0, 1] rfl ?_
            exact hj13 (0 : Int32) h
          · replace h := h.2 c17
            refine j_fload_n X 0 dX6_bitsOfFloat_47 rfl rfl ?_
            refine j_fconst2 X dX6_bitsOfFloat_48 ?_
            have q18 := h.1
            replace h := h.2
            refine j_fmul X q18 dX6_bitsOfFloat_49 ?_
            refine j_topf (fun x19 ex19 => ?_)
            replace h := h x19 ex19
            refine j_fstore_n X [(1, .float x19), (2, .int x10)] dX6_bitsOfFloat_50 rfl (by decide) rfl ?_
            obtain ⟨x20, ex20⟩ : ∃ z : Int32, z = x10 + (-1 : Int32) := ⟨_, rfl⟩
            replace h := h x20 ex20
            refine j_iinc (v := x20) X 1 [(2, .int x20), (1, .float x19)] dX6_bitsOfFloat_51 rfl (by rw [ex20]; rfl) (by decide) rfl ?_
            refine j_goto X 36 dX6_bitsOfFloat_54 (by decide) ?_
            refine j_sub [1, 0] rfl ?_
            exact ih8 x19 x20 h
    · replace h := h.2 c6
      refine j_iload_n X 1 dX6_bitsOfFloat_19 rfl rfl ?_
      refine j_sipush (v := (254 : Int32)) X (by decide) dX6_bitsOfFloat_20 ?_
      refine j_icmp_ge X 36 dX6_bitsOfFloat_23 (by decide) (fun c21 => ?_) (fun c21 => ?_)
      · replace h := h.1 c21
        refine j_sub [0, 1] rfl ?_
        refine lq2_s h (fun (x24 : UInt32) (x25 : Int32) => J G E 3 36 [(1, .float x24), (2, .int x25)] [] M) (fun self22 ih23 x24 x25 h => ?_) id
        refine j_fload_n X 0 dX6_bitsOfFloat_36 rfl rfl ?_
        refine j_fconst1 X dX6_bitsOfFloat_37 ?_
        refine j_fcmp X dX6_bitsOfFloat_38 ?_
        refine jn1_s h (fun (z26 : Int32) => J G E 3 57 [(1, .float x24), (2, .int x25)] [] M) (fun z26 h => ?_) (fun J27 hj28 h => ?_)
        · refine j_iload_n X 1 dX6_bitsOfFloat_57 rfl rfl ?_
          refine j_bipush (v := (23 : Int32)) X (by decide) dX6_bitsOfFloat_58 ?_
          refine j_ishl X dX6_bitsOfFloat_60 ?_
          refine j_fload_n X 0 dX6_bitsOfFloat_61 rfl rfl ?_
          refine j_fconst1 X dX6_bitsOfFloat_62 ?_
          have q29 := h.1
          replace h := h.2
          refine j_fsub X q29 dX6_bitsOfFloat_63 ?_
          refine j_ldcwf (v := (1258291200 : UInt32)) X (tw (i := 774) (by decide +kernel)) dX6_bitsOfFloat_64 ?_
          have q30 := h.1
          replace h := h.2
          refine j_fmul X q30 dX6_bitsOfFloat_67 ?_
          refine j_f2i X dX6_bitsOfFloat_68 ?_
          refine j_iadd X dX6_bitsOfFloat_69 ?_
          exact j_iret X Y dX6_bitsOfFloat_70 h
        · refine j_if_ge X 57 dX6_bitsOfFloat_39 (by decide) (fun c31 => ?_) (fun c31 => ?_)
          · replace h := h.1 c31
            refine j_sub [0, 1] rfl ?_
            exact hj28 (0 : Int32) h
          · replace h := h.2 c31
            refine j_iload_n X 1 dX6_bitsOfFloat_42 rfl rfl ?_
            refine j_iconst (v := (1 : Int32)) X (by decide) dX6_bitsOfFloat_43 ?_
            refine j_icmp_le X 57 dX6_bitsOfFloat_44 (by decide) (fun c32 => ?_) (fun c32 => ?_)
            · replace h := h.1 c32
              refine j_sub [0, 1] rfl ?_
              exact hj28 (0 : Int32) h
            · replace h := h.2 c32
              refine j_fload_n X 0 dX6_bitsOfFloat_47 rfl rfl ?_
              refine j_fconst2 X dX6_bitsOfFloat_48 ?_
              have q33 := h.1
              replace h := h.2
              refine j_fmul X q33 dX6_bitsOfFloat_49 ?_
              refine j_topf (fun x34 ex34 => ?_)
              replace h := h x34 ex34
              refine j_fstore_n X [(1, .float x34), (2, .int x25)] dX6_bitsOfFloat_50 rfl (by decide) rfl ?_
              obtain ⟨x35, ex35⟩ : ∃ z : Int32, z = x25 + (-1 : Int32) := ⟨_, rfl⟩
              replace h := h x35 ex35
              refine j_iinc (v := x35) X 1 [(2, .int x35), (1, .float x34)] dX6_bitsOfFloat_51 rfl (by rw [ex35]; rfl) (by decide) rfl ?_
              refine j_goto X 36 dX6_bitsOfFloat_54 (by decide) ?_
              refine j_sub [1, 0] rfl ?_
              exact ih23 x34 x35 h
      · replace h := h.2 c21
        refine j_fload_n X 0 dX6_bitsOfFloat_26 rfl rfl ?_
        refine j_fconst2 X dX6_bitsOfFloat_27 ?_
        have q36 := h.1
        replace h := h.2
        refine j_fdiv X q36 dX6_bitsOfFloat_28 ?_
        refine j_topf (fun x37 ex37 => ?_)
        replace h := h x37 ex37
        refine j_fstore_n X [(1, .float x37), (2, .int x5)] dX6_bitsOfFloat_29 rfl (by decide) rfl ?_
        obtain ⟨x38, ex38⟩ : ∃ z : Int32, z = x5 + (1 : Int32) := ⟨_, rfl⟩
        replace h := h x38 ex38
        refine j_iinc (v := x38) X 1 [(2, .int x38), (1, .float x37)] dX6_bitsOfFloat_30 rfl (by rw [ex38]; rfl) (by decide) rfl ?_
        refine j_goto X 13 dX6_bitsOfFloat_33 (by decide) ?_
        refine j_sub [1, 0] rfl ?_
        exact ih3 x37 x38 h
  · replace h := h.2 c1
    refine j_iconst (v := (0 : Int32)) X (by decide) dX6_bitsOfFloat_6 ?_
    exact j_iret X Y dX6_bitsOfFloat_7 h
theorem jc_RX6_298 {G : GT} {E : ET} {cc : ByteArray} {nL pc : Nat} {rm : Room} {lv : List (Nat × Value)} {st : List Value} {M : Mm} (X : CX G E RX6 cc nL rm) (hR : 0 + 1 ≤ rm.frames ∧ 8 + (3 + 11) + 0 ≤ rm.locals) (hst : (st.map fun v => v.category).sum ≤ 8) (d : decode cc pc = .ok (.invokestatic 298, 3)) {a1 : UInt32} {P : Int32 → Mm → Prop} (h : wp_X6_bitsOfFloat a1 M P) (k1 : ∀ (r : Int32) (M2 : Mm), P r M2 → J G E nL (pc + 3) lv (.int r :: st) M2) : J G E nL pc lv (.float a1 :: st) M := fun H locs ls hP hS hl => by
  have hK := X.2.2.2.2.2.1.1
  have hm := met_X6_bitsOfFloat (l := eL E) X.2.2.2.2.2.2.1 a1 M P h
  have hR2 : 0 + 1 ≤ (eR E).frames ∧ 8 + (3 + 11) + 0 ≤ (eR E).locals := by rw [X.2.2.2.2.2.2.2.1]; exact hR
  have hC2 : eCells E + 0 ≤ (eR E).cells ∧ eSlots E + 0 ≤ (eR E).slots := by rw [X.2.2.2.2.2.2.2.1]; exact ⟨X.2.2.2.2.2.2.2.2.1, X.2.2.2.2.2.2.2.2.2⟩
  exact va_calli (va_runS (As := [.float a1]) (rest := st) ⟨X.1, X.2.1, X.2.2.1, X.2.2.2.1, X.2.2.2.2.1⟩ hm (va_cwS (ws' := lw_aw) 1 X.2.2.2.2.1 (gwS (tw (i := 771) (by decide +kernel)) (tw (i := 772) (by decide +kernel)) (tw (i := 71) (by decide +kernel)) (tw (i := 773) (by decide +kernel))) rfl rfl rfl (by decide +kernel) hR2) ⟨hr_blind, fun U hU hW => ⟨rfl, by rw [hU]; exact hP, KK.warm hW X.2.2.2.2.2.1⟩⟩ rfl rfl hl.1 rfl (lv_room hst) d hC2) hS (fun q _ h => h) (fun q h => h) (fun r u t H1 locs1 ht hvm hw hB hz1 hk1 hS1 => k1 r u hw H1 locs1 ls (by rw [← ht]; exact hB.1) hS1 hl)
/-- LayeredClaims.ratioBits()I -/
def wp_X6_ratioBits  (M : Mm) (P : Int32 → Mm → Prop) : Prop := (wp_X0_sumOfCoverPremiums 0 M (fun (r2 : Int32) (M1 : Mm) => ((0 < r2 → (wp_X5_reckon  M1 (fun (M4 : Mm) => (wp_X5_sumOfPayments  M4 (fun (r6 : Int32) (M5 : Mm) => (vf_n32 (FP.fdiv (FP.i2f r6) (FP.i2f r2)) ∧ (wp_X6_bitsOfFloat (FP.fdiv (FP.i2f r6) (FP.i2f r2)) M5 (fun (r9 : Int32) (M8 : Mm) => P r9 M8)))))))) ∧ (¬ 0 < r2 → P (-4 : Int32) M1))))
set_option maxHeartbeats 4000000 in
set_option maxRecDepth 100000 in
theorem met_X6_ratioBits {l : Launch} {G : GT} (hG : GD G)  (M : Mm) (P : Int32 → Mm → Prop) (h : wp_X6_ratioBits  M P) : MI l G yX6_ratioBits cX6_ratioBits 2 (some .int) ({ frames := 4, cells := 0, slots := 0, locals := 97 } : Room) [.ref (adr G 6 0)] M P := by
  refine met_by hG (own := RX6) rfl (by decide +kernel) (Nat.le_of_ble_eq_true rfl) (fun E hE X Y => ?_)
  show J G E 2 0 [(0, .ref (adr G 6 0))] [] M
  unfold wp_X6_ratioBits at h
  refine j_aload_n X 0 dX6_ratioBits_0 rfl rfl ?_
  refine jf_RX6_20 X  dX6_ratioBits_1 ?_
  refine jc_RX6_291 X ⟨Nat.le_of_ble_eq_true rfl, Nat.le_of_ble_eq_true rfl⟩ (Nat.le_of_ble_eq_true rfl) dX6_ratioBits_4 (by decide) h (fun r2 M1 h => ?_)
  refine j_istore_n X [(1, .int r2), (0, .ref (adr G 6 0))] dX6_ratioBits_7 rfl (by decide) rfl ?_
  refine j_iload_n X 0 dX6_ratioBits_8 rfl rfl ?_
  refine j_if_gt X 15 dX6_ratioBits_9 (by decide) (fun c3 => ?_) (fun c3 => ?_)
  · replace h := h.1 c3
    refine j_aload_n X 1 dX6_ratioBits_15 rfl rfl ?_
    refine jf_RX6_10 X  dX6_ratioBits_16 ?_
    refine jc_RX6_142 X ⟨Nat.le_of_ble_eq_true rfl, Nat.le_of_ble_eq_true rfl⟩ (Nat.le_of_ble_eq_true rfl) dX6_ratioBits_19 h (fun M4 h => ?_)
    refine j_aload_n X 1 dX6_ratioBits_22 rfl rfl ?_
    refine jf_RX6_10 X  dX6_ratioBits_23 ?_
    refine jc_RX6_276 X ⟨Nat.le_of_ble_eq_true rfl, Nat.le_of_ble_eq_true rfl⟩ (Nat.le_of_ble_eq_true rfl) dX6_ratioBits_26 h (fun r6 M5 h => ?_)
    refine j_i2f X dX6_ratioBits_29 ?_
    refine j_iload_n X 0 dX6_ratioBits_30 rfl rfl ?_
    refine j_i2f X dX6_ratioBits_31 ?_
    have q7 := h.1
    replace h := h.2
    refine j_fdiv X q7 dX6_ratioBits_32 ?_
    refine jc_RX6_298 X ⟨Nat.le_of_ble_eq_true rfl, Nat.le_of_ble_eq_true rfl⟩ (Nat.le_of_ble_eq_true rfl) dX6_ratioBits_33 h (fun r9 M8 h => ?_)
    exact j_iret X Y dX6_ratioBits_36 h
  · replace h := h.2 c3
    refine j_bipush (v := (-4 : Int32)) X (by decide) dX6_ratioBits_12 ?_
    exact j_iret X Y dX6_ratioBits_14 h
/-- LayeredClaims.isBalanced()I -/
def wp_X6_isBalanced  (M : Mm) (P : Int32 → Mm → Prop) : Prop := (wp_X5_reckon  M (fun (M1 : Mm) => (wp_X5_sumOfPayments  M1 (fun (r3 : Int32) (M2 : Mm) => (wp_X5_sumOfClaimPayments  M2 (fun (r5 : Int32) (M4 : Mm) => (jn (fun (v6 : Int32) => (wp_X5_sumOfLayersOneByOne  M4 (fun (r10 : Int32) (M9 : Mm) => (wp_X5_sumOfRetained  M9 (fun (r12 : Int32) (M11 : Mm) => (wp_X5_sumOfBurdens  M11 (fun (r14 : Int32) (M13 : Mm) => (jn (fun (v15 : Int32) => (wp_X5_sumOfDeductions  M13 (fun (r19 : Int32) (M18 : Mm) => (wp_X5_sumOfLosses  M18 (fun (r21 : Int32) (M20 : Mm) => (jn (fun (v22 : Int32) => ((v6 = 0 → P (0 : Int32) M20) ∧ (¬ v6 = 0 → ((v15 = 0 → P (0 : Int32) M20) ∧ (¬ v15 = 0 → ((v22 = 0 → P (0 : Int32) M20) ∧ (¬ v22 = 0 → P (1 : Int32) M20))))))) (fun J23 : Int32 → Prop => ((r21 < (r3 + r19) → J23 (0 : Int32)) ∧ (¬ r21 < (r3 + r19) → J23 (1 : Int32)))))))))) (fun J16 : Int32 → Prop => ((¬ (r10 + r12) = r14 → J16 (0 : Int32)) ∧ ((r10 + r12) = r14 → J16 (1 : Int32)))))))))))) (fun J7 : Int32 → Prop => ((¬ r5 = r3 → J7 (0 : Int32)) ∧ (r5 = r3 → J7 (1 : Int32)))))))))))
set_option maxHeartbeats 4000000 in
set_option maxRecDepth 100000 in
theorem met_X6_isBalanced {l : Launch} {G : GT} (hG : GD G)  (M : Mm) (P : Int32 → Mm → Prop) (h : wp_X6_isBalanced  M P) : MI l G yX6_isBalanced cX6_isBalanced 5 (some .int) ({ frames := 4, cells := 0, slots := 0, locals := 97 } : Room) [.ref (adr G 6 0)] M P := by
  refine met_by hG (own := RX6) rfl (by decide +kernel) (Nat.le_of_ble_eq_true rfl) (fun E hE X Y => ?_)
  show J G E 5 0 [(0, .ref (adr G 6 0))] [] M
  unfold wp_X6_isBalanced at h
  refine j_aload_n X 0 dX6_isBalanced_0 rfl rfl ?_
  refine jf_RX6_10 X  dX6_isBalanced_1 ?_
  refine jc_RX6_142 X ⟨Nat.le_of_ble_eq_true rfl, Nat.le_of_ble_eq_true rfl⟩ (Nat.le_of_ble_eq_true rfl) dX6_isBalanced_4 h (fun M1 h => ?_)
  refine j_aload_n X 0 dX6_isBalanced_7 rfl rfl ?_
  refine jf_RX6_10 X  dX6_isBalanced_8 ?_
  refine jc_RX6_276 X ⟨Nat.le_of_ble_eq_true rfl, Nat.le_of_ble_eq_true rfl⟩ (Nat.le_of_ble_eq_true rfl) dX6_isBalanced_11 h (fun r3 M2 h => ?_)
  refine j_istore_n X [(1, .int r3), (0, .ref (adr G 6 0))] dX6_isBalanced_14 rfl (by decide) rfl ?_
  refine j_aload_n X 1 dX6_isBalanced_15 rfl rfl ?_
  refine jf_RX6_10 X  dX6_isBalanced_16 ?_
  refine jc_RX6_302 X ⟨Nat.le_of_ble_eq_true rfl, Nat.le_of_ble_eq_true rfl⟩ (Nat.le_of_ble_eq_true rfl) dX6_isBalanced_19 h (fun r5 M4 h => ?_)
  refine j_iload_n X 0 dX6_isBalanced_22 rfl rfl ?_
  refine jn1_s h (fun (v6 : Int32) => J G E 5 31 [(0, .ref (adr G 6 0)), (1, .int r3)] [.int v6] M4) (fun v6 h => ?_) (fun J7 hj8 h => ?_)
  · refine j_istore_n X [(2, .int v6), (0, .ref (adr G 6 0)), (1, .int r3)] dX6_isBalanced_31 rfl (by decide) rfl ?_
    refine j_aload_n X 1 dX6_isBalanced_32 rfl rfl ?_
    refine jf_RX6_10 X  dX6_isBalanced_33 ?_
    refine jc_RX6_305 X ⟨Nat.le_of_ble_eq_true rfl, Nat.le_of_ble_eq_true rfl⟩ (Nat.le_of_ble_eq_true rfl) dX6_isBalanced_36 h (fun r10 M9 h => ?_)
    refine j_aload_n X 1 dX6_isBalanced_39 rfl rfl ?_
    refine jf_RX6_10 X  dX6_isBalanced_40 ?_
    refine jc_RX6_288 X ⟨Nat.le_of_ble_eq_true rfl, Nat.le_of_ble_eq_true rfl⟩ (Nat.le_of_ble_eq_true rfl) dX6_isBalanced_43 h (fun r12 M11 h => ?_)
    refine j_iadd X dX6_isBalanced_46 ?_
    refine j_aload_n X 1 dX6_isBalanced_47 rfl rfl ?_
    refine jf_RX6_10 X  dX6_isBalanced_48 ?_
    refine jc_RX6_282 X ⟨Nat.le_of_ble_eq_true rfl, Nat.le_of_ble_eq_true rfl⟩ (Nat.le_of_ble_eq_true rfl) dX6_isBalanced_51 h (fun r14 M13 h => ?_)
    refine jn1_s h (fun (v15 : Int32) => J G E 5 62 [(0, .ref (adr G 6 0)), (1, .int r3), (2, .int v6)] [.int v15] M13) (fun v15 h => ?_) (fun J16 hj17 h => ?_)
    · refine j_istore_n X [(3, .int v15), (0, .ref (adr G 6 0)), (1, .int r3), (2, .int v6)] dX6_isBalanced_62 rfl (by decide) rfl ?_
      refine j_iload_n X 2 dX6_isBalanced_63 rfl rfl ?_
      refine j_aload_n X 1 dX6_isBalanced_64 rfl rfl ?_
      refine jf_RX6_10 X  dX6_isBalanced_65 ?_
      refine jc_RX6_279 X ⟨Nat.le_of_ble_eq_true rfl, Nat.le_of_ble_eq_true rfl⟩ (Nat.le_of_ble_eq_true rfl) dX6_isBalanced_68 h (fun r19 M18 h => ?_)
      refine j_iadd X dX6_isBalanced_71 ?_
      refine j_aload_n X 1 dX6_isBalanced_72 rfl rfl ?_
      refine jf_RX6_10 X  dX6_isBalanced_73 ?_
      refine jc_RX6_272 X ⟨Nat.le_of_ble_eq_true rfl, Nat.le_of_ble_eq_true rfl⟩ (Nat.le_of_ble_eq_true rfl) dX6_isBalanced_76 h (fun r21 M20 h => ?_)
      refine jn1_s h (fun (v22 : Int32) => J G E 5 87 [(2, .int v6), (3, .int v15)] [.int v22] M20) (fun v22 h => ?_) (fun J23 hj24 h => ?_)
      · refine j_istore X [(4, .int v22), (2, .int v6), (3, .int v15)] dX6_isBalanced_87 (by decide) rfl ?_
        refine j_iload_n X 1 dX6_isBalanced_89 rfl rfl ?_
        refine j_if_eq X 106 dX6_isBalanced_90 (by decide) (fun c25 => ?_) (fun c25 => ?_)
        · replace h := h.1 c25
          refine j_iconst (v := (0 : Int32)) X (by decide) dX6_isBalanced_106 ?_
          exact j_iret X Y dX6_isBalanced_107 h
        · replace h := h.2 c25
          refine j_iload_n X 2 dX6_isBalanced_93 rfl rfl ?_
          refine j_if_eq X 106 dX6_isBalanced_94 (by decide) (fun c26 => ?_) (fun c26 => ?_)
          · replace h := h.1 c26
            refine j_iconst (v := (0 : Int32)) X (by decide) dX6_isBalanced_106 ?_
            exact j_iret X Y dX6_isBalanced_107 h
          · replace h := h.2 c26
            refine j_iload X 0 dX6_isBalanced_97 rfl ?_
            refine j_if_eq X 106 dX6_isBalanced_99 (by decide) (fun c27 => ?_) (fun c27 => ?_)
            · replace h := h.1 c27
              refine j_iconst (v := (0 : Int32)) X (by decide) dX6_isBalanced_106 ?_
              exact j_iret X Y dX6_isBalanced_107 h
            · replace h := h.2 c27
              refine j_iconst (v := (1 : Int32)) X (by decide) dX6_isBalanced_102 ?_
              refine j_goto X 107 dX6_isBalanced_103 (by decide) ?_
              exact j_iret X Y dX6_isBalanced_107 h
      · refine j_icmp_gt X 86 dX6_isBalanced_79 (by decide) (fun c28 => ?_) (fun c28 => ?_)
        · replace h := h.1 c28
          refine j_iconst (v := (0 : Int32)) X (by decide) dX6_isBalanced_86 ?_
          refine j_sub [3, 0] rfl ?_
          exact hj24 (0 : Int32) h
        · replace h := h.2 c28
          refine j_iconst (v := (1 : Int32)) X (by decide) dX6_isBalanced_82 ?_
          refine j_goto X 87 dX6_isBalanced_83 (by decide) ?_
          refine j_sub [3, 0] rfl ?_
          exact hj24 (1 : Int32) h
    · refine j_icmp_ne X 61 dX6_isBalanced_54 (by decide) (fun c29 => ?_) (fun c29 => ?_)
      · replace h := h.1 c29
        refine j_iconst (v := (0 : Int32)) X (by decide) dX6_isBalanced_61 ?_
        refine j_sub [1, 2, 0] rfl ?_
        exact hj17 (0 : Int32) h
      · replace h := h.2 c29
        refine j_iconst (v := (1 : Int32)) X (by decide) dX6_isBalanced_57 ?_
        refine j_goto X 62 dX6_isBalanced_58 (by decide) ?_
        refine j_sub [1, 2, 0] rfl ?_
        exact hj17 (1 : Int32) h
  · refine j_icmp_ne X 30 dX6_isBalanced_23 (by decide) (fun c30 => ?_) (fun c30 => ?_)
    · replace h := h.1 c30
      refine j_iconst (v := (0 : Int32)) X (by decide) dX6_isBalanced_30 ?_
      refine j_sub [1, 0] rfl ?_
      exact hj8 (0 : Int32) h
    · replace h := h.2 c30
      refine j_iconst (v := (1 : Int32)) X (by decide) dX6_isBalanced_26 ?_
      refine j_goto X 31 dX6_isBalanced_27 (by decide) ?_
      refine j_sub [1, 0] rfl ?_
      exact hj8 (1 : Int32) h
/-- LayeredClaims.paidIf(II)I -/
def wp_X6_paidIf (a1 : Int32) (a2 : Int32) (M : Mm) (P : Int32 → Mm → Prop) : Prop := (wp_X0_hasEvent 0 a1 M (fun (r2 : Int32) (M1 : Mm) => ((¬ r2 = 0 → (wp_X6_isWithin a2 (0 : Int32) (364 : Int32) M1 (fun (r5 : Int32) (M4 : Mm) => ((¬ r5 = 0 → (vp_in a1 8 ∧ (∀ x8 : Int32, x8 = (rd M4 33 0 a1.toNatClampNeg) → (∀ M9 : Mm, M9 = wr M4 33 0 a1.toNatClampNeg a2 → (wp_X5_reckon  M9 (fun (M10 : Mm) => (∀ M11 : Mm, M11 = wr M10 33 0 a1.toNatClampNeg x8 → (wp_X5_sumOfPayments  M11 (fun (r13 : Int32) (M12 : Mm) => P r13 M12))))))))) ∧ (r5 = 0 → P (-2 : Int32) M4))))) ∧ (r2 = 0 → P (-1 : Int32) M1))))
set_option maxHeartbeats 4000000 in
set_option maxRecDepth 100000 in
theorem met_X6_paidIf {l : Launch} {G : GT} (hG : GD G) (a1 : Int32) (a2 : Int32) (M : Mm) (P : Int32 → Mm → Prop) (h : wp_X6_paidIf a1 a2 M P) : MI l G yX6_paidIf cX6_paidIf 4 (some .int) ({ frames := 4, cells := 0, slots := 0, locals := 97 } : Room) [.ref (adr G 6 0), .int a1, .int a2] M P := by
  refine met_by hG (own := RX6) rfl (by decide +kernel) (Nat.le_of_ble_eq_true rfl) (fun E hE X Y => ?_)
  show J G E 4 0 [(0, .ref (adr G 6 0)), (1, .int a1), (2, .int a2)] [] M
  unfold wp_X6_paidIf at h
  refine j_aload_n X 0 dX6_paidIf_0 rfl rfl ?_
  refine jf_RX6_20 X  dX6_paidIf_1 ?_
  refine j_iload_n X 1 dX6_paidIf_4 rfl rfl ?_
  refine jc_RX6_194 X ⟨Nat.le_of_ble_eq_true rfl, Nat.le_of_ble_eq_true rfl⟩ (Nat.le_of_ble_eq_true rfl) dX6_paidIf_5 (by decide) h (fun r2 M1 h => ?_)
  refine j_if_ne X 13 dX6_paidIf_8 (by decide) (fun c3 => ?_) (fun c3 => ?_)
  · replace h := h.1 c3
    refine j_iload_n X 2 dX6_paidIf_13 rfl rfl ?_
    refine j_iconst (v := (0 : Int32)) X (by decide) dX6_paidIf_14 ?_
    refine j_sipush (v := (364 : Int32)) X (by decide) dX6_paidIf_15 ?_
    refine jc_RX6_187 X ⟨Nat.le_of_ble_eq_true rfl, Nat.le_of_ble_eq_true rfl⟩ (Nat.le_of_ble_eq_true rfl) dX6_paidIf_18 h (fun r5 M4 h => ?_)
    refine j_if_ne X 27 dX6_paidIf_21 (by decide) (fun c6 => ?_) (fun c6 => ?_)
    · replace h := h.1 c6
      refine j_aload_n X 0 dX6_paidIf_27 rfl rfl ?_
      refine jf_RX6_20 X  dX6_paidIf_28 ?_
      refine jf_RX6_197 X (by decide) dX6_paidIf_31 ?_
      refine j_iload_n X 1 dX6_paidIf_34 rfl rfl ?_
      have q7 := h.1
      replace h := h.2
      refine j_iald X _ rfl (mw33 0 (by decide)) kt33 lt33 q7 dX6_paidIf_35 ?_
      refine j_topi (fun x8 ex8 => ?_)
      replace h := h x8 ex8
      refine j_istore_n X [(3, .int x8), (0, .ref (adr G 6 0)), (1, .int a1), (2, .int a2)] dX6_paidIf_36 rfl (by decide) rfl ?_
      refine j_aload_n X 1 dX6_paidIf_37 rfl rfl ?_
      refine jf_RX6_20 X  dX6_paidIf_38 ?_
      refine jf_RX6_197 X (by decide) dX6_paidIf_41 ?_
      refine j_iload_n X 2 dX6_paidIf_44 rfl rfl ?_
      refine j_iload_n X 3 dX6_paidIf_45 rfl rfl ?_
      refine j_iast X _ rfl (mw33 0 (by decide)) kt33 lt33 q7 dX6_paidIf_46 ?_
      refine j_memo (fun M9 eM9 => ?_)
      replace h := h M9 eM9
      refine j_aload_n X 1 dX6_paidIf_47 rfl rfl ?_
      refine jf_RX6_10 X  dX6_paidIf_48 ?_
      refine jc_RX6_142 X ⟨Nat.le_of_ble_eq_true rfl, Nat.le_of_ble_eq_true rfl⟩ (Nat.le_of_ble_eq_true rfl) dX6_paidIf_51 h (fun M10 h => ?_)
      refine j_aload_n X 1 dX6_paidIf_54 rfl rfl ?_
      refine jf_RX6_20 X  dX6_paidIf_55 ?_
      refine jf_RX6_197 X (by decide) dX6_paidIf_58 ?_
      refine j_iload_n X 2 dX6_paidIf_61 rfl rfl ?_
      refine j_iload_n X 0 dX6_paidIf_62 rfl rfl ?_
      refine j_iast X _ rfl (mw33 0 (by decide)) kt33 lt33 q7 dX6_paidIf_63 ?_
      refine j_memo (fun M11 eM11 => ?_)
      replace h := h M11 eM11
      refine j_aload_n X 1 dX6_paidIf_64 rfl rfl ?_
      refine jf_RX6_10 X  dX6_paidIf_65 ?_
      refine jc_RX6_276 X ⟨Nat.le_of_ble_eq_true rfl, Nat.le_of_ble_eq_true rfl⟩ (Nat.le_of_ble_eq_true rfl) dX6_paidIf_68 h (fun r13 M12 h => ?_)
      exact j_iret X Y dX6_paidIf_71 h
    · replace h := h.2 c6
      refine j_bipush (v := (-2 : Int32)) X (by decide) dX6_paidIf_24 ?_
      exact j_iret X Y dX6_paidIf_26 h
  · replace h := h.2 c3
    refine j_iconst (v := (-1 : Int32)) X (by decide) dX6_paidIf_11 ?_
    exact j_iret X Y dX6_paidIf_12 h
/-- LayeredClaims.leastLimit(I)I -/
def wp_X6_leastLimit (a1 : Int32) (M : Mm) (P : Int32 → Mm → Prop) : Prop := (wp_X0_hasCover 0 a1 M (fun (r2 : Int32) (M1 : Mm) => ((¬ r2 = 0 → (wp_X5_reckon  M1 (fun (M4 : Mm) => (wp_X5_claimedFromCover a1 M4 (fun (r6 : Int32) (M5 : Mm) => P (if (1 : Int32) < (if (99999 : Int32) < r6 then (99999 : Int32) else r6) then (if (99999 : Int32) < r6 then (99999 : Int32) else r6) else (1 : Int32)) M5))))) ∧ (r2 = 0 → P (-1 : Int32) M1))))
set_option maxHeartbeats 4000000 in
set_option maxRecDepth 100000 in
theorem met_X6_leastLimit {l : Launch} {G : GT} (hG : GD G) (a1 : Int32) (M : Mm) (P : Int32 → Mm → Prop) (h : wp_X6_leastLimit a1 M P) : MI l G yX6_leastLimit cX6_leastLimit 2 (some .int) ({ frames := 4, cells := 0, slots := 0, locals := 97 } : Room) [.ref (adr G 6 0), .int a1] M P := by
  refine met_by hG (own := RX6) rfl (by decide +kernel) (Nat.le_of_ble_eq_true rfl) (fun E hE X Y => ?_)
  show J G E 2 0 [(0, .ref (adr G 6 0)), (1, .int a1)] [] M
  unfold wp_X6_leastLimit at h
  refine j_aload_n X 0 dX6_leastLimit_0 rfl rfl ?_
  refine jf_RX6_20 X  dX6_leastLimit_1 ?_
  refine j_iload_n X 1 dX6_leastLimit_4 rfl rfl ?_
  refine jc_RX6_138 X ⟨Nat.le_of_ble_eq_true rfl, Nat.le_of_ble_eq_true rfl⟩ (Nat.le_of_ble_eq_true rfl) dX6_leastLimit_5 (by decide) h (fun r2 M1 h => ?_)
  refine j_if_ne X 13 dX6_leastLimit_8 (by decide) (fun c3 => ?_) (fun c3 => ?_)
  · replace h := h.1 c3
    refine j_aload_n X 0 dX6_leastLimit_13 rfl rfl ?_
    refine jf_RX6_10 X  dX6_leastLimit_14 ?_
    refine jc_RX6_142 X ⟨Nat.le_of_ble_eq_true rfl, Nat.le_of_ble_eq_true rfl⟩ (Nat.le_of_ble_eq_true rfl) dX6_leastLimit_17 h (fun M4 h => ?_)
    refine j_iconst (v := (1 : Int32)) X (by decide) dX6_leastLimit_20 ?_
    refine j_aload_n X 0 dX6_leastLimit_21 rfl rfl ?_
    refine jf_RX6_10 X  dX6_leastLimit_22 ?_
    refine j_iload_n X 1 dX6_leastLimit_25 rfl rfl ?_
    refine jc_RX6_308 X ⟨Nat.le_of_ble_eq_true rfl, Nat.le_of_ble_eq_true rfl⟩ (Nat.le_of_ble_eq_true rfl) dX6_leastLimit_26 h (fun r6 M5 h => ?_)
    refine j_ldcw (v := (99999 : Int32)) X (tw (i := 800) (by decide +kernel)) dX6_leastLimit_29 ?_
    refine j_min X (tw (i := 801) (by decide +kernel)) (Nat.le_of_ble_eq_true rfl) (Nat.le_of_ble_eq_true rfl) dX6_leastLimit_32 ?_
    refine j_max X (tw (i := 802) (by decide +kernel)) (Nat.le_of_ble_eq_true rfl) (Nat.le_of_ble_eq_true rfl) dX6_leastLimit_35 ?_
    exact j_iret X Y dX6_leastLimit_38 h
  · replace h := h.2 c3
    refine j_iconst (v := (-1 : Int32)) X (by decide) dX6_leastLimit_11 ?_
    exact j_iret X Y dX6_leastLimit_12 h
/-- LayeredClaims.file(IIII)I -/
def wp_X6_file (a1 : Int32) (a2 : Int32) (a3 : Int32) (a4 : Int32) (M : Mm) (P : Int32 → Mm → Prop) : Prop := (wp_X4_hasPlace a1 a2 M (fun (r2 : Int32) (M1 : Mm) => ((¬ r2 = 0 → (jn (fun (z4 : Int32) => (jn (fun (v7 : Int32) (M8 : Mm) => ((¬ v7 = 0 → (wp_X4_takesKind a1 a3 M8 (fun (r13 : Int32) (M12 : Mm) => ((¬ r13 = 0 → (wp_X4_fill a1 a2 a3 M12 (fun (r16 : Nat × Nat) (M15 : Mm) => (jn (fun  (M17 : Mm) => (wp_X4_filledPlaces a1 M17 (fun (r21 : Int32) (M20 : Mm) => P r21 M20))) (fun J18 : Mm → Prop => ((¬ a3 = 0 → (wp_X0_writeLayer 0 a4 (r16.1, r16.2) M15 (fun (M23 : Mm) => J18 M23))) ∧ (a3 = 0 → (wp_X0_writeCover 0 a4 (r16.1, r16.2) M15 (fun (M24 : Mm) => J18 M24))))))))) ∧ (r13 = 0 → P (-6 : Int32) M12))))) ∧ (v7 = 0 → P (-1 : Int32) M8))) (fun J9 : Int32 → Mm → Prop => ((¬ a3 = 0 → (wp_X0_hasLayer 0 a4 M1 (fun (r27 : Int32) (M26 : Mm) => J9 r27 M26))) ∧ (a3 = 0 → (wp_X0_hasCover 0 a4 M1 (fun (r29 : Int32) (M28 : Mm) => J9 r29 M28))))))) (fun J5 : Int32 → Prop => ((a3 = 0 → J5 (0 : Int32)) ∧ (¬ a3 = 0 → ((a3 = (1 : Int32) → J5 (0 : Int32)) ∧ (¬ a3 = (1 : Int32) → P (-2 : Int32) M1))))))) ∧ (r2 = 0 → P (-1 : Int32) M1))))
set_option maxHeartbeats 4000000 in
set_option maxRecDepth 100000 in
theorem met_X6_file {l : Launch} {G : GT} (hG : GD G) (a1 : Int32) (a2 : Int32) (a3 : Int32) (a4 : Int32) (M : Mm) (P : Int32 → Mm → Prop) (h : wp_X6_file a1 a2 a3 a4 M P) : MI l G yX6_file cX6_file 7 (some .int) ({ frames := 2, cells := 0, slots := 0, locals := 45 } : Room) [.ref (adr G 6 0), .int a1, .int a2, .int a3, .int a4] M P := by
  refine met_by hG (own := RX6) rfl (by decide +kernel) (Nat.le_of_ble_eq_true rfl) (fun E hE X Y => ?_)
  show J G E 7 0 [(0, .ref (adr G 6 0)), (1, .int a1), (2, .int a2), (3, .int a3), (4, .int a4)] [] M
  unfold wp_X6_file at h
  refine j_aload_n X 0 dX6_file_0 rfl rfl ?_
  refine jf_RX6_44 X  dX6_file_1 ?_
  refine j_iload_n X 1 dX6_file_4 rfl rfl ?_
  refine j_iload_n X 2 dX6_file_5 rfl rfl ?_
  refine jc_RX6_320 X ⟨Nat.le_of_ble_eq_true rfl, Nat.le_of_ble_eq_true rfl⟩ (Nat.le_of_ble_eq_true rfl) dX6_file_6 h (fun r2 M1 h => ?_)
  refine j_if_ne X 14 dX6_file_9 (by decide) (fun c3 => ?_) (fun c3 => ?_)
  · replace h := h.1 c3
    refine j_iload_n X 3 dX6_file_14 rfl rfl ?_
    refine jn1_s h (fun (z4 : Int32) => J G E 7 26 [(0, .ref (adr G 6 0)), (1, .int a1), (2, .int a2), (3, .int a3), (4, .int a4)] [] M1) (fun z4 h => ?_) (fun J5 hj6 h => ?_)
    · refine j_iload_n X 3 dX6_file_26 rfl rfl ?_
      refine jn2_s h (fun (v7 : Int32) (M8 : Mm) => J G E 7 51 [(0, .ref (adr G 6 0)), (1, .int a1), (2, .int a2), (3, .int a3), (4, .int a4)] [.int v7] M8) (fun v7 M8 h => ?_) (fun J9 hj10 h => ?_)
      · refine j_istore X [(5, .int v7), (0, .ref (adr G 6 0)), (1, .int a1), (2, .int a2), (3, .int a3), (4, .int a4)] dX6_file_51 (by decide) rfl ?_
        refine j_iload X 0 dX6_file_53 rfl ?_
        refine j_if_ne X 60 dX6_file_55 (by decide) (fun c11 => ?_) (fun c11 => ?_)
        · replace h := h.1 c11
          refine j_aload_n X 1 dX6_file_60 rfl rfl ?_
          refine jf_RX6_44 X  dX6_file_61 ?_
          refine j_iload_n X 2 dX6_file_64 rfl rfl ?_
          refine j_iload_n X 4 dX6_file_65 rfl rfl ?_
          refine jc_RX6_324 X ⟨Nat.le_of_ble_eq_true rfl, Nat.le_of_ble_eq_true rfl⟩ (Nat.le_of_ble_eq_true rfl) dX6_file_66 h (fun r13 M12 h => ?_)
          refine j_if_ne X 75 dX6_file_69 (by decide) (fun c14 => ?_) (fun c14 => ?_)
          · replace h := h.1 c14
            refine j_aload_n X 1 dX6_file_75 rfl rfl ?_
            refine jf_RX6_44 X  dX6_file_76 ?_
            refine j_iload_n X 2 dX6_file_79 rfl rfl ?_
            refine j_iload_n X 3 dX6_file_80 rfl rfl ?_
            refine j_iload_n X 4 dX6_file_81 rfl rfl ?_
            refine jc_RX6_327 X ⟨Nat.le_of_ble_eq_true rfl, Nat.le_of_ble_eq_true rfl⟩ (Nat.le_of_ble_eq_true rfl) dX6_file_82 h (fun r16 M15 h => ?_)
            refine j_astore X [(6, .ref (adr G r16.1 r16.2)), (5, .int v7), (0, .ref (adr G 6 0)), (1, .int a1), (2, .int a2), (3, .int a3), (4, .int a4)] dX6_file_85 (by decide) rfl ?_
            refine j_iload_n X 5 dX6_file_87 rfl rfl ?_
            refine jn1_s h (fun  (M17 : Mm) => J G E 7 116 [(0, .ref (adr G 6 0)), (1, .int a1)] [] M17) (fun M17 h => ?_) (fun J18 hj19 h => ?_)
            · refine j_aload_n X 0 dX6_file_116 rfl rfl ?_
              refine jf_RX6_44 X  dX6_file_117 ?_
              refine j_iload_n X 1 dX6_file_120 rfl rfl ?_
              refine jc_RX6_338 X ⟨Nat.le_of_ble_eq_true rfl, Nat.le_of_ble_eq_true rfl⟩ (Nat.le_of_ble_eq_true rfl) dX6_file_121 h (fun r21 M20 h => ?_)
              exact j_iret X Y dX6_file_124 h
            · refine j_if_ne X 105 dX6_file_88 (by decide) (fun c22 => ?_) (fun c22 => ?_)
              · replace h := h.1 c22
                refine j_aload_n X 2 dX6_file_105 rfl rfl ?_
                refine jf_RX6_20 X  dX6_file_106 ?_
                refine j_iload X 6 dX6_file_109 rfl ?_
                refine j_aload X 0 dX6_file_111 rfl ?_
                refine jc_RX6_335 X ⟨Nat.le_of_ble_eq_true rfl, Nat.le_of_ble_eq_true rfl⟩ (Nat.le_of_ble_eq_true rfl) dX6_file_113 (by decide) h (fun M23 h => ?_)
                refine j_sub [2, 3] rfl ?_
                exact hj19 M23 h
              · replace h := h.2 c22
                refine j_aload_n X 2 dX6_file_91 rfl rfl ?_
                refine jf_RX6_20 X  dX6_file_92 ?_
                refine j_iload X 6 dX6_file_95 rfl ?_
                refine j_aload X 0 dX6_file_97 rfl ?_
                refine jc_RX6_331 X ⟨Nat.le_of_ble_eq_true rfl, Nat.le_of_ble_eq_true rfl⟩ (Nat.le_of_ble_eq_true rfl) dX6_file_99 (by decide) h (fun M24 h => ?_)
                refine j_goto X 116 dX6_file_102 (by decide) ?_
                refine j_sub [2, 3] rfl ?_
                exact hj19 M24 h
          · replace h := h.2 c14
            refine j_bipush (v := (-6 : Int32)) X (by decide) dX6_file_72 ?_
            exact j_iret X Y dX6_file_74 h
        · replace h := h.2 c11
          refine j_iconst (v := (-1 : Int32)) X (by decide) dX6_file_58 ?_
          exact j_iret X Y dX6_file_59 h
      · refine j_if_ne X 42 dX6_file_27 (by decide) (fun c25 => ?_) (fun c25 => ?_)
        · replace h := h.1 c25
          refine j_aload_n X 0 dX6_file_42 rfl rfl ?_
          refine jf_RX6_20 X  dX6_file_43 ?_
          refine j_iload X 4 dX6_file_46 rfl ?_
          refine jc_RX6_160 X ⟨Nat.le_of_ble_eq_true rfl, Nat.le_of_ble_eq_true rfl⟩ (Nat.le_of_ble_eq_true rfl) dX6_file_48 (by decide) h (fun r27 M26 h => ?_)
          refine j_sub [0, 1, 2, 3, 4] rfl ?_
          exact hj10 r27 M26 h
        · replace h := h.2 c25
          refine j_aload_n X 0 dX6_file_30 rfl rfl ?_
          refine jf_RX6_20 X  dX6_file_31 ?_
          refine j_iload X 4 dX6_file_34 rfl ?_
          refine jc_RX6_138 X ⟨Nat.le_of_ble_eq_true rfl, Nat.le_of_ble_eq_true rfl⟩ (Nat.le_of_ble_eq_true rfl) dX6_file_36 (by decide) h (fun r29 M28 h => ?_)
          refine j_goto X 51 dX6_file_39 (by decide) ?_
          refine j_sub [0, 1, 2, 3, 4] rfl ?_
          exact hj10 r29 M28 h
    · refine j_if_eq X 26 dX6_file_15 (by decide) (fun c30 => ?_) (fun c30 => ?_)
      · replace h := h.1 c30
        refine j_sub [0, 1, 2, 3, 4] rfl ?_
        exact hj6 (0 : Int32) h
      · replace h := h.2 c30
        refine j_iload_n X 3 dX6_file_18 rfl rfl ?_
        refine j_iconst (v := (1 : Int32)) X (by decide) dX6_file_19 ?_
        refine j_icmp_eq X 26 dX6_file_20 (by decide) (fun c31 => ?_) (fun c31 => ?_)
        · replace h := h.1 c31
          refine j_sub [0, 1, 2, 3, 4] rfl ?_
          exact hj6 (0 : Int32) h
        · replace h := h.2 c31
          refine j_bipush (v := (-2 : Int32)) X (by decide) dX6_file_23 ?_
          exact j_iret X Y dX6_file_25 h
  · replace h := h.2 c3
    refine j_iconst (v := (-1 : Int32)) X (by decide) dX6_file_12 ?_
    exact j_iret X Y dX6_file_13 h
/-- LayeredClaims.filed(II)I -/
def wp_X6_filed (a1 : Int32) (a2 : Int32) (M : Mm) (P : Int32 → Mm → Prop) : Prop := (wp_X4_hasPlace a1 a2 M (fun (r2 : Int32) (M1 : Mm) => ((r2 = 0 → P (-1 : Int32) M1) ∧ (¬ r2 = 0 → (wp_X4_kindAt a1 a2 M1 (fun (r5 : Int32) (M4 : Mm) => P r5 M4))))))
set_option maxHeartbeats 4000000 in
set_option maxRecDepth 100000 in
theorem met_X6_filed {l : Launch} {G : GT} (hG : GD G) (a1 : Int32) (a2 : Int32) (M : Mm) (P : Int32 → Mm → Prop) (h : wp_X6_filed a1 a2 M P) : MI l G yX6_filed cX6_filed 3 (some .int) ({ frames := 2, cells := 0, slots := 0, locals := 44 } : Room) [.ref (adr G 6 0), .int a1, .int a2] M P := by
  refine met_by hG (own := RX6) rfl (by decide +kernel) (Nat.le_of_ble_eq_true rfl) (fun E hE X Y => ?_)
  show J G E 3 0 [(0, .ref (adr G 6 0)), (1, .int a1), (2, .int a2)] [] M
  unfold wp_X6_filed at h
  refine j_aload_n X 0 dX6_filed_0 rfl rfl ?_
  refine jf_RX6_44 X  dX6_filed_1 ?_
  refine j_iload_n X 1 dX6_filed_4 rfl rfl ?_
  refine j_iload_n X 2 dX6_filed_5 rfl rfl ?_
  refine jc_RX6_320 X ⟨Nat.le_of_ble_eq_true rfl, Nat.le_of_ble_eq_true rfl⟩ (Nat.le_of_ble_eq_true rfl) dX6_filed_6 h (fun r2 M1 h => ?_)
  refine j_if_eq X 24 dX6_filed_9 (by decide) (fun c3 => ?_) (fun c3 => ?_)
  · replace h := h.1 c3
    refine j_iconst (v := (-1 : Int32)) X (by decide) dX6_filed_24 ?_
    exact j_iret X Y dX6_filed_25 h
  · replace h := h.2 c3
    refine j_aload_n X 0 dX6_filed_12 rfl rfl ?_
    refine jf_RX6_44 X  dX6_filed_13 ?_
    refine j_iload_n X 1 dX6_filed_16 rfl rfl ?_
    refine j_iload_n X 2 dX6_filed_17 rfl rfl ?_
    refine jc_RX6_354 X ⟨Nat.le_of_ble_eq_true rfl, Nat.le_of_ble_eq_true rfl⟩ (Nat.le_of_ble_eq_true rfl) dX6_filed_18 h (fun r5 M4 h => ?_)
    refine j_goto X 25 dX6_filed_21 (by decide) ?_
    exact j_iret X Y dX6_filed_25 h
theorem jc_RX6_341 {G : GT} {E : ET} {cc : ByteArray} {nL pc : Nat} {rm : Room} {lv : List (Nat × Value)} {st : List Value} {M : Mm} (X : CX G E RX6 cc nL rm) (hR : 2 + 1 ≤ rm.frames ∧ 8 + (3 + 11) + 44 ≤ rm.locals) (hst : (st.map fun v => v.category).sum ≤ 8) (d : decode cc pc = .ok (.invokevirtual 341, 3)) {a1 : Int32} {a2 : Int32} {P : Int32 → Mm → Prop} (h : wp_X6_filed a1 a2 M P) (k1 : ∀ (r : Int32) (M2 : Mm), P r M2 → J G E nL (pc + 3) lv (.int r :: st) M2) : J G E nL pc lv (.int a2 :: .int a1 :: .ref (adr G 6 0) :: st) M := fun H locs ls hP hS hl => by
  have hK := X.2.2.2.2.2.1.1
  have hm := met_X6_filed (l := eL E) X.2.2.2.2.2.2.1 a1 a2 M P h
  have hR2 : 2 + 1 ≤ (eR E).frames ∧ 8 + (3 + 11) + 44 ≤ (eR E).locals := by rw [X.2.2.2.2.2.2.2.1]; exact hR
  have hC2 : eCells E + 0 ≤ (eR E).cells ∧ eSlots E + 0 ≤ (eR E).slots := by rw [X.2.2.2.2.2.2.2.1]; exact ⟨X.2.2.2.2.2.2.2.2.1, X.2.2.2.2.2.2.2.2.2⟩
  obtain ⟨q0, -, hq⟩ := wld_get (G := G) M (mw6 0 (by decide))
  exact va_calli (va_runV (C := RX6) (As := [.int a1, .int a2]) (rest := st) ⟨X.1, X.2.1, X.2.2.1, X.2.2.2.1, X.2.2.2.2.1⟩ hm (cwV (ws' := lw_aw) 2 X.2.2.2.2.1 (gwV (tw (i := 844) (by decide +kernel)) (tw (i := 845) (by decide +kernel)) (tw (i := 846) (by decide +kernel)) (tw (i := 71) (by decide +kernel)) (tw (i := 847) (by decide +kernel))) rfl rfl rfl (by decide +kernel) hR2) ⟨hr_blind, va_recv hK hP (ci := 6) (q := (RX6, TX6, 8)) (fs := objF6 G 0 (M.1 6 0)) (q0 := q0) rfl hq, fun U hU hW => ⟨rfl, by rw [hU]; exact hP, KK.warm hW X.2.2.2.2.2.1⟩⟩ rfl rfl hl.1 rfl (lv_room hst) d hC2) hS (fun q _ h => h) (fun q h => h) (fun r u t H1 locs1 ht hvm hw hB hz1 hk1 hS1 => k1 r u hw H1 locs1 ls (by rw [← ht]; exact hB.1) hS1 hl)
/-- LayeredClaims.use(II)I -/
def wp_X6_use (a1 : Int32) (a2 : Int32) (M : Mm) (P : Int32 → Mm → Prop) : Prop := (wp_X6_filed a1 a2 M (fun (r2 : Int32) (M1 : Mm) => ((0 ≤ r2 → (wp_X4_rowAt a1 a2 M1 (fun (r5 : Nat × Nat) (M4 : Mm) => ((¬ r2 = 0 → (IA (r5.1, r5.2) ∧ (vp_in (0 : Int32) (lenT r5.1) ∧ (vp_in (1 : Int32) (lenT r5.1) ∧ (vp_in (2 : Int32) (lenT r5.1) ∧ (vp_in (3 : Int32) (lenT r5.1) ∧ (wp_X6_addLayer (rd M4 r5.1 r5.2 0) (rd M4 r5.1 r5.2 1) (rd M4 r5.1 r5.2 2) (rd M4 r5.1 r5.2 3) M4 (fun (r13 : Int32) (M12 : Mm) => P r13 M12)))))))) ∧ (r2 = 0 → (IA (r5.1, r5.2) ∧ (vp_in (0 : Int32) (lenT r5.1) ∧ (vp_in (1 : Int32) (lenT r5.1) ∧ (vp_in (2 : Int32) (lenT r5.1) ∧ (vp_in (3 : Int32) (lenT r5.1) ∧ (wp_X6_addCover (rd M4 r5.1 r5.2 0) (rd M4 r5.1 r5.2 1) (rd M4 r5.1 r5.2 2) (rd M4 r5.1 r5.2 3) M4 (fun (r20 : Int32) (M19 : Mm) => P r20 M19)))))))))))) ∧ (¬ 0 ≤ r2 → P r2 M1))))
set_option maxHeartbeats 4000000 in
set_option maxRecDepth 100000 in
theorem met_X6_use {l : Launch} {G : GT} (hG : GD G) (a1 : Int32) (a2 : Int32) (M : Mm) (P : Int32 → Mm → Prop) (h : wp_X6_use a1 a2 M P) : MI l G yX6_use cX6_use 5 (some .int) ({ frames := 4, cells := 0, slots := 0, locals := 92 } : Room) [.ref (adr G 6 0), .int a1, .int a2] M P := by
  refine met_by hG (own := RX6) rfl (by decide +kernel) (Nat.le_of_ble_eq_true rfl) (fun E hE X Y => ?_)
  show J G E 5 0 [(0, .ref (adr G 6 0)), (1, .int a1), (2, .int a2)] [] M
  unfold wp_X6_use at h
  refine j_aload_n X 0 dX6_use_0 rfl rfl ?_
  refine j_iload_n X 1 dX6_use_1 rfl rfl ?_
  refine j_iload_n X 2 dX6_use_2 rfl rfl ?_
  refine jc_RX6_341 X ⟨Nat.le_of_ble_eq_true rfl, Nat.le_of_ble_eq_true rfl⟩ (Nat.le_of_ble_eq_true rfl) dX6_use_3 h (fun r2 M1 h => ?_)
  refine j_istore_n X [(3, .int r2), (0, .ref (adr G 6 0)), (1, .int a1), (2, .int a2)] dX6_use_6 rfl (by decide) rfl ?_
  refine j_iload_n X 0 dX6_use_7 rfl rfl ?_
  refine j_if_ge X 13 dX6_use_8 (by decide) (fun c3 => ?_) (fun c3 => ?_)
  · replace h := h.1 c3
    refine j_aload_n X 1 dX6_use_13 rfl rfl ?_
    refine jf_RX6_44 X  dX6_use_14 ?_
    refine j_iload_n X 2 dX6_use_17 rfl rfl ?_
    refine j_iload_n X 3 dX6_use_18 rfl rfl ?_
    refine jc_RX6_344 X ⟨Nat.le_of_ble_eq_true rfl, Nat.le_of_ble_eq_true rfl⟩ (Nat.le_of_ble_eq_true rfl) dX6_use_19 h (fun r5 M4 h => ?_)
    refine j_astore X [(4, .ref (adr G r5.1 r5.2)), (3, .int r2), (0, .ref (adr G 6 0)), (1, .int a1), (2, .int a2)] dX6_use_22 (by decide) rfl ?_
    refine j_iload_n X 1 dX6_use_24 rfl rfl ?_
    refine j_if_ne X 51 dX6_use_25 (by decide) (fun c6 => ?_) (fun c6 => ?_)
    · replace h := h.1 c6
      refine j_aload_n X 2 dX6_use_51 rfl rfl ?_
      refine j_aload X 0 dX6_use_52 rfl ?_
      refine j_iconst (v := (0 : Int32)) X (by decide) dX6_use_54 ?_
      have q7 := h.1
      replace h := h.2
      have q8 := h.1
      replace h := h.2
      refine j_iald X 0 (by decide) q7.1 q7.2 rfl q8 dX6_use_55 ?_
      refine j_aload X 0 dX6_use_56 rfl ?_
      refine j_iconst (v := (1 : Int32)) X (by decide) dX6_use_58 ?_
      have q9 := h.1
      replace h := h.2
      refine j_iald X 1 (by decide) q7.1 q7.2 rfl q9 dX6_use_59 ?_
      refine j_aload X 0 dX6_use_60 rfl ?_
      refine j_iconst (v := (2 : Int32)) X (by decide) dX6_use_62 ?_
      have q10 := h.1
      replace h := h.2
      refine j_iald X 2 (by decide) q7.1 q7.2 rfl q10 dX6_use_63 ?_
      refine j_aload X 0 dX6_use_64 rfl ?_
      refine j_iconst (v := (3 : Int32)) X (by decide) dX6_use_66 ?_
      have q11 := h.1
      replace h := h.2
      refine j_iald X 3 (by decide) q7.1 q7.2 rfl q11 dX6_use_67 ?_
      refine jc_RX6_351 X ⟨Nat.le_of_ble_eq_true rfl, Nat.le_of_ble_eq_true rfl⟩ (Nat.le_of_ble_eq_true rfl) dX6_use_68 h (fun r13 M12 h => ?_)
      exact j_iret X Y dX6_use_71 h
    · replace h := h.2 c6
      refine j_aload_n X 2 dX6_use_28 rfl rfl ?_
      refine j_aload X 0 dX6_use_29 rfl ?_
      refine j_iconst (v := (0 : Int32)) X (by decide) dX6_use_31 ?_
      have q14 := h.1
      replace h := h.2
      have q15 := h.1
      replace h := h.2
      refine j_iald X 0 (by decide) q14.1 q14.2 rfl q15 dX6_use_32 ?_
      refine j_aload X 0 dX6_use_33 rfl ?_
      refine j_iconst (v := (1 : Int32)) X (by decide) dX6_use_35 ?_
      have q16 := h.1
      replace h := h.2
      refine j_iald X 1 (by decide) q14.1 q14.2 rfl q16 dX6_use_36 ?_
      refine j_aload X 0 dX6_use_37 rfl ?_
      refine j_iconst (v := (2 : Int32)) X (by decide) dX6_use_39 ?_
      have q17 := h.1
      replace h := h.2
      refine j_iald X 2 (by decide) q14.1 q14.2 rfl q17 dX6_use_40 ?_
      refine j_aload X 0 dX6_use_41 rfl ?_
      refine j_iconst (v := (3 : Int32)) X (by decide) dX6_use_43 ?_
      have q18 := h.1
      replace h := h.2
      refine j_iald X 3 (by decide) q14.1 q14.2 rfl q18 dX6_use_44 ?_
      refine jc_RX6_348 X ⟨Nat.le_of_ble_eq_true rfl, Nat.le_of_ble_eq_true rfl⟩ (Nat.le_of_ble_eq_true rfl) dX6_use_45 h (fun r20 M19 h => ?_)
      refine j_goto X 71 dX6_use_48 (by decide) ?_
      exact j_iret X Y dX6_use_71 h
  · replace h := h.2 c3
    refine j_iload_n X 0 dX6_use_11 rfl rfl ?_
    exact j_iret X Y dX6_use_12 h
/-- LayeredClaims.save()I -/
def wp_X6_save  (M : Mm) (P : Int32 → Mm → Prop) : Prop := (wp_X0_copyFrom 1 0 M (fun (M1 : Mm) => (∀ M2 : Mm, M2 = wr M1 6 0 6 (1 : Int32) → P (rd M2 0 0 15) M2)))
set_option maxHeartbeats 4000000 in
set_option maxRecDepth 100000 in
theorem met_X6_save {l : Launch} {G : GT} (hG : GD G)  (M : Mm) (P : Int32 → Mm → Prop) (h : wp_X6_save  M P) : MI l G yX6_save cX6_save 1 (some .int) ({ frames := 2, cells := 0, slots := 0, locals := 47 } : Room) [.ref (adr G 6 0)] M P := by
  refine met_by hG (own := RX6) rfl (by decide +kernel) (Nat.le_of_ble_eq_true rfl) (fun E hE X Y => ?_)
  show J G E 1 0 [(0, .ref (adr G 6 0))] [] M
  unfold wp_X6_save at h
  refine j_aload_n X 0 dX6_save_0 rfl rfl ?_
  refine jf_RX6_24 X  dX6_save_1 ?_
  refine j_aload_n X 0 dX6_save_4 rfl rfl ?_
  refine jf_RX6_20 X  dX6_save_5 ?_
  refine jc_RX6_357 X ⟨Nat.le_of_ble_eq_true rfl, Nat.le_of_ble_eq_true rfl⟩ (Nat.le_of_ble_eq_true rfl) dX6_save_8 (by decide) h (fun M1 h => ?_)
  refine j_aload_n X 0 dX6_save_11 rfl rfl ?_
  refine j_iconst (v := (1 : Int32)) X (by decide) dX6_save_12 ?_
  refine jp_RX6_360 X  rfl dX6_save_13 ?_
  refine j_memo (fun M2 eM2 => ?_)
  replace h := h M2 eM2
  refine j_aload_n X 0 dX6_save_16 rfl rfl ?_
  refine jf_RX6_20 X  dX6_save_17 ?_
  refine jf_RX6_129 X (by decide) dX6_save_20 ?_
  exact j_iret X Y dX6_save_23 h
/-- LayeredClaims.restore()I -/
def wp_X6_restore  (M : Mm) (P : Int32 → Mm → Prop) : Prop := ((¬ (rd M 6 0 6) = 0 → (wp_X0_copyFrom 0 1 M (fun (M2 : Mm) => (wp_X1_forget  M2 (fun (M3 : Mm) => P (rd M3 0 0 15) M3))))) ∧ ((rd M 6 0 6) = 0 → P (-5 : Int32) M))
set_option maxHeartbeats 4000000 in
set_option maxRecDepth 100000 in
theorem met_X6_restore {l : Launch} {G : GT} (hG : GD G)  (M : Mm) (P : Int32 → Mm → Prop) (h : wp_X6_restore  M P) : MI l G yX6_restore cX6_restore 1 (some .int) ({ frames := 2, cells := 0, slots := 0, locals := 47 } : Room) [.ref (adr G 6 0)] M P := by
  refine met_by hG (own := RX6) rfl (by decide +kernel) (Nat.le_of_ble_eq_true rfl) (fun E hE X Y => ?_)
  show J G E 1 0 [(0, .ref (adr G 6 0))] [] M
  unfold wp_X6_restore at h
  refine j_aload_n X 0 dX6_restore_0 rfl rfl ?_
  refine jf_RX6_360 X  dX6_restore_1 ?_
  refine j_if_ne X 10 dX6_restore_4 (by decide) (fun c1 => ?_) (fun c1 => ?_)
  · replace h := h.1 c1
    refine j_aload_n X 0 dX6_restore_10 rfl rfl ?_
    refine jf_RX6_20 X  dX6_restore_11 ?_
    refine j_aload_n X 0 dX6_restore_14 rfl rfl ?_
    refine jf_RX6_24 X  dX6_restore_15 ?_
    refine jc_RX6_357 X ⟨Nat.le_of_ble_eq_true rfl, Nat.le_of_ble_eq_true rfl⟩ (Nat.le_of_ble_eq_true rfl) dX6_restore_18 (by decide) h (fun M2 h => ?_)
    refine j_aload_n X 0 dX6_restore_21 rfl rfl ?_
    refine jf_RX6_30 X  dX6_restore_22 ?_
    refine jc_RX6_364 X ⟨Nat.le_of_ble_eq_true rfl, Nat.le_of_ble_eq_true rfl⟩ (Nat.le_of_ble_eq_true rfl) dX6_restore_25 h (fun M3 h => ?_)
    refine j_aload_n X 0 dX6_restore_28 rfl rfl ?_
    refine jf_RX6_20 X  dX6_restore_29 ?_
    refine jf_RX6_129 X (by decide) dX6_restore_32 ?_
    exact j_iret X Y dX6_restore_35 h
  · replace h := h.2 c1
    refine j_bipush (v := (-5 : Int32)) X (by decide) dX6_restore_7 ?_
    exact j_iret X Y dX6_restore_9 h
/-- LayeredClaimsModel.in(III)Z -/
def wp_X7_in (a1 : Int32) (a2 : Int32) (a3 : Int32) (M : Mm) (P : Int32 → Mm → Prop) : Prop := ((a1 < a2 → P (0 : Int32) M) ∧ (¬ a1 < a2 → ((a3 < a1 → P (0 : Int32) M) ∧ (¬ a3 < a1 → P (1 : Int32) M))))
set_option maxHeartbeats 4000000 in
set_option maxRecDepth 100000 in
theorem met_X7_in {l : Launch} {G : GT} (hG : GD G) (a1 : Int32) (a2 : Int32) (a3 : Int32) (M : Mm) (P : Int32 → Mm → Prop) (h : wp_X7_in a1 a2 a3 M P) : MI l G yX7_in cX7_in 3 (some .boolean) ({ frames := 0, cells := 0, slots := 0, locals := 0 } : Room) [.int a1, .int a2, .int a3] M P := by
  refine met_by hG (own := RX7) rfl (by decide +kernel) (Nat.le_of_ble_eq_true rfl) (fun E hE X Y => ?_)
  show J G E 3 0 [(0, .int a1), (1, .int a2), (2, .int a3)] [] M
  unfold wp_X7_in at h
  refine j_iload_n X 0 dX7_in_0 rfl rfl ?_
  refine j_iload_n X 1 dX7_in_1 rfl rfl ?_
  refine j_icmp_lt X 14 dX7_in_2 (by decide) (fun c1 => ?_) (fun c1 => ?_)
  · replace h := h.1 c1
    refine j_iconst (v := (0 : Int32)) X (by decide) dX7_in_14 ?_
    exact j_zret X Y dX7_in_15 rfl h
  · replace h := h.2 c1
    refine j_iload_n X 0 dX7_in_5 rfl rfl ?_
    refine j_iload_n X 2 dX7_in_6 rfl rfl ?_
    refine j_icmp_gt X 14 dX7_in_7 (by decide) (fun c2 => ?_) (fun c2 => ?_)
    · replace h := h.1 c2
      refine j_iconst (v := (0 : Int32)) X (by decide) dX7_in_14 ?_
      exact j_zret X Y dX7_in_15 rfl h
    · replace h := h.2 c2
      refine j_iconst (v := (1 : Int32)) X (by decide) dX7_in_10 ?_
      refine j_goto X 15 dX7_in_11 (by decide) ?_
      exact j_zret X Y dX7_in_15 rfl h
theorem jc_RX7_61 {G : GT} {E : ET} {cc : ByteArray} {nL pc : Nat} {rm : Room} {lv : List (Nat × Value)} {st : List Value} {M : Mm} (X : CX G E RX7 cc nL rm) (hR : 0 + 1 ≤ rm.frames ∧ 8 + (3 + 11) + 0 ≤ rm.locals) (hst : (st.map fun v => v.category).sum ≤ 8) (d : decode cc pc = .ok (.invokestatic 61, 3)) {a1 : Int32} {a2 : Int32} {a3 : Int32} {P : Int32 → Mm → Prop} (h : wp_X7_in a1 a2 a3 M P) (k1 : ∀ (r : Int32) (M2 : Mm), P r M2 → J G E nL (pc + 3) lv (.int r :: st) M2) : J G E nL pc lv (.int a3 :: .int a2 :: .int a1 :: st) M := fun H locs ls hP hS hl => by
  have hK := X.2.2.2.2.2.1.1
  have hm := met_X7_in (l := eL E) X.2.2.2.2.2.2.1 a1 a2 a3 M P h
  have hR2 : 0 + 1 ≤ (eR E).frames ∧ 8 + (3 + 11) + 0 ≤ (eR E).locals := by rw [X.2.2.2.2.2.2.2.1]; exact hR
  have hC2 : eCells E + 0 ≤ (eR E).cells ∧ eSlots E + 0 ≤ (eR E).slots := by rw [X.2.2.2.2.2.2.2.1]; exact ⟨X.2.2.2.2.2.2.2.2.1, X.2.2.2.2.2.2.2.2.2⟩
  exact va_calli (va_runS (As := [.int a1, .int a2, .int a3]) (rest := st) ⟨X.1, X.2.1, X.2.2.1, X.2.2.2.1, X.2.2.2.2.1⟩ hm (va_cwS (ws' := lw_aw) 3 X.2.2.2.2.1 (gwS (tw (i := 934) (by decide +kernel)) (tw (i := 935) (by decide +kernel)) (tw (i := 78) (by decide +kernel)) (tw (i := 936) (by decide +kernel))) rfl rfl rfl (by decide +kernel) hR2) ⟨hr_blind, fun U hU hW => ⟨rfl, by rw [hU]; exact hP, KK.warm hW X.2.2.2.2.2.1⟩⟩ rfl rfl hl.1 rfl (lv_room hst) d hC2) hS (fun q _ h => h) (fun q h => h) (fun r u t H1 locs1 ht hvm hw hB hz1 hk1 hS1 => k1 r u hw H1 locs1 ls (by rw [← ht]; exact hB.1) hS1 hl)
/-- LayeredClaimsModel.copies([II[II)V -/
def wp_X7_copies (a1 : Nat × Nat) (a2 : Int32) (a3 : Nat × Nat) (a4 : Int32) (M : Mm) (P : Mm → Prop) : Prop := (∃ n, lq2 (fun self1 (x3 : Int32) (M4 : Mm) => (((136 : Int32) ≤ x3 → P M4) ∧ (¬ (136 : Int32) ≤ x3 → (IA (a1.1, a1.2) ∧ (vp_in (a2 + x3) (lenT a1.1) ∧ (IA (a3.1, a3.2) ∧ (vp_in (a4 + x3) (lenT a3.1) ∧ (∀ M10 : Mm, M10 = wr M4 a3.1 a3.2 (a4 + x3).toNatClampNeg (rd M4 a1.1 a1.2 (a2 + x3).toNatClampNeg) → (∀ x11 : Int32, x11 = x3 + (1 : Int32) → self1 x11 M10))))))))) n (0 : Int32) M)
set_option maxHeartbeats 4000000 in
set_option maxRecDepth 100000 in
theorem met_X7_copies {l : Launch} {G : GT} (hG : GD G) (a1 : Nat × Nat) (a2 : Int32) (a3 : Nat × Nat) (a4 : Int32) (M : Mm) (P : Mm → Prop) (h : wp_X7_copies a1 a2 a3 a4 M P) : MV l G yX7_copies cX7_copies 5 none ({ frames := 0, cells := 0, slots := 0, locals := 0 } : Room) [.ref (adr G a1.1 a1.2), .int a2, .ref (adr G a3.1 a3.2), .int a4] M P := by
  refine met_by hG (own := RX7) rfl (by decide +kernel) (Nat.le_of_ble_eq_true rfl) (fun E hE X Y => ?_)
  show J G E 5 0 [(0, .ref (adr G a1.1 a1.2)), (1, .int a2), (2, .ref (adr G a3.1 a3.2)), (3, .int a4)] [] M
  unfold wp_X7_copies at h
  refine j_iconst (v := (0 : Int32)) X (by decide) dX7_copies_0 ?_
  refine j_istore X [(4, .int (0 : Int32)), (0, .ref (adr G a1.1 a1.2)), (1, .int a2), (2, .ref (adr G a3.1 a3.2)), (3, .int a4)] dX7_copies_1 (by decide) rfl ?_
  refine j_sub [1, 2, 3, 4, 0] rfl ?_
  refine lq2_s h (fun (x3 : Int32) (M4 : Mm) => J G E 5 3 [(0, .ref (adr G a1.1 a1.2)), (1, .int a2), (2, .ref (adr G a3.1 a3.2)), (3, .int a4), (4, .int x3)] [] M4) (fun self1 ih2 x3 M4 h => ?_) id
  refine j_iload X 4 dX7_copies_3 rfl ?_
  refine j_sipush (v := (136 : Int32)) X (by decide) dX7_copies_5 ?_
  refine j_icmp_ge X 29 dX7_copies_8 (by decide) (fun c5 => ?_) (fun c5 => ?_)
  · replace h := h.1 c5
    exact j_vret X Y dX7_copies_29 h
  · replace h := h.2 c5
    refine j_aload_n X 2 dX7_copies_11 rfl rfl ?_
    refine j_iload_n X 3 dX7_copies_12 rfl rfl ?_
    refine j_iload X 4 dX7_copies_13 rfl ?_
    refine j_iadd X dX7_copies_15 ?_
    refine j_aload_n X 0 dX7_copies_16 rfl rfl ?_
    refine j_iload_n X 1 dX7_copies_17 rfl rfl ?_
    refine j_iload X 4 dX7_copies_18 rfl ?_
    refine j_iadd X dX7_copies_20 ?_
    have q6 := h.1
    replace h := h.2
    have q7 := h.1
    replace h := h.2
    refine j_iald X _ rfl q6.1 q6.2 rfl q7 dX7_copies_21 ?_
    have q8 := h.1
    replace h := h.2
    have q9 := h.1
    replace h := h.2
    refine j_iast X _ rfl q8.1 q8.2 rfl q9 dX7_copies_22 ?_
    refine j_memo (fun M10 eM10 => ?_)
    replace h := h M10 eM10
    obtain ⟨x11, ex11⟩ : ∃ z : Int32, z = x3 + (1 : Int32) := ⟨_, rfl⟩
    replace h := h x11 ex11
    refine j_iinc (v := x11) X 4 [(4, .int x11), (0, .ref (adr G a1.1 a1.2)), (1, .int a2), (2, .ref (adr G a3.1 a3.2)), (3, .int a4)] dX7_copies_23 rfl (by rw [ex11]; rfl) (by decide) rfl ?_
    refine j_goto X 3 dX7_copies_26 (by decide) ?_
    refine j_sub [1, 2, 3, 4, 0] rfl ?_
    exact ih2 x11 M10 h
theorem jc_RX7_57 {G : GT} {E : ET} {cc : ByteArray} {nL pc : Nat} {rm : Room} {lv : List (Nat × Value)} {st : List Value} {M : Mm} (X : CX G E RX7 cc nL rm) (hR : 0 + 1 ≤ rm.frames ∧ 8 + (5 + 11) + 0 ≤ rm.locals) (hst : (st.map fun v => v.category).sum ≤ 8) (d : decode cc pc = .ok (.invokestatic 57, 3)) {a1t a1b : Nat} {a2 : Int32} {a3t a3b : Nat} {a4 : Int32} {P : Mm → Prop} (h : wp_X7_copies (a1t, a1b) a2 (a3t, a3b) a4 M P) (k1 : ∀ M2 : Mm, P M2 → J G E nL (pc + 3) lv st M2) : J G E nL pc lv (.int a4 :: .ref (adr G a3t a3b) :: .int a2 :: .ref (adr G a1t a1b) :: st) M := fun H locs ls hP hS hl => by
  have hK := X.2.2.2.2.2.1.1
  have hm := met_X7_copies (l := eL E) X.2.2.2.2.2.2.1 (a1t, a1b) a2 (a3t, a3b) a4 M P h
  have hR2 : 0 + 1 ≤ (eR E).frames ∧ 8 + (5 + 11) + 0 ≤ (eR E).locals := by rw [X.2.2.2.2.2.2.2.1]; exact hR
  have hC2 : eCells E + 0 ≤ (eR E).cells ∧ eSlots E + 0 ≤ (eR E).slots := by rw [X.2.2.2.2.2.2.2.1]; exact ⟨X.2.2.2.2.2.2.2.2.1, X.2.2.2.2.2.2.2.2.2⟩
  exact va_callv (va_runS (As := [.ref (adr G a1t a1b), .int a2, .ref (adr G a3t a3b), .int a4]) (rest := st) ⟨X.1, X.2.1, X.2.2.1, X.2.2.2.1, X.2.2.2.2.1⟩ hm (va_cwS (ws' := lw_aw) 4 X.2.2.2.2.1 (gwS (tw (i := 926) (by decide +kernel)) (tw (i := 927) (by decide +kernel)) (tw (i := 78) (by decide +kernel)) (tw (i := 928) (by decide +kernel))) rfl rfl rfl (by decide +kernel) hR2) ⟨hr_blind, fun U hU hW => ⟨rfl, by rw [hU]; exact hP, KK.warm hW X.2.2.2.2.2.1⟩⟩ rfl rfl hl.1 rfl (lv_room hst) d hC2) hS (fun q _ h => h) (fun q h => h) (fun u t H1 locs1 ht hvm hw hB hz1 hk1 hS1 => k1 u hw H1 locs1 ls (by rw [← ht]; exact hB.1) hS1 hl)
