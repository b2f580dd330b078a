/-! THE CONSTRUCTORS, WALKED -/
def bl0 : List Value := [.int 0, .null, .null, .null, .null, .int 0, .null, .null, .null, .null, .null, .int 0, .int 0, .null, .null, .int 0, .null, .null, .null]
theorem df0 : ∀ j, j < 19 → defaultValue (tyX0 j) = vp_V bl0 j := by
  intro j hj
  match j, hj with
  | 0, _ => rfl
  | 1, _ => rfl
  | 2, _ => rfl
  | 3, _ => rfl
  | 4, _ => rfl
  | 5, _ => rfl
  | 6, _ => rfl
  | 7, _ => rfl
  | 8, _ => rfl
  | 9, _ => rfl
  | 10, _ => rfl
  | 11, _ => rfl
  | 12, _ => rfl
  | 13, _ => rfl
  | 14, _ => rfl
  | 15, _ => rfl
  | 16, _ => rfl
  | 17, _ => rfl
  | 18, _ => rfl
  | n + 19, h => omega
def bl1 : List Value := [.null, .int 0, .int 0]
theorem df1 : ∀ j, j < 3 → defaultValue (tyX1 j) = vp_V bl1 j := by
  intro j hj
  match j, hj with
  | 0, _ => rfl
  | 1, _ => rfl
  | 2, _ => rfl
  | n + 3, h => omega
def bl2 : List Value := [.null, .null, .null]
theorem df2 : ∀ j, j < 3 → defaultValue (tyX2 j) = vp_V bl2 j := by
  intro j hj
  match j, hj with
  | 0, _ => rfl
  | 1, _ => rfl
  | 2, _ => rfl
  | n + 3, h => omega
def bl3 : List Value := [.null, .int 0, .int 0, .int 0, .null, .null, .null]
theorem df3 : ∀ j, j < 7 → defaultValue (tyX3 j) = vp_V bl3 j := by
  intro j hj
  match j, hj with
  | 0, _ => rfl
  | 1, _ => rfl
  | 2, _ => rfl
  | 3, _ => rfl
  | 4, _ => rfl
  | 5, _ => rfl
  | 6, _ => rfl
  | n + 7, h => omega
def bl4 : List Value := [.null, .null]
theorem df4 : ∀ j, j < 2 → defaultValue (tyX4 j) = vp_V bl4 j := by
  intro j hj
  match j, hj with
  | 0, _ => rfl
  | 1, _ => rfl
  | n + 2, h => omega
def bl5 : List Value := [.null, .null, .null, .null, .null, .null, .null, .null, .null, .null, .null, .null, .null, .null, .null, .null]
theorem df5 : ∀ j, j < 16 → defaultValue (tyX5 j) = vp_V bl5 j := by
  intro j hj
  match j, hj with
  | 0, _ => rfl
  | 1, _ => rfl
  | 2, _ => rfl
  | 3, _ => rfl
  | 4, _ => rfl
  | 5, _ => rfl
  | 6, _ => rfl
  | 7, _ => rfl
  | 8, _ => rfl
  | 9, _ => rfl
  | 10, _ => rfl
  | 11, _ => rfl
  | 12, _ => rfl
  | 13, _ => rfl
  | 14, _ => rfl
  | 15, _ => rfl
  | n + 16, h => omega
def bl6 : List Value := [.null, .null, .null, .null, .null, .null, .int 0, .int 0]
theorem df6 : ∀ j, j < 8 → defaultValue (tyX6 j) = vp_V bl6 j := by
  intro j hj
  match j, hj with
  | 0, _ => rfl
  | 1, _ => rfl
  | 2, _ => rfl
  | 3, _ => rfl
  | 4, _ => rfl
  | 5, _ => rfl
  | 6, _ => rfl
  | 7, _ => rfl
  | n + 8, h => omega
def bl7 : List Value := [.null, .null, .null, .null, .int 0, .int 0, .null, .int 0, .int 0, .int 0, .int 0, .null, .null, .null, .null]
theorem df7 : ∀ j, j < 15 → defaultValue (tyX7 j) = vp_V bl7 j := by
  intro j hj
  match j, hj with
  | 0, _ => rfl
  | 1, _ => rfl
  | 2, _ => rfl
  | 3, _ => rfl
  | 4, _ => rfl
  | 5, _ => rfl
  | 6, _ => rfl
  | 7, _ => rfl
  | 8, _ => rfl
  | 9, _ => rfl
  | 10, _ => rfl
  | 11, _ => rfl
  | 12, _ => rfl
  | 13, _ => rfl
  | 14, _ => rfl
  | n + 15, h => omega
def bkW (G : GT) (b : Nat → Nat) : va_W := ((b 0), .inr (0, [.int 0, .ref (b 21), .ref (b 22), .ref (b 23), .ref (b 24), .int 0, .ref (b 26), .ref (b 27), .ref (b 28), .ref (b 29), .ref (b 30), .int 0, .int 0, .ref (b 33), .ref (b 34), .int 0, .ref (b 36), .ref (b 37), .ref (b 38)])) :: ((((((((((((((([] : va_W) ++ [((b 21), zI G 6 (fun _ => 0))]) ++ [((b 22), zI G 6 (fun _ => 0))]) ++ [((b 23), zI G 6 (fun _ => 0))]) ++ [((b 24), zI G 6 (fun _ => 0))]) ++ [((b 26), zI G 4 (fun _ => 0))]) ++ [((b 27), zI G 4 (fun _ => 0))]) ++ [((b 28), zI G 4 (fun _ => 0))]) ++ [((b 29), zI G 4 (fun _ => 0))]) ++ [((b 30), zI G 3 (fun _ => 0))]) ++ [((b 33), zI G 8 (fun _ => 0))]) ++ [((b 34), zI G 8 (fun _ => 0))]) ++ [((b 36), zI G 24 (fun _ => 0))]) ++ [((b 37), zI G 24 (fun _ => 0))]) ++ [((b 38), zI G 24 (fun _ => 0))])
def pX0 (G : GT) (h : Nat) (w : va_W) : Prop := ∃ b : Nat → Nat, b 0 = h ∧ w = bkW G b
set_option maxRecDepth 100000 in
set_option maxHeartbeats 4000000 in
theorem init_X0 {l : Launch} {G : GT} : NMc l G yX0_init cX0_init 1 ({ frames := 1, cells := 14, slots := 131, locals := 12 }) 14 131 0 bl0 (pX0 G) := by
  refine n_by (own := RX0) rfl rfl (by decide) (by decide) (fun E h0 A hE X Y => ?_)
  show NJ G A E _ 0 _ _ ((h0, .inr (0, [.int 0, .null, .null, .null, .null, .int 0, .null, .null, .null, .null, .null, .int 0, .int 0, .null, .null, .int 0, .null, .null, .null])) :: ([] : va_W)) 0 0
  refine n_aload_n X 0 dX0_init_0 rfl rfl ?_
  refine n_objInit X (tw (i := 101) (by decide +kernel)) (tw (i := 88) (by decide +kernel)) (tw (i := 89) (by decide +kernel)) (by decide) (by decide) dX0_init_1 ?_
  refine n_aload_n X 0 dX0_init_4 rfl rfl ?_
  refine n_bipush (v := (6 : Int32)) X (by decide) dX0_init_5 ?_
  refine n_newI X 6 (by decide) (by decide) (by decide) (kc' := 1) (ks' := 6) rfl rfl (Nat.le_of_ble_eq_true rfl) (Nat.le_of_ble_eq_true rfl) dX0_init_7 (fun q1 => ?_)
  show NJ G A E _ 9 _ _ ((h0, .inr (0, [.int 0, .null, .null, .null, .null, .int 0, .null, .null, .null, .null, .null, .int 0, .int 0, .null, .null, .int 0, .null, .null, .null])) :: (([] : va_W) ++ [(q1, zI G 6 (fun _ => 0))])) 1 6
  refine n_putF X 1 [.int 0, .ref q1, .null, .null, .null, .int 0, .null, .null, .null, .null, .null, .int 0, .int 0, .null, .null, .int 0, .null, .null, .null] tyX0 Y.2.2.2.2.1 inA0 tyX0_ok nmX0 rfl (by decide) (tw (i := 105) (by decide +kernel)) rfl rfl (tyX0_ok 1 (by decide)) rfl rfl (Nat.le_of_ble_eq_true rfl) rfl dX0_init_9 ?_
  refine n_aload_n X 0 dX0_init_12 rfl rfl ?_
  refine n_bipush (v := (6 : Int32)) X (by decide) dX0_init_13 ?_
  refine n_newI X 6 (by decide) (by decide) (by decide) (kc' := 2) (ks' := 12) rfl rfl (Nat.le_of_ble_eq_true rfl) (Nat.le_of_ble_eq_true rfl) dX0_init_15 (fun q2 => ?_)
  show NJ G A E _ 17 _ _ ((h0, .inr (0, [.int 0, .ref q1, .null, .null, .null, .int 0, .null, .null, .null, .null, .null, .int 0, .int 0, .null, .null, .int 0, .null, .null, .null])) :: ((([] : va_W) ++ [(q1, zI G 6 (fun _ => 0))]) ++ [(q2, zI G 6 (fun _ => 0))])) 2 12
  refine n_putF X 2 [.int 0, .ref q1, .ref q2, .null, .null, .int 0, .null, .null, .null, .null, .null, .int 0, .int 0, .null, .null, .int 0, .null, .null, .null] tyX0 Y.2.2.2.2.1 inA0 tyX0_ok nmX0 rfl (by decide) (tw (i := 108) (by decide +kernel)) rfl rfl (tyX0_ok 2 (by decide)) rfl rfl (Nat.le_of_ble_eq_true rfl) rfl dX0_init_17 ?_
  refine n_aload_n X 0 dX0_init_20 rfl rfl ?_
  refine n_bipush (v := (6 : Int32)) X (by decide) dX0_init_21 ?_
  refine n_newI X 6 (by decide) (by decide) (by decide) (kc' := 3) (ks' := 18) rfl rfl (Nat.le_of_ble_eq_true rfl) (Nat.le_of_ble_eq_true rfl) dX0_init_23 (fun q3 => ?_)
  show NJ G A E _ 25 _ _ ((h0, .inr (0, [.int 0, .ref q1, .ref q2, .null, .null, .int 0, .null, .null, .null, .null, .null, .int 0, .int 0, .null, .null, .int 0, .null, .null, .null])) :: (((([] : va_W) ++ [(q1, zI G 6 (fun _ => 0))]) ++ [(q2, zI G 6 (fun _ => 0))]) ++ [(q3, zI G 6 (fun _ => 0))])) 3 18
  refine n_putF X 3 [.int 0, .ref q1, .ref q2, .ref q3, .null, .int 0, .null, .null, .null, .null, .null, .int 0, .int 0, .null, .null, .int 0, .null, .null, .null] tyX0 Y.2.2.2.2.1 inA0 tyX0_ok nmX0 rfl (by decide) (tw (i := 111) (by decide +kernel)) rfl rfl (tyX0_ok 3 (by decide)) rfl rfl (Nat.le_of_ble_eq_true rfl) rfl dX0_init_25 ?_
  refine n_aload_n X 0 dX0_init_28 rfl rfl ?_
  refine n_bipush (v := (6 : Int32)) X (by decide) dX0_init_29 ?_
  refine n_newI X 6 (by decide) (by decide) (by decide) (kc' := 4) (ks' := 24) rfl rfl (Nat.le_of_ble_eq_true rfl) (Nat.le_of_ble_eq_true rfl) dX0_init_31 (fun q4 => ?_)
  show NJ G A E _ 33 _ _ ((h0, .inr (0, [.int 0, .ref q1, .ref q2, .ref q3, .null, .int 0, .null, .null, .null, .null, .null, .int 0, .int 0, .null, .null, .int 0, .null, .null, .null])) :: ((((([] : va_W) ++ [(q1, zI G 6 (fun _ => 0))]) ++ [(q2, zI G 6 (fun _ => 0))]) ++ [(q3, zI G 6 (fun _ => 0))]) ++ [(q4, zI G 6 (fun _ => 0))])) 4 24
  refine n_putF X 4 [.int 0, .ref q1, .ref q2, .ref q3, .ref q4, .int 0, .null, .null, .null, .null, .null, .int 0, .int 0, .null, .null, .int 0, .null, .null, .null] tyX0 Y.2.2.2.2.1 inA0 tyX0_ok nmX0 rfl (by decide) (tw (i := 113) (by decide +kernel)) rfl rfl (tyX0_ok 4 (by decide)) rfl rfl (Nat.le_of_ble_eq_true rfl) rfl dX0_init_33 ?_
  refine n_aload_n X 0 dX0_init_36 rfl rfl ?_
  refine n_iconst (v := (4 : Int32)) X (by decide) dX0_init_37 ?_
  refine n_newI X 4 (by decide) (by decide) (by decide) (kc' := 5) (ks' := 28) rfl rfl (Nat.le_of_ble_eq_true rfl) (Nat.le_of_ble_eq_true rfl) dX0_init_38 (fun q5 => ?_)
  show NJ G A E _ 40 _ _ ((h0, .inr (0, [.int 0, .ref q1, .ref q2, .ref q3, .ref q4, .int 0, .null, .null, .null, .null, .null, .int 0, .int 0, .null, .null, .int 0, .null, .null, .null])) :: (((((([] : va_W) ++ [(q1, zI G 6 (fun _ => 0))]) ++ [(q2, zI G 6 (fun _ => 0))]) ++ [(q3, zI G 6 (fun _ => 0))]) ++ [(q4, zI G 6 (fun _ => 0))]) ++ [(q5, zI G 4 (fun _ => 0))])) 5 28
  refine n_putF X 6 [.int 0, .ref q1, .ref q2, .ref q3, .ref q4, .int 0, .ref q5, .null, .null, .null, .null, .int 0, .int 0, .null, .null, .int 0, .null, .null, .null] tyX0 Y.2.2.2.2.1 inA0 tyX0_ok nmX0 rfl (by decide) (tw (i := 119) (by decide +kernel)) rfl rfl (tyX0_ok 6 (by decide)) rfl rfl (Nat.le_of_ble_eq_true rfl) rfl dX0_init_40 ?_
  refine n_aload_n X 0 dX0_init_43 rfl rfl ?_
  refine n_iconst (v := (4 : Int32)) X (by decide) dX0_init_44 ?_
  refine n_newI X 4 (by decide) (by decide) (by decide) (kc' := 6) (ks' := 32) rfl rfl (Nat.le_of_ble_eq_true rfl) (Nat.le_of_ble_eq_true rfl) dX0_init_45 (fun q6 => ?_)
  show NJ G A E _ 47 _ _ ((h0, .inr (0, [.int 0, .ref q1, .ref q2, .ref q3, .ref q4, .int 0, .ref q5, .null, .null, .null, .null, .int 0, .int 0, .null, .null, .int 0, .null, .null, .null])) :: ((((((([] : va_W) ++ [(q1, zI G 6 (fun _ => 0))]) ++ [(q2, zI G 6 (fun _ => 0))]) ++ [(q3, zI G 6 (fun _ => 0))]) ++ [(q4, zI G 6 (fun _ => 0))]) ++ [(q5, zI G 4 (fun _ => 0))]) ++ [(q6, zI G 4 (fun _ => 0))])) 6 32
  refine n_putF X 7 [.int 0, .ref q1, .ref q2, .ref q3, .ref q4, .int 0, .ref q5, .ref q6, .null, .null, .null, .int 0, .int 0, .null, .null, .int 0, .null, .null, .null] tyX0 Y.2.2.2.2.1 inA0 tyX0_ok nmX0 rfl (by decide) (tw (i := 122) (by decide +kernel)) rfl rfl (tyX0_ok 7 (by decide)) rfl rfl (Nat.le_of_ble_eq_true rfl) rfl dX0_init_47 ?_
  refine n_aload_n X 0 dX0_init_50 rfl rfl ?_
  refine n_iconst (v := (4 : Int32)) X (by decide) dX0_init_51 ?_
  refine n_newI X 4 (by decide) (by decide) (by decide) (kc' := 7) (ks' := 36) rfl rfl (Nat.le_of_ble_eq_true rfl) (Nat.le_of_ble_eq_true rfl) dX0_init_52 (fun q7 => ?_)
  show NJ G A E _ 54 _ _ ((h0, .inr (0, [.int 0, .ref q1, .ref q2, .ref q3, .ref q4, .int 0, .ref q5, .ref q6, .null, .null, .null, .int 0, .int 0, .null, .null, .int 0, .null, .null, .null])) :: (((((((([] : va_W) ++ [(q1, zI G 6 (fun _ => 0))]) ++ [(q2, zI G 6 (fun _ => 0))]) ++ [(q3, zI G 6 (fun _ => 0))]) ++ [(q4, zI G 6 (fun _ => 0))]) ++ [(q5, zI G 4 (fun _ => 0))]) ++ [(q6, zI G 4 (fun _ => 0))]) ++ [(q7, zI G 4 (fun _ => 0))])) 7 36
  refine n_putF X 8 [.int 0, .ref q1, .ref q2, .ref q3, .ref q4, .int 0, .ref q5, .ref q6, .ref q7, .null, .null, .int 0, .int 0, .null, .null, .int 0, .null, .null, .null] tyX0 Y.2.2.2.2.1 inA0 tyX0_ok nmX0 rfl (by decide) (tw (i := 125) (by decide +kernel)) rfl rfl (tyX0_ok 8 (by decide)) rfl rfl (Nat.le_of_ble_eq_true rfl) rfl dX0_init_54 ?_
  refine n_aload_n X 0 dX0_init_57 rfl rfl ?_
  refine n_iconst (v := (4 : Int32)) X (by decide) dX0_init_58 ?_
  refine n_newI X 4 (by decide) (by decide) (by decide) (kc' := 8) (ks' := 40) rfl rfl (Nat.le_of_ble_eq_true rfl) (Nat.le_of_ble_eq_true rfl) dX0_init_59 (fun q8 => ?_)
  show NJ G A E _ 61 _ _ ((h0, .inr (0, [.int 0, .ref q1, .ref q2, .ref q3, .ref q4, .int 0, .ref q5, .ref q6, .ref q7, .null, .null, .int 0, .int 0, .null, .null, .int 0, .null, .null, .null])) :: ((((((((([] : va_W) ++ [(q1, zI G 6 (fun _ => 0))]) ++ [(q2, zI G 6 (fun _ => 0))]) ++ [(q3, zI G 6 (fun _ => 0))]) ++ [(q4, zI G 6 (fun _ => 0))]) ++ [(q5, zI G 4 (fun _ => 0))]) ++ [(q6, zI G 4 (fun _ => 0))]) ++ [(q7, zI G 4 (fun _ => 0))]) ++ [(q8, zI G 4 (fun _ => 0))])) 8 40
  refine n_putF X 9 [.int 0, .ref q1, .ref q2, .ref q3, .ref q4, .int 0, .ref q5, .ref q6, .ref q7, .ref q8, .null, .int 0, .int 0, .null, .null, .int 0, .null, .null, .null] tyX0 Y.2.2.2.2.1 inA0 tyX0_ok nmX0 rfl (by decide) (tw (i := 128) (by decide +kernel)) rfl rfl (tyX0_ok 9 (by decide)) rfl rfl (Nat.le_of_ble_eq_true rfl) rfl dX0_init_61 ?_
  refine n_aload_n X 0 dX0_init_64 rfl rfl ?_
  refine n_iconst (v := (3 : Int32)) X (by decide) dX0_init_65 ?_
  refine n_newI X 3 (by decide) (by decide) (by decide) (kc' := 9) (ks' := 43) rfl rfl (Nat.le_of_ble_eq_true rfl) (Nat.le_of_ble_eq_true rfl) dX0_init_66 (fun q9 => ?_)
  show NJ G A E _ 68 _ _ ((h0, .inr (0, [.int 0, .ref q1, .ref q2, .ref q3, .ref q4, .int 0, .ref q5, .ref q6, .ref q7, .ref q8, .null, .int 0, .int 0, .null, .null, .int 0, .null, .null, .null])) :: (((((((((([] : va_W) ++ [(q1, zI G 6 (fun _ => 0))]) ++ [(q2, zI G 6 (fun _ => 0))]) ++ [(q3, zI G 6 (fun _ => 0))]) ++ [(q4, zI G 6 (fun _ => 0))]) ++ [(q5, zI G 4 (fun _ => 0))]) ++ [(q6, zI G 4 (fun _ => 0))]) ++ [(q7, zI G 4 (fun _ => 0))]) ++ [(q8, zI G 4 (fun _ => 0))]) ++ [(q9, zI G 3 (fun _ => 0))])) 9 43
  refine n_putF X 10 [.int 0, .ref q1, .ref q2, .ref q3, .ref q4, .int 0, .ref q5, .ref q6, .ref q7, .ref q8, .ref q9, .int 0, .int 0, .null, .null, .int 0, .null, .null, .null] tyX0 Y.2.2.2.2.1 inA0 tyX0_ok nmX0 rfl (by decide) (tw (i := 131) (by decide +kernel)) rfl rfl (tyX0_ok 10 (by decide)) rfl rfl (Nat.le_of_ble_eq_true rfl) rfl dX0_init_68 ?_
  refine n_aload_n X 0 dX0_init_71 rfl rfl ?_
  refine n_bipush (v := (8 : Int32)) X (by decide) dX0_init_72 ?_
  refine n_newI X 8 (by decide) (by decide) (by decide) (kc' := 10) (ks' := 51) rfl rfl (Nat.le_of_ble_eq_true rfl) (Nat.le_of_ble_eq_true rfl) dX0_init_74 (fun q10 => ?_)
  show NJ G A E _ 76 _ _ ((h0, .inr (0, [.int 0, .ref q1, .ref q2, .ref q3, .ref q4, .int 0, .ref q5, .ref q6, .ref q7, .ref q8, .ref q9, .int 0, .int 0, .null, .null, .int 0, .null, .null, .null])) :: ((((((((((([] : va_W) ++ [(q1, zI G 6 (fun _ => 0))]) ++ [(q2, zI G 6 (fun _ => 0))]) ++ [(q3, zI G 6 (fun _ => 0))]) ++ [(q4, zI G 6 (fun _ => 0))]) ++ [(q5, zI G 4 (fun _ => 0))]) ++ [(q6, zI G 4 (fun _ => 0))]) ++ [(q7, zI G 4 (fun _ => 0))]) ++ [(q8, zI G 4 (fun _ => 0))]) ++ [(q9, zI G 3 (fun _ => 0))]) ++ [(q10, zI G 8 (fun _ => 0))])) 10 51
  refine n_putF X 13 [.int 0, .ref q1, .ref q2, .ref q3, .ref q4, .int 0, .ref q5, .ref q6, .ref q7, .ref q8, .ref q9, .int 0, .int 0, .ref q10, .null, .int 0, .null, .null, .null] tyX0 Y.2.2.2.2.1 inA0 tyX0_ok nmX0 rfl (by decide) (tw (i := 140) (by decide +kernel)) rfl rfl (tyX0_ok 13 (by decide)) rfl rfl (Nat.le_of_ble_eq_true rfl) rfl dX0_init_76 ?_
  refine n_aload_n X 0 dX0_init_79 rfl rfl ?_
  refine n_bipush (v := (8 : Int32)) X (by decide) dX0_init_80 ?_
  refine n_newI X 8 (by decide) (by decide) (by decide) (kc' := 11) (ks' := 59) rfl rfl (Nat.le_of_ble_eq_true rfl) (Nat.le_of_ble_eq_true rfl) dX0_init_82 (fun q11 => ?_)
  show NJ G A E _ 84 _ _ ((h0, .inr (0, [.int 0, .ref q1, .ref q2, .ref q3, .ref q4, .int 0, .ref q5, .ref q6, .ref q7, .ref q8, .ref q9, .int 0, .int 0, .ref q10, .null, .int 0, .null, .null, .null])) :: (((((((((((([] : va_W) ++ [(q1, zI G 6 (fun _ => 0))]) ++ [(q2, zI G 6 (fun _ => 0))]) ++ [(q3, zI G 6 (fun _ => 0))]) ++ [(q4, zI G 6 (fun _ => 0))]) ++ [(q5, zI G 4 (fun _ => 0))]) ++ [(q6, zI G 4 (fun _ => 0))]) ++ [(q7, zI G 4 (fun _ => 0))]) ++ [(q8, zI G 4 (fun _ => 0))]) ++ [(q9, zI G 3 (fun _ => 0))]) ++ [(q10, zI G 8 (fun _ => 0))]) ++ [(q11, zI G 8 (fun _ => 0))])) 11 59
  refine n_putF X 14 [.int 0, .ref q1, .ref q2, .ref q3, .ref q4, .int 0, .ref q5, .ref q6, .ref q7, .ref q8, .ref q9, .int 0, .int 0, .ref q10, .ref q11, .int 0, .null, .null, .null] tyX0 Y.2.2.2.2.1 inA0 tyX0_ok nmX0 rfl (by decide) (tw (i := 143) (by decide +kernel)) rfl rfl (tyX0_ok 14 (by decide)) rfl rfl (Nat.le_of_ble_eq_true rfl) rfl dX0_init_84 ?_
  refine n_aload_n X 0 dX0_init_87 rfl rfl ?_
  refine n_bipush (v := (24 : Int32)) X (by decide) dX0_init_88 ?_
  refine n_newI X 24 (by decide) (by decide) (by decide) (kc' := 12) (ks' := 83) rfl rfl (Nat.le_of_ble_eq_true rfl) (Nat.le_of_ble_eq_true rfl) dX0_init_90 (fun q12 => ?_)
  show NJ G A E _ 92 _ _ ((h0, .inr (0, [.int 0, .ref q1, .ref q2, .ref q3, .ref q4, .int 0, .ref q5, .ref q6, .ref q7, .ref q8, .ref q9, .int 0, .int 0, .ref q10, .ref q11, .int 0, .null, .null, .null])) :: ((((((((((((([] : va_W) ++ [(q1, zI G 6 (fun _ => 0))]) ++ [(q2, zI G 6 (fun _ => 0))]) ++ [(q3, zI G 6 (fun _ => 0))]) ++ [(q4, zI G 6 (fun _ => 0))]) ++ [(q5, zI G 4 (fun _ => 0))]) ++ [(q6, zI G 4 (fun _ => 0))]) ++ [(q7, zI G 4 (fun _ => 0))]) ++ [(q8, zI G 4 (fun _ => 0))]) ++ [(q9, zI G 3 (fun _ => 0))]) ++ [(q10, zI G 8 (fun _ => 0))]) ++ [(q11, zI G 8 (fun _ => 0))]) ++ [(q12, zI G 24 (fun _ => 0))])) 12 83
  refine n_putF X 16 [.int 0, .ref q1, .ref q2, .ref q3, .ref q4, .int 0, .ref q5, .ref q6, .ref q7, .ref q8, .ref q9, .int 0, .int 0, .ref q10, .ref q11, .int 0, .ref q12, .null, .null] tyX0 Y.2.2.2.2.1 inA0 tyX0_ok nmX0 rfl (by decide) (tw (i := 149) (by decide +kernel)) rfl rfl (tyX0_ok 16 (by decide)) rfl rfl (Nat.le_of_ble_eq_true rfl) rfl dX0_init_92 ?_
  refine n_aload_n X 0 dX0_init_95 rfl rfl ?_
  refine n_bipush (v := (24 : Int32)) X (by decide) dX0_init_96 ?_
  refine n_newI X 24 (by decide) (by decide) (by decide) (kc' := 13) (ks' := 107) rfl rfl (Nat.le_of_ble_eq_true rfl) (Nat.le_of_ble_eq_true rfl) dX0_init_98 (fun q13 => ?_)
  show NJ G A E _ 100 _ _ ((h0, .inr (0, [.int 0, .ref q1, .ref q2, .ref q3, .ref q4, .int 0, .ref q5, .ref q6, .ref q7, .ref q8, .ref q9, .int 0, .int 0, .ref q10, .ref q11, .int 0, .ref q12, .null, .null])) :: (((((((((((((([] : va_W) ++ [(q1, zI G 6 (fun _ => 0))]) ++ [(q2, zI G 6 (fun _ => 0))]) ++ [(q3, zI G 6 (fun _ => 0))]) ++ [(q4, zI G 6 (fun _ => 0))]) ++ [(q5, zI G 4 (fun _ => 0))]) ++ [(q6, zI G 4 (fun _ => 0))]) ++ [(q7, zI G 4 (fun _ => 0))]) ++ [(q8, zI G 4 (fun _ => 0))]) ++ [(q9, zI G 3 (fun _ => 0))]) ++ [(q10, zI G 8 (fun _ => 0))]) ++ [(q11, zI G 8 (fun _ => 0))]) ++ [(q12, zI G 24 (fun _ => 0))]) ++ [(q13, zI G 24 (fun _ => 0))])) 13 107
  refine n_putF X 17 [.int 0, .ref q1, .ref q2, .ref q3, .ref q4, .int 0, .ref q5, .ref q6, .ref q7, .ref q8, .ref q9, .int 0, .int 0, .ref q10, .ref q11, .int 0, .ref q12, .ref q13, .null] tyX0 Y.2.2.2.2.1 inA0 tyX0_ok nmX0 rfl (by decide) (tw (i := 152) (by decide +kernel)) rfl rfl (tyX0_ok 17 (by decide)) rfl rfl (Nat.le_of_ble_eq_true rfl) rfl dX0_init_100 ?_
  refine n_aload_n X 0 dX0_init_103 rfl rfl ?_
  refine n_bipush (v := (24 : Int32)) X (by decide) dX0_init_104 ?_
  refine n_newI X 24 (by decide) (by decide) (by decide) (kc' := 14) (ks' := 131) rfl rfl (Nat.le_of_ble_eq_true rfl) (Nat.le_of_ble_eq_true rfl) dX0_init_106 (fun q14 => ?_)
  show NJ G A E _ 108 _ _ ((h0, .inr (0, [.int 0, .ref q1, .ref q2, .ref q3, .ref q4, .int 0, .ref q5, .ref q6, .ref q7, .ref q8, .ref q9, .int 0, .int 0, .ref q10, .ref q11, .int 0, .ref q12, .ref q13, .null])) :: ((((((((((((((([] : va_W) ++ [(q1, zI G 6 (fun _ => 0))]) ++ [(q2, zI G 6 (fun _ => 0))]) ++ [(q3, zI G 6 (fun _ => 0))]) ++ [(q4, zI G 6 (fun _ => 0))]) ++ [(q5, zI G 4 (fun _ => 0))]) ++ [(q6, zI G 4 (fun _ => 0))]) ++ [(q7, zI G 4 (fun _ => 0))]) ++ [(q8, zI G 4 (fun _ => 0))]) ++ [(q9, zI G 3 (fun _ => 0))]) ++ [(q10, zI G 8 (fun _ => 0))]) ++ [(q11, zI G 8 (fun _ => 0))]) ++ [(q12, zI G 24 (fun _ => 0))]) ++ [(q13, zI G 24 (fun _ => 0))]) ++ [(q14, zI G 24 (fun _ => 0))])) 14 131
  refine n_putF X 18 [.int 0, .ref q1, .ref q2, .ref q3, .ref q4, .int 0, .ref q5, .ref q6, .ref q7, .ref q8, .ref q9, .int 0, .int 0, .ref q10, .ref q11, .int 0, .ref q12, .ref q13, .ref q14] tyX0 Y.2.2.2.2.1 inA0 tyX0_ok nmX0 rfl (by decide) (tw (i := 155) (by decide +kernel)) rfl rfl (tyX0_ok 18 (by decide)) rfl rfl (Nat.le_of_ble_eq_true rfl) rfl dX0_init_108 ?_
  exact n_ret X Y dX0_init_111 ⟨(fun t => if t = 0 then h0 else if t = 21 then q1 else if t = 22 then q2 else if t = 23 then q3 else if t = 24 then q4 else if t = 26 then q5 else if t = 27 then q6 else if t = 28 then q7 else if t = 29 then q8 else if t = 30 then q9 else if t = 33 then q10 else if t = 34 then q11 else if t = 36 then q12 else if t = 37 then q13 else if t = 38 then q14 else 0), rfl, rfl⟩
def shW (G : GT) (b : Nat → Nat) : va_W := ((b 2), .inr (2, [.ref (b 60), .ref (b 61), .ref (b 62)])) :: (((([] : va_W) ++ [((b 60), zI G 24 (fun _ => 0))]) ++ [((b 61), zI G 24 (fun _ => 0))]) ++ [((b 62), zL G 24 (fun _ => 0))])
def pX2 (G : GT) (h : Nat) (w : va_W) : Prop := ∃ b : Nat → Nat, b 2 = h ∧ w = shW G b
set_option maxRecDepth 100000 in
set_option maxHeartbeats 4000000 in
theorem init_X2 {l : Launch} {G : GT} : NMc l G yX2_init cX2_init 1 ({ frames := 1, cells := 3, slots := 72, locals := 12 }) 3 72 2 bl2 (pX2 G) := by
  refine n_by (own := RX2) rfl rfl (by decide) (by decide) (fun E h0 A hE X Y => ?_)
  show NJ G A E _ 0 _ _ ((h0, .inr (2, [.null, .null, .null])) :: ([] : va_W)) 0 0
  refine n_aload_n X 0 dX2_init_0 rfl rfl ?_
  refine n_objInit X (tw (i := 205) (by decide +kernel)) (tw (i := 88) (by decide +kernel)) (tw (i := 89) (by decide +kernel)) (by decide) (by decide) dX2_init_1 ?_
  refine n_aload_n X 0 dX2_init_4 rfl rfl ?_
  refine n_bipush (v := (24 : Int32)) X (by decide) dX2_init_5 ?_
  refine n_newI X 24 (by decide) (by decide) (by decide) (kc' := 1) (ks' := 24) rfl rfl (Nat.le_of_ble_eq_true rfl) (Nat.le_of_ble_eq_true rfl) dX2_init_7 (fun q1 => ?_)
  show NJ G A E _ 9 _ _ ((h0, .inr (2, [.null, .null, .null])) :: (([] : va_W) ++ [(q1, zI G 24 (fun _ => 0))])) 1 24
  refine n_putF X 0 [.ref q1, .null, .null] tyX2 Y.2.2.2.2.1 inA2 tyX2_ok nmX2 rfl (by decide) (tw (i := 206) (by decide +kernel)) rfl rfl (tyX2_ok 0 (by decide)) rfl rfl (Nat.le_of_ble_eq_true rfl) rfl dX2_init_9 ?_
  refine n_aload_n X 0 dX2_init_12 rfl rfl ?_
  refine n_bipush (v := (24 : Int32)) X (by decide) dX2_init_13 ?_
  refine n_newI X 24 (by decide) (by decide) (by decide) (kc' := 2) (ks' := 48) rfl rfl (Nat.le_of_ble_eq_true rfl) (Nat.le_of_ble_eq_true rfl) dX2_init_15 (fun q2 => ?_)
  show NJ G A E _ 17 _ _ ((h0, .inr (2, [.ref q1, .null, .null])) :: ((([] : va_W) ++ [(q1, zI G 24 (fun _ => 0))]) ++ [(q2, zI G 24 (fun _ => 0))])) 2 48
  refine n_putF X 1 [.ref q1, .ref q2, .null] tyX2 Y.2.2.2.2.1 inA2 tyX2_ok nmX2 rfl (by decide) (tw (i := 208) (by decide +kernel)) rfl rfl (tyX2_ok 1 (by decide)) rfl rfl (Nat.le_of_ble_eq_true rfl) rfl dX2_init_17 ?_
  refine n_aload_n X 0 dX2_init_20 rfl rfl ?_
  refine n_bipush (v := (24 : Int32)) X (by decide) dX2_init_21 ?_
  refine n_newL X 24 (by decide) (by decide) (by decide) (kc' := 3) (ks' := 72) rfl rfl (Nat.le_of_ble_eq_true rfl) (Nat.le_of_ble_eq_true rfl) dX2_init_23 (fun q3 => ?_)
  show NJ G A E _ 25 _ _ ((h0, .inr (2, [.ref q1, .ref q2, .null])) :: (((([] : va_W) ++ [(q1, zI G 24 (fun _ => 0))]) ++ [(q2, zI G 24 (fun _ => 0))]) ++ [(q3, zL G 24 (fun _ => 0))])) 3 72
  refine n_putF X 2 [.ref q1, .ref q2, .ref q3] tyX2 Y.2.2.2.2.1 inA2 tyX2_ok nmX2 rfl (by decide) (tw (i := 210) (by decide +kernel)) rfl rfl (tyX2_ok 2 (by decide)) rfl rfl (Nat.le_of_ble_eq_true rfl) rfl dX2_init_25 ?_
  exact n_ret X Y dX2_init_28 ⟨(fun t => if t = 2 then h0 else if t = 60 then q1 else if t = 61 then q2 else if t = 62 then q3 else 0), rfl, rfl⟩
def txW (G : GT) (b : Nat → Nat → Nat) : va_W := ((b 3 0), .inr (3, [.ref (b 80 0), .int 0, .int 0, .int 0, .ref (b 84 0), .ref (b 85 0), .ref (b 86 0)])) :: ((((([] : va_W) ++ [((b 80 0), zC G 60 (fun _ => 0))]) ++ [((b 84 0), zC G 20 (fun _ => 0))]) ++ [((b 85 0), zI G 20 (fun _ => 0))]) ++ (((b 86 0), zR G 20 (b 286)) :: zRows G 20 3 (b 286)))
def pX3 (G : GT) (h : Nat) (w : va_W) : Prop := ∃ b : Nat → Nat → Nat, b 3 0 = h ∧ w = txW G b
set_option maxRecDepth 100000 in
set_option maxHeartbeats 4000000 in
theorem init_X3 {l : Launch} {G : GT} : NMc l G yX3_init cX3_init 1 ({ frames := 1, cells := 24, slots := 180, locals := 12 }) 24 180 3 bl3 (pX3 G) := by
  refine n_by (own := RX3) rfl rfl (by decide) (by decide) (fun E h0 A hE X Y => ?_)
  show NJ G A E _ 0 _ _ ((h0, .inr (3, [.null, .int 0, .int 0, .int 0, .null, .null, .null])) :: ([] : va_W)) 0 0
  refine n_aload_n X 0 dX3_init_0 rfl rfl ?_
  refine n_objInit X (tw (i := 308) (by decide +kernel)) (tw (i := 88) (by decide +kernel)) (tw (i := 89) (by decide +kernel)) (by decide) (by decide) dX3_init_1 ?_
  refine n_aload_n X 0 dX3_init_4 rfl rfl ?_
  refine n_bipush (v := (60 : Int32)) X (by decide) dX3_init_5 ?_
  refine n_newC X 60 (by decide) (by decide) (by decide) (kc' := 1) (ks' := 60) rfl rfl (Nat.le_of_ble_eq_true rfl) (Nat.le_of_ble_eq_true rfl) dX3_init_7 (fun q1 => ?_)
  show NJ G A E _ 9 _ _ ((h0, .inr (3, [.null, .int 0, .int 0, .int 0, .null, .null, .null])) :: (([] : va_W) ++ [(q1, zC G 60 (fun _ => 0))])) 1 60
  refine n_putF X 0 [.ref q1, .int 0, .int 0, .int 0, .null, .null, .null] tyX3 Y.2.2.2.2.1 inA3 tyX3_ok nmX3 rfl (by decide) (tw (i := 310) (by decide +kernel)) rfl rfl (tyX3_ok 0 (by decide)) rfl rfl (Nat.le_of_ble_eq_true rfl) rfl dX3_init_9 ?_
  refine n_aload_n X 0 dX3_init_12 rfl rfl ?_
  refine n_bipush (v := (20 : Int32)) X (by decide) dX3_init_13 ?_
  refine n_newC X 20 (by decide) (by decide) (by decide) (kc' := 2) (ks' := 80) rfl rfl (Nat.le_of_ble_eq_true rfl) (Nat.le_of_ble_eq_true rfl) dX3_init_15 (fun q2 => ?_)
  show NJ G A E _ 17 _ _ ((h0, .inr (3, [.ref q1, .int 0, .int 0, .int 0, .null, .null, .null])) :: ((([] : va_W) ++ [(q1, zC G 60 (fun _ => 0))]) ++ [(q2, zC G 20 (fun _ => 0))])) 2 80
  refine n_putF X 4 [.ref q1, .int 0, .int 0, .int 0, .ref q2, .null, .null] tyX3 Y.2.2.2.2.1 inA3 tyX3_ok nmX3 rfl (by decide) (tw (i := 317) (by decide +kernel)) rfl rfl (tyX3_ok 4 (by decide)) rfl rfl (Nat.le_of_ble_eq_true rfl) rfl dX3_init_17 ?_
  refine n_aload_n X 0 dX3_init_20 rfl rfl ?_
  refine n_bipush (v := (20 : Int32)) X (by decide) dX3_init_21 ?_
  refine n_newI X 20 (by decide) (by decide) (by decide) (kc' := 3) (ks' := 100) rfl rfl (Nat.le_of_ble_eq_true rfl) (Nat.le_of_ble_eq_true rfl) dX3_init_23 (fun q3 => ?_)
  show NJ G A E _ 25 _ _ ((h0, .inr (3, [.ref q1, .int 0, .int 0, .int 0, .ref q2, .null, .null])) :: (((([] : va_W) ++ [(q1, zC G 60 (fun _ => 0))]) ++ [(q2, zC G 20 (fun _ => 0))]) ++ [(q3, zI G 20 (fun _ => 0))])) 3 100
  refine n_putF X 5 [.ref q1, .int 0, .int 0, .int 0, .ref q2, .ref q3, .null] tyX3 Y.2.2.2.2.1 inA3 tyX3_ok nmX3 rfl (by decide) (tw (i := 319) (by decide +kernel)) rfl rfl (tyX3_ok 5 (by decide)) rfl rfl (Nat.le_of_ble_eq_true rfl) rfl dX3_init_25 ?_
  refine n_aload_n X 0 dX3_init_28 rfl rfl ?_
  refine n_bipush (v := (20 : Int32)) X (by decide) dX3_init_29 ?_
  refine n_iconst (v := (3 : Int32)) X (by decide) dX3_init_31 ?_
  refine n_mna X 20 3 (tw (i := 309) (by decide +kernel)) (by decide) (by decide) (by decide) (by decide) (by decide) (by decide) (kc' := 24) (ks' := 180) rfl rfl (Nat.le_of_ble_eq_true rfl) (Nat.le_of_ble_eq_true rfl) dX3_init_32 (fun q4 r4 => ?_)
  show NJ G A E _ 36 _ _ ((h0, .inr (3, [.ref q1, .int 0, .int 0, .int 0, .ref q2, .ref q3, .null])) :: ((((([] : va_W) ++ [(q1, zC G 60 (fun _ => 0))]) ++ [(q2, zC G 20 (fun _ => 0))]) ++ [(q3, zI G 20 (fun _ => 0))]) ++ ((q4, zR G 20 r4) :: zRows G 20 3 r4))) 24 180
  refine n_putF X 6 [.ref q1, .int 0, .int 0, .int 0, .ref q2, .ref q3, .ref q4] tyX3 Y.2.2.2.2.1 inA3 tyX3_ok nmX3 rfl (by decide) (tw (i := 321) (by decide +kernel)) rfl rfl (tyX3_ok 6 (by decide)) rfl rfl (Nat.le_of_ble_eq_true rfl) rfl dX3_init_36 ?_
  exact n_ret X Y dX3_init_39 ⟨(fun t k => if t = 3 then h0 else if t = 80 then q1 else if t = 84 then q2 else if t = 85 then q3 else if t = 86 then q4 else if t = 286 then r4 k else 0), rfl, rfl⟩
def tyW (G : GT) (b : Nat → Nat → Nat) : va_W := ((b 4 0), .inr (4, [.ref (b 100 0), .ref (b 101 0)])) :: ((([] : va_W) ++ [((b 100 0), zI G 12 (fun _ => -4))]) ++ (((b 101 0), zR G 12 (b 301)) :: zRows G 12 4 (b 301)))
def pX4 (G : GT) (h : Nat) (w : va_W) : Prop := ∃ b : Nat → Nat → Nat, b 4 0 = h ∧ w = tyW G b
set_option maxRecDepth 100000 in
set_option maxHeartbeats 4000000 in
theorem init_X4 {l : Launch} {G : GT} : NMc l G yX4_init cX4_init 2 ({ frames := 1, cells := 14, slots := 72, locals := 12 }) 14 72 4 bl4 (pX4 G) := by
  refine n_by (own := RX4) rfl rfl (by decide) (by decide) (fun E h0 A hE X Y => ?_)
  show NJ G A E _ 0 _ _ ((h0, .inr (4, [.null, .null])) :: ([] : va_W)) 0 0
  refine n_aload_n X 0 dX4_init_0 rfl rfl ?_
  refine n_objInit X (tw (i := 344) (by decide +kernel)) (tw (i := 88) (by decide +kernel)) (tw (i := 89) (by decide +kernel)) (by decide) (by decide) dX4_init_1 ?_
  refine n_aload_n X 0 dX4_init_4 rfl rfl ?_
  refine n_bipush (v := (12 : Int32)) X (by decide) dX4_init_5 ?_
  refine n_newI X 12 (by decide) (by decide) (by decide) (kc' := 1) (ks' := 12) rfl rfl (Nat.le_of_ble_eq_true rfl) (Nat.le_of_ble_eq_true rfl) dX4_init_7 (fun q1 => ?_)
  show NJ G A E _ 9 _ _ ((h0, .inr (4, [.null, .null])) :: (([] : va_W) ++ [(q1, zI G 12 (fun _ => 0))])) 1 12
  refine n_putF X 0 [.ref q1, .null] tyX4 Y.2.2.2.2.1 inA4 tyX4_ok nmX4 rfl (by decide) (tw (i := 346) (by decide +kernel)) rfl rfl (tyX4_ok 0 (by decide)) rfl rfl (Nat.le_of_ble_eq_true rfl) rfl dX4_init_9 ?_
  refine n_aload_n X 0 dX4_init_12 rfl rfl ?_
  refine n_bipush (v := (12 : Int32)) X (by decide) dX4_init_13 ?_
  refine n_iconst (v := (4 : Int32)) X (by decide) dX4_init_15 ?_
  refine n_mna X 12 4 (tw (i := 345) (by decide +kernel)) (by decide) (by decide) (by decide) (by decide) (by decide) (by decide) (kc' := 14) (ks' := 72) rfl rfl (Nat.le_of_ble_eq_true rfl) (Nat.le_of_ble_eq_true rfl) dX4_init_16 (fun q2 r2 => ?_)
  show NJ G A E _ 20 _ _ ((h0, .inr (4, [.ref q1, .null])) :: ((([] : va_W) ++ [(q1, zI G 12 (fun _ => 0))]) ++ ((q2, zR G 12 r2) :: zRows G 12 4 r2))) 14 72
  refine n_putF X 1 [.ref q1, .ref q2] tyX4 Y.2.2.2.2.1 inA4 tyX4_ok nmX4 rfl (by decide) (tw (i := 347) (by decide +kernel)) rfl rfl (tyX4_ok 1 (by decide)) rfl rfl (Nat.le_of_ble_eq_true rfl) rfl dX4_init_20 ?_
  refine n_iconst (v := (0 : Int32)) X (by decide) dX4_init_23 ?_
  refine n_istore_n X [(1, .int (0 : Int32)), (0, .ref h0)] dX4_init_24 rfl (by decide) rfl ?_
  refine n_iload_n X 0 dX4_init_25 rfl rfl ?_
  refine n_bipush (v := (12 : Int32)) X (by decide) dX4_init_26 ?_
  refine n_icmp_geF X 45 dX4_init_28 rfl (by decide) ?_
  refine n_aload_n X 1 dX4_init_31 rfl rfl ?_
  refine n_get X 0 0 (ci := 4) inA4 rfl rfl (by decide) (tw (i := 346) (by decide +kernel)) rfl dX4_init_32 ?_
  refine n_iload_n X 0 dX4_init_35 rfl rfl ?_
  refine n_bipush (v := (-4 : Int32)) X (by decide) dX4_init_36 ?_
  refine n_iast1 X 0 (by decide) (vpc (by decide)) dX4_init_38 ?_
  refine n_iinc (v := (1 : Int32)) X 0 [(1, .int (1 : Int32)), (0, .ref h0)] dX4_init_39 rfl (by decide) (by decide) rfl ?_
  refine n_goto X 25 dX4_init_42 rfl ?_
  refine n_iload_n X 0 dX4_init_25 rfl rfl ?_
  refine n_bipush (v := (12 : Int32)) X (by decide) dX4_init_26 ?_
  refine n_icmp_geF X 45 dX4_init_28 rfl (by decide) ?_
  refine n_aload_n X 1 dX4_init_31 rfl rfl ?_
  refine n_get X 0 0 (ci := 4) inA4 rfl rfl (by decide) (tw (i := 346) (by decide +kernel)) rfl dX4_init_32 ?_
  refine n_iload_n X 0 dX4_init_35 rfl rfl ?_
  refine n_bipush (v := (-4 : Int32)) X (by decide) dX4_init_36 ?_
  refine n_iast1 X 1 (by decide) (vpc (by decide)) dX4_init_38 ?_
  refine n_iinc (v := (2 : Int32)) X 0 [(1, .int (2 : Int32)), (0, .ref h0)] dX4_init_39 rfl (by decide) (by decide) rfl ?_
  refine n_goto X 25 dX4_init_42 rfl ?_
  refine n_iload_n X 0 dX4_init_25 rfl rfl ?_
  refine n_bipush (v := (12 : Int32)) X (by decide) dX4_init_26 ?_
  refine n_icmp_geF X 45 dX4_init_28 rfl (by decide) ?_
  refine n_aload_n X 1 dX4_init_31 rfl rfl ?_
  refine n_get X 0 0 (ci := 4) inA4 rfl rfl (by decide) (tw (i := 346) (by decide +kernel)) rfl dX4_init_32 ?_
  refine n_iload_n X 0 dX4_init_35 rfl rfl ?_
  refine n_bipush (v := (-4 : Int32)) X (by decide) dX4_init_36 ?_
  refine n_iast1 X 2 (by decide) (vpc (by decide)) dX4_init_38 ?_
  refine n_iinc (v := (3 : Int32)) X 0 [(1, .int (3 : Int32)), (0, .ref h0)] dX4_init_39 rfl (by decide) (by decide) rfl ?_
  refine n_goto X 25 dX4_init_42 rfl ?_
  refine n_iload_n X 0 dX4_init_25 rfl rfl ?_
  refine n_bipush (v := (12 : Int32)) X (by decide) dX4_init_26 ?_
  refine n_icmp_geF X 45 dX4_init_28 rfl (by decide) ?_
  refine n_aload_n X 1 dX4_init_31 rfl rfl ?_
  refine n_get X 0 0 (ci := 4) inA4 rfl rfl (by decide) (tw (i := 346) (by decide +kernel)) rfl dX4_init_32 ?_
  refine n_iload_n X 0 dX4_init_35 rfl rfl ?_
  refine n_bipush (v := (-4 : Int32)) X (by decide) dX4_init_36 ?_
  refine n_iast1 X 3 (by decide) (vpc (by decide)) dX4_init_38 ?_
  refine n_iinc (v := (4 : Int32)) X 0 [(1, .int (4 : Int32)), (0, .ref h0)] dX4_init_39 rfl (by decide) (by decide) rfl ?_
  refine n_goto X 25 dX4_init_42 rfl ?_
  refine n_iload_n X 0 dX4_init_25 rfl rfl ?_
  refine n_bipush (v := (12 : Int32)) X (by decide) dX4_init_26 ?_
  refine n_icmp_geF X 45 dX4_init_28 rfl (by decide) ?_
  refine n_aload_n X 1 dX4_init_31 rfl rfl ?_
  refine n_get X 0 0 (ci := 4) inA4 rfl rfl (by decide) (tw (i := 346) (by decide +kernel)) rfl dX4_init_32 ?_
  refine n_iload_n X 0 dX4_init_35 rfl rfl ?_
  refine n_bipush (v := (-4 : Int32)) X (by decide) dX4_init_36 ?_
  refine n_iast1 X 4 (by decide) (vpc (by decide)) dX4_init_38 ?_
  refine n_iinc (v := (5 : Int32)) X 0 [(1, .int (5 : Int32)), (0, .ref h0)] dX4_init_39 rfl (by decide) (by decide) rfl ?_
  refine n_goto X 25 dX4_init_42 rfl ?_
  refine n_iload_n X 0 dX4_init_25 rfl rfl ?_
  refine n_bipush (v := (12 : Int32)) X (by decide) dX4_init_26 ?_
  refine n_icmp_geF X 45 dX4_init_28 rfl (by decide) ?_
  refine n_aload_n X 1 dX4_init_31 rfl rfl ?_
  refine n_get X 0 0 (ci := 4) inA4 rfl rfl (by decide) (tw (i := 346) (by decide +kernel)) rfl dX4_init_32 ?_
  refine n_iload_n X 0 dX4_init_35 rfl rfl ?_
  refine n_bipush (v := (-4 : Int32)) X (by decide) dX4_init_36 ?_
  refine n_iast1 X 5 (by decide) (vpc (by decide)) dX4_init_38 ?_
  refine n_iinc (v := (6 : Int32)) X 0 [(1, .int (6 : Int32)), (0, .ref h0)] dX4_init_39 rfl (by decide) (by decide) rfl ?_
  refine n_goto X 25 dX4_init_42 rfl ?_
  refine n_iload_n X 0 dX4_init_25 rfl rfl ?_
  refine n_bipush (v := (12 : Int32)) X (by decide) dX4_init_26 ?_
  refine n_icmp_geF X 45 dX4_init_28 rfl (by decide) ?_
  refine n_aload_n X 1 dX4_init_31 rfl rfl ?_
  refine n_get X 0 0 (ci := 4) inA4 rfl rfl (by decide) (tw (i := 346) (by decide +kernel)) rfl dX4_init_32 ?_
  refine n_iload_n X 0 dX4_init_35 rfl rfl ?_
  refine n_bipush (v := (-4 : Int32)) X (by decide) dX4_init_36 ?_
  refine n_iast1 X 6 (by decide) (vpc (by decide)) dX4_init_38 ?_
  refine n_iinc (v := (7 : Int32)) X 0 [(1, .int (7 : Int32)), (0, .ref h0)] dX4_init_39 rfl (by decide) (by decide) rfl ?_
  refine n_goto X 25 dX4_init_42 rfl ?_
  refine n_iload_n X 0 dX4_init_25 rfl rfl ?_
  refine n_bipush (v := (12 : Int32)) X (by decide) dX4_init_26 ?_
  refine n_icmp_geF X 45 dX4_init_28 rfl (by decide) ?_
  refine n_aload_n X 1 dX4_init_31 rfl rfl ?_
  refine n_get X 0 0 (ci := 4) inA4 rfl rfl (by decide) (tw (i := 346) (by decide +kernel)) rfl dX4_init_32 ?_
  refine n_iload_n X 0 dX4_init_35 rfl rfl ?_
  refine n_bipush (v := (-4 : Int32)) X (by decide) dX4_init_36 ?_
  refine n_iast1 X 7 (by decide) (vpc (by decide)) dX4_init_38 ?_
  refine n_iinc (v := (8 : Int32)) X 0 [(1, .int (8 : Int32)), (0, .ref h0)] dX4_init_39 rfl (by decide) (by decide) rfl ?_
  refine n_goto X 25 dX4_init_42 rfl ?_
  refine n_iload_n X 0 dX4_init_25 rfl rfl ?_
  refine n_bipush (v := (12 : Int32)) X (by decide) dX4_init_26 ?_
  refine n_icmp_geF X 45 dX4_init_28 rfl (by decide) ?_
  refine n_aload_n X 1 dX4_init_31 rfl rfl ?_
  refine n_get X 0 0 (ci := 4) inA4 rfl rfl (by decide) (tw (i := 346) (by decide +kernel)) rfl dX4_init_32 ?_
  refine n_iload_n X 0 dX4_init_35 rfl rfl ?_
  refine n_bipush (v := (-4 : Int32)) X (by decide) dX4_init_36 ?_
  refine n_iast1 X 8 (by decide) (vpc (by decide)) dX4_init_38 ?_
  refine n_iinc (v := (9 : Int32)) X 0 [(1, .int (9 : Int32)), (0, .ref h0)] dX4_init_39 rfl (by decide) (by decide) rfl ?_
  refine n_goto X 25 dX4_init_42 rfl ?_
  refine n_iload_n X 0 dX4_init_25 rfl rfl ?_
  refine n_bipush (v := (12 : Int32)) X (by decide) dX4_init_26 ?_
  refine n_icmp_geF X 45 dX4_init_28 rfl (by decide) ?_
  refine n_aload_n X 1 dX4_init_31 rfl rfl ?_
  refine n_get X 0 0 (ci := 4) inA4 rfl rfl (by decide) (tw (i := 346) (by decide +kernel)) rfl dX4_init_32 ?_
  refine n_iload_n X 0 dX4_init_35 rfl rfl ?_
  refine n_bipush (v := (-4 : Int32)) X (by decide) dX4_init_36 ?_
  refine n_iast1 X 9 (by decide) (vpc (by decide)) dX4_init_38 ?_
  refine n_iinc (v := (10 : Int32)) X 0 [(1, .int (10 : Int32)), (0, .ref h0)] dX4_init_39 rfl (by decide) (by decide) rfl ?_
  refine n_goto X 25 dX4_init_42 rfl ?_
  refine n_iload_n X 0 dX4_init_25 rfl rfl ?_
  refine n_bipush (v := (12 : Int32)) X (by decide) dX4_init_26 ?_
  refine n_icmp_geF X 45 dX4_init_28 rfl (by decide) ?_
  refine n_aload_n X 1 dX4_init_31 rfl rfl ?_
  refine n_get X 0 0 (ci := 4) inA4 rfl rfl (by decide) (tw (i := 346) (by decide +kernel)) rfl dX4_init_32 ?_
  refine n_iload_n X 0 dX4_init_35 rfl rfl ?_
  refine n_bipush (v := (-4 : Int32)) X (by decide) dX4_init_36 ?_
  refine n_iast1 X 10 (by decide) (vpc (by decide)) dX4_init_38 ?_
  refine n_iinc (v := (11 : Int32)) X 0 [(1, .int (11 : Int32)), (0, .ref h0)] dX4_init_39 rfl (by decide) (by decide) rfl ?_
  refine n_goto X 25 dX4_init_42 rfl ?_
  refine n_iload_n X 0 dX4_init_25 rfl rfl ?_
  refine n_bipush (v := (12 : Int32)) X (by decide) dX4_init_26 ?_
  refine n_icmp_geF X 45 dX4_init_28 rfl (by decide) ?_
  refine n_aload_n X 1 dX4_init_31 rfl rfl ?_
  refine n_get X 0 0 (ci := 4) inA4 rfl rfl (by decide) (tw (i := 346) (by decide +kernel)) rfl dX4_init_32 ?_
  refine n_iload_n X 0 dX4_init_35 rfl rfl ?_
  refine n_bipush (v := (-4 : Int32)) X (by decide) dX4_init_36 ?_
  refine n_iast1 X 11 (by decide) (vpc (by decide)) dX4_init_38 ?_
  refine n_iinc (v := (12 : Int32)) X 0 [(1, .int (12 : Int32)), (0, .ref h0)] dX4_init_39 rfl (by decide) (by decide) rfl ?_
  refine n_goto X 25 dX4_init_42 rfl ?_
  refine n_iload_n X 0 dX4_init_25 rfl rfl ?_
  refine n_bipush (v := (12 : Int32)) X (by decide) dX4_init_26 ?_
  refine n_icmp_geT X 45 dX4_init_28 rfl (by decide) ?_
  refine n_ws1 (x' := (12, .inl (fun _ => -4))) (by
    rw [vp_cell_i, vp_cell_i]
    refine arrV_cg (fun j hj => congrArg Value.int ?_)
    match j, hj with
    | 0, _ => rfl
    | 1, _ => rfl
    | 2, _ => rfl
    | 3, _ => rfl
    | 4, _ => rfl
    | 5, _ => rfl
    | 6, _ => rfl
    | 7, _ => rfl
    | 8, _ => rfl
    | 9, _ => rfl
    | 10, _ => rfl
    | 11, _ => rfl
    | n + 12, h => omega) ?_
  exact n_ret X Y dX4_init_45 ⟨(fun t k => if t = 4 then h0 else if t = 100 then q1 else if t = 101 then q2 else if t = 301 then r2 k else 0), rfl, rfl⟩
def hiW (G : GT) (b : Nat → Nat → Nat) : va_W := ((b 1 0), .inr (1, [.ref (b 40 0), .int 0, .int 0])) :: ((((((([((b 40 0), zB G 7 (fun j => some (b 0 (2 + j))))] ++ bkW G (fun t => b t 2)) ++ bkW G (fun t => b t 3)) ++ bkW G (fun t => b t 4)) ++ bkW G (fun t => b t 5)) ++ bkW G (fun t => b t 6)) ++ bkW G (fun t => b t 7)) ++ bkW G (fun t => b t 8))
def pX1 (G : GT) (h : Nat) (w : va_W) : Prop := ∃ b : Nat → Nat → Nat, b 1 0 = h ∧ w = hiW G b
set_option maxHeartbeats 1000000 in
theorem hi_step {G : GT} {A : Addr → Prop} {E : ET} {h0 q1 kc ks kc' ks' : Nat} {rm : Room} (X : NX G A E RX1 cX1_init 2 rm) (i i2 : Int32) (j : Nat) {f : Nat → Option Nat} {R : va_W}
    (hi : ¬ (7 : Int32) ≤ i) (hj : i.toNatClampNeg = j) (hin : vp_in i 7) (hi2 : i + Int32.ofInt 1 = i2) (hrm : 1 + 1 ≤ rm.frames ∧ 8 + (1 + 11) + 12 ≤ rm.locals) (hkc : kc + 15 = kc') (hks : ks + 150 = ks') (hcells : kc' ≤ rm.cells) (hslots : ks' ≤ rm.slots)
    (k : ∀ b : Nat → Nat, NJ G A E 2 15 [(1, .int i2), (0, .ref h0)] [] ((h0, .inr (1, [.ref q1, .int 0, .int 0])) :: (q1, zB G 7 (va_up f j (some (b 0)))) :: (R ++ bkW G b)) kc' ks') : NJ G A E 2 15 [(1, .int i), (0, .ref h0)] [] ((h0, .inr (1, [.ref q1, .int 0, .int 0])) :: (q1, zB G 7 f) :: R) kc ks := by
  subst hkc hks
  refine n_iload_n X 0 dX1_init_15 rfl rfl ?_
  refine n_bipush (v := (7 : Int32)) X (by decide) dX1_init_16 ?_
  refine n_icmp_geF X 40 dX1_init_18 rfl hi ?_
  refine n_aload_n X 1 dX1_init_21 rfl rfl ?_
  refine n_get X 0 0 (ci := 1) inA1 rfl rfl (by decide) (tw (i := 293) (by decide +kernel)) rfl dX1_init_22 ?_
  refine n_iload_n X 0 dX1_init_25 rfl rfl ?_
  refine n_new X tyX0 (fs := bl0) (ci := 0) inA0 tyX0_ok (tw (i := 290) (by decide +kernel)) (tw (i := 97) (by decide +kernel)) (tw (i := 73) (by decide +kernel)) rfl df0 (kc' := kc + 1) (ks' := ks + 19) rfl rfl (by omega) (by omega) dX1_init_26 (fun q2 => ?_)
  refine n_dup X dX1_init_29 ?_
  refine n_callN (ws := (h0, .inr (1, [.ref q1, .int 0, .int 0])) :: (q1, zB G 7 f) :: R) (fs0 := bl0) X (init_X0 (l := eL E)) (tw (i := 100) (by decide +kernel)) (tw (i := 73) (by decide +kernel)) (tn (i := 292) (by decide +kernel)) (tw (i := 99) (by decide +kernel)) rfl rfl rfl (by decide +kernel) hrm (Nat.le_of_ble_eq_true rfl) (kc' := kc + 15) (ks' := ks + 150) (by omega) (by omega) (by omega) (by omega) dX1_init_30 (fun w hw => ?_)
  obtain ⟨b, eb, rfl⟩ := hw
  subst eb
  show NJ G A E _ 33 _ _ ((h0, .inr (1, [.ref q1, .int 0, .int 0])) :: (q1, zB G 7 f) :: (R ++ bkW G b)) _ _
  refine n_aast1 X (R.length + 2) j hj (by rw [List.getElem?_cons_succ, List.getElem?_cons_succ, List.getElem?_append_right (Nat.le_refl _), Nat.sub_self]; rfl) hin dX1_init_33 ?_
  refine n_iinc (v := i2) X 0 [(1, .int i2), (0, .ref h0)] dX1_init_34 rfl hi2 (by decide) rfl ?_
  refine n_goto X 15 dX1_init_37 rfl ?_
  exact k b
set_option maxRecDepth 100000 in
set_option maxHeartbeats 4000000 in
theorem init_X1 {l : Launch} {G : GT} : NMc l G yX1_init cX1_init 2 ({ frames := 2, cells := 106, slots := 1057, locals := 32 }) 106 1057 1 bl1 (pX1 G) := by
  refine n_by (own := RX1) rfl rfl (by decide) (by decide) (fun E h0 A hE X Y => ?_)
  show NJ G A E _ 0 _ _ ((h0, .inr (1, [.null, .int 0, .int 0])) :: ([] : va_W)) 0 0
  refine n_aload_n X 0 dX1_init_0 rfl rfl ?_
  refine n_objInit X (tw (i := 289) (by decide +kernel)) (tw (i := 88) (by decide +kernel)) (tw (i := 89) (by decide +kernel)) (by decide) (by decide) dX1_init_1 ?_
  refine n_aload_n X 0 dX1_init_4 rfl rfl ?_
  refine n_bipush (v := (7 : Int32)) X (by decide) dX1_init_5 ?_
  refine n_newB X 7 (tw (i := 290) (by decide +kernel)) (by decide) (by decide) (by decide) (kc' := 1) (ks' := 7) rfl rfl (Nat.le_of_ble_eq_true rfl) (Nat.le_of_ble_eq_true rfl) dX1_init_7 (fun q1 => ?_)
  show NJ G A E _ 10 _ _ ((h0, .inr (1, [.null, .int 0, .int 0])) :: [(q1, zB G 7 (fun _ => none))]) 1 7
  refine n_putF X 0 [.ref q1, .int 0, .int 0] tyX1 Y.2.2.2.2.1 inA1 tyX1_ok nmX1 rfl (by decide) (tw (i := 293) (by decide +kernel)) rfl rfl (tyX1_ok 0 (by decide)) rfl rfl (Nat.le_of_ble_eq_true rfl) rfl dX1_init_10 ?_
  refine n_iconst (v := (0 : Int32)) X (by decide) dX1_init_13 ?_
  refine n_istore_n X [(1, .int (0 : Int32)), (0, .ref h0)] dX1_init_14 rfl (by decide) rfl ?_
  refine hi_step X (0 : Int32) (1 : Int32) 0 (by decide) (by decide) (vpc (by decide)) (by decide) (by decide) (kc' := 16) (ks' := 157) rfl rfl (by decide) (by decide) (fun b2 => ?_)
  refine hi_step X (1 : Int32) (2 : Int32) 1 (by decide) (by decide) (vpc (by decide)) (by decide) (by decide) (kc' := 31) (ks' := 307) rfl rfl (by decide) (by decide) (fun b3 => ?_)
  refine hi_step X (2 : Int32) (3 : Int32) 2 (by decide) (by decide) (vpc (by decide)) (by decide) (by decide) (kc' := 46) (ks' := 457) rfl rfl (by decide) (by decide) (fun b4 => ?_)
  refine hi_step X (3 : Int32) (4 : Int32) 3 (by decide) (by decide) (vpc (by decide)) (by decide) (by decide) (kc' := 61) (ks' := 607) rfl rfl (by decide) (by decide) (fun b5 => ?_)
  refine hi_step X (4 : Int32) (5 : Int32) 4 (by decide) (by decide) (vpc (by decide)) (by decide) (by decide) (kc' := 76) (ks' := 757) rfl rfl (by decide) (by decide) (fun b6 => ?_)
  refine hi_step X (5 : Int32) (6 : Int32) 5 (by decide) (by decide) (vpc (by decide)) (by decide) (by decide) (kc' := 91) (ks' := 907) rfl rfl (by decide) (by decide) (fun b7 => ?_)
  refine hi_step X (6 : Int32) (7 : Int32) 6 (by decide) (by decide) (vpc (by decide)) (by decide) (by decide) (kc' := 106) (ks' := 1057) rfl rfl (by decide) (by decide) (fun b8 => ?_)
  refine n_iload_n X 0 dX1_init_15 rfl rfl ?_
  refine n_bipush (v := (7 : Int32)) X (by decide) dX1_init_16 ?_
  refine n_icmp_geT X 40 dX1_init_18 rfl (by decide) ?_
  refine n_ws1 (x' := (7, .inr (.inr (.inr (.inr (fun j => some (if 2 + j = 2 then b2 0 else if 2 + j = 3 then b3 0 else if 2 + j = 4 then b4 0 else if 2 + j = 5 then b5 0 else if 2 + j = 6 then b6 0 else if 2 + j = 7 then b7 0 else b8 0))))))) (by
    rw [vp_cell_q, vp_cell_q]
    refine arrV_cg (fun j hj => ?_)
    match j, hj with
    | 0, _ => rfl
    | 1, _ => rfl
    | 2, _ => rfl
    | 3, _ => rfl
    | 4, _ => rfl
    | 5, _ => rfl
    | 6, _ => rfl
    | n + 7, h => omega) ?_
  exact n_ret X Y dX1_init_40 ⟨(fun t k => if t = 1 then h0 else if t = 40 then q1 else if k = 2 then b2 t else if k = 3 then b3 t else if k = 4 then b4 t else if k = 5 then b5 t else if k = 6 then b6 t else if k = 7 then b7 t else b8 t), rfl, rfl⟩
def yrW (G : GT) (b : Nat → Nat → Nat) : va_W := ((b 5 0), .inr (5, [.ref (b 0 0), .ref (b 121 0), .ref (b 122 0), .ref (b 123 0), .ref (b 124 0), .ref (b 125 0), .ref (b 126 0), .ref (b 127 0), .ref (b 128 0), .ref (b 129 0), .ref (b 130 0), .ref (b 131 0), .ref (b 132 0), .ref (b 133 0), .ref (b 134 0), .ref (b 2 0)])) :: ((((((((((((((((([] : va_W) ++ bkW G (fun t => b t 0)) ++ [((b 121 0), zI G 8 (fun _ => 0))]) ++ [((b 122 0), zI G 8 (fun _ => 0))]) ++ [((b 123 0), zI G 24 (fun _ => 0))]) ++ (((b 124 0), zR G 8 (b 324)) :: zRows G 8 6 (b 324))) ++ (((b 125 0), zR G 8 (b 325)) :: zRows G 8 6 (b 325))) ++ (((b 126 0), zR G 8 (b 326)) :: zRows G 8 6 (b 326))) ++ (((b 127 0), zR G 8 (b 327)) :: zRows G 8 6 (b 327))) ++ (((b 128 0), zR G 8 (b 328)) :: zRows G 8 6 (b 328))) ++ [((b 129 0), zI G 6 (fun _ => 0))]) ++ [((b 130 0), zI G 8 (fun _ => 0))]) ++ (((b 131 0), zR G 8 (b 331)) :: zRows G 8 4 (b 331))) ++ [((b 132 0), zI G 4 (fun _ => 0))]) ++ [((b 133 0), zI G 8 (fun _ => 0))]) ++ [((b 134 0), zI G 24 (fun _ => 0))]) ++ shW G (fun t => b t 0))
def pX5 (G : GT) (h : Nat) (w : va_W) : Prop := ∃ b : Nat → Nat → Nat, b 5 0 = h ∧ w = yrW G b
set_option maxRecDepth 100000 in
set_option maxHeartbeats 4000000 in
theorem init_X5 {l : Launch} {G : GT} : NMc l G yX5_init cX5_init 1 ({ frames := 2, cells := 81, slots := 635, locals := 32 }) 81 635 5 bl5 (pX5 G) := by
  refine n_by (own := RX5) rfl rfl (by decide) (by decide) (fun E h0 A hE X Y => ?_)
  show NJ G A E _ 0 _ _ ((h0, .inr (5, [.null, .null, .null, .null, .null, .null, .null, .null, .null, .null, .null, .null, .null, .null, .null, .null])) :: ([] : va_W)) 0 0
  refine n_aload_n X 0 dX5_init_0 rfl rfl ?_
  refine n_objInit X (tw (i := 95) (by decide +kernel)) (tw (i := 88) (by decide +kernel)) (tw (i := 89) (by decide +kernel)) (by decide) (by decide) dX5_init_1 ?_
  refine n_aload_n X 0 dX5_init_4 rfl rfl ?_
  refine n_new X tyX0 (fs := bl0) (ci := 0) inA0 tyX0_ok (tw (i := 96) (by decide +kernel)) (tw (i := 97) (by decide +kernel)) (tw (i := 73) (by decide +kernel)) rfl df0 (kc' := 1) (ks' := 19) rfl rfl (Nat.le_of_ble_eq_true rfl) (Nat.le_of_ble_eq_true rfl) dX5_init_5 (fun q1 => ?_)
  refine n_dup X dX5_init_8 ?_
  refine n_callN (ws := (h0, .inr (5, [.null, .null, .null, .null, .null, .null, .null, .null, .null, .null, .null, .null, .null, .null, .null, .null])) :: ([] : va_W)) (fs0 := bl0) X (init_X0 (l := eL E)) (tw (i := 100) (by decide +kernel)) (tw (i := 73) (by decide +kernel)) (tn (i := 98) (by decide +kernel)) (tw (i := 99) (by decide +kernel)) rfl rfl rfl (by decide +kernel) (by decide) (Nat.le_of_ble_eq_true rfl) (kc' := 15) (ks' := 150) rfl rfl (Nat.le_of_ble_eq_true rfl) (Nat.le_of_ble_eq_true rfl) dX5_init_9 (fun w hw => ?_)
  obtain ⟨b1, eq1, rfl⟩ := hw
  subst eq1
  show NJ G A E _ 12 _ _ ((h0, .inr (5, [.null, .null, .null, .null, .null, .null, .null, .null, .null, .null, .null, .null, .null, .null, .null, .null])) :: (([] : va_W) ++ bkW G b1)) 15 150
  refine n_putF X 0 [.ref (b1 0), .null, .null, .null, .null, .null, .null, .null, .null, .null, .null, .null, .null, .null, .null, .null] tyX5 Y.2.2.2.2.1 inA5 tyX5_ok nmX5 rfl (by decide) (tw (i := 219) (by decide +kernel)) rfl rfl (tyX5_ok 0 (by decide)) rfl rfl (Nat.le_of_ble_eq_true rfl) rfl dX5_init_12 ?_
  refine n_aload_n X 0 dX5_init_15 rfl rfl ?_
  refine n_bipush (v := (8 : Int32)) X (by decide) dX5_init_16 ?_
  refine n_newI X 8 (by decide) (by decide) (by decide) (kc' := 16) (ks' := 158) rfl rfl (Nat.le_of_ble_eq_true rfl) (Nat.le_of_ble_eq_true rfl) dX5_init_18 (fun q2 => ?_)
  show NJ G A E _ 20 _ _ ((h0, .inr (5, [.ref (b1 0), .null, .null, .null, .null, .null, .null, .null, .null, .null, .null, .null, .null, .null, .null, .null])) :: ((([] : va_W) ++ bkW G b1) ++ [(q2, zI G 8 (fun _ => 0))])) 16 158
  refine n_putF X 1 [.ref (b1 0), .ref q2, .null, .null, .null, .null, .null, .null, .null, .null, .null, .null, .null, .null, .null, .null] tyX5 Y.2.2.2.2.1 inA5 tyX5_ok nmX5 rfl (by decide) (tw (i := 221) (by decide +kernel)) rfl rfl (tyX5_ok 1 (by decide)) rfl rfl (Nat.le_of_ble_eq_true rfl) rfl dX5_init_20 ?_
  refine n_aload_n X 0 dX5_init_23 rfl rfl ?_
  refine n_bipush (v := (8 : Int32)) X (by decide) dX5_init_24 ?_
  refine n_newI X 8 (by decide) (by decide) (by decide) (kc' := 17) (ks' := 166) rfl rfl (Nat.le_of_ble_eq_true rfl) (Nat.le_of_ble_eq_true rfl) dX5_init_26 (fun q3 => ?_)
  show NJ G A E _ 28 _ _ ((h0, .inr (5, [.ref (b1 0), .ref q2, .null, .null, .null, .null, .null, .null, .null, .null, .null, .null, .null, .null, .null, .null])) :: (((([] : va_W) ++ bkW G b1) ++ [(q2, zI G 8 (fun _ => 0))]) ++ [(q3, zI G 8 (fun _ => 0))])) 17 166
  refine n_putF X 2 [.ref (b1 0), .ref q2, .ref q3, .null, .null, .null, .null, .null, .null, .null, .null, .null, .null, .null, .null, .null] tyX5 Y.2.2.2.2.1 inA5 tyX5_ok nmX5 rfl (by decide) (tw (i := 223) (by decide +kernel)) rfl rfl (tyX5_ok 2 (by decide)) rfl rfl (Nat.le_of_ble_eq_true rfl) rfl dX5_init_28 ?_
  refine n_aload_n X 0 dX5_init_31 rfl rfl ?_
  refine n_bipush (v := (24 : Int32)) X (by decide) dX5_init_32 ?_
  refine n_newI X 24 (by decide) (by decide) (by decide) (kc' := 18) (ks' := 190) rfl rfl (Nat.le_of_ble_eq_true rfl) (Nat.le_of_ble_eq_true rfl) dX5_init_34 (fun q4 => ?_)
  show NJ G A E _ 36 _ _ ((h0, .inr (5, [.ref (b1 0), .ref q2, .ref q3, .null, .null, .null, .null, .null, .null, .null, .null, .null, .null, .null, .null, .null])) :: ((((([] : va_W) ++ bkW G b1) ++ [(q2, zI G 8 (fun _ => 0))]) ++ [(q3, zI G 8 (fun _ => 0))]) ++ [(q4, zI G 24 (fun _ => 0))])) 18 190
  refine n_putF X 3 [.ref (b1 0), .ref q2, .ref q3, .ref q4, .null, .null, .null, .null, .null, .null, .null, .null, .null, .null, .null, .null] tyX5 Y.2.2.2.2.1 inA5 tyX5_ok nmX5 rfl (by decide) (tw (i := 225) (by decide +kernel)) rfl rfl (tyX5_ok 3 (by decide)) rfl rfl (Nat.le_of_ble_eq_true rfl) rfl dX5_init_36 ?_
  refine n_aload_n X 0 dX5_init_39 rfl rfl ?_
  refine n_bipush (v := (8 : Int32)) X (by decide) dX5_init_40 ?_
  refine n_bipush (v := (6 : Int32)) X (by decide) dX5_init_42 ?_
  refine n_mna X 8 6 (tw (i := 198) (by decide +kernel)) (by decide) (by decide) (by decide) (by decide) (by decide) (by decide) (kc' := 27) (ks' := 246) rfl rfl (Nat.le_of_ble_eq_true rfl) (Nat.le_of_ble_eq_true rfl) dX5_init_44 (fun q5 r5 => ?_)
  show NJ G A E _ 48 _ _ ((h0, .inr (5, [.ref (b1 0), .ref q2, .ref q3, .ref q4, .null, .null, .null, .null, .null, .null, .null, .null, .null, .null, .null, .null])) :: (((((([] : va_W) ++ bkW G b1) ++ [(q2, zI G 8 (fun _ => 0))]) ++ [(q3, zI G 8 (fun _ => 0))]) ++ [(q4, zI G 24 (fun _ => 0))]) ++ ((q5, zR G 8 r5) :: zRows G 8 6 r5))) 27 246
  refine n_putF X 4 [.ref (b1 0), .ref q2, .ref q3, .ref q4, .ref q5, .null, .null, .null, .null, .null, .null, .null, .null, .null, .null, .null] tyX5 Y.2.2.2.2.1 inA5 tyX5_ok nmX5 rfl (by decide) (tw (i := 227) (by decide +kernel)) rfl rfl (tyX5_ok 4 (by decide)) rfl rfl (Nat.le_of_ble_eq_true rfl) rfl dX5_init_48 ?_
  refine n_aload_n X 0 dX5_init_51 rfl rfl ?_
  refine n_bipush (v := (8 : Int32)) X (by decide) dX5_init_52 ?_
  refine n_bipush (v := (6 : Int32)) X (by decide) dX5_init_54 ?_
  refine n_mna X 8 6 (tw (i := 198) (by decide +kernel)) (by decide) (by decide) (by decide) (by decide) (by decide) (by decide) (kc' := 36) (ks' := 302) rfl rfl (Nat.le_of_ble_eq_true rfl) (Nat.le_of_ble_eq_true rfl) dX5_init_56 (fun q6 r6 => ?_)
  show NJ G A E _ 60 _ _ ((h0, .inr (5, [.ref (b1 0), .ref q2, .ref q3, .ref q4, .ref q5, .null, .null, .null, .null, .null, .null, .null, .null, .null, .null, .null])) :: ((((((([] : va_W) ++ bkW G b1) ++ [(q2, zI G 8 (fun _ => 0))]) ++ [(q3, zI G 8 (fun _ => 0))]) ++ [(q4, zI G 24 (fun _ => 0))]) ++ ((q5, zR G 8 r5) :: zRows G 8 6 r5)) ++ ((q6, zR G 8 r6) :: zRows G 8 6 r6))) 36 302
  refine n_putF X 5 [.ref (b1 0), .ref q2, .ref q3, .ref q4, .ref q5, .ref q6, .null, .null, .null, .null, .null, .null, .null, .null, .null, .null] tyX5 Y.2.2.2.2.1 inA5 tyX5_ok nmX5 rfl (by decide) (tw (i := 228) (by decide +kernel)) rfl rfl (tyX5_ok 5 (by decide)) rfl rfl (Nat.le_of_ble_eq_true rfl) rfl dX5_init_60 ?_
  refine n_aload_n X 0 dX5_init_63 rfl rfl ?_
  refine n_bipush (v := (8 : Int32)) X (by decide) dX5_init_64 ?_
  refine n_bipush (v := (6 : Int32)) X (by decide) dX5_init_66 ?_
  refine n_mna X 8 6 (tw (i := 198) (by decide +kernel)) (by decide) (by decide) (by decide) (by decide) (by decide) (by decide) (kc' := 45) (ks' := 358) rfl rfl (Nat.le_of_ble_eq_true rfl) (Nat.le_of_ble_eq_true rfl) dX5_init_68 (fun q7 r7 => ?_)
  show NJ G A E _ 72 _ _ ((h0, .inr (5, [.ref (b1 0), .ref q2, .ref q3, .ref q4, .ref q5, .ref q6, .null, .null, .null, .null, .null, .null, .null, .null, .null, .null])) :: (((((((([] : va_W) ++ bkW G b1) ++ [(q2, zI G 8 (fun _ => 0))]) ++ [(q3, zI G 8 (fun _ => 0))]) ++ [(q4, zI G 24 (fun _ => 0))]) ++ ((q5, zR G 8 r5) :: zRows G 8 6 r5)) ++ ((q6, zR G 8 r6) :: zRows G 8 6 r6)) ++ ((q7, zR G 8 r7) :: zRows G 8 6 r7))) 45 358
  refine n_putF X 6 [.ref (b1 0), .ref q2, .ref q3, .ref q4, .ref q5, .ref q6, .ref q7, .null, .null, .null, .null, .null, .null, .null, .null, .null] tyX5 Y.2.2.2.2.1 inA5 tyX5_ok nmX5 rfl (by decide) (tw (i := 230) (by decide +kernel)) rfl rfl (tyX5_ok 6 (by decide)) rfl rfl (Nat.le_of_ble_eq_true rfl) rfl dX5_init_72 ?_
  refine n_aload_n X 0 dX5_init_75 rfl rfl ?_
  refine n_bipush (v := (8 : Int32)) X (by decide) dX5_init_76 ?_
  refine n_bipush (v := (6 : Int32)) X (by decide) dX5_init_78 ?_
  refine n_mna X 8 6 (tw (i := 198) (by decide +kernel)) (by decide) (by decide) (by decide) (by decide) (by decide) (by decide) (kc' := 54) (ks' := 414) rfl rfl (Nat.le_of_ble_eq_true rfl) (Nat.le_of_ble_eq_true rfl) dX5_init_80 (fun q8 r8 => ?_)
  show NJ G A E _ 84 _ _ ((h0, .inr (5, [.ref (b1 0), .ref q2, .ref q3, .ref q4, .ref q5, .ref q6, .ref q7, .null, .null, .null, .null, .null, .null, .null, .null, .null])) :: ((((((((([] : va_W) ++ bkW G b1) ++ [(q2, zI G 8 (fun _ => 0))]) ++ [(q3, zI G 8 (fun _ => 0))]) ++ [(q4, zI G 24 (fun _ => 0))]) ++ ((q5, zR G 8 r5) :: zRows G 8 6 r5)) ++ ((q6, zR G 8 r6) :: zRows G 8 6 r6)) ++ ((q7, zR G 8 r7) :: zRows G 8 6 r7)) ++ ((q8, zR G 8 r8) :: zRows G 8 6 r8))) 54 414
  refine n_putF X 7 [.ref (b1 0), .ref q2, .ref q3, .ref q4, .ref q5, .ref q6, .ref q7, .ref q8, .null, .null, .null, .null, .null, .null, .null, .null] tyX5 Y.2.2.2.2.1 inA5 tyX5_ok nmX5 rfl (by decide) (tw (i := 232) (by decide +kernel)) rfl rfl (tyX5_ok 7 (by decide)) rfl rfl (Nat.le_of_ble_eq_true rfl) rfl dX5_init_84 ?_
  refine n_aload_n X 0 dX5_init_87 rfl rfl ?_
  refine n_bipush (v := (8 : Int32)) X (by decide) dX5_init_88 ?_
  refine n_bipush (v := (6 : Int32)) X (by decide) dX5_init_90 ?_
  refine n_mna X 8 6 (tw (i := 198) (by decide +kernel)) (by decide) (by decide) (by decide) (by decide) (by decide) (by decide) (kc' := 63) (ks' := 470) rfl rfl (Nat.le_of_ble_eq_true rfl) (Nat.le_of_ble_eq_true rfl) dX5_init_92 (fun q9 r9 => ?_)
  show NJ G A E _ 96 _ _ ((h0, .inr (5, [.ref (b1 0), .ref q2, .ref q3, .ref q4, .ref q5, .ref q6, .ref q7, .ref q8, .null, .null, .null, .null, .null, .null, .null, .null])) :: (((((((((([] : va_W) ++ bkW G b1) ++ [(q2, zI G 8 (fun _ => 0))]) ++ [(q3, zI G 8 (fun _ => 0))]) ++ [(q4, zI G 24 (fun _ => 0))]) ++ ((q5, zR G 8 r5) :: zRows G 8 6 r5)) ++ ((q6, zR G 8 r6) :: zRows G 8 6 r6)) ++ ((q7, zR G 8 r7) :: zRows G 8 6 r7)) ++ ((q8, zR G 8 r8) :: zRows G 8 6 r8)) ++ ((q9, zR G 8 r9) :: zRows G 8 6 r9))) 63 470
  refine n_putF X 8 [.ref (b1 0), .ref q2, .ref q3, .ref q4, .ref q5, .ref q6, .ref q7, .ref q8, .ref q9, .null, .null, .null, .null, .null, .null, .null] tyX5 Y.2.2.2.2.1 inA5 tyX5_ok nmX5 rfl (by decide) (tw (i := 234) (by decide +kernel)) rfl rfl (tyX5_ok 8 (by decide)) rfl rfl (Nat.le_of_ble_eq_true rfl) rfl dX5_init_96 ?_
  refine n_aload_n X 0 dX5_init_99 rfl rfl ?_
  refine n_bipush (v := (6 : Int32)) X (by decide) dX5_init_100 ?_
  refine n_newI X 6 (by decide) (by decide) (by decide) (kc' := 64) (ks' := 476) rfl rfl (Nat.le_of_ble_eq_true rfl) (Nat.le_of_ble_eq_true rfl) dX5_init_102 (fun q10 => ?_)
  show NJ G A E _ 104 _ _ ((h0, .inr (5, [.ref (b1 0), .ref q2, .ref q3, .ref q4, .ref q5, .ref q6, .ref q7, .ref q8, .ref q9, .null, .null, .null, .null, .null, .null, .null])) :: ((((((((((([] : va_W) ++ bkW G b1) ++ [(q2, zI G 8 (fun _ => 0))]) ++ [(q3, zI G 8 (fun _ => 0))]) ++ [(q4, zI G 24 (fun _ => 0))]) ++ ((q5, zR G 8 r5) :: zRows G 8 6 r5)) ++ ((q6, zR G 8 r6) :: zRows G 8 6 r6)) ++ ((q7, zR G 8 r7) :: zRows G 8 6 r7)) ++ ((q8, zR G 8 r8) :: zRows G 8 6 r8)) ++ ((q9, zR G 8 r9) :: zRows G 8 6 r9)) ++ [(q10, zI G 6 (fun _ => 0))])) 64 476
  refine n_putF X 9 [.ref (b1 0), .ref q2, .ref q3, .ref q4, .ref q5, .ref q6, .ref q7, .ref q8, .ref q9, .ref q10, .null, .null, .null, .null, .null, .null] tyX5 Y.2.2.2.2.1 inA5 tyX5_ok nmX5 rfl (by decide) (tw (i := 236) (by decide +kernel)) rfl rfl (tyX5_ok 9 (by decide)) rfl rfl (Nat.le_of_ble_eq_true rfl) rfl dX5_init_104 ?_
  refine n_aload_n X 0 dX5_init_107 rfl rfl ?_
  refine n_bipush (v := (8 : Int32)) X (by decide) dX5_init_108 ?_
  refine n_newI X 8 (by decide) (by decide) (by decide) (kc' := 65) (ks' := 484) rfl rfl (Nat.le_of_ble_eq_true rfl) (Nat.le_of_ble_eq_true rfl) dX5_init_110 (fun q11 => ?_)
  show NJ G A E _ 112 _ _ ((h0, .inr (5, [.ref (b1 0), .ref q2, .ref q3, .ref q4, .ref q5, .ref q6, .ref q7, .ref q8, .ref q9, .ref q10, .null, .null, .null, .null, .null, .null])) :: (((((((((((([] : va_W) ++ bkW G b1) ++ [(q2, zI G 8 (fun _ => 0))]) ++ [(q3, zI G 8 (fun _ => 0))]) ++ [(q4, zI G 24 (fun _ => 0))]) ++ ((q5, zR G 8 r5) :: zRows G 8 6 r5)) ++ ((q6, zR G 8 r6) :: zRows G 8 6 r6)) ++ ((q7, zR G 8 r7) :: zRows G 8 6 r7)) ++ ((q8, zR G 8 r8) :: zRows G 8 6 r8)) ++ ((q9, zR G 8 r9) :: zRows G 8 6 r9)) ++ [(q10, zI G 6 (fun _ => 0))]) ++ [(q11, zI G 8 (fun _ => 0))])) 65 484
  refine n_putF X 10 [.ref (b1 0), .ref q2, .ref q3, .ref q4, .ref q5, .ref q6, .ref q7, .ref q8, .ref q9, .ref q10, .ref q11, .null, .null, .null, .null, .null] tyX5 Y.2.2.2.2.1 inA5 tyX5_ok nmX5 rfl (by decide) (tw (i := 238) (by decide +kernel)) rfl rfl (tyX5_ok 10 (by decide)) rfl rfl (Nat.le_of_ble_eq_true rfl) rfl dX5_init_112 ?_
  refine n_aload_n X 0 dX5_init_115 rfl rfl ?_
  refine n_bipush (v := (8 : Int32)) X (by decide) dX5_init_116 ?_
  refine n_iconst (v := (4 : Int32)) X (by decide) dX5_init_118 ?_
  refine n_mna X 8 4 (tw (i := 198) (by decide +kernel)) (by decide) (by decide) (by decide) (by decide) (by decide) (by decide) (kc' := 74) (ks' := 524) rfl rfl (Nat.le_of_ble_eq_true rfl) (Nat.le_of_ble_eq_true rfl) dX5_init_119 (fun q12 r12 => ?_)
  show NJ G A E _ 123 _ _ ((h0, .inr (5, [.ref (b1 0), .ref q2, .ref q3, .ref q4, .ref q5, .ref q6, .ref q7, .ref q8, .ref q9, .ref q10, .ref q11, .null, .null, .null, .null, .null])) :: ((((((((((((([] : va_W) ++ bkW G b1) ++ [(q2, zI G 8 (fun _ => 0))]) ++ [(q3, zI G 8 (fun _ => 0))]) ++ [(q4, zI G 24 (fun _ => 0))]) ++ ((q5, zR G 8 r5) :: zRows G 8 6 r5)) ++ ((q6, zR G 8 r6) :: zRows G 8 6 r6)) ++ ((q7, zR G 8 r7) :: zRows G 8 6 r7)) ++ ((q8, zR G 8 r8) :: zRows G 8 6 r8)) ++ ((q9, zR G 8 r9) :: zRows G 8 6 r9)) ++ [(q10, zI G 6 (fun _ => 0))]) ++ [(q11, zI G 8 (fun _ => 0))]) ++ ((q12, zR G 8 r12) :: zRows G 8 4 r12))) 74 524
  refine n_putF X 11 [.ref (b1 0), .ref q2, .ref q3, .ref q4, .ref q5, .ref q6, .ref q7, .ref q8, .ref q9, .ref q10, .ref q11, .ref q12, .null, .null, .null, .null] tyX5 Y.2.2.2.2.1 inA5 tyX5_ok nmX5 rfl (by decide) (tw (i := 240) (by decide +kernel)) rfl rfl (tyX5_ok 11 (by decide)) rfl rfl (Nat.le_of_ble_eq_true rfl) rfl dX5_init_123 ?_
  refine n_aload_n X 0 dX5_init_126 rfl rfl ?_
  refine n_iconst (v := (4 : Int32)) X (by decide) dX5_init_127 ?_
  refine n_newI X 4 (by decide) (by decide) (by decide) (kc' := 75) (ks' := 528) rfl rfl (Nat.le_of_ble_eq_true rfl) (Nat.le_of_ble_eq_true rfl) dX5_init_128 (fun q13 => ?_)
  show NJ G A E _ 130 _ _ ((h0, .inr (5, [.ref (b1 0), .ref q2, .ref q3, .ref q4, .ref q5, .ref q6, .ref q7, .ref q8, .ref q9, .ref q10, .ref q11, .ref q12, .null, .null, .null, .null])) :: (((((((((((((([] : va_W) ++ bkW G b1) ++ [(q2, zI G 8 (fun _ => 0))]) ++ [(q3, zI G 8 (fun _ => 0))]) ++ [(q4, zI G 24 (fun _ => 0))]) ++ ((q5, zR G 8 r5) :: zRows G 8 6 r5)) ++ ((q6, zR G 8 r6) :: zRows G 8 6 r6)) ++ ((q7, zR G 8 r7) :: zRows G 8 6 r7)) ++ ((q8, zR G 8 r8) :: zRows G 8 6 r8)) ++ ((q9, zR G 8 r9) :: zRows G 8 6 r9)) ++ [(q10, zI G 6 (fun _ => 0))]) ++ [(q11, zI G 8 (fun _ => 0))]) ++ ((q12, zR G 8 r12) :: zRows G 8 4 r12)) ++ [(q13, zI G 4 (fun _ => 0))])) 75 528
  refine n_putF X 12 [.ref (b1 0), .ref q2, .ref q3, .ref q4, .ref q5, .ref q6, .ref q7, .ref q8, .ref q9, .ref q10, .ref q11, .ref q12, .ref q13, .null, .null, .null] tyX5 Y.2.2.2.2.1 inA5 tyX5_ok nmX5 rfl (by decide) (tw (i := 242) (by decide +kernel)) rfl rfl (tyX5_ok 12 (by decide)) rfl rfl (Nat.le_of_ble_eq_true rfl) rfl dX5_init_130 ?_
  refine n_aload_n X 0 dX5_init_133 rfl rfl ?_
  refine n_bipush (v := (8 : Int32)) X (by decide) dX5_init_134 ?_
  refine n_newI X 8 (by decide) (by decide) (by decide) (kc' := 76) (ks' := 536) rfl rfl (Nat.le_of_ble_eq_true rfl) (Nat.le_of_ble_eq_true rfl) dX5_init_136 (fun q14 => ?_)
  show NJ G A E _ 138 _ _ ((h0, .inr (5, [.ref (b1 0), .ref q2, .ref q3, .ref q4, .ref q5, .ref q6, .ref q7, .ref q8, .ref q9, .ref q10, .ref q11, .ref q12, .ref q13, .null, .null, .null])) :: ((((((((((((((([] : va_W) ++ bkW G b1) ++ [(q2, zI G 8 (fun _ => 0))]) ++ [(q3, zI G 8 (fun _ => 0))]) ++ [(q4, zI G 24 (fun _ => 0))]) ++ ((q5, zR G 8 r5) :: zRows G 8 6 r5)) ++ ((q6, zR G 8 r6) :: zRows G 8 6 r6)) ++ ((q7, zR G 8 r7) :: zRows G 8 6 r7)) ++ ((q8, zR G 8 r8) :: zRows G 8 6 r8)) ++ ((q9, zR G 8 r9) :: zRows G 8 6 r9)) ++ [(q10, zI G 6 (fun _ => 0))]) ++ [(q11, zI G 8 (fun _ => 0))]) ++ ((q12, zR G 8 r12) :: zRows G 8 4 r12)) ++ [(q13, zI G 4 (fun _ => 0))]) ++ [(q14, zI G 8 (fun _ => 0))])) 76 536
  refine n_putF X 13 [.ref (b1 0), .ref q2, .ref q3, .ref q4, .ref q5, .ref q6, .ref q7, .ref q8, .ref q9, .ref q10, .ref q11, .ref q12, .ref q13, .ref q14, .null, .null] tyX5 Y.2.2.2.2.1 inA5 tyX5_ok nmX5 rfl (by decide) (tw (i := 244) (by decide +kernel)) rfl rfl (tyX5_ok 13 (by decide)) rfl rfl (Nat.le_of_ble_eq_true rfl) rfl dX5_init_138 ?_
  refine n_aload_n X 0 dX5_init_141 rfl rfl ?_
  refine n_bipush (v := (24 : Int32)) X (by decide) dX5_init_142 ?_
  refine n_newI X 24 (by decide) (by decide) (by decide) (kc' := 77) (ks' := 560) rfl rfl (Nat.le_of_ble_eq_true rfl) (Nat.le_of_ble_eq_true rfl) dX5_init_144 (fun q15 => ?_)
  show NJ G A E _ 146 _ _ ((h0, .inr (5, [.ref (b1 0), .ref q2, .ref q3, .ref q4, .ref q5, .ref q6, .ref q7, .ref q8, .ref q9, .ref q10, .ref q11, .ref q12, .ref q13, .ref q14, .null, .null])) :: (((((((((((((((([] : va_W) ++ bkW G b1) ++ [(q2, zI G 8 (fun _ => 0))]) ++ [(q3, zI G 8 (fun _ => 0))]) ++ [(q4, zI G 24 (fun _ => 0))]) ++ ((q5, zR G 8 r5) :: zRows G 8 6 r5)) ++ ((q6, zR G 8 r6) :: zRows G 8 6 r6)) ++ ((q7, zR G 8 r7) :: zRows G 8 6 r7)) ++ ((q8, zR G 8 r8) :: zRows G 8 6 r8)) ++ ((q9, zR G 8 r9) :: zRows G 8 6 r9)) ++ [(q10, zI G 6 (fun _ => 0))]) ++ [(q11, zI G 8 (fun _ => 0))]) ++ ((q12, zR G 8 r12) :: zRows G 8 4 r12)) ++ [(q13, zI G 4 (fun _ => 0))]) ++ [(q14, zI G 8 (fun _ => 0))]) ++ [(q15, zI G 24 (fun _ => 0))])) 77 560
  refine n_putF X 14 [.ref (b1 0), .ref q2, .ref q3, .ref q4, .ref q5, .ref q6, .ref q7, .ref q8, .ref q9, .ref q10, .ref q11, .ref q12, .ref q13, .ref q14, .ref q15, .null] tyX5 Y.2.2.2.2.1 inA5 tyX5_ok nmX5 rfl (by decide) (tw (i := 246) (by decide +kernel)) rfl rfl (tyX5_ok 14 (by decide)) rfl rfl (Nat.le_of_ble_eq_true rfl) rfl dX5_init_146 ?_
  refine n_aload_n X 0 dX5_init_149 rfl rfl ?_
  refine n_new X tyX2 (fs := bl2) (ci := 2) inA2 tyX2_ok (tw (i := 200) (by decide +kernel)) (tw (i := 201) (by decide +kernel)) (tw (i := 74) (by decide +kernel)) rfl df2 (kc' := 78) (ks' := 563) rfl rfl (Nat.le_of_ble_eq_true rfl) (Nat.le_of_ble_eq_true rfl) dX5_init_150 (fun q16 => ?_)
  refine n_dup X dX5_init_153 ?_
  refine n_callN (ws := (h0, .inr (5, [.ref (b1 0), .ref q2, .ref q3, .ref q4, .ref q5, .ref q6, .ref q7, .ref q8, .ref q9, .ref q10, .ref q11, .ref q12, .ref q13, .ref q14, .ref q15, .null])) :: (((((((((((((((([] : va_W) ++ bkW G b1) ++ [(q2, zI G 8 (fun _ => 0))]) ++ [(q3, zI G 8 (fun _ => 0))]) ++ [(q4, zI G 24 (fun _ => 0))]) ++ ((q5, zR G 8 r5) :: zRows G 8 6 r5)) ++ ((q6, zR G 8 r6) :: zRows G 8 6 r6)) ++ ((q7, zR G 8 r7) :: zRows G 8 6 r7)) ++ ((q8, zR G 8 r8) :: zRows G 8 6 r8)) ++ ((q9, zR G 8 r9) :: zRows G 8 6 r9)) ++ [(q10, zI G 6 (fun _ => 0))]) ++ [(q11, zI G 8 (fun _ => 0))]) ++ ((q12, zR G 8 r12) :: zRows G 8 4 r12)) ++ [(q13, zI G 4 (fun _ => 0))]) ++ [(q14, zI G 8 (fun _ => 0))]) ++ [(q15, zI G 24 (fun _ => 0))])) (fs0 := bl2) X (init_X2 (l := eL E)) (tw (i := 204) (by decide +kernel)) (tw (i := 74) (by decide +kernel)) (tn (i := 202) (by decide +kernel)) (tw (i := 203) (by decide +kernel)) rfl rfl rfl (by decide +kernel) (by decide) (Nat.le_of_ble_eq_true rfl) (kc' := 81) (ks' := 635) rfl rfl (Nat.le_of_ble_eq_true rfl) (Nat.le_of_ble_eq_true rfl) dX5_init_154 (fun w hw => ?_)
  obtain ⟨b16, eq16, rfl⟩ := hw
  subst eq16
  show NJ G A E _ 157 _ _ ((h0, .inr (5, [.ref (b1 0), .ref q2, .ref q3, .ref q4, .ref q5, .ref q6, .ref q7, .ref q8, .ref q9, .ref q10, .ref q11, .ref q12, .ref q13, .ref q14, .ref q15, .null])) :: ((((((((((((((((([] : va_W) ++ bkW G b1) ++ [(q2, zI G 8 (fun _ => 0))]) ++ [(q3, zI G 8 (fun _ => 0))]) ++ [(q4, zI G 24 (fun _ => 0))]) ++ ((q5, zR G 8 r5) :: zRows G 8 6 r5)) ++ ((q6, zR G 8 r6) :: zRows G 8 6 r6)) ++ ((q7, zR G 8 r7) :: zRows G 8 6 r7)) ++ ((q8, zR G 8 r8) :: zRows G 8 6 r8)) ++ ((q9, zR G 8 r9) :: zRows G 8 6 r9)) ++ [(q10, zI G 6 (fun _ => 0))]) ++ [(q11, zI G 8 (fun _ => 0))]) ++ ((q12, zR G 8 r12) :: zRows G 8 4 r12)) ++ [(q13, zI G 4 (fun _ => 0))]) ++ [(q14, zI G 8 (fun _ => 0))]) ++ [(q15, zI G 24 (fun _ => 0))]) ++ shW G b16)) 81 635
  refine n_putF X 15 [.ref (b1 0), .ref q2, .ref q3, .ref q4, .ref q5, .ref q6, .ref q7, .ref q8, .ref q9, .ref q10, .ref q11, .ref q12, .ref q13, .ref q14, .ref q15, .ref (b16 2)] tyX5 Y.2.2.2.2.1 inA5 tyX5_ok nmX5 rfl (by decide) (tw (i := 248) (by decide +kernel)) rfl rfl (tyX5_ok 15 (by decide)) rfl rfl (Nat.le_of_ble_eq_true rfl) rfl dX5_init_157 ?_
  exact n_ret X Y dX5_init_160 ⟨(fun t k => if t = 5 then h0 else if t = 121 then q2 else if t = 122 then q3 else if t = 123 then q4 else if t = 124 then q5 else if t = 324 then r5 k else if t = 125 then q6 else if t = 325 then r6 k else if t = 126 then q7 else if t = 326 then r7 k else if t = 127 then q8 else if t = 327 then r8 k else if t = 128 then q9 else if t = 328 then r9 k else if t = 129 then q10 else if t = 130 then q11 else if t = 131 then q12 else if t = 331 then r12 k else if t = 132 then q13 else if t = 133 then q14 else if t = 134 then q15 else if t = 2 then b16 t else if t = 60 then b16 t else if t = 61 then b16 t else if t = 62 then b16 t else b1 t), rfl, rfl⟩
def lcW (G : GT) (h0 : Nat) (y : Nat → Nat → Nat) (s : Nat → Nat) (hi tx ty : Nat → Nat → Nat) : va_W := (h0, .inr (6, [.ref (y 5 0), .ref (y 0 0), .ref (s 0), .ref (hi 1 0), .ref (tx 3 0), .ref (ty 4 0), .int 0, .int (-4 : Int32)])) :: (((((([] : va_W) ++ yrW G y) ++ bkW G s) ++ hiW G hi) ++ txW G tx) ++ tyW G ty)
def pX6 (G : GT) (h : Nat) (w : va_W) : Prop := ∃ (y : Nat → Nat → Nat) (s : Nat → Nat) (hi tx ty : Nat → Nat → Nat), w = lcW G h y s hi tx ty
set_option maxRecDepth 100000 in
set_option maxHeartbeats 4000000 in
theorem init_X6 {l : Launch} {G : GT} : NMc l G yX6_init cX6_init 1 ({ frames := 3, cells := 244, slots := 2122, locals := 53 }) 244 2122 6 bl6 (pX6 G) := by
  refine n_by (own := RX6) rfl rfl (by decide) (by decide) (fun E h0 A hE X Y => ?_)
  show NJ G A E _ 0 _ _ ((h0, .inr (6, [.null, .null, .null, .null, .null, .null, .int 0, .int 0])) :: ([] : va_W)) 0 0
  refine n_aload_n X 0 dX6_init_0 rfl rfl ?_
  refine n_objInit X (tw (i := 87) (by decide +kernel)) (tw (i := 88) (by decide +kernel)) (tw (i := 89) (by decide +kernel)) (by decide) (by decide) dX6_init_1 ?_
  refine n_aload_n X 0 dX6_init_4 rfl rfl ?_
  refine n_new X tyX5 (fs := bl5) (ci := 5) inA5 tyX5_ok (tw (i := 90) (by decide +kernel)) (tw (i := 91) (by decide +kernel)) (tw (i := 72) (by decide +kernel)) rfl df5 (kc' := 1) (ks' := 16) rfl rfl (Nat.le_of_ble_eq_true rfl) (Nat.le_of_ble_eq_true rfl) dX6_init_5 (fun q1 => ?_)
  refine n_dup X dX6_init_8 ?_
  refine n_callN1 (fs0 := bl5) X (init_X5 (l := eL E)) (tw (i := 94) (by decide +kernel)) (tw (i := 72) (by decide +kernel)) (tn (i := 92) (by decide +kernel)) (tw (i := 93) (by decide +kernel)) rfl rfl rfl (by decide +kernel) (by decide) (Nat.le_of_ble_eq_true rfl) (kc' := 82) (ks' := 651) rfl rfl (Nat.le_of_ble_eq_true rfl) (Nat.le_of_ble_eq_true rfl) dX6_init_9 (fun w hw => ?_)
  obtain ⟨b1, eq1, rfl⟩ := hw
  subst eq1
  refine n_putF X 0 [.ref (b1 5 0), .null, .null, .null, .null, .null, .int 0, .int 0] tyX6 Y.2.2.2.2.1 inA6 tyX6_ok nmX6 rfl (by decide) (tw (i := 353) (by decide +kernel)) rfl rfl (tyX6_ok 0 (by decide)) rfl rfl (Nat.le_of_ble_eq_true rfl) rfl dX6_init_12 ?_
  refine n_aload_n X 0 dX6_init_15 rfl rfl ?_
  refine n_aload_n X 0 dX6_init_16 rfl rfl ?_
  refine n_get X 0 0 (ci := 6) inA6 rfl rfl (by decide) (tw (i := 353) (by decide +kernel)) rfl dX6_init_17 ?_
  refine n_get X 1 0 (ci := 5) inA5 rfl rfl (by decide) (tw (i := 220) (by decide +kernel)) rfl dX6_init_20 ?_
  refine n_putF X 1 [.ref (b1 5 0), .ref (b1 0 0), .null, .null, .null, .null, .int 0, .int 0] tyX6 Y.2.2.2.2.1 inA6 tyX6_ok nmX6 rfl (by decide) (tw (i := 354) (by decide +kernel)) rfl rfl (tyX6_ok 1 (by decide)) rfl rfl (Nat.le_of_ble_eq_true rfl) rfl dX6_init_23 ?_
  refine n_aload_n X 0 dX6_init_26 rfl rfl ?_
  refine n_new X tyX0 (fs := bl0) (ci := 0) inA0 tyX0_ok (tw (i := 282) (by decide +kernel)) (tw (i := 97) (by decide +kernel)) (tw (i := 73) (by decide +kernel)) rfl df0 (kc' := 83) (ks' := 670) rfl rfl (Nat.le_of_ble_eq_true rfl) (Nat.le_of_ble_eq_true rfl) dX6_init_27 (fun q2 => ?_)
  refine n_dup X dX6_init_30 ?_
  refine n_callN1 (fs0 := bl0) X (init_X0 (l := eL E)) (tw (i := 100) (by decide +kernel)) (tw (i := 73) (by decide +kernel)) (tn (i := 283) (by decide +kernel)) (tw (i := 99) (by decide +kernel)) rfl rfl rfl (by decide +kernel) (by decide) (Nat.le_of_ble_eq_true rfl) (kc' := 97) (ks' := 801) rfl rfl (Nat.le_of_ble_eq_true rfl) (Nat.le_of_ble_eq_true rfl) dX6_init_31 (fun w hw => ?_)
  obtain ⟨b2, eq2, rfl⟩ := hw
  subst eq2
  refine n_putF X 2 [.ref (b1 5 0), .ref (b1 0 0), .ref (b2 0), .null, .null, .null, .int 0, .int 0] tyX6 Y.2.2.2.2.1 inA6 tyX6_ok nmX6 rfl (by decide) (tw (i := 355) (by decide +kernel)) rfl rfl (tyX6_ok 2 (by decide)) rfl rfl (Nat.le_of_ble_eq_true rfl) rfl dX6_init_34 ?_
  refine n_aload_n X 0 dX6_init_37 rfl rfl ?_
  refine n_new X tyX1 (fs := bl1) (ci := 1) inA1 tyX1_ok (tw (i := 284) (by decide +kernel)) (tw (i := 285) (by decide +kernel)) (tw (i := 75) (by decide +kernel)) rfl df1 (kc' := 98) (ks' := 804) rfl rfl (Nat.le_of_ble_eq_true rfl) (Nat.le_of_ble_eq_true rfl) dX6_init_38 (fun q3 => ?_)
  refine n_dup X dX6_init_41 ?_
  refine n_callI1 (fs0 := bl1) X (init_X1 (l := eL E)) (tw (i := 288) (by decide +kernel)) (tw (i := 75) (by decide +kernel)) (tw (i := 286) (by decide +kernel)) (tw (i := 287) (by decide +kernel)) rfl rfl rfl (by decide +kernel) (by decide) (Nat.le_of_ble_eq_true rfl) (kc' := 204) (ks' := 1861) rfl rfl (Nat.le_of_ble_eq_true rfl) (Nat.le_of_ble_eq_true rfl) dX6_init_42 (fun w hw => ?_)
  obtain ⟨b3, eq3, rfl⟩ := hw
  subst eq3
  refine n_putF X 3 [.ref (b1 5 0), .ref (b1 0 0), .ref (b2 0), .ref (b3 1 0), .null, .null, .int 0, .int 0] tyX6 Y.2.2.2.2.1 inA6 tyX6_ok nmX6 rfl (by decide) (tw (i := 356) (by decide +kernel)) rfl rfl (tyX6_ok 3 (by decide)) rfl rfl (Nat.le_of_ble_eq_true rfl) rfl dX6_init_45 ?_
  refine n_aload_n X 0 dX6_init_48 rfl rfl ?_
  refine n_new X tyX3 (fs := bl3) (ci := 3) inA3 tyX3_ok (tw (i := 303) (by decide +kernel)) (tw (i := 304) (by decide +kernel)) (tw (i := 76) (by decide +kernel)) rfl df3 (kc' := 205) (ks' := 1868) rfl rfl (Nat.le_of_ble_eq_true rfl) (Nat.le_of_ble_eq_true rfl) dX6_init_49 (fun q4 => ?_)
  refine n_dup X dX6_init_52 ?_
  refine n_callN1 (fs0 := bl3) X (init_X3 (l := eL E)) (tw (i := 307) (by decide +kernel)) (tw (i := 76) (by decide +kernel)) (tn (i := 305) (by decide +kernel)) (tw (i := 306) (by decide +kernel)) rfl rfl rfl (by decide +kernel) (by decide) (Nat.le_of_ble_eq_true rfl) (kc' := 229) (ks' := 2048) rfl rfl (Nat.le_of_ble_eq_true rfl) (Nat.le_of_ble_eq_true rfl) dX6_init_53 (fun w hw => ?_)
  obtain ⟨b4, eq4, rfl⟩ := hw
  subst eq4
  refine n_putF X 4 [.ref (b1 5 0), .ref (b1 0 0), .ref (b2 0), .ref (b3 1 0), .ref (b4 3 0), .null, .int 0, .int 0] tyX6 Y.2.2.2.2.1 inA6 tyX6_ok nmX6 rfl (by decide) (tw (i := 357) (by decide +kernel)) rfl rfl (tyX6_ok 4 (by decide)) rfl rfl (Nat.le_of_ble_eq_true rfl) rfl dX6_init_56 ?_
  refine n_aload_n X 0 dX6_init_59 rfl rfl ?_
  refine n_new X tyX4 (fs := bl4) (ci := 4) inA4 tyX4_ok (tw (i := 339) (by decide +kernel)) (tw (i := 340) (by decide +kernel)) (tw (i := 77) (by decide +kernel)) rfl df4 (kc' := 230) (ks' := 2050) rfl rfl (Nat.le_of_ble_eq_true rfl) (Nat.le_of_ble_eq_true rfl) dX6_init_60 (fun q5 => ?_)
  refine n_dup X dX6_init_63 ?_
  refine n_callI1 (fs0 := bl4) X (init_X4 (l := eL E)) (tw (i := 343) (by decide +kernel)) (tw (i := 77) (by decide +kernel)) (tw (i := 341) (by decide +kernel)) (tw (i := 342) (by decide +kernel)) rfl rfl rfl (by decide +kernel) (by decide) (Nat.le_of_ble_eq_true rfl) (kc' := 244) (ks' := 2122) rfl rfl (Nat.le_of_ble_eq_true rfl) (Nat.le_of_ble_eq_true rfl) dX6_init_64 (fun w hw => ?_)
  obtain ⟨b5, eq5, rfl⟩ := hw
  subst eq5
  refine n_putF X 5 [.ref (b1 5 0), .ref (b1 0 0), .ref (b2 0), .ref (b3 1 0), .ref (b4 3 0), .ref (b5 4 0), .int 0, .int 0] tyX6 Y.2.2.2.2.1 inA6 tyX6_ok nmX6 rfl (by decide) (tw (i := 358) (by decide +kernel)) rfl rfl (tyX6_ok 5 (by decide)) rfl rfl (Nat.le_of_ble_eq_true rfl) rfl dX6_init_67 ?_
  refine n_aload_n X 0 dX6_init_70 rfl rfl ?_
  refine n_bipush (v := (-4 : Int32)) X (by decide) dX6_init_71 ?_
  refine n_put X 7 [.ref (b1 5 0), .ref (b1 0 0), .ref (b2 0), .ref (b3 1 0), .ref (b4 3 0), .ref (b5 4 0), .int 0, .int (-4 : Int32)] tyX6 inA6 tyX6_ok nmX6 rfl (by decide) (tw (i := 360) (by decide +kernel)) rfl (tyX6_ok 7 (by decide)) rfl rfl (Nat.le_of_ble_eq_true rfl) rfl dX6_init_73 ?_
  exact n_ret X Y dX6_init_76 ⟨b1, b2, b3, b4, b5, rfl⟩
def mdW (G : GT) (b : Nat → Nat → Nat) : va_W := ((b 7 0), .inr (7, [.ref (b 160 0), .ref (b 161 0), .ref (b 162 0), .ref (b 163 0), .int (0 : Int32), .int (0 : Int32), .ref (b 166 0), .int (0 : Int32), .int (0 : Int32), .int (-4 : Int32), .int (0 : Int32), .ref (b 171 0), .ref (b 172 0), .ref (b 173 0), .ref (b 174 0)])) :: (((((((((([] : va_W) ++ [((b 160 0), zI G 136 (fun _ => 0))]) ++ [((b 161 0), zI G 816 (fun _ => 0))]) ++ [((b 162 0), zI G 136 (fun _ => 0))]) ++ [((b 163 0), zI G 136 (fun _ => 0))]) ++ [((b 166 0), zI G 60 (fun _ => 0))]) ++ [((b 171 0), zI G 3 (fun _ => 0))]) ++ [((b 172 0), zI G 24 (fun _ => 0))]) ++ [((b 173 0), zI G 12 (fun _ => 0))]) ++ [((b 174 0), zI G 48 (fun _ => 0))])
def pX7 (G : GT) (h : Nat) (w : va_W) : Prop := ∃ b : Nat → Nat → Nat, b 7 0 = h ∧ w = mdW G b
set_option maxRecDepth 100000 in
set_option maxHeartbeats 4000000 in
theorem init_X7 {l : Launch} {G : GT} : NMc l G yX7_init cX7_init 1 ({ frames := 1, cells := 9, slots := 1371, locals := 12 }) 9 1371 7 bl7 (pX7 G) := by
  refine n_by (own := RX7) rfl rfl (by decide) (by decide) (fun E h0 A hE X Y => ?_)
  show NJ G A E _ 0 _ _ ((h0, .inr (7, [.null, .null, .null, .null, .int 0, .int 0, .null, .int 0, .int 0, .int 0, .int 0, .null, .null, .null, .null])) :: ([] : va_W)) 0 0
  refine n_aload_n X 0 dX7_init_0 rfl rfl ?_
  refine n_objInit X (tw (i := 871) (by decide +kernel)) (tw (i := 88) (by decide +kernel)) (tw (i := 89) (by decide +kernel)) (by decide) (by decide) dX7_init_1 ?_
  refine n_aload_n X 0 dX7_init_4 rfl rfl ?_
  refine n_sipush (v := (136 : Int32)) X (by decide) dX7_init_5 ?_
  refine n_newI X 136 (by decide) (by decide) (by decide) (kc' := 1) (ks' := 136) rfl rfl (Nat.le_of_ble_eq_true rfl) (Nat.le_of_ble_eq_true rfl) dX7_init_8 (fun q1 => ?_)
  show NJ G A E _ 10 _ _ ((h0, .inr (7, [.null, .null, .null, .null, .int 0, .int 0, .null, .int 0, .int 0, .int 0, .int 0, .null, .null, .null, .null])) :: (([] : va_W) ++ [(q1, zI G 136 (fun _ => 0))])) 1 136
  refine n_putF X 0 [.ref q1, .null, .null, .null, .int 0, .int 0, .null, .int 0, .int 0, .int 0, .int 0, .null, .null, .null, .null] tyX7 Y.2.2.2.2.1 inA7 tyX7_ok nmX7 rfl (by decide) (tw (i := 872) (by decide +kernel)) rfl rfl (tyX7_ok 0 (by decide)) rfl rfl (Nat.le_of_ble_eq_true rfl) rfl dX7_init_10 ?_
  refine n_aload_n X 0 dX7_init_13 rfl rfl ?_
  refine n_sipush (v := (816 : Int32)) X (by decide) dX7_init_14 ?_
  refine n_newI X 816 (by decide) (by decide) (by decide) (kc' := 2) (ks' := 952) rfl rfl (Nat.le_of_ble_eq_true rfl) (Nat.le_of_ble_eq_true rfl) dX7_init_17 (fun q2 => ?_)
  show NJ G A E _ 19 _ _ ((h0, .inr (7, [.ref q1, .null, .null, .null, .int 0, .int 0, .null, .int 0, .int 0, .int 0, .int 0, .null, .null, .null, .null])) :: ((([] : va_W) ++ [(q1, zI G 136 (fun _ => 0))]) ++ [(q2, zI G 816 (fun _ => 0))])) 2 952
  refine n_putF X 1 [.ref q1, .ref q2, .null, .null, .int 0, .int 0, .null, .int 0, .int 0, .int 0, .int 0, .null, .null, .null, .null] tyX7 Y.2.2.2.2.1 inA7 tyX7_ok nmX7 rfl (by decide) (tw (i := 873) (by decide +kernel)) rfl rfl (tyX7_ok 1 (by decide)) rfl rfl (Nat.le_of_ble_eq_true rfl) rfl dX7_init_19 ?_
  refine n_aload_n X 0 dX7_init_22 rfl rfl ?_
  refine n_sipush (v := (136 : Int32)) X (by decide) dX7_init_23 ?_
  refine n_newI X 136 (by decide) (by decide) (by decide) (kc' := 3) (ks' := 1088) rfl rfl (Nat.le_of_ble_eq_true rfl) (Nat.le_of_ble_eq_true rfl) dX7_init_26 (fun q3 => ?_)
  show NJ G A E _ 28 _ _ ((h0, .inr (7, [.ref q1, .ref q2, .null, .null, .int 0, .int 0, .null, .int 0, .int 0, .int 0, .int 0, .null, .null, .null, .null])) :: (((([] : va_W) ++ [(q1, zI G 136 (fun _ => 0))]) ++ [(q2, zI G 816 (fun _ => 0))]) ++ [(q3, zI G 136 (fun _ => 0))])) 3 1088
  refine n_putF X 2 [.ref q1, .ref q2, .ref q3, .null, .int 0, .int 0, .null, .int 0, .int 0, .int 0, .int 0, .null, .null, .null, .null] tyX7 Y.2.2.2.2.1 inA7 tyX7_ok nmX7 rfl (by decide) (tw (i := 874) (by decide +kernel)) rfl rfl (tyX7_ok 2 (by decide)) rfl rfl (Nat.le_of_ble_eq_true rfl) rfl dX7_init_28 ?_
  refine n_aload_n X 0 dX7_init_31 rfl rfl ?_
  refine n_sipush (v := (136 : Int32)) X (by decide) dX7_init_32 ?_
  refine n_newI X 136 (by decide) (by decide) (by decide) (kc' := 4) (ks' := 1224) rfl rfl (Nat.le_of_ble_eq_true rfl) (Nat.le_of_ble_eq_true rfl) dX7_init_35 (fun q4 => ?_)
  show NJ G A E _ 37 _ _ ((h0, .inr (7, [.ref q1, .ref q2, .ref q3, .null, .int 0, .int 0, .null, .int 0, .int 0, .int 0, .int 0, .null, .null, .null, .null])) :: ((((([] : va_W) ++ [(q1, zI G 136 (fun _ => 0))]) ++ [(q2, zI G 816 (fun _ => 0))]) ++ [(q3, zI G 136 (fun _ => 0))]) ++ [(q4, zI G 136 (fun _ => 0))])) 4 1224
  refine n_putF X 3 [.ref q1, .ref q2, .ref q3, .ref q4, .int 0, .int 0, .null, .int 0, .int 0, .int 0, .int 0, .null, .null, .null, .null] tyX7 Y.2.2.2.2.1 inA7 tyX7_ok nmX7 rfl (by decide) (tw (i := 875) (by decide +kernel)) rfl rfl (tyX7_ok 3 (by decide)) rfl rfl (Nat.le_of_ble_eq_true rfl) rfl dX7_init_37 ?_
  refine n_aload_n X 0 dX7_init_40 rfl rfl ?_
  refine n_iconst (v := (0 : Int32)) X (by decide) dX7_init_41 ?_
  refine n_put X 4 [.ref q1, .ref q2, .ref q3, .ref q4, .int (0 : Int32), .int 0, .null, .int 0, .int 0, .int 0, .int 0, .null, .null, .null, .null] tyX7 inA7 tyX7_ok nmX7 rfl (by decide) (tw (i := 876) (by decide +kernel)) rfl (tyX7_ok 4 (by decide)) rfl rfl (Nat.le_of_ble_eq_true rfl) rfl dX7_init_42 ?_
  refine n_aload_n X 0 dX7_init_45 rfl rfl ?_
  refine n_iconst (v := (0 : Int32)) X (by decide) dX7_init_46 ?_
  refine n_put X 5 [.ref q1, .ref q2, .ref q3, .ref q4, .int (0 : Int32), .int (0 : Int32), .null, .int 0, .int 0, .int 0, .int 0, .null, .null, .null, .null] tyX7 inA7 tyX7_ok nmX7 rfl (by decide) (tw (i := 877) (by decide +kernel)) rfl (tyX7_ok 5 (by decide)) rfl rfl (Nat.le_of_ble_eq_true rfl) rfl dX7_init_47 ?_
  refine n_aload_n X 0 dX7_init_50 rfl rfl ?_
  refine n_bipush (v := (60 : Int32)) X (by decide) dX7_init_51 ?_
  refine n_newI X 60 (by decide) (by decide) (by decide) (kc' := 5) (ks' := 1284) rfl rfl (Nat.le_of_ble_eq_true rfl) (Nat.le_of_ble_eq_true rfl) dX7_init_53 (fun q5 => ?_)
  show NJ G A E _ 55 _ _ ((h0, .inr (7, [.ref q1, .ref q2, .ref q3, .ref q4, .int (0 : Int32), .int (0 : Int32), .null, .int 0, .int 0, .int 0, .int 0, .null, .null, .null, .null])) :: (((((([] : va_W) ++ [(q1, zI G 136 (fun _ => 0))]) ++ [(q2, zI G 816 (fun _ => 0))]) ++ [(q3, zI G 136 (fun _ => 0))]) ++ [(q4, zI G 136 (fun _ => 0))]) ++ [(q5, zI G 60 (fun _ => 0))])) 5 1284
  refine n_putF X 6 [.ref q1, .ref q2, .ref q3, .ref q4, .int (0 : Int32), .int (0 : Int32), .ref q5, .int 0, .int 0, .int 0, .int 0, .null, .null, .null, .null] tyX7 Y.2.2.2.2.1 inA7 tyX7_ok nmX7 rfl (by decide) (tw (i := 878) (by decide +kernel)) rfl rfl (tyX7_ok 6 (by decide)) rfl rfl (Nat.le_of_ble_eq_true rfl) rfl dX7_init_55 ?_
  refine n_aload_n X 0 dX7_init_58 rfl rfl ?_
  refine n_iconst (v := (0 : Int32)) X (by decide) dX7_init_59 ?_
  refine n_put X 7 [.ref q1, .ref q2, .ref q3, .ref q4, .int (0 : Int32), .int (0 : Int32), .ref q5, .int (0 : Int32), .int 0, .int 0, .int 0, .null, .null, .null, .null] tyX7 inA7 tyX7_ok nmX7 rfl (by decide) (tw (i := 879) (by decide +kernel)) rfl (tyX7_ok 7 (by decide)) rfl rfl (Nat.le_of_ble_eq_true rfl) rfl dX7_init_60 ?_
  refine n_aload_n X 0 dX7_init_63 rfl rfl ?_
  refine n_iconst (v := (0 : Int32)) X (by decide) dX7_init_64 ?_
  refine n_put X 8 [.ref q1, .ref q2, .ref q3, .ref q4, .int (0 : Int32), .int (0 : Int32), .ref q5, .int (0 : Int32), .int (0 : Int32), .int 0, .int 0, .null, .null, .null, .null] tyX7 inA7 tyX7_ok nmX7 rfl (by decide) (tw (i := 880) (by decide +kernel)) rfl (tyX7_ok 8 (by decide)) rfl rfl (Nat.le_of_ble_eq_true rfl) rfl dX7_init_65 ?_
  refine n_aload_n X 0 dX7_init_68 rfl rfl ?_
  refine n_bipush (v := (-4 : Int32)) X (by decide) dX7_init_69 ?_
  refine n_put X 9 [.ref q1, .ref q2, .ref q3, .ref q4, .int (0 : Int32), .int (0 : Int32), .ref q5, .int (0 : Int32), .int (0 : Int32), .int (-4 : Int32), .int 0, .null, .null, .null, .null] tyX7 inA7 tyX7_ok nmX7 rfl (by decide) (tw (i := 881) (by decide +kernel)) rfl (tyX7_ok 9 (by decide)) rfl rfl (Nat.le_of_ble_eq_true rfl) rfl dX7_init_71 ?_
  refine n_aload_n X 0 dX7_init_74 rfl rfl ?_
  refine n_iconst (v := (0 : Int32)) X (by decide) dX7_init_75 ?_
  refine n_put X 10 [.ref q1, .ref q2, .ref q3, .ref q4, .int (0 : Int32), .int (0 : Int32), .ref q5, .int (0 : Int32), .int (0 : Int32), .int (-4 : Int32), .int (0 : Int32), .null, .null, .null, .null] tyX7 inA7 tyX7_ok nmX7 rfl (by decide) (tw (i := 882) (by decide +kernel)) rfl (tyX7_ok 10 (by decide)) rfl rfl (Nat.le_of_ble_eq_true rfl) rfl dX7_init_76 ?_
  refine n_aload_n X 0 dX7_init_79 rfl rfl ?_
  refine n_iconst (v := (3 : Int32)) X (by decide) dX7_init_80 ?_
  refine n_newI X 3 (by decide) (by decide) (by decide) (kc' := 6) (ks' := 1287) rfl rfl (Nat.le_of_ble_eq_true rfl) (Nat.le_of_ble_eq_true rfl) dX7_init_81 (fun q6 => ?_)
  show NJ G A E _ 83 _ _ ((h0, .inr (7, [.ref q1, .ref q2, .ref q3, .ref q4, .int (0 : Int32), .int (0 : Int32), .ref q5, .int (0 : Int32), .int (0 : Int32), .int (-4 : Int32), .int (0 : Int32), .null, .null, .null, .null])) :: ((((((([] : va_W) ++ [(q1, zI G 136 (fun _ => 0))]) ++ [(q2, zI G 816 (fun _ => 0))]) ++ [(q3, zI G 136 (fun _ => 0))]) ++ [(q4, zI G 136 (fun _ => 0))]) ++ [(q5, zI G 60 (fun _ => 0))]) ++ [(q6, zI G 3 (fun _ => 0))])) 6 1287
  refine n_putF X 11 [.ref q1, .ref q2, .ref q3, .ref q4, .int (0 : Int32), .int (0 : Int32), .ref q5, .int (0 : Int32), .int (0 : Int32), .int (-4 : Int32), .int (0 : Int32), .ref q6, .null, .null, .null] tyX7 Y.2.2.2.2.1 inA7 tyX7_ok nmX7 rfl (by decide) (tw (i := 883) (by decide +kernel)) rfl rfl (tyX7_ok 11 (by decide)) rfl rfl (Nat.le_of_ble_eq_true rfl) rfl dX7_init_83 ?_
  refine n_aload_n X 0 dX7_init_86 rfl rfl ?_
  refine n_bipush (v := (24 : Int32)) X (by decide) dX7_init_87 ?_
  refine n_newI X 24 (by decide) (by decide) (by decide) (kc' := 7) (ks' := 1311) rfl rfl (Nat.le_of_ble_eq_true rfl) (Nat.le_of_ble_eq_true rfl) dX7_init_89 (fun q7 => ?_)
  show NJ G A E _ 91 _ _ ((h0, .inr (7, [.ref q1, .ref q2, .ref q3, .ref q4, .int (0 : Int32), .int (0 : Int32), .ref q5, .int (0 : Int32), .int (0 : Int32), .int (-4 : Int32), .int (0 : Int32), .ref q6, .null, .null, .null])) :: (((((((([] : va_W) ++ [(q1, zI G 136 (fun _ => 0))]) ++ [(q2, zI G 816 (fun _ => 0))]) ++ [(q3, zI G 136 (fun _ => 0))]) ++ [(q4, zI G 136 (fun _ => 0))]) ++ [(q5, zI G 60 (fun _ => 0))]) ++ [(q6, zI G 3 (fun _ => 0))]) ++ [(q7, zI G 24 (fun _ => 0))])) 7 1311
  refine n_putF X 12 [.ref q1, .ref q2, .ref q3, .ref q4, .int (0 : Int32), .int (0 : Int32), .ref q5, .int (0 : Int32), .int (0 : Int32), .int (-4 : Int32), .int (0 : Int32), .ref q6, .ref q7, .null, .null] tyX7 Y.2.2.2.2.1 inA7 tyX7_ok nmX7 rfl (by decide) (tw (i := 884) (by decide +kernel)) rfl rfl (tyX7_ok 12 (by decide)) rfl rfl (Nat.le_of_ble_eq_true rfl) rfl dX7_init_91 ?_
  refine n_aload_n X 0 dX7_init_94 rfl rfl ?_
  refine n_bipush (v := (12 : Int32)) X (by decide) dX7_init_95 ?_
  refine n_newI X 12 (by decide) (by decide) (by decide) (kc' := 8) (ks' := 1323) rfl rfl (Nat.le_of_ble_eq_true rfl) (Nat.le_of_ble_eq_true rfl) dX7_init_97 (fun q8 => ?_)
  show NJ G A E _ 99 _ _ ((h0, .inr (7, [.ref q1, .ref q2, .ref q3, .ref q4, .int (0 : Int32), .int (0 : Int32), .ref q5, .int (0 : Int32), .int (0 : Int32), .int (-4 : Int32), .int (0 : Int32), .ref q6, .ref q7, .null, .null])) :: ((((((((([] : va_W) ++ [(q1, zI G 136 (fun _ => 0))]) ++ [(q2, zI G 816 (fun _ => 0))]) ++ [(q3, zI G 136 (fun _ => 0))]) ++ [(q4, zI G 136 (fun _ => 0))]) ++ [(q5, zI G 60 (fun _ => 0))]) ++ [(q6, zI G 3 (fun _ => 0))]) ++ [(q7, zI G 24 (fun _ => 0))]) ++ [(q8, zI G 12 (fun _ => 0))])) 8 1323
  refine n_putF X 13 [.ref q1, .ref q2, .ref q3, .ref q4, .int (0 : Int32), .int (0 : Int32), .ref q5, .int (0 : Int32), .int (0 : Int32), .int (-4 : Int32), .int (0 : Int32), .ref q6, .ref q7, .ref q8, .null] tyX7 Y.2.2.2.2.1 inA7 tyX7_ok nmX7 rfl (by decide) (tw (i := 885) (by decide +kernel)) rfl rfl (tyX7_ok 13 (by decide)) rfl rfl (Nat.le_of_ble_eq_true rfl) rfl dX7_init_99 ?_
  refine n_aload_n X 0 dX7_init_102 rfl rfl ?_
  refine n_bipush (v := (48 : Int32)) X (by decide) dX7_init_103 ?_
  refine n_newI X 48 (by decide) (by decide) (by decide) (kc' := 9) (ks' := 1371) rfl rfl (Nat.le_of_ble_eq_true rfl) (Nat.le_of_ble_eq_true rfl) dX7_init_105 (fun q9 => ?_)
  show NJ G A E _ 107 _ _ ((h0, .inr (7, [.ref q1, .ref q2, .ref q3, .ref q4, .int (0 : Int32), .int (0 : Int32), .ref q5, .int (0 : Int32), .int (0 : Int32), .int (-4 : Int32), .int (0 : Int32), .ref q6, .ref q7, .ref q8, .null])) :: (((((((((([] : va_W) ++ [(q1, zI G 136 (fun _ => 0))]) ++ [(q2, zI G 816 (fun _ => 0))]) ++ [(q3, zI G 136 (fun _ => 0))]) ++ [(q4, zI G 136 (fun _ => 0))]) ++ [(q5, zI G 60 (fun _ => 0))]) ++ [(q6, zI G 3 (fun _ => 0))]) ++ [(q7, zI G 24 (fun _ => 0))]) ++ [(q8, zI G 12 (fun _ => 0))]) ++ [(q9, zI G 48 (fun _ => 0))])) 9 1371
  refine n_putF X 14 [.ref q1, .ref q2, .ref q3, .ref q4, .int (0 : Int32), .int (0 : Int32), .ref q5, .int (0 : Int32), .int (0 : Int32), .int (-4 : Int32), .int (0 : Int32), .ref q6, .ref q7, .ref q8, .ref q9] tyX7 Y.2.2.2.2.1 inA7 tyX7_ok nmX7 rfl (by decide) (tw (i := 886) (by decide +kernel)) rfl rfl (tyX7_ok 14 (by decide)) rfl rfl (Nat.le_of_ble_eq_true rfl) rfl dX7_init_107 ?_
  exact n_ret X Y dX7_init_110 ⟨(fun t k => if t = 7 then h0 else if t = 160 then q1 else if t = 161 then q2 else if t = 162 then q3 else if t = 163 then q4 else if t = 166 then q5 else if t = 171 then q6 else if t = 172 then q7 else if t = 173 then q8 else if t = 174 then q9 else 0), rfl, rfl⟩
