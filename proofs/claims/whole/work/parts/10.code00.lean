/-- LayeredClaims.isWithin(III)Z -/
def wp_X6_isWithin (a1 : Int32) (a2 : Int32) (a3 : Int32) (M : Mm) (P : Int32 → Mm → Prop) : Prop := ((a1 < a2 → P (0 : Int32) M) ∧ (¬ a1 < a2 → ((a3 < a1 → P (0 : Int32) M) ∧ (¬ a3 < a1 → P (1 : Int32) M))))
set_option maxHeartbeats 4000000 in
set_option maxRecDepth 100000 in
theorem met_X6_isWithin {l : Launch} {G : GT} (hG : GD G) (a1 : Int32) (a2 : Int32) (a3 : Int32) (M : Mm) (P : Int32 → Mm → Prop) (h : wp_X6_isWithin a1 a2 a3 M P) : MI l G yX6_isWithin cX6_isWithin 3 (some .boolean) ({ frames := 0, cells := 0, slots := 0, locals := 0 } : Room) [.int a1, .int a2, .int a3] M P := by
  refine met_by hG (own := RX6) rfl (by decide +kernel) (Nat.le_of_ble_eq_true rfl) (fun E hE X Y => ?_)
  show J G E 3 0 [(0, .int a1), (1, .int a2), (2, .int a3)] [] M
  unfold wp_X6_isWithin at h
  refine j_iload_n X 0 dX6_isWithin_0 rfl rfl ?_
  refine j_iload_n X 1 dX6_isWithin_1 rfl rfl ?_
  refine j_icmp_lt X 14 dX6_isWithin_2 (by decide) (fun c1 => ?_) (fun c1 => ?_)
  · replace h := h.1 c1
    refine j_iconst (v := (0 : Int32)) X (by decide) dX6_isWithin_14 ?_
    exact j_zret X Y dX6_isWithin_15 rfl h
  · replace h := h.2 c1
    refine j_iload_n X 0 dX6_isWithin_5 rfl rfl ?_
    refine j_iload_n X 2 dX6_isWithin_6 rfl rfl ?_
    refine j_icmp_gt X 14 dX6_isWithin_7 (by decide) (fun c2 => ?_) (fun c2 => ?_)
    · replace h := h.1 c2
      refine j_iconst (v := (0 : Int32)) X (by decide) dX6_isWithin_14 ?_
      exact j_zret X Y dX6_isWithin_15 rfl h
    · replace h := h.2 c2
      refine j_iconst (v := (1 : Int32)) X (by decide) dX6_isWithin_10 ?_
      refine j_goto X 15 dX6_isWithin_11 (by decide) ?_
      exact j_zret X Y dX6_isWithin_15 rfl h
theorem jc_RX6_187 {G : GT} {E : ET} {cc : ByteArray} {nL pc : Nat} {rm : Room} {lv : List (Nat × Value)} {st : List Value} {M : Mm} (X : CX G E RX6 cc nL rm) (hR : 0 + 1 ≤ rm.frames ∧ 8 + (3 + 11) + 0 ≤ rm.locals) (hst : (st.map fun v => v.category).sum ≤ 8) (d : decode cc pc = .ok (.invokestatic 187, 3)) {a1 : Int32} {a2 : Int32} {a3 : Int32} {P : Int32 → Mm → Prop} (h : wp_X6_isWithin a1 a2 a3 M P) (k1 : ∀ (r : Int32) (M2 : Mm), P r M2 → J G E nL (pc + 3) lv (.int r :: st) M2) : J G E nL pc lv (.int a3 :: .int a2 :: .int a1 :: st) M := fun H locs ls hP hS hl => by
  have hK := X.2.2.2.2.2.1.1
  have hm := met_X6_isWithin (l := eL E) X.2.2.2.2.2.2.1 a1 a2 a3 M P h
  have hR2 : 0 + 1 ≤ (eR E).frames ∧ 8 + (3 + 11) + 0 ≤ (eR E).locals := by rw [X.2.2.2.2.2.2.2.1]; exact hR
  have hC2 : eCells E + 0 ≤ (eR E).cells ∧ eSlots E + 0 ≤ (eR E).slots := by rw [X.2.2.2.2.2.2.2.1]; exact ⟨X.2.2.2.2.2.2.2.2.1, X.2.2.2.2.2.2.2.2.2⟩
  exact va_calli (va_runS (As := [.int a1, .int a2, .int a3]) (rest := st) ⟨X.1, X.2.1, X.2.2.1, X.2.2.2.1, X.2.2.2.2.1⟩ hm (va_cwS (ws' := lw_aw) 3 X.2.2.2.2.1 (gwS (tw (i := 648) (by decide +kernel)) (tw (i := 399) (by decide +kernel)) (tw (i := 71) (by decide +kernel)) (tw (i := 400) (by decide +kernel))) rfl rfl rfl (by decide +kernel) hR2) ⟨hr_blind, fun U hU hW => ⟨rfl, by rw [hU]; exact hP, KK.warm hW X.2.2.2.2.2.1⟩⟩ rfl rfl hl.1 rfl (lv_room hst) d hC2) hS (fun q _ h => h) (fun q h => h) (fun r u t H1 locs1 ht hvm hw hB hz1 hk1 hS1 => k1 r u hw H1 locs1 ls (by rw [← ht]; exact hB.1) hS1 hl)
theorem jc_RX0_58 {G : GT} {E : ET} {cc : ByteArray} {nL pc : Nat} {rm : Room} {lv : List (Nat × Value)} {st : List Value} {M : Mm} (X : CX G E RX0 cc nL rm) (hR : 0 + 1 ≤ rm.frames ∧ 8 + (3 + 11) + 0 ≤ rm.locals) (hst : (st.map fun v => v.category).sum ≤ 8) (d : decode cc pc = .ok (.invokestatic 58, 3)) {a1 : Int32} {a2 : Int32} {a3 : Int32} {P : Int32 → Mm → Prop} (h : wp_X6_isWithin a1 a2 a3 M P) (k1 : ∀ (r : Int32) (M2 : Mm), P r M2 → J G E nL (pc + 3) lv (.int r :: st) M2) : J G E nL pc lv (.int a3 :: .int a2 :: .int a1 :: st) M := fun H locs ls hP hS hl => by
  have hK := X.2.2.2.2.2.1.1
  have hm := met_X6_isWithin (l := eL E) X.2.2.2.2.2.2.1 a1 a2 a3 M P h
  have hR2 : 0 + 1 ≤ (eR E).frames ∧ 8 + (3 + 11) + 0 ≤ (eR E).locals := by rw [X.2.2.2.2.2.2.2.1]; exact hR
  have hC2 : eCells E + 0 ≤ (eR E).cells ∧ eSlots E + 0 ≤ (eR E).slots := by rw [X.2.2.2.2.2.2.2.1]; exact ⟨X.2.2.2.2.2.2.2.2.1, X.2.2.2.2.2.2.2.2.2⟩
  exact va_calli (va_runSN (As := [.int a1, .int a2, .int a3]) (rest := st) ⟨X.1, X.2.1, X.2.2.1, X.2.2.2.1, X.2.2.2.2.1⟩ hm ⟨va_cnB (host := "LayeredClaims") (ws' := lw_aw) 3 X.2.2.2.2.1 (good_ws (tw (i := 400) (by decide +kernel))) rfl rfl rfl (X.2.2.2.2.2.1.2 _ (tn (i := 398) (by decide +kernel))) (X.2.2.2.2.1 _ (tw (i := 71) (by decide +kernel))) (by decide +kernel) hR2, X.2.2.2.2.1 _ (tw (i := 399) (by decide +kernel)), trivial⟩ ⟨hr_blind, fun U hU hW => ⟨rfl, by rw [hU]; exact hP, KK.warm hW X.2.2.2.2.2.1⟩⟩ rfl rfl hl.1 rfl (lv_room hst) d hC2) hS (fun q _ h => h) (fun q h => h) (fun r u t H1 locs1 ht hvm hw hB hz1 hk1 hS1 => k1 r u hw H1 locs1 ls (by rw [← ht]; exact hB.1) hS1 hl)
theorem jc_RX3_27 {G : GT} {E : ET} {cc : ByteArray} {nL pc : Nat} {rm : Room} {lv : List (Nat × Value)} {st : List Value} {M : Mm} (X : CX G E RX3 cc nL rm) (hR : 0 + 1 ≤ rm.frames ∧ 8 + (3 + 11) + 0 ≤ rm.locals) (hst : (st.map fun v => v.category).sum ≤ 8) (d : decode cc pc = .ok (.invokestatic 27, 3)) {a1 : Int32} {a2 : Int32} {a3 : Int32} {P : Int32 → Mm → Prop} (h : wp_X6_isWithin a1 a2 a3 M P) (k1 : ∀ (r : Int32) (M2 : Mm), P r M2 → J G E nL (pc + 3) lv (.int r :: st) M2) : J G E nL pc lv (.int a3 :: .int a2 :: .int a1 :: st) M := fun H locs ls hP hS hl => by
  have hK := X.2.2.2.2.2.1.1
  have hm := met_X6_isWithin (l := eL E) X.2.2.2.2.2.2.1 a1 a2 a3 M P h
  have hR2 : 0 + 1 ≤ (eR E).frames ∧ 8 + (3 + 11) + 0 ≤ (eR E).locals := by rw [X.2.2.2.2.2.2.2.1]; exact hR
  have hC2 : eCells E + 0 ≤ (eR E).cells ∧ eSlots E + 0 ≤ (eR E).slots := by rw [X.2.2.2.2.2.2.2.1]; exact ⟨X.2.2.2.2.2.2.2.2.1, X.2.2.2.2.2.2.2.2.2⟩
  exact va_calli (va_runSN (As := [.int a1, .int a2, .int a3]) (rest := st) ⟨X.1, X.2.1, X.2.2.1, X.2.2.2.1, X.2.2.2.2.1⟩ hm ⟨va_cnB (host := "LayeredClaims") (ws' := lw_aw) 3 X.2.2.2.2.1 (good_ws (tw (i := 400) (by decide +kernel))) rfl rfl rfl (X.2.2.2.2.2.1.2 _ (tn (i := 501) (by decide +kernel))) (X.2.2.2.2.1 _ (tw (i := 71) (by decide +kernel))) (by decide +kernel) hR2, X.2.2.2.2.1 _ (tw (i := 399) (by decide +kernel)), trivial⟩ ⟨hr_blind, fun U hU hW => ⟨rfl, by rw [hU]; exact hP, KK.warm hW X.2.2.2.2.2.1⟩⟩ rfl rfl hl.1 rfl (lv_room hst) d hC2) hS (fun q _ h => h) (fun q h => h) (fun r u t H1 locs1 ht hvm hw hB hz1 hk1 hS1 => k1 r u hw H1 locs1 ls (by rw [← ht]; exact hB.1) hS1 hl)
theorem jc_RX4_20 {G : GT} {E : ET} {cc : ByteArray} {nL pc : Nat} {rm : Room} {lv : List (Nat × Value)} {st : List Value} {M : Mm} (X : CX G E RX4 cc nL rm) (hR : 0 + 1 ≤ rm.frames ∧ 8 + (3 + 11) + 0 ≤ rm.locals) (hst : (st.map fun v => v.category).sum ≤ 8) (d : decode cc pc = .ok (.invokestatic 20, 3)) {a1 : Int32} {a2 : Int32} {a3 : Int32} {P : Int32 → Mm → Prop} (h : wp_X6_isWithin a1 a2 a3 M P) (k1 : ∀ (r : Int32) (M2 : Mm), P r M2 → J G E nL (pc + 3) lv (.int r :: st) M2) : J G E nL pc lv (.int a3 :: .int a2 :: .int a1 :: st) M := fun H locs ls hP hS hl => by
  have hK := X.2.2.2.2.2.1.1
  have hm := met_X6_isWithin (l := eL E) X.2.2.2.2.2.2.1 a1 a2 a3 M P h
  have hR2 : 0 + 1 ≤ (eR E).frames ∧ 8 + (3 + 11) + 0 ≤ (eR E).locals := by rw [X.2.2.2.2.2.2.2.1]; exact hR
  have hC2 : eCells E + 0 ≤ (eR E).cells ∧ eSlots E + 0 ≤ (eR E).slots := by rw [X.2.2.2.2.2.2.2.1]; exact ⟨X.2.2.2.2.2.2.2.2.1, X.2.2.2.2.2.2.2.2.2⟩
  exact va_calli (va_runSN (As := [.int a1, .int a2, .int a3]) (rest := st) ⟨X.1, X.2.1, X.2.2.1, X.2.2.2.1, X.2.2.2.2.1⟩ hm ⟨va_cnB (host := "LayeredClaims") (ws' := lw_aw) 3 X.2.2.2.2.1 (good_ws (tw (i := 400) (by decide +kernel))) rfl rfl rfl (X.2.2.2.2.2.1.2 _ (tn (i := 811) (by decide +kernel))) (X.2.2.2.2.1 _ (tw (i := 71) (by decide +kernel))) (by decide +kernel) hR2, X.2.2.2.2.1 _ (tw (i := 399) (by decide +kernel)), trivial⟩ ⟨hr_blind, fun U hU hW => ⟨rfl, by rw [hU]; exact hP, KK.warm hW X.2.2.2.2.2.1⟩⟩ rfl rfl hl.1 rfl (lv_room hst) d hC2) hS (fun q _ h => h) (fun q h => h) (fun r u t H1 locs1 ht hvm hw hB hz1 hk1 hS1 => k1 r u hw H1 locs1 ls (by rw [← ht]; exact hB.1) hS1 hl)
/-- LayeredClaims$Book.hasCover(I)Z -/
def wp_X0_hasCover (k : Nat) (a1 : Int32) (M : Mm) (P : Int32 → Mm → Prop) : Prop := (k < 9 ∧ (wp_X6_isWithin a1 (0 : Int32) ((rd M 0 k 0) - (1 : Int32)) M (fun (r3 : Int32) (M2 : Mm) => (narrow .boolean (.int r3) = .int r3 ∧ P r3 M2))))
set_option maxHeartbeats 4000000 in
set_option maxRecDepth 100000 in
theorem met_X0_hasCover {l : Launch} {G : GT} (hG : GD G) (k : Nat) (a1 : Int32) (M : Mm) (P : Int32 → Mm → Prop) (h : wp_X0_hasCover k a1 M P) : MI l G yX0_hasCover cX0_hasCover 2 (some .boolean) ({ frames := 1, cells := 0, slots := 0, locals := 22 } : Room) [.ref (adr G 0 k), .int a1] M P := by
  refine met_by hG (own := RX0) rfl (by decide +kernel) (Nat.le_of_ble_eq_true rfl) (fun E hE X Y => ?_)
  show J G E 2 0 [(0, .ref (adr G 0 k)), (1, .int a1)] [] M
  unfold wp_X0_hasCover at h
  refine j_iload_n X 1 dX0_hasCover_0 rfl rfl ?_
  refine j_iconst (v := (0 : Int32)) X (by decide) dX0_hasCover_1 ?_
  refine j_aload_n X 0 dX0_hasCover_2 rfl rfl ?_
  have q1 := h.1
  replace h := h.2
  refine jf_RX0_54 X q1 dX0_hasCover_3 ?_
  refine j_iconst (v := (1 : Int32)) X (by decide) dX0_hasCover_6 ?_
  refine j_isub X dX0_hasCover_7 ?_
  refine jc_RX0_58 X ⟨Nat.le_of_ble_eq_true rfl, Nat.le_of_ble_eq_true rfl⟩ (Nat.le_of_ble_eq_true rfl) dX0_hasCover_8 h (fun r3 M2 h => ?_)
  exact j_zret X Y dX0_hasCover_11 h.1 h.2
theorem jc_RX6_138 {G : GT} {E : ET} {cc : ByteArray} {nL pc : Nat} {rm : Room} {lv : List (Nat × Value)} {st : List Value} {M : Mm} (X : CX G E RX6 cc nL rm) (hR : 1 + 1 ≤ rm.frames ∧ 8 + (2 + 11) + 22 ≤ rm.locals) (hst : (st.map fun v => v.category).sum ≤ 8) (d : decode cc pc = .ok (.invokevirtual 138, 3)) {k : Nat} {a1 : Int32} (hk : k < 9) {P : Int32 → Mm → Prop} (h : wp_X0_hasCover k a1 M P) (k1 : ∀ (r : Int32) (M2 : Mm), P r M2 → J G E nL (pc + 3) lv (.int r :: st) M2) : J G E nL pc lv (.int a1 :: .ref (adr G 0 k) :: st) M := fun H locs ls hP hS hl => by
  have hK := X.2.2.2.2.2.1.1
  have hm := met_X0_hasCover (l := eL E) X.2.2.2.2.2.2.1 k a1 M P h
  have hR2 : 1 + 1 ≤ (eR E).frames ∧ 8 + (2 + 11) + 22 ≤ (eR E).locals := by rw [X.2.2.2.2.2.2.2.1]; exact hR
  have hC2 : eCells E + 0 ≤ (eR E).cells ∧ eSlots E + 0 ≤ (eR E).slots := by rw [X.2.2.2.2.2.2.2.1]; exact ⟨X.2.2.2.2.2.2.2.2.1, X.2.2.2.2.2.2.2.2.2⟩
  obtain ⟨q0, -, hq⟩ := wld_get (G := G) M (mw0 k hk)
  exact va_calli (va_runV (C := RX0) (As := [.int a1]) (rest := st) ⟨X.1, X.2.1, X.2.2.1, X.2.2.2.1, X.2.2.2.2.1⟩ hm (cwV (ws' := lw_aw) 1 X.2.2.2.2.1 (gwV (tw (i := 555) (by decide +kernel)) (tw (i := 446) (by decide +kernel)) (tw (i := 447) (by decide +kernel)) (tw (i := 73) (by decide +kernel)) (tw (i := 448) (by decide +kernel))) rfl rfl rfl (by decide +kernel) hR2) ⟨hr_blind, va_recv hK hP (ci := 0) (q := (RX0, TX0, 19)) (fs := objF0 G k (M.1 0 k)) (q0 := q0) rfl hq, fun U hU hW => ⟨rfl, by rw [hU]; exact hP, KK.warm hW X.2.2.2.2.2.1⟩⟩ rfl rfl hl.1 rfl (lv_room hst) d hC2) hS (fun q _ h => h) (fun q h => h) (fun r u t H1 locs1 ht hvm hw hB hz1 hk1 hS1 => k1 r u hw H1 locs1 ls (by rw [← ht]; exact hB.1) hS1 hl)
theorem jc_RX0_81 {G : GT} {E : ET} {cc : ByteArray} {nL pc : Nat} {rm : Room} {lv : List (Nat × Value)} {st : List Value} {M : Mm} (X : CX G E RX0 cc nL rm) (hR : 1 + 1 ≤ rm.frames ∧ 8 + (2 + 11) + 22 ≤ rm.locals) (hst : (st.map fun v => v.category).sum ≤ 8) (d : decode cc pc = .ok (.invokevirtual 81, 3)) {k : Nat} {a1 : Int32} (hk : k < 9) {P : Int32 → Mm → Prop} (h : wp_X0_hasCover k a1 M P) (k1 : ∀ (r : Int32) (M2 : Mm), P r M2 → J G E nL (pc + 3) lv (.int r :: st) M2) : J G E nL pc lv (.int a1 :: .ref (adr G 0 k) :: st) M := fun H locs ls hP hS hl => by
  have hK := X.2.2.2.2.2.1.1
  have hm := met_X0_hasCover (l := eL E) X.2.2.2.2.2.2.1 k a1 M P h
  have hR2 : 1 + 1 ≤ (eR E).frames ∧ 8 + (2 + 11) + 22 ≤ (eR E).locals := by rw [X.2.2.2.2.2.2.2.1]; exact hR
  have hC2 : eCells E + 0 ≤ (eR E).cells ∧ eSlots E + 0 ≤ (eR E).slots := by rw [X.2.2.2.2.2.2.2.1]; exact ⟨X.2.2.2.2.2.2.2.2.1, X.2.2.2.2.2.2.2.2.2⟩
  obtain ⟨q0, -, hq⟩ := wld_get (G := G) M (mw0 k hk)
  exact va_calli (va_runV (C := RX0) (As := [.int a1]) (rest := st) ⟨X.1, X.2.1, X.2.2.1, X.2.2.2.1, X.2.2.2.2.1⟩ hm (cwV (ws' := lw_aw) 1 X.2.2.2.2.1 (gwV (tw (i := 445) (by decide +kernel)) (tw (i := 446) (by decide +kernel)) (tw (i := 447) (by decide +kernel)) (tw (i := 73) (by decide +kernel)) (tw (i := 448) (by decide +kernel))) rfl rfl rfl (by decide +kernel) hR2) ⟨hr_blind, va_recv hK hP (ci := 0) (q := (RX0, TX0, 19)) (fs := objF0 G k (M.1 0 k)) (q0 := q0) rfl hq, fun U hU hW => ⟨rfl, by rw [hU]; exact hP, KK.warm hW X.2.2.2.2.2.1⟩⟩ rfl rfl hl.1 rfl (lv_room hst) d hC2) hS (fun q _ h => h) (fun q h => h) (fun r u t H1 locs1 ht hvm hw hB hz1 hk1 hS1 => k1 r u hw H1 locs1 ls (by rw [← ht]; exact hB.1) hS1 hl)
/-- LayeredClaims$Book.hasLayer(I)Z -/
def wp_X0_hasLayer (k : Nat) (a1 : Int32) (M : Mm) (P : Int32 → Mm → Prop) : Prop := (k < 9 ∧ (wp_X6_isWithin a1 (0 : Int32) ((rd M 0 k 5) - (1 : Int32)) M (fun (r3 : Int32) (M2 : Mm) => (narrow .boolean (.int r3) = .int r3 ∧ P r3 M2))))
set_option maxHeartbeats 4000000 in
set_option maxRecDepth 100000 in
theorem met_X0_hasLayer {l : Launch} {G : GT} (hG : GD G) (k : Nat) (a1 : Int32) (M : Mm) (P : Int32 → Mm → Prop) (h : wp_X0_hasLayer k a1 M P) : MI l G yX0_hasLayer cX0_hasLayer 2 (some .boolean) ({ frames := 1, cells := 0, slots := 0, locals := 22 } : Room) [.ref (adr G 0 k), .int a1] M P := by
  refine met_by hG (own := RX0) rfl (by decide +kernel) (Nat.le_of_ble_eq_true rfl) (fun E hE X Y => ?_)
  show J G E 2 0 [(0, .ref (adr G 0 k)), (1, .int a1)] [] M
  unfold wp_X0_hasLayer at h
  refine j_iload_n X 1 dX0_hasLayer_0 rfl rfl ?_
  refine j_iconst (v := (0 : Int32)) X (by decide) dX0_hasLayer_1 ?_
  refine j_aload_n X 0 dX0_hasLayer_2 rfl rfl ?_
  have q1 := h.1
  replace h := h.2
  refine jf_RX0_62 X q1 dX0_hasLayer_3 ?_
  refine j_iconst (v := (1 : Int32)) X (by decide) dX0_hasLayer_6 ?_
  refine j_isub X dX0_hasLayer_7 ?_
  refine jc_RX0_58 X ⟨Nat.le_of_ble_eq_true rfl, Nat.le_of_ble_eq_true rfl⟩ (Nat.le_of_ble_eq_true rfl) dX0_hasLayer_8 h (fun r3 M2 h => ?_)
  exact j_zret X Y dX0_hasLayer_11 h.1 h.2
theorem jc_RX6_160 {G : GT} {E : ET} {cc : ByteArray} {nL pc : Nat} {rm : Room} {lv : List (Nat × Value)} {st : List Value} {M : Mm} (X : CX G E RX6 cc nL rm) (hR : 1 + 1 ≤ rm.frames ∧ 8 + (2 + 11) + 22 ≤ rm.locals) (hst : (st.map fun v => v.category).sum ≤ 8) (d : decode cc pc = .ok (.invokevirtual 160, 3)) {k : Nat} {a1 : Int32} (hk : k < 9) {P : Int32 → Mm → Prop} (h : wp_X0_hasLayer k a1 M P) (k1 : ∀ (r : Int32) (M2 : Mm), P r M2 → J G E nL (pc + 3) lv (.int r :: st) M2) : J G E nL pc lv (.int a1 :: .ref (adr G 0 k) :: st) M := fun H locs ls hP hS hl => by
  have hK := X.2.2.2.2.2.1.1
  have hm := met_X0_hasLayer (l := eL E) X.2.2.2.2.2.2.1 k a1 M P h
  have hR2 : 1 + 1 ≤ (eR E).frames ∧ 8 + (2 + 11) + 22 ≤ (eR E).locals := by rw [X.2.2.2.2.2.2.2.1]; exact hR
  have hC2 : eCells E + 0 ≤ (eR E).cells ∧ eSlots E + 0 ≤ (eR E).slots := by rw [X.2.2.2.2.2.2.2.1]; exact ⟨X.2.2.2.2.2.2.2.2.1, X.2.2.2.2.2.2.2.2.2⟩
  obtain ⟨q0, -, hq⟩ := wld_get (G := G) M (mw0 k hk)
  exact va_calli (va_runV (C := RX0) (As := [.int a1]) (rest := st) ⟨X.1, X.2.1, X.2.2.1, X.2.2.2.1, X.2.2.2.2.1⟩ hm (cwV (ws' := lw_aw) 1 X.2.2.2.2.1 (gwV (tw (i := 625) (by decide +kernel)) (tw (i := 626) (by decide +kernel)) (tw (i := 627) (by decide +kernel)) (tw (i := 73) (by decide +kernel)) (tw (i := 628) (by decide +kernel))) rfl rfl rfl (by decide +kernel) hR2) ⟨hr_blind, va_recv hK hP (ci := 0) (q := (RX0, TX0, 19)) (fs := objF0 G k (M.1 0 k)) (q0 := q0) rfl hq, fun U hU hW => ⟨rfl, by rw [hU]; exact hP, KK.warm hW X.2.2.2.2.2.1⟩⟩ rfl rfl hl.1 rfl (lv_room hst) d hC2) hS (fun q _ h => h) (fun q h => h) (fun r u t H1 locs1 ht hvm hw hB hz1 hk1 hS1 => k1 r u hw H1 locs1 ls (by rw [← ht]; exact hB.1) hS1 hl)
/-- LayeredClaims$Book.hasEvent(I)Z -/
def wp_X0_hasEvent (k : Nat) (a1 : Int32) (M : Mm) (P : Int32 → Mm → Prop) : Prop := (k < 9 ∧ (wp_X6_isWithin a1 (0 : Int32) ((rd M 0 k 12) - (1 : Int32)) M (fun (r3 : Int32) (M2 : Mm) => (narrow .boolean (.int r3) = .int r3 ∧ P r3 M2))))
set_option maxHeartbeats 4000000 in
set_option maxRecDepth 100000 in
theorem met_X0_hasEvent {l : Launch} {G : GT} (hG : GD G) (k : Nat) (a1 : Int32) (M : Mm) (P : Int32 → Mm → Prop) (h : wp_X0_hasEvent k a1 M P) : MI l G yX0_hasEvent cX0_hasEvent 2 (some .boolean) ({ frames := 1, cells := 0, slots := 0, locals := 22 } : Room) [.ref (adr G 0 k), .int a1] M P := by
  refine met_by hG (own := RX0) rfl (by decide +kernel) (Nat.le_of_ble_eq_true rfl) (fun E hE X Y => ?_)
  show J G E 2 0 [(0, .ref (adr G 0 k)), (1, .int a1)] [] M
  unfold wp_X0_hasEvent at h
  refine j_iload_n X 1 dX0_hasEvent_0 rfl rfl ?_
  refine j_iconst (v := (0 : Int32)) X (by decide) dX0_hasEvent_1 ?_
  refine j_aload_n X 0 dX0_hasEvent_2 rfl rfl ?_
  have q1 := h.1
  replace h := h.2
  refine jf_RX0_65 X q1 dX0_hasEvent_3 ?_
  refine j_iconst (v := (1 : Int32)) X (by decide) dX0_hasEvent_6 ?_
  refine j_isub X dX0_hasEvent_7 ?_
  refine jc_RX0_58 X ⟨Nat.le_of_ble_eq_true rfl, Nat.le_of_ble_eq_true rfl⟩ (Nat.le_of_ble_eq_true rfl) dX0_hasEvent_8 h (fun r3 M2 h => ?_)
  exact j_zret X Y dX0_hasEvent_11 h.1 h.2
theorem jc_RX6_194 {G : GT} {E : ET} {cc : ByteArray} {nL pc : Nat} {rm : Room} {lv : List (Nat × Value)} {st : List Value} {M : Mm} (X : CX G E RX6 cc nL rm) (hR : 1 + 1 ≤ rm.frames ∧ 8 + (2 + 11) + 22 ≤ rm.locals) (hst : (st.map fun v => v.category).sum ≤ 8) (d : decode cc pc = .ok (.invokevirtual 194, 3)) {k : Nat} {a1 : Int32} (hk : k < 9) {P : Int32 → Mm → Prop} (h : wp_X0_hasEvent k a1 M P) (k1 : ∀ (r : Int32) (M2 : Mm), P r M2 → J G E nL (pc + 3) lv (.int r :: st) M2) : J G E nL pc lv (.int a1 :: .ref (adr G 0 k) :: st) M := fun H locs ls hP hS hl => by
  have hK := X.2.2.2.2.2.1.1
  have hm := met_X0_hasEvent (l := eL E) X.2.2.2.2.2.2.1 k a1 M P h
  have hR2 : 1 + 1 ≤ (eR E).frames ∧ 8 + (2 + 11) + 22 ≤ (eR E).locals := by rw [X.2.2.2.2.2.2.2.1]; exact hR
  have hC2 : eCells E + 0 ≤ (eR E).cells ∧ eSlots E + 0 ≤ (eR E).slots := by rw [X.2.2.2.2.2.2.2.1]; exact ⟨X.2.2.2.2.2.2.2.2.1, X.2.2.2.2.2.2.2.2.2⟩
  obtain ⟨q0, -, hq⟩ := wld_get (G := G) M (mw0 k hk)
  exact va_calli (va_runV (C := RX0) (As := [.int a1]) (rest := st) ⟨X.1, X.2.1, X.2.2.1, X.2.2.2.1, X.2.2.2.2.1⟩ hm (cwV (ws' := lw_aw) 1 X.2.2.2.2.1 (gwV (tw (i := 653) (by decide +kernel)) (tw (i := 442) (by decide +kernel)) (tw (i := 443) (by decide +kernel)) (tw (i := 73) (by decide +kernel)) (tw (i := 444) (by decide +kernel))) rfl rfl rfl (by decide +kernel) hR2) ⟨hr_blind, va_recv hK hP (ci := 0) (q := (RX0, TX0, 19)) (fs := objF0 G k (M.1 0 k)) (q0 := q0) rfl hq, fun U hU hW => ⟨rfl, by rw [hU]; exact hP, KK.warm hW X.2.2.2.2.2.1⟩⟩ rfl rfl hl.1 rfl (lv_room hst) d hC2) hS (fun q _ h => h) (fun q h => h) (fun r u t H1 locs1 ht hvm hw hB hz1 hk1 hS1 => k1 r u hw H1 locs1 ls (by rw [← ht]; exact hB.1) hS1 hl)
theorem jc_RX0_77 {G : GT} {E : ET} {cc : ByteArray} {nL pc : Nat} {rm : Room} {lv : List (Nat × Value)} {st : List Value} {M : Mm} (X : CX G E RX0 cc nL rm) (hR : 1 + 1 ≤ rm.frames ∧ 8 + (2 + 11) + 22 ≤ rm.locals) (hst : (st.map fun v => v.category).sum ≤ 8) (d : decode cc pc = .ok (.invokevirtual 77, 3)) {k : Nat} {a1 : Int32} (hk : k < 9) {P : Int32 → Mm → Prop} (h : wp_X0_hasEvent k a1 M P) (k1 : ∀ (r : Int32) (M2 : Mm), P r M2 → J G E nL (pc + 3) lv (.int r :: st) M2) : J G E nL pc lv (.int a1 :: .ref (adr G 0 k) :: st) M := fun H locs ls hP hS hl => by
  have hK := X.2.2.2.2.2.1.1
  have hm := met_X0_hasEvent (l := eL E) X.2.2.2.2.2.2.1 k a1 M P h
  have hR2 : 1 + 1 ≤ (eR E).frames ∧ 8 + (2 + 11) + 22 ≤ (eR E).locals := by rw [X.2.2.2.2.2.2.2.1]; exact hR
  have hC2 : eCells E + 0 ≤ (eR E).cells ∧ eSlots E + 0 ≤ (eR E).slots := by rw [X.2.2.2.2.2.2.2.1]; exact ⟨X.2.2.2.2.2.2.2.2.1, X.2.2.2.2.2.2.2.2.2⟩
  obtain ⟨q0, -, hq⟩ := wld_get (G := G) M (mw0 k hk)
  exact va_calli (va_runV (C := RX0) (As := [.int a1]) (rest := st) ⟨X.1, X.2.1, X.2.2.1, X.2.2.2.1, X.2.2.2.2.1⟩ hm (cwV (ws' := lw_aw) 1 X.2.2.2.2.1 (gwV (tw (i := 441) (by decide +kernel)) (tw (i := 442) (by decide +kernel)) (tw (i := 443) (by decide +kernel)) (tw (i := 73) (by decide +kernel)) (tw (i := 444) (by decide +kernel))) rfl rfl rfl (by decide +kernel) hR2) ⟨hr_blind, va_recv hK hP (ci := 0) (q := (RX0, TX0, 19)) (fs := objF0 G k (M.1 0 k)) (q0 := q0) rfl hq, fun U hU hW => ⟨rfl, by rw [hU]; exact hP, KK.warm hW X.2.2.2.2.2.1⟩⟩ rfl rfl hl.1 rfl (lv_room hst) d hC2) hS (fun q _ h => h) (fun q h => h) (fun r u t H1 locs1 ht hvm hw hB hz1 hk1 hS1 => k1 r u hw H1 locs1 ls (by rw [← ht]; exact hB.1) hS1 hl)
/-- LayeredClaims$Book.hasClaim(I)Z -/
def wp_X0_hasClaim (k : Nat) (a1 : Int32) (M : Mm) (P : Int32 → Mm → Prop) : Prop := (k < 9 ∧ (wp_X6_isWithin a1 (0 : Int32) ((rd M 0 k 15) - (1 : Int32)) M (fun (r3 : Int32) (M2 : Mm) => (narrow .boolean (.int r3) = .int r3 ∧ P r3 M2))))
set_option maxHeartbeats 4000000 in
set_option maxRecDepth 100000 in
theorem met_X0_hasClaim {l : Launch} {G : GT} (hG : GD G) (k : Nat) (a1 : Int32) (M : Mm) (P : Int32 → Mm → Prop) (h : wp_X0_hasClaim k a1 M P) : MI l G yX0_hasClaim cX0_hasClaim 2 (some .boolean) ({ frames := 1, cells := 0, slots := 0, locals := 22 } : Room) [.ref (adr G 0 k), .int a1] M P := by
  refine met_by hG (own := RX0) rfl (by decide +kernel) (Nat.le_of_ble_eq_true rfl) (fun E hE X Y => ?_)
  show J G E 2 0 [(0, .ref (adr G 0 k)), (1, .int a1)] [] M
  unfold wp_X0_hasClaim at h
  refine j_iload_n X 1 dX0_hasClaim_0 rfl rfl ?_
  refine j_iconst (v := (0 : Int32)) X (by decide) dX0_hasClaim_1 ?_
  refine j_aload_n X 0 dX0_hasClaim_2 rfl rfl ?_
  have q1 := h.1
  replace h := h.2
  refine jf_RX0_68 X q1 dX0_hasClaim_3 ?_
  refine j_iconst (v := (1 : Int32)) X (by decide) dX0_hasClaim_6 ?_
  refine j_isub X dX0_hasClaim_7 ?_
  refine jc_RX0_58 X ⟨Nat.le_of_ble_eq_true rfl, Nat.le_of_ble_eq_true rfl⟩ (Nat.le_of_ble_eq_true rfl) dX0_hasClaim_8 h (fun r3 M2 h => ?_)
  exact j_zret X Y dX0_hasClaim_11 h.1 h.2
theorem jc_RX6_224 {G : GT} {E : ET} {cc : ByteArray} {nL pc : Nat} {rm : Room} {lv : List (Nat × Value)} {st : List Value} {M : Mm} (X : CX G E RX6 cc nL rm) (hR : 1 + 1 ≤ rm.frames ∧ 8 + (2 + 11) + 22 ≤ rm.locals) (hst : (st.map fun v => v.category).sum ≤ 8) (d : decode cc pc = .ok (.invokevirtual 224, 3)) {k : Nat} {a1 : Int32} (hk : k < 9) {P : Int32 → Mm → Prop} (h : wp_X0_hasClaim k a1 M P) (k1 : ∀ (r : Int32) (M2 : Mm), P r M2 → J G E nL (pc + 3) lv (.int r :: st) M2) : J G E nL pc lv (.int a1 :: .ref (adr G 0 k) :: st) M := fun H locs ls hP hS hl => by
  have hK := X.2.2.2.2.2.1.1
  have hm := met_X0_hasClaim (l := eL E) X.2.2.2.2.2.2.1 k a1 M P h
  have hR2 : 1 + 1 ≤ (eR E).frames ∧ 8 + (2 + 11) + 22 ≤ (eR E).locals := by rw [X.2.2.2.2.2.2.2.1]; exact hR
  have hC2 : eCells E + 0 ≤ (eR E).cells ∧ eSlots E + 0 ≤ (eR E).slots := by rw [X.2.2.2.2.2.2.2.1]; exact ⟨X.2.2.2.2.2.2.2.2.1, X.2.2.2.2.2.2.2.2.2⟩
  obtain ⟨q0, -, hq⟩ := wld_get (G := G) M (mw0 k hk)
  exact va_calli (va_runV (C := RX0) (As := [.int a1]) (rest := st) ⟨X.1, X.2.1, X.2.2.1, X.2.2.2.1, X.2.2.2.2.1⟩ hm (cwV (ws' := lw_aw) 1 X.2.2.2.2.1 (gwV (tw (i := 671) (by decide +kernel)) (tw (i := 458) (by decide +kernel)) (tw (i := 459) (by decide +kernel)) (tw (i := 73) (by decide +kernel)) (tw (i := 460) (by decide +kernel))) rfl rfl rfl (by decide +kernel) hR2) ⟨hr_blind, va_recv hK hP (ci := 0) (q := (RX0, TX0, 19)) (fs := objF0 G k (M.1 0 k)) (q0 := q0) rfl hq, fun U hU hW => ⟨rfl, by rw [hU]; exact hP, KK.warm hW X.2.2.2.2.2.1⟩⟩ rfl rfl hl.1 rfl (lv_room hst) d hC2) hS (fun q _ h => h) (fun q h => h) (fun r u t H1 locs1 ht hvm hw hB hz1 hk1 hS1 => k1 r u hw H1 locs1 ls (by rw [← ht]; exact hB.1) hS1 hl)
theorem jc_RX0_84 {G : GT} {E : ET} {cc : ByteArray} {nL pc : Nat} {rm : Room} {lv : List (Nat × Value)} {st : List Value} {M : Mm} (X : CX G E RX0 cc nL rm) (hR : 1 + 1 ≤ rm.frames ∧ 8 + (2 + 11) + 22 ≤ rm.locals) (hst : (st.map fun v => v.category).sum ≤ 8) (d : decode cc pc = .ok (.invokevirtual 84, 3)) {k : Nat} {a1 : Int32} (hk : k < 9) {P : Int32 → Mm → Prop} (h : wp_X0_hasClaim k a1 M P) (k1 : ∀ (r : Int32) (M2 : Mm), P r M2 → J G E nL (pc + 3) lv (.int r :: st) M2) : J G E nL pc lv (.int a1 :: .ref (adr G 0 k) :: st) M := fun H locs ls hP hS hl => by
  have hK := X.2.2.2.2.2.1.1
  have hm := met_X0_hasClaim (l := eL E) X.2.2.2.2.2.2.1 k a1 M P h
  have hR2 : 1 + 1 ≤ (eR E).frames ∧ 8 + (2 + 11) + 22 ≤ (eR E).locals := by rw [X.2.2.2.2.2.2.2.1]; exact hR
  have hC2 : eCells E + 0 ≤ (eR E).cells ∧ eSlots E + 0 ≤ (eR E).slots := by rw [X.2.2.2.2.2.2.2.1]; exact ⟨X.2.2.2.2.2.2.2.2.1, X.2.2.2.2.2.2.2.2.2⟩
  obtain ⟨q0, -, hq⟩ := wld_get (G := G) M (mw0 k hk)
  exact va_calli (va_runV (C := RX0) (As := [.int a1]) (rest := st) ⟨X.1, X.2.1, X.2.2.1, X.2.2.2.1, X.2.2.2.2.1⟩ hm (cwV (ws' := lw_aw) 1 X.2.2.2.2.1 (gwV (tw (i := 457) (by decide +kernel)) (tw (i := 458) (by decide +kernel)) (tw (i := 459) (by decide +kernel)) (tw (i := 73) (by decide +kernel)) (tw (i := 460) (by decide +kernel))) rfl rfl rfl (by decide +kernel) hR2) ⟨hr_blind, va_recv hK hP (ci := 0) (q := (RX0, TX0, 19)) (fs := objF0 G k (M.1 0 k)) (q0 := q0) rfl hq, fun U hU hW => ⟨rfl, by rw [hU]; exact hP, KK.warm hW X.2.2.2.2.2.1⟩⟩ rfl rfl hl.1 rfl (lv_room hst) d hC2) hS (fun q _ h => h) (fun q h => h) (fun r u t H1 locs1 ht hvm hw hB hz1 hk1 hS1 => k1 r u hw H1 locs1 ls (by rw [← ht]; exact hB.1) hS1 hl)
/-- LayeredClaims$Book.insertCover(IIII)I -/
def wp_X0_insertCover (k : Nat) (a1 : Int32) (a2 : Int32) (a3 : Int32) (a4 : Int32) (M : Mm) (P : Int32 → Mm → Prop) : Prop := (wp_X6_isWithin a1 (1 : Int32) (99999 : Int32) M (fun (r2 : Int32) (M1 : Mm) => ((r2 = 0 → P (-2 : Int32) M1) ∧ (¬ r2 = 0 → (wp_X6_isWithin a2 (1 : Int32) (99999 : Int32) M1 (fun (r5 : Int32) (M4 : Mm) => ((r5 = 0 → P (-2 : Int32) M4) ∧ (¬ r5 = 0 → (wp_X6_isWithin a3 (0 : Int32) (99999 : Int32) M4 (fun (r8 : Int32) (M7 : Mm) => ((r8 = 0 → P (-2 : Int32) M7) ∧ (¬ r8 = 0 → (wp_X6_isWithin a4 (0 : Int32) (2 : Int32) M7 (fun (r11 : Int32) (M10 : Mm) => ((¬ r11 = 0 → (k < 9 ∧ (((rd M10 0 k 0) < (6 : Int32) → (vp_in (rd M10 0 k 0) 6 ∧ (∀ M16 : Mm, M16 = wr M10 21 k (rd M10 0 k 0).toNatClampNeg a1 → (vp_in (rd M16 0 k 0) 6 ∧ (∀ M18 : Mm, M18 = wr M16 22 k (rd M16 0 k 0).toNatClampNeg a2 → (vp_in (rd M18 0 k 0) 6 ∧ (∀ M20 : Mm, M20 = wr M18 23 k (rd M18 0 k 0).toNatClampNeg a3 → (vp_in (rd M20 0 k 0) 6 ∧ (∀ M22 : Mm, M22 = wr M20 24 k (rd M20 0 k 0).toNatClampNeg a4 → (∀ M23 : Mm, M23 = wr M22 0 k 0 ((rd M22 0 k 0) + (1 : Int32)) → P ((rd M23 0 k 0) - (1 : Int32)) M23)))))))))) ∧ (¬ (rd M10 0 k 0) < (6 : Int32) → P (-3 : Int32) M10)))) ∧ (r11 = 0 → P (-2 : Int32) M10))))))))))))))))
set_option maxHeartbeats 4000000 in
set_option maxRecDepth 100000 in
theorem met_X0_insertCover {l : Launch} {G : GT} (hG : GD G) (k : Nat) (a1 : Int32) (a2 : Int32) (a3 : Int32) (a4 : Int32) (M : Mm) (P : Int32 → Mm → Prop) (h : wp_X0_insertCover k a1 a2 a3 a4 M P) : MI l G yX0_insertCover cX0_insertCover 5 (some .int) ({ frames := 1, cells := 0, slots := 0, locals := 22 } : Room) [.ref (adr G 0 k), .int a1, .int a2, .int a3, .int a4] M P := by
  refine met_by hG (own := RX0) rfl (by decide +kernel) (Nat.le_of_ble_eq_true rfl) (fun E hE X Y => ?_)
  show J G E 5 0 [(0, .ref (adr G 0 k)), (1, .int a1), (2, .int a2), (3, .int a3), (4, .int a4)] [] M
  unfold wp_X0_insertCover at h
  refine j_iload_n X 1 dX0_insertCover_0 rfl rfl ?_
  refine j_iconst (v := (1 : Int32)) X (by decide) dX0_insertCover_1 ?_
  refine j_ldc (v := (99999 : Int32)) X (tw (i := 397) (by decide +kernel)) dX0_insertCover_2 ?_
  refine jc_RX0_58 X ⟨Nat.le_of_ble_eq_true rfl, Nat.le_of_ble_eq_true rfl⟩ (Nat.le_of_ble_eq_true rfl) dX0_insertCover_4 h (fun r2 M1 h => ?_)
  refine j_if_eq X 40 dX0_insertCover_7 (by decide) (fun c3 => ?_) (fun c3 => ?_)
  · replace h := h.1 c3
    refine j_bipush (v := (-2 : Int32)) X (by decide) dX0_insertCover_40 ?_
    exact j_iret X Y dX0_insertCover_42 h
  · replace h := h.2 c3
    refine j_iload_n X 2 dX0_insertCover_10 rfl rfl ?_
    refine j_iconst (v := (1 : Int32)) X (by decide) dX0_insertCover_11 ?_
    refine j_ldc (v := (99999 : Int32)) X (tw (i := 397) (by decide +kernel)) dX0_insertCover_12 ?_
    refine jc_RX0_58 X ⟨Nat.le_of_ble_eq_true rfl, Nat.le_of_ble_eq_true rfl⟩ (Nat.le_of_ble_eq_true rfl) dX0_insertCover_14 h (fun r5 M4 h => ?_)
    refine j_if_eq X 40 dX0_insertCover_17 (by decide) (fun c6 => ?_) (fun c6 => ?_)
    · replace h := h.1 c6
      refine j_bipush (v := (-2 : Int32)) X (by decide) dX0_insertCover_40 ?_
      exact j_iret X Y dX0_insertCover_42 h
    · replace h := h.2 c6
      refine j_iload_n X 3 dX0_insertCover_20 rfl rfl ?_
      refine j_iconst (v := (0 : Int32)) X (by decide) dX0_insertCover_21 ?_
      refine j_ldc (v := (99999 : Int32)) X (tw (i := 397) (by decide +kernel)) dX0_insertCover_22 ?_
      refine jc_RX0_58 X ⟨Nat.le_of_ble_eq_true rfl, Nat.le_of_ble_eq_true rfl⟩ (Nat.le_of_ble_eq_true rfl) dX0_insertCover_24 h (fun r8 M7 h => ?_)
      refine j_if_eq X 40 dX0_insertCover_27 (by decide) (fun c9 => ?_) (fun c9 => ?_)
      · replace h := h.1 c9
        refine j_bipush (v := (-2 : Int32)) X (by decide) dX0_insertCover_40 ?_
        exact j_iret X Y dX0_insertCover_42 h
      · replace h := h.2 c9
        refine j_iload X 4 dX0_insertCover_30 rfl ?_
        refine j_iconst (v := (0 : Int32)) X (by decide) dX0_insertCover_32 ?_
        refine j_iconst (v := (2 : Int32)) X (by decide) dX0_insertCover_33 ?_
        refine jc_RX0_58 X ⟨Nat.le_of_ble_eq_true rfl, Nat.le_of_ble_eq_true rfl⟩ (Nat.le_of_ble_eq_true rfl) dX0_insertCover_34 h (fun r11 M10 h => ?_)
        refine j_if_ne X 43 dX0_insertCover_37 (by decide) (fun c12 => ?_) (fun c12 => ?_)
        · replace h := h.1 c12
          refine j_aload_n X 0 dX0_insertCover_43 rfl rfl ?_
          have q13 := h.1
          replace h := h.2
          refine jf_RX0_54 X q13 dX0_insertCover_44 ?_
          refine j_bipush (v := (6 : Int32)) X (by decide) dX0_insertCover_47 ?_
          refine j_icmp_lt X 55 dX0_insertCover_49 (by decide) (fun c14 => ?_) (fun c14 => ?_)
          · replace h := h.1 c14
            refine j_aload_n X 0 dX0_insertCover_55 rfl rfl ?_
            refine jf_RX0_9 X q13 dX0_insertCover_56 ?_
            refine j_aload_n X 0 dX0_insertCover_59 rfl rfl ?_
            refine jf_RX0_54 X q13 dX0_insertCover_60 ?_
            refine j_iload_n X 1 dX0_insertCover_63 rfl rfl ?_
            have q15 := h.1
            replace h := h.2
            refine j_iast X _ rfl (mw21 k q13) kt21 lt21 q15 dX0_insertCover_64 ?_
            refine j_memo (fun M16 eM16 => ?_)
            replace h := h M16 eM16
            refine j_aload_n X 0 dX0_insertCover_65 rfl rfl ?_
            refine jf_RX0_15 X q13 dX0_insertCover_66 ?_
            refine j_aload_n X 0 dX0_insertCover_69 rfl rfl ?_
            refine jf_RX0_54 X q13 dX0_insertCover_70 ?_
            refine j_iload_n X 2 dX0_insertCover_73 rfl rfl ?_
            have q17 := h.1
            replace h := h.2
            refine j_iast X _ rfl (mw22 k q13) kt22 lt22 q17 dX0_insertCover_74 ?_
            refine j_memo (fun M18 eM18 => ?_)
            replace h := h M18 eM18
            refine j_aload_n X 0 dX0_insertCover_75 rfl rfl ?_
            refine jf_RX0_18 X q13 dX0_insertCover_76 ?_
            refine j_aload_n X 0 dX0_insertCover_79 rfl rfl ?_
            refine jf_RX0_54 X q13 dX0_insertCover_80 ?_
            refine j_iload_n X 3 dX0_insertCover_83 rfl rfl ?_
            have q19 := h.1
            replace h := h.2
            refine j_iast X _ rfl (mw23 k q13) kt23 lt23 q19 dX0_insertCover_84 ?_
            refine j_memo (fun M20 eM20 => ?_)
            replace h := h M20 eM20
            refine j_aload_n X 0 dX0_insertCover_85 rfl rfl ?_
            refine jf_RX0_21 X q13 dX0_insertCover_86 ?_
            refine j_aload_n X 0 dX0_insertCover_89 rfl rfl ?_
            refine jf_RX0_54 X q13 dX0_insertCover_90 ?_
            refine j_iload X 4 dX0_insertCover_93 rfl ?_
            have q21 := h.1
            replace h := h.2
            refine j_iast X _ rfl (mw24 k q13) kt24 lt24 q21 dX0_insertCover_95 ?_
            refine j_memo (fun M22 eM22 => ?_)
            replace h := h M22 eM22
            refine j_aload_n X 0 dX0_insertCover_96 rfl rfl ?_
            refine j_dup X rfl dX0_insertCover_97 ?_
            refine jf_RX0_54 X q13 dX0_insertCover_98 ?_
            refine j_iconst (v := (1 : Int32)) X (by decide) dX0_insertCover_101 ?_
            refine j_iadd X dX0_insertCover_102 ?_
            refine jp_RX0_54 X q13  dX0_insertCover_103 ?_
            refine j_memo (fun M23 eM23 => ?_)
            replace h := h M23 eM23
            refine j_aload_n X 0 dX0_insertCover_106 rfl rfl ?_
            refine jf_RX0_54 X q13 dX0_insertCover_107 ?_
            refine j_iconst (v := (1 : Int32)) X (by decide) dX0_insertCover_110 ?_
            refine j_isub X dX0_insertCover_111 ?_
            exact j_iret X Y dX0_insertCover_112 h
          · replace h := h.2 c14
            refine j_bipush (v := (-3 : Int32)) X (by decide) dX0_insertCover_52 ?_
            exact j_iret X Y dX0_insertCover_54 h
        · replace h := h.2 c12
          refine j_bipush (v := (-2 : Int32)) X (by decide) dX0_insertCover_40 ?_
          exact j_iret X Y dX0_insertCover_42 h
theorem jc_RX6_56 {G : GT} {E : ET} {cc : ByteArray} {nL pc : Nat} {rm : Room} {lv : List (Nat × Value)} {st : List Value} {M : Mm} (X : CX G E RX6 cc nL rm) (hR : 1 + 1 ≤ rm.frames ∧ 8 + (5 + 11) + 22 ≤ rm.locals) (hst : (st.map fun v => v.category).sum ≤ 8) (d : decode cc pc = .ok (.invokevirtual 56, 3)) {k : Nat} {a1 : Int32} {a2 : Int32} {a3 : Int32} {a4 : Int32} (hk : k < 9) {P : Int32 → Mm → Prop} (h : wp_X0_insertCover k a1 a2 a3 a4 M P) (k1 : ∀ (r : Int32) (M2 : Mm), P r M2 → J G E nL (pc + 3) lv (.int r :: st) M2) : J G E nL pc lv (.int a4 :: .int a3 :: .int a2 :: .int a1 :: .ref (adr G 0 k) :: st) M := fun H locs ls hP hS hl => by
  have hK := X.2.2.2.2.2.1.1
  have hm := met_X0_insertCover (l := eL E) X.2.2.2.2.2.2.1 k a1 a2 a3 a4 M P h
  have hR2 : 1 + 1 ≤ (eR E).frames ∧ 8 + (5 + 11) + 22 ≤ (eR E).locals := by rw [X.2.2.2.2.2.2.2.1]; exact hR
  have hC2 : eCells E + 0 ≤ (eR E).cells ∧ eSlots E + 0 ≤ (eR E).slots := by rw [X.2.2.2.2.2.2.2.1]; exact ⟨X.2.2.2.2.2.2.2.2.1, X.2.2.2.2.2.2.2.2.2⟩
  obtain ⟨q0, -, hq⟩ := wld_get (G := G) M (mw0 k hk)
  exact va_calli (va_runV (C := RX0) (As := [.int a1, .int a2, .int a3, .int a4]) (rest := st) ⟨X.1, X.2.1, X.2.2.1, X.2.2.2.1, X.2.2.2.2.1⟩ hm (cwV (ws' := lw_aw) 4 X.2.2.2.2.1 (gwV (tw (i := 393) (by decide +kernel)) (tw (i := 394) (by decide +kernel)) (tw (i := 395) (by decide +kernel)) (tw (i := 73) (by decide +kernel)) (tw (i := 396) (by decide +kernel))) rfl rfl rfl (by decide +kernel) hR2) ⟨hr_blind, va_recv hK hP (ci := 0) (q := (RX0, TX0, 19)) (fs := objF0 G k (M.1 0 k)) (q0 := q0) rfl hq, fun U hU hW => ⟨rfl, by rw [hU]; exact hP, KK.warm hW X.2.2.2.2.2.1⟩⟩ rfl rfl hl.1 rfl (lv_room hst) d hC2) hS (fun q _ h => h) (fun q h => h) (fun r u t H1 locs1 ht hvm hw hB hz1 hk1 hS1 => k1 r u hw H1 locs1 ls (by rw [← ht]; exact hB.1) hS1 hl)
/-- LayeredClaims$Book.endOfLayers()I -/
def wp_X0_endOfLayers (k : Nat) (M : Mm) (P : Int32 → Mm → Prop) : Prop := (k < 9 ∧ ((¬ (rd M 0 k 5) = 0 → (vp_in ((rd M 0 k 5) - (1 : Int32)) 4 ∧ P ((rd M 26 k ((rd M 0 k 5) - (1 : Int32)).toNatClampNeg) + (rd M 27 k ((rd M 0 k 5) - (1 : Int32)).toNatClampNeg)) M)) ∧ ((rd M 0 k 5) = 0 → P (0 : Int32) M)))
set_option maxHeartbeats 4000000 in
set_option maxRecDepth 100000 in
theorem met_X0_endOfLayers {l : Launch} {G : GT} (hG : GD G) (k : Nat) (M : Mm) (P : Int32 → Mm → Prop) (h : wp_X0_endOfLayers k M P) : MI l G yX0_endOfLayers cX0_endOfLayers 1 (some .int) ({ frames := 0, cells := 0, slots := 0, locals := 0 } : Room) [.ref (adr G 0 k)] M P := by
  refine met_by hG (own := RX0) rfl (by decide +kernel) (Nat.le_of_ble_eq_true rfl) (fun E hE X Y => ?_)
  show J G E 1 0 [(0, .ref (adr G 0 k))] [] M
  unfold wp_X0_endOfLayers at h
  refine j_aload_n X 0 dX0_endOfLayers_0 rfl rfl ?_
  have q1 := h.1
  replace h := h.2
  refine jf_RX0_62 X q1 dX0_endOfLayers_1 ?_
  refine j_if_ne X 11 dX0_endOfLayers_4 (by decide) (fun c2 => ?_) (fun c2 => ?_)
  · replace h := h.1 c2
    refine j_aload_n X 0 dX0_endOfLayers_11 rfl rfl ?_
    refine jf_RX0_24 X q1 dX0_endOfLayers_12 ?_
    refine j_aload_n X 0 dX0_endOfLayers_15 rfl rfl ?_
    refine jf_RX0_62 X q1 dX0_endOfLayers_16 ?_
    refine j_iconst (v := (1 : Int32)) X (by decide) dX0_endOfLayers_19 ?_
    refine j_isub X dX0_endOfLayers_20 ?_
    have q3 := h.1
    replace h := h.2
    refine j_iald X _ rfl (mw26 k q1) kt26 lt26 q3 dX0_endOfLayers_21 ?_
    refine j_aload_n X 0 dX0_endOfLayers_22 rfl rfl ?_
    refine jf_RX0_27 X q1 dX0_endOfLayers_23 ?_
    refine j_aload_n X 0 dX0_endOfLayers_26 rfl rfl ?_
    refine jf_RX0_62 X q1 dX0_endOfLayers_27 ?_
    refine j_iconst (v := (1 : Int32)) X (by decide) dX0_endOfLayers_30 ?_
    refine j_isub X dX0_endOfLayers_31 ?_
    refine j_iald X _ rfl (mw27 k q1) kt27 lt27 q3 dX0_endOfLayers_32 ?_
    refine j_iadd X dX0_endOfLayers_33 ?_
    exact j_iret X Y dX0_endOfLayers_34 h
  · replace h := h.2 c2
    refine j_iconst (v := (0 : Int32)) X (by decide) dX0_endOfLayers_7 ?_
    refine j_goto X 34 dX0_endOfLayers_8 (by decide) ?_
    exact j_iret X Y dX0_endOfLayers_34 h
theorem jc_RX0_73 {G : GT} {E : ET} {cc : ByteArray} {nL pc : Nat} {rm : Room} {lv : List (Nat × Value)} {st : List Value} {M : Mm} (X : CX G E RX0 cc nL rm) (hR : 0 + 1 ≤ rm.frames ∧ 8 + (1 + 11) + 0 ≤ rm.locals) (hst : (st.map fun v => v.category).sum ≤ 8) (d : decode cc pc = .ok (.invokevirtual 73, 3)) {k : Nat} (hk : k < 9) {P : Int32 → Mm → Prop} (h : wp_X0_endOfLayers k M P) (k1 : ∀ (r : Int32) (M2 : Mm), P r M2 → J G E nL (pc + 3) lv (.int r :: st) M2) : J G E nL pc lv (.ref (adr G 0 k) :: st) M := fun H locs ls hP hS hl => by
  have hK := X.2.2.2.2.2.1.1
  have hm := met_X0_endOfLayers (l := eL E) X.2.2.2.2.2.2.1 k M P h
  have hR2 : 0 + 1 ≤ (eR E).frames ∧ 8 + (1 + 11) + 0 ≤ (eR E).locals := by rw [X.2.2.2.2.2.2.2.1]; exact hR
  have hC2 : eCells E + 0 ≤ (eR E).cells ∧ eSlots E + 0 ≤ (eR E).slots := by rw [X.2.2.2.2.2.2.2.1]; exact ⟨X.2.2.2.2.2.2.2.2.1, X.2.2.2.2.2.2.2.2.2⟩
  obtain ⟨q0, -, hq⟩ := wld_get (G := G) M (mw0 k hk)
  exact va_calli (va_runV (C := RX0) (As := []) (rest := st) ⟨X.1, X.2.1, X.2.2.1, X.2.2.2.1, X.2.2.2.2.1⟩ hm (cwV (ws' := lw_aw) 0 X.2.2.2.2.1 (gwV (tw (i := 421) (by decide +kernel)) (tw (i := 423) (by decide +kernel)) (tw (i := 1) (by decide +kernel)) (tw (i := 73) (by decide +kernel)) (tw (i := 424) (by decide +kernel))) rfl rfl rfl (by decide +kernel) hR2) ⟨hr_blind, va_recv hK hP (ci := 0) (q := (RX0, TX0, 19)) (fs := objF0 G k (M.1 0 k)) (q0 := q0) rfl hq, fun U hU hW => ⟨rfl, by rw [hU]; exact hP, KK.warm hW X.2.2.2.2.2.1⟩⟩ rfl rfl hl.1 rfl (lv_room hst) d hC2) hS (fun q _ h => h) (fun q h => h) (fun r u t H1 locs1 ht hvm hw hB hz1 hk1 hS1 => k1 r u hw H1 locs1 ls (by rw [← ht]; exact hB.1) hS1 hl)
/-- LayeredClaims$Book.insertLayer(IIII)I -/
def wp_X0_insertLayer (k : Nat) (a1 : Int32) (a2 : Int32) (a3 : Int32) (a4 : Int32) (M : Mm) (P : Int32 → Mm → Prop) : Prop := (wp_X6_isWithin a1 (0 : Int32) (999999 : Int32) M (fun (r2 : Int32) (M1 : Mm) => ((r2 = 0 → P (-2 : Int32) M1) ∧ (¬ r2 = 0 → (wp_X6_isWithin a2 (1 : Int32) (99999 : Int32) M1 (fun (r5 : Int32) (M4 : Mm) => ((r5 = 0 → P (-2 : Int32) M4) ∧ (¬ r5 = 0 → (wp_X6_isWithin a3 (0 : Int32) (99999 : Int32) M4 (fun (r8 : Int32) (M7 : Mm) => ((r8 = 0 → P (-2 : Int32) M7) ∧ (¬ r8 = 0 → (wp_X6_isWithin a4 (0 : Int32) (3 : Int32) M7 (fun (r11 : Int32) (M10 : Mm) => ((¬ r11 = 0 → (k < 9 ∧ (wp_X0_endOfLayers k M10 (fun (r15 : Int32) (M14 : Mm) => ((r15 ≤ a1 → (((rd M14 0 k 5) < (4 : Int32) → (vp_in (rd M14 0 k 5) 4 ∧ (∀ M19 : Mm, M19 = wr M14 26 k (rd M14 0 k 5).toNatClampNeg a1 → (vp_in (rd M19 0 k 5) 4 ∧ (∀ M21 : Mm, M21 = wr M19 27 k (rd M19 0 k 5).toNatClampNeg a2 → (vp_in (rd M21 0 k 5) 4 ∧ (∀ M23 : Mm, M23 = wr M21 28 k (rd M21 0 k 5).toNatClampNeg a3 → (vp_in (rd M23 0 k 5) 4 ∧ (∀ M25 : Mm, M25 = wr M23 29 k (rd M23 0 k 5).toNatClampNeg a4 → (∀ M26 : Mm, M26 = wr M25 0 k 5 ((rd M25 0 k 5) + (1 : Int32)) → P ((rd M26 0 k 5) - (1 : Int32)) M26)))))))))) ∧ (¬ (rd M14 0 k 5) < (4 : Int32) → P (-3 : Int32) M14))) ∧ (¬ r15 ≤ a1 → P (-5 : Int32) M14)))))) ∧ (r11 = 0 → P (-2 : Int32) M10))))))))))))))))
set_option maxHeartbeats 4000000 in
set_option maxRecDepth 100000 in
theorem met_X0_insertLayer {l : Launch} {G : GT} (hG : GD G) (k : Nat) (a1 : Int32) (a2 : Int32) (a3 : Int32) (a4 : Int32) (M : Mm) (P : Int32 → Mm → Prop) (h : wp_X0_insertLayer k a1 a2 a3 a4 M P) : MI l G yX0_insertLayer cX0_insertLayer 5 (some .int) ({ frames := 1, cells := 0, slots := 0, locals := 22 } : Room) [.ref (adr G 0 k), .int a1, .int a2, .int a3, .int a4] M P := by
  refine met_by hG (own := RX0) rfl (by decide +kernel) (Nat.le_of_ble_eq_true rfl) (fun E hE X Y => ?_)
  show J G E 5 0 [(0, .ref (adr G 0 k)), (1, .int a1), (2, .int a2), (3, .int a3), (4, .int a4)] [] M
  unfold wp_X0_insertLayer at h
  refine j_iload_n X 1 dX0_insertLayer_0 rfl rfl ?_
  refine j_iconst (v := (0 : Int32)) X (by decide) dX0_insertLayer_1 ?_
  refine j_ldc (v := (999999 : Int32)) X (tw (i := 420) (by decide +kernel)) dX0_insertLayer_2 ?_
  refine jc_RX0_58 X ⟨Nat.le_of_ble_eq_true rfl, Nat.le_of_ble_eq_true rfl⟩ (Nat.le_of_ble_eq_true rfl) dX0_insertLayer_4 h (fun r2 M1 h => ?_)
  refine j_if_eq X 40 dX0_insertLayer_7 (by decide) (fun c3 => ?_) (fun c3 => ?_)
  · replace h := h.1 c3
    refine j_bipush (v := (-2 : Int32)) X (by decide) dX0_insertLayer_40 ?_
    exact j_iret X Y dX0_insertLayer_42 h
  · replace h := h.2 c3
    refine j_iload_n X 2 dX0_insertLayer_10 rfl rfl ?_
    refine j_iconst (v := (1 : Int32)) X (by decide) dX0_insertLayer_11 ?_
    refine j_ldc (v := (99999 : Int32)) X (tw (i := 397) (by decide +kernel)) dX0_insertLayer_12 ?_
    refine jc_RX0_58 X ⟨Nat.le_of_ble_eq_true rfl, Nat.le_of_ble_eq_true rfl⟩ (Nat.le_of_ble_eq_true rfl) dX0_insertLayer_14 h (fun r5 M4 h => ?_)
    refine j_if_eq X 40 dX0_insertLayer_17 (by decide) (fun c6 => ?_) (fun c6 => ?_)
    · replace h := h.1 c6
      refine j_bipush (v := (-2 : Int32)) X (by decide) dX0_insertLayer_40 ?_
      exact j_iret X Y dX0_insertLayer_42 h
    · replace h := h.2 c6
      refine j_iload_n X 3 dX0_insertLayer_20 rfl rfl ?_
      refine j_iconst (v := (0 : Int32)) X (by decide) dX0_insertLayer_21 ?_
      refine j_ldc (v := (99999 : Int32)) X (tw (i := 397) (by decide +kernel)) dX0_insertLayer_22 ?_
      refine jc_RX0_58 X ⟨Nat.le_of_ble_eq_true rfl, Nat.le_of_ble_eq_true rfl⟩ (Nat.le_of_ble_eq_true rfl) dX0_insertLayer_24 h (fun r8 M7 h => ?_)
      refine j_if_eq X 40 dX0_insertLayer_27 (by decide) (fun c9 => ?_) (fun c9 => ?_)
      · replace h := h.1 c9
        refine j_bipush (v := (-2 : Int32)) X (by decide) dX0_insertLayer_40 ?_
        exact j_iret X Y dX0_insertLayer_42 h
      · replace h := h.2 c9
        refine j_iload X 4 dX0_insertLayer_30 rfl ?_
        refine j_iconst (v := (0 : Int32)) X (by decide) dX0_insertLayer_32 ?_
        refine j_iconst (v := (3 : Int32)) X (by decide) dX0_insertLayer_33 ?_
        refine jc_RX0_58 X ⟨Nat.le_of_ble_eq_true rfl, Nat.le_of_ble_eq_true rfl⟩ (Nat.le_of_ble_eq_true rfl) dX0_insertLayer_34 h (fun r11 M10 h => ?_)
        refine j_if_ne X 43 dX0_insertLayer_37 (by decide) (fun c12 => ?_) (fun c12 => ?_)
        · replace h := h.1 c12
          refine j_iload_n X 1 dX0_insertLayer_43 rfl rfl ?_
          refine j_aload_n X 0 dX0_insertLayer_44 rfl rfl ?_
          have q13 := h.1
          replace h := h.2
          refine jc_RX0_73 X ⟨Nat.le_of_ble_eq_true rfl, Nat.le_of_ble_eq_true rfl⟩ (Nat.le_of_ble_eq_true rfl) dX0_insertLayer_45 q13 h (fun r15 M14 h => ?_)
          refine j_icmp_ge X 54 dX0_insertLayer_48 (by decide) (fun c16 => ?_) (fun c16 => ?_)
          · replace h := h.1 c16
            refine j_aload_n X 0 dX0_insertLayer_54 rfl rfl ?_
            refine jf_RX0_62 X q13 dX0_insertLayer_55 ?_
            refine j_iconst (v := (4 : Int32)) X (by decide) dX0_insertLayer_58 ?_
            refine j_icmp_lt X 65 dX0_insertLayer_59 (by decide) (fun c17 => ?_) (fun c17 => ?_)
            · replace h := h.1 c17
              refine j_aload_n X 0 dX0_insertLayer_65 rfl rfl ?_
              refine jf_RX0_24 X q13 dX0_insertLayer_66 ?_
              refine j_aload_n X 0 dX0_insertLayer_69 rfl rfl ?_
              refine jf_RX0_62 X q13 dX0_insertLayer_70 ?_
              refine j_iload_n X 1 dX0_insertLayer_73 rfl rfl ?_
              have q18 := h.1
              replace h := h.2
              refine j_iast X _ rfl (mw26 k q13) kt26 lt26 q18 dX0_insertLayer_74 ?_
              refine j_memo (fun M19 eM19 => ?_)
              replace h := h M19 eM19
              refine j_aload_n X 0 dX0_insertLayer_75 rfl rfl ?_
              refine jf_RX0_27 X q13 dX0_insertLayer_76 ?_
              refine j_aload_n X 0 dX0_insertLayer_79 rfl rfl ?_
              refine jf_RX0_62 X q13 dX0_insertLayer_80 ?_
              refine j_iload_n X 2 dX0_insertLayer_83 rfl rfl ?_
              have q20 := h.1
              replace h := h.2
              refine j_iast X _ rfl (mw27 k q13) kt27 lt27 q20 dX0_insertLayer_84 ?_
              refine j_memo (fun M21 eM21 => ?_)
              replace h := h M21 eM21
              refine j_aload_n X 0 dX0_insertLayer_85 rfl rfl ?_
              refine jf_RX0_30 X q13 dX0_insertLayer_86 ?_
              refine j_aload_n X 0 dX0_insertLayer_89 rfl rfl ?_
              refine jf_RX0_62 X q13 dX0_insertLayer_90 ?_
              refine j_iload_n X 3 dX0_insertLayer_93 rfl rfl ?_
              have q22 := h.1
              replace h := h.2
              refine j_iast X _ rfl (mw28 k q13) kt28 lt28 q22 dX0_insertLayer_94 ?_
              refine j_memo (fun M23 eM23 => ?_)
              replace h := h M23 eM23
              refine j_aload_n X 0 dX0_insertLayer_95 rfl rfl ?_
              refine jf_RX0_33 X q13 dX0_insertLayer_96 ?_
              refine j_aload_n X 0 dX0_insertLayer_99 rfl rfl ?_
              refine jf_RX0_62 X q13 dX0_insertLayer_100 ?_
              refine j_iload X 4 dX0_insertLayer_103 rfl ?_
              have q24 := h.1
              replace h := h.2
              refine j_iast X _ rfl (mw29 k q13) kt29 lt29 q24 dX0_insertLayer_105 ?_
              refine j_memo (fun M25 eM25 => ?_)
              replace h := h M25 eM25
              refine j_aload_n X 0 dX0_insertLayer_106 rfl rfl ?_
              refine j_dup X rfl dX0_insertLayer_107 ?_
              refine jf_RX0_62 X q13 dX0_insertLayer_108 ?_
              refine j_iconst (v := (1 : Int32)) X (by decide) dX0_insertLayer_111 ?_
              refine j_iadd X dX0_insertLayer_112 ?_
              refine jp_RX0_62 X q13  dX0_insertLayer_113 ?_
              refine j_memo (fun M26 eM26 => ?_)
              replace h := h M26 eM26
              refine j_aload_n X 0 dX0_insertLayer_116 rfl rfl ?_
              refine jf_RX0_62 X q13 dX0_insertLayer_117 ?_
              refine j_iconst (v := (1 : Int32)) X (by decide) dX0_insertLayer_120 ?_
              refine j_isub X dX0_insertLayer_121 ?_
              exact j_iret X Y dX0_insertLayer_122 h
            · replace h := h.2 c17
              refine j_bipush (v := (-3 : Int32)) X (by decide) dX0_insertLayer_62 ?_
              exact j_iret X Y dX0_insertLayer_64 h
          · replace h := h.2 c16
            refine j_bipush (v := (-5 : Int32)) X (by decide) dX0_insertLayer_51 ?_
            exact j_iret X Y dX0_insertLayer_53 h
        · replace h := h.2 c12
          refine j_bipush (v := (-2 : Int32)) X (by decide) dX0_insertLayer_40 ?_
          exact j_iret X Y dX0_insertLayer_42 h
theorem jc_RX6_64 {G : GT} {E : ET} {cc : ByteArray} {nL pc : Nat} {rm : Room} {lv : List (Nat × Value)} {st : List Value} {M : Mm} (X : CX G E RX6 cc nL rm) (hR : 1 + 1 ≤ rm.frames ∧ 8 + (5 + 11) + 22 ≤ rm.locals) (hst : (st.map fun v => v.category).sum ≤ 8) (d : decode cc pc = .ok (.invokevirtual 64, 3)) {k : Nat} {a1 : Int32} {a2 : Int32} {a3 : Int32} {a4 : Int32} (hk : k < 9) {P : Int32 → Mm → Prop} (h : wp_X0_insertLayer k a1 a2 a3 a4 M P) (k1 : ∀ (r : Int32) (M2 : Mm), P r M2 → J G E nL (pc + 3) lv (.int r :: st) M2) : J G E nL pc lv (.int a4 :: .int a3 :: .int a2 :: .int a1 :: .ref (adr G 0 k) :: st) M := fun H locs ls hP hS hl => by
  have hK := X.2.2.2.2.2.1.1
  have hm := met_X0_insertLayer (l := eL E) X.2.2.2.2.2.2.1 k a1 a2 a3 a4 M P h
  have hR2 : 1 + 1 ≤ (eR E).frames ∧ 8 + (5 + 11) + 22 ≤ (eR E).locals := by rw [X.2.2.2.2.2.2.2.1]; exact hR
  have hC2 : eCells E + 0 ≤ (eR E).cells ∧ eSlots E + 0 ≤ (eR E).slots := by rw [X.2.2.2.2.2.2.2.1]; exact ⟨X.2.2.2.2.2.2.2.2.1, X.2.2.2.2.2.2.2.2.2⟩
  obtain ⟨q0, -, hq⟩ := wld_get (G := G) M (mw0 k hk)
  exact va_calli (va_runV (C := RX0) (As := [.int a1, .int a2, .int a3, .int a4]) (rest := st) ⟨X.1, X.2.1, X.2.2.1, X.2.2.2.1, X.2.2.2.2.1⟩ hm (cwV (ws' := lw_aw) 4 X.2.2.2.2.1 (gwV (tw (i := 416) (by decide +kernel)) (tw (i := 417) (by decide +kernel)) (tw (i := 418) (by decide +kernel)) (tw (i := 73) (by decide +kernel)) (tw (i := 419) (by decide +kernel))) rfl rfl rfl (by decide +kernel) hR2) ⟨hr_blind, va_recv hK hP (ci := 0) (q := (RX0, TX0, 19)) (fs := objF0 G k (M.1 0 k)) (q0 := q0) rfl hq, fun U hU hW => ⟨rfl, by rw [hU]; exact hP, KK.warm hW X.2.2.2.2.2.1⟩⟩ rfl rfl hl.1 rfl (lv_room hst) d hC2) hS (fun q _ h => h) (fun q h => h) (fun r u t H1 locs1 ht hvm hw hB hz1 hk1 hS1 => k1 r u hw H1 locs1 ls (by rw [← ht]; exact hB.1) hS1 hl)
/-- LayeredClaims$Book.insertEvent(I)I -/
def wp_X0_insertEvent (k : Nat) (a1 : Int32) (M : Mm) (P : Int32 → Mm → Prop) : Prop := (wp_X6_isWithin a1 (0 : Int32) (364 : Int32) M (fun (r2 : Int32) (M1 : Mm) => ((¬ r2 = 0 → (k < 9 ∧ (((rd M1 0 k 12) < (8 : Int32) → (vp_in (rd M1 0 k 12) 8 ∧ (∀ M7 : Mm, M7 = wr M1 33 k (rd M1 0 k 12).toNatClampNeg a1 → (vp_in (rd M7 0 k 12) 8 ∧ (∀ M9 : Mm, M9 = wr M7 34 k (rd M7 0 k 12).toNatClampNeg (0 : Int32) → (∀ M10 : Mm, M10 = wr M9 0 k 12 ((rd M9 0 k 12) + (1 : Int32)) → P ((rd M10 0 k 12) - (1 : Int32)) M10)))))) ∧ (¬ (rd M1 0 k 12) < (8 : Int32) → P (-3 : Int32) M1)))) ∧ (r2 = 0 → P (-2 : Int32) M1))))
set_option maxHeartbeats 4000000 in
set_option maxRecDepth 100000 in
theorem met_X0_insertEvent {l : Launch} {G : GT} (hG : GD G) (k : Nat) (a1 : Int32) (M : Mm) (P : Int32 → Mm → Prop) (h : wp_X0_insertEvent k a1 M P) : MI l G yX0_insertEvent cX0_insertEvent 2 (some .int) ({ frames := 1, cells := 0, slots := 0, locals := 22 } : Room) [.ref (adr G 0 k), .int a1] M P := by
  refine met_by hG (own := RX0) rfl (by decide +kernel) (Nat.le_of_ble_eq_true rfl) (fun E hE X Y => ?_)
  show J G E 2 0 [(0, .ref (adr G 0 k)), (1, .int a1)] [] M
  unfold wp_X0_insertEvent at h
  refine j_iload_n X 1 dX0_insertEvent_0 rfl rfl ?_
  refine j_iconst (v := (0 : Int32)) X (by decide) dX0_insertEvent_1 ?_
  refine j_sipush (v := (364 : Int32)) X (by decide) dX0_insertEvent_2 ?_
  refine jc_RX0_58 X ⟨Nat.le_of_ble_eq_true rfl, Nat.le_of_ble_eq_true rfl⟩ (Nat.le_of_ble_eq_true rfl) dX0_insertEvent_5 h (fun r2 M1 h => ?_)
  refine j_if_ne X 14 dX0_insertEvent_8 (by decide) (fun c3 => ?_) (fun c3 => ?_)
  · replace h := h.1 c3
    refine j_aload_n X 0 dX0_insertEvent_14 rfl rfl ?_
    have q4 := h.1
    replace h := h.2
    refine jf_RX0_65 X q4 dX0_insertEvent_15 ?_
    refine j_bipush (v := (8 : Int32)) X (by decide) dX0_insertEvent_18 ?_
    refine j_icmp_lt X 26 dX0_insertEvent_20 (by decide) (fun c5 => ?_) (fun c5 => ?_)
    · replace h := h.1 c5
      refine j_aload_n X 0 dX0_insertEvent_26 rfl rfl ?_
      refine jf_RX0_39 X q4 dX0_insertEvent_27 ?_
      refine j_aload_n X 0 dX0_insertEvent_30 rfl rfl ?_
      refine jf_RX0_65 X q4 dX0_insertEvent_31 ?_
      refine j_iload_n X 1 dX0_insertEvent_34 rfl rfl ?_
      have q6 := h.1
      replace h := h.2
      refine j_iast X _ rfl (mw33 k q4) kt33 lt33 q6 dX0_insertEvent_35 ?_
      refine j_memo (fun M7 eM7 => ?_)
      replace h := h M7 eM7
      refine j_aload_n X 0 dX0_insertEvent_36 rfl rfl ?_
      refine jf_RX0_42 X q4 dX0_insertEvent_37 ?_
      refine j_aload_n X 0 dX0_insertEvent_40 rfl rfl ?_
      refine jf_RX0_65 X q4 dX0_insertEvent_41 ?_
      refine j_iconst (v := (0 : Int32)) X (by decide) dX0_insertEvent_44 ?_
      have q8 := h.1
      replace h := h.2
      refine j_iast X _ rfl (mw34 k q4) kt34 lt34 q8 dX0_insertEvent_45 ?_
      refine j_memo (fun M9 eM9 => ?_)
      replace h := h M9 eM9
      refine j_aload_n X 0 dX0_insertEvent_46 rfl rfl ?_
      refine j_dup X rfl dX0_insertEvent_47 ?_
      refine jf_RX0_65 X q4 dX0_insertEvent_48 ?_
      refine j_iconst (v := (1 : Int32)) X (by decide) dX0_insertEvent_51 ?_
      refine j_iadd X dX0_insertEvent_52 ?_
      refine jp_RX0_65 X q4  dX0_insertEvent_53 ?_
      refine j_memo (fun M10 eM10 => ?_)
      replace h := h M10 eM10
      refine j_aload_n X 0 dX0_insertEvent_56 rfl rfl ?_
      refine jf_RX0_65 X q4 dX0_insertEvent_57 ?_
      refine j_iconst (v := (1 : Int32)) X (by decide) dX0_insertEvent_60 ?_
      refine j_isub X dX0_insertEvent_61 ?_
      exact j_iret X Y dX0_insertEvent_62 h
    · replace h := h.2 c5
      refine j_bipush (v := (-3 : Int32)) X (by decide) dX0_insertEvent_23 ?_
      exact j_iret X Y dX0_insertEvent_25 h
  · replace h := h.2 c3
    refine j_bipush (v := (-2 : Int32)) X (by decide) dX0_insertEvent_11 ?_
    exact j_iret X Y dX0_insertEvent_13 h
theorem jc_RX6_67 {G : GT} {E : ET} {cc : ByteArray} {nL pc : Nat} {rm : Room} {lv : List (Nat × Value)} {st : List Value} {M : Mm} (X : CX G E RX6 cc nL rm) (hR : 1 + 1 ≤ rm.frames ∧ 8 + (2 + 11) + 22 ≤ rm.locals) (hst : (st.map fun v => v.category).sum ≤ 8) (d : decode cc pc = .ok (.invokevirtual 67, 3)) {k : Nat} {a1 : Int32} (hk : k < 9) {P : Int32 → Mm → Prop} (h : wp_X0_insertEvent k a1 M P) (k1 : ∀ (r : Int32) (M2 : Mm), P r M2 → J G E nL (pc + 3) lv (.int r :: st) M2) : J G E nL pc lv (.int a1 :: .ref (adr G 0 k) :: st) M := fun H locs ls hP hS hl => by
  have hK := X.2.2.2.2.2.1.1
  have hm := met_X0_insertEvent (l := eL E) X.2.2.2.2.2.2.1 k a1 M P h
  have hR2 : 1 + 1 ≤ (eR E).frames ∧ 8 + (2 + 11) + 22 ≤ (eR E).locals := by rw [X.2.2.2.2.2.2.2.1]; exact hR
  have hC2 : eCells E + 0 ≤ (eR E).cells ∧ eSlots E + 0 ≤ (eR E).slots := by rw [X.2.2.2.2.2.2.2.1]; exact ⟨X.2.2.2.2.2.2.2.2.1, X.2.2.2.2.2.2.2.2.2⟩
  obtain ⟨q0, -, hq⟩ := wld_get (G := G) M (mw0 k hk)
  exact va_calli (va_runV (C := RX0) (As := [.int a1]) (rest := st) ⟨X.1, X.2.1, X.2.2.1, X.2.2.2.1, X.2.2.2.2.1⟩ hm (cwV (ws' := lw_aw) 1 X.2.2.2.2.1 (gwV (tw (i := 429) (by decide +kernel)) (tw (i := 430) (by decide +kernel)) (tw (i := 431) (by decide +kernel)) (tw (i := 73) (by decide +kernel)) (tw (i := 432) (by decide +kernel))) rfl rfl rfl (by decide +kernel) hR2) ⟨hr_blind, va_recv hK hP (ci := 0) (q := (RX0, TX0, 19)) (fs := objF0 G k (M.1 0 k)) (q0 := q0) rfl hq, fun U hU hW => ⟨rfl, by rw [hU]; exact hP, KK.warm hW X.2.2.2.2.2.1⟩⟩ rfl rfl hl.1 rfl (lv_room hst) d hC2) hS (fun q _ h => h) (fun q h => h) (fun r u t H1 locs1 ht hvm hw hB hz1 hk1 hS1 => k1 r u hw H1 locs1 ls (by rw [← ht]; exact hB.1) hS1 hl)
/-- LayeredClaims$Book.insertClaim(III)I -/
def wp_X0_insertClaim (k : Nat) (a1 : Int32) (a2 : Int32) (a3 : Int32) (M : Mm) (P : Int32 → Mm → Prop) : Prop := (k < 9 ∧ (wp_X0_hasEvent k a1 M (fun (r3 : Int32) (M2 : Mm) => ((r3 = 0 → P (-1 : Int32) M2) ∧ (¬ r3 = 0 → (wp_X0_hasCover k a2 M2 (fun (r6 : Int32) (M5 : Mm) => ((¬ r6 = 0 → (wp_X6_isWithin a3 (1 : Int32) (99999 : Int32) M5 (fun (r9 : Int32) (M8 : Mm) => ((¬ r9 = 0 → (((rd M8 0 k 15) < (24 : Int32) → (vp_in (rd M8 0 k 15) 24 ∧ (∀ M13 : Mm, M13 = wr M8 36 k (rd M8 0 k 15).toNatClampNeg a1 → (vp_in (rd M13 0 k 15) 24 ∧ (∀ M15 : Mm, M15 = wr M13 37 k (rd M13 0 k 15).toNatClampNeg a2 → (vp_in (rd M15 0 k 15) 24 ∧ (∀ M17 : Mm, M17 = wr M15 38 k (rd M15 0 k 15).toNatClampNeg a3 → (∀ M18 : Mm, M18 = wr M17 0 k 15 ((rd M17 0 k 15) + (1 : Int32)) → P ((rd M18 0 k 15) - (1 : Int32)) M18)))))))) ∧ (¬ (rd M8 0 k 15) < (24 : Int32) → P (-3 : Int32) M8))) ∧ (r9 = 0 → P (-2 : Int32) M8))))) ∧ (r6 = 0 → P (-1 : Int32) M5)))))))))
set_option maxHeartbeats 4000000 in
set_option maxRecDepth 100000 in
theorem met_X0_insertClaim {l : Launch} {G : GT} (hG : GD G) (k : Nat) (a1 : Int32) (a2 : Int32) (a3 : Int32) (M : Mm) (P : Int32 → Mm → Prop) (h : wp_X0_insertClaim k a1 a2 a3 M P) : MI l G yX0_insertClaim cX0_insertClaim 4 (some .int) ({ frames := 2, cells := 0, slots := 0, locals := 43 } : Room) [.ref (adr G 0 k), .int a1, .int a2, .int a3] M P := by
  refine met_by hG (own := RX0) rfl (by decide +kernel) (Nat.le_of_ble_eq_true rfl) (fun E hE X Y => ?_)
  show J G E 4 0 [(0, .ref (adr G 0 k)), (1, .int a1), (2, .int a2), (3, .int a3)] [] M
  unfold wp_X0_insertClaim at h
  refine j_aload_n X 0 dX0_insertClaim_0 rfl rfl ?_
  refine j_iload_n X 1 dX0_insertClaim_1 rfl rfl ?_
  have q1 := h.1
  replace h := h.2
  refine jc_RX0_77 X ⟨Nat.le_of_ble_eq_true rfl, Nat.le_of_ble_eq_true rfl⟩ (Nat.le_of_ble_eq_true rfl) dX0_insertClaim_2 q1 h (fun r3 M2 h => ?_)
  refine j_if_eq X 16 dX0_insertClaim_5 (by decide) (fun c4 => ?_) (fun c4 => ?_)
  · replace h := h.1 c4
    refine j_iconst (v := (-1 : Int32)) X (by decide) dX0_insertClaim_16 ?_
    exact j_iret X Y dX0_insertClaim_17 h
  · replace h := h.2 c4
    refine j_aload_n X 0 dX0_insertClaim_8 rfl rfl ?_
    refine j_iload_n X 2 dX0_insertClaim_9 rfl rfl ?_
    refine jc_RX0_81 X ⟨Nat.le_of_ble_eq_true rfl, Nat.le_of_ble_eq_true rfl⟩ (Nat.le_of_ble_eq_true rfl) dX0_insertClaim_10 q1 h (fun r6 M5 h => ?_)
    refine j_if_ne X 18 dX0_insertClaim_13 (by decide) (fun c7 => ?_) (fun c7 => ?_)
    · replace h := h.1 c7
      refine j_iload_n X 3 dX0_insertClaim_18 rfl rfl ?_
      refine j_iconst (v := (1 : Int32)) X (by decide) dX0_insertClaim_19 ?_
      refine j_ldc (v := (99999 : Int32)) X (tw (i := 397) (by decide +kernel)) dX0_insertClaim_20 ?_
      refine jc_RX0_58 X ⟨Nat.le_of_ble_eq_true rfl, Nat.le_of_ble_eq_true rfl⟩ (Nat.le_of_ble_eq_true rfl) dX0_insertClaim_22 h (fun r9 M8 h => ?_)
      refine j_if_ne X 31 dX0_insertClaim_25 (by decide) (fun c10 => ?_) (fun c10 => ?_)
      · replace h := h.1 c10
        refine j_aload_n X 0 dX0_insertClaim_31 rfl rfl ?_
        refine jf_RX0_68 X q1 dX0_insertClaim_32 ?_
        refine j_bipush (v := (24 : Int32)) X (by decide) dX0_insertClaim_35 ?_
        refine j_icmp_lt X 43 dX0_insertClaim_37 (by decide) (fun c11 => ?_) (fun c11 => ?_)
        · replace h := h.1 c11
          refine j_aload_n X 0 dX0_insertClaim_43 rfl rfl ?_
          refine jf_RX0_45 X q1 dX0_insertClaim_44 ?_
          refine j_aload_n X 0 dX0_insertClaim_47 rfl rfl ?_
          refine jf_RX0_68 X q1 dX0_insertClaim_48 ?_
          refine j_iload_n X 1 dX0_insertClaim_51 rfl rfl ?_
          have q12 := h.1
          replace h := h.2
          refine j_iast X _ rfl (mw36 k q1) kt36 lt36 q12 dX0_insertClaim_52 ?_
          refine j_memo (fun M13 eM13 => ?_)
          replace h := h M13 eM13
          refine j_aload_n X 0 dX0_insertClaim_53 rfl rfl ?_
          refine jf_RX0_48 X q1 dX0_insertClaim_54 ?_
          refine j_aload_n X 0 dX0_insertClaim_57 rfl rfl ?_
          refine jf_RX0_68 X q1 dX0_insertClaim_58 ?_
          refine j_iload_n X 2 dX0_insertClaim_61 rfl rfl ?_
          have q14 := h.1
          replace h := h.2
          refine j_iast X _ rfl (mw37 k q1) kt37 lt37 q14 dX0_insertClaim_62 ?_
          refine j_memo (fun M15 eM15 => ?_)
          replace h := h M15 eM15
          refine j_aload_n X 0 dX0_insertClaim_63 rfl rfl ?_
          refine jf_RX0_51 X q1 dX0_insertClaim_64 ?_
          refine j_aload_n X 0 dX0_insertClaim_67 rfl rfl ?_
          refine jf_RX0_68 X q1 dX0_insertClaim_68 ?_
          refine j_iload_n X 3 dX0_insertClaim_71 rfl rfl ?_
          have q16 := h.1
          replace h := h.2
          refine j_iast X _ rfl (mw38 k q1) kt38 lt38 q16 dX0_insertClaim_72 ?_
          refine j_memo (fun M17 eM17 => ?_)
          replace h := h M17 eM17
          refine j_aload_n X 0 dX0_insertClaim_73 rfl rfl ?_
          refine j_dup X rfl dX0_insertClaim_74 ?_
          refine jf_RX0_68 X q1 dX0_insertClaim_75 ?_
          refine j_iconst (v := (1 : Int32)) X (by decide) dX0_insertClaim_78 ?_
          refine j_iadd X dX0_insertClaim_79 ?_
          refine jp_RX0_68 X q1  dX0_insertClaim_80 ?_
          refine j_memo (fun M18 eM18 => ?_)
          replace h := h M18 eM18
          refine j_aload_n X 0 dX0_insertClaim_83 rfl rfl ?_
          refine jf_RX0_68 X q1 dX0_insertClaim_84 ?_
          refine j_iconst (v := (1 : Int32)) X (by decide) dX0_insertClaim_87 ?_
          refine j_isub X dX0_insertClaim_88 ?_
          exact j_iret X Y dX0_insertClaim_89 h
        · replace h := h.2 c11
          refine j_bipush (v := (-3 : Int32)) X (by decide) dX0_insertClaim_40 ?_
          exact j_iret X Y dX0_insertClaim_42 h
      · replace h := h.2 c10
        refine j_bipush (v := (-2 : Int32)) X (by decide) dX0_insertClaim_28 ?_
        exact j_iret X Y dX0_insertClaim_30 h
    · replace h := h.2 c7
      refine j_iconst (v := (-1 : Int32)) X (by decide) dX0_insertClaim_16 ?_
      exact j_iret X Y dX0_insertClaim_17 h
theorem jc_RX6_70 {G : GT} {E : ET} {cc : ByteArray} {nL pc : Nat} {rm : Room} {lv : List (Nat × Value)} {st : List Value} {M : Mm} (X : CX G E RX6 cc nL rm) (hR : 2 + 1 ≤ rm.frames ∧ 8 + (4 + 11) + 43 ≤ rm.locals) (hst : (st.map fun v => v.category).sum ≤ 8) (d : decode cc pc = .ok (.invokevirtual 70, 3)) {k : Nat} {a1 : Int32} {a2 : Int32} {a3 : Int32} (hk : k < 9) {P : Int32 → Mm → Prop} (h : wp_X0_insertClaim k a1 a2 a3 M P) (k1 : ∀ (r : Int32) (M2 : Mm), P r M2 → J G E nL (pc + 3) lv (.int r :: st) M2) : J G E nL pc lv (.int a3 :: .int a2 :: .int a1 :: .ref (adr G 0 k) :: st) M := fun H locs ls hP hS hl => by
  have hK := X.2.2.2.2.2.1.1
  have hm := met_X0_insertClaim (l := eL E) X.2.2.2.2.2.2.1 k a1 a2 a3 M P h
  have hR2 : 2 + 1 ≤ (eR E).frames ∧ 8 + (4 + 11) + 43 ≤ (eR E).locals := by rw [X.2.2.2.2.2.2.2.1]; exact hR
  have hC2 : eCells E + 0 ≤ (eR E).cells ∧ eSlots E + 0 ≤ (eR E).slots := by rw [X.2.2.2.2.2.2.2.1]; exact ⟨X.2.2.2.2.2.2.2.2.1, X.2.2.2.2.2.2.2.2.2⟩
  obtain ⟨q0, -, hq⟩ := wld_get (G := G) M (mw0 k hk)
  exact va_calli (va_runV (C := RX0) (As := [.int a1, .int a2, .int a3]) (rest := st) ⟨X.1, X.2.1, X.2.2.1, X.2.2.2.1, X.2.2.2.2.1⟩ hm (cwV (ws' := lw_aw) 3 X.2.2.2.2.1 (gwV (tw (i := 437) (by decide +kernel)) (tw (i := 438) (by decide +kernel)) (tw (i := 439) (by decide +kernel)) (tw (i := 73) (by decide +kernel)) (tw (i := 440) (by decide +kernel))) rfl rfl rfl (by decide +kernel) hR2) ⟨hr_blind, va_recv hK hP (ci := 0) (q := (RX0, TX0, 19)) (fs := objF0 G k (M.1 0 k)) (q0 := q0) rfl hq, fun U hU hW => ⟨rfl, by rw [hU]; exact hP, KK.warm hW X.2.2.2.2.2.1⟩⟩ rfl rfl hl.1 rfl (lv_room hst) d hC2) hS (fun q _ h => h) (fun q h => h) (fun r u t H1 locs1 ht hvm hw hB hz1 hk1 hS1 => k1 r u hw H1 locs1 ls (by rw [← ht]; exact hB.1) hS1 hl)
/-- LayeredClaims$Book.dropClaim(I)I -/
def wp_X0_dropClaim (k : Nat) (a1 : Int32) (M : Mm) (P : Int32 → Mm → Prop) : Prop := (k < 9 ∧ (wp_X0_hasClaim k a1 M (fun (r3 : Int32) (M2 : Mm) => ((¬ r3 = 0 → (∀ M5 : Mm, M5 = wr M2 0 k 15 ((rd M2 0 k 15) - (1 : Int32)) → (∃ n, lq2 (fun self6 (x8 : Int32) (M9 : Mm) => (((rd M9 0 k 15) ≤ x8 → P (rd M9 0 k 15) M9) ∧ (¬ (rd M9 0 k 15) ≤ x8 → (vp_in (x8 + (1 : Int32)) 24 ∧ (vp_in x8 24 ∧ (∀ M13 : Mm, M13 = wr M9 36 k x8.toNatClampNeg (rd M9 36 k (x8 + (1 : Int32)).toNatClampNeg) → (∀ M14 : Mm, M14 = wr M13 37 k x8.toNatClampNeg (rd M13 37 k (x8 + (1 : Int32)).toNatClampNeg) → (∀ M15 : Mm, M15 = wr M14 38 k x8.toNatClampNeg (rd M14 38 k (x8 + (1 : Int32)).toNatClampNeg) → (∀ x16 : Int32, x16 = x8 + (1 : Int32) → self6 x16 M15))))))))) n a1 M5))) ∧ (r3 = 0 → P (-1 : Int32) M2)))))
set_option maxHeartbeats 4000000 in
set_option maxRecDepth 100000 in
theorem met_X0_dropClaim {l : Launch} {G : GT} (hG : GD G) (k : Nat) (a1 : Int32) (M : Mm) (P : Int32 → Mm → Prop) (h : wp_X0_dropClaim k a1 M P) : MI l G yX0_dropClaim cX0_dropClaim 3 (some .int) ({ frames := 2, cells := 0, slots := 0, locals := 43 } : Room) [.ref (adr G 0 k), .int a1] M P := by
  refine met_by hG (own := RX0) rfl (by decide +kernel) (Nat.le_of_ble_eq_true rfl) (fun E hE X Y => ?_)
  show J G E 3 0 [(0, .ref (adr G 0 k)), (1, .int a1)] [] M
  unfold wp_X0_dropClaim at h
  refine j_aload_n X 0 dX0_dropClaim_0 rfl rfl ?_
  refine j_iload_n X 1 dX0_dropClaim_1 rfl rfl ?_
  have q1 := h.1
  replace h := h.2
  refine jc_RX0_84 X ⟨Nat.le_of_ble_eq_true rfl, Nat.le_of_ble_eq_true rfl⟩ (Nat.le_of_ble_eq_true rfl) dX0_dropClaim_2 q1 h (fun r3 M2 h => ?_)
  refine j_if_ne X 10 dX0_dropClaim_5 (by decide) (fun c4 => ?_) (fun c4 => ?_)
  · replace h := h.1 c4
    refine j_aload_n X 0 dX0_dropClaim_10 rfl rfl ?_
    refine j_dup X rfl dX0_dropClaim_11 ?_
    refine jf_RX0_68 X q1 dX0_dropClaim_12 ?_
    refine j_iconst (v := (1 : Int32)) X (by decide) dX0_dropClaim_15 ?_
    refine j_isub X dX0_dropClaim_16 ?_
    refine jp_RX0_68 X q1  dX0_dropClaim_17 ?_
    refine j_memo (fun M5 eM5 => ?_)
    replace h := h M5 eM5
    refine j_iload_n X 1 dX0_dropClaim_20 rfl rfl ?_
    refine j_istore_n X [(2, .int a1), (0, .ref (adr G 0 k)), (1, .int a1)] dX0_dropClaim_21 rfl (by decide) rfl ?_
    refine j_sub [1, 0] rfl ?_
    refine lq2_s h (fun (x8 : Int32) (M9 : Mm) => J G E 3 22 [(0, .ref (adr G 0 k)), (2, .int x8)] [] M9) (fun self6 ih7 x8 M9 h => ?_) id
    refine j_iload_n X 1 dX0_dropClaim_22 rfl rfl ?_
    refine j_aload_n X 0 dX0_dropClaim_23 rfl rfl ?_
    refine jf_RX0_68 X q1 dX0_dropClaim_24 ?_
    refine j_icmp_ge X 78 dX0_dropClaim_27 (by decide) (fun c10 => ?_) (fun c10 => ?_)
    · replace h := h.1 c10
      refine j_aload_n X 0 dX0_dropClaim_78 rfl rfl ?_
      refine jf_RX0_68 X q1 dX0_dropClaim_79 ?_
      exact j_iret X Y dX0_dropClaim_82 h
    · replace h := h.2 c10
      refine j_aload_n X 0 dX0_dropClaim_30 rfl rfl ?_
      refine jf_RX0_45 X q1 dX0_dropClaim_31 ?_
      refine j_iload_n X 1 dX0_dropClaim_34 rfl rfl ?_
      refine j_aload_n X 0 dX0_dropClaim_35 rfl rfl ?_
      refine jf_RX0_45 X q1 dX0_dropClaim_36 ?_
      refine j_iload_n X 1 dX0_dropClaim_39 rfl rfl ?_
      refine j_iconst (v := (1 : Int32)) X (by decide) dX0_dropClaim_40 ?_
      refine j_iadd X dX0_dropClaim_41 ?_
      have q11 := h.1
      replace h := h.2
      refine j_iald X _ rfl (mw36 k q1) kt36 lt36 q11 dX0_dropClaim_42 ?_
      have q12 := h.1
      replace h := h.2
      refine j_iast X _ rfl (mw36 k q1) kt36 lt36 q12 dX0_dropClaim_43 ?_
      refine j_memo (fun M13 eM13 => ?_)
      replace h := h M13 eM13
      refine j_aload_n X 0 dX0_dropClaim_44 rfl rfl ?_
      refine jf_RX0_48 X q1 dX0_dropClaim_45 ?_
      refine j_iload_n X 1 dX0_dropClaim_48 rfl rfl ?_
      refine j_aload_n X 0 dX0_dropClaim_49 rfl rfl ?_
      refine jf_RX0_48 X q1 dX0_dropClaim_50 ?_
      refine j_iload_n X 1 dX0_dropClaim_53 rfl rfl ?_
      refine j_iconst (v := (1 : Int32)) X (by decide) dX0_dropClaim_54 ?_
      refine j_iadd X dX0_dropClaim_55 ?_
      refine j_iald X _ rfl (mw37 k q1) kt37 lt37 q11 dX0_dropClaim_56 ?_
      refine j_iast X _ rfl (mw37 k q1) kt37 lt37 q12 dX0_dropClaim_57 ?_
      refine j_memo (fun M14 eM14 => ?_)
      replace h := h M14 eM14
      refine j_aload_n X 0 dX0_dropClaim_58 rfl rfl ?_
      refine jf_RX0_51 X q1 dX0_dropClaim_59 ?_
      refine j_iload_n X 1 dX0_dropClaim_62 rfl rfl ?_
      refine j_aload_n X 0 dX0_dropClaim_63 rfl rfl ?_
      refine jf_RX0_51 X q1 dX0_dropClaim_64 ?_
      refine j_iload_n X 1 dX0_dropClaim_67 rfl rfl ?_
      refine j_iconst (v := (1 : Int32)) X (by decide) dX0_dropClaim_68 ?_
      refine j_iadd X dX0_dropClaim_69 ?_
      refine j_iald X _ rfl (mw38 k q1) kt38 lt38 q11 dX0_dropClaim_70 ?_
      refine j_iast X _ rfl (mw38 k q1) kt38 lt38 q12 dX0_dropClaim_71 ?_
      refine j_memo (fun M15 eM15 => ?_)
      replace h := h M15 eM15
      obtain ⟨x16, ex16⟩ : ∃ z : Int32, z = x8 + (1 : Int32) := ⟨_, rfl⟩
      replace h := h x16 ex16
      refine j_iinc (v := x16) X 1 [(2, .int x16), (0, .ref (adr G 0 k))] dX0_dropClaim_72 rfl (by rw [ex16]; rfl) (by decide) rfl ?_
      refine j_goto X 22 dX0_dropClaim_75 (by decide) ?_
      refine j_sub [1, 0] rfl ?_
      exact ih7 x16 M15 h
  · replace h := h.2 c4
    refine j_iconst (v := (-1 : Int32)) X (by decide) dX0_dropClaim_8 ?_
    exact j_iret X Y dX0_dropClaim_9 h
theorem jc_RX6_74 {G : GT} {E : ET} {cc : ByteArray} {nL pc : Nat} {rm : Room} {lv : List (Nat × Value)} {st : List Value} {M : Mm} (X : CX G E RX6 cc nL rm) (hR : 2 + 1 ≤ rm.frames ∧ 8 + (3 + 11) + 43 ≤ rm.locals) (hst : (st.map fun v => v.category).sum ≤ 8) (d : decode cc pc = .ok (.invokevirtual 74, 3)) {k : Nat} {a1 : Int32} (hk : k < 9) {P : Int32 → Mm → Prop} (h : wp_X0_dropClaim k a1 M P) (k1 : ∀ (r : Int32) (M2 : Mm), P r M2 → J G E nL (pc + 3) lv (.int r :: st) M2) : J G E nL pc lv (.int a1 :: .ref (adr G 0 k) :: st) M := fun H locs ls hP hS hl => by
  have hK := X.2.2.2.2.2.1.1
  have hm := met_X0_dropClaim (l := eL E) X.2.2.2.2.2.2.1 k a1 M P h
  have hR2 : 2 + 1 ≤ (eR E).frames ∧ 8 + (3 + 11) + 43 ≤ (eR E).locals := by rw [X.2.2.2.2.2.2.2.1]; exact hR
  have hC2 : eCells E + 0 ≤ (eR E).cells ∧ eSlots E + 0 ≤ (eR E).slots := by rw [X.2.2.2.2.2.2.2.1]; exact ⟨X.2.2.2.2.2.2.2.2.1, X.2.2.2.2.2.2.2.2.2⟩
  obtain ⟨q0, -, hq⟩ := wld_get (G := G) M (mw0 k hk)
  exact va_calli (va_runV (C := RX0) (As := [.int a1]) (rest := st) ⟨X.1, X.2.1, X.2.2.1, X.2.2.2.1, X.2.2.2.2.1⟩ hm (cwV (ws' := lw_aw) 1 X.2.2.2.2.1 (gwV (tw (i := 453) (by decide +kernel)) (tw (i := 454) (by decide +kernel)) (tw (i := 455) (by decide +kernel)) (tw (i := 73) (by decide +kernel)) (tw (i := 456) (by decide +kernel))) rfl rfl rfl (by decide +kernel) hR2) ⟨hr_blind, va_recv hK hP (ci := 0) (q := (RX0, TX0, 19)) (fs := objF0 G k (M.1 0 k)) (q0 := q0) rfl hq, fun U hU hW => ⟨rfl, by rw [hU]; exact hP, KK.warm hW X.2.2.2.2.2.1⟩⟩ rfl rfl hl.1 rfl (lv_room hst) d hC2) hS (fun q _ h => h) (fun q h => h) (fun r u t H1 locs1 ht hvm hw hB hz1 hk1 hS1 => k1 r u hw H1 locs1 ls (by rw [← ht]; exact hB.1) hS1 hl)
/-- LayeredClaims$Book.changeDay(II)I -/
def wp_X0_changeDay (k : Nat) (a1 : Int32) (a2 : Int32) (M : Mm) (P : Int32 → Mm → Prop) : Prop := (k < 9 ∧ (wp_X0_hasEvent k a1 M (fun (r3 : Int32) (M2 : Mm) => ((¬ r3 = 0 → (wp_X6_isWithin a2 (0 : Int32) (364 : Int32) M2 (fun (r6 : Int32) (M5 : Mm) => ((¬ r6 = 0 → (vp_in a1 8 ∧ (∀ x9 : Int32, x9 = (rd M5 33 k a1.toNatClampNeg) → (∀ M10 : Mm, M10 = wr M5 33 k a1.toNatClampNeg a2 → P x9 M10)))) ∧ (r6 = 0 → P (-2 : Int32) M5))))) ∧ (r3 = 0 → P (-1 : Int32) M2)))))
set_option maxHeartbeats 4000000 in
set_option maxRecDepth 100000 in
theorem met_X0_changeDay {l : Launch} {G : GT} (hG : GD G) (k : Nat) (a1 : Int32) (a2 : Int32) (M : Mm) (P : Int32 → Mm → Prop) (h : wp_X0_changeDay k a1 a2 M P) : MI l G yX0_changeDay cX0_changeDay 4 (some .int) ({ frames := 2, cells := 0, slots := 0, locals := 43 } : Room) [.ref (adr G 0 k), .int a1, .int a2] M P := by
  refine met_by hG (own := RX0) rfl (by decide +kernel) (Nat.le_of_ble_eq_true rfl) (fun E hE X Y => ?_)
  show J G E 4 0 [(0, .ref (adr G 0 k)), (1, .int a1), (2, .int a2)] [] M
  unfold wp_X0_changeDay at h
  refine j_aload_n X 0 dX0_changeDay_0 rfl rfl ?_
  refine j_iload_n X 1 dX0_changeDay_1 rfl rfl ?_
  have q1 := h.1
  replace h := h.2
  refine jc_RX0_77 X ⟨Nat.le_of_ble_eq_true rfl, Nat.le_of_ble_eq_true rfl⟩ (Nat.le_of_ble_eq_true rfl) dX0_changeDay_2 q1 h (fun r3 M2 h => ?_)
  refine j_if_ne X 10 dX0_changeDay_5 (by decide) (fun c4 => ?_) (fun c4 => ?_)
  · replace h := h.1 c4
    refine j_iload_n X 2 dX0_changeDay_10 rfl rfl ?_
    refine j_iconst (v := (0 : Int32)) X (by decide) dX0_changeDay_11 ?_
    refine j_sipush (v := (364 : Int32)) X (by decide) dX0_changeDay_12 ?_
    refine jc_RX0_58 X ⟨Nat.le_of_ble_eq_true rfl, Nat.le_of_ble_eq_true rfl⟩ (Nat.le_of_ble_eq_true rfl) dX0_changeDay_15 h (fun r6 M5 h => ?_)
    refine j_if_ne X 24 dX0_changeDay_18 (by decide) (fun c7 => ?_) (fun c7 => ?_)
    · replace h := h.1 c7
      refine j_aload_n X 0 dX0_changeDay_24 rfl rfl ?_
      refine jf_RX0_39 X q1 dX0_changeDay_25 ?_
      refine j_iload_n X 1 dX0_changeDay_28 rfl rfl ?_
      have q8 := h.1
      replace h := h.2
      refine j_iald X _ rfl (mw33 k q1) kt33 lt33 q8 dX0_changeDay_29 ?_
      refine j_topi (fun x9 ex9 => ?_)
      replace h := h x9 ex9
      refine j_istore_n X [(3, .int x9), (0, .ref (adr G 0 k)), (1, .int a1), (2, .int a2)] dX0_changeDay_30 rfl (by decide) rfl ?_
      refine j_aload_n X 1 dX0_changeDay_31 rfl rfl ?_
      refine jf_RX0_39 X q1 dX0_changeDay_32 ?_
      refine j_iload_n X 2 dX0_changeDay_35 rfl rfl ?_
      refine j_iload_n X 3 dX0_changeDay_36 rfl rfl ?_
      refine j_iast X _ rfl (mw33 k q1) kt33 lt33 q8 dX0_changeDay_37 ?_
      refine j_memo (fun M10 eM10 => ?_)
      replace h := h M10 eM10
      refine j_iload_n X 0 dX0_changeDay_38 rfl rfl ?_
      exact j_iret X Y dX0_changeDay_39 h
    · replace h := h.2 c7
      refine j_bipush (v := (-2 : Int32)) X (by decide) dX0_changeDay_21 ?_
      exact j_iret X Y dX0_changeDay_23 h
  · replace h := h.2 c4
    refine j_iconst (v := (-1 : Int32)) X (by decide) dX0_changeDay_8 ?_
    exact j_iret X Y dX0_changeDay_9 h
theorem jc_RX6_77 {G : GT} {E : ET} {cc : ByteArray} {nL pc : Nat} {rm : Room} {lv : List (Nat × Value)} {st : List Value} {M : Mm} (X : CX G E RX6 cc nL rm) (hR : 2 + 1 ≤ rm.frames ∧ 8 + (4 + 11) + 43 ≤ rm.locals) (hst : (st.map fun v => v.category).sum ≤ 8) (d : decode cc pc = .ok (.invokevirtual 77, 3)) {k : Nat} {a1 : Int32} {a2 : Int32} (hk : k < 9) {P : Int32 → Mm → Prop} (h : wp_X0_changeDay k a1 a2 M P) (k1 : ∀ (r : Int32) (M2 : Mm), P r M2 → J G E nL (pc + 3) lv (.int r :: st) M2) : J G E nL pc lv (.int a2 :: .int a1 :: .ref (adr G 0 k) :: st) M := fun H locs ls hP hS hl => by
  have hK := X.2.2.2.2.2.1.1
  have hm := met_X0_changeDay (l := eL E) X.2.2.2.2.2.2.1 k a1 a2 M P h
  have hR2 : 2 + 1 ≤ (eR E).frames ∧ 8 + (4 + 11) + 43 ≤ (eR E).locals := by rw [X.2.2.2.2.2.2.2.1]; exact hR
  have hC2 : eCells E + 0 ≤ (eR E).cells ∧ eSlots E + 0 ≤ (eR E).slots := by rw [X.2.2.2.2.2.2.2.1]; exact ⟨X.2.2.2.2.2.2.2.2.1, X.2.2.2.2.2.2.2.2.2⟩
  obtain ⟨q0, -, hq⟩ := wld_get (G := G) M (mw0 k hk)
  exact va_calli (va_runV (C := RX0) (As := [.int a1, .int a2]) (rest := st) ⟨X.1, X.2.1, X.2.2.1, X.2.2.2.1, X.2.2.2.2.1⟩ hm (cwV (ws' := lw_aw) 2 X.2.2.2.2.1 (gwV (tw (i := 465) (by decide +kernel)) (tw (i := 466) (by decide +kernel)) (tw (i := 467) (by decide +kernel)) (tw (i := 73) (by decide +kernel)) (tw (i := 468) (by decide +kernel))) rfl rfl rfl (by decide +kernel) hR2) ⟨hr_blind, va_recv hK hP (ci := 0) (q := (RX0, TX0, 19)) (fs := objF0 G k (M.1 0 k)) (q0 := q0) rfl hq, fun U hU hW => ⟨rfl, by rw [hU]; exact hP, KK.warm hW X.2.2.2.2.2.1⟩⟩ rfl rfl hl.1 rfl (lv_room hst) d hC2) hS (fun q _ h => h) (fun q h => h) (fun r u t H1 locs1 ht hvm hw hB hz1 hk1 hS1 => k1 r u hw H1 locs1 ls (by rw [← ht]; exact hB.1) hS1 hl)
/-- LayeredClaims$Book.changeDeductible(II)I -/
def wp_X0_changeDeductible (k : Nat) (a1 : Int32) (a2 : Int32) (M : Mm) (P : Int32 → Mm → Prop) : Prop := (wp_X6_isWithin a1 (0 : Int32) (2 : Int32) M (fun (r2 : Int32) (M1 : Mm) => ((¬ r2 = 0 → (wp_X6_isWithin a2 (0 : Int32) (99999 : Int32) M1 (fun (r5 : Int32) (M4 : Mm) => ((¬ r5 = 0 → (k < 9 ∧ (vp_in a1 3 ∧ (∀ x9 : Int32, x9 = (rd M4 30 k a1.toNatClampNeg) → (∀ M10 : Mm, M10 = wr M4 30 k a1.toNatClampNeg a2 → P x9 M10))))) ∧ (r5 = 0 → P (-2 : Int32) M4))))) ∧ (r2 = 0 → P (-1 : Int32) M1))))
set_option maxHeartbeats 4000000 in
set_option maxRecDepth 100000 in
theorem met_X0_changeDeductible {l : Launch} {G : GT} (hG : GD G) (k : Nat) (a1 : Int32) (a2 : Int32) (M : Mm) (P : Int32 → Mm → Prop) (h : wp_X0_changeDeductible k a1 a2 M P) : MI l G yX0_changeDeductible cX0_changeDeductible 4 (some .int) ({ frames := 1, cells := 0, slots := 0, locals := 22 } : Room) [.ref (adr G 0 k), .int a1, .int a2] M P := by
  refine met_by hG (own := RX0) rfl (by decide +kernel) (Nat.le_of_ble_eq_true rfl) (fun E hE X Y => ?_)
  show J G E 4 0 [(0, .ref (adr G 0 k)), (1, .int a1), (2, .int a2)] [] M
  unfold wp_X0_changeDeductible at h
  refine j_iload_n X 1 dX0_changeDeductible_0 rfl rfl ?_
  refine j_iconst (v := (0 : Int32)) X (by decide) dX0_changeDeductible_1 ?_
  refine j_iconst (v := (2 : Int32)) X (by decide) dX0_changeDeductible_2 ?_
  refine jc_RX0_58 X ⟨Nat.le_of_ble_eq_true rfl, Nat.le_of_ble_eq_true rfl⟩ (Nat.le_of_ble_eq_true rfl) dX0_changeDeductible_3 h (fun r2 M1 h => ?_)
  refine j_if_ne X 11 dX0_changeDeductible_6 (by decide) (fun c3 => ?_) (fun c3 => ?_)
  · replace h := h.1 c3
    refine j_iload_n X 2 dX0_changeDeductible_11 rfl rfl ?_
    refine j_iconst (v := (0 : Int32)) X (by decide) dX0_changeDeductible_12 ?_
    refine j_ldc (v := (99999 : Int32)) X (tw (i := 397) (by decide +kernel)) dX0_changeDeductible_13 ?_
    refine jc_RX0_58 X ⟨Nat.le_of_ble_eq_true rfl, Nat.le_of_ble_eq_true rfl⟩ (Nat.le_of_ble_eq_true rfl) dX0_changeDeductible_15 h (fun r5 M4 h => ?_)
    refine j_if_ne X 24 dX0_changeDeductible_18 (by decide) (fun c6 => ?_) (fun c6 => ?_)
    · replace h := h.1 c6
      refine j_aload_n X 0 dX0_changeDeductible_24 rfl rfl ?_
      have q7 := h.1
      replace h := h.2
      refine jf_RX0_36 X q7 dX0_changeDeductible_25 ?_
      refine j_iload_n X 1 dX0_changeDeductible_28 rfl rfl ?_
      have q8 := h.1
      replace h := h.2
      refine j_iald X _ rfl (mw30 k q7) kt30 lt30 q8 dX0_changeDeductible_29 ?_
      refine j_topi (fun x9 ex9 => ?_)
      replace h := h x9 ex9
      refine j_istore_n X [(3, .int x9), (0, .ref (adr G 0 k)), (1, .int a1), (2, .int a2)] dX0_changeDeductible_30 rfl (by decide) rfl ?_
      refine j_aload_n X 1 dX0_changeDeductible_31 rfl rfl ?_
      refine jf_RX0_36 X q7 dX0_changeDeductible_32 ?_
      refine j_iload_n X 2 dX0_changeDeductible_35 rfl rfl ?_
      refine j_iload_n X 3 dX0_changeDeductible_36 rfl rfl ?_
      refine j_iast X _ rfl (mw30 k q7) kt30 lt30 q8 dX0_changeDeductible_37 ?_
      refine j_memo (fun M10 eM10 => ?_)
      replace h := h M10 eM10
      refine j_iload_n X 0 dX0_changeDeductible_38 rfl rfl ?_
      exact j_iret X Y dX0_changeDeductible_39 h
    · replace h := h.2 c6
      refine j_bipush (v := (-2 : Int32)) X (by decide) dX0_changeDeductible_21 ?_
      exact j_iret X Y dX0_changeDeductible_23 h
  · replace h := h.2 c3
    refine j_iconst (v := (-1 : Int32)) X (by decide) dX0_changeDeductible_9 ?_
    exact j_iret X Y dX0_changeDeductible_10 h
theorem jc_RX6_81 {G : GT} {E : ET} {cc : ByteArray} {nL pc : Nat} {rm : Room} {lv : List (Nat × Value)} {st : List Value} {M : Mm} (X : CX G E RX6 cc nL rm) (hR : 1 + 1 ≤ rm.frames ∧ 8 + (4 + 11) + 22 ≤ rm.locals) (hst : (st.map fun v => v.category).sum ≤ 8) (d : decode cc pc = .ok (.invokevirtual 81, 3)) {k : Nat} {a1 : Int32} {a2 : Int32} (hk : k < 9) {P : Int32 → Mm → Prop} (h : wp_X0_changeDeductible k a1 a2 M P) (k1 : ∀ (r : Int32) (M2 : Mm), P r M2 → J G E nL (pc + 3) lv (.int r :: st) M2) : J G E nL pc lv (.int a2 :: .int a1 :: .ref (adr G 0 k) :: st) M := fun H locs ls hP hS hl => by
  have hK := X.2.2.2.2.2.1.1
  have hm := met_X0_changeDeductible (l := eL E) X.2.2.2.2.2.2.1 k a1 a2 M P h
  have hR2 : 1 + 1 ≤ (eR E).frames ∧ 8 + (4 + 11) + 22 ≤ (eR E).locals := by rw [X.2.2.2.2.2.2.2.1]; exact hR
  have hC2 : eCells E + 0 ≤ (eR E).cells ∧ eSlots E + 0 ≤ (eR E).slots := by rw [X.2.2.2.2.2.2.2.1]; exact ⟨X.2.2.2.2.2.2.2.2.1, X.2.2.2.2.2.2.2.2.2⟩
  obtain ⟨q0, -, hq⟩ := wld_get (G := G) M (mw0 k hk)
  exact va_calli (va_runV (C := RX0) (As := [.int a1, .int a2]) (rest := st) ⟨X.1, X.2.1, X.2.2.1, X.2.2.2.1, X.2.2.2.2.1⟩ hm (cwV (ws' := lw_aw) 2 X.2.2.2.2.1 (gwV (tw (i := 473) (by decide +kernel)) (tw (i := 474) (by decide +kernel)) (tw (i := 475) (by decide +kernel)) (tw (i := 73) (by decide +kernel)) (tw (i := 476) (by decide +kernel))) rfl rfl rfl (by decide +kernel) hR2) ⟨hr_blind, va_recv hK hP (ci := 0) (q := (RX0, TX0, 19)) (fs := objF0 G k (M.1 0 k)) (q0 := q0) rfl hq, fun U hU hW => ⟨rfl, by rw [hU]; exact hP, KK.warm hW X.2.2.2.2.2.1⟩⟩ rfl rfl hl.1 rfl (lv_room hst) d hC2) hS (fun q _ h => h) (fun q h => h) (fun r u t H1 locs1 ht hvm hw hB hz1 hk1 hS1 => k1 r u hw H1 locs1 ls (by rw [← ht]; exact hB.1) hS1 hl)
/-- LayeredClaims$Book.changeRate(I)I -/
def wp_X0_changeRate (k : Nat) (a1 : Int32) (M : Mm) (P : Int32 → Mm → Prop) : Prop := (wp_X6_isWithin a1 (0 : Int32) (100 : Int32) M (fun (r2 : Int32) (M1 : Mm) => ((¬ r2 = 0 → (k < 9 ∧ (∀ x5 : Int32, x5 = (rd M1 0 k 11) → (∀ M6 : Mm, M6 = wr M1 0 k 11 a1 → P x5 M6)))) ∧ (r2 = 0 → P (-2 : Int32) M1))))
set_option maxHeartbeats 4000000 in
set_option maxRecDepth 100000 in
theorem met_X0_changeRate {l : Launch} {G : GT} (hG : GD G) (k : Nat) (a1 : Int32) (M : Mm) (P : Int32 → Mm → Prop) (h : wp_X0_changeRate k a1 M P) : MI l G yX0_changeRate cX0_changeRate 3 (some .int) ({ frames := 1, cells := 0, slots := 0, locals := 22 } : Room) [.ref (adr G 0 k), .int a1] M P := by
  refine met_by hG (own := RX0) rfl (by decide +kernel) (Nat.le_of_ble_eq_true rfl) (fun E hE X Y => ?_)
  show J G E 3 0 [(0, .ref (adr G 0 k)), (1, .int a1)] [] M
  unfold wp_X0_changeRate at h
  refine j_iload_n X 1 dX0_changeRate_0 rfl rfl ?_
  refine j_iconst (v := (0 : Int32)) X (by decide) dX0_changeRate_1 ?_
  refine j_bipush (v := (100 : Int32)) X (by decide) dX0_changeRate_2 ?_
  refine jc_RX0_58 X ⟨Nat.le_of_ble_eq_true rfl, Nat.le_of_ble_eq_true rfl⟩ (Nat.le_of_ble_eq_true rfl) dX0_changeRate_4 h (fun r2 M1 h => ?_)
  refine j_if_ne X 13 dX0_changeRate_7 (by decide) (fun c3 => ?_) (fun c3 => ?_)
  · replace h := h.1 c3
    refine j_aload_n X 0 dX0_changeRate_13 rfl rfl ?_
    have q4 := h.1
    replace h := h.2
    refine jf_RX0_87 X q4 dX0_changeRate_14 ?_
    refine j_topi (fun x5 ex5 => ?_)
    replace h := h x5 ex5
    refine j_istore_n X [(2, .int x5), (0, .ref (adr G 0 k)), (1, .int a1)] dX0_changeRate_17 rfl (by decide) rfl ?_
    refine j_aload_n X 1 dX0_changeRate_18 rfl rfl ?_
    refine j_iload_n X 2 dX0_changeRate_19 rfl rfl ?_
    refine jp_RX0_87 X q4  dX0_changeRate_20 ?_
    refine j_memo (fun M6 eM6 => ?_)
    replace h := h M6 eM6
    refine j_iload_n X 0 dX0_changeRate_23 rfl rfl ?_
    exact j_iret X Y dX0_changeRate_24 h
  · replace h := h.2 c3
    refine j_bipush (v := (-2 : Int32)) X (by decide) dX0_changeRate_10 ?_
    exact j_iret X Y dX0_changeRate_12 h
theorem jc_RX6_84 {G : GT} {E : ET} {cc : ByteArray} {nL pc : Nat} {rm : Room} {lv : List (Nat × Value)} {st : List Value} {M : Mm} (X : CX G E RX6 cc nL rm) (hR : 1 + 1 ≤ rm.frames ∧ 8 + (3 + 11) + 22 ≤ rm.locals) (hst : (st.map fun v => v.category).sum ≤ 8) (d : decode cc pc = .ok (.invokevirtual 84, 3)) {k : Nat} {a1 : Int32} (hk : k < 9) {P : Int32 → Mm → Prop} (h : wp_X0_changeRate k a1 M P) (k1 : ∀ (r : Int32) (M2 : Mm), P r M2 → J G E nL (pc + 3) lv (.int r :: st) M2) : J G E nL pc lv (.int a1 :: .ref (adr G 0 k) :: st) M := fun H locs ls hP hS hl => by
  have hK := X.2.2.2.2.2.1.1
  have hm := met_X0_changeRate (l := eL E) X.2.2.2.2.2.2.1 k a1 M P h
  have hR2 : 1 + 1 ≤ (eR E).frames ∧ 8 + (3 + 11) + 22 ≤ (eR E).locals := by rw [X.2.2.2.2.2.2.2.1]; exact hR
  have hC2 : eCells E + 0 ≤ (eR E).cells ∧ eSlots E + 0 ≤ (eR E).slots := by rw [X.2.2.2.2.2.2.2.1]; exact ⟨X.2.2.2.2.2.2.2.2.1, X.2.2.2.2.2.2.2.2.2⟩
  obtain ⟨q0, -, hq⟩ := wld_get (G := G) M (mw0 k hk)
  exact va_calli (va_runV (C := RX0) (As := [.int a1]) (rest := st) ⟨X.1, X.2.1, X.2.2.1, X.2.2.2.1, X.2.2.2.2.1⟩ hm (cwV (ws' := lw_aw) 1 X.2.2.2.2.1 (gwV (tw (i := 481) (by decide +kernel)) (tw (i := 482) (by decide +kernel)) (tw (i := 483) (by decide +kernel)) (tw (i := 73) (by decide +kernel)) (tw (i := 484) (by decide +kernel))) rfl rfl rfl (by decide +kernel) hR2) ⟨hr_blind, va_recv hK hP (ci := 0) (q := (RX0, TX0, 19)) (fs := objF0 G k (M.1 0 k)) (q0 := q0) rfl hq, fun U hU hW => ⟨rfl, by rw [hU]; exact hP, KK.warm hW X.2.2.2.2.2.1⟩⟩ rfl rfl hl.1 rfl (lv_room hst) d hC2) hS (fun q _ h => h) (fun q h => h) (fun r u t H1 locs1 ht hvm hw hB hz1 hk1 hS1 => k1 r u hw H1 locs1 ls (by rw [← ht]; exact hB.1) hS1 hl)
/-- LayeredClaims$Book.changeRecovery(II)I -/
def wp_X0_changeRecovery (k : Nat) (a1 : Int32) (a2 : Int32) (M : Mm) (P : Int32 → Mm → Prop) : Prop := (k < 9 ∧ (wp_X0_hasEvent k a1 M (fun (r3 : Int32) (M2 : Mm) => ((¬ r3 = 0 → (wp_X6_isWithin a2 (0 : Int32) (999999 : Int32) M2 (fun (r6 : Int32) (M5 : Mm) => ((¬ r6 = 0 → (vp_in a1 8 ∧ (∀ x9 : Int32, x9 = (rd M5 34 k a1.toNatClampNeg) → (∀ M10 : Mm, M10 = wr M5 34 k a1.toNatClampNeg a2 → P x9 M10)))) ∧ (r6 = 0 → P (-2 : Int32) M5))))) ∧ (r3 = 0 → P (-1 : Int32) M2)))))
set_option maxHeartbeats 4000000 in
set_option maxRecDepth 100000 in
theorem met_X0_changeRecovery {l : Launch} {G : GT} (hG : GD G) (k : Nat) (a1 : Int32) (a2 : Int32) (M : Mm) (P : Int32 → Mm → Prop) (h : wp_X0_changeRecovery k a1 a2 M P) : MI l G yX0_changeRecovery cX0_changeRecovery 4 (some .int) ({ frames := 2, cells := 0, slots := 0, locals := 43 } : Room) [.ref (adr G 0 k), .int a1, .int a2] M P := by
  refine met_by hG (own := RX0) rfl (by decide +kernel) (Nat.le_of_ble_eq_true rfl) (fun E hE X Y => ?_)
  show J G E 4 0 [(0, .ref (adr G 0 k)), (1, .int a1), (2, .int a2)] [] M
  unfold wp_X0_changeRecovery at h
  refine j_aload_n X 0 dX0_changeRecovery_0 rfl rfl ?_
  refine j_iload_n X 1 dX0_changeRecovery_1 rfl rfl ?_
  have q1 := h.1
  replace h := h.2
  refine jc_RX0_77 X ⟨Nat.le_of_ble_eq_true rfl, Nat.le_of_ble_eq_true rfl⟩ (Nat.le_of_ble_eq_true rfl) dX0_changeRecovery_2 q1 h (fun r3 M2 h => ?_)
  refine j_if_ne X 10 dX0_changeRecovery_5 (by decide) (fun c4 => ?_) (fun c4 => ?_)
  · replace h := h.1 c4
    refine j_iload_n X 2 dX0_changeRecovery_10 rfl rfl ?_
    refine j_iconst (v := (0 : Int32)) X (by decide) dX0_changeRecovery_11 ?_
    refine j_ldc (v := (999999 : Int32)) X (tw (i := 420) (by decide +kernel)) dX0_changeRecovery_12 ?_
    refine jc_RX0_58 X ⟨Nat.le_of_ble_eq_true rfl, Nat.le_of_ble_eq_true rfl⟩ (Nat.le_of_ble_eq_true rfl) dX0_changeRecovery_14 h (fun r6 M5 h => ?_)
    refine j_if_ne X 23 dX0_changeRecovery_17 (by decide) (fun c7 => ?_) (fun c7 => ?_)
    · replace h := h.1 c7
      refine j_aload_n X 0 dX0_changeRecovery_23 rfl rfl ?_
      refine jf_RX0_42 X q1 dX0_changeRecovery_24 ?_
      refine j_iload_n X 1 dX0_changeRecovery_27 rfl rfl ?_
      have q8 := h.1
      replace h := h.2
      refine j_iald X _ rfl (mw34 k q1) kt34 lt34 q8 dX0_changeRecovery_28 ?_
      refine j_topi (fun x9 ex9 => ?_)
      replace h := h x9 ex9
      refine j_istore_n X [(3, .int x9), (0, .ref (adr G 0 k)), (1, .int a1), (2, .int a2)] dX0_changeRecovery_29 rfl (by decide) rfl ?_
      refine j_aload_n X 1 dX0_changeRecovery_30 rfl rfl ?_
      refine jf_RX0_42 X q1 dX0_changeRecovery_31 ?_
      refine j_iload_n X 2 dX0_changeRecovery_34 rfl rfl ?_
      refine j_iload_n X 3 dX0_changeRecovery_35 rfl rfl ?_
      refine j_iast X _ rfl (mw34 k q1) kt34 lt34 q8 dX0_changeRecovery_36 ?_
      refine j_memo (fun M10 eM10 => ?_)
      replace h := h M10 eM10
      refine j_iload_n X 0 dX0_changeRecovery_37 rfl rfl ?_
      exact j_iret X Y dX0_changeRecovery_38 h
    · replace h := h.2 c7
      refine j_bipush (v := (-2 : Int32)) X (by decide) dX0_changeRecovery_20 ?_
      exact j_iret X Y dX0_changeRecovery_22 h
  · replace h := h.2 c4
    refine j_iconst (v := (-1 : Int32)) X (by decide) dX0_changeRecovery_8 ?_
    exact j_iret X Y dX0_changeRecovery_9 h
theorem jc_RX6_87 {G : GT} {E : ET} {cc : ByteArray} {nL pc : Nat} {rm : Room} {lv : List (Nat × Value)} {st : List Value} {M : Mm} (X : CX G E RX6 cc nL rm) (hR : 2 + 1 ≤ rm.frames ∧ 8 + (4 + 11) + 43 ≤ rm.locals) (hst : (st.map fun v => v.category).sum ≤ 8) (d : decode cc pc = .ok (.invokevirtual 87, 3)) {k : Nat} {a1 : Int32} {a2 : Int32} (hk : k < 9) {P : Int32 → Mm → Prop} (h : wp_X0_changeRecovery k a1 a2 M P) (k1 : ∀ (r : Int32) (M2 : Mm), P r M2 → J G E nL (pc + 3) lv (.int r :: st) M2) : J G E nL pc lv (.int a2 :: .int a1 :: .ref (adr G 0 k) :: st) M := fun H locs ls hP hS hl => by
  have hK := X.2.2.2.2.2.1.1
  have hm := met_X0_changeRecovery (l := eL E) X.2.2.2.2.2.2.1 k a1 a2 M P h
  have hR2 : 2 + 1 ≤ (eR E).frames ∧ 8 + (4 + 11) + 43 ≤ (eR E).locals := by rw [X.2.2.2.2.2.2.2.1]; exact hR
  have hC2 : eCells E + 0 ≤ (eR E).cells ∧ eSlots E + 0 ≤ (eR E).slots := by rw [X.2.2.2.2.2.2.2.1]; exact ⟨X.2.2.2.2.2.2.2.2.1, X.2.2.2.2.2.2.2.2.2⟩
  obtain ⟨q0, -, hq⟩ := wld_get (G := G) M (mw0 k hk)
  exact va_calli (va_runV (C := RX0) (As := [.int a1, .int a2]) (rest := st) ⟨X.1, X.2.1, X.2.2.1, X.2.2.2.1, X.2.2.2.2.1⟩ hm (cwV (ws' := lw_aw) 2 X.2.2.2.2.1 (gwV (tw (i := 489) (by decide +kernel)) (tw (i := 490) (by decide +kernel)) (tw (i := 491) (by decide +kernel)) (tw (i := 73) (by decide +kernel)) (tw (i := 492) (by decide +kernel))) rfl rfl rfl (by decide +kernel) hR2) ⟨hr_blind, va_recv hK hP (ci := 0) (q := (RX0, TX0, 19)) (fs := objF0 G k (M.1 0 k)) (q0 := q0) rfl hq, fun U hU hW => ⟨rfl, by rw [hU]; exact hP, KK.warm hW X.2.2.2.2.2.1⟩⟩ rfl rfl hl.1 rfl (lv_room hst) d hC2) hS (fun q _ h => h) (fun q h => h) (fun r u t H1 locs1 ht hvm hw hB hz1 hk1 hS1 => k1 r u hw H1 locs1 ls (by rw [← ht]; exact hB.1) hS1 hl)
/-- LayeredClaims$Book.claimsOfEvent(I)I -/
def wp_X0_claimsOfEvent (k : Nat) (a1 : Int32) (M : Mm) (P : Int32 → Mm → Prop) : Prop := (∃ n, lq2 (fun self1 (x3 : Int32) (x4 : Int32) => (k < 9 ∧ (((rd M 0 k 15) ≤ x4 → P x3 M) ∧ (¬ (rd M 0 k 15) ≤ x4 → (vp_in x4 24 ∧ (jn (fun (x8 : Int32) => (∀ x11 : Int32, x11 = x4 + (1 : Int32) → self1 x8 x11)) (fun J9 : Int32 → Prop => ((¬ (rd M 36 k x4.toNatClampNeg) = a1 → J9 x3) ∧ ((rd M 36 k x4.toNatClampNeg) = a1 → (∀ x13 : Int32, x13 = x3 + (1 : Int32) → J9 x13)))))))))) n (0 : Int32) (0 : Int32))
set_option maxHeartbeats 4000000 in
set_option maxRecDepth 100000 in
theorem met_X0_claimsOfEvent {l : Launch} {G : GT} (hG : GD G) (k : Nat) (a1 : Int32) (M : Mm) (P : Int32 → Mm → Prop) (h : wp_X0_claimsOfEvent k a1 M P) : MI l G yX0_claimsOfEvent cX0_claimsOfEvent 4 (some .int) ({ frames := 0, cells := 0, slots := 0, locals := 0 } : Room) [.ref (adr G 0 k), .int a1] M P := by
  refine met_by hG (own := RX0) rfl (by decide +kernel) (Nat.le_of_ble_eq_true rfl) (fun E hE X Y => ?_)
  show J G E 4 0 [(0, .ref (adr G 0 k)), (1, .int a1)] [] M
  unfold wp_X0_claimsOfEvent at h
  refine j_iconst (v := (0 : Int32)) X (by decide) dX0_claimsOfEvent_0 ?_
  refine j_istore_n X [(2, .int (0 : Int32)), (0, .ref (adr G 0 k)), (1, .int a1)] dX0_claimsOfEvent_1 rfl (by decide) rfl ?_
  refine j_iconst (v := (0 : Int32)) X (by decide) dX0_claimsOfEvent_2 ?_
  refine j_istore_n X [(3, .int (0 : Int32)), (2, .int (0 : Int32)), (0, .ref (adr G 0 k)), (1, .int a1)] dX0_claimsOfEvent_3 rfl (by decide) rfl ?_
  refine j_sub [2, 3, 1, 0] rfl ?_
  refine lq2_s h (fun (x3 : Int32) (x4 : Int32) => J G E 4 4 [(0, .ref (adr G 0 k)), (1, .int a1), (2, .int x3), (3, .int x4)] [] M) (fun self1 ih2 x3 x4 h => ?_) id
  refine j_iload_n X 3 dX0_claimsOfEvent_4 rfl rfl ?_
  refine j_aload_n X 0 dX0_claimsOfEvent_5 rfl rfl ?_
  have q5 := h.1
  replace h := h.2
  refine jf_RX0_68 X q5 dX0_claimsOfEvent_6 ?_
  refine j_icmp_ge X 31 dX0_claimsOfEvent_9 (by decide) (fun c6 => ?_) (fun c6 => ?_)
  · replace h := h.1 c6
    refine j_iload_n X 2 dX0_claimsOfEvent_31 rfl rfl ?_
    exact j_iret X Y dX0_claimsOfEvent_32 h
  · replace h := h.2 c6
    refine j_aload_n X 0 dX0_claimsOfEvent_12 rfl rfl ?_
    refine jf_RX0_45 X q5 dX0_claimsOfEvent_13 ?_
    refine j_iload_n X 3 dX0_claimsOfEvent_16 rfl rfl ?_
    have q7 := h.1
    replace h := h.2
    refine j_iald X _ rfl (mw36 k q5) kt36 lt36 q7 dX0_claimsOfEvent_17 ?_
    refine j_iload_n X 1 dX0_claimsOfEvent_18 rfl rfl ?_
    refine jn1_s h (fun (x8 : Int32) => J G E 4 25 [(0, .ref (adr G 0 k)), (1, .int a1), (2, .int x8), (3, .int x4)] [] M) (fun x8 h => ?_) (fun J9 hj10 h => ?_)
    · obtain ⟨x11, ex11⟩ : ∃ z : Int32, z = x4 + (1 : Int32) := ⟨_, rfl⟩
      replace h := h x11 ex11
      refine j_iinc (v := x11) X 3 [(3, .int x11), (0, .ref (adr G 0 k)), (1, .int a1), (2, .int x8)] dX0_claimsOfEvent_25 rfl (by rw [ex11]; rfl) (by decide) rfl ?_
      refine j_goto X 4 dX0_claimsOfEvent_28 (by decide) ?_
      refine j_sub [1, 2, 3, 0] rfl ?_
      exact ih2 x8 x11 h
    · refine j_icmp_ne X 25 dX0_claimsOfEvent_19 (by decide) (fun c12 => ?_) (fun c12 => ?_)
      · replace h := h.1 c12
        refine j_sub [0, 1, 2, 3] rfl ?_
        exact hj10 x3 h
      · replace h := h.2 c12
        obtain ⟨x13, ex13⟩ : ∃ z : Int32, z = x3 + (1 : Int32) := ⟨_, rfl⟩
        replace h := h x13 ex13
        refine j_iinc (v := x13) X 2 [(2, .int x13), (0, .ref (adr G 0 k)), (1, .int a1), (3, .int x4)] dX0_claimsOfEvent_22 rfl (by rw [ex13]; rfl) (by decide) rfl ?_
        refine j_sub [1, 2, 0, 3] rfl ?_
        exact hj10 x13 h
theorem jc_RX6_203 {G : GT} {E : ET} {cc : ByteArray} {nL pc : Nat} {rm : Room} {lv : List (Nat × Value)} {st : List Value} {M : Mm} (X : CX G E RX6 cc nL rm) (hR : 0 + 1 ≤ rm.frames ∧ 8 + (4 + 11) + 0 ≤ rm.locals) (hst : (st.map fun v => v.category).sum ≤ 8) (d : decode cc pc = .ok (.invokevirtual 203, 3)) {k : Nat} {a1 : Int32} (hk : k < 9) {P : Int32 → Mm → Prop} (h : wp_X0_claimsOfEvent k a1 M P) (k1 : ∀ (r : Int32) (M2 : Mm), P r M2 → J G E nL (pc + 3) lv (.int r :: st) M2) : J G E nL pc lv (.int a1 :: .ref (adr G 0 k) :: st) M := fun H locs ls hP hS hl => by
  have hK := X.2.2.2.2.2.1.1
  have hm := met_X0_claimsOfEvent (l := eL E) X.2.2.2.2.2.2.1 k a1 M P h
  have hR2 : 0 + 1 ≤ (eR E).frames ∧ 8 + (4 + 11) + 0 ≤ (eR E).locals := by rw [X.2.2.2.2.2.2.2.1]; exact hR
  have hC2 : eCells E + 0 ≤ (eR E).cells ∧ eSlots E + 0 ≤ (eR E).slots := by rw [X.2.2.2.2.2.2.2.1]; exact ⟨X.2.2.2.2.2.2.2.2.1, X.2.2.2.2.2.2.2.2.2⟩
  obtain ⟨q0, -, hq⟩ := wld_get (G := G) M (mw0 k hk)
  exact va_calli (va_runV (C := RX0) (As := [.int a1]) (rest := st) ⟨X.1, X.2.1, X.2.2.1, X.2.2.2.1, X.2.2.2.2.1⟩ hm (cwV (ws' := lw_aw) 1 X.2.2.2.2.1 (gwV (tw (i := 654) (by decide +kernel)) (tw (i := 655) (by decide +kernel)) (tw (i := 656) (by decide +kernel)) (tw (i := 73) (by decide +kernel)) (tw (i := 657) (by decide +kernel))) rfl rfl rfl (by decide +kernel) hR2) ⟨hr_blind, va_recv hK hP (ci := 0) (q := (RX0, TX0, 19)) (fs := objF0 G k (M.1 0 k)) (q0 := q0) rfl hq, fun U hU hW => ⟨rfl, by rw [hU]; exact hP, KK.warm hW X.2.2.2.2.2.1⟩⟩ rfl rfl hl.1 rfl (lv_room hst) d hC2) hS (fun q _ h => h) (fun q h => h) (fun r u t H1 locs1 ht hvm hw hB hz1 hk1 hS1 => k1 r u hw H1 locs1 ls (by rw [← ht]; exact hB.1) hS1 hl)
/-- LayeredClaims.sumOf([II)I -/
def wp_X6_sumOf (a1 : Nat × Nat) (a2 : Int32) (M : Mm) (P : Int32 → Mm → Prop) : Prop := (∃ n, lq2 (fun self1 (x3 : Int32) (x4 : Int32) => ((a2 ≤ x4 → P x3 M) ∧ (¬ a2 ≤ x4 → (IA (a1.1, a1.2) ∧ (vp_in x4 (lenT a1.1) ∧ (∀ x8 : Int32, x8 = (x3 + (rd M a1.1 a1.2 x4.toNatClampNeg)) → (∀ x9 : Int32, x9 = x4 + (1 : Int32) → self1 x8 x9))))))) n (0 : Int32) (0 : Int32))
set_option maxHeartbeats 4000000 in
set_option maxRecDepth 100000 in
theorem met_X6_sumOf {l : Launch} {G : GT} (hG : GD G) (a1 : Nat × Nat) (a2 : Int32) (M : Mm) (P : Int32 → Mm → Prop) (h : wp_X6_sumOf a1 a2 M P) : MI l G yX6_sumOf cX6_sumOf 4 (some .int) ({ frames := 0, cells := 0, slots := 0, locals := 0 } : Room) [.ref (adr G a1.1 a1.2), .int a2] M P := by
  refine met_by hG (own := RX6) rfl (by decide +kernel) (Nat.le_of_ble_eq_true rfl) (fun E hE X Y => ?_)
  show J G E 4 0 [(0, .ref (adr G a1.1 a1.2)), (1, .int a2)] [] M
  unfold wp_X6_sumOf at h
  refine j_iconst (v := (0 : Int32)) X (by decide) dX6_sumOf_0 ?_
  refine j_istore_n X [(2, .int (0 : Int32)), (0, .ref (adr G a1.1 a1.2)), (1, .int a2)] dX6_sumOf_1 rfl (by decide) rfl ?_
  refine j_iconst (v := (0 : Int32)) X (by decide) dX6_sumOf_2 ?_
  refine j_istore_n X [(3, .int (0 : Int32)), (2, .int (0 : Int32)), (0, .ref (adr G a1.1 a1.2)), (1, .int a2)] dX6_sumOf_3 rfl (by decide) rfl ?_
  refine j_sub [2, 3, 1, 0] rfl ?_
  refine lq2_s h (fun (x3 : Int32) (x4 : Int32) => J G E 4 4 [(0, .ref (adr G a1.1 a1.2)), (1, .int a2), (2, .int x3), (3, .int x4)] [] M) (fun self1 ih2 x3 x4 h => ?_) id
  refine j_iload_n X 3 dX6_sumOf_4 rfl rfl ?_
  refine j_iload_n X 1 dX6_sumOf_5 rfl rfl ?_
  refine j_icmp_ge X 21 dX6_sumOf_6 (by decide) (fun c5 => ?_) (fun c5 => ?_)
  · replace h := h.1 c5
    refine j_iload_n X 2 dX6_sumOf_21 rfl rfl ?_
    exact j_iret X Y dX6_sumOf_22 h
  · replace h := h.2 c5
    refine j_iload_n X 2 dX6_sumOf_9 rfl rfl ?_
    refine j_aload_n X 0 dX6_sumOf_10 rfl rfl ?_
    refine j_iload_n X 3 dX6_sumOf_11 rfl rfl ?_
    have q6 := h.1
    replace h := h.2
    have q7 := h.1
    replace h := h.2
    refine j_iald X _ rfl q6.1 q6.2 rfl q7 dX6_sumOf_12 ?_
    refine j_iadd X dX6_sumOf_13 ?_
    refine j_topi (fun x8 ex8 => ?_)
    replace h := h x8 ex8
    refine j_istore_n X [(2, .int x8), (0, .ref (adr G a1.1 a1.2)), (1, .int a2), (3, .int x4)] dX6_sumOf_14 rfl (by decide) rfl ?_
    obtain ⟨x9, ex9⟩ : ∃ z : Int32, z = x4 + (1 : Int32) := ⟨_, rfl⟩
    replace h := h x9 ex9
    refine j_iinc (v := x9) X 3 [(3, .int x9), (2, .int x8), (0, .ref (adr G a1.1 a1.2)), (1, .int a2)] dX6_sumOf_15 rfl (by rw [ex9]; rfl) (by decide) rfl ?_
    refine j_goto X 4 dX6_sumOf_18 (by decide) ?_
    refine j_sub [2, 3, 1, 0] rfl ?_
    exact ih2 x8 x9 h
theorem jc_RX0_90 {G : GT} {E : ET} {cc : ByteArray} {nL pc : Nat} {rm : Room} {lv : List (Nat × Value)} {st : List Value} {M : Mm} (X : CX G E RX0 cc nL rm) (hR : 0 + 1 ≤ rm.frames ∧ 8 + (4 + 11) + 0 ≤ rm.locals) (hst : (st.map fun v => v.category).sum ≤ 8) (d : decode cc pc = .ok (.invokestatic 90, 3)) {a1t a1b : Nat} {a2 : Int32} {P : Int32 → Mm → Prop} (h : wp_X6_sumOf (a1t, a1b) a2 M P) (k1 : ∀ (r : Int32) (M2 : Mm), P r M2 → J G E nL (pc + 3) lv (.int r :: st) M2) : J G E nL pc lv (.int a2 :: .ref (adr G a1t a1b) :: st) M := fun H locs ls hP hS hl => by
  have hK := X.2.2.2.2.2.1.1
  have hm := met_X6_sumOf (l := eL E) X.2.2.2.2.2.2.1 (a1t, a1b) a2 M P h
  have hR2 : 0 + 1 ≤ (eR E).frames ∧ 8 + (4 + 11) + 0 ≤ (eR E).locals := by rw [X.2.2.2.2.2.2.2.1]; exact hR
  have hC2 : eCells E + 0 ≤ (eR E).cells ∧ eSlots E + 0 ≤ (eR E).slots := by rw [X.2.2.2.2.2.2.2.1]; exact ⟨X.2.2.2.2.2.2.2.2.1, X.2.2.2.2.2.2.2.2.2⟩
  exact va_calli (va_runSN (As := [.ref (adr G a1t a1b), .int a2]) (rest := st) ⟨X.1, X.2.1, X.2.2.1, X.2.2.2.1, X.2.2.2.2.1⟩ hm ⟨va_cnB (host := "LayeredClaims") (ws' := lw_aw) 2 X.2.2.2.2.1 (good_ws (tw (i := 592) (by decide +kernel))) rfl rfl rfl (X.2.2.2.2.2.1.2 _ (tn (i := 756) (by decide +kernel))) (X.2.2.2.2.1 _ (tw (i := 71) (by decide +kernel))) (by decide +kernel) hR2, X.2.2.2.2.1 _ (tw (i := 591) (by decide +kernel)), trivial⟩ ⟨hr_blind, fun U hU hW => ⟨rfl, by rw [hU]; exact hP, KK.warm hW X.2.2.2.2.2.1⟩⟩ rfl rfl hl.1 rfl (lv_room hst) d hC2) hS (fun q _ h => h) (fun q h => h) (fun r u t H1 locs1 ht hvm hw hB hz1 hk1 hS1 => k1 r u hw H1 locs1 ls (by rw [← ht]; exact hB.1) hS1 hl)
theorem jc_RX2_22 {G : GT} {E : ET} {cc : ByteArray} {nL pc : Nat} {rm : Room} {lv : List (Nat × Value)} {st : List Value} {M : Mm} (X : CX G E RX2 cc nL rm) (hR : 0 + 1 ≤ rm.frames ∧ 8 + (4 + 11) + 0 ≤ rm.locals) (hst : (st.map fun v => v.category).sum ≤ 8) (d : decode cc pc = .ok (.invokestatic 22, 3)) {a1t a1b : Nat} {a2 : Int32} {P : Int32 → Mm → Prop} (h : wp_X6_sumOf (a1t, a1b) a2 M P) (k1 : ∀ (r : Int32) (M2 : Mm), P r M2 → J G E nL (pc + 3) lv (.int r :: st) M2) : J G E nL pc lv (.int a2 :: .ref (adr G a1t a1b) :: st) M := fun H locs ls hP hS hl => by
  have hK := X.2.2.2.2.2.1.1
  have hm := met_X6_sumOf (l := eL E) X.2.2.2.2.2.2.1 (a1t, a1b) a2 M P h
  have hR2 : 0 + 1 ≤ (eR E).frames ∧ 8 + (4 + 11) + 0 ≤ (eR E).locals := by rw [X.2.2.2.2.2.2.2.1]; exact hR
  have hC2 : eCells E + 0 ≤ (eR E).cells ∧ eSlots E + 0 ≤ (eR E).slots := by rw [X.2.2.2.2.2.2.2.1]; exact ⟨X.2.2.2.2.2.2.2.2.1, X.2.2.2.2.2.2.2.2.2⟩
  exact va_calli (va_runSN (As := [.ref (adr G a1t a1b), .int a2]) (rest := st) ⟨X.1, X.2.1, X.2.2.1, X.2.2.2.1, X.2.2.2.2.1⟩ hm ⟨va_cnB (host := "LayeredClaims") (ws' := lw_aw) 2 X.2.2.2.2.1 (good_ws (tw (i := 592) (by decide +kernel))) rfl rfl rfl (X.2.2.2.2.2.1.2 _ (tn (i := 590) (by decide +kernel))) (X.2.2.2.2.1 _ (tw (i := 71) (by decide +kernel))) (by decide +kernel) hR2, X.2.2.2.2.1 _ (tw (i := 591) (by decide +kernel)), trivial⟩ ⟨hr_blind, fun U hU hW => ⟨rfl, by rw [hU]; exact hP, KK.warm hW X.2.2.2.2.2.1⟩⟩ rfl rfl hl.1 rfl (lv_room hst) d hC2) hS (fun q _ h => h) (fun q h => h) (fun r u t H1 locs1 ht hvm hw hB hz1 hk1 hS1 => k1 r u hw H1 locs1 ls (by rw [← ht]; exact hB.1) hS1 hl)
theorem jc_RX5_176 {G : GT} {E : ET} {cc : ByteArray} {nL pc : Nat} {rm : Room} {lv : List (Nat × Value)} {st : List Value} {M : Mm} (X : CX G E RX5 cc nL rm) (hR : 0 + 1 ≤ rm.frames ∧ 8 + (4 + 11) + 0 ≤ rm.locals) (hst : (st.map fun v => v.category).sum ≤ 8) (d : decode cc pc = .ok (.invokestatic 176, 3)) {a1t a1b : Nat} {a2 : Int32} {P : Int32 → Mm → Prop} (h : wp_X6_sumOf (a1t, a1b) a2 M P) (k1 : ∀ (r : Int32) (M2 : Mm), P r M2 → J G E nL (pc + 3) lv (.int r :: st) M2) : J G E nL pc lv (.int a2 :: .ref (adr G a1t a1b) :: st) M := fun H locs ls hP hS hl => by
  have hK := X.2.2.2.2.2.1.1
  have hm := met_X6_sumOf (l := eL E) X.2.2.2.2.2.2.1 (a1t, a1b) a2 M P h
  have hR2 : 0 + 1 ≤ (eR E).frames ∧ 8 + (4 + 11) + 0 ≤ (eR E).locals := by rw [X.2.2.2.2.2.2.2.1]; exact hR
  have hC2 : eCells E + 0 ≤ (eR E).cells ∧ eSlots E + 0 ≤ (eR E).slots := by rw [X.2.2.2.2.2.2.2.1]; exact ⟨X.2.2.2.2.2.2.2.2.1, X.2.2.2.2.2.2.2.2.2⟩
  exact va_calli (va_runSN (As := [.ref (adr G a1t a1b), .int a2]) (rest := st) ⟨X.1, X.2.1, X.2.2.1, X.2.2.2.1, X.2.2.2.2.1⟩ hm ⟨va_cnB (host := "LayeredClaims") (ws' := lw_aw) 2 X.2.2.2.2.1 (good_ws (tw (i := 592) (by decide +kernel))) rfl rfl rfl (X.2.2.2.2.2.1.2 _ (tn (i := 617) (by decide +kernel))) (X.2.2.2.2.1 _ (tw (i := 71) (by decide +kernel))) (by decide +kernel) hR2, X.2.2.2.2.1 _ (tw (i := 591) (by decide +kernel)), trivial⟩ ⟨hr_blind, fun U hU hW => ⟨rfl, by rw [hU]; exact hP, KK.warm hW X.2.2.2.2.2.1⟩⟩ rfl rfl hl.1 rfl (lv_room hst) d hC2) hS (fun q _ h => h) (fun q h => h) (fun r u t H1 locs1 ht hvm hw hB hz1 hk1 hS1 => k1 r u hw H1 locs1 ls (by rw [← ht]; exact hB.1) hS1 hl)
/-- LayeredClaims$Book.sumOfCoverPremiums()I -/
def wp_X0_sumOfCoverPremiums (k : Nat) (M : Mm) (P : Int32 → Mm → Prop) : Prop := (k < 9 ∧ (wp_X6_sumOf (23, k) (rd M 0 k 0) M (fun (r3 : Int32) (M2 : Mm) => P r3 M2)))
set_option maxHeartbeats 4000000 in
set_option maxRecDepth 100000 in
theorem met_X0_sumOfCoverPremiums {l : Launch} {G : GT} (hG : GD G) (k : Nat) (M : Mm) (P : Int32 → Mm → Prop) (h : wp_X0_sumOfCoverPremiums k M P) : MI l G yX0_sumOfCoverPremiums cX0_sumOfCoverPremiums 1 (some .int) ({ frames := 1, cells := 0, slots := 0, locals := 23 } : Room) [.ref (adr G 0 k)] M P := by
  refine met_by hG (own := RX0) rfl (by decide +kernel) (Nat.le_of_ble_eq_true rfl) (fun E hE X Y => ?_)
  show J G E 1 0 [(0, .ref (adr G 0 k))] [] M
  unfold wp_X0_sumOfCoverPremiums at h
  refine j_aload_n X 0 dX0_sumOfCoverPremiums_0 rfl rfl ?_
  have q1 := h.1
  replace h := h.2
  refine jf_RX0_18 X q1 dX0_sumOfCoverPremiums_1 ?_
  refine j_aload_n X 0 dX0_sumOfCoverPremiums_4 rfl rfl ?_
  refine jf_RX0_54 X q1 dX0_sumOfCoverPremiums_5 ?_
  refine jc_RX0_90 X ⟨Nat.le_of_ble_eq_true rfl, Nat.le_of_ble_eq_true rfl⟩ (Nat.le_of_ble_eq_true rfl) dX0_sumOfCoverPremiums_8 h (fun r3 M2 h => ?_)
  exact j_iret X Y dX0_sumOfCoverPremiums_11 h
theorem jc_RX6_291 {G : GT} {E : ET} {cc : ByteArray} {nL pc : Nat} {rm : Room} {lv : List (Nat × Value)} {st : List Value} {M : Mm} (X : CX G E RX6 cc nL rm) (hR : 1 + 1 ≤ rm.frames ∧ 8 + (1 + 11) + 23 ≤ rm.locals) (hst : (st.map fun v => v.category).sum ≤ 8) (d : decode cc pc = .ok (.invokevirtual 291, 3)) {k : Nat} (hk : k < 9) {P : Int32 → Mm → Prop} (h : wp_X0_sumOfCoverPremiums k M P) (k1 : ∀ (r : Int32) (M2 : Mm), P r M2 → J G E nL (pc + 3) lv (.int r :: st) M2) : J G E nL pc lv (.ref (adr G 0 k) :: st) M := fun H locs ls hP hS hl => by
  have hK := X.2.2.2.2.2.1.1
  have hm := met_X0_sumOfCoverPremiums (l := eL E) X.2.2.2.2.2.2.1 k M P h
  have hR2 : 1 + 1 ≤ (eR E).frames ∧ 8 + (1 + 11) + 23 ≤ (eR E).locals := by rw [X.2.2.2.2.2.2.2.1]; exact hR
  have hC2 : eCells E + 0 ≤ (eR E).cells ∧ eSlots E + 0 ≤ (eR E).slots := by rw [X.2.2.2.2.2.2.2.1]; exact ⟨X.2.2.2.2.2.2.2.2.1, X.2.2.2.2.2.2.2.2.2⟩
  obtain ⟨q0, -, hq⟩ := wld_get (G := G) M (mw0 k hk)
  exact va_calli (va_runV (C := RX0) (As := []) (rest := st) ⟨X.1, X.2.1, X.2.2.1, X.2.2.2.1, X.2.2.2.2.1⟩ hm (cwV (ws' := lw_aw) 0 X.2.2.2.2.1 (gwV (tw (i := 752) (by decide +kernel)) (tw (i := 753) (by decide +kernel)) (tw (i := 754) (by decide +kernel)) (tw (i := 73) (by decide +kernel)) (tw (i := 755) (by decide +kernel))) rfl rfl rfl (by decide +kernel) hR2) ⟨hr_blind, va_recv hK hP (ci := 0) (q := (RX0, TX0, 19)) (fs := objF0 G k (M.1 0 k)) (q0 := q0) rfl hq, fun U hU hW => ⟨rfl, by rw [hU]; exact hP, KK.warm hW X.2.2.2.2.2.1⟩⟩ rfl rfl hl.1 rfl (lv_room hst) d hC2) hS (fun q _ h => h) (fun q h => h) (fun r u t H1 locs1 ht hvm hw hB hz1 hk1 hS1 => k1 r u hw H1 locs1 ls (by rw [← ht]; exact hB.1) hS1 hl)
/-- LayeredClaims$Book.writeCover(I[I)V -/
def wp_X0_writeCover (k : Nat) (a1 : Int32) (a2 : Nat × Nat) (M : Mm) (P : Mm → Prop) : Prop := (k < 9 ∧ (vp_in a1 6 ∧ (IA (a2.1, a2.2) ∧ (vp_in (0 : Int32) (lenT a2.1) ∧ (∀ M5 : Mm, M5 = wr M a2.1 a2.2 0 (rd M 21 k a1.toNatClampNeg) → (vp_in (1 : Int32) (lenT a2.1) ∧ (∀ M7 : Mm, M7 = wr M5 a2.1 a2.2 1 (rd M5 22 k a1.toNatClampNeg) → (vp_in (2 : Int32) (lenT a2.1) ∧ (∀ M9 : Mm, M9 = wr M7 a2.1 a2.2 2 (rd M7 23 k a1.toNatClampNeg) → (vp_in (3 : Int32) (lenT a2.1) ∧ (∀ M11 : Mm, M11 = wr M9 a2.1 a2.2 3 (rd M9 24 k a1.toNatClampNeg) → P M11)))))))))))
set_option maxHeartbeats 4000000 in
set_option maxRecDepth 100000 in
theorem met_X0_writeCover {l : Launch} {G : GT} (hG : GD G) (k : Nat) (a1 : Int32) (a2 : Nat × Nat) (M : Mm) (P : Mm → Prop) (h : wp_X0_writeCover k a1 a2 M P) : MV l G yX0_writeCover cX0_writeCover 3 none ({ frames := 0, cells := 0, slots := 0, locals := 0 } : Room) [.ref (adr G 0 k), .int a1, .ref (adr G a2.1 a2.2)] M P := by
  refine met_by hG (own := RX0) rfl (by decide +kernel) (Nat.le_of_ble_eq_true rfl) (fun E hE X Y => ?_)
  show J G E 3 0 [(0, .ref (adr G 0 k)), (1, .int a1), (2, .ref (adr G a2.1 a2.2))] [] M
  unfold wp_X0_writeCover at h
  refine j_aload_n X 2 dX0_writeCover_0 rfl rfl ?_
  refine j_iconst (v := (0 : Int32)) X (by decide) dX0_writeCover_1 ?_
  refine j_aload_n X 0 dX0_writeCover_2 rfl rfl ?_
  have q1 := h.1
  replace h := h.2
  refine jf_RX0_9 X q1 dX0_writeCover_3 ?_
  refine j_iload_n X 1 dX0_writeCover_6 rfl rfl ?_
  have q2 := h.1
  replace h := h.2
  refine j_iald X _ rfl (mw21 k q1) kt21 lt21 q2 dX0_writeCover_7 ?_
  have q3 := h.1
  replace h := h.2
  have q4 := h.1
  replace h := h.2
  refine j_iast X 0 (by decide) q3.1 q3.2 rfl q4 dX0_writeCover_8 ?_
  refine j_memo (fun M5 eM5 => ?_)
  replace h := h M5 eM5
  refine j_aload_n X 2 dX0_writeCover_9 rfl rfl ?_
  refine j_iconst (v := (1 : Int32)) X (by decide) dX0_writeCover_10 ?_
  refine j_aload_n X 0 dX0_writeCover_11 rfl rfl ?_
  refine jf_RX0_15 X q1 dX0_writeCover_12 ?_
  refine j_iload_n X 1 dX0_writeCover_15 rfl rfl ?_
  refine j_iald X _ rfl (mw22 k q1) kt22 lt22 q2 dX0_writeCover_16 ?_
  have q6 := h.1
  replace h := h.2
  refine j_iast X 1 (by decide) q3.1 q3.2 rfl q6 dX0_writeCover_17 ?_
  refine j_memo (fun M7 eM7 => ?_)
  replace h := h M7 eM7
  refine j_aload_n X 2 dX0_writeCover_18 rfl rfl ?_
  refine j_iconst (v := (2 : Int32)) X (by decide) dX0_writeCover_19 ?_
  refine j_aload_n X 0 dX0_writeCover_20 rfl rfl ?_
  refine jf_RX0_18 X q1 dX0_writeCover_21 ?_
  refine j_iload_n X 1 dX0_writeCover_24 rfl rfl ?_
  refine j_iald X _ rfl (mw23 k q1) kt23 lt23 q2 dX0_writeCover_25 ?_
  have q8 := h.1
  replace h := h.2
  refine j_iast X 2 (by decide) q3.1 q3.2 rfl q8 dX0_writeCover_26 ?_
  refine j_memo (fun M9 eM9 => ?_)
  replace h := h M9 eM9
  refine j_aload_n X 2 dX0_writeCover_27 rfl rfl ?_
  refine j_iconst (v := (3 : Int32)) X (by decide) dX0_writeCover_28 ?_
  refine j_aload_n X 0 dX0_writeCover_29 rfl rfl ?_
  refine jf_RX0_21 X q1 dX0_writeCover_30 ?_
  refine j_iload_n X 1 dX0_writeCover_33 rfl rfl ?_
  refine j_iald X _ rfl (mw24 k q1) kt24 lt24 q2 dX0_writeCover_34 ?_
  have q10 := h.1
  replace h := h.2
  refine j_iast X 3 (by decide) q3.1 q3.2 rfl q10 dX0_writeCover_35 ?_
  refine j_memo (fun M11 eM11 => ?_)
  replace h := h M11 eM11
  exact j_vret X Y dX0_writeCover_36 h
theorem jc_RX6_331 {G : GT} {E : ET} {cc : ByteArray} {nL pc : Nat} {rm : Room} {lv : List (Nat × Value)} {st : List Value} {M : Mm} (X : CX G E RX6 cc nL rm) (hR : 0 + 1 ≤ rm.frames ∧ 8 + (3 + 11) + 0 ≤ rm.locals) (hst : (st.map fun v => v.category).sum ≤ 8) (d : decode cc pc = .ok (.invokevirtual 331, 3)) {k : Nat} {a1 : Int32} {a2t a2b : Nat} (hk : k < 9) {P : Mm → Prop} (h : wp_X0_writeCover k a1 (a2t, a2b) M P) (k1 : ∀ M2 : Mm, P M2 → J G E nL (pc + 3) lv st M2) : J G E nL pc lv (.ref (adr G a2t a2b) :: .int a1 :: .ref (adr G 0 k) :: st) M := fun H locs ls hP hS hl => by
  have hK := X.2.2.2.2.2.1.1
  have hm := met_X0_writeCover (l := eL E) X.2.2.2.2.2.2.1 k a1 (a2t, a2b) M P h
  have hR2 : 0 + 1 ≤ (eR E).frames ∧ 8 + (3 + 11) + 0 ≤ (eR E).locals := by rw [X.2.2.2.2.2.2.2.1]; exact hR
  have hC2 : eCells E + 0 ≤ (eR E).cells ∧ eSlots E + 0 ≤ (eR E).slots := by rw [X.2.2.2.2.2.2.2.1]; exact ⟨X.2.2.2.2.2.2.2.2.1, X.2.2.2.2.2.2.2.2.2⟩
  obtain ⟨q0, -, hq⟩ := wld_get (G := G) M (mw0 k hk)
  exact va_callv (va_runV (C := RX0) (As := [.int a1, .ref (adr G a2t a2b)]) (rest := st) ⟨X.1, X.2.1, X.2.2.1, X.2.2.2.1, X.2.2.2.2.1⟩ hm (cwV (ws' := lw_aw) 2 X.2.2.2.2.1 (gwV (tw (i := 824) (by decide +kernel)) (tw (i := 825) (by decide +kernel)) (tw (i := 826) (by decide +kernel)) (tw (i := 73) (by decide +kernel)) (tw (i := 827) (by decide +kernel))) rfl rfl rfl (by decide +kernel) hR2) ⟨hr_blind, va_recv hK hP (ci := 0) (q := (RX0, TX0, 19)) (fs := objF0 G k (M.1 0 k)) (q0 := q0) rfl hq, fun U hU hW => ⟨rfl, by rw [hU]; exact hP, KK.warm hW X.2.2.2.2.2.1⟩⟩ rfl rfl hl.1 rfl (lv_room hst) d hC2) hS (fun q _ h => h) (fun q h => h) (fun u t H1 locs1 ht hvm hw hB hz1 hk1 hS1 => k1 u hw H1 locs1 ls (by rw [← ht]; exact hB.1) hS1 hl)
/-- LayeredClaims$Book.writeLayer(I[I)V -/
def wp_X0_writeLayer (k : Nat) (a1 : Int32) (a2 : Nat × Nat) (M : Mm) (P : Mm → Prop) : Prop := (k < 9 ∧ (vp_in a1 4 ∧ (IA (a2.1, a2.2) ∧ (vp_in (0 : Int32) (lenT a2.1) ∧ (∀ M5 : Mm, M5 = wr M a2.1 a2.2 0 (rd M 26 k a1.toNatClampNeg) → (vp_in (1 : Int32) (lenT a2.1) ∧ (∀ M7 : Mm, M7 = wr M5 a2.1 a2.2 1 (rd M5 27 k a1.toNatClampNeg) → (vp_in (2 : Int32) (lenT a2.1) ∧ (∀ M9 : Mm, M9 = wr M7 a2.1 a2.2 2 (rd M7 28 k a1.toNatClampNeg) → (vp_in (3 : Int32) (lenT a2.1) ∧ (∀ M11 : Mm, M11 = wr M9 a2.1 a2.2 3 (rd M9 29 k a1.toNatClampNeg) → P M11)))))))))))
set_option maxHeartbeats 4000000 in
set_option maxRecDepth 100000 in
theorem met_X0_writeLayer {l : Launch} {G : GT} (hG : GD G) (k : Nat) (a1 : Int32) (a2 : Nat × Nat) (M : Mm) (P : Mm → Prop) (h : wp_X0_writeLayer k a1 a2 M P) : MV l G yX0_writeLayer cX0_writeLayer 3 none ({ frames := 0, cells := 0, slots := 0, locals := 0 } : Room) [.ref (adr G 0 k), .int a1, .ref (adr G a2.1 a2.2)] M P := by
  refine met_by hG (own := RX0) rfl (by decide +kernel) (Nat.le_of_ble_eq_true rfl) (fun E hE X Y => ?_)
  show J G E 3 0 [(0, .ref (adr G 0 k)), (1, .int a1), (2, .ref (adr G a2.1 a2.2))] [] M
  unfold wp_X0_writeLayer at h
  refine j_aload_n X 2 dX0_writeLayer_0 rfl rfl ?_
  refine j_iconst (v := (0 : Int32)) X (by decide) dX0_writeLayer_1 ?_
  refine j_aload_n X 0 dX0_writeLayer_2 rfl rfl ?_
  have q1 := h.1
  replace h := h.2
  refine jf_RX0_24 X q1 dX0_writeLayer_3 ?_
  refine j_iload_n X 1 dX0_writeLayer_6 rfl rfl ?_
  have q2 := h.1
  replace h := h.2
  refine j_iald X _ rfl (mw26 k q1) kt26 lt26 q2 dX0_writeLayer_7 ?_
  have q3 := h.1
  replace h := h.2
  have q4 := h.1
  replace h := h.2
  refine j_iast X 0 (by decide) q3.1 q3.2 rfl q4 dX0_writeLayer_8 ?_
  refine j_memo (fun M5 eM5 => ?_)
  replace h := h M5 eM5
  refine j_aload_n X 2 dX0_writeLayer_9 rfl rfl ?_
  refine j_iconst (v := (1 : Int32)) X (by decide) dX0_writeLayer_10 ?_
  refine j_aload_n X 0 dX0_writeLayer_11 rfl rfl ?_
  refine jf_RX0_27 X q1 dX0_writeLayer_12 ?_
  refine j_iload_n X 1 dX0_writeLayer_15 rfl rfl ?_
  refine j_iald X _ rfl (mw27 k q1) kt27 lt27 q2 dX0_writeLayer_16 ?_
  have q6 := h.1
  replace h := h.2
  refine j_iast X 1 (by decide) q3.1 q3.2 rfl q6 dX0_writeLayer_17 ?_
  refine j_memo (fun M7 eM7 => ?_)
  replace h := h M7 eM7
  refine j_aload_n X 2 dX0_writeLayer_18 rfl rfl ?_
  refine j_iconst (v := (2 : Int32)) X (by decide) dX0_writeLayer_19 ?_
  refine j_aload_n X 0 dX0_writeLayer_20 rfl rfl ?_
  refine jf_RX0_30 X q1 dX0_writeLayer_21 ?_
  refine j_iload_n X 1 dX0_writeLayer_24 rfl rfl ?_
  refine j_iald X _ rfl (mw28 k q1) kt28 lt28 q2 dX0_writeLayer_25 ?_
  have q8 := h.1
  replace h := h.2
  refine j_iast X 2 (by decide) q3.1 q3.2 rfl q8 dX0_writeLayer_26 ?_
  refine j_memo (fun M9 eM9 => ?_)
  replace h := h M9 eM9
  refine j_aload_n X 2 dX0_writeLayer_27 rfl rfl ?_
  refine j_iconst (v := (3 : Int32)) X (by decide) dX0_writeLayer_28 ?_
  refine j_aload_n X 0 dX0_writeLayer_29 rfl rfl ?_
  refine jf_RX0_33 X q1 dX0_writeLayer_30 ?_
  refine j_iload_n X 1 dX0_writeLayer_33 rfl rfl ?_
  refine j_iald X _ rfl (mw29 k q1) kt29 lt29 q2 dX0_writeLayer_34 ?_
  have q10 := h.1
  replace h := h.2
  refine j_iast X 3 (by decide) q3.1 q3.2 rfl q10 dX0_writeLayer_35 ?_
  refine j_memo (fun M11 eM11 => ?_)
  replace h := h M11 eM11
  exact j_vret X Y dX0_writeLayer_36 h
theorem jc_RX6_335 {G : GT} {E : ET} {cc : ByteArray} {nL pc : Nat} {rm : Room} {lv : List (Nat × Value)} {st : List Value} {M : Mm} (X : CX G E RX6 cc nL rm) (hR : 0 + 1 ≤ rm.frames ∧ 8 + (3 + 11) + 0 ≤ rm.locals) (hst : (st.map fun v => v.category).sum ≤ 8) (d : decode cc pc = .ok (.invokevirtual 335, 3)) {k : Nat} {a1 : Int32} {a2t a2b : Nat} (hk : k < 9) {P : Mm → Prop} (h : wp_X0_writeLayer k a1 (a2t, a2b) M P) (k1 : ∀ M2 : Mm, P M2 → J G E nL (pc + 3) lv st M2) : J G E nL pc lv (.ref (adr G a2t a2b) :: .int a1 :: .ref (adr G 0 k) :: st) M := fun H locs ls hP hS hl => by
  have hK := X.2.2.2.2.2.1.1
  have hm := met_X0_writeLayer (l := eL E) X.2.2.2.2.2.2.1 k a1 (a2t, a2b) M P h
  have hR2 : 0 + 1 ≤ (eR E).frames ∧ 8 + (3 + 11) + 0 ≤ (eR E).locals := by rw [X.2.2.2.2.2.2.2.1]; exact hR
  have hC2 : eCells E + 0 ≤ (eR E).cells ∧ eSlots E + 0 ≤ (eR E).slots := by rw [X.2.2.2.2.2.2.2.1]; exact ⟨X.2.2.2.2.2.2.2.2.1, X.2.2.2.2.2.2.2.2.2⟩
  obtain ⟨q0, -, hq⟩ := wld_get (G := G) M (mw0 k hk)
  exact va_callv (va_runV (C := RX0) (As := [.int a1, .ref (adr G a2t a2b)]) (rest := st) ⟨X.1, X.2.1, X.2.2.1, X.2.2.2.1, X.2.2.2.2.1⟩ hm (cwV (ws' := lw_aw) 2 X.2.2.2.2.1 (gwV (tw (i := 828) (by decide +kernel)) (tw (i := 829) (by decide +kernel)) (tw (i := 830) (by decide +kernel)) (tw (i := 73) (by decide +kernel)) (tw (i := 831) (by decide +kernel))) rfl rfl rfl (by decide +kernel) hR2) ⟨hr_blind, va_recv hK hP (ci := 0) (q := (RX0, TX0, 19)) (fs := objF0 G k (M.1 0 k)) (q0 := q0) rfl hq, fun U hU hW => ⟨rfl, by rw [hU]; exact hP, KK.warm hW X.2.2.2.2.2.1⟩⟩ rfl rfl hl.1 rfl (lv_room hst) d hC2) hS (fun q _ h => h) (fun q h => h) (fun u t H1 locs1 ht hvm hw hB hz1 hk1 hS1 => k1 u hw H1 locs1 ls (by rw [← ht]; exact hB.1) hS1 hl)
