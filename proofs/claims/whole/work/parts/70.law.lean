/-! THE LAW, from its loop on -/
section LAWROWS
variable {G : GT} {E : ET} {own : String} {cc : ByteArray} {nL pc : Nat} {rm : Room} {lv : List (Nat × Value)} {st : List Value} {M : Mm}
def LX (G : GT) (E : ET) (b L : Nat) (xs : Nat → Int32) : Prop := va_X b L xs (eS E) (eH0 E) ∧ b < (eH0 E).size ∧ ¬ gA G b
theorem j_sld (X : CX G E own cc nL rm) {b L : Nat} {xs : Nat → Int32} (hX : LX G E b L xs) {i : Int32} (hin : vp_in i L) (d : decode cc pc = .ok (.iaload, 1)) (k : J G E nL (pc + 1) lv (.int (xs i.toNatClampNeg) :: st) M) : J G E nL pc lv (.int i :: .ref b :: st) M := fun H locs ls hP hS hl => va_sld X.1 X.2.1 hX.1 hX.2.1 hX.2.2 hS hin d (k H locs ls hP hS hl)
theorem j_slen (X : CX G E own cc nL rm) {b L : Nat} {xs : Nat → Int32} (hX : LX G E b L xs) (d : decode cc pc = .ok (.arraylength, 1)) (k : J G E nL (pc + 1) lv (.int (Int32.ofNat L) :: st) M) : J G E nL pc lv (.ref b :: st) M := fun H locs ls hP hS hl => va_slen X.1 X.2.1 hX.1 hX.2.1 hX.2.2 hS d (k H locs ls hP hS hl)
/-- the law's end with true -/
def LR (G : GT) (E : ET) (cc : ByteArray) : Prop := ∀ (pc : Nat) (H : Heap) (locs : List Loc) (ls : Array Slot), decode cc pc = .ok (.ireturn, 1) → va_S (gA G) (eH0 E) H locs → WJ E H locs ls pc [.int 1]
theorem j_lret (hlr : LR G E cc) (d : decode cc pc = .ok (.ireturn, 1)) : J G E nL pc lv [.int 1] M := fun H locs ls _ hS _ => hlr pc H locs ls d hS
end LAWROWS
theorem jc_RL_13 {G : GT} {E : ET} {cc : ByteArray} {nL pc : Nat} {rm : Room} {lv : List (Nat × Value)} {st : List Value} {M : Mm} (X : CX G E RL cc nL rm) (hR : 3 + 1 ≤ rm.frames ∧ 8 + (5 + 11) + 68 ≤ rm.locals) (hst : (st.map fun v => v.category).sum ≤ 8) (d : decode cc pc = .ok (.invokevirtual 13, 3)) {a1 : Int32} {a2 : Int32} {a3 : Int32} {a4 : Int32} {P : Int32 → Mm → Prop} (h : wp_X6_addCover a1 a2 a3 a4 M P) (k1 : ∀ (r : Int32) (M2 : Mm), P r M2 → J G E nL (pc + 3) lv (.int r :: st) M2) : J G E nL pc lv (.int a4 :: .int a3 :: .int a2 :: .int a1 :: .ref (adr G 6 0) :: st) M := fun H locs ls hP hS hl => by
  have hK := X.2.2.2.2.2.1.1
  have hm := met_X6_addCover (l := eL E) X.2.2.2.2.2.2.1 a1 a2 a3 a4 M P h
  have hR2 : 3 + 1 ≤ (eR E).frames ∧ 8 + (5 + 11) + 68 ≤ (eR E).locals := by rw [X.2.2.2.2.2.2.2.1]; exact hR
  have hC2 : eCells E + 0 ≤ (eR E).cells ∧ eSlots E + 0 ≤ (eR E).slots := by rw [X.2.2.2.2.2.2.2.1]; exact ⟨X.2.2.2.2.2.2.2.2.1, X.2.2.2.2.2.2.2.2.2⟩
  obtain ⟨q0, -, hq⟩ := wld_get (G := G) M (mw6 0 (by decide))
  exact va_calli (va_runV (C := RX6) (As := [.int a1, .int a2, .int a3, .int a4]) (rest := st) ⟨X.1, X.2.1, X.2.2.1, X.2.2.2.1, X.2.2.2.2.1⟩ hm (cwV (ws' := lw_aw) 4 X.2.2.2.2.1 (gwV (tw (i := 378) (by decide +kernel)) (tw (i := 379) (by decide +kernel)) (tw (i := 380) (by decide +kernel)) (tw (i := 71) (by decide +kernel)) (tw (i := 381) (by decide +kernel))) rfl rfl rfl (by decide +kernel) hR2) ⟨hr_blind, va_recv hK hP (ci := 6) (q := (RX6, TX6, 8)) (fs := objF6 G 0 (M.1 6 0)) (q0 := q0) rfl hq, fun U hU hW => ⟨rfl, by rw [hU]; exact hP, KK.warm hW X.2.2.2.2.2.1⟩⟩ rfl rfl hl.1 rfl (lv_room hst) d hC2) hS (fun q _ h => h) (fun q h => h) (fun r u t H1 locs1 ht hvm hw hB hz1 hk1 hS1 => k1 r u hw H1 locs1 ls (by rw [← ht]; exact hB.1) hS1 hl)
theorem jc_RL_17 {G : GT} {E : ET} {cc : ByteArray} {nL pc : Nat} {rm : Room} {lv : List (Nat × Value)} {st : List Value} {M : Mm} (X : CX G E RL cc nL rm) (hR : 3 + 1 ≤ rm.frames ∧ 8 + (5 + 11) + 66 ≤ rm.locals) (hst : (st.map fun v => v.category).sum ≤ 8) (d : decode cc pc = .ok (.invokevirtual 17, 3)) {a1 : Int32} {a2 : Int32} {a3 : Int32} {a4 : Int32} {P : Int32 → Mm → Prop} (h : wp_X7_addCover a1 a2 a3 a4 M P) (k1 : ∀ (r : Int32) (M2 : Mm), P r M2 → J G E nL (pc + 3) lv (.int r :: st) M2) : J G E nL pc lv (.int a4 :: .int a3 :: .int a2 :: .int a1 :: .ref (adr G 7 0) :: st) M := fun H locs ls hP hS hl => by
  have hK := X.2.2.2.2.2.1.1
  have hm := met_X7_addCover (l := eL E) X.2.2.2.2.2.2.1 a1 a2 a3 a4 M P h
  have hR2 : 3 + 1 ≤ (eR E).frames ∧ 8 + (5 + 11) + 66 ≤ (eR E).locals := by rw [X.2.2.2.2.2.2.2.1]; exact hR
  have hC2 : eCells E + 0 ≤ (eR E).cells ∧ eSlots E + 0 ≤ (eR E).slots := by rw [X.2.2.2.2.2.2.2.1]; exact ⟨X.2.2.2.2.2.2.2.2.1, X.2.2.2.2.2.2.2.2.2⟩
  obtain ⟨q0, -, hq⟩ := wld_get (G := G) M (mw7 0 (by decide))
  exact va_calli (va_runV (C := RX7) (As := [.int a1, .int a2, .int a3, .int a4]) (rest := st) ⟨X.1, X.2.1, X.2.2.1, X.2.2.2.1, X.2.2.2.2.1⟩ hm (cwV (ws' := lw_aw) 4 X.2.2.2.2.1 (gwV (tw (i := 918) (by decide +kernel)) (tw (i := 919) (by decide +kernel)) (tw (i := 920) (by decide +kernel)) (tw (i := 78) (by decide +kernel)) (tw (i := 921) (by decide +kernel))) rfl rfl rfl (by decide +kernel) hR2) ⟨hr_blind, va_recv hK hP (ci := 7) (q := (RX7, TX7, 15)) (fs := objF7 G 0 (M.1 7 0)) (q0 := q0) rfl hq, fun U hU hW => ⟨rfl, by rw [hU]; exact hP, KK.warm hW X.2.2.2.2.2.1⟩⟩ rfl rfl hl.1 rfl (lv_room hst) d hC2) hS (fun q _ h => h) (fun q h => h) (fun r u t H1 locs1 ht hvm hw hB hz1 hk1 hS1 => k1 r u hw H1 locs1 ls (by rw [← ht]; exact hB.1) hS1 hl)
theorem jc_RL_18 {G : GT} {E : ET} {cc : ByteArray} {nL pc : Nat} {rm : Room} {lv : List (Nat × Value)} {st : List Value} {M : Mm} (X : CX G E RL cc nL rm) (hR : 3 + 1 ≤ rm.frames ∧ 8 + (5 + 11) + 68 ≤ rm.locals) (hst : (st.map fun v => v.category).sum ≤ 8) (d : decode cc pc = .ok (.invokevirtual 18, 3)) {a1 : Int32} {a2 : Int32} {a3 : Int32} {a4 : Int32} {P : Int32 → Mm → Prop} (h : wp_X6_addLayer a1 a2 a3 a4 M P) (k1 : ∀ (r : Int32) (M2 : Mm), P r M2 → J G E nL (pc + 3) lv (.int r :: st) M2) : J G E nL pc lv (.int a4 :: .int a3 :: .int a2 :: .int a1 :: .ref (adr G 6 0) :: st) M := fun H locs ls hP hS hl => by
  have hK := X.2.2.2.2.2.1.1
  have hm := met_X6_addLayer (l := eL E) X.2.2.2.2.2.2.1 a1 a2 a3 a4 M P h
  have hR2 : 3 + 1 ≤ (eR E).frames ∧ 8 + (5 + 11) + 68 ≤ (eR E).locals := by rw [X.2.2.2.2.2.2.2.1]; exact hR
  have hC2 : eCells E + 0 ≤ (eR E).cells ∧ eSlots E + 0 ≤ (eR E).slots := by rw [X.2.2.2.2.2.2.2.1]; exact ⟨X.2.2.2.2.2.2.2.2.1, X.2.2.2.2.2.2.2.2.2⟩
  obtain ⟨q0, -, hq⟩ := wld_get (G := G) M (mw6 0 (by decide))
  exact va_calli (va_runV (C := RX6) (As := [.int a1, .int a2, .int a3, .int a4]) (rest := st) ⟨X.1, X.2.1, X.2.2.1, X.2.2.2.1, X.2.2.2.2.1⟩ hm (cwV (ws' := lw_aw) 4 X.2.2.2.2.1 (gwV (tw (i := 412) (by decide +kernel)) (tw (i := 413) (by decide +kernel)) (tw (i := 414) (by decide +kernel)) (tw (i := 71) (by decide +kernel)) (tw (i := 415) (by decide +kernel))) rfl rfl rfl (by decide +kernel) hR2) ⟨hr_blind, va_recv hK hP (ci := 6) (q := (RX6, TX6, 8)) (fs := objF6 G 0 (M.1 6 0)) (q0 := q0) rfl hq, fun U hU hW => ⟨rfl, by rw [hU]; exact hP, KK.warm hW X.2.2.2.2.2.1⟩⟩ rfl rfl hl.1 rfl (lv_room hst) d hC2) hS (fun q _ h => h) (fun q h => h) (fun r u t H1 locs1 ht hvm hw hB hz1 hk1 hS1 => k1 r u hw H1 locs1 ls (by rw [← ht]; exact hB.1) hS1 hl)
theorem jc_RL_21 {G : GT} {E : ET} {cc : ByteArray} {nL pc : Nat} {rm : Room} {lv : List (Nat × Value)} {st : List Value} {M : Mm} (X : CX G E RL cc nL rm) (hR : 3 + 1 ≤ rm.frames ∧ 8 + (5 + 11) + 66 ≤ rm.locals) (hst : (st.map fun v => v.category).sum ≤ 8) (d : decode cc pc = .ok (.invokevirtual 21, 3)) {a1 : Int32} {a2 : Int32} {a3 : Int32} {a4 : Int32} {P : Int32 → Mm → Prop} (h : wp_X7_addLayer a1 a2 a3 a4 M P) (k1 : ∀ (r : Int32) (M2 : Mm), P r M2 → J G E nL (pc + 3) lv (.int r :: st) M2) : J G E nL pc lv (.int a4 :: .int a3 :: .int a2 :: .int a1 :: .ref (adr G 7 0) :: st) M := fun H locs ls hP hS hl => by
  have hK := X.2.2.2.2.2.1.1
  have hm := met_X7_addLayer (l := eL E) X.2.2.2.2.2.2.1 a1 a2 a3 a4 M P h
  have hR2 : 3 + 1 ≤ (eR E).frames ∧ 8 + (5 + 11) + 66 ≤ (eR E).locals := by rw [X.2.2.2.2.2.2.2.1]; exact hR
  have hC2 : eCells E + 0 ≤ (eR E).cells ∧ eSlots E + 0 ≤ (eR E).slots := by rw [X.2.2.2.2.2.2.2.1]; exact ⟨X.2.2.2.2.2.2.2.2.1, X.2.2.2.2.2.2.2.2.2⟩
  obtain ⟨q0, -, hq⟩ := wld_get (G := G) M (mw7 0 (by decide))
  exact va_calli (va_runV (C := RX7) (As := [.int a1, .int a2, .int a3, .int a4]) (rest := st) ⟨X.1, X.2.1, X.2.2.1, X.2.2.2.1, X.2.2.2.2.1⟩ hm (cwV (ws' := lw_aw) 4 X.2.2.2.2.1 (gwV (tw (i := 952) (by decide +kernel)) (tw (i := 953) (by decide +kernel)) (tw (i := 954) (by decide +kernel)) (tw (i := 78) (by decide +kernel)) (tw (i := 955) (by decide +kernel))) rfl rfl rfl (by decide +kernel) hR2) ⟨hr_blind, va_recv hK hP (ci := 7) (q := (RX7, TX7, 15)) (fs := objF7 G 0 (M.1 7 0)) (q0 := q0) rfl hq, fun U hU hW => ⟨rfl, by rw [hU]; exact hP, KK.warm hW X.2.2.2.2.2.1⟩⟩ rfl rfl hl.1 rfl (lv_room hst) d hC2) hS (fun q _ h => h) (fun q h => h) (fun r u t H1 locs1 ht hvm hw hB hz1 hk1 hS1 => k1 r u hw H1 locs1 ls (by rw [← ht]; exact hB.1) hS1 hl)
theorem jc_RL_22 {G : GT} {E : ET} {cc : ByteArray} {nL pc : Nat} {rm : Room} {lv : List (Nat × Value)} {st : List Value} {M : Mm} (X : CX G E RL cc nL rm) (hR : 3 + 1 ≤ rm.frames ∧ 8 + (2 + 11) + 68 ≤ rm.locals) (hst : (st.map fun v => v.category).sum ≤ 8) (d : decode cc pc = .ok (.invokevirtual 22, 3)) {a1 : Int32} {P : Int32 → Mm → Prop} (h : wp_X6_addEvent a1 M P) (k1 : ∀ (r : Int32) (M2 : Mm), P r M2 → J G E nL (pc + 3) lv (.int r :: st) M2) : J G E nL pc lv (.int a1 :: .ref (adr G 6 0) :: st) M := fun H locs ls hP hS hl => by
  have hK := X.2.2.2.2.2.1.1
  have hm := met_X6_addEvent (l := eL E) X.2.2.2.2.2.2.1 a1 M P h
  have hR2 : 3 + 1 ≤ (eR E).frames ∧ 8 + (2 + 11) + 68 ≤ (eR E).locals := by rw [X.2.2.2.2.2.2.2.1]; exact hR
  have hC2 : eCells E + 0 ≤ (eR E).cells ∧ eSlots E + 0 ≤ (eR E).slots := by rw [X.2.2.2.2.2.2.2.1]; exact ⟨X.2.2.2.2.2.2.2.2.1, X.2.2.2.2.2.2.2.2.2⟩
  obtain ⟨q0, -, hq⟩ := wld_get (G := G) M (mw6 0 (by decide))
  exact va_calli (va_runV (C := RX6) (As := [.int a1]) (rest := st) ⟨X.1, X.2.1, X.2.2.1, X.2.2.2.1, X.2.2.2.2.1⟩ hm (cwV (ws' := lw_aw) 1 X.2.2.2.2.1 (gwV (tw (i := 425) (by decide +kernel)) (tw (i := 426) (by decide +kernel)) (tw (i := 427) (by decide +kernel)) (tw (i := 71) (by decide +kernel)) (tw (i := 428) (by decide +kernel))) rfl rfl rfl (by decide +kernel) hR2) ⟨hr_blind, va_recv hK hP (ci := 6) (q := (RX6, TX6, 8)) (fs := objF6 G 0 (M.1 6 0)) (q0 := q0) rfl hq, fun U hU hW => ⟨rfl, by rw [hU]; exact hP, KK.warm hW X.2.2.2.2.2.1⟩⟩ rfl rfl hl.1 rfl (lv_room hst) d hC2) hS (fun q _ h => h) (fun q h => h) (fun r u t H1 locs1 ht hvm hw hB hz1 hk1 hS1 => k1 r u hw H1 locs1 ls (by rw [← ht]; exact hB.1) hS1 hl)
theorem jc_RL_26 {G : GT} {E : ET} {cc : ByteArray} {nL pc : Nat} {rm : Room} {lv : List (Nat × Value)} {st : List Value} {M : Mm} (X : CX G E RL cc nL rm) (hR : 3 + 1 ≤ rm.frames ∧ 8 + (2 + 11) + 66 ≤ rm.locals) (hst : (st.map fun v => v.category).sum ≤ 8) (d : decode cc pc = .ok (.invokevirtual 26, 3)) {a1 : Int32} {P : Int32 → Mm → Prop} (h : wp_X7_addEvent a1 M P) (k1 : ∀ (r : Int32) (M2 : Mm), P r M2 → J G E nL (pc + 3) lv (.int r :: st) M2) : J G E nL pc lv (.int a1 :: .ref (adr G 7 0) :: st) M := fun H locs ls hP hS hl => by
  have hK := X.2.2.2.2.2.1.1
  have hm := met_X7_addEvent (l := eL E) X.2.2.2.2.2.2.1 a1 M P h
  have hR2 : 3 + 1 ≤ (eR E).frames ∧ 8 + (2 + 11) + 66 ≤ (eR E).locals := by rw [X.2.2.2.2.2.2.2.1]; exact hR
  have hC2 : eCells E + 0 ≤ (eR E).cells ∧ eSlots E + 0 ≤ (eR E).slots := by rw [X.2.2.2.2.2.2.2.1]; exact ⟨X.2.2.2.2.2.2.2.2.1, X.2.2.2.2.2.2.2.2.2⟩
  obtain ⟨q0, -, hq⟩ := wld_get (G := G) M (mw7 0 (by decide))
  exact va_calli (va_runV (C := RX7) (As := [.int a1]) (rest := st) ⟨X.1, X.2.1, X.2.2.1, X.2.2.2.1, X.2.2.2.2.1⟩ hm (cwV (ws' := lw_aw) 1 X.2.2.2.2.1 (gwV (tw (i := 961) (by decide +kernel)) (tw (i := 962) (by decide +kernel)) (tw (i := 963) (by decide +kernel)) (tw (i := 78) (by decide +kernel)) (tw (i := 964) (by decide +kernel))) rfl rfl rfl (by decide +kernel) hR2) ⟨hr_blind, va_recv hK hP (ci := 7) (q := (RX7, TX7, 15)) (fs := objF7 G 0 (M.1 7 0)) (q0 := q0) rfl hq, fun U hU hW => ⟨rfl, by rw [hU]; exact hP, KK.warm hW X.2.2.2.2.2.1⟩⟩ rfl rfl hl.1 rfl (lv_room hst) d hC2) hS (fun q _ h => h) (fun q h => h) (fun r u t H1 locs1 ht hvm hw hB hz1 hk1 hS1 => k1 r u hw H1 locs1 ls (by rw [← ht]; exact hB.1) hS1 hl)
theorem jc_RL_27 {G : GT} {E : ET} {cc : ByteArray} {nL pc : Nat} {rm : Room} {lv : List (Nat × Value)} {st : List Value} {M : Mm} (X : CX G E RL cc nL rm) (hR : 3 + 1 ≤ rm.frames ∧ 8 + (4 + 11) + 68 ≤ rm.locals) (hst : (st.map fun v => v.category).sum ≤ 8) (d : decode cc pc = .ok (.invokevirtual 27, 3)) {a1 : Int32} {a2 : Int32} {a3 : Int32} {P : Int32 → Mm → Prop} (h : wp_X6_addClaim a1 a2 a3 M P) (k1 : ∀ (r : Int32) (M2 : Mm), P r M2 → J G E nL (pc + 3) lv (.int r :: st) M2) : J G E nL pc lv (.int a3 :: .int a2 :: .int a1 :: .ref (adr G 6 0) :: st) M := fun H locs ls hP hS hl => by
  have hK := X.2.2.2.2.2.1.1
  have hm := met_X6_addClaim (l := eL E) X.2.2.2.2.2.2.1 a1 a2 a3 M P h
  have hR2 : 3 + 1 ≤ (eR E).frames ∧ 8 + (4 + 11) + 68 ≤ (eR E).locals := by rw [X.2.2.2.2.2.2.2.1]; exact hR
  have hC2 : eCells E + 0 ≤ (eR E).cells ∧ eSlots E + 0 ≤ (eR E).slots := by rw [X.2.2.2.2.2.2.2.1]; exact ⟨X.2.2.2.2.2.2.2.2.1, X.2.2.2.2.2.2.2.2.2⟩
  obtain ⟨q0, -, hq⟩ := wld_get (G := G) M (mw6 0 (by decide))
  exact va_calli (va_runV (C := RX6) (As := [.int a1, .int a2, .int a3]) (rest := st) ⟨X.1, X.2.1, X.2.2.1, X.2.2.2.1, X.2.2.2.2.1⟩ hm (cwV (ws' := lw_aw) 3 X.2.2.2.2.1 (gwV (tw (i := 433) (by decide +kernel)) (tw (i := 434) (by decide +kernel)) (tw (i := 435) (by decide +kernel)) (tw (i := 71) (by decide +kernel)) (tw (i := 436) (by decide +kernel))) rfl rfl rfl (by decide +kernel) hR2) ⟨hr_blind, va_recv hK hP (ci := 6) (q := (RX6, TX6, 8)) (fs := objF6 G 0 (M.1 6 0)) (q0 := q0) rfl hq, fun U hU hW => ⟨rfl, by rw [hU]; exact hP, KK.warm hW X.2.2.2.2.2.1⟩⟩ rfl rfl hl.1 rfl (lv_room hst) d hC2) hS (fun q _ h => h) (fun q h => h) (fun r u t H1 locs1 ht hvm hw hB hz1 hk1 hS1 => k1 r u hw H1 locs1 ls (by rw [← ht]; exact hB.1) hS1 hl)
theorem jc_RL_31 {G : GT} {E : ET} {cc : ByteArray} {nL pc : Nat} {rm : Room} {lv : List (Nat × Value)} {st : List Value} {M : Mm} (X : CX G E RL cc nL rm) (hR : 3 + 1 ≤ rm.frames ∧ 8 + (4 + 11) + 67 ≤ rm.locals) (hst : (st.map fun v => v.category).sum ≤ 8) (d : decode cc pc = .ok (.invokevirtual 31, 3)) {a1 : Int32} {a2 : Int32} {a3 : Int32} {P : Int32 → Mm → Prop} (h : wp_X7_addClaim a1 a2 a3 M P) (k1 : ∀ (r : Int32) (M2 : Mm), P r M2 → J G E nL (pc + 3) lv (.int r :: st) M2) : J G E nL pc lv (.int a3 :: .int a2 :: .int a1 :: .ref (adr G 7 0) :: st) M := fun H locs ls hP hS hl => by
  have hK := X.2.2.2.2.2.1.1
  have hm := met_X7_addClaim (l := eL E) X.2.2.2.2.2.2.1 a1 a2 a3 M P h
  have hR2 : 3 + 1 ≤ (eR E).frames ∧ 8 + (4 + 11) + 67 ≤ (eR E).locals := by rw [X.2.2.2.2.2.2.2.1]; exact hR
  have hC2 : eCells E + 0 ≤ (eR E).cells ∧ eSlots E + 0 ≤ (eR E).slots := by rw [X.2.2.2.2.2.2.2.1]; exact ⟨X.2.2.2.2.2.2.2.2.1, X.2.2.2.2.2.2.2.2.2⟩
  obtain ⟨q0, -, hq⟩ := wld_get (G := G) M (mw7 0 (by decide))
  exact va_calli (va_runV (C := RX7) (As := [.int a1, .int a2, .int a3]) (rest := st) ⟨X.1, X.2.1, X.2.2.1, X.2.2.2.1, X.2.2.2.2.1⟩ hm (cwV (ws' := lw_aw) 3 X.2.2.2.2.1 (gwV (tw (i := 969) (by decide +kernel)) (tw (i := 970) (by decide +kernel)) (tw (i := 971) (by decide +kernel)) (tw (i := 78) (by decide +kernel)) (tw (i := 972) (by decide +kernel))) rfl rfl rfl (by decide +kernel) hR2) ⟨hr_blind, va_recv hK hP (ci := 7) (q := (RX7, TX7, 15)) (fs := objF7 G 0 (M.1 7 0)) (q0 := q0) rfl hq, fun U hU hW => ⟨rfl, by rw [hU]; exact hP, KK.warm hW X.2.2.2.2.2.1⟩⟩ rfl rfl hl.1 rfl (lv_room hst) d hC2) hS (fun q _ h => h) (fun q h => h) (fun r u t H1 locs1 ht hvm hw hB hz1 hk1 hS1 => k1 r u hw H1 locs1 ls (by rw [← ht]; exact hB.1) hS1 hl)
theorem jc_RL_32 {G : GT} {E : ET} {cc : ByteArray} {nL pc : Nat} {rm : Room} {lv : List (Nat × Value)} {st : List Value} {M : Mm} (X : CX G E RL cc nL rm) (hR : 3 + 1 ≤ rm.frames ∧ 8 + (2 + 11) + 68 ≤ rm.locals) (hst : (st.map fun v => v.category).sum ≤ 8) (d : decode cc pc = .ok (.invokevirtual 32, 3)) {a1 : Int32} {P : Int32 → Mm → Prop} (h : wp_X6_removeClaim a1 M P) (k1 : ∀ (r : Int32) (M2 : Mm), P r M2 → J G E nL (pc + 3) lv (.int r :: st) M2) : J G E nL pc lv (.int a1 :: .ref (adr G 6 0) :: st) M := fun H locs ls hP hS hl => by
  have hK := X.2.2.2.2.2.1.1
  have hm := met_X6_removeClaim (l := eL E) X.2.2.2.2.2.2.1 a1 M P h
  have hR2 : 3 + 1 ≤ (eR E).frames ∧ 8 + (2 + 11) + 68 ≤ (eR E).locals := by rw [X.2.2.2.2.2.2.2.1]; exact hR
  have hC2 : eCells E + 0 ≤ (eR E).cells ∧ eSlots E + 0 ≤ (eR E).slots := by rw [X.2.2.2.2.2.2.2.1]; exact ⟨X.2.2.2.2.2.2.2.2.1, X.2.2.2.2.2.2.2.2.2⟩
  obtain ⟨q0, -, hq⟩ := wld_get (G := G) M (mw6 0 (by decide))
  exact va_calli (va_runV (C := RX6) (As := [.int a1]) (rest := st) ⟨X.1, X.2.1, X.2.2.1, X.2.2.2.1, X.2.2.2.2.1⟩ hm (cwV (ws' := lw_aw) 1 X.2.2.2.2.1 (gwV (tw (i := 449) (by decide +kernel)) (tw (i := 450) (by decide +kernel)) (tw (i := 451) (by decide +kernel)) (tw (i := 71) (by decide +kernel)) (tw (i := 452) (by decide +kernel))) rfl rfl rfl (by decide +kernel) hR2) ⟨hr_blind, va_recv hK hP (ci := 6) (q := (RX6, TX6, 8)) (fs := objF6 G 0 (M.1 6 0)) (q0 := q0) rfl hq, fun U hU hW => ⟨rfl, by rw [hU]; exact hP, KK.warm hW X.2.2.2.2.2.1⟩⟩ rfl rfl hl.1 rfl (lv_room hst) d hC2) hS (fun q _ h => h) (fun q h => h) (fun r u t H1 locs1 ht hvm hw hB hz1 hk1 hS1 => k1 r u hw H1 locs1 ls (by rw [← ht]; exact hB.1) hS1 hl)
theorem jc_RL_35 {G : GT} {E : ET} {cc : ByteArray} {nL pc : Nat} {rm : Room} {lv : List (Nat × Value)} {st : List Value} {M : Mm} (X : CX G E RL cc nL rm) (hR : 3 + 1 ≤ rm.frames ∧ 8 + (3 + 11) + 66 ≤ rm.locals) (hst : (st.map fun v => v.category).sum ≤ 8) (d : decode cc pc = .ok (.invokevirtual 35, 3)) {a1 : Int32} {P : Int32 → Mm → Prop} (h : wp_X7_removeClaim a1 M P) (k1 : ∀ (r : Int32) (M2 : Mm), P r M2 → J G E nL (pc + 3) lv (.int r :: st) M2) : J G E nL pc lv (.int a1 :: .ref (adr G 7 0) :: st) M := fun H locs ls hP hS hl => by
  have hK := X.2.2.2.2.2.1.1
  have hm := met_X7_removeClaim (l := eL E) X.2.2.2.2.2.2.1 a1 M P h
  have hR2 : 3 + 1 ≤ (eR E).frames ∧ 8 + (3 + 11) + 66 ≤ (eR E).locals := by rw [X.2.2.2.2.2.2.2.1]; exact hR
  have hC2 : eCells E + 0 ≤ (eR E).cells ∧ eSlots E + 0 ≤ (eR E).slots := by rw [X.2.2.2.2.2.2.2.1]; exact ⟨X.2.2.2.2.2.2.2.2.1, X.2.2.2.2.2.2.2.2.2⟩
  obtain ⟨q0, -, hq⟩ := wld_get (G := G) M (mw7 0 (by decide))
  exact va_calli (va_runV (C := RX7) (As := [.int a1]) (rest := st) ⟨X.1, X.2.1, X.2.2.1, X.2.2.2.1, X.2.2.2.2.1⟩ hm (cwV (ws' := lw_aw) 1 X.2.2.2.2.1 (gwV (tw (i := 985) (by decide +kernel)) (tw (i := 986) (by decide +kernel)) (tw (i := 987) (by decide +kernel)) (tw (i := 78) (by decide +kernel)) (tw (i := 988) (by decide +kernel))) rfl rfl rfl (by decide +kernel) hR2) ⟨hr_blind, va_recv hK hP (ci := 7) (q := (RX7, TX7, 15)) (fs := objF7 G 0 (M.1 7 0)) (q0 := q0) rfl hq, fun U hU hW => ⟨rfl, by rw [hU]; exact hP, KK.warm hW X.2.2.2.2.2.1⟩⟩ rfl rfl hl.1 rfl (lv_room hst) d hC2) hS (fun q _ h => h) (fun q h => h) (fun r u t H1 locs1 ht hvm hw hB hz1 hk1 hS1 => k1 r u hw H1 locs1 ls (by rw [← ht]; exact hB.1) hS1 hl)
theorem jc_RL_36 {G : GT} {E : ET} {cc : ByteArray} {nL pc : Nat} {rm : Room} {lv : List (Nat × Value)} {st : List Value} {M : Mm} (X : CX G E RL cc nL rm) (hR : 3 + 1 ≤ rm.frames ∧ 8 + (3 + 11) + 68 ≤ rm.locals) (hst : (st.map fun v => v.category).sum ≤ 8) (d : decode cc pc = .ok (.invokevirtual 36, 3)) {a1 : Int32} {a2 : Int32} {P : Int32 → Mm → Prop} (h : wp_X6_setDay a1 a2 M P) (k1 : ∀ (r : Int32) (M2 : Mm), P r M2 → J G E nL (pc + 3) lv (.int r :: st) M2) : J G E nL pc lv (.int a2 :: .int a1 :: .ref (adr G 6 0) :: st) M := fun H locs ls hP hS hl => by
  have hK := X.2.2.2.2.2.1.1
  have hm := met_X6_setDay (l := eL E) X.2.2.2.2.2.2.1 a1 a2 M P h
  have hR2 : 3 + 1 ≤ (eR E).frames ∧ 8 + (3 + 11) + 68 ≤ (eR E).locals := by rw [X.2.2.2.2.2.2.2.1]; exact hR
  have hC2 : eCells E + 0 ≤ (eR E).cells ∧ eSlots E + 0 ≤ (eR E).slots := by rw [X.2.2.2.2.2.2.2.1]; exact ⟨X.2.2.2.2.2.2.2.2.1, X.2.2.2.2.2.2.2.2.2⟩
  obtain ⟨q0, -, hq⟩ := wld_get (G := G) M (mw6 0 (by decide))
  exact va_calli (va_runV (C := RX6) (As := [.int a1, .int a2]) (rest := st) ⟨X.1, X.2.1, X.2.2.1, X.2.2.2.1, X.2.2.2.2.1⟩ hm (cwV (ws' := lw_aw) 2 X.2.2.2.2.1 (gwV (tw (i := 461) (by decide +kernel)) (tw (i := 462) (by decide +kernel)) (tw (i := 463) (by decide +kernel)) (tw (i := 71) (by decide +kernel)) (tw (i := 464) (by decide +kernel))) rfl rfl rfl (by decide +kernel) hR2) ⟨hr_blind, va_recv hK hP (ci := 6) (q := (RX6, TX6, 8)) (fs := objF6 G 0 (M.1 6 0)) (q0 := q0) rfl hq, fun U hU hW => ⟨rfl, by rw [hU]; exact hP, KK.warm hW X.2.2.2.2.2.1⟩⟩ rfl rfl hl.1 rfl (lv_room hst) d hC2) hS (fun q _ h => h) (fun q h => h) (fun r u t H1 locs1 ht hvm hw hB hz1 hk1 hS1 => k1 r u hw H1 locs1 ls (by rw [← ht]; exact hB.1) hS1 hl)
theorem jc_RL_40 {G : GT} {E : ET} {cc : ByteArray} {nL pc : Nat} {rm : Room} {lv : List (Nat × Value)} {st : List Value} {M : Mm} (X : CX G E RL cc nL rm) (hR : 3 + 1 ≤ rm.frames ∧ 8 + (4 + 11) + 66 ≤ rm.locals) (hst : (st.map fun v => v.category).sum ≤ 8) (d : decode cc pc = .ok (.invokevirtual 40, 3)) {a1 : Int32} {a2 : Int32} {P : Int32 → Mm → Prop} (h : wp_X7_setDay a1 a2 M P) (k1 : ∀ (r : Int32) (M2 : Mm), P r M2 → J G E nL (pc + 3) lv (.int r :: st) M2) : J G E nL pc lv (.int a2 :: .int a1 :: .ref (adr G 7 0) :: st) M := fun H locs ls hP hS hl => by
  have hK := X.2.2.2.2.2.1.1
  have hm := met_X7_setDay (l := eL E) X.2.2.2.2.2.2.1 a1 a2 M P h
  have hR2 : 3 + 1 ≤ (eR E).frames ∧ 8 + (4 + 11) + 66 ≤ (eR E).locals := by rw [X.2.2.2.2.2.2.2.1]; exact hR
  have hC2 : eCells E + 0 ≤ (eR E).cells ∧ eSlots E + 0 ≤ (eR E).slots := by rw [X.2.2.2.2.2.2.2.1]; exact ⟨X.2.2.2.2.2.2.2.2.1, X.2.2.2.2.2.2.2.2.2⟩
  obtain ⟨q0, -, hq⟩ := wld_get (G := G) M (mw7 0 (by decide))
  exact va_calli (va_runV (C := RX7) (As := [.int a1, .int a2]) (rest := st) ⟨X.1, X.2.1, X.2.2.1, X.2.2.2.1, X.2.2.2.2.1⟩ hm (cwV (ws' := lw_aw) 2 X.2.2.2.2.1 (gwV (tw (i := 993) (by decide +kernel)) (tw (i := 994) (by decide +kernel)) (tw (i := 995) (by decide +kernel)) (tw (i := 78) (by decide +kernel)) (tw (i := 996) (by decide +kernel))) rfl rfl rfl (by decide +kernel) hR2) ⟨hr_blind, va_recv hK hP (ci := 7) (q := (RX7, TX7, 15)) (fs := objF7 G 0 (M.1 7 0)) (q0 := q0) rfl hq, fun U hU hW => ⟨rfl, by rw [hU]; exact hP, KK.warm hW X.2.2.2.2.2.1⟩⟩ rfl rfl hl.1 rfl (lv_room hst) d hC2) hS (fun q _ h => h) (fun q h => h) (fun r u t H1 locs1 ht hvm hw hB hz1 hk1 hS1 => k1 r u hw H1 locs1 ls (by rw [← ht]; exact hB.1) hS1 hl)
theorem jc_RL_41 {G : GT} {E : ET} {cc : ByteArray} {nL pc : Nat} {rm : Room} {lv : List (Nat × Value)} {st : List Value} {M : Mm} (X : CX G E RL cc nL rm) (hR : 3 + 1 ≤ rm.frames ∧ 8 + (3 + 11) + 68 ≤ rm.locals) (hst : (st.map fun v => v.category).sum ≤ 8) (d : decode cc pc = .ok (.invokevirtual 41, 3)) {a1 : Int32} {a2 : Int32} {P : Int32 → Mm → Prop} (h : wp_X6_setDeductible a1 a2 M P) (k1 : ∀ (r : Int32) (M2 : Mm), P r M2 → J G E nL (pc + 3) lv (.int r :: st) M2) : J G E nL pc lv (.int a2 :: .int a1 :: .ref (adr G 6 0) :: st) M := fun H locs ls hP hS hl => by
  have hK := X.2.2.2.2.2.1.1
  have hm := met_X6_setDeductible (l := eL E) X.2.2.2.2.2.2.1 a1 a2 M P h
  have hR2 : 3 + 1 ≤ (eR E).frames ∧ 8 + (3 + 11) + 68 ≤ (eR E).locals := by rw [X.2.2.2.2.2.2.2.1]; exact hR
  have hC2 : eCells E + 0 ≤ (eR E).cells ∧ eSlots E + 0 ≤ (eR E).slots := by rw [X.2.2.2.2.2.2.2.1]; exact ⟨X.2.2.2.2.2.2.2.2.1, X.2.2.2.2.2.2.2.2.2⟩
  obtain ⟨q0, -, hq⟩ := wld_get (G := G) M (mw6 0 (by decide))
  exact va_calli (va_runV (C := RX6) (As := [.int a1, .int a2]) (rest := st) ⟨X.1, X.2.1, X.2.2.1, X.2.2.2.1, X.2.2.2.2.1⟩ hm (cwV (ws' := lw_aw) 2 X.2.2.2.2.1 (gwV (tw (i := 469) (by decide +kernel)) (tw (i := 470) (by decide +kernel)) (tw (i := 471) (by decide +kernel)) (tw (i := 71) (by decide +kernel)) (tw (i := 472) (by decide +kernel))) rfl rfl rfl (by decide +kernel) hR2) ⟨hr_blind, va_recv hK hP (ci := 6) (q := (RX6, TX6, 8)) (fs := objF6 G 0 (M.1 6 0)) (q0 := q0) rfl hq, fun U hU hW => ⟨rfl, by rw [hU]; exact hP, KK.warm hW X.2.2.2.2.2.1⟩⟩ rfl rfl hl.1 rfl (lv_room hst) d hC2) hS (fun q _ h => h) (fun q h => h) (fun r u t H1 locs1 ht hvm hw hB hz1 hk1 hS1 => k1 r u hw H1 locs1 ls (by rw [← ht]; exact hB.1) hS1 hl)
theorem jc_RL_44 {G : GT} {E : ET} {cc : ByteArray} {nL pc : Nat} {rm : Room} {lv : List (Nat × Value)} {st : List Value} {M : Mm} (X : CX G E RL cc nL rm) (hR : 3 + 1 ≤ rm.frames ∧ 8 + (4 + 11) + 66 ≤ rm.locals) (hst : (st.map fun v => v.category).sum ≤ 8) (d : decode cc pc = .ok (.invokevirtual 44, 3)) {a1 : Int32} {a2 : Int32} {P : Int32 → Mm → Prop} (h : wp_X7_setDeductible a1 a2 M P) (k1 : ∀ (r : Int32) (M2 : Mm), P r M2 → J G E nL (pc + 3) lv (.int r :: st) M2) : J G E nL pc lv (.int a2 :: .int a1 :: .ref (adr G 7 0) :: st) M := fun H locs ls hP hS hl => by
  have hK := X.2.2.2.2.2.1.1
  have hm := met_X7_setDeductible (l := eL E) X.2.2.2.2.2.2.1 a1 a2 M P h
  have hR2 : 3 + 1 ≤ (eR E).frames ∧ 8 + (4 + 11) + 66 ≤ (eR E).locals := by rw [X.2.2.2.2.2.2.2.1]; exact hR
  have hC2 : eCells E + 0 ≤ (eR E).cells ∧ eSlots E + 0 ≤ (eR E).slots := by rw [X.2.2.2.2.2.2.2.1]; exact ⟨X.2.2.2.2.2.2.2.2.1, X.2.2.2.2.2.2.2.2.2⟩
  obtain ⟨q0, -, hq⟩ := wld_get (G := G) M (mw7 0 (by decide))
  exact va_calli (va_runV (C := RX7) (As := [.int a1, .int a2]) (rest := st) ⟨X.1, X.2.1, X.2.2.1, X.2.2.2.1, X.2.2.2.2.1⟩ hm (cwV (ws' := lw_aw) 2 X.2.2.2.2.1 (gwV (tw (i := 997) (by decide +kernel)) (tw (i := 998) (by decide +kernel)) (tw (i := 999) (by decide +kernel)) (tw (i := 78) (by decide +kernel)) (tw (i := 1000) (by decide +kernel))) rfl rfl rfl (by decide +kernel) hR2) ⟨hr_blind, va_recv hK hP (ci := 7) (q := (RX7, TX7, 15)) (fs := objF7 G 0 (M.1 7 0)) (q0 := q0) rfl hq, fun U hU hW => ⟨rfl, by rw [hU]; exact hP, KK.warm hW X.2.2.2.2.2.1⟩⟩ rfl rfl hl.1 rfl (lv_room hst) d hC2) hS (fun q _ h => h) (fun q h => h) (fun r u t H1 locs1 ht hvm hw hB hz1 hk1 hS1 => k1 r u hw H1 locs1 ls (by rw [← ht]; exact hB.1) hS1 hl)
theorem jc_RL_45 {G : GT} {E : ET} {cc : ByteArray} {nL pc : Nat} {rm : Room} {lv : List (Nat × Value)} {st : List Value} {M : Mm} (X : CX G E RL cc nL rm) (hR : 3 + 1 ≤ rm.frames ∧ 8 + (2 + 11) + 68 ≤ rm.locals) (hst : (st.map fun v => v.category).sum ≤ 8) (d : decode cc pc = .ok (.invokevirtual 45, 3)) {a1 : Int32} {P : Int32 → Mm → Prop} (h : wp_X6_setIndex a1 M P) (k1 : ∀ (r : Int32) (M2 : Mm), P r M2 → J G E nL (pc + 3) lv (.int r :: st) M2) : J G E nL pc lv (.int a1 :: .ref (adr G 6 0) :: st) M := fun H locs ls hP hS hl => by
  have hK := X.2.2.2.2.2.1.1
  have hm := met_X6_setIndex (l := eL E) X.2.2.2.2.2.2.1 a1 M P h
  have hR2 : 3 + 1 ≤ (eR E).frames ∧ 8 + (2 + 11) + 68 ≤ (eR E).locals := by rw [X.2.2.2.2.2.2.2.1]; exact hR
  have hC2 : eCells E + 0 ≤ (eR E).cells ∧ eSlots E + 0 ≤ (eR E).slots := by rw [X.2.2.2.2.2.2.2.1]; exact ⟨X.2.2.2.2.2.2.2.2.1, X.2.2.2.2.2.2.2.2.2⟩
  obtain ⟨q0, -, hq⟩ := wld_get (G := G) M (mw6 0 (by decide))
  exact va_calli (va_runV (C := RX6) (As := [.int a1]) (rest := st) ⟨X.1, X.2.1, X.2.2.1, X.2.2.2.1, X.2.2.2.2.1⟩ hm (cwV (ws' := lw_aw) 1 X.2.2.2.2.1 (gwV (tw (i := 477) (by decide +kernel)) (tw (i := 478) (by decide +kernel)) (tw (i := 479) (by decide +kernel)) (tw (i := 71) (by decide +kernel)) (tw (i := 480) (by decide +kernel))) rfl rfl rfl (by decide +kernel) hR2) ⟨hr_blind, va_recv hK hP (ci := 6) (q := (RX6, TX6, 8)) (fs := objF6 G 0 (M.1 6 0)) (q0 := q0) rfl hq, fun U hU hW => ⟨rfl, by rw [hU]; exact hP, KK.warm hW X.2.2.2.2.2.1⟩⟩ rfl rfl hl.1 rfl (lv_room hst) d hC2) hS (fun q _ h => h) (fun q h => h) (fun r u t H1 locs1 ht hvm hw hB hz1 hk1 hS1 => k1 r u hw H1 locs1 ls (by rw [← ht]; exact hB.1) hS1 hl)
theorem jc_RL_48 {G : GT} {E : ET} {cc : ByteArray} {nL pc : Nat} {rm : Room} {lv : List (Nat × Value)} {st : List Value} {M : Mm} (X : CX G E RL cc nL rm) (hR : 3 + 1 ≤ rm.frames ∧ 8 + (3 + 11) + 66 ≤ rm.locals) (hst : (st.map fun v => v.category).sum ≤ 8) (d : decode cc pc = .ok (.invokevirtual 48, 3)) {a1 : Int32} {P : Int32 → Mm → Prop} (h : wp_X7_setIndex a1 M P) (k1 : ∀ (r : Int32) (M2 : Mm), P r M2 → J G E nL (pc + 3) lv (.int r :: st) M2) : J G E nL pc lv (.int a1 :: .ref (adr G 7 0) :: st) M := fun H locs ls hP hS hl => by
  have hK := X.2.2.2.2.2.1.1
  have hm := met_X7_setIndex (l := eL E) X.2.2.2.2.2.2.1 a1 M P h
  have hR2 : 3 + 1 ≤ (eR E).frames ∧ 8 + (3 + 11) + 66 ≤ (eR E).locals := by rw [X.2.2.2.2.2.2.2.1]; exact hR
  have hC2 : eCells E + 0 ≤ (eR E).cells ∧ eSlots E + 0 ≤ (eR E).slots := by rw [X.2.2.2.2.2.2.2.1]; exact ⟨X.2.2.2.2.2.2.2.2.1, X.2.2.2.2.2.2.2.2.2⟩
  obtain ⟨q0, -, hq⟩ := wld_get (G := G) M (mw7 0 (by decide))
  exact va_calli (va_runV (C := RX7) (As := [.int a1]) (rest := st) ⟨X.1, X.2.1, X.2.2.1, X.2.2.2.1, X.2.2.2.2.1⟩ hm (cwV (ws' := lw_aw) 1 X.2.2.2.2.1 (gwV (tw (i := 1001) (by decide +kernel)) (tw (i := 1002) (by decide +kernel)) (tw (i := 1003) (by decide +kernel)) (tw (i := 78) (by decide +kernel)) (tw (i := 1004) (by decide +kernel))) rfl rfl rfl (by decide +kernel) hR2) ⟨hr_blind, va_recv hK hP (ci := 7) (q := (RX7, TX7, 15)) (fs := objF7 G 0 (M.1 7 0)) (q0 := q0) rfl hq, fun U hU hW => ⟨rfl, by rw [hU]; exact hP, KK.warm hW X.2.2.2.2.2.1⟩⟩ rfl rfl hl.1 rfl (lv_room hst) d hC2) hS (fun q _ h => h) (fun q h => h) (fun r u t H1 locs1 ht hvm hw hB hz1 hk1 hS1 => k1 r u hw H1 locs1 ls (by rw [← ht]; exact hB.1) hS1 hl)
theorem jc_RL_49 {G : GT} {E : ET} {cc : ByteArray} {nL pc : Nat} {rm : Room} {lv : List (Nat × Value)} {st : List Value} {M : Mm} (X : CX G E RL cc nL rm) (hR : 3 + 1 ≤ rm.frames ∧ 8 + (3 + 11) + 68 ≤ rm.locals) (hst : (st.map fun v => v.category).sum ≤ 8) (d : decode cc pc = .ok (.invokevirtual 49, 3)) {a1 : Int32} {a2 : Int32} {P : Int32 → Mm → Prop} (h : wp_X6_setRecovery a1 a2 M P) (k1 : ∀ (r : Int32) (M2 : Mm), P r M2 → J G E nL (pc + 3) lv (.int r :: st) M2) : J G E nL pc lv (.int a2 :: .int a1 :: .ref (adr G 6 0) :: st) M := fun H locs ls hP hS hl => by
  have hK := X.2.2.2.2.2.1.1
  have hm := met_X6_setRecovery (l := eL E) X.2.2.2.2.2.2.1 a1 a2 M P h
  have hR2 : 3 + 1 ≤ (eR E).frames ∧ 8 + (3 + 11) + 68 ≤ (eR E).locals := by rw [X.2.2.2.2.2.2.2.1]; exact hR
  have hC2 : eCells E + 0 ≤ (eR E).cells ∧ eSlots E + 0 ≤ (eR E).slots := by rw [X.2.2.2.2.2.2.2.1]; exact ⟨X.2.2.2.2.2.2.2.2.1, X.2.2.2.2.2.2.2.2.2⟩
  obtain ⟨q0, -, hq⟩ := wld_get (G := G) M (mw6 0 (by decide))
  exact va_calli (va_runV (C := RX6) (As := [.int a1, .int a2]) (rest := st) ⟨X.1, X.2.1, X.2.2.1, X.2.2.2.1, X.2.2.2.2.1⟩ hm (cwV (ws' := lw_aw) 2 X.2.2.2.2.1 (gwV (tw (i := 485) (by decide +kernel)) (tw (i := 486) (by decide +kernel)) (tw (i := 487) (by decide +kernel)) (tw (i := 71) (by decide +kernel)) (tw (i := 488) (by decide +kernel))) rfl rfl rfl (by decide +kernel) hR2) ⟨hr_blind, va_recv hK hP (ci := 6) (q := (RX6, TX6, 8)) (fs := objF6 G 0 (M.1 6 0)) (q0 := q0) rfl hq, fun U hU hW => ⟨rfl, by rw [hU]; exact hP, KK.warm hW X.2.2.2.2.2.1⟩⟩ rfl rfl hl.1 rfl (lv_room hst) d hC2) hS (fun q _ h => h) (fun q h => h) (fun r u t H1 locs1 ht hvm hw hB hz1 hk1 hS1 => k1 r u hw H1 locs1 ls (by rw [← ht]; exact hB.1) hS1 hl)
theorem jc_RL_52 {G : GT} {E : ET} {cc : ByteArray} {nL pc : Nat} {rm : Room} {lv : List (Nat × Value)} {st : List Value} {M : Mm} (X : CX G E RL cc nL rm) (hR : 3 + 1 ≤ rm.frames ∧ 8 + (3 + 11) + 66 ≤ rm.locals) (hst : (st.map fun v => v.category).sum ≤ 8) (d : decode cc pc = .ok (.invokevirtual 52, 3)) {a1 : Int32} {a2 : Int32} {P : Int32 → Mm → Prop} (h : wp_X7_setRecovery a1 a2 M P) (k1 : ∀ (r : Int32) (M2 : Mm), P r M2 → J G E nL (pc + 3) lv (.int r :: st) M2) : J G E nL pc lv (.int a2 :: .int a1 :: .ref (adr G 7 0) :: st) M := fun H locs ls hP hS hl => by
  have hK := X.2.2.2.2.2.1.1
  have hm := met_X7_setRecovery (l := eL E) X.2.2.2.2.2.2.1 a1 a2 M P h
  have hR2 : 3 + 1 ≤ (eR E).frames ∧ 8 + (3 + 11) + 66 ≤ (eR E).locals := by rw [X.2.2.2.2.2.2.2.1]; exact hR
  have hC2 : eCells E + 0 ≤ (eR E).cells ∧ eSlots E + 0 ≤ (eR E).slots := by rw [X.2.2.2.2.2.2.2.1]; exact ⟨X.2.2.2.2.2.2.2.2.1, X.2.2.2.2.2.2.2.2.2⟩
  obtain ⟨q0, -, hq⟩ := wld_get (G := G) M (mw7 0 (by decide))
  exact va_calli (va_runV (C := RX7) (As := [.int a1, .int a2]) (rest := st) ⟨X.1, X.2.1, X.2.2.1, X.2.2.2.1, X.2.2.2.2.1⟩ hm (cwV (ws' := lw_aw) 2 X.2.2.2.2.1 (gwV (tw (i := 1005) (by decide +kernel)) (tw (i := 1006) (by decide +kernel)) (tw (i := 1007) (by decide +kernel)) (tw (i := 78) (by decide +kernel)) (tw (i := 1008) (by decide +kernel))) rfl rfl rfl (by decide +kernel) hR2) ⟨hr_blind, va_recv hK hP (ci := 7) (q := (RX7, TX7, 15)) (fs := objF7 G 0 (M.1 7 0)) (q0 := q0) rfl hq, fun U hU hW => ⟨rfl, by rw [hU]; exact hP, KK.warm hW X.2.2.2.2.2.1⟩⟩ rfl rfl hl.1 rfl (lv_room hst) d hC2) hS (fun q _ h => h) (fun q h => h) (fun r u t H1 locs1 ht hvm hw hB hz1 hk1 hS1 => k1 r u hw H1 locs1 ls (by rw [← ht]; exact hB.1) hS1 hl)
theorem jc_RL_53 {G : GT} {E : ET} {cc : ByteArray} {nL pc : Nat} {rm : Room} {lv : List (Nat × Value)} {st : List Value} {M : Mm} (X : CX G E RL cc nL rm) (hR : 2 + 1 ≤ rm.frames ∧ 8 + (2 + 11) + 46 ≤ rm.locals) (hst : (st.map fun v => v.category).sum ≤ 8) (d : decode cc pc = .ok (.invokevirtual 53, 3)) {a1 : Int32} {P : Int32 → Mm → Prop} (h : wp_X6_append a1 M P) (k1 : ∀ (r : Int32) (M2 : Mm), P r M2 → J G E nL (pc + 3) lv (.int r :: st) M2) : J G E nL pc lv (.int a1 :: .ref (adr G 6 0) :: st) M := fun H locs ls hP hS hl => by
  have hK := X.2.2.2.2.2.1.1
  have hm := met_X6_append (l := eL E) X.2.2.2.2.2.2.1 a1 M P h
  have hR2 : 2 + 1 ≤ (eR E).frames ∧ 8 + (2 + 11) + 46 ≤ (eR E).locals := by rw [X.2.2.2.2.2.2.2.1]; exact hR
  have hC2 : eCells E + 0 ≤ (eR E).cells ∧ eSlots E + 0 ≤ (eR E).slots := by rw [X.2.2.2.2.2.2.2.1]; exact ⟨X.2.2.2.2.2.2.2.2.1, X.2.2.2.2.2.2.2.2.2⟩
  obtain ⟨q0, -, hq⟩ := wld_get (G := G) M (mw6 0 (by decide))
  exact va_calli (va_runV (C := RX6) (As := [.int a1]) (rest := st) ⟨X.1, X.2.1, X.2.2.1, X.2.2.2.1, X.2.2.2.2.1⟩ hm (cwV (ws' := lw_aw) 1 X.2.2.2.2.1 (gwV (tw (i := 493) (by decide +kernel)) (tw (i := 494) (by decide +kernel)) (tw (i := 495) (by decide +kernel)) (tw (i := 71) (by decide +kernel)) (tw (i := 496) (by decide +kernel))) rfl rfl rfl (by decide +kernel) hR2) ⟨hr_blind, va_recv hK hP (ci := 6) (q := (RX6, TX6, 8)) (fs := objF6 G 0 (M.1 6 0)) (q0 := q0) rfl hq, fun U hU hW => ⟨rfl, by rw [hU]; exact hP, KK.warm hW X.2.2.2.2.2.1⟩⟩ rfl rfl hl.1 rfl (lv_room hst) d hC2) hS (fun q _ h => h) (fun q h => h) (fun r u t H1 locs1 ht hvm hw hB hz1 hk1 hS1 => k1 r u hw H1 locs1 ls (by rw [← ht]; exact hB.1) hS1 hl)
theorem jc_RL_56 {G : GT} {E : ET} {cc : ByteArray} {nL pc : Nat} {rm : Room} {lv : List (Nat × Value)} {st : List Value} {M : Mm} (X : CX G E RL cc nL rm) (hR : 1 + 1 ≤ rm.frames ∧ 8 + (5 + 11) + 22 ≤ rm.locals) (hst : (st.map fun v => v.category).sum ≤ 8) (d : decode cc pc = .ok (.invokevirtual 56, 3)) {a1 : Int32} {P : Int32 → Mm → Prop} (h : wp_X7_append a1 M P) (k1 : ∀ (r : Int32) (M2 : Mm), P r M2 → J G E nL (pc + 3) lv (.int r :: st) M2) : J G E nL pc lv (.int a1 :: .ref (adr G 7 0) :: st) M := fun H locs ls hP hS hl => by
  have hK := X.2.2.2.2.2.1.1
  have hm := met_X7_append (l := eL E) X.2.2.2.2.2.2.1 a1 M P h
  have hR2 : 1 + 1 ≤ (eR E).frames ∧ 8 + (5 + 11) + 22 ≤ (eR E).locals := by rw [X.2.2.2.2.2.2.2.1]; exact hR
  have hC2 : eCells E + 0 ≤ (eR E).cells ∧ eSlots E + 0 ≤ (eR E).slots := by rw [X.2.2.2.2.2.2.2.1]; exact ⟨X.2.2.2.2.2.2.2.2.1, X.2.2.2.2.2.2.2.2.2⟩
  obtain ⟨q0, -, hq⟩ := wld_get (G := G) M (mw7 0 (by decide))
  exact va_calli (va_runV (C := RX7) (As := [.int a1]) (rest := st) ⟨X.1, X.2.1, X.2.2.1, X.2.2.2.1, X.2.2.2.2.1⟩ hm (cwV (ws' := lw_aw) 1 X.2.2.2.2.1 (gwV (tw (i := 1013) (by decide +kernel)) (tw (i := 1014) (by decide +kernel)) (tw (i := 1015) (by decide +kernel)) (tw (i := 78) (by decide +kernel)) (tw (i := 1016) (by decide +kernel))) rfl rfl rfl (by decide +kernel) hR2) ⟨hr_blind, va_recv hK hP (ci := 7) (q := (RX7, TX7, 15)) (fs := objF7 G 0 (M.1 7 0)) (q0 := q0) rfl hq, fun U hU hW => ⟨rfl, by rw [hU]; exact hP, KK.warm hW X.2.2.2.2.2.1⟩⟩ rfl rfl hl.1 rfl (lv_room hst) d hC2) hS (fun q _ h => h) (fun q h => h) (fun r u t H1 locs1 ht hvm hw hB hz1 hk1 hS1 => k1 r u hw H1 locs1 ls (by rw [← ht]; exact hB.1) hS1 hl)
theorem jc_RL_57 {G : GT} {E : ET} {cc : ByteArray} {nL pc : Nat} {rm : Room} {lv : List (Nat × Value)} {st : List Value} {M : Mm} (X : CX G E RL cc nL rm) (hR : 4 + 1 ≤ rm.frames ∧ 8 + (3 + 11) + 91 ≤ rm.locals) (hst : (st.map fun v => v.category).sum ≤ 8) (d : decode cc pc = .ok (.invokevirtual 57, 3))  {P : Int32 → Mm → Prop} (h : wp_X6_read  M P) (k1 : ∀ (r : Int32) (M2 : Mm), P r M2 → J G E nL (pc + 3) lv (.int r :: st) M2) : J G E nL pc lv (.ref (adr G 6 0) :: st) M := fun H locs ls hP hS hl => by
  have hK := X.2.2.2.2.2.1.1
  have hm := met_X6_read (l := eL E) X.2.2.2.2.2.2.1  M P h
  have hR2 : 4 + 1 ≤ (eR E).frames ∧ 8 + (3 + 11) + 91 ≤ (eR E).locals := by rw [X.2.2.2.2.2.2.2.1]; exact hR
  have hC2 : eCells E + 0 ≤ (eR E).cells ∧ eSlots E + 0 ≤ (eR E).slots := by rw [X.2.2.2.2.2.2.2.1]; exact ⟨X.2.2.2.2.2.2.2.2.1, X.2.2.2.2.2.2.2.2.2⟩
  obtain ⟨q0, -, hq⟩ := wld_get (G := G) M (mw6 0 (by decide))
  exact va_calli (va_runV (C := RX6) (As := []) (rest := st) ⟨X.1, X.2.1, X.2.2.1, X.2.2.2.1, X.2.2.2.2.1⟩ hm (cwV (ws' := lw_aw) 0 X.2.2.2.2.1 (gwV (tw (i := 502) (by decide +kernel)) (tw (i := 503) (by decide +kernel)) (tw (i := 504) (by decide +kernel)) (tw (i := 71) (by decide +kernel)) (tw (i := 505) (by decide +kernel))) rfl rfl rfl (by decide +kernel) hR2) ⟨hr_blind, va_recv hK hP (ci := 6) (q := (RX6, TX6, 8)) (fs := objF6 G 0 (M.1 6 0)) (q0 := q0) rfl hq, fun U hU hW => ⟨rfl, by rw [hU]; exact hP, KK.warm hW X.2.2.2.2.2.1⟩⟩ rfl rfl hl.1 rfl (lv_room hst) d hC2) hS (fun q _ h => h) (fun q h => h) (fun r u t H1 locs1 ht hvm hw hB hz1 hk1 hS1 => k1 r u hw H1 locs1 ls (by rw [← ht]; exact hB.1) hS1 hl)
theorem jc_RL_61 {G : GT} {E : ET} {cc : ByteArray} {nL pc : Nat} {rm : Room} {lv : List (Nat × Value)} {st : List Value} {M : Mm} (X : CX G E RL cc nL rm) (hR : 4 + 1 ≤ rm.frames ∧ 8 + (5 + 11) + 86 ≤ rm.locals) (hst : (st.map fun v => v.category).sum ≤ 8) (d : decode cc pc = .ok (.invokevirtual 61, 3))  {P : Int32 → Mm → Prop} (h : wp_X7_read  M P) (k1 : ∀ (r : Int32) (M2 : Mm), P r M2 → J G E nL (pc + 3) lv (.int r :: st) M2) : J G E nL pc lv (.ref (adr G 7 0) :: st) M := fun H locs ls hP hS hl => by
  have hK := X.2.2.2.2.2.1.1
  have hm := met_X7_read (l := eL E) X.2.2.2.2.2.2.1  M P h
  have hR2 : 4 + 1 ≤ (eR E).frames ∧ 8 + (5 + 11) + 86 ≤ (eR E).locals := by rw [X.2.2.2.2.2.2.2.1]; exact hR
  have hC2 : eCells E + 0 ≤ (eR E).cells ∧ eSlots E + 0 ≤ (eR E).slots := by rw [X.2.2.2.2.2.2.2.1]; exact ⟨X.2.2.2.2.2.2.2.2.1, X.2.2.2.2.2.2.2.2.2⟩
  obtain ⟨q0, -, hq⟩ := wld_get (G := G) M (mw7 0 (by decide))
  exact va_calli (va_runV (C := RX7) (As := []) (rest := st) ⟨X.1, X.2.1, X.2.2.1, X.2.2.2.1, X.2.2.2.2.1⟩ hm (cwV (ws' := lw_aw) 0 X.2.2.2.2.1 (gwV (tw (i := 1017) (by decide +kernel)) (tw (i := 1018) (by decide +kernel)) (tw (i := 1019) (by decide +kernel)) (tw (i := 78) (by decide +kernel)) (tw (i := 1020) (by decide +kernel))) rfl rfl rfl (by decide +kernel) hR2) ⟨hr_blind, va_recv hK hP (ci := 7) (q := (RX7, TX7, 15)) (fs := objF7 G 0 (M.1 7 0)) (q0 := q0) rfl hq, fun U hU hW => ⟨rfl, by rw [hU]; exact hP, KK.warm hW X.2.2.2.2.2.1⟩⟩ rfl rfl hl.1 rfl (lv_room hst) d hC2) hS (fun q _ h => h) (fun q h => h) (fun r u t H1 locs1 ht hvm hw hB hz1 hk1 hS1 => k1 r u hw H1 locs1 ls (by rw [← ht]; exact hB.1) hS1 hl)
theorem jc_RL_62 {G : GT} {E : ET} {cc : ByteArray} {nL pc : Nat} {rm : Room} {lv : List (Nat × Value)} {st : List Value} {M : Mm} (X : CX G E RL cc nL rm) (hR : 0 + 1 ≤ rm.frames ∧ 8 + (1 + 11) + 0 ≤ rm.locals) (hst : (st.map fun v => v.category).sum ≤ 8) (d : decode cc pc = .ok (.invokevirtual 62, 3))  {P : Int32 → Mm → Prop} (h : wp_X6_faultPosition  M P) (k1 : ∀ (r : Int32) (M2 : Mm), P r M2 → J G E nL (pc + 3) lv (.int r :: st) M2) : J G E nL pc lv (.ref (adr G 6 0) :: st) M := fun H locs ls hP hS hl => by
  have hK := X.2.2.2.2.2.1.1
  have hm := met_X6_faultPosition (l := eL E) X.2.2.2.2.2.2.1  M P h
  have hR2 : 0 + 1 ≤ (eR E).frames ∧ 8 + (1 + 11) + 0 ≤ (eR E).locals := by rw [X.2.2.2.2.2.2.2.1]; exact hR
  have hC2 : eCells E + 0 ≤ (eR E).cells ∧ eSlots E + 0 ≤ (eR E).slots := by rw [X.2.2.2.2.2.2.2.1]; exact ⟨X.2.2.2.2.2.2.2.2.1, X.2.2.2.2.2.2.2.2.2⟩
  obtain ⟨q0, -, hq⟩ := wld_get (G := G) M (mw6 0 (by decide))
  exact va_calli (va_runV (C := RX6) (As := []) (rest := st) ⟨X.1, X.2.1, X.2.2.1, X.2.2.2.1, X.2.2.2.2.1⟩ hm (cwV (ws' := lw_aw) 0 X.2.2.2.2.1 (gwV (tw (i := 534) (by decide +kernel)) (tw (i := 535) (by decide +kernel)) (tw (i := 536) (by decide +kernel)) (tw (i := 71) (by decide +kernel)) (tw (i := 537) (by decide +kernel))) rfl rfl rfl (by decide +kernel) hR2) ⟨hr_blind, va_recv hK hP (ci := 6) (q := (RX6, TX6, 8)) (fs := objF6 G 0 (M.1 6 0)) (q0 := q0) rfl hq, fun U hU hW => ⟨rfl, by rw [hU]; exact hP, KK.warm hW X.2.2.2.2.2.1⟩⟩ rfl rfl hl.1 rfl (lv_room hst) d hC2) hS (fun q _ h => h) (fun q h => h) (fun r u t H1 locs1 ht hvm hw hB hz1 hk1 hS1 => k1 r u hw H1 locs1 ls (by rw [← ht]; exact hB.1) hS1 hl)
theorem jc_RL_65 {G : GT} {E : ET} {cc : ByteArray} {nL pc : Nat} {rm : Room} {lv : List (Nat × Value)} {st : List Value} {M : Mm} (X : CX G E RL cc nL rm) (hR : 0 + 1 ≤ rm.frames ∧ 8 + (1 + 11) + 0 ≤ rm.locals) (hst : (st.map fun v => v.category).sum ≤ 8) (d : decode cc pc = .ok (.invokevirtual 65, 3))  {P : Int32 → Mm → Prop} (h : wp_X7_faultPosition  M P) (k1 : ∀ (r : Int32) (M2 : Mm), P r M2 → J G E nL (pc + 3) lv (.int r :: st) M2) : J G E nL pc lv (.ref (adr G 7 0) :: st) M := fun H locs ls hP hS hl => by
  have hK := X.2.2.2.2.2.1.1
  have hm := met_X7_faultPosition (l := eL E) X.2.2.2.2.2.2.1  M P h
  have hR2 : 0 + 1 ≤ (eR E).frames ∧ 8 + (1 + 11) + 0 ≤ (eR E).locals := by rw [X.2.2.2.2.2.2.2.1]; exact hR
  have hC2 : eCells E + 0 ≤ (eR E).cells ∧ eSlots E + 0 ≤ (eR E).slots := by rw [X.2.2.2.2.2.2.2.1]; exact ⟨X.2.2.2.2.2.2.2.2.1, X.2.2.2.2.2.2.2.2.2⟩
  obtain ⟨q0, -, hq⟩ := wld_get (G := G) M (mw7 0 (by decide))
  exact va_calli (va_runV (C := RX7) (As := []) (rest := st) ⟨X.1, X.2.1, X.2.2.1, X.2.2.2.1, X.2.2.2.2.1⟩ hm (cwV (ws' := lw_aw) 0 X.2.2.2.2.1 (gwV (tw (i := 1041) (by decide +kernel)) (tw (i := 1042) (by decide +kernel)) (tw (i := 1043) (by decide +kernel)) (tw (i := 78) (by decide +kernel)) (tw (i := 1044) (by decide +kernel))) rfl rfl rfl (by decide +kernel) hR2) ⟨hr_blind, va_recv hK hP (ci := 7) (q := (RX7, TX7, 15)) (fs := objF7 G 0 (M.1 7 0)) (q0 := q0) rfl hq, fun U hU hW => ⟨rfl, by rw [hU]; exact hP, KK.warm hW X.2.2.2.2.2.1⟩⟩ rfl rfl hl.1 rfl (lv_room hst) d hC2) hS (fun q _ h => h) (fun q h => h) (fun r u t H1 locs1 ht hvm hw hB hz1 hk1 hS1 => k1 r u hw H1 locs1 ls (by rw [← ht]; exact hB.1) hS1 hl)
theorem jc_RL_66 {G : GT} {E : ET} {cc : ByteArray} {nL pc : Nat} {rm : Room} {lv : List (Nat × Value)} {st : List Value} {M : Mm} (X : CX G E RL cc nL rm) (hR : 4 + 1 ≤ rm.frames ∧ 8 + (1 + 11) + 89 ≤ rm.locals) (hst : (st.map fun v => v.category).sum ≤ 8) (d : decode cc pc = .ok (.invokevirtual 66, 3))  {P : Int32 → Mm → Prop} (h : wp_X6_undo  M P) (k1 : ∀ (r : Int32) (M2 : Mm), P r M2 → J G E nL (pc + 3) lv (.int r :: st) M2) : J G E nL pc lv (.ref (adr G 6 0) :: st) M := fun H locs ls hP hS hl => by
  have hK := X.2.2.2.2.2.1.1
  have hm := met_X6_undo (l := eL E) X.2.2.2.2.2.2.1  M P h
  have hR2 : 4 + 1 ≤ (eR E).frames ∧ 8 + (1 + 11) + 89 ≤ (eR E).locals := by rw [X.2.2.2.2.2.2.2.1]; exact hR
  have hC2 : eCells E + 0 ≤ (eR E).cells ∧ eSlots E + 0 ≤ (eR E).slots := by rw [X.2.2.2.2.2.2.2.1]; exact ⟨X.2.2.2.2.2.2.2.2.1, X.2.2.2.2.2.2.2.2.2⟩
  obtain ⟨q0, -, hq⟩ := wld_get (G := G) M (mw6 0 (by decide))
  exact va_calli (va_runV (C := RX6) (As := []) (rest := st) ⟨X.1, X.2.1, X.2.2.1, X.2.2.2.1, X.2.2.2.2.1⟩ hm (cwV (ws' := lw_aw) 0 X.2.2.2.2.1 (gwV (tw (i := 538) (by decide +kernel)) (tw (i := 539) (by decide +kernel)) (tw (i := 540) (by decide +kernel)) (tw (i := 71) (by decide +kernel)) (tw (i := 541) (by decide +kernel))) rfl rfl rfl (by decide +kernel) hR2) ⟨hr_blind, va_recv hK hP (ci := 6) (q := (RX6, TX6, 8)) (fs := objF6 G 0 (M.1 6 0)) (q0 := q0) rfl hq, fun U hU hW => ⟨rfl, by rw [hU]; exact hP, KK.warm hW X.2.2.2.2.2.1⟩⟩ rfl rfl hl.1 rfl (lv_room hst) d hC2) hS (fun q _ h => h) (fun q h => h) (fun r u t H1 locs1 ht hvm hw hB hz1 hk1 hS1 => k1 r u hw H1 locs1 ls (by rw [← ht]; exact hB.1) hS1 hl)
theorem jc_RL_69 {G : GT} {E : ET} {cc : ByteArray} {nL pc : Nat} {rm : Room} {lv : List (Nat × Value)} {st : List Value} {M : Mm} (X : CX G E RL cc nL rm) (hR : 1 + 1 ≤ rm.frames ∧ 8 + (1 + 11) + 24 ≤ rm.locals) (hst : (st.map fun v => v.category).sum ≤ 8) (d : decode cc pc = .ok (.invokevirtual 69, 3))  {P : Int32 → Mm → Prop} (h : wp_X7_undo  M P) (k1 : ∀ (r : Int32) (M2 : Mm), P r M2 → J G E nL (pc + 3) lv (.int r :: st) M2) : J G E nL pc lv (.ref (adr G 7 0) :: st) M := fun H locs ls hP hS hl => by
  have hK := X.2.2.2.2.2.1.1
  have hm := met_X7_undo (l := eL E) X.2.2.2.2.2.2.1  M P h
  have hR2 : 1 + 1 ≤ (eR E).frames ∧ 8 + (1 + 11) + 24 ≤ (eR E).locals := by rw [X.2.2.2.2.2.2.2.1]; exact hR
  have hC2 : eCells E + 0 ≤ (eR E).cells ∧ eSlots E + 0 ≤ (eR E).slots := by rw [X.2.2.2.2.2.2.2.1]; exact ⟨X.2.2.2.2.2.2.2.2.1, X.2.2.2.2.2.2.2.2.2⟩
  obtain ⟨q0, -, hq⟩ := wld_get (G := G) M (mw7 0 (by decide))
  exact va_calli (va_runV (C := RX7) (As := []) (rest := st) ⟨X.1, X.2.1, X.2.2.1, X.2.2.2.1, X.2.2.2.2.1⟩ hm (cwV (ws' := lw_aw) 0 X.2.2.2.2.1 (gwV (tw (i := 1045) (by decide +kernel)) (tw (i := 1046) (by decide +kernel)) (tw (i := 1047) (by decide +kernel)) (tw (i := 78) (by decide +kernel)) (tw (i := 1048) (by decide +kernel))) rfl rfl rfl (by decide +kernel) hR2) ⟨hr_blind, va_recv hK hP (ci := 7) (q := (RX7, TX7, 15)) (fs := objF7 G 0 (M.1 7 0)) (q0 := q0) rfl hq, fun U hU hW => ⟨rfl, by rw [hU]; exact hP, KK.warm hW X.2.2.2.2.2.1⟩⟩ rfl rfl hl.1 rfl (lv_room hst) d hC2) hS (fun q _ h => h) (fun q h => h) (fun r u t H1 locs1 ht hvm hw hB hz1 hk1 hS1 => k1 r u hw H1 locs1 ls (by rw [← ht]; exact hB.1) hS1 hl)
theorem jc_RL_70 {G : GT} {E : ET} {cc : ByteArray} {nL pc : Nat} {rm : Room} {lv : List (Nat × Value)} {st : List Value} {M : Mm} (X : CX G E RL cc nL rm) (hR : 0 + 1 ≤ rm.frames ∧ 8 + (2 + 11) + 0 ≤ rm.locals) (hst : (st.map fun v => v.category).sum ≤ 8) (d : decode cc pc = .ok (.invokevirtual 70, 3)) {a1 : Int32} {P : Int32 → Mm → Prop} (h : wp_X6_count a1 M P) (k1 : ∀ (r : Int32) (M2 : Mm), P r M2 → J G E nL (pc + 3) lv (.int r :: st) M2) : J G E nL pc lv (.int a1 :: .ref (adr G 6 0) :: st) M := fun H locs ls hP hS hl => by
  have hK := X.2.2.2.2.2.1.1
  have hm := met_X6_count (l := eL E) X.2.2.2.2.2.2.1 a1 M P h
  have hR2 : 0 + 1 ≤ (eR E).frames ∧ 8 + (2 + 11) + 0 ≤ (eR E).locals := by rw [X.2.2.2.2.2.2.2.1]; exact hR
  have hC2 : eCells E + 0 ≤ (eR E).cells ∧ eSlots E + 0 ≤ (eR E).slots := by rw [X.2.2.2.2.2.2.2.1]; exact ⟨X.2.2.2.2.2.2.2.2.1, X.2.2.2.2.2.2.2.2.2⟩
  obtain ⟨q0, -, hq⟩ := wld_get (G := G) M (mw6 0 (by decide))
  exact va_calli (va_runV (C := RX6) (As := [.int a1]) (rest := st) ⟨X.1, X.2.1, X.2.2.1, X.2.2.2.1, X.2.2.2.2.1⟩ hm (cwV (ws' := lw_aw) 1 X.2.2.2.2.1 (gwV (tw (i := 547) (by decide +kernel)) (tw (i := 548) (by decide +kernel)) (tw (i := 549) (by decide +kernel)) (tw (i := 71) (by decide +kernel)) (tw (i := 550) (by decide +kernel))) rfl rfl rfl (by decide +kernel) hR2) ⟨hr_blind, va_recv hK hP (ci := 6) (q := (RX6, TX6, 8)) (fs := objF6 G 0 (M.1 6 0)) (q0 := q0) rfl hq, fun U hU hW => ⟨rfl, by rw [hU]; exact hP, KK.warm hW X.2.2.2.2.2.1⟩⟩ rfl rfl hl.1 rfl (lv_room hst) d hC2) hS (fun q _ h => h) (fun q h => h) (fun r u t H1 locs1 ht hvm hw hB hz1 hk1 hS1 => k1 r u hw H1 locs1 ls (by rw [← ht]; exact hB.1) hS1 hl)
theorem jc_RL_73 {G : GT} {E : ET} {cc : ByteArray} {nL pc : Nat} {rm : Room} {lv : List (Nat × Value)} {st : List Value} {M : Mm} (X : CX G E RL cc nL rm) (hR : 0 + 1 ≤ rm.frames ∧ 8 + (2 + 11) + 0 ≤ rm.locals) (hst : (st.map fun v => v.category).sum ≤ 8) (d : decode cc pc = .ok (.invokevirtual 73, 3)) {a1 : Int32} {P : Int32 → Mm → Prop} (h : wp_X7_count a1 M P) (k1 : ∀ (r : Int32) (M2 : Mm), P r M2 → J G E nL (pc + 3) lv (.int r :: st) M2) : J G E nL pc lv (.int a1 :: .ref (adr G 7 0) :: st) M := fun H locs ls hP hS hl => by
  have hK := X.2.2.2.2.2.1.1
  have hm := met_X7_count (l := eL E) X.2.2.2.2.2.2.1 a1 M P h
  have hR2 : 0 + 1 ≤ (eR E).frames ∧ 8 + (2 + 11) + 0 ≤ (eR E).locals := by rw [X.2.2.2.2.2.2.2.1]; exact hR
  have hC2 : eCells E + 0 ≤ (eR E).cells ∧ eSlots E + 0 ≤ (eR E).slots := by rw [X.2.2.2.2.2.2.2.1]; exact ⟨X.2.2.2.2.2.2.2.2.1, X.2.2.2.2.2.2.2.2.2⟩
  obtain ⟨q0, -, hq⟩ := wld_get (G := G) M (mw7 0 (by decide))
  exact va_calli (va_runV (C := RX7) (As := [.int a1]) (rest := st) ⟨X.1, X.2.1, X.2.2.1, X.2.2.2.1, X.2.2.2.2.1⟩ hm (cwV (ws' := lw_aw) 1 X.2.2.2.2.1 (gwV (tw (i := 1049) (by decide +kernel)) (tw (i := 1050) (by decide +kernel)) (tw (i := 1051) (by decide +kernel)) (tw (i := 78) (by decide +kernel)) (tw (i := 1052) (by decide +kernel))) rfl rfl rfl (by decide +kernel) hR2) ⟨hr_blind, va_recv hK hP (ci := 7) (q := (RX7, TX7, 15)) (fs := objF7 G 0 (M.1 7 0)) (q0 := q0) rfl hq, fun U hU hW => ⟨rfl, by rw [hU]; exact hP, KK.warm hW X.2.2.2.2.2.1⟩⟩ rfl rfl hl.1 rfl (lv_room hst) d hC2) hS (fun q _ h => h) (fun q h => h) (fun r u t H1 locs1 ht hvm hw hB hz1 hk1 hS1 => k1 r u hw H1 locs1 ls (by rw [← ht]; exact hB.1) hS1 hl)
theorem jc_RL_74 {G : GT} {E : ET} {cc : ByteArray} {nL pc : Nat} {rm : Room} {lv : List (Nat × Value)} {st : List Value} {M : Mm} (X : CX G E RL cc nL rm) (hR : 4 + 1 ≤ rm.frames ∧ 8 + (3 + 11) + 97 ≤ rm.locals) (hst : (st.map fun v => v.category).sum ≤ 8) (d : decode cc pc = .ok (.invokevirtual 74, 3)) {a1 : Int32} {a2 : Int32} {P : Int32 → Mm → Prop} (h : wp_X6_cover a1 a2 M P) (k1 : ∀ (r : Int32) (M2 : Mm), P r M2 → J G E nL (pc + 3) lv (.int r :: st) M2) : J G E nL pc lv (.int a2 :: .int a1 :: .ref (adr G 6 0) :: st) M := fun H locs ls hP hS hl => by
  have hK := X.2.2.2.2.2.1.1
  have hm := met_X6_cover (l := eL E) X.2.2.2.2.2.2.1 a1 a2 M P h
  have hR2 : 4 + 1 ≤ (eR E).frames ∧ 8 + (3 + 11) + 97 ≤ (eR E).locals := by rw [X.2.2.2.2.2.2.2.1]; exact hR
  have hC2 : eCells E + 0 ≤ (eR E).cells ∧ eSlots E + 0 ≤ (eR E).slots := by rw [X.2.2.2.2.2.2.2.1]; exact ⟨X.2.2.2.2.2.2.2.2.1, X.2.2.2.2.2.2.2.2.2⟩
  obtain ⟨q0, -, hq⟩ := wld_get (G := G) M (mw6 0 (by decide))
  exact va_calli (va_runV (C := RX6) (As := [.int a1, .int a2]) (rest := st) ⟨X.1, X.2.1, X.2.2.1, X.2.2.2.1, X.2.2.2.2.1⟩ hm (cwV (ws' := lw_aw) 2 X.2.2.2.2.1 (gwV (tw (i := 551) (by decide +kernel)) (tw (i := 552) (by decide +kernel)) (tw (i := 553) (by decide +kernel)) (tw (i := 71) (by decide +kernel)) (tw (i := 554) (by decide +kernel))) rfl rfl rfl (by decide +kernel) hR2) ⟨hr_blind, va_recv hK hP (ci := 6) (q := (RX6, TX6, 8)) (fs := objF6 G 0 (M.1 6 0)) (q0 := q0) rfl hq, fun U hU hW => ⟨rfl, by rw [hU]; exact hP, KK.warm hW X.2.2.2.2.2.1⟩⟩ rfl rfl hl.1 rfl (lv_room hst) d hC2) hS (fun q _ h => h) (fun q h => h) (fun r u t H1 locs1 ht hvm hw hB hz1 hk1 hS1 => k1 r u hw H1 locs1 ls (by rw [← ht]; exact hB.1) hS1 hl)
theorem jc_RL_77 {G : GT} {E : ET} {cc : ByteArray} {nL pc : Nat} {rm : Room} {lv : List (Nat × Value)} {st : List Value} {M : Mm} (X : CX G E RL cc nL rm) (hR : 7 + 1 ≤ rm.frames ∧ 8 + (3 + 11) + 161 ≤ rm.locals) (hst : (st.map fun v => v.category).sum ≤ 8) (d : decode cc pc = .ok (.invokevirtual 77, 3)) {a1 : Int32} {a2 : Int32} {P : Int32 → Mm → Prop} (h : wp_X7_cover a1 a2 M P) (k1 : ∀ (r : Int32) (M2 : Mm), P r M2 → J G E nL (pc + 3) lv (.int r :: st) M2) : J G E nL pc lv (.int a2 :: .int a1 :: .ref (adr G 7 0) :: st) M := fun H locs ls hP hS hl => by
  have hK := X.2.2.2.2.2.1.1
  have hm := met_X7_cover (l := eL E) X.2.2.2.2.2.2.1 a1 a2 M P h
  have hR2 : 7 + 1 ≤ (eR E).frames ∧ 8 + (3 + 11) + 161 ≤ (eR E).locals := by rw [X.2.2.2.2.2.2.2.1]; exact hR
  have hC2 : eCells E + 0 ≤ (eR E).cells ∧ eSlots E + 0 ≤ (eR E).slots := by rw [X.2.2.2.2.2.2.2.1]; exact ⟨X.2.2.2.2.2.2.2.2.1, X.2.2.2.2.2.2.2.2.2⟩
  obtain ⟨q0, -, hq⟩ := wld_get (G := G) M (mw7 0 (by decide))
  exact va_calli (va_runV (C := RX7) (As := [.int a1, .int a2]) (rest := st) ⟨X.1, X.2.1, X.2.2.1, X.2.2.2.1, X.2.2.2.2.1⟩ hm (cwV (ws' := lw_aw) 2 X.2.2.2.2.1 (gwV (tw (i := 1053) (by decide +kernel)) (tw (i := 1054) (by decide +kernel)) (tw (i := 1055) (by decide +kernel)) (tw (i := 78) (by decide +kernel)) (tw (i := 1056) (by decide +kernel))) rfl rfl rfl (by decide +kernel) hR2) ⟨hr_blind, va_recv hK hP (ci := 7) (q := (RX7, TX7, 15)) (fs := objF7 G 0 (M.1 7 0)) (q0 := q0) rfl hq, fun U hU hW => ⟨rfl, by rw [hU]; exact hP, KK.warm hW X.2.2.2.2.2.1⟩⟩ rfl rfl hl.1 rfl (lv_room hst) d hC2) hS (fun q _ h => h) (fun q h => h) (fun r u t H1 locs1 ht hvm hw hB hz1 hk1 hS1 => k1 r u hw H1 locs1 ls (by rw [← ht]; exact hB.1) hS1 hl)
theorem jc_RL_78 {G : GT} {E : ET} {cc : ByteArray} {nL pc : Nat} {rm : Room} {lv : List (Nat × Value)} {st : List Value} {M : Mm} (X : CX G E RL cc nL rm) (hR : 4 + 1 ≤ rm.frames ∧ 8 + (3 + 11) + 97 ≤ rm.locals) (hst : (st.map fun v => v.category).sum ≤ 8) (d : decode cc pc = .ok (.invokevirtual 78, 3)) {a1 : Int32} {a2 : Int32} {P : Int32 → Mm → Prop} (h : wp_X6_layer a1 a2 M P) (k1 : ∀ (r : Int32) (M2 : Mm), P r M2 → J G E nL (pc + 3) lv (.int r :: st) M2) : J G E nL pc lv (.int a2 :: .int a1 :: .ref (adr G 6 0) :: st) M := fun H locs ls hP hS hl => by
  have hK := X.2.2.2.2.2.1.1
  have hm := met_X6_layer (l := eL E) X.2.2.2.2.2.2.1 a1 a2 M P h
  have hR2 : 4 + 1 ≤ (eR E).frames ∧ 8 + (3 + 11) + 97 ≤ (eR E).locals := by rw [X.2.2.2.2.2.2.2.1]; exact hR
  have hC2 : eCells E + 0 ≤ (eR E).cells ∧ eSlots E + 0 ≤ (eR E).slots := by rw [X.2.2.2.2.2.2.2.1]; exact ⟨X.2.2.2.2.2.2.2.2.1, X.2.2.2.2.2.2.2.2.2⟩
  obtain ⟨q0, -, hq⟩ := wld_get (G := G) M (mw6 0 (by decide))
  exact va_calli (va_runV (C := RX6) (As := [.int a1, .int a2]) (rest := st) ⟨X.1, X.2.1, X.2.2.1, X.2.2.2.1, X.2.2.2.2.1⟩ hm (cwV (ws' := lw_aw) 2 X.2.2.2.2.1 (gwV (tw (i := 621) (by decide +kernel)) (tw (i := 622) (by decide +kernel)) (tw (i := 623) (by decide +kernel)) (tw (i := 71) (by decide +kernel)) (tw (i := 624) (by decide +kernel))) rfl rfl rfl (by decide +kernel) hR2) ⟨hr_blind, va_recv hK hP (ci := 6) (q := (RX6, TX6, 8)) (fs := objF6 G 0 (M.1 6 0)) (q0 := q0) rfl hq, fun U hU hW => ⟨rfl, by rw [hU]; exact hP, KK.warm hW X.2.2.2.2.2.1⟩⟩ rfl rfl hl.1 rfl (lv_room hst) d hC2) hS (fun q _ h => h) (fun q h => h) (fun r u t H1 locs1 ht hvm hw hB hz1 hk1 hS1 => k1 r u hw H1 locs1 ls (by rw [← ht]; exact hB.1) hS1 hl)
theorem jc_RL_81 {G : GT} {E : ET} {cc : ByteArray} {nL pc : Nat} {rm : Room} {lv : List (Nat × Value)} {st : List Value} {M : Mm} (X : CX G E RL cc nL rm) (hR : 14 + 1 ≤ rm.frames ∧ 8 + (3 + 11) + 315 ≤ rm.locals) (hst : (st.map fun v => v.category).sum ≤ 8) (d : decode cc pc = .ok (.invokevirtual 81, 3)) {a1 : Int32} {a2 : Int32} {P : Int32 → Mm → Prop} (h : wp_X7_layer a1 a2 M P) (k1 : ∀ (r : Int32) (M2 : Mm), P r M2 → J G E nL (pc + 3) lv (.int r :: st) M2) : J G E nL pc lv (.int a2 :: .int a1 :: .ref (adr G 7 0) :: st) M := fun H locs ls hP hS hl => by
  have hK := X.2.2.2.2.2.1.1
  have hm := met_X7_layer (l := eL E) X.2.2.2.2.2.2.1 a1 a2 M P h
  have hR2 : 14 + 1 ≤ (eR E).frames ∧ 8 + (3 + 11) + 315 ≤ (eR E).locals := by rw [X.2.2.2.2.2.2.2.1]; exact hR
  have hC2 : eCells E + 0 ≤ (eR E).cells ∧ eSlots E + 0 ≤ (eR E).slots := by rw [X.2.2.2.2.2.2.2.1]; exact ⟨X.2.2.2.2.2.2.2.2.1, X.2.2.2.2.2.2.2.2.2⟩
  obtain ⟨q0, -, hq⟩ := wld_get (G := G) M (mw7 0 (by decide))
  exact va_calli (va_runV (C := RX7) (As := [.int a1, .int a2]) (rest := st) ⟨X.1, X.2.1, X.2.2.1, X.2.2.2.1, X.2.2.2.2.1⟩ hm (cwV (ws' := lw_aw) 2 X.2.2.2.2.1 (gwV (tw (i := 1107) (by decide +kernel)) (tw (i := 1108) (by decide +kernel)) (tw (i := 1109) (by decide +kernel)) (tw (i := 78) (by decide +kernel)) (tw (i := 1110) (by decide +kernel))) rfl rfl rfl (by decide +kernel) hR2) ⟨hr_blind, va_recv hK hP (ci := 7) (q := (RX7, TX7, 15)) (fs := objF7 G 0 (M.1 7 0)) (q0 := q0) rfl hq, fun U hU hW => ⟨rfl, by rw [hU]; exact hP, KK.warm hW X.2.2.2.2.2.1⟩⟩ rfl rfl hl.1 rfl (lv_room hst) d hC2) hS (fun q _ h => h) (fun q h => h) (fun r u t H1 locs1 ht hvm hw hB hz1 hk1 hS1 => k1 r u hw H1 locs1 ls (by rw [← ht]; exact hB.1) hS1 hl)
theorem jc_RL_82 {G : GT} {E : ET} {cc : ByteArray} {nL pc : Nat} {rm : Room} {lv : List (Nat × Value)} {st : List Value} {M : Mm} (X : CX G E RL cc nL rm) (hR : 1 + 1 ≤ rm.frames ∧ 8 + (2 + 11) + 22 ≤ rm.locals) (hst : (st.map fun v => v.category).sum ≤ 8) (d : decode cc pc = .ok (.invokevirtual 82, 3)) {a1 : Int32} {P : Int32 → Mm → Prop} (h : wp_X6_deductible a1 M P) (k1 : ∀ (r : Int32) (M2 : Mm), P r M2 → J G E nL (pc + 3) lv (.int r :: st) M2) : J G E nL pc lv (.int a1 :: .ref (adr G 6 0) :: st) M := fun H locs ls hP hS hl => by
  have hK := X.2.2.2.2.2.1.1
  have hm := met_X6_deductible (l := eL E) X.2.2.2.2.2.2.1 a1 M P h
  have hR2 : 1 + 1 ≤ (eR E).frames ∧ 8 + (2 + 11) + 22 ≤ (eR E).locals := by rw [X.2.2.2.2.2.2.2.1]; exact hR
  have hC2 : eCells E + 0 ≤ (eR E).cells ∧ eSlots E + 0 ≤ (eR E).slots := by rw [X.2.2.2.2.2.2.2.1]; exact ⟨X.2.2.2.2.2.2.2.2.1, X.2.2.2.2.2.2.2.2.2⟩
  obtain ⟨q0, -, hq⟩ := wld_get (G := G) M (mw6 0 (by decide))
  exact va_calli (va_runV (C := RX6) (As := [.int a1]) (rest := st) ⟨X.1, X.2.1, X.2.2.1, X.2.2.2.1, X.2.2.2.2.1⟩ hm (cwV (ws' := lw_aw) 1 X.2.2.2.2.1 (gwV (tw (i := 644) (by decide +kernel)) (tw (i := 645) (by decide +kernel)) (tw (i := 646) (by decide +kernel)) (tw (i := 71) (by decide +kernel)) (tw (i := 647) (by decide +kernel))) rfl rfl rfl (by decide +kernel) hR2) ⟨hr_blind, va_recv hK hP (ci := 6) (q := (RX6, TX6, 8)) (fs := objF6 G 0 (M.1 6 0)) (q0 := q0) rfl hq, fun U hU hW => ⟨rfl, by rw [hU]; exact hP, KK.warm hW X.2.2.2.2.2.1⟩⟩ rfl rfl hl.1 rfl (lv_room hst) d hC2) hS (fun q _ h => h) (fun q h => h) (fun r u t H1 locs1 ht hvm hw hB hz1 hk1 hS1 => k1 r u hw H1 locs1 ls (by rw [← ht]; exact hB.1) hS1 hl)
theorem jc_RL_85 {G : GT} {E : ET} {cc : ByteArray} {nL pc : Nat} {rm : Room} {lv : List (Nat × Value)} {st : List Value} {M : Mm} (X : CX G E RL cc nL rm) (hR : 2 + 1 ≤ rm.frames ∧ 8 + (2 + 11) + 42 ≤ rm.locals) (hst : (st.map fun v => v.category).sum ≤ 8) (d : decode cc pc = .ok (.invokevirtual 85, 3)) {a1 : Int32} {P : Int32 → Mm → Prop} (h : wp_X7_deductible a1 M P) (k1 : ∀ (r : Int32) (M2 : Mm), P r M2 → J G E nL (pc + 3) lv (.int r :: st) M2) : J G E nL pc lv (.int a1 :: .ref (adr G 7 0) :: st) M := fun H locs ls hP hS hl => by
  have hK := X.2.2.2.2.2.1.1
  have hm := met_X7_deductible (l := eL E) X.2.2.2.2.2.2.1 a1 M P h
  have hR2 : 2 + 1 ≤ (eR E).frames ∧ 8 + (2 + 11) + 42 ≤ (eR E).locals := by rw [X.2.2.2.2.2.2.2.1]; exact hR
  have hC2 : eCells E + 0 ≤ (eR E).cells ∧ eSlots E + 0 ≤ (eR E).slots := by rw [X.2.2.2.2.2.2.2.1]; exact ⟨X.2.2.2.2.2.2.2.2.1, X.2.2.2.2.2.2.2.2.2⟩
  obtain ⟨q0, -, hq⟩ := wld_get (G := G) M (mw7 0 (by decide))
  exact va_calli (va_runV (C := RX7) (As := [.int a1]) (rest := st) ⟨X.1, X.2.1, X.2.2.1, X.2.2.2.1, X.2.2.2.2.1⟩ hm (cwV (ws' := lw_aw) 1 X.2.2.2.2.1 (gwV (tw (i := 1152) (by decide +kernel)) (tw (i := 1153) (by decide +kernel)) (tw (i := 1154) (by decide +kernel)) (tw (i := 78) (by decide +kernel)) (tw (i := 1155) (by decide +kernel))) rfl rfl rfl (by decide +kernel) hR2) ⟨hr_blind, va_recv hK hP (ci := 7) (q := (RX7, TX7, 15)) (fs := objF7 G 0 (M.1 7 0)) (q0 := q0) rfl hq, fun U hU hW => ⟨rfl, by rw [hU]; exact hP, KK.warm hW X.2.2.2.2.2.1⟩⟩ rfl rfl hl.1 rfl (lv_room hst) d hC2) hS (fun q _ h => h) (fun q h => h) (fun r u t H1 locs1 ht hvm hw hB hz1 hk1 hS1 => k1 r u hw H1 locs1 ls (by rw [← ht]; exact hB.1) hS1 hl)
theorem jc_RL_86 {G : GT} {E : ET} {cc : ByteArray} {nL pc : Nat} {rm : Room} {lv : List (Nat × Value)} {st : List Value} {M : Mm} (X : CX G E RL cc nL rm) (hR : 4 + 1 ≤ rm.frames ∧ 8 + (3 + 11) + 97 ≤ rm.locals) (hst : (st.map fun v => v.category).sum ≤ 8) (d : decode cc pc = .ok (.invokevirtual 86, 3)) {a1 : Int32} {a2 : Int32} {P : Int32 → Mm → Prop} (h : wp_X6_event a1 a2 M P) (k1 : ∀ (r : Int32) (M2 : Mm), P r M2 → J G E nL (pc + 3) lv (.int r :: st) M2) : J G E nL pc lv (.int a2 :: .int a1 :: .ref (adr G 6 0) :: st) M := fun H locs ls hP hS hl => by
  have hK := X.2.2.2.2.2.1.1
  have hm := met_X6_event (l := eL E) X.2.2.2.2.2.2.1 a1 a2 M P h
  have hR2 : 4 + 1 ≤ (eR E).frames ∧ 8 + (3 + 11) + 97 ≤ (eR E).locals := by rw [X.2.2.2.2.2.2.2.1]; exact hR
  have hC2 : eCells E + 0 ≤ (eR E).cells ∧ eSlots E + 0 ≤ (eR E).slots := by rw [X.2.2.2.2.2.2.2.1]; exact ⟨X.2.2.2.2.2.2.2.2.1, X.2.2.2.2.2.2.2.2.2⟩
  obtain ⟨q0, -, hq⟩ := wld_get (G := G) M (mw6 0 (by decide))
  exact va_calli (va_runV (C := RX6) (As := [.int a1, .int a2]) (rest := st) ⟨X.1, X.2.1, X.2.2.1, X.2.2.2.1, X.2.2.2.2.1⟩ hm (cwV (ws' := lw_aw) 2 X.2.2.2.2.1 (gwV (tw (i := 649) (by decide +kernel)) (tw (i := 650) (by decide +kernel)) (tw (i := 651) (by decide +kernel)) (tw (i := 71) (by decide +kernel)) (tw (i := 652) (by decide +kernel))) rfl rfl rfl (by decide +kernel) hR2) ⟨hr_blind, va_recv hK hP (ci := 6) (q := (RX6, TX6, 8)) (fs := objF6 G 0 (M.1 6 0)) (q0 := q0) rfl hq, fun U hU hW => ⟨rfl, by rw [hU]; exact hP, KK.warm hW X.2.2.2.2.2.1⟩⟩ rfl rfl hl.1 rfl (lv_room hst) d hC2) hS (fun q _ h => h) (fun q h => h) (fun r u t H1 locs1 ht hvm hw hB hz1 hk1 hS1 => k1 r u hw H1 locs1 ls (by rw [← ht]; exact hB.1) hS1 hl)
theorem jc_RL_89 {G : GT} {E : ET} {cc : ByteArray} {nL pc : Nat} {rm : Room} {lv : List (Nat × Value)} {st : List Value} {M : Mm} (X : CX G E RL cc nL rm) (hR : 13 + 1 ≤ rm.frames ∧ 8 + (3 + 11) + 297 ≤ rm.locals) (hst : (st.map fun v => v.category).sum ≤ 8) (d : decode cc pc = .ok (.invokevirtual 89, 3)) {a1 : Int32} {a2 : Int32} {P : Int32 → Mm → Prop} (h : wp_X7_event a1 a2 M P) (k1 : ∀ (r : Int32) (M2 : Mm), P r M2 → J G E nL (pc + 3) lv (.int r :: st) M2) : J G E nL pc lv (.int a2 :: .int a1 :: .ref (adr G 7 0) :: st) M := fun H locs ls hP hS hl => by
  have hK := X.2.2.2.2.2.1.1
  have hm := met_X7_event (l := eL E) X.2.2.2.2.2.2.1 a1 a2 M P h
  have hR2 : 13 + 1 ≤ (eR E).frames ∧ 8 + (3 + 11) + 297 ≤ (eR E).locals := by rw [X.2.2.2.2.2.2.2.1]; exact hR
  have hC2 : eCells E + 0 ≤ (eR E).cells ∧ eSlots E + 0 ≤ (eR E).slots := by rw [X.2.2.2.2.2.2.2.1]; exact ⟨X.2.2.2.2.2.2.2.2.1, X.2.2.2.2.2.2.2.2.2⟩
  obtain ⟨q0, -, hq⟩ := wld_get (G := G) M (mw7 0 (by decide))
  exact va_calli (va_runV (C := RX7) (As := [.int a1, .int a2]) (rest := st) ⟨X.1, X.2.1, X.2.2.1, X.2.2.2.1, X.2.2.2.2.1⟩ hm (cwV (ws' := lw_aw) 2 X.2.2.2.2.1 (gwV (tw (i := 1156) (by decide +kernel)) (tw (i := 1157) (by decide +kernel)) (tw (i := 1158) (by decide +kernel)) (tw (i := 78) (by decide +kernel)) (tw (i := 1159) (by decide +kernel))) rfl rfl rfl (by decide +kernel) hR2) ⟨hr_blind, va_recv hK hP (ci := 7) (q := (RX7, TX7, 15)) (fs := objF7 G 0 (M.1 7 0)) (q0 := q0) rfl hq, fun U hU hW => ⟨rfl, by rw [hU]; exact hP, KK.warm hW X.2.2.2.2.2.1⟩⟩ rfl rfl hl.1 rfl (lv_room hst) d hC2) hS (fun q _ h => h) (fun q h => h) (fun r u t H1 locs1 ht hvm hw hB hz1 hk1 hS1 => k1 r u hw H1 locs1 ls (by rw [← ht]; exact hB.1) hS1 hl)
theorem jc_RL_90 {G : GT} {E : ET} {cc : ByteArray} {nL pc : Nat} {rm : Room} {lv : List (Nat × Value)} {st : List Value} {M : Mm} (X : CX G E RL cc nL rm) (hR : 4 + 1 ≤ rm.frames ∧ 8 + (2 + 11) + 97 ≤ rm.locals) (hst : (st.map fun v => v.category).sum ≤ 8) (d : decode cc pc = .ok (.invokevirtual 90, 3)) {a1 : Int32} {P : Int32 → Mm → Prop} (h : wp_X6_eventAt a1 M P) (k1 : ∀ (r : Int32) (M2 : Mm), P r M2 → J G E nL (pc + 3) lv (.int r :: st) M2) : J G E nL pc lv (.int a1 :: .ref (adr G 6 0) :: st) M := fun H locs ls hP hS hl => by
  have hK := X.2.2.2.2.2.1.1
  have hm := met_X6_eventAt (l := eL E) X.2.2.2.2.2.2.1 a1 M P h
  have hR2 : 4 + 1 ≤ (eR E).frames ∧ 8 + (2 + 11) + 97 ≤ (eR E).locals := by rw [X.2.2.2.2.2.2.2.1]; exact hR
  have hC2 : eCells E + 0 ≤ (eR E).cells ∧ eSlots E + 0 ≤ (eR E).slots := by rw [X.2.2.2.2.2.2.2.1]; exact ⟨X.2.2.2.2.2.2.2.2.1, X.2.2.2.2.2.2.2.2.2⟩
  obtain ⟨q0, -, hq⟩ := wld_get (G := G) M (mw6 0 (by decide))
  exact va_calli (va_runV (C := RX6) (As := [.int a1]) (rest := st) ⟨X.1, X.2.1, X.2.2.1, X.2.2.2.1, X.2.2.2.2.1⟩ hm (cwV (ws' := lw_aw) 1 X.2.2.2.2.1 (gwV (tw (i := 663) (by decide +kernel)) (tw (i := 664) (by decide +kernel)) (tw (i := 665) (by decide +kernel)) (tw (i := 71) (by decide +kernel)) (tw (i := 666) (by decide +kernel))) rfl rfl rfl (by decide +kernel) hR2) ⟨hr_blind, va_recv hK hP (ci := 6) (q := (RX6, TX6, 8)) (fs := objF6 G 0 (M.1 6 0)) (q0 := q0) rfl hq, fun U hU hW => ⟨rfl, by rw [hU]; exact hP, KK.warm hW X.2.2.2.2.2.1⟩⟩ rfl rfl hl.1 rfl (lv_room hst) d hC2) hS (fun q _ h => h) (fun q h => h) (fun r u t H1 locs1 ht hvm hw hB hz1 hk1 hS1 => k1 r u hw H1 locs1 ls (by rw [← ht]; exact hB.1) hS1 hl)
theorem jc_RL_93 {G : GT} {E : ET} {cc : ByteArray} {nL pc : Nat} {rm : Room} {lv : List (Nat × Value)} {st : List Value} {M : Mm} (X : CX G E RL cc nL rm) (hR : 3 + 1 ≤ rm.frames ∧ 8 + (2 + 11) + 67 ≤ rm.locals) (hst : (st.map fun v => v.category).sum ≤ 8) (d : decode cc pc = .ok (.invokevirtual 93, 3)) {a1 : Int32} {P : Int32 → Mm → Prop} (h : wp_X7_eventAt a1 M P) (k1 : ∀ (r : Int32) (M2 : Mm), P r M2 → J G E nL (pc + 3) lv (.int r :: st) M2) : J G E nL pc lv (.int a1 :: .ref (adr G 7 0) :: st) M := fun H locs ls hP hS hl => by
  have hK := X.2.2.2.2.2.1.1
  have hm := met_X7_eventAt (l := eL E) X.2.2.2.2.2.2.1 a1 M P h
  have hR2 : 3 + 1 ≤ (eR E).frames ∧ 8 + (2 + 11) + 67 ≤ (eR E).locals := by rw [X.2.2.2.2.2.2.2.1]; exact hR
  have hC2 : eCells E + 0 ≤ (eR E).cells ∧ eSlots E + 0 ≤ (eR E).slots := by rw [X.2.2.2.2.2.2.2.1]; exact ⟨X.2.2.2.2.2.2.2.2.1, X.2.2.2.2.2.2.2.2.2⟩
  obtain ⟨q0, -, hq⟩ := wld_get (G := G) M (mw7 0 (by decide))
  exact va_calli (va_runV (C := RX7) (As := [.int a1]) (rest := st) ⟨X.1, X.2.1, X.2.2.1, X.2.2.2.1, X.2.2.2.2.1⟩ hm (cwV (ws' := lw_aw) 1 X.2.2.2.2.1 (gwV (tw (i := 1176) (by decide +kernel)) (tw (i := 1177) (by decide +kernel)) (tw (i := 1178) (by decide +kernel)) (tw (i := 78) (by decide +kernel)) (tw (i := 1179) (by decide +kernel))) rfl rfl rfl (by decide +kernel) hR2) ⟨hr_blind, va_recv hK hP (ci := 7) (q := (RX7, TX7, 15)) (fs := objF7 G 0 (M.1 7 0)) (q0 := q0) rfl hq, fun U hU hW => ⟨rfl, by rw [hU]; exact hP, KK.warm hW X.2.2.2.2.2.1⟩⟩ rfl rfl hl.1 rfl (lv_room hst) d hC2) hS (fun q _ h => h) (fun q h => h) (fun r u t H1 locs1 ht hvm hw hB hz1 hk1 hS1 => k1 r u hw H1 locs1 ls (by rw [← ht]; exact hB.1) hS1 hl)
theorem jc_RL_94 {G : GT} {E : ET} {cc : ByteArray} {nL pc : Nat} {rm : Room} {lv : List (Nat × Value)} {st : List Value} {M : Mm} (X : CX G E RL cc nL rm) (hR : 4 + 1 ≤ rm.frames ∧ 8 + (3 + 11) + 97 ≤ rm.locals) (hst : (st.map fun v => v.category).sum ≤ 8) (d : decode cc pc = .ok (.invokevirtual 94, 3)) {a1 : Int32} {a2 : Int32} {P : Int32 → Mm → Prop} (h : wp_X6_claim a1 a2 M P) (k1 : ∀ (r : Int32) (M2 : Mm), P r M2 → J G E nL (pc + 3) lv (.int r :: st) M2) : J G E nL pc lv (.int a2 :: .int a1 :: .ref (adr G 6 0) :: st) M := fun H locs ls hP hS hl => by
  have hK := X.2.2.2.2.2.1.1
  have hm := met_X6_claim (l := eL E) X.2.2.2.2.2.2.1 a1 a2 M P h
  have hR2 : 4 + 1 ≤ (eR E).frames ∧ 8 + (3 + 11) + 97 ≤ (eR E).locals := by rw [X.2.2.2.2.2.2.2.1]; exact hR
  have hC2 : eCells E + 0 ≤ (eR E).cells ∧ eSlots E + 0 ≤ (eR E).slots := by rw [X.2.2.2.2.2.2.2.1]; exact ⟨X.2.2.2.2.2.2.2.2.1, X.2.2.2.2.2.2.2.2.2⟩
  obtain ⟨q0, -, hq⟩ := wld_get (G := G) M (mw6 0 (by decide))
  exact va_calli (va_runV (C := RX6) (As := [.int a1, .int a2]) (rest := st) ⟨X.1, X.2.1, X.2.2.1, X.2.2.2.1, X.2.2.2.2.1⟩ hm (cwV (ws' := lw_aw) 2 X.2.2.2.2.1 (gwV (tw (i := 667) (by decide +kernel)) (tw (i := 668) (by decide +kernel)) (tw (i := 669) (by decide +kernel)) (tw (i := 71) (by decide +kernel)) (tw (i := 670) (by decide +kernel))) rfl rfl rfl (by decide +kernel) hR2) ⟨hr_blind, va_recv hK hP (ci := 6) (q := (RX6, TX6, 8)) (fs := objF6 G 0 (M.1 6 0)) (q0 := q0) rfl hq, fun U hU hW => ⟨rfl, by rw [hU]; exact hP, KK.warm hW X.2.2.2.2.2.1⟩⟩ rfl rfl hl.1 rfl (lv_room hst) d hC2) hS (fun q _ h => h) (fun q h => h) (fun r u t H1 locs1 ht hvm hw hB hz1 hk1 hS1 => k1 r u hw H1 locs1 ls (by rw [← ht]; exact hB.1) hS1 hl)
theorem jc_RL_97 {G : GT} {E : ET} {cc : ByteArray} {nL pc : Nat} {rm : Room} {lv : List (Nat × Value)} {st : List Value} {M : Mm} (X : CX G E RL cc nL rm) (hR : 9 + 1 ≤ rm.frames ∧ 8 + (3 + 11) + 210 ≤ rm.locals) (hst : (st.map fun v => v.category).sum ≤ 8) (d : decode cc pc = .ok (.invokevirtual 97, 3)) {a1 : Int32} {a2 : Int32} {P : Int32 → Mm → Prop} (h : wp_X7_claim a1 a2 M P) (k1 : ∀ (r : Int32) (M2 : Mm), P r M2 → J G E nL (pc + 3) lv (.int r :: st) M2) : J G E nL pc lv (.int a2 :: .int a1 :: .ref (adr G 7 0) :: st) M := fun H locs ls hP hS hl => by
  have hK := X.2.2.2.2.2.1.1
  have hm := met_X7_claim (l := eL E) X.2.2.2.2.2.2.1 a1 a2 M P h
  have hR2 : 9 + 1 ≤ (eR E).frames ∧ 8 + (3 + 11) + 210 ≤ (eR E).locals := by rw [X.2.2.2.2.2.2.2.1]; exact hR
  have hC2 : eCells E + 0 ≤ (eR E).cells ∧ eSlots E + 0 ≤ (eR E).slots := by rw [X.2.2.2.2.2.2.2.1]; exact ⟨X.2.2.2.2.2.2.2.2.1, X.2.2.2.2.2.2.2.2.2⟩
  obtain ⟨q0, -, hq⟩ := wld_get (G := G) M (mw7 0 (by decide))
  exact va_calli (va_runV (C := RX7) (As := [.int a1, .int a2]) (rest := st) ⟨X.1, X.2.1, X.2.2.1, X.2.2.2.1, X.2.2.2.2.1⟩ hm (cwV (ws' := lw_aw) 2 X.2.2.2.2.1 (gwV (tw (i := 1180) (by decide +kernel)) (tw (i := 1181) (by decide +kernel)) (tw (i := 1182) (by decide +kernel)) (tw (i := 78) (by decide +kernel)) (tw (i := 1183) (by decide +kernel))) rfl rfl rfl (by decide +kernel) hR2) ⟨hr_blind, va_recv hK hP (ci := 7) (q := (RX7, TX7, 15)) (fs := objF7 G 0 (M.1 7 0)) (q0 := q0) rfl hq, fun U hU hW => ⟨rfl, by rw [hU]; exact hP, KK.warm hW X.2.2.2.2.2.1⟩⟩ rfl rfl hl.1 rfl (lv_room hst) d hC2) hS (fun q _ h => h) (fun q h => h) (fun r u t H1 locs1 ht hvm hw hB hz1 hk1 hS1 => k1 r u hw H1 locs1 ls (by rw [← ht]; exact hB.1) hS1 hl)
theorem jc_RL_98 {G : GT} {E : ET} {cc : ByteArray} {nL pc : Nat} {rm : Room} {lv : List (Nat × Value)} {st : List Value} {M : Mm} (X : CX G E RL cc nL rm) (hR : 5 + 1 ≤ rm.frames ∧ 8 + (3 + 11) + 120 ≤ rm.locals) (hst : (st.map fun v => v.category).sum ≤ 8) (d : decode cc pc = .ok (.invokevirtual 98, 3)) {a1 : Int32} {a2 : Int32} {P : Int32 → Mm → Prop} (h : wp_X6_gross a1 a2 M P) (k1 : ∀ (r : Int32) (M2 : Mm), P r M2 → J G E nL (pc + 3) lv (.int r :: st) M2) : J G E nL pc lv (.int a2 :: .int a1 :: .ref (adr G 6 0) :: st) M := fun H locs ls hP hS hl => by
  have hK := X.2.2.2.2.2.1.1
  have hm := met_X6_gross (l := eL E) X.2.2.2.2.2.2.1 a1 a2 M P h
  have hR2 : 5 + 1 ≤ (eR E).frames ∧ 8 + (3 + 11) + 120 ≤ (eR E).locals := by rw [X.2.2.2.2.2.2.2.1]; exact hR
  have hC2 : eCells E + 0 ≤ (eR E).cells ∧ eSlots E + 0 ≤ (eR E).slots := by rw [X.2.2.2.2.2.2.2.1]; exact ⟨X.2.2.2.2.2.2.2.2.1, X.2.2.2.2.2.2.2.2.2⟩
  obtain ⟨q0, -, hq⟩ := wld_get (G := G) M (mw6 0 (by decide))
  exact va_calli (va_runV (C := RX6) (As := [.int a1, .int a2]) (rest := st) ⟨X.1, X.2.1, X.2.2.1, X.2.2.2.1, X.2.2.2.2.1⟩ hm (cwV (ws' := lw_aw) 2 X.2.2.2.2.1 (gwV (tw (i := 684) (by decide +kernel)) (tw (i := 685) (by decide +kernel)) (tw (i := 686) (by decide +kernel)) (tw (i := 71) (by decide +kernel)) (tw (i := 687) (by decide +kernel))) rfl rfl rfl (by decide +kernel) hR2) ⟨hr_blind, va_recv hK hP (ci := 6) (q := (RX6, TX6, 8)) (fs := objF6 G 0 (M.1 6 0)) (q0 := q0) rfl hq, fun U hU hW => ⟨rfl, by rw [hU]; exact hP, KK.warm hW X.2.2.2.2.2.1⟩⟩ rfl rfl hl.1 rfl (lv_room hst) d hC2) hS (fun q _ h => h) (fun q h => h) (fun r u t H1 locs1 ht hvm hw hB hz1 hk1 hS1 => k1 r u hw H1 locs1 ls (by rw [← ht]; exact hB.1) hS1 hl)
theorem jc_RL_101 {G : GT} {E : ET} {cc : ByteArray} {nL pc : Nat} {rm : Room} {lv : List (Nat × Value)} {st : List Value} {M : Mm} (X : CX G E RL cc nL rm) (hR : 3 + 1 ≤ rm.frames ∧ 8 + (3 + 11) + 69 ≤ rm.locals) (hst : (st.map fun v => v.category).sum ≤ 8) (d : decode cc pc = .ok (.invokevirtual 101, 3)) {a1 : Int32} {a2 : Int32} {P : Int32 → Mm → Prop} (h : wp_X7_gross a1 a2 M P) (k1 : ∀ (r : Int32) (M2 : Mm), P r M2 → J G E nL (pc + 3) lv (.int r :: st) M2) : J G E nL pc lv (.int a2 :: .int a1 :: .ref (adr G 7 0) :: st) M := fun H locs ls hP hS hl => by
  have hK := X.2.2.2.2.2.1.1
  have hm := met_X7_gross (l := eL E) X.2.2.2.2.2.2.1 a1 a2 M P h
  have hR2 : 3 + 1 ≤ (eR E).frames ∧ 8 + (3 + 11) + 69 ≤ (eR E).locals := by rw [X.2.2.2.2.2.2.2.1]; exact hR
  have hC2 : eCells E + 0 ≤ (eR E).cells ∧ eSlots E + 0 ≤ (eR E).slots := by rw [X.2.2.2.2.2.2.2.1]; exact ⟨X.2.2.2.2.2.2.2.2.1, X.2.2.2.2.2.2.2.2.2⟩
  obtain ⟨q0, -, hq⟩ := wld_get (G := G) M (mw7 0 (by decide))
  exact va_calli (va_runV (C := RX7) (As := [.int a1, .int a2]) (rest := st) ⟨X.1, X.2.1, X.2.2.1, X.2.2.2.1, X.2.2.2.2.1⟩ hm (cwV (ws' := lw_aw) 2 X.2.2.2.2.1 (gwV (tw (i := 1192) (by decide +kernel)) (tw (i := 1193) (by decide +kernel)) (tw (i := 1194) (by decide +kernel)) (tw (i := 78) (by decide +kernel)) (tw (i := 1195) (by decide +kernel))) rfl rfl rfl (by decide +kernel) hR2) ⟨hr_blind, va_recv hK hP (ci := 7) (q := (RX7, TX7, 15)) (fs := objF7 G 0 (M.1 7 0)) (q0 := q0) rfl hq, fun U hU hW => ⟨rfl, by rw [hU]; exact hP, KK.warm hW X.2.2.2.2.2.1⟩⟩ rfl rfl hl.1 rfl (lv_room hst) d hC2) hS (fun q _ h => h) (fun q h => h) (fun r u t H1 locs1 ht hvm hw hB hz1 hk1 hS1 => k1 r u hw H1 locs1 ls (by rw [← ht]; exact hB.1) hS1 hl)
theorem jc_RL_102 {G : GT} {E : ET} {cc : ByteArray} {nL pc : Nat} {rm : Room} {lv : List (Nat × Value)} {st : List Value} {M : Mm} (X : CX G E RL cc nL rm) (hR : 5 + 1 ≤ rm.frames ∧ 8 + (3 + 11) + 120 ≤ rm.locals) (hst : (st.map fun v => v.category).sum ≤ 8) (d : decode cc pc = .ok (.invokevirtual 102, 3)) {a1 : Int32} {a2 : Int32} {P : Int32 → Mm → Prop} (h : wp_X6_deducted a1 a2 M P) (k1 : ∀ (r : Int32) (M2 : Mm), P r M2 → J G E nL (pc + 3) lv (.int r :: st) M2) : J G E nL pc lv (.int a2 :: .int a1 :: .ref (adr G 6 0) :: st) M := fun H locs ls hP hS hl => by
  have hK := X.2.2.2.2.2.1.1
  have hm := met_X6_deducted (l := eL E) X.2.2.2.2.2.2.1 a1 a2 M P h
  have hR2 : 5 + 1 ≤ (eR E).frames ∧ 8 + (3 + 11) + 120 ≤ (eR E).locals := by rw [X.2.2.2.2.2.2.2.1]; exact hR
  have hC2 : eCells E + 0 ≤ (eR E).cells ∧ eSlots E + 0 ≤ (eR E).slots := by rw [X.2.2.2.2.2.2.2.1]; exact ⟨X.2.2.2.2.2.2.2.2.1, X.2.2.2.2.2.2.2.2.2⟩
  obtain ⟨q0, -, hq⟩ := wld_get (G := G) M (mw6 0 (by decide))
  exact va_calli (va_runV (C := RX6) (As := [.int a1, .int a2]) (rest := st) ⟨X.1, X.2.1, X.2.2.1, X.2.2.2.1, X.2.2.2.2.1⟩ hm (cwV (ws' := lw_aw) 2 X.2.2.2.2.1 (gwV (tw (i := 692) (by decide +kernel)) (tw (i := 693) (by decide +kernel)) (tw (i := 694) (by decide +kernel)) (tw (i := 71) (by decide +kernel)) (tw (i := 695) (by decide +kernel))) rfl rfl rfl (by decide +kernel) hR2) ⟨hr_blind, va_recv hK hP (ci := 6) (q := (RX6, TX6, 8)) (fs := objF6 G 0 (M.1 6 0)) (q0 := q0) rfl hq, fun U hU hW => ⟨rfl, by rw [hU]; exact hP, KK.warm hW X.2.2.2.2.2.1⟩⟩ rfl rfl hl.1 rfl (lv_room hst) d hC2) hS (fun q _ h => h) (fun q h => h) (fun r u t H1 locs1 ht hvm hw hB hz1 hk1 hS1 => k1 r u hw H1 locs1 ls (by rw [← ht]; exact hB.1) hS1 hl)
theorem jc_RL_105 {G : GT} {E : ET} {cc : ByteArray} {nL pc : Nat} {rm : Room} {lv : List (Nat × Value)} {st : List Value} {M : Mm} (X : CX G E RL cc nL rm) (hR : 4 + 1 ≤ rm.frames ∧ 8 + (3 + 11) + 94 ≤ rm.locals) (hst : (st.map fun v => v.category).sum ≤ 8) (d : decode cc pc = .ok (.invokevirtual 105, 3)) {a1 : Int32} {a2 : Int32} {P : Int32 → Mm → Prop} (h : wp_X7_deducted a1 a2 M P) (k1 : ∀ (r : Int32) (M2 : Mm), P r M2 → J G E nL (pc + 3) lv (.int r :: st) M2) : J G E nL pc lv (.int a2 :: .int a1 :: .ref (adr G 7 0) :: st) M := fun H locs ls hP hS hl => by
  have hK := X.2.2.2.2.2.1.1
  have hm := met_X7_deducted (l := eL E) X.2.2.2.2.2.2.1 a1 a2 M P h
  have hR2 : 4 + 1 ≤ (eR E).frames ∧ 8 + (3 + 11) + 94 ≤ (eR E).locals := by rw [X.2.2.2.2.2.2.2.1]; exact hR
  have hC2 : eCells E + 0 ≤ (eR E).cells ∧ eSlots E + 0 ≤ (eR E).slots := by rw [X.2.2.2.2.2.2.2.1]; exact ⟨X.2.2.2.2.2.2.2.2.1, X.2.2.2.2.2.2.2.2.2⟩
  obtain ⟨q0, -, hq⟩ := wld_get (G := G) M (mw7 0 (by decide))
  exact va_calli (va_runV (C := RX7) (As := [.int a1, .int a2]) (rest := st) ⟨X.1, X.2.1, X.2.2.1, X.2.2.2.1, X.2.2.2.2.1⟩ hm (cwV (ws' := lw_aw) 2 X.2.2.2.2.1 (gwV (tw (i := 1200) (by decide +kernel)) (tw (i := 1201) (by decide +kernel)) (tw (i := 1202) (by decide +kernel)) (tw (i := 78) (by decide +kernel)) (tw (i := 1203) (by decide +kernel))) rfl rfl rfl (by decide +kernel) hR2) ⟨hr_blind, va_recv hK hP (ci := 7) (q := (RX7, TX7, 15)) (fs := objF7 G 0 (M.1 7 0)) (q0 := q0) rfl hq, fun U hU hW => ⟨rfl, by rw [hU]; exact hP, KK.warm hW X.2.2.2.2.2.1⟩⟩ rfl rfl hl.1 rfl (lv_room hst) d hC2) hS (fun q _ h => h) (fun q h => h) (fun r u t H1 locs1 ht hvm hw hB hz1 hk1 hS1 => k1 r u hw H1 locs1 ls (by rw [← ht]; exact hB.1) hS1 hl)
theorem jc_RL_106 {G : GT} {E : ET} {cc : ByteArray} {nL pc : Nat} {rm : Room} {lv : List (Nat × Value)} {st : List Value} {M : Mm} (X : CX G E RL cc nL rm) (hR : 5 + 1 ≤ rm.frames ∧ 8 + (3 + 11) + 120 ≤ rm.locals) (hst : (st.map fun v => v.category).sum ≤ 8) (d : decode cc pc = .ok (.invokevirtual 106, 3)) {a1 : Int32} {a2 : Int32} {P : Int32 → Mm → Prop} (h : wp_X6_paid a1 a2 M P) (k1 : ∀ (r : Int32) (M2 : Mm), P r M2 → J G E nL (pc + 3) lv (.int r :: st) M2) : J G E nL pc lv (.int a2 :: .int a1 :: .ref (adr G 6 0) :: st) M := fun H locs ls hP hS hl => by
  have hK := X.2.2.2.2.2.1.1
  have hm := met_X6_paid (l := eL E) X.2.2.2.2.2.2.1 a1 a2 M P h
  have hR2 : 5 + 1 ≤ (eR E).frames ∧ 8 + (3 + 11) + 120 ≤ (eR E).locals := by rw [X.2.2.2.2.2.2.2.1]; exact hR
  have hC2 : eCells E + 0 ≤ (eR E).cells ∧ eSlots E + 0 ≤ (eR E).slots := by rw [X.2.2.2.2.2.2.2.1]; exact ⟨X.2.2.2.2.2.2.2.2.1, X.2.2.2.2.2.2.2.2.2⟩
  obtain ⟨q0, -, hq⟩ := wld_get (G := G) M (mw6 0 (by decide))
  exact va_calli (va_runV (C := RX6) (As := [.int a1, .int a2]) (rest := st) ⟨X.1, X.2.1, X.2.2.1, X.2.2.2.1, X.2.2.2.2.1⟩ hm (cwV (ws' := lw_aw) 2 X.2.2.2.2.1 (gwV (tw (i := 696) (by decide +kernel)) (tw (i := 697) (by decide +kernel)) (tw (i := 698) (by decide +kernel)) (tw (i := 71) (by decide +kernel)) (tw (i := 699) (by decide +kernel))) rfl rfl rfl (by decide +kernel) hR2) ⟨hr_blind, va_recv hK hP (ci := 6) (q := (RX6, TX6, 8)) (fs := objF6 G 0 (M.1 6 0)) (q0 := q0) rfl hq, fun U hU hW => ⟨rfl, by rw [hU]; exact hP, KK.warm hW X.2.2.2.2.2.1⟩⟩ rfl rfl hl.1 rfl (lv_room hst) d hC2) hS (fun q _ h => h) (fun q h => h) (fun r u t H1 locs1 ht hvm hw hB hz1 hk1 hS1 => k1 r u hw H1 locs1 ls (by rw [← ht]; exact hB.1) hS1 hl)
theorem jc_RL_109 {G : GT} {E : ET} {cc : ByteArray} {nL pc : Nat} {rm : Room} {lv : List (Nat × Value)} {st : List Value} {M : Mm} (X : CX G E RL cc nL rm) (hR : 7 + 1 ≤ rm.frames ∧ 8 + (3 + 11) + 162 ≤ rm.locals) (hst : (st.map fun v => v.category).sum ≤ 8) (d : decode cc pc = .ok (.invokevirtual 109, 3)) {a1 : Int32} {a2 : Int32} {P : Int32 → Mm → Prop} (h : wp_X7_paid a1 a2 M P) (k1 : ∀ (r : Int32) (M2 : Mm), P r M2 → J G E nL (pc + 3) lv (.int r :: st) M2) : J G E nL pc lv (.int a2 :: .int a1 :: .ref (adr G 7 0) :: st) M := fun H locs ls hP hS hl => by
  have hK := X.2.2.2.2.2.1.1
  have hm := met_X7_paid (l := eL E) X.2.2.2.2.2.2.1 a1 a2 M P h
  have hR2 : 7 + 1 ≤ (eR E).frames ∧ 8 + (3 + 11) + 162 ≤ (eR E).locals := by rw [X.2.2.2.2.2.2.2.1]; exact hR
  have hC2 : eCells E + 0 ≤ (eR E).cells ∧ eSlots E + 0 ≤ (eR E).slots := by rw [X.2.2.2.2.2.2.2.1]; exact ⟨X.2.2.2.2.2.2.2.2.1, X.2.2.2.2.2.2.2.2.2⟩
  obtain ⟨q0, -, hq⟩ := wld_get (G := G) M (mw7 0 (by decide))
  exact va_calli (va_runV (C := RX7) (As := [.int a1, .int a2]) (rest := st) ⟨X.1, X.2.1, X.2.2.1, X.2.2.2.1, X.2.2.2.2.1⟩ hm (cwV (ws' := lw_aw) 2 X.2.2.2.2.1 (gwV (tw (i := 1204) (by decide +kernel)) (tw (i := 1205) (by decide +kernel)) (tw (i := 1206) (by decide +kernel)) (tw (i := 78) (by decide +kernel)) (tw (i := 1207) (by decide +kernel))) rfl rfl rfl (by decide +kernel) hR2) ⟨hr_blind, va_recv hK hP (ci := 7) (q := (RX7, TX7, 15)) (fs := objF7 G 0 (M.1 7 0)) (q0 := q0) rfl hq, fun U hU hW => ⟨rfl, by rw [hU]; exact hP, KK.warm hW X.2.2.2.2.2.1⟩⟩ rfl rfl hl.1 rfl (lv_room hst) d hC2) hS (fun q _ h => h) (fun q h => h) (fun r u t H1 locs1 ht hvm hw hB hz1 hk1 hS1 => k1 r u hw H1 locs1 ls (by rw [← ht]; exact hB.1) hS1 hl)
theorem jc_RL_110 {G : GT} {E : ET} {cc : ByteArray} {nL pc : Nat} {rm : Room} {lv : List (Nat × Value)} {st : List Value} {M : Mm} (X : CX G E RL cc nL rm) (hR : 5 + 1 ≤ rm.frames ∧ 8 + (3 + 11) + 120 ≤ rm.locals) (hst : (st.map fun v => v.category).sum ≤ 8) (d : decode cc pc = .ok (.invokevirtual 110, 3)) {a1 : Int32} {a2 : Int32} {P : Int32 → Mm → Prop} (h : wp_X6_leftBefore a1 a2 M P) (k1 : ∀ (r : Int32) (M2 : Mm), P r M2 → J G E nL (pc + 3) lv (.int r :: st) M2) : J G E nL pc lv (.int a2 :: .int a1 :: .ref (adr G 6 0) :: st) M := fun H locs ls hP hS hl => by
  have hK := X.2.2.2.2.2.1.1
  have hm := met_X6_leftBefore (l := eL E) X.2.2.2.2.2.2.1 a1 a2 M P h
  have hR2 : 5 + 1 ≤ (eR E).frames ∧ 8 + (3 + 11) + 120 ≤ (eR E).locals := by rw [X.2.2.2.2.2.2.2.1]; exact hR
  have hC2 : eCells E + 0 ≤ (eR E).cells ∧ eSlots E + 0 ≤ (eR E).slots := by rw [X.2.2.2.2.2.2.2.1]; exact ⟨X.2.2.2.2.2.2.2.2.1, X.2.2.2.2.2.2.2.2.2⟩
  obtain ⟨q0, -, hq⟩ := wld_get (G := G) M (mw6 0 (by decide))
  exact va_calli (va_runV (C := RX6) (As := [.int a1, .int a2]) (rest := st) ⟨X.1, X.2.1, X.2.2.1, X.2.2.2.1, X.2.2.2.2.1⟩ hm (cwV (ws' := lw_aw) 2 X.2.2.2.2.1 (gwV (tw (i := 700) (by decide +kernel)) (tw (i := 701) (by decide +kernel)) (tw (i := 702) (by decide +kernel)) (tw (i := 71) (by decide +kernel)) (tw (i := 703) (by decide +kernel))) rfl rfl rfl (by decide +kernel) hR2) ⟨hr_blind, va_recv hK hP (ci := 6) (q := (RX6, TX6, 8)) (fs := objF6 G 0 (M.1 6 0)) (q0 := q0) rfl hq, fun U hU hW => ⟨rfl, by rw [hU]; exact hP, KK.warm hW X.2.2.2.2.2.1⟩⟩ rfl rfl hl.1 rfl (lv_room hst) d hC2) hS (fun q _ h => h) (fun q h => h) (fun r u t H1 locs1 ht hvm hw hB hz1 hk1 hS1 => k1 r u hw H1 locs1 ls (by rw [← ht]; exact hB.1) hS1 hl)
theorem jc_RL_113 {G : GT} {E : ET} {cc : ByteArray} {nL pc : Nat} {rm : Room} {lv : List (Nat × Value)} {st : List Value} {M : Mm} (X : CX G E RL cc nL rm) (hR : 6 + 1 ≤ rm.frames ∧ 8 + (3 + 11) + 140 ≤ rm.locals) (hst : (st.map fun v => v.category).sum ≤ 8) (d : decode cc pc = .ok (.invokevirtual 113, 3)) {a1 : Int32} {a2 : Int32} {P : Int32 → Mm → Prop} (h : wp_X7_leftBefore a1 a2 M P) (k1 : ∀ (r : Int32) (M2 : Mm), P r M2 → J G E nL (pc + 3) lv (.int r :: st) M2) : J G E nL pc lv (.int a2 :: .int a1 :: .ref (adr G 7 0) :: st) M := fun H locs ls hP hS hl => by
  have hK := X.2.2.2.2.2.1.1
  have hm := met_X7_leftBefore (l := eL E) X.2.2.2.2.2.2.1 a1 a2 M P h
  have hR2 : 6 + 1 ≤ (eR E).frames ∧ 8 + (3 + 11) + 140 ≤ (eR E).locals := by rw [X.2.2.2.2.2.2.2.1]; exact hR
  have hC2 : eCells E + 0 ≤ (eR E).cells ∧ eSlots E + 0 ≤ (eR E).slots := by rw [X.2.2.2.2.2.2.2.1]; exact ⟨X.2.2.2.2.2.2.2.2.1, X.2.2.2.2.2.2.2.2.2⟩
  obtain ⟨q0, -, hq⟩ := wld_get (G := G) M (mw7 0 (by decide))
  exact va_calli (va_runV (C := RX7) (As := [.int a1, .int a2]) (rest := st) ⟨X.1, X.2.1, X.2.2.1, X.2.2.2.1, X.2.2.2.2.1⟩ hm (cwV (ws' := lw_aw) 2 X.2.2.2.2.1 (gwV (tw (i := 1208) (by decide +kernel)) (tw (i := 1209) (by decide +kernel)) (tw (i := 1210) (by decide +kernel)) (tw (i := 78) (by decide +kernel)) (tw (i := 1211) (by decide +kernel))) rfl rfl rfl (by decide +kernel) hR2) ⟨hr_blind, va_recv hK hP (ci := 7) (q := (RX7, TX7, 15)) (fs := objF7 G 0 (M.1 7 0)) (q0 := q0) rfl hq, fun U hU hW => ⟨rfl, by rw [hU]; exact hP, KK.warm hW X.2.2.2.2.2.1⟩⟩ rfl rfl hl.1 rfl (lv_room hst) d hC2) hS (fun q _ h => h) (fun q h => h) (fun r u t H1 locs1 ht hvm hw hB hz1 hk1 hS1 => k1 r u hw H1 locs1 ls (by rw [← ht]; exact hB.1) hS1 hl)
theorem jc_RL_114 {G : GT} {E : ET} {cc : ByteArray} {nL pc : Nat} {rm : Room} {lv : List (Nat × Value)} {st : List Value} {M : Mm} (X : CX G E RL cc nL rm) (hR : 4 + 1 ≤ rm.frames ∧ 8 + (3 + 11) + 97 ≤ rm.locals) (hst : (st.map fun v => v.category).sum ≤ 8) (d : decode cc pc = .ok (.invokevirtual 114, 3)) {a1 : Int32} {a2 : Int32} {P : Int32 → Mm → Prop} (h : wp_X6_borne a1 a2 M P) (k1 : ∀ (r : Int32) (M2 : Mm), P r M2 → J G E nL (pc + 3) lv (.int r :: st) M2) : J G E nL pc lv (.int a2 :: .int a1 :: .ref (adr G 6 0) :: st) M := fun H locs ls hP hS hl => by
  have hK := X.2.2.2.2.2.1.1
  have hm := met_X6_borne (l := eL E) X.2.2.2.2.2.2.1 a1 a2 M P h
  have hR2 : 4 + 1 ≤ (eR E).frames ∧ 8 + (3 + 11) + 97 ≤ (eR E).locals := by rw [X.2.2.2.2.2.2.2.1]; exact hR
  have hC2 : eCells E + 0 ≤ (eR E).cells ∧ eSlots E + 0 ≤ (eR E).slots := by rw [X.2.2.2.2.2.2.2.1]; exact ⟨X.2.2.2.2.2.2.2.2.1, X.2.2.2.2.2.2.2.2.2⟩
  obtain ⟨q0, -, hq⟩ := wld_get (G := G) M (mw6 0 (by decide))
  exact va_calli (va_runV (C := RX6) (As := [.int a1, .int a2]) (rest := st) ⟨X.1, X.2.1, X.2.2.1, X.2.2.2.1, X.2.2.2.2.1⟩ hm (cwV (ws' := lw_aw) 2 X.2.2.2.2.1 (gwV (tw (i := 704) (by decide +kernel)) (tw (i := 705) (by decide +kernel)) (tw (i := 706) (by decide +kernel)) (tw (i := 71) (by decide +kernel)) (tw (i := 707) (by decide +kernel))) rfl rfl rfl (by decide +kernel) hR2) ⟨hr_blind, va_recv hK hP (ci := 6) (q := (RX6, TX6, 8)) (fs := objF6 G 0 (M.1 6 0)) (q0 := q0) rfl hq, fun U hU hW => ⟨rfl, by rw [hU]; exact hP, KK.warm hW X.2.2.2.2.2.1⟩⟩ rfl rfl hl.1 rfl (lv_room hst) d hC2) hS (fun q _ h => h) (fun q h => h) (fun r u t H1 locs1 ht hvm hw hB hz1 hk1 hS1 => k1 r u hw H1 locs1 ls (by rw [← ht]; exact hB.1) hS1 hl)
theorem jc_RL_117 {G : GT} {E : ET} {cc : ByteArray} {nL pc : Nat} {rm : Room} {lv : List (Nat × Value)} {st : List Value} {M : Mm} (X : CX G E RL cc nL rm) (hR : 12 + 1 ≤ rm.frames ∧ 8 + (3 + 11) + 274 ≤ rm.locals) (hst : (st.map fun v => v.category).sum ≤ 8) (d : decode cc pc = .ok (.invokevirtual 117, 3)) {a1 : Int32} {a2 : Int32} {P : Int32 → Mm → Prop} (h : wp_X7_borne a1 a2 M P) (k1 : ∀ (r : Int32) (M2 : Mm), P r M2 → J G E nL (pc + 3) lv (.int r :: st) M2) : J G E nL pc lv (.int a2 :: .int a1 :: .ref (adr G 7 0) :: st) M := fun H locs ls hP hS hl => by
  have hK := X.2.2.2.2.2.1.1
  have hm := met_X7_borne (l := eL E) X.2.2.2.2.2.2.1 a1 a2 M P h
  have hR2 : 12 + 1 ≤ (eR E).frames ∧ 8 + (3 + 11) + 274 ≤ (eR E).locals := by rw [X.2.2.2.2.2.2.2.1]; exact hR
  have hC2 : eCells E + 0 ≤ (eR E).cells ∧ eSlots E + 0 ≤ (eR E).slots := by rw [X.2.2.2.2.2.2.2.1]; exact ⟨X.2.2.2.2.2.2.2.2.1, X.2.2.2.2.2.2.2.2.2⟩
  obtain ⟨q0, -, hq⟩ := wld_get (G := G) M (mw7 0 (by decide))
  exact va_calli (va_runV (C := RX7) (As := [.int a1, .int a2]) (rest := st) ⟨X.1, X.2.1, X.2.2.1, X.2.2.2.1, X.2.2.2.2.1⟩ hm (cwV (ws' := lw_aw) 2 X.2.2.2.2.1 (gwV (tw (i := 1212) (by decide +kernel)) (tw (i := 1213) (by decide +kernel)) (tw (i := 1214) (by decide +kernel)) (tw (i := 78) (by decide +kernel)) (tw (i := 1215) (by decide +kernel))) rfl rfl rfl (by decide +kernel) hR2) ⟨hr_blind, va_recv hK hP (ci := 7) (q := (RX7, TX7, 15)) (fs := objF7 G 0 (M.1 7 0)) (q0 := q0) rfl hq, fun U hU hW => ⟨rfl, by rw [hU]; exact hP, KK.warm hW X.2.2.2.2.2.1⟩⟩ rfl rfl hl.1 rfl (lv_room hst) d hC2) hS (fun q _ h => h) (fun q h => h) (fun r u t H1 locs1 ht hvm hw hB hz1 hk1 hS1 => k1 r u hw H1 locs1 ls (by rw [← ht]; exact hB.1) hS1 hl)
theorem jc_RL_118 {G : GT} {E : ET} {cc : ByteArray} {nL pc : Nat} {rm : Room} {lv : List (Nat × Value)} {st : List Value} {M : Mm} (X : CX G E RL cc nL rm) (hR : 4 + 1 ≤ rm.frames ∧ 8 + (5 + 11) + 97 ≤ rm.locals) (hst : (st.map fun v => v.category).sum ≤ 8) (d : decode cc pc = .ok (.invokevirtual 118, 3)) {a1 : Int32} {a2 : Int32} {P : Int32 → Mm → Prop} (h : wp_X6_returned a1 a2 M P) (k1 : ∀ (r : Int32) (M2 : Mm), P r M2 → J G E nL (pc + 3) lv (.int r :: st) M2) : J G E nL pc lv (.int a2 :: .int a1 :: .ref (adr G 6 0) :: st) M := fun H locs ls hP hS hl => by
  have hK := X.2.2.2.2.2.1.1
  have hm := met_X6_returned (l := eL E) X.2.2.2.2.2.2.1 a1 a2 M P h
  have hR2 : 4 + 1 ≤ (eR E).frames ∧ 8 + (5 + 11) + 97 ≤ (eR E).locals := by rw [X.2.2.2.2.2.2.2.1]; exact hR
  have hC2 : eCells E + 0 ≤ (eR E).cells ∧ eSlots E + 0 ≤ (eR E).slots := by rw [X.2.2.2.2.2.2.2.1]; exact ⟨X.2.2.2.2.2.2.2.2.1, X.2.2.2.2.2.2.2.2.2⟩
  obtain ⟨q0, -, hq⟩ := wld_get (G := G) M (mw6 0 (by decide))
  exact va_calli (va_runV (C := RX6) (As := [.int a1, .int a2]) (rest := st) ⟨X.1, X.2.1, X.2.2.1, X.2.2.2.1, X.2.2.2.2.1⟩ hm (cwV (ws' := lw_aw) 2 X.2.2.2.2.1 (gwV (tw (i := 708) (by decide +kernel)) (tw (i := 709) (by decide +kernel)) (tw (i := 710) (by decide +kernel)) (tw (i := 71) (by decide +kernel)) (tw (i := 711) (by decide +kernel))) rfl rfl rfl (by decide +kernel) hR2) ⟨hr_blind, va_recv hK hP (ci := 6) (q := (RX6, TX6, 8)) (fs := objF6 G 0 (M.1 6 0)) (q0 := q0) rfl hq, fun U hU hW => ⟨rfl, by rw [hU]; exact hP, KK.warm hW X.2.2.2.2.2.1⟩⟩ rfl rfl hl.1 rfl (lv_room hst) d hC2) hS (fun q _ h => h) (fun q h => h) (fun r u t H1 locs1 ht hvm hw hB hz1 hk1 hS1 => k1 r u hw H1 locs1 ls (by rw [← ht]; exact hB.1) hS1 hl)
theorem jc_RL_121 {G : GT} {E : ET} {cc : ByteArray} {nL pc : Nat} {rm : Room} {lv : List (Nat × Value)} {st : List Value} {M : Mm} (X : CX G E RL cc nL rm) (hR : 13 + 1 ≤ rm.frames ∧ 8 + (6 + 11) + 297 ≤ rm.locals) (hst : (st.map fun v => v.category).sum ≤ 8) (d : decode cc pc = .ok (.invokevirtual 121, 3)) {a1 : Int32} {a2 : Int32} {P : Int32 → Mm → Prop} (h : wp_X7_returned a1 a2 M P) (k1 : ∀ (r : Int32) (M2 : Mm), P r M2 → J G E nL (pc + 3) lv (.int r :: st) M2) : J G E nL pc lv (.int a2 :: .int a1 :: .ref (adr G 7 0) :: st) M := fun H locs ls hP hS hl => by
  have hK := X.2.2.2.2.2.1.1
  have hm := met_X7_returned (l := eL E) X.2.2.2.2.2.2.1 a1 a2 M P h
  have hR2 : 13 + 1 ≤ (eR E).frames ∧ 8 + (6 + 11) + 297 ≤ (eR E).locals := by rw [X.2.2.2.2.2.2.2.1]; exact hR
  have hC2 : eCells E + 0 ≤ (eR E).cells ∧ eSlots E + 0 ≤ (eR E).slots := by rw [X.2.2.2.2.2.2.2.1]; exact ⟨X.2.2.2.2.2.2.2.2.1, X.2.2.2.2.2.2.2.2.2⟩
  obtain ⟨q0, -, hq⟩ := wld_get (G := G) M (mw7 0 (by decide))
  exact va_calli (va_runV (C := RX7) (As := [.int a1, .int a2]) (rest := st) ⟨X.1, X.2.1, X.2.2.1, X.2.2.2.1, X.2.2.2.2.1⟩ hm (cwV (ws' := lw_aw) 2 X.2.2.2.2.1 (gwV (tw (i := 1216) (by decide +kernel)) (tw (i := 1217) (by decide +kernel)) (tw (i := 1218) (by decide +kernel)) (tw (i := 78) (by decide +kernel)) (tw (i := 1219) (by decide +kernel))) rfl rfl rfl (by decide +kernel) hR2) ⟨hr_blind, va_recv hK hP (ci := 7) (q := (RX7, TX7, 15)) (fs := objF7 G 0 (M.1 7 0)) (q0 := q0) rfl hq, fun U hU hW => ⟨rfl, by rw [hU]; exact hP, KK.warm hW X.2.2.2.2.2.1⟩⟩ rfl rfl hl.1 rfl (lv_room hst) d hC2) hS (fun q _ h => h) (fun q h => h) (fun r u t H1 locs1 ht hvm hw hB hz1 hk1 hS1 => k1 r u hw H1 locs1 ls (by rw [← ht]; exact hB.1) hS1 hl)
theorem jc_RL_122 {G : GT} {E : ET} {cc : ByteArray} {nL pc : Nat} {rm : Room} {lv : List (Nat × Value)} {st : List Value} {M : Mm} (X : CX G E RL cc nL rm) (hR : 4 + 1 ≤ rm.frames ∧ 8 + (4 + 11) + 97 ≤ rm.locals) (hst : (st.map fun v => v.category).sum ≤ 8) (d : decode cc pc = .ok (.invokevirtual 122, 3)) {a1 : Int32} {P : Int32 → Mm → Prop} (h : wp_X6_place a1 M P) (k1 : ∀ (r : Int32) (M2 : Mm), P r M2 → J G E nL (pc + 3) lv (.int r :: st) M2) : J G E nL pc lv (.int a1 :: .ref (adr G 6 0) :: st) M := fun H locs ls hP hS hl => by
  have hK := X.2.2.2.2.2.1.1
  have hm := met_X6_place (l := eL E) X.2.2.2.2.2.2.1 a1 M P h
  have hR2 : 4 + 1 ≤ (eR E).frames ∧ 8 + (4 + 11) + 97 ≤ (eR E).locals := by rw [X.2.2.2.2.2.2.2.1]; exact hR
  have hC2 : eCells E + 0 ≤ (eR E).cells ∧ eSlots E + 0 ≤ (eR E).slots := by rw [X.2.2.2.2.2.2.2.1]; exact ⟨X.2.2.2.2.2.2.2.2.1, X.2.2.2.2.2.2.2.2.2⟩
  obtain ⟨q0, -, hq⟩ := wld_get (G := G) M (mw6 0 (by decide))
  exact va_calli (va_runV (C := RX6) (As := [.int a1]) (rest := st) ⟨X.1, X.2.1, X.2.2.1, X.2.2.2.1, X.2.2.2.2.1⟩ hm (cwV (ws' := lw_aw) 1 X.2.2.2.2.1 (gwV (tw (i := 716) (by decide +kernel)) (tw (i := 717) (by decide +kernel)) (tw (i := 718) (by decide +kernel)) (tw (i := 71) (by decide +kernel)) (tw (i := 719) (by decide +kernel))) rfl rfl rfl (by decide +kernel) hR2) ⟨hr_blind, va_recv hK hP (ci := 6) (q := (RX6, TX6, 8)) (fs := objF6 G 0 (M.1 6 0)) (q0 := q0) rfl hq, fun U hU hW => ⟨rfl, by rw [hU]; exact hP, KK.warm hW X.2.2.2.2.2.1⟩⟩ rfl rfl hl.1 rfl (lv_room hst) d hC2) hS (fun q _ h => h) (fun q h => h) (fun r u t H1 locs1 ht hvm hw hB hz1 hk1 hS1 => k1 r u hw H1 locs1 ls (by rw [← ht]; exact hB.1) hS1 hl)
theorem jc_RL_125 {G : GT} {E : ET} {cc : ByteArray} {nL pc : Nat} {rm : Room} {lv : List (Nat × Value)} {st : List Value} {M : Mm} (X : CX G E RL cc nL rm) (hR : 12 + 1 ≤ rm.frames ∧ 8 + (4 + 11) + 274 ≤ rm.locals) (hst : (st.map fun v => v.category).sum ≤ 8) (d : decode cc pc = .ok (.invokevirtual 125, 3)) {a1 : Int32} {P : Int32 → Mm → Prop} (h : wp_X7_place a1 M P) (k1 : ∀ (r : Int32) (M2 : Mm), P r M2 → J G E nL (pc + 3) lv (.int r :: st) M2) : J G E nL pc lv (.int a1 :: .ref (adr G 7 0) :: st) M := fun H locs ls hP hS hl => by
  have hK := X.2.2.2.2.2.1.1
  have hm := met_X7_place (l := eL E) X.2.2.2.2.2.2.1 a1 M P h
  have hR2 : 12 + 1 ≤ (eR E).frames ∧ 8 + (4 + 11) + 274 ≤ (eR E).locals := by rw [X.2.2.2.2.2.2.2.1]; exact hR
  have hC2 : eCells E + 0 ≤ (eR E).cells ∧ eSlots E + 0 ≤ (eR E).slots := by rw [X.2.2.2.2.2.2.2.1]; exact ⟨X.2.2.2.2.2.2.2.2.1, X.2.2.2.2.2.2.2.2.2⟩
  obtain ⟨q0, -, hq⟩ := wld_get (G := G) M (mw7 0 (by decide))
  exact va_calli (va_runV (C := RX7) (As := [.int a1]) (rest := st) ⟨X.1, X.2.1, X.2.2.1, X.2.2.2.1, X.2.2.2.2.1⟩ hm (cwV (ws' := lw_aw) 1 X.2.2.2.2.1 (gwV (tw (i := 1220) (by decide +kernel)) (tw (i := 1221) (by decide +kernel)) (tw (i := 1222) (by decide +kernel)) (tw (i := 78) (by decide +kernel)) (tw (i := 1223) (by decide +kernel))) rfl rfl rfl (by decide +kernel) hR2) ⟨hr_blind, va_recv hK hP (ci := 7) (q := (RX7, TX7, 15)) (fs := objF7 G 0 (M.1 7 0)) (q0 := q0) rfl hq, fun U hU hW => ⟨rfl, by rw [hU]; exact hP, KK.warm hW X.2.2.2.2.2.1⟩⟩ rfl rfl hl.1 rfl (lv_room hst) d hC2) hS (fun q _ h => h) (fun q h => h) (fun r u t H1 locs1 ht hvm hw hB hz1 hk1 hS1 => k1 r u hw H1 locs1 ls (by rw [← ht]; exact hB.1) hS1 hl)
theorem jc_RL_126 {G : GT} {E : ET} {cc : ByteArray} {nL pc : Nat} {rm : Room} {lv : List (Nat × Value)} {st : List Value} {M : Mm} (X : CX G E RL cc nL rm) (hR : 4 + 1 ≤ rm.frames ∧ 8 + (4 + 11) + 97 ≤ rm.locals) (hst : (st.map fun v => v.category).sum ≤ 8) (d : decode cc pc = .ok (.invokevirtual 126, 3))  {P : Int32 → Mm → Prop} (h : wp_X6_worst  M P) (k1 : ∀ (r : Int32) (M2 : Mm), P r M2 → J G E nL (pc + 3) lv (.int r :: st) M2) : J G E nL pc lv (.ref (adr G 6 0) :: st) M := fun H locs ls hP hS hl => by
  have hK := X.2.2.2.2.2.1.1
  have hm := met_X6_worst (l := eL E) X.2.2.2.2.2.2.1  M P h
  have hR2 : 4 + 1 ≤ (eR E).frames ∧ 8 + (4 + 11) + 97 ≤ (eR E).locals := by rw [X.2.2.2.2.2.2.2.1]; exact hR
  have hC2 : eCells E + 0 ≤ (eR E).cells ∧ eSlots E + 0 ≤ (eR E).slots := by rw [X.2.2.2.2.2.2.2.1]; exact ⟨X.2.2.2.2.2.2.2.2.1, X.2.2.2.2.2.2.2.2.2⟩
  obtain ⟨q0, -, hq⟩ := wld_get (G := G) M (mw6 0 (by decide))
  exact va_calli (va_runV (C := RX6) (As := []) (rest := st) ⟨X.1, X.2.1, X.2.2.1, X.2.2.2.1, X.2.2.2.2.1⟩ hm (cwV (ws' := lw_aw) 0 X.2.2.2.2.1 (gwV (tw (i := 720) (by decide +kernel)) (tw (i := 721) (by decide +kernel)) (tw (i := 722) (by decide +kernel)) (tw (i := 71) (by decide +kernel)) (tw (i := 723) (by decide +kernel))) rfl rfl rfl (by decide +kernel) hR2) ⟨hr_blind, va_recv hK hP (ci := 6) (q := (RX6, TX6, 8)) (fs := objF6 G 0 (M.1 6 0)) (q0 := q0) rfl hq, fun U hU hW => ⟨rfl, by rw [hU]; exact hP, KK.warm hW X.2.2.2.2.2.1⟩⟩ rfl rfl hl.1 rfl (lv_room hst) d hC2) hS (fun q _ h => h) (fun q h => h) (fun r u t H1 locs1 ht hvm hw hB hz1 hk1 hS1 => k1 r u hw H1 locs1 ls (by rw [← ht]; exact hB.1) hS1 hl)
theorem jc_RL_129 {G : GT} {E : ET} {cc : ByteArray} {nL pc : Nat} {rm : Room} {lv : List (Nat × Value)} {st : List Value} {M : Mm} (X : CX G E RL cc nL rm) (hR : 9 + 1 ≤ rm.frames ∧ 8 + (3 + 11) + 206 ≤ rm.locals) (hst : (st.map fun v => v.category).sum ≤ 8) (d : decode cc pc = .ok (.invokevirtual 129, 3))  {P : Int32 → Mm → Prop} (h : wp_X7_worst  M P) (k1 : ∀ (r : Int32) (M2 : Mm), P r M2 → J G E nL (pc + 3) lv (.int r :: st) M2) : J G E nL pc lv (.ref (adr G 7 0) :: st) M := fun H locs ls hP hS hl => by
  have hK := X.2.2.2.2.2.1.1
  have hm := met_X7_worst (l := eL E) X.2.2.2.2.2.2.1  M P h
  have hR2 : 9 + 1 ≤ (eR E).frames ∧ 8 + (3 + 11) + 206 ≤ (eR E).locals := by rw [X.2.2.2.2.2.2.2.1]; exact hR
  have hC2 : eCells E + 0 ≤ (eR E).cells ∧ eSlots E + 0 ≤ (eR E).slots := by rw [X.2.2.2.2.2.2.2.1]; exact ⟨X.2.2.2.2.2.2.2.2.1, X.2.2.2.2.2.2.2.2.2⟩
  obtain ⟨q0, -, hq⟩ := wld_get (G := G) M (mw7 0 (by decide))
  exact va_calli (va_runV (C := RX7) (As := []) (rest := st) ⟨X.1, X.2.1, X.2.2.1, X.2.2.2.1, X.2.2.2.2.1⟩ hm (cwV (ws' := lw_aw) 0 X.2.2.2.2.1 (gwV (tw (i := 1224) (by decide +kernel)) (tw (i := 1225) (by decide +kernel)) (tw (i := 1226) (by decide +kernel)) (tw (i := 78) (by decide +kernel)) (tw (i := 1227) (by decide +kernel))) rfl rfl rfl (by decide +kernel) hR2) ⟨hr_blind, va_recv hK hP (ci := 7) (q := (RX7, TX7, 15)) (fs := objF7 G 0 (M.1 7 0)) (q0 := q0) rfl hq, fun U hU hW => ⟨rfl, by rw [hU]; exact hP, KK.warm hW X.2.2.2.2.2.1⟩⟩ rfl rfl hl.1 rfl (lv_room hst) d hC2) hS (fun q _ h => h) (fun q h => h) (fun r u t H1 locs1 ht hvm hw hB hz1 hk1 hS1 => k1 r u hw H1 locs1 ls (by rw [← ht]; exact hB.1) hS1 hl)
theorem jc_RL_130 {G : GT} {E : ET} {cc : ByteArray} {nL pc : Nat} {rm : Room} {lv : List (Nat × Value)} {st : List Value} {M : Mm} (X : CX G E RL cc nL rm) (hR : 5 + 1 ≤ rm.frames ∧ 8 + (2 + 11) + 108 ≤ rm.locals) (hst : (st.map fun v => v.category).sum ≤ 8) (d : decode cc pc = .ok (.invokevirtual 130, 3)) {a1 : Int32} {P : Int32 → Mm → Prop} (h : wp_X6_account a1 M P) (k1 : ∀ (r : Int32) (M2 : Mm), P r M2 → J G E nL (pc + 3) lv (.int r :: st) M2) : J G E nL pc lv (.int a1 :: .ref (adr G 6 0) :: st) M := fun H locs ls hP hS hl => by
  have hK := X.2.2.2.2.2.1.1
  have hm := met_X6_account (l := eL E) X.2.2.2.2.2.2.1 a1 M P h
  have hR2 : 5 + 1 ≤ (eR E).frames ∧ 8 + (2 + 11) + 108 ≤ (eR E).locals := by rw [X.2.2.2.2.2.2.2.1]; exact hR
  have hC2 : eCells E + 0 ≤ (eR E).cells ∧ eSlots E + 0 ≤ (eR E).slots := by rw [X.2.2.2.2.2.2.2.1]; exact ⟨X.2.2.2.2.2.2.2.2.1, X.2.2.2.2.2.2.2.2.2⟩
  obtain ⟨q0, -, hq⟩ := wld_get (G := G) M (mw6 0 (by decide))
  exact va_calli (va_runV (C := RX6) (As := [.int a1]) (rest := st) ⟨X.1, X.2.1, X.2.2.1, X.2.2.2.1, X.2.2.2.2.1⟩ hm (cwV (ws' := lw_aw) 1 X.2.2.2.2.1 (gwV (tw (i := 724) (by decide +kernel)) (tw (i := 725) (by decide +kernel)) (tw (i := 726) (by decide +kernel)) (tw (i := 71) (by decide +kernel)) (tw (i := 727) (by decide +kernel))) rfl rfl rfl (by decide +kernel) hR2) ⟨hr_blind, va_recv hK hP (ci := 6) (q := (RX6, TX6, 8)) (fs := objF6 G 0 (M.1 6 0)) (q0 := q0) rfl hq, fun U hU hW => ⟨rfl, by rw [hU]; exact hP, KK.warm hW X.2.2.2.2.2.1⟩⟩ rfl rfl hl.1 rfl (lv_room hst) d hC2) hS (fun q _ h => h) (fun q h => h) (fun r u t H1 locs1 ht hvm hw hB hz1 hk1 hS1 => k1 r u hw H1 locs1 ls (by rw [← ht]; exact hB.1) hS1 hl)
theorem jc_RL_133 {G : GT} {E : ET} {cc : ByteArray} {nL pc : Nat} {rm : Room} {lv : List (Nat × Value)} {st : List Value} {M : Mm} (X : CX G E RL cc nL rm) (hR : 15 + 1 ≤ rm.frames ∧ 8 + (2 + 11) + 337 ≤ rm.locals) (hst : (st.map fun v => v.category).sum ≤ 8) (d : decode cc pc = .ok (.invokevirtual 133, 3)) {a1 : Int32} {P : Int32 → Mm → Prop} (h : wp_X7_account a1 M P) (k1 : ∀ (r : Int32) (M2 : Mm), P r M2 → J G E nL (pc + 3) lv (.int r :: st) M2) : J G E nL pc lv (.int a1 :: .ref (adr G 7 0) :: st) M := fun H locs ls hP hS hl => by
  have hK := X.2.2.2.2.2.1.1
  have hm := met_X7_account (l := eL E) X.2.2.2.2.2.2.1 a1 M P h
  have hR2 : 15 + 1 ≤ (eR E).frames ∧ 8 + (2 + 11) + 337 ≤ (eR E).locals := by rw [X.2.2.2.2.2.2.2.1]; exact hR
  have hC2 : eCells E + 0 ≤ (eR E).cells ∧ eSlots E + 0 ≤ (eR E).slots := by rw [X.2.2.2.2.2.2.2.1]; exact ⟨X.2.2.2.2.2.2.2.2.1, X.2.2.2.2.2.2.2.2.2⟩
  obtain ⟨q0, -, hq⟩ := wld_get (G := G) M (mw7 0 (by decide))
  exact va_calli (va_runV (C := RX7) (As := [.int a1]) (rest := st) ⟨X.1, X.2.1, X.2.2.1, X.2.2.2.1, X.2.2.2.2.1⟩ hm (cwV (ws' := lw_aw) 1 X.2.2.2.2.1 (gwV (tw (i := 1228) (by decide +kernel)) (tw (i := 1229) (by decide +kernel)) (tw (i := 1230) (by decide +kernel)) (tw (i := 78) (by decide +kernel)) (tw (i := 1231) (by decide +kernel))) rfl rfl rfl (by decide +kernel) hR2) ⟨hr_blind, va_recv hK hP (ci := 7) (q := (RX7, TX7, 15)) (fs := objF7 G 0 (M.1 7 0)) (q0 := q0) rfl hq, fun U hU hW => ⟨rfl, by rw [hU]; exact hP, KK.warm hW X.2.2.2.2.2.1⟩⟩ rfl rfl hl.1 rfl (lv_room hst) d hC2) hS (fun q _ h => h) (fun q h => h) (fun r u t H1 locs1 ht hvm hw hB hz1 hk1 hS1 => k1 r u hw H1 locs1 ls (by rw [← ht]; exact hB.1) hS1 hl)
theorem jc_RL_134 {G : GT} {E : ET} {cc : ByteArray} {nL pc : Nat} {rm : Room} {lv : List (Nat × Value)} {st : List Value} {M : Mm} (X : CX G E RL cc nL rm) (hR : 5 + 1 ≤ rm.frames ∧ 8 + (1 + 11) + 108 ≤ rm.locals) (hst : (st.map fun v => v.category).sum ≤ 8) (d : decode cc pc = .ok (.invokevirtual 134, 3))  {P : Int32 → Mm → Prop} (h : wp_X6_result  M P) (k1 : ∀ (r : Int32) (M2 : Mm), P r M2 → J G E nL (pc + 3) lv (.int r :: st) M2) : J G E nL pc lv (.ref (adr G 6 0) :: st) M := fun H locs ls hP hS hl => by
  have hK := X.2.2.2.2.2.1.1
  have hm := met_X6_result (l := eL E) X.2.2.2.2.2.2.1  M P h
  have hR2 : 5 + 1 ≤ (eR E).frames ∧ 8 + (1 + 11) + 108 ≤ (eR E).locals := by rw [X.2.2.2.2.2.2.2.1]; exact hR
  have hC2 : eCells E + 0 ≤ (eR E).cells ∧ eSlots E + 0 ≤ (eR E).slots := by rw [X.2.2.2.2.2.2.2.1]; exact ⟨X.2.2.2.2.2.2.2.2.1, X.2.2.2.2.2.2.2.2.2⟩
  obtain ⟨q0, -, hq⟩ := wld_get (G := G) M (mw6 0 (by decide))
  exact va_calli (va_runV (C := RX6) (As := []) (rest := st) ⟨X.1, X.2.1, X.2.2.1, X.2.2.2.1, X.2.2.2.2.1⟩ hm (cwV (ws' := lw_aw) 0 X.2.2.2.2.1 (gwV (tw (i := 762) (by decide +kernel)) (tw (i := 763) (by decide +kernel)) (tw (i := 764) (by decide +kernel)) (tw (i := 71) (by decide +kernel)) (tw (i := 765) (by decide +kernel))) rfl rfl rfl (by decide +kernel) hR2) ⟨hr_blind, va_recv hK hP (ci := 6) (q := (RX6, TX6, 8)) (fs := objF6 G 0 (M.1 6 0)) (q0 := q0) rfl hq, fun U hU hW => ⟨rfl, by rw [hU]; exact hP, KK.warm hW X.2.2.2.2.2.1⟩⟩ rfl rfl hl.1 rfl (lv_room hst) d hC2) hS (fun q _ h => h) (fun q h => h) (fun r u t H1 locs1 ht hvm hw hB hz1 hk1 hS1 => k1 r u hw H1 locs1 ls (by rw [← ht]; exact hB.1) hS1 hl)
theorem jc_RL_137 {G : GT} {E : ET} {cc : ByteArray} {nL pc : Nat} {rm : Room} {lv : List (Nat × Value)} {st : List Value} {M : Mm} (X : CX G E RL cc nL rm) (hR : 15 + 1 ≤ rm.frames ∧ 8 + (1 + 11) + 337 ≤ rm.locals) (hst : (st.map fun v => v.category).sum ≤ 8) (d : decode cc pc = .ok (.invokevirtual 137, 3))  {P : Int32 → Mm → Prop} (h : wp_X7_result  M P) (k1 : ∀ (r : Int32) (M2 : Mm), P r M2 → J G E nL (pc + 3) lv (.int r :: st) M2) : J G E nL pc lv (.ref (adr G 7 0) :: st) M := fun H locs ls hP hS hl => by
  have hK := X.2.2.2.2.2.1.1
  have hm := met_X7_result (l := eL E) X.2.2.2.2.2.2.1  M P h
  have hR2 : 15 + 1 ≤ (eR E).frames ∧ 8 + (1 + 11) + 337 ≤ (eR E).locals := by rw [X.2.2.2.2.2.2.2.1]; exact hR
  have hC2 : eCells E + 0 ≤ (eR E).cells ∧ eSlots E + 0 ≤ (eR E).slots := by rw [X.2.2.2.2.2.2.2.1]; exact ⟨X.2.2.2.2.2.2.2.2.1, X.2.2.2.2.2.2.2.2.2⟩
  obtain ⟨q0, -, hq⟩ := wld_get (G := G) M (mw7 0 (by decide))
  exact va_calli (va_runV (C := RX7) (As := []) (rest := st) ⟨X.1, X.2.1, X.2.2.1, X.2.2.2.1, X.2.2.2.2.1⟩ hm (cwV (ws' := lw_aw) 0 X.2.2.2.2.1 (gwV (tw (i := 1256) (by decide +kernel)) (tw (i := 1257) (by decide +kernel)) (tw (i := 1258) (by decide +kernel)) (tw (i := 78) (by decide +kernel)) (tw (i := 1259) (by decide +kernel))) rfl rfl rfl (by decide +kernel) hR2) ⟨hr_blind, va_recv hK hP (ci := 7) (q := (RX7, TX7, 15)) (fs := objF7 G 0 (M.1 7 0)) (q0 := q0) rfl hq, fun U hU hW => ⟨rfl, by rw [hU]; exact hP, KK.warm hW X.2.2.2.2.2.1⟩⟩ rfl rfl hl.1 rfl (lv_room hst) d hC2) hS (fun q _ h => h) (fun q h => h) (fun r u t H1 locs1 ht hvm hw hB hz1 hk1 hS1 => k1 r u hw H1 locs1 ls (by rw [← ht]; exact hB.1) hS1 hl)
theorem jc_RL_138 {G : GT} {E : ET} {cc : ByteArray} {nL pc : Nat} {rm : Room} {lv : List (Nat × Value)} {st : List Value} {M : Mm} (X : CX G E RL cc nL rm) (hR : 4 + 1 ≤ rm.frames ∧ 8 + (2 + 11) + 97 ≤ rm.locals) (hst : (st.map fun v => v.category).sum ≤ 8) (d : decode cc pc = .ok (.invokevirtual 138, 3))  {P : Int32 → Mm → Prop} (h : wp_X6_ratioBits  M P) (k1 : ∀ (r : Int32) (M2 : Mm), P r M2 → J G E nL (pc + 3) lv (.int r :: st) M2) : J G E nL pc lv (.ref (adr G 6 0) :: st) M := fun H locs ls hP hS hl => by
  have hK := X.2.2.2.2.2.1.1
  have hm := met_X6_ratioBits (l := eL E) X.2.2.2.2.2.2.1  M P h
  have hR2 : 4 + 1 ≤ (eR E).frames ∧ 8 + (2 + 11) + 97 ≤ (eR E).locals := by rw [X.2.2.2.2.2.2.2.1]; exact hR
  have hC2 : eCells E + 0 ≤ (eR E).cells ∧ eSlots E + 0 ≤ (eR E).slots := by rw [X.2.2.2.2.2.2.2.1]; exact ⟨X.2.2.2.2.2.2.2.2.1, X.2.2.2.2.2.2.2.2.2⟩
  obtain ⟨q0, -, hq⟩ := wld_get (G := G) M (mw6 0 (by decide))
  exact va_calli (va_runV (C := RX6) (As := []) (rest := st) ⟨X.1, X.2.1, X.2.2.1, X.2.2.2.1, X.2.2.2.2.1⟩ hm (cwV (ws' := lw_aw) 0 X.2.2.2.2.1 (gwV (tw (i := 767) (by decide +kernel)) (tw (i := 768) (by decide +kernel)) (tw (i := 769) (by decide +kernel)) (tw (i := 71) (by decide +kernel)) (tw (i := 770) (by decide +kernel))) rfl rfl rfl (by decide +kernel) hR2) ⟨hr_blind, va_recv hK hP (ci := 6) (q := (RX6, TX6, 8)) (fs := objF6 G 0 (M.1 6 0)) (q0 := q0) rfl hq, fun U hU hW => ⟨rfl, by rw [hU]; exact hP, KK.warm hW X.2.2.2.2.2.1⟩⟩ rfl rfl hl.1 rfl (lv_room hst) d hC2) hS (fun q _ h => h) (fun q h => h) (fun r u t H1 locs1 ht hvm hw hB hz1 hk1 hS1 => k1 r u hw H1 locs1 ls (by rw [← ht]; exact hB.1) hS1 hl)
theorem jc_RL_141 {G : GT} {E : ET} {cc : ByteArray} {nL pc : Nat} {rm : Room} {lv : List (Nat × Value)} {st : List Value} {M : Mm} (X : CX G E RL cc nL rm) (hR : 8 + 1 ≤ rm.frames ∧ 8 + (2 + 11) + 183 ≤ rm.locals) (hst : (st.map fun v => v.category).sum ≤ 8) (d : decode cc pc = .ok (.invokevirtual 141, 3))  {P : Int32 → Mm → Prop} (h : wp_X7_ratioBits  M P) (k1 : ∀ (r : Int32) (M2 : Mm), P r M2 → J G E nL (pc + 3) lv (.int r :: st) M2) : J G E nL pc lv (.ref (adr G 7 0) :: st) M := fun H locs ls hP hS hl => by
  have hK := X.2.2.2.2.2.1.1
  have hm := met_X7_ratioBits (l := eL E) X.2.2.2.2.2.2.1  M P h
  have hR2 : 8 + 1 ≤ (eR E).frames ∧ 8 + (2 + 11) + 183 ≤ (eR E).locals := by rw [X.2.2.2.2.2.2.2.1]; exact hR
  have hC2 : eCells E + 0 ≤ (eR E).cells ∧ eSlots E + 0 ≤ (eR E).slots := by rw [X.2.2.2.2.2.2.2.1]; exact ⟨X.2.2.2.2.2.2.2.2.1, X.2.2.2.2.2.2.2.2.2⟩
  obtain ⟨q0, -, hq⟩ := wld_get (G := G) M (mw7 0 (by decide))
  exact va_calli (va_runV (C := RX7) (As := []) (rest := st) ⟨X.1, X.2.1, X.2.2.1, X.2.2.2.1, X.2.2.2.2.1⟩ hm (cwV (ws' := lw_aw) 0 X.2.2.2.2.1 (gwV (tw (i := 1261) (by decide +kernel)) (tw (i := 1262) (by decide +kernel)) (tw (i := 1263) (by decide +kernel)) (tw (i := 78) (by decide +kernel)) (tw (i := 1264) (by decide +kernel))) rfl rfl rfl (by decide +kernel) hR2) ⟨hr_blind, va_recv hK hP (ci := 7) (q := (RX7, TX7, 15)) (fs := objF7 G 0 (M.1 7 0)) (q0 := q0) rfl hq, fun U hU hW => ⟨rfl, by rw [hU]; exact hP, KK.warm hW X.2.2.2.2.2.1⟩⟩ rfl rfl hl.1 rfl (lv_room hst) d hC2) hS (fun q _ h => h) (fun q h => h) (fun r u t H1 locs1 ht hvm hw hB hz1 hk1 hS1 => k1 r u hw H1 locs1 ls (by rw [← ht]; exact hB.1) hS1 hl)
theorem jc_RL_142 {G : GT} {E : ET} {cc : ByteArray} {nL pc : Nat} {rm : Room} {lv : List (Nat × Value)} {st : List Value} {M : Mm} (X : CX G E RL cc nL rm) (hR : 4 + 1 ≤ rm.frames ∧ 8 + (5 + 11) + 97 ≤ rm.locals) (hst : (st.map fun v => v.category).sum ≤ 8) (d : decode cc pc = .ok (.invokevirtual 142, 3))  {P : Int32 → Mm → Prop} (h : wp_X6_isBalanced  M P) (k1 : ∀ (r : Int32) (M2 : Mm), P r M2 → J G E nL (pc + 3) lv (.int r :: st) M2) : J G E nL pc lv (.ref (adr G 6 0) :: st) M := fun H locs ls hP hS hl => by
  have hK := X.2.2.2.2.2.1.1
  have hm := met_X6_isBalanced (l := eL E) X.2.2.2.2.2.2.1  M P h
  have hR2 : 4 + 1 ≤ (eR E).frames ∧ 8 + (5 + 11) + 97 ≤ (eR E).locals := by rw [X.2.2.2.2.2.2.2.1]; exact hR
  have hC2 : eCells E + 0 ≤ (eR E).cells ∧ eSlots E + 0 ≤ (eR E).slots := by rw [X.2.2.2.2.2.2.2.1]; exact ⟨X.2.2.2.2.2.2.2.2.1, X.2.2.2.2.2.2.2.2.2⟩
  obtain ⟨q0, -, hq⟩ := wld_get (G := G) M (mw6 0 (by decide))
  exact va_calli (va_runV (C := RX6) (As := []) (rest := st) ⟨X.1, X.2.1, X.2.2.1, X.2.2.2.1, X.2.2.2.2.1⟩ hm (cwV (ws' := lw_aw) 0 X.2.2.2.2.1 (gwV (tw (i := 775) (by decide +kernel)) (tw (i := 776) (by decide +kernel)) (tw (i := 777) (by decide +kernel)) (tw (i := 71) (by decide +kernel)) (tw (i := 778) (by decide +kernel))) rfl rfl rfl (by decide +kernel) hR2) ⟨hr_blind, va_recv hK hP (ci := 6) (q := (RX6, TX6, 8)) (fs := objF6 G 0 (M.1 6 0)) (q0 := q0) rfl hq, fun U hU hW => ⟨rfl, by rw [hU]; exact hP, KK.warm hW X.2.2.2.2.2.1⟩⟩ rfl rfl hl.1 rfl (lv_room hst) d hC2) hS (fun q _ h => h) (fun q h => h) (fun r u t H1 locs1 ht hvm hw hB hz1 hk1 hS1 => k1 r u hw H1 locs1 ls (by rw [← ht]; exact hB.1) hS1 hl)
theorem jc_RL_145 {G : GT} {E : ET} {cc : ByteArray} {nL pc : Nat} {rm : Room} {lv : List (Nat × Value)} {st : List Value} {M : Mm} (X : CX G E RL cc nL rm) (hR : 14 + 1 ≤ rm.frames ∧ 8 + (3 + 11) + 320 ≤ rm.locals) (hst : (st.map fun v => v.category).sum ≤ 8) (d : decode cc pc = .ok (.invokevirtual 145, 3))  {P : Int32 → Mm → Prop} (h : wp_X7_isBalanced  M P) (k1 : ∀ (r : Int32) (M2 : Mm), P r M2 → J G E nL (pc + 3) lv (.int r :: st) M2) : J G E nL pc lv (.ref (adr G 7 0) :: st) M := fun H locs ls hP hS hl => by
  have hK := X.2.2.2.2.2.1.1
  have hm := met_X7_isBalanced (l := eL E) X.2.2.2.2.2.2.1  M P h
  have hR2 : 14 + 1 ≤ (eR E).frames ∧ 8 + (3 + 11) + 320 ≤ (eR E).locals := by rw [X.2.2.2.2.2.2.2.1]; exact hR
  have hC2 : eCells E + 0 ≤ (eR E).cells ∧ eSlots E + 0 ≤ (eR E).slots := by rw [X.2.2.2.2.2.2.2.1]; exact ⟨X.2.2.2.2.2.2.2.2.1, X.2.2.2.2.2.2.2.2.2⟩
  obtain ⟨q0, -, hq⟩ := wld_get (G := G) M (mw7 0 (by decide))
  exact va_calli (va_runV (C := RX7) (As := []) (rest := st) ⟨X.1, X.2.1, X.2.2.1, X.2.2.2.1, X.2.2.2.2.1⟩ hm (cwV (ws' := lw_aw) 0 X.2.2.2.2.1 (gwV (tw (i := 1275) (by decide +kernel)) (tw (i := 1276) (by decide +kernel)) (tw (i := 1277) (by decide +kernel)) (tw (i := 78) (by decide +kernel)) (tw (i := 1278) (by decide +kernel))) rfl rfl rfl (by decide +kernel) hR2) ⟨hr_blind, va_recv hK hP (ci := 7) (q := (RX7, TX7, 15)) (fs := objF7 G 0 (M.1 7 0)) (q0 := q0) rfl hq, fun U hU hW => ⟨rfl, by rw [hU]; exact hP, KK.warm hW X.2.2.2.2.2.1⟩⟩ rfl rfl hl.1 rfl (lv_room hst) d hC2) hS (fun q _ h => h) (fun q h => h) (fun r u t H1 locs1 ht hvm hw hB hz1 hk1 hS1 => k1 r u hw H1 locs1 ls (by rw [← ht]; exact hB.1) hS1 hl)
theorem jc_RL_146 {G : GT} {E : ET} {cc : ByteArray} {nL pc : Nat} {rm : Room} {lv : List (Nat × Value)} {st : List Value} {M : Mm} (X : CX G E RL cc nL rm) (hR : 4 + 1 ≤ rm.frames ∧ 8 + (4 + 11) + 97 ≤ rm.locals) (hst : (st.map fun v => v.category).sum ≤ 8) (d : decode cc pc = .ok (.invokevirtual 146, 3)) {a1 : Int32} {a2 : Int32} {P : Int32 → Mm → Prop} (h : wp_X6_paidIf a1 a2 M P) (k1 : ∀ (r : Int32) (M2 : Mm), P r M2 → J G E nL (pc + 3) lv (.int r :: st) M2) : J G E nL pc lv (.int a2 :: .int a1 :: .ref (adr G 6 0) :: st) M := fun H locs ls hP hS hl => by
  have hK := X.2.2.2.2.2.1.1
  have hm := met_X6_paidIf (l := eL E) X.2.2.2.2.2.2.1 a1 a2 M P h
  have hR2 : 4 + 1 ≤ (eR E).frames ∧ 8 + (4 + 11) + 97 ≤ (eR E).locals := by rw [X.2.2.2.2.2.2.2.1]; exact hR
  have hC2 : eCells E + 0 ≤ (eR E).cells ∧ eSlots E + 0 ≤ (eR E).slots := by rw [X.2.2.2.2.2.2.2.1]; exact ⟨X.2.2.2.2.2.2.2.2.1, X.2.2.2.2.2.2.2.2.2⟩
  obtain ⟨q0, -, hq⟩ := wld_get (G := G) M (mw6 0 (by decide))
  exact va_calli (va_runV (C := RX6) (As := [.int a1, .int a2]) (rest := st) ⟨X.1, X.2.1, X.2.2.1, X.2.2.2.1, X.2.2.2.2.1⟩ hm (cwV (ws' := lw_aw) 2 X.2.2.2.2.1 (gwV (tw (i := 788) (by decide +kernel)) (tw (i := 789) (by decide +kernel)) (tw (i := 790) (by decide +kernel)) (tw (i := 71) (by decide +kernel)) (tw (i := 791) (by decide +kernel))) rfl rfl rfl (by decide +kernel) hR2) ⟨hr_blind, va_recv hK hP (ci := 6) (q := (RX6, TX6, 8)) (fs := objF6 G 0 (M.1 6 0)) (q0 := q0) rfl hq, fun U hU hW => ⟨rfl, by rw [hU]; exact hP, KK.warm hW X.2.2.2.2.2.1⟩⟩ rfl rfl hl.1 rfl (lv_room hst) d hC2) hS (fun q _ h => h) (fun q h => h) (fun r u t H1 locs1 ht hvm hw hB hz1 hk1 hS1 => k1 r u hw H1 locs1 ls (by rw [← ht]; exact hB.1) hS1 hl)
theorem jc_RL_149 {G : GT} {E : ET} {cc : ByteArray} {nL pc : Nat} {rm : Room} {lv : List (Nat × Value)} {st : List Value} {M : Mm} (X : CX G E RL cc nL rm) (hR : 8 + 1 ≤ rm.frames ∧ 8 + (5 + 11) + 183 ≤ rm.locals) (hst : (st.map fun v => v.category).sum ≤ 8) (d : decode cc pc = .ok (.invokevirtual 149, 3)) {a1 : Int32} {a2 : Int32} {P : Int32 → Mm → Prop} (h : wp_X7_paidIf a1 a2 M P) (k1 : ∀ (r : Int32) (M2 : Mm), P r M2 → J G E nL (pc + 3) lv (.int r :: st) M2) : J G E nL pc lv (.int a2 :: .int a1 :: .ref (adr G 7 0) :: st) M := fun H locs ls hP hS hl => by
  have hK := X.2.2.2.2.2.1.1
  have hm := met_X7_paidIf (l := eL E) X.2.2.2.2.2.2.1 a1 a2 M P h
  have hR2 : 8 + 1 ≤ (eR E).frames ∧ 8 + (5 + 11) + 183 ≤ (eR E).locals := by rw [X.2.2.2.2.2.2.2.1]; exact hR
  have hC2 : eCells E + 0 ≤ (eR E).cells ∧ eSlots E + 0 ≤ (eR E).slots := by rw [X.2.2.2.2.2.2.2.1]; exact ⟨X.2.2.2.2.2.2.2.2.1, X.2.2.2.2.2.2.2.2.2⟩
  obtain ⟨q0, -, hq⟩ := wld_get (G := G) M (mw7 0 (by decide))
  exact va_calli (va_runV (C := RX7) (As := [.int a1, .int a2]) (rest := st) ⟨X.1, X.2.1, X.2.2.1, X.2.2.2.1, X.2.2.2.2.1⟩ hm (cwV (ws' := lw_aw) 2 X.2.2.2.2.1 (gwV (tw (i := 1279) (by decide +kernel)) (tw (i := 1280) (by decide +kernel)) (tw (i := 1281) (by decide +kernel)) (tw (i := 78) (by decide +kernel)) (tw (i := 1282) (by decide +kernel))) rfl rfl rfl (by decide +kernel) hR2) ⟨hr_blind, va_recv hK hP (ci := 7) (q := (RX7, TX7, 15)) (fs := objF7 G 0 (M.1 7 0)) (q0 := q0) rfl hq, fun U hU hW => ⟨rfl, by rw [hU]; exact hP, KK.warm hW X.2.2.2.2.2.1⟩⟩ rfl rfl hl.1 rfl (lv_room hst) d hC2) hS (fun q _ h => h) (fun q h => h) (fun r u t H1 locs1 ht hvm hw hB hz1 hk1 hS1 => k1 r u hw H1 locs1 ls (by rw [← ht]; exact hB.1) hS1 hl)
theorem jc_RL_150 {G : GT} {E : ET} {cc : ByteArray} {nL pc : Nat} {rm : Room} {lv : List (Nat × Value)} {st : List Value} {M : Mm} (X : CX G E RL cc nL rm) (hR : 4 + 1 ≤ rm.frames ∧ 8 + (2 + 11) + 97 ≤ rm.locals) (hst : (st.map fun v => v.category).sum ≤ 8) (d : decode cc pc = .ok (.invokevirtual 150, 3)) {a1 : Int32} {P : Int32 → Mm → Prop} (h : wp_X6_leastLimit a1 M P) (k1 : ∀ (r : Int32) (M2 : Mm), P r M2 → J G E nL (pc + 3) lv (.int r :: st) M2) : J G E nL pc lv (.int a1 :: .ref (adr G 6 0) :: st) M := fun H locs ls hP hS hl => by
  have hK := X.2.2.2.2.2.1.1
  have hm := met_X6_leastLimit (l := eL E) X.2.2.2.2.2.2.1 a1 M P h
  have hR2 : 4 + 1 ≤ (eR E).frames ∧ 8 + (2 + 11) + 97 ≤ (eR E).locals := by rw [X.2.2.2.2.2.2.2.1]; exact hR
  have hC2 : eCells E + 0 ≤ (eR E).cells ∧ eSlots E + 0 ≤ (eR E).slots := by rw [X.2.2.2.2.2.2.2.1]; exact ⟨X.2.2.2.2.2.2.2.2.1, X.2.2.2.2.2.2.2.2.2⟩
  obtain ⟨q0, -, hq⟩ := wld_get (G := G) M (mw6 0 (by decide))
  exact va_calli (va_runV (C := RX6) (As := [.int a1]) (rest := st) ⟨X.1, X.2.1, X.2.2.1, X.2.2.2.1, X.2.2.2.2.1⟩ hm (cwV (ws' := lw_aw) 1 X.2.2.2.2.1 (gwV (tw (i := 792) (by decide +kernel)) (tw (i := 793) (by decide +kernel)) (tw (i := 794) (by decide +kernel)) (tw (i := 71) (by decide +kernel)) (tw (i := 795) (by decide +kernel))) rfl rfl rfl (by decide +kernel) hR2) ⟨hr_blind, va_recv hK hP (ci := 6) (q := (RX6, TX6, 8)) (fs := objF6 G 0 (M.1 6 0)) (q0 := q0) rfl hq, fun U hU hW => ⟨rfl, by rw [hU]; exact hP, KK.warm hW X.2.2.2.2.2.1⟩⟩ rfl rfl hl.1 rfl (lv_room hst) d hC2) hS (fun q _ h => h) (fun q h => h) (fun r u t H1 locs1 ht hvm hw hB hz1 hk1 hS1 => k1 r u hw H1 locs1 ls (by rw [← ht]; exact hB.1) hS1 hl)
theorem jc_RL_153 {G : GT} {E : ET} {cc : ByteArray} {nL pc : Nat} {rm : Room} {lv : List (Nat × Value)} {st : List Value} {M : Mm} (X : CX G E RL cc nL rm) (hR : 5 + 1 ≤ rm.frames ∧ 8 + (4 + 11) + 116 ≤ rm.locals) (hst : (st.map fun v => v.category).sum ≤ 8) (d : decode cc pc = .ok (.invokevirtual 153, 3)) {a1 : Int32} {P : Int32 → Mm → Prop} (h : wp_X7_leastLimit a1 M P) (k1 : ∀ (r : Int32) (M2 : Mm), P r M2 → J G E nL (pc + 3) lv (.int r :: st) M2) : J G E nL pc lv (.int a1 :: .ref (adr G 7 0) :: st) M := fun H locs ls hP hS hl => by
  have hK := X.2.2.2.2.2.1.1
  have hm := met_X7_leastLimit (l := eL E) X.2.2.2.2.2.2.1 a1 M P h
  have hR2 : 5 + 1 ≤ (eR E).frames ∧ 8 + (4 + 11) + 116 ≤ (eR E).locals := by rw [X.2.2.2.2.2.2.2.1]; exact hR
  have hC2 : eCells E + 0 ≤ (eR E).cells ∧ eSlots E + 0 ≤ (eR E).slots := by rw [X.2.2.2.2.2.2.2.1]; exact ⟨X.2.2.2.2.2.2.2.2.1, X.2.2.2.2.2.2.2.2.2⟩
  obtain ⟨q0, -, hq⟩ := wld_get (G := G) M (mw7 0 (by decide))
  exact va_calli (va_runV (C := RX7) (As := [.int a1]) (rest := st) ⟨X.1, X.2.1, X.2.2.1, X.2.2.2.1, X.2.2.2.2.1⟩ hm (cwV (ws' := lw_aw) 1 X.2.2.2.2.1 (gwV (tw (i := 1283) (by decide +kernel)) (tw (i := 1284) (by decide +kernel)) (tw (i := 1285) (by decide +kernel)) (tw (i := 78) (by decide +kernel)) (tw (i := 1286) (by decide +kernel))) rfl rfl rfl (by decide +kernel) hR2) ⟨hr_blind, va_recv hK hP (ci := 7) (q := (RX7, TX7, 15)) (fs := objF7 G 0 (M.1 7 0)) (q0 := q0) rfl hq, fun U hU hW => ⟨rfl, by rw [hU]; exact hP, KK.warm hW X.2.2.2.2.2.1⟩⟩ rfl rfl hl.1 rfl (lv_room hst) d hC2) hS (fun q _ h => h) (fun q h => h) (fun r u t H1 locs1 ht hvm hw hB hz1 hk1 hS1 => k1 r u hw H1 locs1 ls (by rw [← ht]; exact hB.1) hS1 hl)
theorem jc_RL_154 {G : GT} {E : ET} {cc : ByteArray} {nL pc : Nat} {rm : Room} {lv : List (Nat × Value)} {st : List Value} {M : Mm} (X : CX G E RL cc nL rm) (hR : 2 + 1 ≤ rm.frames ∧ 8 + (7 + 11) + 45 ≤ rm.locals) (hst : (st.map fun v => v.category).sum ≤ 8) (d : decode cc pc = .ok (.invokevirtual 154, 3)) {a1 : Int32} {a2 : Int32} {a3 : Int32} {a4 : Int32} {P : Int32 → Mm → Prop} (h : wp_X6_file a1 a2 a3 a4 M P) (k1 : ∀ (r : Int32) (M2 : Mm), P r M2 → J G E nL (pc + 3) lv (.int r :: st) M2) : J G E nL pc lv (.int a4 :: .int a3 :: .int a2 :: .int a1 :: .ref (adr G 6 0) :: st) M := fun H locs ls hP hS hl => by
  have hK := X.2.2.2.2.2.1.1
  have hm := met_X6_file (l := eL E) X.2.2.2.2.2.2.1 a1 a2 a3 a4 M P h
  have hR2 : 2 + 1 ≤ (eR E).frames ∧ 8 + (7 + 11) + 45 ≤ (eR E).locals := by rw [X.2.2.2.2.2.2.2.1]; exact hR
  have hC2 : eCells E + 0 ≤ (eR E).cells ∧ eSlots E + 0 ≤ (eR E).slots := by rw [X.2.2.2.2.2.2.2.1]; exact ⟨X.2.2.2.2.2.2.2.2.1, X.2.2.2.2.2.2.2.2.2⟩
  obtain ⟨q0, -, hq⟩ := wld_get (G := G) M (mw6 0 (by decide))
  exact va_calli (va_runV (C := RX6) (As := [.int a1, .int a2, .int a3, .int a4]) (rest := st) ⟨X.1, X.2.1, X.2.2.1, X.2.2.2.1, X.2.2.2.2.1⟩ hm (cwV (ws' := lw_aw) 4 X.2.2.2.2.1 (gwV (tw (i := 803) (by decide +kernel)) (tw (i := 804) (by decide +kernel)) (tw (i := 805) (by decide +kernel)) (tw (i := 71) (by decide +kernel)) (tw (i := 806) (by decide +kernel))) rfl rfl rfl (by decide +kernel) hR2) ⟨hr_blind, va_recv hK hP (ci := 6) (q := (RX6, TX6, 8)) (fs := objF6 G 0 (M.1 6 0)) (q0 := q0) rfl hq, fun U hU hW => ⟨rfl, by rw [hU]; exact hP, KK.warm hW X.2.2.2.2.2.1⟩⟩ rfl rfl hl.1 rfl (lv_room hst) d hC2) hS (fun q _ h => h) (fun q h => h) (fun r u t H1 locs1 ht hvm hw hB hz1 hk1 hS1 => k1 r u hw H1 locs1 ls (by rw [← ht]; exact hB.1) hS1 hl)
theorem jc_RL_157 {G : GT} {E : ET} {cc : ByteArray} {nL pc : Nat} {rm : Room} {lv : List (Nat × Value)} {st : List Value} {M : Mm} (X : CX G E RL cc nL rm) (hR : 2 + 1 ≤ rm.frames ∧ 8 + (8 + 11) + 43 ≤ rm.locals) (hst : (st.map fun v => v.category).sum ≤ 8) (d : decode cc pc = .ok (.invokevirtual 157, 3)) {a1 : Int32} {a2 : Int32} {a3 : Int32} {a4 : Int32} {P : Int32 → Mm → Prop} (h : wp_X7_file a1 a2 a3 a4 M P) (k1 : ∀ (r : Int32) (M2 : Mm), P r M2 → J G E nL (pc + 3) lv (.int r :: st) M2) : J G E nL pc lv (.int a4 :: .int a3 :: .int a2 :: .int a1 :: .ref (adr G 7 0) :: st) M := fun H locs ls hP hS hl => by
  have hK := X.2.2.2.2.2.1.1
  have hm := met_X7_file (l := eL E) X.2.2.2.2.2.2.1 a1 a2 a3 a4 M P h
  have hR2 : 2 + 1 ≤ (eR E).frames ∧ 8 + (8 + 11) + 43 ≤ (eR E).locals := by rw [X.2.2.2.2.2.2.2.1]; exact hR
  have hC2 : eCells E + 0 ≤ (eR E).cells ∧ eSlots E + 0 ≤ (eR E).slots := by rw [X.2.2.2.2.2.2.2.1]; exact ⟨X.2.2.2.2.2.2.2.2.1, X.2.2.2.2.2.2.2.2.2⟩
  obtain ⟨q0, -, hq⟩ := wld_get (G := G) M (mw7 0 (by decide))
  exact va_calli (va_runV (C := RX7) (As := [.int a1, .int a2, .int a3, .int a4]) (rest := st) ⟨X.1, X.2.1, X.2.2.1, X.2.2.2.1, X.2.2.2.2.1⟩ hm (cwV (ws' := lw_aw) 4 X.2.2.2.2.1 (gwV (tw (i := 1287) (by decide +kernel)) (tw (i := 1288) (by decide +kernel)) (tw (i := 1289) (by decide +kernel)) (tw (i := 78) (by decide +kernel)) (tw (i := 1290) (by decide +kernel))) rfl rfl rfl (by decide +kernel) hR2) ⟨hr_blind, va_recv hK hP (ci := 7) (q := (RX7, TX7, 15)) (fs := objF7 G 0 (M.1 7 0)) (q0 := q0) rfl hq, fun U hU hW => ⟨rfl, by rw [hU]; exact hP, KK.warm hW X.2.2.2.2.2.1⟩⟩ rfl rfl hl.1 rfl (lv_room hst) d hC2) hS (fun q _ h => h) (fun q h => h) (fun r u t H1 locs1 ht hvm hw hB hz1 hk1 hS1 => k1 r u hw H1 locs1 ls (by rw [← ht]; exact hB.1) hS1 hl)
theorem jc_RL_158 {G : GT} {E : ET} {cc : ByteArray} {nL pc : Nat} {rm : Room} {lv : List (Nat × Value)} {st : List Value} {M : Mm} (X : CX G E RL cc nL rm) (hR : 4 + 1 ≤ rm.frames ∧ 8 + (5 + 11) + 92 ≤ rm.locals) (hst : (st.map fun v => v.category).sum ≤ 8) (d : decode cc pc = .ok (.invokevirtual 158, 3)) {a1 : Int32} {a2 : Int32} {P : Int32 → Mm → Prop} (h : wp_X6_use a1 a2 M P) (k1 : ∀ (r : Int32) (M2 : Mm), P r M2 → J G E nL (pc + 3) lv (.int r :: st) M2) : J G E nL pc lv (.int a2 :: .int a1 :: .ref (adr G 6 0) :: st) M := fun H locs ls hP hS hl => by
  have hK := X.2.2.2.2.2.1.1
  have hm := met_X6_use (l := eL E) X.2.2.2.2.2.2.1 a1 a2 M P h
  have hR2 : 4 + 1 ≤ (eR E).frames ∧ 8 + (5 + 11) + 92 ≤ (eR E).locals := by rw [X.2.2.2.2.2.2.2.1]; exact hR
  have hC2 : eCells E + 0 ≤ (eR E).cells ∧ eSlots E + 0 ≤ (eR E).slots := by rw [X.2.2.2.2.2.2.2.1]; exact ⟨X.2.2.2.2.2.2.2.2.1, X.2.2.2.2.2.2.2.2.2⟩
  obtain ⟨q0, -, hq⟩ := wld_get (G := G) M (mw6 0 (by decide))
  exact va_calli (va_runV (C := RX6) (As := [.int a1, .int a2]) (rest := st) ⟨X.1, X.2.1, X.2.2.1, X.2.2.2.1, X.2.2.2.2.1⟩ hm (cwV (ws' := lw_aw) 2 X.2.2.2.2.1 (gwV (tw (i := 840) (by decide +kernel)) (tw (i := 841) (by decide +kernel)) (tw (i := 842) (by decide +kernel)) (tw (i := 71) (by decide +kernel)) (tw (i := 843) (by decide +kernel))) rfl rfl rfl (by decide +kernel) hR2) ⟨hr_blind, va_recv hK hP (ci := 6) (q := (RX6, TX6, 8)) (fs := objF6 G 0 (M.1 6 0)) (q0 := q0) rfl hq, fun U hU hW => ⟨rfl, by rw [hU]; exact hP, KK.warm hW X.2.2.2.2.2.1⟩⟩ rfl rfl hl.1 rfl (lv_room hst) d hC2) hS (fun q _ h => h) (fun q h => h) (fun r u t H1 locs1 ht hvm hw hB hz1 hk1 hS1 => k1 r u hw H1 locs1 ls (by rw [← ht]; exact hB.1) hS1 hl)
theorem jc_RL_161 {G : GT} {E : ET} {cc : ByteArray} {nL pc : Nat} {rm : Room} {lv : List (Nat × Value)} {st : List Value} {M : Mm} (X : CX G E RL cc nL rm) (hR : 3 + 1 ≤ rm.frames ∧ 8 + (8 + 11) + 66 ≤ rm.locals) (hst : (st.map fun v => v.category).sum ≤ 8) (d : decode cc pc = .ok (.invokevirtual 161, 3)) {a1 : Int32} {a2 : Int32} {P : Int32 → Mm → Prop} (h : wp_X7_use a1 a2 M P) (k1 : ∀ (r : Int32) (M2 : Mm), P r M2 → J G E nL (pc + 3) lv (.int r :: st) M2) : J G E nL pc lv (.int a2 :: .int a1 :: .ref (adr G 7 0) :: st) M := fun H locs ls hP hS hl => by
  have hK := X.2.2.2.2.2.1.1
  have hm := met_X7_use (l := eL E) X.2.2.2.2.2.2.1 a1 a2 M P h
  have hR2 : 3 + 1 ≤ (eR E).frames ∧ 8 + (8 + 11) + 66 ≤ (eR E).locals := by rw [X.2.2.2.2.2.2.2.1]; exact hR
  have hC2 : eCells E + 0 ≤ (eR E).cells ∧ eSlots E + 0 ≤ (eR E).slots := by rw [X.2.2.2.2.2.2.2.1]; exact ⟨X.2.2.2.2.2.2.2.2.1, X.2.2.2.2.2.2.2.2.2⟩
  obtain ⟨q0, -, hq⟩ := wld_get (G := G) M (mw7 0 (by decide))
  exact va_calli (va_runV (C := RX7) (As := [.int a1, .int a2]) (rest := st) ⟨X.1, X.2.1, X.2.2.1, X.2.2.2.1, X.2.2.2.2.1⟩ hm (cwV (ws' := lw_aw) 2 X.2.2.2.2.1 (gwV (tw (i := 1294) (by decide +kernel)) (tw (i := 1295) (by decide +kernel)) (tw (i := 1296) (by decide +kernel)) (tw (i := 78) (by decide +kernel)) (tw (i := 1297) (by decide +kernel))) rfl rfl rfl (by decide +kernel) hR2) ⟨hr_blind, va_recv hK hP (ci := 7) (q := (RX7, TX7, 15)) (fs := objF7 G 0 (M.1 7 0)) (q0 := q0) rfl hq, fun U hU hW => ⟨rfl, by rw [hU]; exact hP, KK.warm hW X.2.2.2.2.2.1⟩⟩ rfl rfl hl.1 rfl (lv_room hst) d hC2) hS (fun q _ h => h) (fun q h => h) (fun r u t H1 locs1 ht hvm hw hB hz1 hk1 hS1 => k1 r u hw H1 locs1 ls (by rw [← ht]; exact hB.1) hS1 hl)
theorem jc_RL_162 {G : GT} {E : ET} {cc : ByteArray} {nL pc : Nat} {rm : Room} {lv : List (Nat × Value)} {st : List Value} {M : Mm} (X : CX G E RL cc nL rm) (hR : 2 + 1 ≤ rm.frames ∧ 8 + (3 + 11) + 44 ≤ rm.locals) (hst : (st.map fun v => v.category).sum ≤ 8) (d : decode cc pc = .ok (.invokevirtual 162, 3)) {a1 : Int32} {a2 : Int32} {P : Int32 → Mm → Prop} (h : wp_X6_filed a1 a2 M P) (k1 : ∀ (r : Int32) (M2 : Mm), P r M2 → J G E nL (pc + 3) lv (.int r :: st) M2) : J G E nL pc lv (.int a2 :: .int a1 :: .ref (adr G 6 0) :: st) M := fun H locs ls hP hS hl => by
  have hK := X.2.2.2.2.2.1.1
  have hm := met_X6_filed (l := eL E) X.2.2.2.2.2.2.1 a1 a2 M P h
  have hR2 : 2 + 1 ≤ (eR E).frames ∧ 8 + (3 + 11) + 44 ≤ (eR E).locals := by rw [X.2.2.2.2.2.2.2.1]; exact hR
  have hC2 : eCells E + 0 ≤ (eR E).cells ∧ eSlots E + 0 ≤ (eR E).slots := by rw [X.2.2.2.2.2.2.2.1]; exact ⟨X.2.2.2.2.2.2.2.2.1, X.2.2.2.2.2.2.2.2.2⟩
  obtain ⟨q0, -, hq⟩ := wld_get (G := G) M (mw6 0 (by decide))
  exact va_calli (va_runV (C := RX6) (As := [.int a1, .int a2]) (rest := st) ⟨X.1, X.2.1, X.2.2.1, X.2.2.2.1, X.2.2.2.2.1⟩ hm (cwV (ws' := lw_aw) 2 X.2.2.2.2.1 (gwV (tw (i := 852) (by decide +kernel)) (tw (i := 845) (by decide +kernel)) (tw (i := 846) (by decide +kernel)) (tw (i := 71) (by decide +kernel)) (tw (i := 847) (by decide +kernel))) rfl rfl rfl (by decide +kernel) hR2) ⟨hr_blind, va_recv hK hP (ci := 6) (q := (RX6, TX6, 8)) (fs := objF6 G 0 (M.1 6 0)) (q0 := q0) rfl hq, fun U hU hW => ⟨rfl, by rw [hU]; exact hP, KK.warm hW X.2.2.2.2.2.1⟩⟩ rfl rfl hl.1 rfl (lv_room hst) d hC2) hS (fun q _ h => h) (fun q h => h) (fun r u t H1 locs1 ht hvm hw hB hz1 hk1 hS1 => k1 r u hw H1 locs1 ls (by rw [← ht]; exact hB.1) hS1 hl)
theorem jc_RL_165 {G : GT} {E : ET} {cc : ByteArray} {nL pc : Nat} {rm : Room} {lv : List (Nat × Value)} {st : List Value} {M : Mm} (X : CX G E RL cc nL rm) (hR : 2 + 1 ≤ rm.frames ∧ 8 + (4 + 11) + 43 ≤ rm.locals) (hst : (st.map fun v => v.category).sum ≤ 8) (d : decode cc pc = .ok (.invokevirtual 165, 3)) {a1 : Int32} {a2 : Int32} {P : Int32 → Mm → Prop} (h : wp_X7_filed a1 a2 M P) (k1 : ∀ (r : Int32) (M2 : Mm), P r M2 → J G E nL (pc + 3) lv (.int r :: st) M2) : J G E nL pc lv (.int a2 :: .int a1 :: .ref (adr G 7 0) :: st) M := fun H locs ls hP hS hl => by
  have hK := X.2.2.2.2.2.1.1
  have hm := met_X7_filed (l := eL E) X.2.2.2.2.2.2.1 a1 a2 M P h
  have hR2 : 2 + 1 ≤ (eR E).frames ∧ 8 + (4 + 11) + 43 ≤ (eR E).locals := by rw [X.2.2.2.2.2.2.2.1]; exact hR
  have hC2 : eCells E + 0 ≤ (eR E).cells ∧ eSlots E + 0 ≤ (eR E).slots := by rw [X.2.2.2.2.2.2.2.1]; exact ⟨X.2.2.2.2.2.2.2.2.1, X.2.2.2.2.2.2.2.2.2⟩
  obtain ⟨q0, -, hq⟩ := wld_get (G := G) M (mw7 0 (by decide))
  exact va_calli (va_runV (C := RX7) (As := [.int a1, .int a2]) (rest := st) ⟨X.1, X.2.1, X.2.2.1, X.2.2.2.1, X.2.2.2.2.1⟩ hm (cwV (ws' := lw_aw) 2 X.2.2.2.2.1 (gwV (tw (i := 1298) (by decide +kernel)) (tw (i := 1299) (by decide +kernel)) (tw (i := 1300) (by decide +kernel)) (tw (i := 78) (by decide +kernel)) (tw (i := 1301) (by decide +kernel))) rfl rfl rfl (by decide +kernel) hR2) ⟨hr_blind, va_recv hK hP (ci := 7) (q := (RX7, TX7, 15)) (fs := objF7 G 0 (M.1 7 0)) (q0 := q0) rfl hq, fun U hU hW => ⟨rfl, by rw [hU]; exact hP, KK.warm hW X.2.2.2.2.2.1⟩⟩ rfl rfl hl.1 rfl (lv_room hst) d hC2) hS (fun q _ h => h) (fun q h => h) (fun r u t H1 locs1 ht hvm hw hB hz1 hk1 hS1 => k1 r u hw H1 locs1 ls (by rw [← ht]; exact hB.1) hS1 hl)
theorem jc_RL_166 {G : GT} {E : ET} {cc : ByteArray} {nL pc : Nat} {rm : Room} {lv : List (Nat × Value)} {st : List Value} {M : Mm} (X : CX G E RL cc nL rm) (hR : 2 + 1 ≤ rm.frames ∧ 8 + (1 + 11) + 47 ≤ rm.locals) (hst : (st.map fun v => v.category).sum ≤ 8) (d : decode cc pc = .ok (.invokevirtual 166, 3))  {P : Int32 → Mm → Prop} (h : wp_X6_save  M P) (k1 : ∀ (r : Int32) (M2 : Mm), P r M2 → J G E nL (pc + 3) lv (.int r :: st) M2) : J G E nL pc lv (.ref (adr G 6 0) :: st) M := fun H locs ls hP hS hl => by
  have hK := X.2.2.2.2.2.1.1
  have hm := met_X6_save (l := eL E) X.2.2.2.2.2.2.1  M P h
  have hR2 : 2 + 1 ≤ (eR E).frames ∧ 8 + (1 + 11) + 47 ≤ (eR E).locals := by rw [X.2.2.2.2.2.2.2.1]; exact hR
  have hC2 : eCells E + 0 ≤ (eR E).cells ∧ eSlots E + 0 ≤ (eR E).slots := by rw [X.2.2.2.2.2.2.2.1]; exact ⟨X.2.2.2.2.2.2.2.2.1, X.2.2.2.2.2.2.2.2.2⟩
  obtain ⟨q0, -, hq⟩ := wld_get (G := G) M (mw6 0 (by decide))
  exact va_calli (va_runV (C := RX6) (As := []) (rest := st) ⟨X.1, X.2.1, X.2.2.1, X.2.2.2.1, X.2.2.2.2.1⟩ hm (cwV (ws' := lw_aw) 0 X.2.2.2.2.1 (gwV (tw (i := 853) (by decide +kernel)) (tw (i := 854) (by decide +kernel)) (tw (i := 855) (by decide +kernel)) (tw (i := 71) (by decide +kernel)) (tw (i := 856) (by decide +kernel))) rfl rfl rfl (by decide +kernel) hR2) ⟨hr_blind, va_recv hK hP (ci := 6) (q := (RX6, TX6, 8)) (fs := objF6 G 0 (M.1 6 0)) (q0 := q0) rfl hq, fun U hU hW => ⟨rfl, by rw [hU]; exact hP, KK.warm hW X.2.2.2.2.2.1⟩⟩ rfl rfl hl.1 rfl (lv_room hst) d hC2) hS (fun q _ h => h) (fun q h => h) (fun r u t H1 locs1 ht hvm hw hB hz1 hk1 hS1 => k1 r u hw H1 locs1 ls (by rw [← ht]; exact hB.1) hS1 hl)
theorem jc_RL_169 {G : GT} {E : ET} {cc : ByteArray} {nL pc : Nat} {rm : Room} {lv : List (Nat × Value)} {st : List Value} {M : Mm} (X : CX G E RL cc nL rm) (hR : 1 + 1 ≤ rm.frames ∧ 8 + (1 + 11) + 24 ≤ rm.locals) (hst : (st.map fun v => v.category).sum ≤ 8) (d : decode cc pc = .ok (.invokevirtual 169, 3))  {P : Int32 → Mm → Prop} (h : wp_X7_save  M P) (k1 : ∀ (r : Int32) (M2 : Mm), P r M2 → J G E nL (pc + 3) lv (.int r :: st) M2) : J G E nL pc lv (.ref (adr G 7 0) :: st) M := fun H locs ls hP hS hl => by
  have hK := X.2.2.2.2.2.1.1
  have hm := met_X7_save (l := eL E) X.2.2.2.2.2.2.1  M P h
  have hR2 : 1 + 1 ≤ (eR E).frames ∧ 8 + (1 + 11) + 24 ≤ (eR E).locals := by rw [X.2.2.2.2.2.2.2.1]; exact hR
  have hC2 : eCells E + 0 ≤ (eR E).cells ∧ eSlots E + 0 ≤ (eR E).slots := by rw [X.2.2.2.2.2.2.2.1]; exact ⟨X.2.2.2.2.2.2.2.2.1, X.2.2.2.2.2.2.2.2.2⟩
  obtain ⟨q0, -, hq⟩ := wld_get (G := G) M (mw7 0 (by decide))
  exact va_calli (va_runV (C := RX7) (As := []) (rest := st) ⟨X.1, X.2.1, X.2.2.1, X.2.2.2.1, X.2.2.2.2.1⟩ hm (cwV (ws' := lw_aw) 0 X.2.2.2.2.1 (gwV (tw (i := 1302) (by decide +kernel)) (tw (i := 1303) (by decide +kernel)) (tw (i := 1304) (by decide +kernel)) (tw (i := 78) (by decide +kernel)) (tw (i := 1305) (by decide +kernel))) rfl rfl rfl (by decide +kernel) hR2) ⟨hr_blind, va_recv hK hP (ci := 7) (q := (RX7, TX7, 15)) (fs := objF7 G 0 (M.1 7 0)) (q0 := q0) rfl hq, fun U hU hW => ⟨rfl, by rw [hU]; exact hP, KK.warm hW X.2.2.2.2.2.1⟩⟩ rfl rfl hl.1 rfl (lv_room hst) d hC2) hS (fun q _ h => h) (fun q h => h) (fun r u t H1 locs1 ht hvm hw hB hz1 hk1 hS1 => k1 r u hw H1 locs1 ls (by rw [← ht]; exact hB.1) hS1 hl)
theorem jc_RL_170 {G : GT} {E : ET} {cc : ByteArray} {nL pc : Nat} {rm : Room} {lv : List (Nat × Value)} {st : List Value} {M : Mm} (X : CX G E RL cc nL rm) (hR : 2 + 1 ≤ rm.frames ∧ 8 + (1 + 11) + 47 ≤ rm.locals) (hst : (st.map fun v => v.category).sum ≤ 8) (d : decode cc pc = .ok (.invokevirtual 170, 3))  {P : Int32 → Mm → Prop} (h : wp_X6_restore  M P) (k1 : ∀ (r : Int32) (M2 : Mm), P r M2 → J G E nL (pc + 3) lv (.int r :: st) M2) : J G E nL pc lv (.ref (adr G 6 0) :: st) M := fun H locs ls hP hS hl => by
  have hK := X.2.2.2.2.2.1.1
  have hm := met_X6_restore (l := eL E) X.2.2.2.2.2.2.1  M P h
  have hR2 : 2 + 1 ≤ (eR E).frames ∧ 8 + (1 + 11) + 47 ≤ (eR E).locals := by rw [X.2.2.2.2.2.2.2.1]; exact hR
  have hC2 : eCells E + 0 ≤ (eR E).cells ∧ eSlots E + 0 ≤ (eR E).slots := by rw [X.2.2.2.2.2.2.2.1]; exact ⟨X.2.2.2.2.2.2.2.2.1, X.2.2.2.2.2.2.2.2.2⟩
  obtain ⟨q0, -, hq⟩ := wld_get (G := G) M (mw6 0 (by decide))
  exact va_calli (va_runV (C := RX6) (As := []) (rest := st) ⟨X.1, X.2.1, X.2.2.1, X.2.2.2.1, X.2.2.2.2.1⟩ hm (cwV (ws' := lw_aw) 0 X.2.2.2.2.1 (gwV (tw (i := 858) (by decide +kernel)) (tw (i := 859) (by decide +kernel)) (tw (i := 860) (by decide +kernel)) (tw (i := 71) (by decide +kernel)) (tw (i := 861) (by decide +kernel))) rfl rfl rfl (by decide +kernel) hR2) ⟨hr_blind, va_recv hK hP (ci := 6) (q := (RX6, TX6, 8)) (fs := objF6 G 0 (M.1 6 0)) (q0 := q0) rfl hq, fun U hU hW => ⟨rfl, by rw [hU]; exact hP, KK.warm hW X.2.2.2.2.2.1⟩⟩ rfl rfl hl.1 rfl (lv_room hst) d hC2) hS (fun q _ h => h) (fun q h => h) (fun r u t H1 locs1 ht hvm hw hB hz1 hk1 hS1 => k1 r u hw H1 locs1 ls (by rw [← ht]; exact hB.1) hS1 hl)
theorem jc_RL_173 {G : GT} {E : ET} {cc : ByteArray} {nL pc : Nat} {rm : Room} {lv : List (Nat × Value)} {st : List Value} {M : Mm} (X : CX G E RL cc nL rm) (hR : 1 + 1 ≤ rm.frames ∧ 8 + (1 + 11) + 24 ≤ rm.locals) (hst : (st.map fun v => v.category).sum ≤ 8) (d : decode cc pc = .ok (.invokevirtual 173, 3))  {P : Int32 → Mm → Prop} (h : wp_X7_restore  M P) (k1 : ∀ (r : Int32) (M2 : Mm), P r M2 → J G E nL (pc + 3) lv (.int r :: st) M2) : J G E nL pc lv (.ref (adr G 7 0) :: st) M := fun H locs ls hP hS hl => by
  have hK := X.2.2.2.2.2.1.1
  have hm := met_X7_restore (l := eL E) X.2.2.2.2.2.2.1  M P h
  have hR2 : 1 + 1 ≤ (eR E).frames ∧ 8 + (1 + 11) + 24 ≤ (eR E).locals := by rw [X.2.2.2.2.2.2.2.1]; exact hR
  have hC2 : eCells E + 0 ≤ (eR E).cells ∧ eSlots E + 0 ≤ (eR E).slots := by rw [X.2.2.2.2.2.2.2.1]; exact ⟨X.2.2.2.2.2.2.2.2.1, X.2.2.2.2.2.2.2.2.2⟩
  obtain ⟨q0, -, hq⟩ := wld_get (G := G) M (mw7 0 (by decide))
  exact va_calli (va_runV (C := RX7) (As := []) (rest := st) ⟨X.1, X.2.1, X.2.2.1, X.2.2.2.1, X.2.2.2.2.1⟩ hm (cwV (ws' := lw_aw) 0 X.2.2.2.2.1 (gwV (tw (i := 1306) (by decide +kernel)) (tw (i := 1307) (by decide +kernel)) (tw (i := 1308) (by decide +kernel)) (tw (i := 78) (by decide +kernel)) (tw (i := 1309) (by decide +kernel))) rfl rfl rfl (by decide +kernel) hR2) ⟨hr_blind, va_recv hK hP (ci := 7) (q := (RX7, TX7, 15)) (fs := objF7 G 0 (M.1 7 0)) (q0 := q0) rfl hq, fun U hU hW => ⟨rfl, by rw [hU]; exact hP, KK.warm hW X.2.2.2.2.2.1⟩⟩ rfl rfl hl.1 rfl (lv_room hst) d hC2) hS (fun q _ h => h) (fun q h => h) (fun r u t H1 locs1 ht hvm hw hB hz1 hk1 hS1 => k1 r u hw H1 locs1 ls (by rw [← ht]; exact hB.1) hS1 hl)
def law_sh (L : Nat) (xs : Nat → Int32) (i : Int32) (M : Mm) : Prop := (∃ n, lq2 (fun self1 (x3 : Int32) (M4 : Mm) => ((((Int32.ofNat L) - (5 : Int32)) < x3 → True) ∧ (¬ ((Int32.ofNat L) - (5 : Int32)) < x3 → (vp_in x3 L ∧ (jn (fun  (M7 : Mm) => (∀ x10 : Int32, x10 = x3 + (5 : Int32) → self1 x10 M7)) (fun J8 : Mm → Prop => ((((xs x3.toNatClampNeg) &&& (63 : Int32)) = 0 → (vp_in (x3 + (1 : Int32)) L ∧ (vp_in (x3 + (2 : Int32)) L ∧ (vp_in (x3 + (3 : Int32)) L ∧ (vp_in (x3 + (4 : Int32)) L ∧ (wp_X6_addCover (xs (x3 + (1 : Int32)).toNatClampNeg) (xs (x3 + (2 : Int32)).toNatClampNeg) (xs (x3 + (3 : Int32)).toNatClampNeg) (xs (x3 + (4 : Int32)).toNatClampNeg) M4 (fun (r17 : Int32) (M16 : Mm) => (wp_X7_addCover (xs (x3 + (1 : Int32)).toNatClampNeg) (xs (x3 + (2 : Int32)).toNatClampNeg) (xs (x3 + (3 : Int32)).toNatClampNeg) (xs (x3 + (4 : Int32)).toNatClampNeg) M16 (fun (r19 : Int32) (M18 : Mm) => ((r17 = r19 → J8 M18) ∧ (¬ r17 = r19 → False))))))))))) ∧ (((xs x3.toNatClampNeg) &&& (63 : Int32)) = 1 → (vp_in (x3 + (1 : Int32)) L ∧ (vp_in (x3 + (2 : Int32)) L ∧ (vp_in (x3 + (3 : Int32)) L ∧ (vp_in (x3 + (4 : Int32)) L ∧ (wp_X6_addLayer (xs (x3 + (1 : Int32)).toNatClampNeg) (xs (x3 + (2 : Int32)).toNatClampNeg) (xs (x3 + (3 : Int32)).toNatClampNeg) (xs (x3 + (4 : Int32)).toNatClampNeg) M4 (fun (r26 : Int32) (M25 : Mm) => (wp_X7_addLayer (xs (x3 + (1 : Int32)).toNatClampNeg) (xs (x3 + (2 : Int32)).toNatClampNeg) (xs (x3 + (3 : Int32)).toNatClampNeg) (xs (x3 + (4 : Int32)).toNatClampNeg) M25 (fun (r28 : Int32) (M27 : Mm) => ((r26 = r28 → J8 M27) ∧ (¬ r26 = r28 → False))))))))))) ∧ (((xs x3.toNatClampNeg) &&& (63 : Int32)) = 2 → (vp_in (x3 + (1 : Int32)) L ∧ (wp_X6_addEvent (xs (x3 + (1 : Int32)).toNatClampNeg) M4 (fun (r32 : Int32) (M31 : Mm) => (wp_X7_addEvent (xs (x3 + (1 : Int32)).toNatClampNeg) M31 (fun (r34 : Int32) (M33 : Mm) => ((r32 = r34 → J8 M33) ∧ (¬ r32 = r34 → False)))))))) ∧ (((xs x3.toNatClampNeg) &&& (63 : Int32)) = 3 → (vp_in (x3 + (1 : Int32)) L ∧ (vp_in (x3 + (2 : Int32)) L ∧ (vp_in (x3 + (3 : Int32)) L ∧ (wp_X6_addClaim (xs (x3 + (1 : Int32)).toNatClampNeg) (xs (x3 + (2 : Int32)).toNatClampNeg) (xs (x3 + (3 : Int32)).toNatClampNeg) M4 (fun (r40 : Int32) (M39 : Mm) => (wp_X7_addClaim (xs (x3 + (1 : Int32)).toNatClampNeg) (xs (x3 + (2 : Int32)).toNatClampNeg) (xs (x3 + (3 : Int32)).toNatClampNeg) M39 (fun (r42 : Int32) (M41 : Mm) => ((r40 = r42 → J8 M41) ∧ (¬ r40 = r42 → False)))))))))) ∧ (((xs x3.toNatClampNeg) &&& (63 : Int32)) = 4 → (vp_in (x3 + (1 : Int32)) L ∧ (wp_X6_removeClaim (xs (x3 + (1 : Int32)).toNatClampNeg) M4 (fun (r46 : Int32) (M45 : Mm) => (wp_X7_removeClaim (xs (x3 + (1 : Int32)).toNatClampNeg) M45 (fun (r48 : Int32) (M47 : Mm) => ((r46 = r48 → J8 M47) ∧ (¬ r46 = r48 → False)))))))) ∧ (((xs x3.toNatClampNeg) &&& (63 : Int32)) = 5 → (vp_in (x3 + (1 : Int32)) L ∧ (vp_in (x3 + (2 : Int32)) L ∧ (wp_X6_setDay (xs (x3 + (1 : Int32)).toNatClampNeg) (xs (x3 + (2 : Int32)).toNatClampNeg) M4 (fun (r53 : Int32) (M52 : Mm) => (wp_X7_setDay (xs (x3 + (1 : Int32)).toNatClampNeg) (xs (x3 + (2 : Int32)).toNatClampNeg) M52 (fun (r55 : Int32) (M54 : Mm) => ((r53 = r55 → J8 M54) ∧ (¬ r53 = r55 → False))))))))) ∧ (((xs x3.toNatClampNeg) &&& (63 : Int32)) = 6 → (vp_in (x3 + (1 : Int32)) L ∧ (vp_in (x3 + (2 : Int32)) L ∧ (wp_X6_setDeductible (xs (x3 + (1 : Int32)).toNatClampNeg) (xs (x3 + (2 : Int32)).toNatClampNeg) M4 (fun (r60 : Int32) (M59 : Mm) => (wp_X7_setDeductible (xs (x3 + (1 : Int32)).toNatClampNeg) (xs (x3 + (2 : Int32)).toNatClampNeg) M59 (fun (r62 : Int32) (M61 : Mm) => ((r60 = r62 → J8 M61) ∧ (¬ r60 = r62 → False))))))))) ∧ (((xs x3.toNatClampNeg) &&& (63 : Int32)) = 7 → (vp_in (x3 + (1 : Int32)) L ∧ (wp_X6_setIndex (xs (x3 + (1 : Int32)).toNatClampNeg) M4 (fun (r66 : Int32) (M65 : Mm) => (wp_X7_setIndex (xs (x3 + (1 : Int32)).toNatClampNeg) M65 (fun (r68 : Int32) (M67 : Mm) => ((r66 = r68 → J8 M67) ∧ (¬ r66 = r68 → False)))))))) ∧ (((xs x3.toNatClampNeg) &&& (63 : Int32)) = 8 → (vp_in (x3 + (1 : Int32)) L ∧ (vp_in (x3 + (2 : Int32)) L ∧ (wp_X6_setRecovery (xs (x3 + (1 : Int32)).toNatClampNeg) (xs (x3 + (2 : Int32)).toNatClampNeg) M4 (fun (r73 : Int32) (M72 : Mm) => (wp_X7_setRecovery (xs (x3 + (1 : Int32)).toNatClampNeg) (xs (x3 + (2 : Int32)).toNatClampNeg) M72 (fun (r75 : Int32) (M74 : Mm) => ((r73 = r75 → J8 M74) ∧ (¬ r73 = r75 → False))))))))) ∧ (((xs x3.toNatClampNeg) &&& (63 : Int32)) = 9 → (vp_in (x3 + (1 : Int32)) L ∧ (wp_X6_append (xs (x3 + (1 : Int32)).toNatClampNeg) M4 (fun (r79 : Int32) (M78 : Mm) => (wp_X7_append (xs (x3 + (1 : Int32)).toNatClampNeg) M78 (fun (r81 : Int32) (M80 : Mm) => ((r79 = r81 → J8 M80) ∧ (¬ r79 = r81 → False)))))))) ∧ (((xs x3.toNatClampNeg) &&& (63 : Int32)) = 10 → (wp_X6_read  M4 (fun (r84 : Int32) (M83 : Mm) => (wp_X7_read  M83 (fun (r86 : Int32) (M85 : Mm) => ((r84 = r86 → J8 M85) ∧ (¬ r84 = r86 → False))))))) ∧ (((xs x3.toNatClampNeg) &&& (63 : Int32)) = 11 → (wp_X6_faultPosition  M4 (fun (r89 : Int32) (M88 : Mm) => (wp_X7_faultPosition  M88 (fun (r91 : Int32) (M90 : Mm) => ((r89 = r91 → J8 M90) ∧ (¬ r89 = r91 → False))))))) ∧ (((xs x3.toNatClampNeg) &&& (63 : Int32)) = 12 → (wp_X6_undo  M4 (fun (r94 : Int32) (M93 : Mm) => (wp_X7_undo  M93 (fun (r96 : Int32) (M95 : Mm) => ((r94 = r96 → J8 M95) ∧ (¬ r94 = r96 → False))))))) ∧ (((xs x3.toNatClampNeg) &&& (63 : Int32)) = 13 → (vp_in (x3 + (1 : Int32)) L ∧ (wp_X6_count (xs (x3 + (1 : Int32)).toNatClampNeg) M4 (fun (r100 : Int32) (M99 : Mm) => (wp_X7_count (xs (x3 + (1 : Int32)).toNatClampNeg) M99 (fun (r102 : Int32) (M101 : Mm) => ((r100 = r102 → J8 M101) ∧ (¬ r100 = r102 → False)))))))) ∧ (((xs x3.toNatClampNeg) &&& (63 : Int32)) = 14 → (vp_in (x3 + (1 : Int32)) L ∧ (vp_in (x3 + (2 : Int32)) L ∧ (wp_X6_cover (xs (x3 + (1 : Int32)).toNatClampNeg) (xs (x3 + (2 : Int32)).toNatClampNeg) M4 (fun (r107 : Int32) (M106 : Mm) => (wp_X7_cover (xs (x3 + (1 : Int32)).toNatClampNeg) (xs (x3 + (2 : Int32)).toNatClampNeg) M106 (fun (r109 : Int32) (M108 : Mm) => ((r107 = r109 → J8 M108) ∧ (¬ r107 = r109 → False))))))))) ∧ (((xs x3.toNatClampNeg) &&& (63 : Int32)) = 15 → (vp_in (x3 + (1 : Int32)) L ∧ (vp_in (x3 + (2 : Int32)) L ∧ (wp_X6_layer (xs (x3 + (1 : Int32)).toNatClampNeg) (xs (x3 + (2 : Int32)).toNatClampNeg) M4 (fun (r114 : Int32) (M113 : Mm) => (wp_X7_layer (xs (x3 + (1 : Int32)).toNatClampNeg) (xs (x3 + (2 : Int32)).toNatClampNeg) M113 (fun (r116 : Int32) (M115 : Mm) => ((r114 = r116 → J8 M115) ∧ (¬ r114 = r116 → False))))))))) ∧ (((xs x3.toNatClampNeg) &&& (63 : Int32)) = 16 → (vp_in (x3 + (1 : Int32)) L ∧ (wp_X6_deductible (xs (x3 + (1 : Int32)).toNatClampNeg) M4 (fun (r120 : Int32) (M119 : Mm) => (wp_X7_deductible (xs (x3 + (1 : Int32)).toNatClampNeg) M119 (fun (r122 : Int32) (M121 : Mm) => ((r120 = r122 → J8 M121) ∧ (¬ r120 = r122 → False)))))))) ∧ (((xs x3.toNatClampNeg) &&& (63 : Int32)) = 17 → (vp_in (x3 + (1 : Int32)) L ∧ (vp_in (x3 + (2 : Int32)) L ∧ (wp_X6_event (xs (x3 + (1 : Int32)).toNatClampNeg) (xs (x3 + (2 : Int32)).toNatClampNeg) M4 (fun (r127 : Int32) (M126 : Mm) => (wp_X7_event (xs (x3 + (1 : Int32)).toNatClampNeg) (xs (x3 + (2 : Int32)).toNatClampNeg) M126 (fun (r129 : Int32) (M128 : Mm) => ((r127 = r129 → J8 M128) ∧ (¬ r127 = r129 → False))))))))) ∧ (((xs x3.toNatClampNeg) &&& (63 : Int32)) = 18 → (vp_in (x3 + (1 : Int32)) L ∧ (wp_X6_eventAt (xs (x3 + (1 : Int32)).toNatClampNeg) M4 (fun (r133 : Int32) (M132 : Mm) => (wp_X7_eventAt (xs (x3 + (1 : Int32)).toNatClampNeg) M132 (fun (r135 : Int32) (M134 : Mm) => ((r133 = r135 → J8 M134) ∧ (¬ r133 = r135 → False)))))))) ∧ (((xs x3.toNatClampNeg) &&& (63 : Int32)) = 19 → (vp_in (x3 + (1 : Int32)) L ∧ (vp_in (x3 + (2 : Int32)) L ∧ (wp_X6_claim (xs (x3 + (1 : Int32)).toNatClampNeg) (xs (x3 + (2 : Int32)).toNatClampNeg) M4 (fun (r140 : Int32) (M139 : Mm) => (wp_X7_claim (xs (x3 + (1 : Int32)).toNatClampNeg) (xs (x3 + (2 : Int32)).toNatClampNeg) M139 (fun (r142 : Int32) (M141 : Mm) => ((r140 = r142 → J8 M141) ∧ (¬ r140 = r142 → False))))))))) ∧ (((xs x3.toNatClampNeg) &&& (63 : Int32)) = 20 → (vp_in (x3 + (1 : Int32)) L ∧ (vp_in (x3 + (2 : Int32)) L ∧ (wp_X6_gross (xs (x3 + (1 : Int32)).toNatClampNeg) (xs (x3 + (2 : Int32)).toNatClampNeg) M4 (fun (r147 : Int32) (M146 : Mm) => (wp_X7_gross (xs (x3 + (1 : Int32)).toNatClampNeg) (xs (x3 + (2 : Int32)).toNatClampNeg) M146 (fun (r149 : Int32) (M148 : Mm) => ((r147 = r149 → J8 M148) ∧ (¬ r147 = r149 → False))))))))) ∧ (((xs x3.toNatClampNeg) &&& (63 : Int32)) = 21 → (vp_in (x3 + (1 : Int32)) L ∧ (vp_in (x3 + (2 : Int32)) L ∧ (wp_X6_deducted (xs (x3 + (1 : Int32)).toNatClampNeg) (xs (x3 + (2 : Int32)).toNatClampNeg) M4 (fun (r154 : Int32) (M153 : Mm) => (wp_X7_deducted (xs (x3 + (1 : Int32)).toNatClampNeg) (xs (x3 + (2 : Int32)).toNatClampNeg) M153 (fun (r156 : Int32) (M155 : Mm) => ((r154 = r156 → J8 M155) ∧ (¬ r154 = r156 → False))))))))) ∧ (((xs x3.toNatClampNeg) &&& (63 : Int32)) = 22 → (vp_in (x3 + (1 : Int32)) L ∧ (vp_in (x3 + (2 : Int32)) L ∧ (wp_X6_paid (xs (x3 + (1 : Int32)).toNatClampNeg) (xs (x3 + (2 : Int32)).toNatClampNeg) M4 (fun (r161 : Int32) (M160 : Mm) => (wp_X7_paid (xs (x3 + (1 : Int32)).toNatClampNeg) (xs (x3 + (2 : Int32)).toNatClampNeg) M160 (fun (r163 : Int32) (M162 : Mm) => ((r161 = r163 → J8 M162) ∧ (¬ r161 = r163 → False))))))))) ∧ (((xs x3.toNatClampNeg) &&& (63 : Int32)) = 23 → (vp_in (x3 + (1 : Int32)) L ∧ (vp_in (x3 + (2 : Int32)) L ∧ (wp_X6_leftBefore (xs (x3 + (1 : Int32)).toNatClampNeg) (xs (x3 + (2 : Int32)).toNatClampNeg) M4 (fun (r168 : Int32) (M167 : Mm) => (wp_X7_leftBefore (xs (x3 + (1 : Int32)).toNatClampNeg) (xs (x3 + (2 : Int32)).toNatClampNeg) M167 (fun (r170 : Int32) (M169 : Mm) => ((r168 = r170 → J8 M169) ∧ (¬ r168 = r170 → False))))))))) ∧ (((xs x3.toNatClampNeg) &&& (63 : Int32)) = 24 → (vp_in (x3 + (1 : Int32)) L ∧ (vp_in (x3 + (2 : Int32)) L ∧ (wp_X6_borne (xs (x3 + (1 : Int32)).toNatClampNeg) (xs (x3 + (2 : Int32)).toNatClampNeg) M4 (fun (r175 : Int32) (M174 : Mm) => (wp_X7_borne (xs (x3 + (1 : Int32)).toNatClampNeg) (xs (x3 + (2 : Int32)).toNatClampNeg) M174 (fun (r177 : Int32) (M176 : Mm) => ((r175 = r177 → J8 M176) ∧ (¬ r175 = r177 → False))))))))) ∧ (((xs x3.toNatClampNeg) &&& (63 : Int32)) = 25 → (vp_in (x3 + (1 : Int32)) L ∧ (vp_in (x3 + (2 : Int32)) L ∧ (wp_X6_returned (xs (x3 + (1 : Int32)).toNatClampNeg) (xs (x3 + (2 : Int32)).toNatClampNeg) M4 (fun (r182 : Int32) (M181 : Mm) => (wp_X7_returned (xs (x3 + (1 : Int32)).toNatClampNeg) (xs (x3 + (2 : Int32)).toNatClampNeg) M181 (fun (r184 : Int32) (M183 : Mm) => ((r182 = r184 → J8 M183) ∧ (¬ r182 = r184 → False))))))))) ∧ (((xs x3.toNatClampNeg) &&& (63 : Int32)) = 26 → (vp_in (x3 + (1 : Int32)) L ∧ (wp_X6_place (xs (x3 + (1 : Int32)).toNatClampNeg) M4 (fun (r188 : Int32) (M187 : Mm) => (wp_X7_place (xs (x3 + (1 : Int32)).toNatClampNeg) M187 (fun (r190 : Int32) (M189 : Mm) => ((r188 = r190 → J8 M189) ∧ (¬ r188 = r190 → False)))))))) ∧ (((xs x3.toNatClampNeg) &&& (63 : Int32)) = 27 → (wp_X6_worst  M4 (fun (r193 : Int32) (M192 : Mm) => (wp_X7_worst  M192 (fun (r195 : Int32) (M194 : Mm) => ((r193 = r195 → J8 M194) ∧ (¬ r193 = r195 → False))))))) ∧ (((xs x3.toNatClampNeg) &&& (63 : Int32)) = 28 → (vp_in (x3 + (1 : Int32)) L ∧ (wp_X6_account (xs (x3 + (1 : Int32)).toNatClampNeg) M4 (fun (r199 : Int32) (M198 : Mm) => (wp_X7_account (xs (x3 + (1 : Int32)).toNatClampNeg) M198 (fun (r201 : Int32) (M200 : Mm) => ((r199 = r201 → J8 M200) ∧ (¬ r199 = r201 → False)))))))) ∧ (((xs x3.toNatClampNeg) &&& (63 : Int32)) = 29 → (wp_X6_result  M4 (fun (r204 : Int32) (M203 : Mm) => (wp_X7_result  M203 (fun (r206 : Int32) (M205 : Mm) => ((r204 = r206 → J8 M205) ∧ (¬ r204 = r206 → False))))))) ∧ (((xs x3.toNatClampNeg) &&& (63 : Int32)) = 30 → (wp_X6_ratioBits  M4 (fun (r209 : Int32) (M208 : Mm) => (wp_X7_ratioBits  M208 (fun (r211 : Int32) (M210 : Mm) => ((r209 = r211 → J8 M210) ∧ (¬ r209 = r211 → False))))))) ∧ (((xs x3.toNatClampNeg) &&& (63 : Int32)) = 31 → (wp_X6_isBalanced  M4 (fun (r214 : Int32) (M213 : Mm) => (wp_X7_isBalanced  M213 (fun (r216 : Int32) (M215 : Mm) => ((r214 = r216 → J8 M215) ∧ (¬ r214 = r216 → False))))))) ∧ (((xs x3.toNatClampNeg) &&& (63 : Int32)) = 32 → (vp_in (x3 + (1 : Int32)) L ∧ (vp_in (x3 + (2 : Int32)) L ∧ (wp_X6_paidIf (xs (x3 + (1 : Int32)).toNatClampNeg) (xs (x3 + (2 : Int32)).toNatClampNeg) M4 (fun (r221 : Int32) (M220 : Mm) => (wp_X7_paidIf (xs (x3 + (1 : Int32)).toNatClampNeg) (xs (x3 + (2 : Int32)).toNatClampNeg) M220 (fun (r223 : Int32) (M222 : Mm) => ((r221 = r223 → J8 M222) ∧ (¬ r221 = r223 → False))))))))) ∧ (((xs x3.toNatClampNeg) &&& (63 : Int32)) = 33 → (vp_in (x3 + (1 : Int32)) L ∧ (wp_X6_leastLimit (xs (x3 + (1 : Int32)).toNatClampNeg) M4 (fun (r227 : Int32) (M226 : Mm) => (wp_X7_leastLimit (xs (x3 + (1 : Int32)).toNatClampNeg) M226 (fun (r229 : Int32) (M228 : Mm) => ((r227 = r229 → J8 M228) ∧ (¬ r227 = r229 → False)))))))) ∧ (((xs x3.toNatClampNeg) &&& (63 : Int32)) = 34 → (vp_in (x3 + (1 : Int32)) L ∧ (vp_in (x3 + (2 : Int32)) L ∧ (vp_in (x3 + (3 : Int32)) L ∧ (vp_in (x3 + (4 : Int32)) L ∧ (wp_X6_file (xs (x3 + (1 : Int32)).toNatClampNeg) (xs (x3 + (2 : Int32)).toNatClampNeg) (xs (x3 + (3 : Int32)).toNatClampNeg) (xs (x3 + (4 : Int32)).toNatClampNeg) M4 (fun (r236 : Int32) (M235 : Mm) => (wp_X7_file (xs (x3 + (1 : Int32)).toNatClampNeg) (xs (x3 + (2 : Int32)).toNatClampNeg) (xs (x3 + (3 : Int32)).toNatClampNeg) (xs (x3 + (4 : Int32)).toNatClampNeg) M235 (fun (r238 : Int32) (M237 : Mm) => ((r236 = r238 → J8 M237) ∧ (¬ r236 = r238 → False))))))))))) ∧ (((xs x3.toNatClampNeg) &&& (63 : Int32)) = 35 → (vp_in (x3 + (1 : Int32)) L ∧ (vp_in (x3 + (2 : Int32)) L ∧ (wp_X6_use (xs (x3 + (1 : Int32)).toNatClampNeg) (xs (x3 + (2 : Int32)).toNatClampNeg) M4 (fun (r243 : Int32) (M242 : Mm) => (wp_X7_use (xs (x3 + (1 : Int32)).toNatClampNeg) (xs (x3 + (2 : Int32)).toNatClampNeg) M242 (fun (r245 : Int32) (M244 : Mm) => ((r243 = r245 → J8 M244) ∧ (¬ r243 = r245 → False))))))))) ∧ (((xs x3.toNatClampNeg) &&& (63 : Int32)) = 36 → (vp_in (x3 + (1 : Int32)) L ∧ (vp_in (x3 + (2 : Int32)) L ∧ (wp_X6_filed (xs (x3 + (1 : Int32)).toNatClampNeg) (xs (x3 + (2 : Int32)).toNatClampNeg) M4 (fun (r250 : Int32) (M249 : Mm) => (wp_X7_filed (xs (x3 + (1 : Int32)).toNatClampNeg) (xs (x3 + (2 : Int32)).toNatClampNeg) M249 (fun (r252 : Int32) (M251 : Mm) => ((r250 = r252 → J8 M251) ∧ (¬ r250 = r252 → False))))))))) ∧ (((xs x3.toNatClampNeg) &&& (63 : Int32)) = 37 → (wp_X6_save  M4 (fun (r255 : Int32) (M254 : Mm) => (wp_X7_save  M254 (fun (r257 : Int32) (M256 : Mm) => ((r255 = r257 → J8 M256) ∧ (¬ r255 = r257 → False))))))) ∧ (((xs x3.toNatClampNeg) &&& (63 : Int32)) = 38 → (wp_X6_restore  M4 (fun (r260 : Int32) (M259 : Mm) => (wp_X7_restore  M259 (fun (r262 : Int32) (M261 : Mm) => ((r260 = r262 → J8 M261) ∧ (¬ r260 = r262 → False))))))) ∧ (¬ ((xs x3.toNatClampNeg) &&& (63 : Int32)) = 0 → ¬ ((xs x3.toNatClampNeg) &&& (63 : Int32)) = 1 → ¬ ((xs x3.toNatClampNeg) &&& (63 : Int32)) = 2 → ¬ ((xs x3.toNatClampNeg) &&& (63 : Int32)) = 3 → ¬ ((xs x3.toNatClampNeg) &&& (63 : Int32)) = 4 → ¬ ((xs x3.toNatClampNeg) &&& (63 : Int32)) = 5 → ¬ ((xs x3.toNatClampNeg) &&& (63 : Int32)) = 6 → ¬ ((xs x3.toNatClampNeg) &&& (63 : Int32)) = 7 → ¬ ((xs x3.toNatClampNeg) &&& (63 : Int32)) = 8 → ¬ ((xs x3.toNatClampNeg) &&& (63 : Int32)) = 9 → ¬ ((xs x3.toNatClampNeg) &&& (63 : Int32)) = 10 → ¬ ((xs x3.toNatClampNeg) &&& (63 : Int32)) = 11 → ¬ ((xs x3.toNatClampNeg) &&& (63 : Int32)) = 12 → ¬ ((xs x3.toNatClampNeg) &&& (63 : Int32)) = 13 → ¬ ((xs x3.toNatClampNeg) &&& (63 : Int32)) = 14 → ¬ ((xs x3.toNatClampNeg) &&& (63 : Int32)) = 15 → ¬ ((xs x3.toNatClampNeg) &&& (63 : Int32)) = 16 → ¬ ((xs x3.toNatClampNeg) &&& (63 : Int32)) = 17 → ¬ ((xs x3.toNatClampNeg) &&& (63 : Int32)) = 18 → ¬ ((xs x3.toNatClampNeg) &&& (63 : Int32)) = 19 → ¬ ((xs x3.toNatClampNeg) &&& (63 : Int32)) = 20 → ¬ ((xs x3.toNatClampNeg) &&& (63 : Int32)) = 21 → ¬ ((xs x3.toNatClampNeg) &&& (63 : Int32)) = 22 → ¬ ((xs x3.toNatClampNeg) &&& (63 : Int32)) = 23 → ¬ ((xs x3.toNatClampNeg) &&& (63 : Int32)) = 24 → ¬ ((xs x3.toNatClampNeg) &&& (63 : Int32)) = 25 → ¬ ((xs x3.toNatClampNeg) &&& (63 : Int32)) = 26 → ¬ ((xs x3.toNatClampNeg) &&& (63 : Int32)) = 27 → ¬ ((xs x3.toNatClampNeg) &&& (63 : Int32)) = 28 → ¬ ((xs x3.toNatClampNeg) &&& (63 : Int32)) = 29 → ¬ ((xs x3.toNatClampNeg) &&& (63 : Int32)) = 30 → ¬ ((xs x3.toNatClampNeg) &&& (63 : Int32)) = 31 → ¬ ((xs x3.toNatClampNeg) &&& (63 : Int32)) = 32 → ¬ ((xs x3.toNatClampNeg) &&& (63 : Int32)) = 33 → ¬ ((xs x3.toNatClampNeg) &&& (63 : Int32)) = 34 → ¬ ((xs x3.toNatClampNeg) &&& (63 : Int32)) = 35 → ¬ ((xs x3.toNatClampNeg) &&& (63 : Int32)) = 36 → ¬ ((xs x3.toNatClampNeg) &&& (63 : Int32)) = 37 → ¬ ((xs x3.toNatClampNeg) &&& (63 : Int32)) = 38 → J8 M4)))))))) n i M)
set_option maxHeartbeats 8000000 in
set_option maxRecDepth 100000 in
theorem law_walk {G : GT} {E : ET} {b L : Nat} {xs : Nat → Int32} (X : CX G E RL code 4 room_1) (hX : LX G E b L xs) (hlr : LR G E code) (i : Int32) (M : Mm) (h : law_sh L xs i M) : J G E 4 18 [(0, .ref b), (1, .ref (adr G 6 0)), (2, .ref (adr G 7 0)), (3, .int i)] [] M := by
  unfold law_sh at h
  refine j_sub [0, 1, 2, 3] rfl ?_
  refine lq2_s h (fun (x3 : Int32) (M4 : Mm) => J G E 4 18 [(0, .ref b), (1, .ref (adr G 6 0)), (2, .ref (adr G 7 0)), (3, .int x3)] [] M4) (fun self1 ih2 x3 M4 h => ?_) id
  refine j_iload_n X 3 dL_law_18 rfl rfl ?_
  refine j_aload_n X 0 dL_law_19 rfl rfl ?_
  refine j_slen X hX dL_law_20 ?_
  refine j_iconst (v := (5 : Int32)) X (by decide) dL_law_21 ?_
  refine j_isub X dL_law_22 ?_
  refine j_icmp_gt X 1287 dL_law_23 (by decide) (fun c5 => ?_) (fun c5 => ?_)
  · replace h := h.1 c5
    refine j_iconst (v := (1 : Int32)) X (by decide) dL_law_1287 ?_
    exact j_lret hlr dL_law_1288
  · replace h := h.2 c5
    refine j_aload_n X 0 dL_law_26 rfl rfl ?_
    refine j_iload_n X 3 dL_law_27 rfl rfl ?_
    have q6 := h.1
    replace h := h.2
    refine j_sld X hX q6 dL_law_28 ?_
    refine j_bipush (v := (63 : Int32)) X (by decide) dL_law_29 ?_
    refine j_iand X dL_law_31 ?_
    refine jn1_s h (fun  (M7 : Mm) => J G E 4 1281 [(0, .ref b), (1, .ref (adr G 6 0)), (2, .ref (adr G 7 0)), (3, .int x3)] [] M7) (fun M7 h => ?_) (fun J8 hj9 h => ?_)
    · obtain ⟨x10, ex10⟩ : ∃ z : Int32, z = x3 + (5 : Int32) := ⟨_, rfl⟩
      replace h := h x10 ex10
      refine j_iinc (v := x10) X 3 [(3, .int x10), (0, .ref b), (1, .ref (adr G 6 0)), (2, .ref (adr G 7 0))] dL_law_1281 rfl (by rw [ex10]; rfl) (by decide) rfl ?_
      refine j_goto X 18 dL_law_1284 (by decide) ?_
      refine j_sub [1, 2, 3, 0] rfl ?_
      exact ih2 x10 M7 h
    · refine j_ts_0_38 X (t0 := 204) (t1 := 257) (t2 := 310) (t3 := 333) (t4 := 376) (t5 := 399) (t6 := 432) (t7 := 465) (t8 := 488) (t9 := 521) (t10 := 544) (t11 := 557) (t12 := 570) (t13 := 583) (t14 := 606) (t15 := 639) (t16 := 672) (t17 := 695) (t18 := 728) (t19 := 751) (t20 := 784) (t21 := 817) (t22 := 850) (t23 := 883) (t24 := 916) (t25 := 949) (t26 := 982) (t27 := 1005) (t28 := 1018) (t29 := 1041) (t30 := 1054) (t31 := 1067) (t32 := 1080) (t33 := 1113) (t34 := 1136) (t35 := 1189) (t36 := 1222) (t37 := 1255) (t38 := 1268) (td := 1281) dL_law_32 rfl (by decide) (by decide) (by decide) (by decide) (by decide) (by decide) (by decide) (by decide) (by decide) (by decide) (by decide) (by decide) (by decide) (by decide) (by decide) (by decide) (by decide) (by decide) (by decide) (by decide) (by decide) (by decide) (by decide) (by decide) (by decide) (by decide) (by decide) (by decide) (by decide) (by decide) (by decide) (by decide) (by decide) (by decide) (by decide) (by decide) (by decide) (by decide) (by decide) (by decide) (fun c11 => ?_) (fun c11 => ?_) (fun c11 => ?_) (fun c11 => ?_) (fun c11 => ?_) (fun c11 => ?_) (fun c11 => ?_) (fun c11 => ?_) (fun c11 => ?_) (fun c11 => ?_) (fun c11 => ?_) (fun c11 => ?_) (fun c11 => ?_) (fun c11 => ?_) (fun c11 => ?_) (fun c11 => ?_) (fun c11 => ?_) (fun c11 => ?_) (fun c11 => ?_) (fun c11 => ?_) (fun c11 => ?_) (fun c11 => ?_) (fun c11 => ?_) (fun c11 => ?_) (fun c11 => ?_) (fun c11 => ?_) (fun c11 => ?_) (fun c11 => ?_) (fun c11 => ?_) (fun c11 => ?_) (fun c11 => ?_) (fun c11 => ?_) (fun c11 => ?_) (fun c11 => ?_) (fun c11 => ?_) (fun c11 => ?_) (fun c11 => ?_) (fun c11 => ?_) (fun c11 => ?_) (fun c264 c265 c266 c267 c268 c269 c270 c271 c272 c273 c274 c275 c276 c277 c278 c279 c280 c281 c282 c283 c284 c285 c286 c287 c288 c289 c290 c291 c292 c293 c294 c295 c296 c297 c298 c299 c300 c301 c302 => ?_)
      · replace h := h.1 c11
        refine j_aload_n X 1 dL_law_204 rfl rfl ?_
        refine j_aload_n X 0 dL_law_205 rfl rfl ?_
        refine j_iload_n X 3 dL_law_206 rfl rfl ?_
        refine j_iconst (v := (1 : Int32)) X (by decide) dL_law_207 ?_
        refine j_iadd X dL_law_208 ?_
        have q12 := h.1
        replace h := h.2
        refine j_sld X hX q12 dL_law_209 ?_
        refine j_aload_n X 0 dL_law_210 rfl rfl ?_
        refine j_iload_n X 3 dL_law_211 rfl rfl ?_
        refine j_iconst (v := (2 : Int32)) X (by decide) dL_law_212 ?_
        refine j_iadd X dL_law_213 ?_
        have q13 := h.1
        replace h := h.2
        refine j_sld X hX q13 dL_law_214 ?_
        refine j_aload_n X 0 dL_law_215 rfl rfl ?_
        refine j_iload_n X 3 dL_law_216 rfl rfl ?_
        refine j_iconst (v := (3 : Int32)) X (by decide) dL_law_217 ?_
        refine j_iadd X dL_law_218 ?_
        have q14 := h.1
        replace h := h.2
        refine j_sld X hX q14 dL_law_219 ?_
        refine j_aload_n X 0 dL_law_220 rfl rfl ?_
        refine j_iload_n X 3 dL_law_221 rfl rfl ?_
        refine j_iconst (v := (4 : Int32)) X (by decide) dL_law_222 ?_
        refine j_iadd X dL_law_223 ?_
        have q15 := h.1
        replace h := h.2
        refine j_sld X hX q15 dL_law_224 ?_
        refine jc_RL_13 X ⟨Nat.le_of_ble_eq_true rfl, Nat.le_of_ble_eq_true rfl⟩ (Nat.le_of_ble_eq_true rfl) dL_law_225 h (fun r17 M16 h => ?_)
        refine j_aload_n X 2 dL_law_228 rfl rfl ?_
        refine j_aload_n X 0 dL_law_229 rfl rfl ?_
        refine j_iload_n X 3 dL_law_230 rfl rfl ?_
        refine j_iconst (v := (1 : Int32)) X (by decide) dL_law_231 ?_
        refine j_iadd X dL_law_232 ?_
        refine j_sld X hX q12 dL_law_233 ?_
        refine j_aload_n X 0 dL_law_234 rfl rfl ?_
        refine j_iload_n X 3 dL_law_235 rfl rfl ?_
        refine j_iconst (v := (2 : Int32)) X (by decide) dL_law_236 ?_
        refine j_iadd X dL_law_237 ?_
        refine j_sld X hX q13 dL_law_238 ?_
        refine j_aload_n X 0 dL_law_239 rfl rfl ?_
        refine j_iload_n X 3 dL_law_240 rfl rfl ?_
        refine j_iconst (v := (3 : Int32)) X (by decide) dL_law_241 ?_
        refine j_iadd X dL_law_242 ?_
        refine j_sld X hX q14 dL_law_243 ?_
        refine j_aload_n X 0 dL_law_244 rfl rfl ?_
        refine j_iload_n X 3 dL_law_245 rfl rfl ?_
        refine j_iconst (v := (4 : Int32)) X (by decide) dL_law_246 ?_
        refine j_iadd X dL_law_247 ?_
        refine j_sld X hX q15 dL_law_248 ?_
        refine jc_RL_17 X ⟨Nat.le_of_ble_eq_true rfl, Nat.le_of_ble_eq_true rfl⟩ (Nat.le_of_ble_eq_true rfl) dL_law_249 h (fun r19 M18 h => ?_)
        refine j_icmp_eq X 1281 dL_law_252 (by decide) (fun c20 => ?_) (fun c20 => ?_)
        · replace h := h.1 c20
          refine j_sub [0, 1, 2, 3] rfl ?_
          exact hj9 M18 h
        · replace h := h.2 c20
          refine j_iconst (v := (0 : Int32)) X (by decide) dL_law_255 ?_
          exact h.elim
      · replace h := h.2.1 c11
        refine j_aload_n X 1 dL_law_257 rfl rfl ?_
        refine j_aload_n X 0 dL_law_258 rfl rfl ?_
        refine j_iload_n X 3 dL_law_259 rfl rfl ?_
        refine j_iconst (v := (1 : Int32)) X (by decide) dL_law_260 ?_
        refine j_iadd X dL_law_261 ?_
        have q21 := h.1
        replace h := h.2
        refine j_sld X hX q21 dL_law_262 ?_
        refine j_aload_n X 0 dL_law_263 rfl rfl ?_
        refine j_iload_n X 3 dL_law_264 rfl rfl ?_
        refine j_iconst (v := (2 : Int32)) X (by decide) dL_law_265 ?_
        refine j_iadd X dL_law_266 ?_
        have q22 := h.1
        replace h := h.2
        refine j_sld X hX q22 dL_law_267 ?_
        refine j_aload_n X 0 dL_law_268 rfl rfl ?_
        refine j_iload_n X 3 dL_law_269 rfl rfl ?_
        refine j_iconst (v := (3 : Int32)) X (by decide) dL_law_270 ?_
        refine j_iadd X dL_law_271 ?_
        have q23 := h.1
        replace h := h.2
        refine j_sld X hX q23 dL_law_272 ?_
        refine j_aload_n X 0 dL_law_273 rfl rfl ?_
        refine j_iload_n X 3 dL_law_274 rfl rfl ?_
        refine j_iconst (v := (4 : Int32)) X (by decide) dL_law_275 ?_
        refine j_iadd X dL_law_276 ?_
        have q24 := h.1
        replace h := h.2
        refine j_sld X hX q24 dL_law_277 ?_
        refine jc_RL_18 X ⟨Nat.le_of_ble_eq_true rfl, Nat.le_of_ble_eq_true rfl⟩ (Nat.le_of_ble_eq_true rfl) dL_law_278 h (fun r26 M25 h => ?_)
        refine j_aload_n X 2 dL_law_281 rfl rfl ?_
        refine j_aload_n X 0 dL_law_282 rfl rfl ?_
        refine j_iload_n X 3 dL_law_283 rfl rfl ?_
        refine j_iconst (v := (1 : Int32)) X (by decide) dL_law_284 ?_
        refine j_iadd X dL_law_285 ?_
        refine j_sld X hX q21 dL_law_286 ?_
        refine j_aload_n X 0 dL_law_287 rfl rfl ?_
        refine j_iload_n X 3 dL_law_288 rfl rfl ?_
        refine j_iconst (v := (2 : Int32)) X (by decide) dL_law_289 ?_
        refine j_iadd X dL_law_290 ?_
        refine j_sld X hX q22 dL_law_291 ?_
        refine j_aload_n X 0 dL_law_292 rfl rfl ?_
        refine j_iload_n X 3 dL_law_293 rfl rfl ?_
        refine j_iconst (v := (3 : Int32)) X (by decide) dL_law_294 ?_
        refine j_iadd X dL_law_295 ?_
        refine j_sld X hX q23 dL_law_296 ?_
        refine j_aload_n X 0 dL_law_297 rfl rfl ?_
        refine j_iload_n X 3 dL_law_298 rfl rfl ?_
        refine j_iconst (v := (4 : Int32)) X (by decide) dL_law_299 ?_
        refine j_iadd X dL_law_300 ?_
        refine j_sld X hX q24 dL_law_301 ?_
        refine jc_RL_21 X ⟨Nat.le_of_ble_eq_true rfl, Nat.le_of_ble_eq_true rfl⟩ (Nat.le_of_ble_eq_true rfl) dL_law_302 h (fun r28 M27 h => ?_)
        refine j_icmp_eq X 1281 dL_law_305 (by decide) (fun c29 => ?_) (fun c29 => ?_)
        · replace h := h.1 c29
          refine j_sub [0, 1, 2, 3] rfl ?_
          exact hj9 M27 h
        · replace h := h.2 c29
          refine j_iconst (v := (0 : Int32)) X (by decide) dL_law_308 ?_
          exact h.elim
      · replace h := h.2.2.1 c11
        refine j_aload_n X 1 dL_law_310 rfl rfl ?_
        refine j_aload_n X 0 dL_law_311 rfl rfl ?_
        refine j_iload_n X 3 dL_law_312 rfl rfl ?_
        refine j_iconst (v := (1 : Int32)) X (by decide) dL_law_313 ?_
        refine j_iadd X dL_law_314 ?_
        have q30 := h.1
        replace h := h.2
        refine j_sld X hX q30 dL_law_315 ?_
        refine jc_RL_22 X ⟨Nat.le_of_ble_eq_true rfl, Nat.le_of_ble_eq_true rfl⟩ (Nat.le_of_ble_eq_true rfl) dL_law_316 h (fun r32 M31 h => ?_)
        refine j_aload_n X 2 dL_law_319 rfl rfl ?_
        refine j_aload_n X 0 dL_law_320 rfl rfl ?_
        refine j_iload_n X 3 dL_law_321 rfl rfl ?_
        refine j_iconst (v := (1 : Int32)) X (by decide) dL_law_322 ?_
        refine j_iadd X dL_law_323 ?_
        refine j_sld X hX q30 dL_law_324 ?_
        refine jc_RL_26 X ⟨Nat.le_of_ble_eq_true rfl, Nat.le_of_ble_eq_true rfl⟩ (Nat.le_of_ble_eq_true rfl) dL_law_325 h (fun r34 M33 h => ?_)
        refine j_icmp_eq X 1281 dL_law_328 (by decide) (fun c35 => ?_) (fun c35 => ?_)
        · replace h := h.1 c35
          refine j_sub [0, 1, 2, 3] rfl ?_
          exact hj9 M33 h
        · replace h := h.2 c35
          refine j_iconst (v := (0 : Int32)) X (by decide) dL_law_331 ?_
          exact h.elim
      · replace h := h.2.2.2.1 c11
        refine j_aload_n X 1 dL_law_333 rfl rfl ?_
        refine j_aload_n X 0 dL_law_334 rfl rfl ?_
        refine j_iload_n X 3 dL_law_335 rfl rfl ?_
        refine j_iconst (v := (1 : Int32)) X (by decide) dL_law_336 ?_
        refine j_iadd X dL_law_337 ?_
        have q36 := h.1
        replace h := h.2
        refine j_sld X hX q36 dL_law_338 ?_
        refine j_aload_n X 0 dL_law_339 rfl rfl ?_
        refine j_iload_n X 3 dL_law_340 rfl rfl ?_
        refine j_iconst (v := (2 : Int32)) X (by decide) dL_law_341 ?_
        refine j_iadd X dL_law_342 ?_
        have q37 := h.1
        replace h := h.2
        refine j_sld X hX q37 dL_law_343 ?_
        refine j_aload_n X 0 dL_law_344 rfl rfl ?_
        refine j_iload_n X 3 dL_law_345 rfl rfl ?_
        refine j_iconst (v := (3 : Int32)) X (by decide) dL_law_346 ?_
        refine j_iadd X dL_law_347 ?_
        have q38 := h.1
        replace h := h.2
        refine j_sld X hX q38 dL_law_348 ?_
        refine jc_RL_27 X ⟨Nat.le_of_ble_eq_true rfl, Nat.le_of_ble_eq_true rfl⟩ (Nat.le_of_ble_eq_true rfl) dL_law_349 h (fun r40 M39 h => ?_)
        refine j_aload_n X 2 dL_law_352 rfl rfl ?_
        refine j_aload_n X 0 dL_law_353 rfl rfl ?_
        refine j_iload_n X 3 dL_law_354 rfl rfl ?_
        refine j_iconst (v := (1 : Int32)) X (by decide) dL_law_355 ?_
        refine j_iadd X dL_law_356 ?_
        refine j_sld X hX q36 dL_law_357 ?_
        refine j_aload_n X 0 dL_law_358 rfl rfl ?_
        refine j_iload_n X 3 dL_law_359 rfl rfl ?_
        refine j_iconst (v := (2 : Int32)) X (by decide) dL_law_360 ?_
        refine j_iadd X dL_law_361 ?_
        refine j_sld X hX q37 dL_law_362 ?_
        refine j_aload_n X 0 dL_law_363 rfl rfl ?_
        refine j_iload_n X 3 dL_law_364 rfl rfl ?_
        refine j_iconst (v := (3 : Int32)) X (by decide) dL_law_365 ?_
        refine j_iadd X dL_law_366 ?_
        refine j_sld X hX q38 dL_law_367 ?_
        refine jc_RL_31 X ⟨Nat.le_of_ble_eq_true rfl, Nat.le_of_ble_eq_true rfl⟩ (Nat.le_of_ble_eq_true rfl) dL_law_368 h (fun r42 M41 h => ?_)
        refine j_icmp_eq X 1281 dL_law_371 (by decide) (fun c43 => ?_) (fun c43 => ?_)
        · replace h := h.1 c43
          refine j_sub [0, 1, 2, 3] rfl ?_
          exact hj9 M41 h
        · replace h := h.2 c43
          refine j_iconst (v := (0 : Int32)) X (by decide) dL_law_374 ?_
          exact h.elim
      · replace h := h.2.2.2.2.1 c11
        refine j_aload_n X 1 dL_law_376 rfl rfl ?_
        refine j_aload_n X 0 dL_law_377 rfl rfl ?_
        refine j_iload_n X 3 dL_law_378 rfl rfl ?_
        refine j_iconst (v := (1 : Int32)) X (by decide) dL_law_379 ?_
        refine j_iadd X dL_law_380 ?_
        have q44 := h.1
        replace h := h.2
        refine j_sld X hX q44 dL_law_381 ?_
        refine jc_RL_32 X ⟨Nat.le_of_ble_eq_true rfl, Nat.le_of_ble_eq_true rfl⟩ (Nat.le_of_ble_eq_true rfl) dL_law_382 h (fun r46 M45 h => ?_)
        refine j_aload_n X 2 dL_law_385 rfl rfl ?_
        refine j_aload_n X 0 dL_law_386 rfl rfl ?_
        refine j_iload_n X 3 dL_law_387 rfl rfl ?_
        refine j_iconst (v := (1 : Int32)) X (by decide) dL_law_388 ?_
        refine j_iadd X dL_law_389 ?_
        refine j_sld X hX q44 dL_law_390 ?_
        refine jc_RL_35 X ⟨Nat.le_of_ble_eq_true rfl, Nat.le_of_ble_eq_true rfl⟩ (Nat.le_of_ble_eq_true rfl) dL_law_391 h (fun r48 M47 h => ?_)
        refine j_icmp_eq X 1281 dL_law_394 (by decide) (fun c49 => ?_) (fun c49 => ?_)
        · replace h := h.1 c49
          refine j_sub [0, 1, 2, 3] rfl ?_
          exact hj9 M47 h
        · replace h := h.2 c49
          refine j_iconst (v := (0 : Int32)) X (by decide) dL_law_397 ?_
          exact h.elim
      · replace h := h.2.2.2.2.2.1 c11
        refine j_aload_n X 1 dL_law_399 rfl rfl ?_
        refine j_aload_n X 0 dL_law_400 rfl rfl ?_
        refine j_iload_n X 3 dL_law_401 rfl rfl ?_
        refine j_iconst (v := (1 : Int32)) X (by decide) dL_law_402 ?_
        refine j_iadd X dL_law_403 ?_
        have q50 := h.1
        replace h := h.2
        refine j_sld X hX q50 dL_law_404 ?_
        refine j_aload_n X 0 dL_law_405 rfl rfl ?_
        refine j_iload_n X 3 dL_law_406 rfl rfl ?_
        refine j_iconst (v := (2 : Int32)) X (by decide) dL_law_407 ?_
        refine j_iadd X dL_law_408 ?_
        have q51 := h.1
        replace h := h.2
        refine j_sld X hX q51 dL_law_409 ?_
        refine jc_RL_36 X ⟨Nat.le_of_ble_eq_true rfl, Nat.le_of_ble_eq_true rfl⟩ (Nat.le_of_ble_eq_true rfl) dL_law_410 h (fun r53 M52 h => ?_)
        refine j_aload_n X 2 dL_law_413 rfl rfl ?_
        refine j_aload_n X 0 dL_law_414 rfl rfl ?_
        refine j_iload_n X 3 dL_law_415 rfl rfl ?_
        refine j_iconst (v := (1 : Int32)) X (by decide) dL_law_416 ?_
        refine j_iadd X dL_law_417 ?_
        refine j_sld X hX q50 dL_law_418 ?_
        refine j_aload_n X 0 dL_law_419 rfl rfl ?_
        refine j_iload_n X 3 dL_law_420 rfl rfl ?_
        refine j_iconst (v := (2 : Int32)) X (by decide) dL_law_421 ?_
        refine j_iadd X dL_law_422 ?_
        refine j_sld X hX q51 dL_law_423 ?_
        refine jc_RL_40 X ⟨Nat.le_of_ble_eq_true rfl, Nat.le_of_ble_eq_true rfl⟩ (Nat.le_of_ble_eq_true rfl) dL_law_424 h (fun r55 M54 h => ?_)
        refine j_icmp_eq X 1281 dL_law_427 (by decide) (fun c56 => ?_) (fun c56 => ?_)
        · replace h := h.1 c56
          refine j_sub [0, 1, 2, 3] rfl ?_
          exact hj9 M54 h
        · replace h := h.2 c56
          refine j_iconst (v := (0 : Int32)) X (by decide) dL_law_430 ?_
          exact h.elim
      · replace h := h.2.2.2.2.2.2.1 c11
        refine j_aload_n X 1 dL_law_432 rfl rfl ?_
        refine j_aload_n X 0 dL_law_433 rfl rfl ?_
        refine j_iload_n X 3 dL_law_434 rfl rfl ?_
        refine j_iconst (v := (1 : Int32)) X (by decide) dL_law_435 ?_
        refine j_iadd X dL_law_436 ?_
        have q57 := h.1
        replace h := h.2
        refine j_sld X hX q57 dL_law_437 ?_
        refine j_aload_n X 0 dL_law_438 rfl rfl ?_
        refine j_iload_n X 3 dL_law_439 rfl rfl ?_
        refine j_iconst (v := (2 : Int32)) X (by decide) dL_law_440 ?_
        refine j_iadd X dL_law_441 ?_
        have q58 := h.1
        replace h := h.2
        refine j_sld X hX q58 dL_law_442 ?_
        refine jc_RL_41 X ⟨Nat.le_of_ble_eq_true rfl, Nat.le_of_ble_eq_true rfl⟩ (Nat.le_of_ble_eq_true rfl) dL_law_443 h (fun r60 M59 h => ?_)
        refine j_aload_n X 2 dL_law_446 rfl rfl ?_
        refine j_aload_n X 0 dL_law_447 rfl rfl ?_
        refine j_iload_n X 3 dL_law_448 rfl rfl ?_
        refine j_iconst (v := (1 : Int32)) X (by decide) dL_law_449 ?_
        refine j_iadd X dL_law_450 ?_
        refine j_sld X hX q57 dL_law_451 ?_
        refine j_aload_n X 0 dL_law_452 rfl rfl ?_
        refine j_iload_n X 3 dL_law_453 rfl rfl ?_
        refine j_iconst (v := (2 : Int32)) X (by decide) dL_law_454 ?_
        refine j_iadd X dL_law_455 ?_
        refine j_sld X hX q58 dL_law_456 ?_
        refine jc_RL_44 X ⟨Nat.le_of_ble_eq_true rfl, Nat.le_of_ble_eq_true rfl⟩ (Nat.le_of_ble_eq_true rfl) dL_law_457 h (fun r62 M61 h => ?_)
        refine j_icmp_eq X 1281 dL_law_460 (by decide) (fun c63 => ?_) (fun c63 => ?_)
        · replace h := h.1 c63
          refine j_sub [0, 1, 2, 3] rfl ?_
          exact hj9 M61 h
        · replace h := h.2 c63
          refine j_iconst (v := (0 : Int32)) X (by decide) dL_law_463 ?_
          exact h.elim
      · replace h := h.2.2.2.2.2.2.2.1 c11
        refine j_aload_n X 1 dL_law_465 rfl rfl ?_
        refine j_aload_n X 0 dL_law_466 rfl rfl ?_
        refine j_iload_n X 3 dL_law_467 rfl rfl ?_
        refine j_iconst (v := (1 : Int32)) X (by decide) dL_law_468 ?_
        refine j_iadd X dL_law_469 ?_
        have q64 := h.1
        replace h := h.2
        refine j_sld X hX q64 dL_law_470 ?_
        refine jc_RL_45 X ⟨Nat.le_of_ble_eq_true rfl, Nat.le_of_ble_eq_true rfl⟩ (Nat.le_of_ble_eq_true rfl) dL_law_471 h (fun r66 M65 h => ?_)
        refine j_aload_n X 2 dL_law_474 rfl rfl ?_
        refine j_aload_n X 0 dL_law_475 rfl rfl ?_
        refine j_iload_n X 3 dL_law_476 rfl rfl ?_
        refine j_iconst (v := (1 : Int32)) X (by decide) dL_law_477 ?_
        refine j_iadd X dL_law_478 ?_
        refine j_sld X hX q64 dL_law_479 ?_
        refine jc_RL_48 X ⟨Nat.le_of_ble_eq_true rfl, Nat.le_of_ble_eq_true rfl⟩ (Nat.le_of_ble_eq_true rfl) dL_law_480 h (fun r68 M67 h => ?_)
        refine j_icmp_eq X 1281 dL_law_483 (by decide) (fun c69 => ?_) (fun c69 => ?_)
        · replace h := h.1 c69
          refine j_sub [0, 1, 2, 3] rfl ?_
          exact hj9 M67 h
        · replace h := h.2 c69
          refine j_iconst (v := (0 : Int32)) X (by decide) dL_law_486 ?_
          exact h.elim
      · replace h := h.2.2.2.2.2.2.2.2.1 c11
        refine j_aload_n X 1 dL_law_488 rfl rfl ?_
        refine j_aload_n X 0 dL_law_489 rfl rfl ?_
        refine j_iload_n X 3 dL_law_490 rfl rfl ?_
        refine j_iconst (v := (1 : Int32)) X (by decide) dL_law_491 ?_
        refine j_iadd X dL_law_492 ?_
        have q70 := h.1
        replace h := h.2
        refine j_sld X hX q70 dL_law_493 ?_
        refine j_aload_n X 0 dL_law_494 rfl rfl ?_
        refine j_iload_n X 3 dL_law_495 rfl rfl ?_
        refine j_iconst (v := (2 : Int32)) X (by decide) dL_law_496 ?_
        refine j_iadd X dL_law_497 ?_
        have q71 := h.1
        replace h := h.2
        refine j_sld X hX q71 dL_law_498 ?_
        refine jc_RL_49 X ⟨Nat.le_of_ble_eq_true rfl, Nat.le_of_ble_eq_true rfl⟩ (Nat.le_of_ble_eq_true rfl) dL_law_499 h (fun r73 M72 h => ?_)
        refine j_aload_n X 2 dL_law_502 rfl rfl ?_
        refine j_aload_n X 0 dL_law_503 rfl rfl ?_
        refine j_iload_n X 3 dL_law_504 rfl rfl ?_
        refine j_iconst (v := (1 : Int32)) X (by decide) dL_law_505 ?_
        refine j_iadd X dL_law_506 ?_
        refine j_sld X hX q70 dL_law_507 ?_
        refine j_aload_n X 0 dL_law_508 rfl rfl ?_
        refine j_iload_n X 3 dL_law_509 rfl rfl ?_
        refine j_iconst (v := (2 : Int32)) X (by decide) dL_law_510 ?_
        refine j_iadd X dL_law_511 ?_
        refine j_sld X hX q71 dL_law_512 ?_
        refine jc_RL_52 X ⟨Nat.le_of_ble_eq_true rfl, Nat.le_of_ble_eq_true rfl⟩ (Nat.le_of_ble_eq_true rfl) dL_law_513 h (fun r75 M74 h => ?_)
        refine j_icmp_eq X 1281 dL_law_516 (by decide) (fun c76 => ?_) (fun c76 => ?_)
        · replace h := h.1 c76
          refine j_sub [0, 1, 2, 3] rfl ?_
          exact hj9 M74 h
        · replace h := h.2 c76
          refine j_iconst (v := (0 : Int32)) X (by decide) dL_law_519 ?_
          exact h.elim
      · replace h := h.2.2.2.2.2.2.2.2.2.1 c11
        refine j_aload_n X 1 dL_law_521 rfl rfl ?_
        refine j_aload_n X 0 dL_law_522 rfl rfl ?_
        refine j_iload_n X 3 dL_law_523 rfl rfl ?_
        refine j_iconst (v := (1 : Int32)) X (by decide) dL_law_524 ?_
        refine j_iadd X dL_law_525 ?_
        have q77 := h.1
        replace h := h.2
        refine j_sld X hX q77 dL_law_526 ?_
        refine jc_RL_53 X ⟨Nat.le_of_ble_eq_true rfl, Nat.le_of_ble_eq_true rfl⟩ (Nat.le_of_ble_eq_true rfl) dL_law_527 h (fun r79 M78 h => ?_)
        refine j_aload_n X 2 dL_law_530 rfl rfl ?_
        refine j_aload_n X 0 dL_law_531 rfl rfl ?_
        refine j_iload_n X 3 dL_law_532 rfl rfl ?_
        refine j_iconst (v := (1 : Int32)) X (by decide) dL_law_533 ?_
        refine j_iadd X dL_law_534 ?_
        refine j_sld X hX q77 dL_law_535 ?_
        refine jc_RL_56 X ⟨Nat.le_of_ble_eq_true rfl, Nat.le_of_ble_eq_true rfl⟩ (Nat.le_of_ble_eq_true rfl) dL_law_536 h (fun r81 M80 h => ?_)
        refine j_icmp_eq X 1281 dL_law_539 (by decide) (fun c82 => ?_) (fun c82 => ?_)
        · replace h := h.1 c82
          refine j_sub [0, 1, 2, 3] rfl ?_
          exact hj9 M80 h
        · replace h := h.2 c82
          refine j_iconst (v := (0 : Int32)) X (by decide) dL_law_542 ?_
          exact h.elim
      · replace h := h.2.2.2.2.2.2.2.2.2.2.1 c11
        refine j_aload_n X 1 dL_law_544 rfl rfl ?_
        refine jc_RL_57 X ⟨Nat.le_of_ble_eq_true rfl, Nat.le_of_ble_eq_true rfl⟩ (Nat.le_of_ble_eq_true rfl) dL_law_545 h (fun r84 M83 h => ?_)
        refine j_aload_n X 2 dL_law_548 rfl rfl ?_
        refine jc_RL_61 X ⟨Nat.le_of_ble_eq_true rfl, Nat.le_of_ble_eq_true rfl⟩ (Nat.le_of_ble_eq_true rfl) dL_law_549 h (fun r86 M85 h => ?_)
        refine j_icmp_eq X 1281 dL_law_552 (by decide) (fun c87 => ?_) (fun c87 => ?_)
        · replace h := h.1 c87
          refine j_sub [0, 1, 2, 3] rfl ?_
          exact hj9 M85 h
        · replace h := h.2 c87
          refine j_iconst (v := (0 : Int32)) X (by decide) dL_law_555 ?_
          exact h.elim
      · replace h := h.2.2.2.2.2.2.2.2.2.2.2.1 c11
        refine j_aload_n X 1 dL_law_557 rfl rfl ?_
        refine jc_RL_62 X ⟨Nat.le_of_ble_eq_true rfl, Nat.le_of_ble_eq_true rfl⟩ (Nat.le_of_ble_eq_true rfl) dL_law_558 h (fun r89 M88 h => ?_)
        refine j_aload_n X 2 dL_law_561 rfl rfl ?_
        refine jc_RL_65 X ⟨Nat.le_of_ble_eq_true rfl, Nat.le_of_ble_eq_true rfl⟩ (Nat.le_of_ble_eq_true rfl) dL_law_562 h (fun r91 M90 h => ?_)
        refine j_icmp_eq X 1281 dL_law_565 (by decide) (fun c92 => ?_) (fun c92 => ?_)
        · replace h := h.1 c92
          refine j_sub [0, 1, 2, 3] rfl ?_
          exact hj9 M90 h
        · replace h := h.2 c92
          refine j_iconst (v := (0 : Int32)) X (by decide) dL_law_568 ?_
          exact h.elim
      · replace h := h.2.2.2.2.2.2.2.2.2.2.2.2.1 c11
        refine j_aload_n X 1 dL_law_570 rfl rfl ?_
        refine jc_RL_66 X ⟨Nat.le_of_ble_eq_true rfl, Nat.le_of_ble_eq_true rfl⟩ (Nat.le_of_ble_eq_true rfl) dL_law_571 h (fun r94 M93 h => ?_)
        refine j_aload_n X 2 dL_law_574 rfl rfl ?_
        refine jc_RL_69 X ⟨Nat.le_of_ble_eq_true rfl, Nat.le_of_ble_eq_true rfl⟩ (Nat.le_of_ble_eq_true rfl) dL_law_575 h (fun r96 M95 h => ?_)
        refine j_icmp_eq X 1281 dL_law_578 (by decide) (fun c97 => ?_) (fun c97 => ?_)
        · replace h := h.1 c97
          refine j_sub [0, 1, 2, 3] rfl ?_
          exact hj9 M95 h
        · replace h := h.2 c97
          refine j_iconst (v := (0 : Int32)) X (by decide) dL_law_581 ?_
          exact h.elim
      · replace h := h.2.2.2.2.2.2.2.2.2.2.2.2.2.1 c11
        refine j_aload_n X 1 dL_law_583 rfl rfl ?_
        refine j_aload_n X 0 dL_law_584 rfl rfl ?_
        refine j_iload_n X 3 dL_law_585 rfl rfl ?_
        refine j_iconst (v := (1 : Int32)) X (by decide) dL_law_586 ?_
        refine j_iadd X dL_law_587 ?_
        have q98 := h.1
        replace h := h.2
        refine j_sld X hX q98 dL_law_588 ?_
        refine jc_RL_70 X ⟨Nat.le_of_ble_eq_true rfl, Nat.le_of_ble_eq_true rfl⟩ (Nat.le_of_ble_eq_true rfl) dL_law_589 h (fun r100 M99 h => ?_)
        refine j_aload_n X 2 dL_law_592 rfl rfl ?_
        refine j_aload_n X 0 dL_law_593 rfl rfl ?_
        refine j_iload_n X 3 dL_law_594 rfl rfl ?_
        refine j_iconst (v := (1 : Int32)) X (by decide) dL_law_595 ?_
        refine j_iadd X dL_law_596 ?_
        refine j_sld X hX q98 dL_law_597 ?_
        refine jc_RL_73 X ⟨Nat.le_of_ble_eq_true rfl, Nat.le_of_ble_eq_true rfl⟩ (Nat.le_of_ble_eq_true rfl) dL_law_598 h (fun r102 M101 h => ?_)
        refine j_icmp_eq X 1281 dL_law_601 (by decide) (fun c103 => ?_) (fun c103 => ?_)
        · replace h := h.1 c103
          refine j_sub [0, 1, 2, 3] rfl ?_
          exact hj9 M101 h
        · replace h := h.2 c103
          refine j_iconst (v := (0 : Int32)) X (by decide) dL_law_604 ?_
          exact h.elim
      · replace h := h.2.2.2.2.2.2.2.2.2.2.2.2.2.2.1 c11
        refine j_aload_n X 1 dL_law_606 rfl rfl ?_
        refine j_aload_n X 0 dL_law_607 rfl rfl ?_
        refine j_iload_n X 3 dL_law_608 rfl rfl ?_
        refine j_iconst (v := (1 : Int32)) X (by decide) dL_law_609 ?_
        refine j_iadd X dL_law_610 ?_
        have q104 := h.1
        replace h := h.2
        refine j_sld X hX q104 dL_law_611 ?_
        refine j_aload_n X 0 dL_law_612 rfl rfl ?_
        refine j_iload_n X 3 dL_law_613 rfl rfl ?_
        refine j_iconst (v := (2 : Int32)) X (by decide) dL_law_614 ?_
        refine j_iadd X dL_law_615 ?_
        have q105 := h.1
        replace h := h.2
        refine j_sld X hX q105 dL_law_616 ?_
        refine jc_RL_74 X ⟨Nat.le_of_ble_eq_true rfl, Nat.le_of_ble_eq_true rfl⟩ (Nat.le_of_ble_eq_true rfl) dL_law_617 h (fun r107 M106 h => ?_)
        refine j_aload_n X 2 dL_law_620 rfl rfl ?_
        refine j_aload_n X 0 dL_law_621 rfl rfl ?_
        refine j_iload_n X 3 dL_law_622 rfl rfl ?_
        refine j_iconst (v := (1 : Int32)) X (by decide) dL_law_623 ?_
        refine j_iadd X dL_law_624 ?_
        refine j_sld X hX q104 dL_law_625 ?_
        refine j_aload_n X 0 dL_law_626 rfl rfl ?_
        refine j_iload_n X 3 dL_law_627 rfl rfl ?_
        refine j_iconst (v := (2 : Int32)) X (by decide) dL_law_628 ?_
        refine j_iadd X dL_law_629 ?_
        refine j_sld X hX q105 dL_law_630 ?_
        refine jc_RL_77 X ⟨Nat.le_of_ble_eq_true rfl, Nat.le_of_ble_eq_true rfl⟩ (Nat.le_of_ble_eq_true rfl) dL_law_631 h (fun r109 M108 h => ?_)
        refine j_icmp_eq X 1281 dL_law_634 (by decide) (fun c110 => ?_) (fun c110 => ?_)
        · replace h := h.1 c110
          refine j_sub [0, 1, 2, 3] rfl ?_
          exact hj9 M108 h
        · replace h := h.2 c110
          refine j_iconst (v := (0 : Int32)) X (by decide) dL_law_637 ?_
          exact h.elim
      · replace h := h.2.2.2.2.2.2.2.2.2.2.2.2.2.2.2.1 c11
        refine j_aload_n X 1 dL_law_639 rfl rfl ?_
        refine j_aload_n X 0 dL_law_640 rfl rfl ?_
        refine j_iload_n X 3 dL_law_641 rfl rfl ?_
        refine j_iconst (v := (1 : Int32)) X (by decide) dL_law_642 ?_
        refine j_iadd X dL_law_643 ?_
        have q111 := h.1
        replace h := h.2
        refine j_sld X hX q111 dL_law_644 ?_
        refine j_aload_n X 0 dL_law_645 rfl rfl ?_
        refine j_iload_n X 3 dL_law_646 rfl rfl ?_
        refine j_iconst (v := (2 : Int32)) X (by decide) dL_law_647 ?_
        refine j_iadd X dL_law_648 ?_
        have q112 := h.1
        replace h := h.2
        refine j_sld X hX q112 dL_law_649 ?_
        refine jc_RL_78 X ⟨Nat.le_of_ble_eq_true rfl, Nat.le_of_ble_eq_true rfl⟩ (Nat.le_of_ble_eq_true rfl) dL_law_650 h (fun r114 M113 h => ?_)
        refine j_aload_n X 2 dL_law_653 rfl rfl ?_
        refine j_aload_n X 0 dL_law_654 rfl rfl ?_
        refine j_iload_n X 3 dL_law_655 rfl rfl ?_
        refine j_iconst (v := (1 : Int32)) X (by decide) dL_law_656 ?_
        refine j_iadd X dL_law_657 ?_
        refine j_sld X hX q111 dL_law_658 ?_
        refine j_aload_n X 0 dL_law_659 rfl rfl ?_
        refine j_iload_n X 3 dL_law_660 rfl rfl ?_
        refine j_iconst (v := (2 : Int32)) X (by decide) dL_law_661 ?_
        refine j_iadd X dL_law_662 ?_
        refine j_sld X hX q112 dL_law_663 ?_
        refine jc_RL_81 X ⟨Nat.le_of_ble_eq_true rfl, Nat.le_of_ble_eq_true rfl⟩ (Nat.le_of_ble_eq_true rfl) dL_law_664 h (fun r116 M115 h => ?_)
        refine j_icmp_eq X 1281 dL_law_667 (by decide) (fun c117 => ?_) (fun c117 => ?_)
        · replace h := h.1 c117
          refine j_sub [0, 1, 2, 3] rfl ?_
          exact hj9 M115 h
        · replace h := h.2 c117
          refine j_iconst (v := (0 : Int32)) X (by decide) dL_law_670 ?_
          exact h.elim
      · replace h := h.2.2.2.2.2.2.2.2.2.2.2.2.2.2.2.2.1 c11
        refine j_aload_n X 1 dL_law_672 rfl rfl ?_
        refine j_aload_n X 0 dL_law_673 rfl rfl ?_
        refine j_iload_n X 3 dL_law_674 rfl rfl ?_
        refine j_iconst (v := (1 : Int32)) X (by decide) dL_law_675 ?_
        refine j_iadd X dL_law_676 ?_
        have q118 := h.1
        replace h := h.2
        refine j_sld X hX q118 dL_law_677 ?_
        refine jc_RL_82 X ⟨Nat.le_of_ble_eq_true rfl, Nat.le_of_ble_eq_true rfl⟩ (Nat.le_of_ble_eq_true rfl) dL_law_678 h (fun r120 M119 h => ?_)
        refine j_aload_n X 2 dL_law_681 rfl rfl ?_
        refine j_aload_n X 0 dL_law_682 rfl rfl ?_
        refine j_iload_n X 3 dL_law_683 rfl rfl ?_
        refine j_iconst (v := (1 : Int32)) X (by decide) dL_law_684 ?_
        refine j_iadd X dL_law_685 ?_
        refine j_sld X hX q118 dL_law_686 ?_
        refine jc_RL_85 X ⟨Nat.le_of_ble_eq_true rfl, Nat.le_of_ble_eq_true rfl⟩ (Nat.le_of_ble_eq_true rfl) dL_law_687 h (fun r122 M121 h => ?_)
        refine j_icmp_eq X 1281 dL_law_690 (by decide) (fun c123 => ?_) (fun c123 => ?_)
        · replace h := h.1 c123
          refine j_sub [0, 1, 2, 3] rfl ?_
          exact hj9 M121 h
        · replace h := h.2 c123
          refine j_iconst (v := (0 : Int32)) X (by decide) dL_law_693 ?_
          exact h.elim
      · replace h := h.2.2.2.2.2.2.2.2.2.2.2.2.2.2.2.2.2.1 c11
        refine j_aload_n X 1 dL_law_695 rfl rfl ?_
        refine j_aload_n X 0 dL_law_696 rfl rfl ?_
        refine j_iload_n X 3 dL_law_697 rfl rfl ?_
        refine j_iconst (v := (1 : Int32)) X (by decide) dL_law_698 ?_
        refine j_iadd X dL_law_699 ?_
        have q124 := h.1
        replace h := h.2
        refine j_sld X hX q124 dL_law_700 ?_
        refine j_aload_n X 0 dL_law_701 rfl rfl ?_
        refine j_iload_n X 3 dL_law_702 rfl rfl ?_
        refine j_iconst (v := (2 : Int32)) X (by decide) dL_law_703 ?_
        refine j_iadd X dL_law_704 ?_
        have q125 := h.1
        replace h := h.2
        refine j_sld X hX q125 dL_law_705 ?_
        refine jc_RL_86 X ⟨Nat.le_of_ble_eq_true rfl, Nat.le_of_ble_eq_true rfl⟩ (Nat.le_of_ble_eq_true rfl) dL_law_706 h (fun r127 M126 h => ?_)
        refine j_aload_n X 2 dL_law_709 rfl rfl ?_
        refine j_aload_n X 0 dL_law_710 rfl rfl ?_
        refine j_iload_n X 3 dL_law_711 rfl rfl ?_
        refine j_iconst (v := (1 : Int32)) X (by decide) dL_law_712 ?_
        refine j_iadd X dL_law_713 ?_
        refine j_sld X hX q124 dL_law_714 ?_
        refine j_aload_n X 0 dL_law_715 rfl rfl ?_
        refine j_iload_n X 3 dL_law_716 rfl rfl ?_
        refine j_iconst (v := (2 : Int32)) X (by decide) dL_law_717 ?_
        refine j_iadd X dL_law_718 ?_
        refine j_sld X hX q125 dL_law_719 ?_
        refine jc_RL_89 X ⟨Nat.le_of_ble_eq_true rfl, Nat.le_of_ble_eq_true rfl⟩ (Nat.le_of_ble_eq_true rfl) dL_law_720 h (fun r129 M128 h => ?_)
        refine j_icmp_eq X 1281 dL_law_723 (by decide) (fun c130 => ?_) (fun c130 => ?_)
        · replace h := h.1 c130
          refine j_sub [0, 1, 2, 3] rfl ?_
          exact hj9 M128 h
        · replace h := h.2 c130
          refine j_iconst (v := (0 : Int32)) X (by decide) dL_law_726 ?_
          exact h.elim
      · replace h := h.2.2.2.2.2.2.2.2.2.2.2.2.2.2.2.2.2.2.1 c11
        refine j_aload_n X 1 dL_law_728 rfl rfl ?_
        refine j_aload_n X 0 dL_law_729 rfl rfl ?_
        refine j_iload_n X 3 dL_law_730 rfl rfl ?_
        refine j_iconst (v := (1 : Int32)) X (by decide) dL_law_731 ?_
        refine j_iadd X dL_law_732 ?_
        have q131 := h.1
        replace h := h.2
        refine j_sld X hX q131 dL_law_733 ?_
        refine jc_RL_90 X ⟨Nat.le_of_ble_eq_true rfl, Nat.le_of_ble_eq_true rfl⟩ (Nat.le_of_ble_eq_true rfl) dL_law_734 h (fun r133 M132 h => ?_)
        refine j_aload_n X 2 dL_law_737 rfl rfl ?_
        refine j_aload_n X 0 dL_law_738 rfl rfl ?_
        refine j_iload_n X 3 dL_law_739 rfl rfl ?_
        refine j_iconst (v := (1 : Int32)) X (by decide) dL_law_740 ?_
        refine j_iadd X dL_law_741 ?_
        refine j_sld X hX q131 dL_law_742 ?_
        refine jc_RL_93 X ⟨Nat.le_of_ble_eq_true rfl, Nat.le_of_ble_eq_true rfl⟩ (Nat.le_of_ble_eq_true rfl) dL_law_743 h (fun r135 M134 h => ?_)
        refine j_icmp_eq X 1281 dL_law_746 (by decide) (fun c136 => ?_) (fun c136 => ?_)
        · replace h := h.1 c136
          refine j_sub [0, 1, 2, 3] rfl ?_
          exact hj9 M134 h
        · replace h := h.2 c136
          refine j_iconst (v := (0 : Int32)) X (by decide) dL_law_749 ?_
          exact h.elim
      · replace h := h.2.2.2.2.2.2.2.2.2.2.2.2.2.2.2.2.2.2.2.1 c11
        refine j_aload_n X 1 dL_law_751 rfl rfl ?_
        refine j_aload_n X 0 dL_law_752 rfl rfl ?_
        refine j_iload_n X 3 dL_law_753 rfl rfl ?_
        refine j_iconst (v := (1 : Int32)) X (by decide) dL_law_754 ?_
        refine j_iadd X dL_law_755 ?_
        have q137 := h.1
        replace h := h.2
        refine j_sld X hX q137 dL_law_756 ?_
        refine j_aload_n X 0 dL_law_757 rfl rfl ?_
        refine j_iload_n X 3 dL_law_758 rfl rfl ?_
        refine j_iconst (v := (2 : Int32)) X (by decide) dL_law_759 ?_
        refine j_iadd X dL_law_760 ?_
        have q138 := h.1
        replace h := h.2
        refine j_sld X hX q138 dL_law_761 ?_
        refine jc_RL_94 X ⟨Nat.le_of_ble_eq_true rfl, Nat.le_of_ble_eq_true rfl⟩ (Nat.le_of_ble_eq_true rfl) dL_law_762 h (fun r140 M139 h => ?_)
        refine j_aload_n X 2 dL_law_765 rfl rfl ?_
        refine j_aload_n X 0 dL_law_766 rfl rfl ?_
        refine j_iload_n X 3 dL_law_767 rfl rfl ?_
        refine j_iconst (v := (1 : Int32)) X (by decide) dL_law_768 ?_
        refine j_iadd X dL_law_769 ?_
        refine j_sld X hX q137 dL_law_770 ?_
        refine j_aload_n X 0 dL_law_771 rfl rfl ?_
        refine j_iload_n X 3 dL_law_772 rfl rfl ?_
        refine j_iconst (v := (2 : Int32)) X (by decide) dL_law_773 ?_
        refine j_iadd X dL_law_774 ?_
        refine j_sld X hX q138 dL_law_775 ?_
        refine jc_RL_97 X ⟨Nat.le_of_ble_eq_true rfl, Nat.le_of_ble_eq_true rfl⟩ (Nat.le_of_ble_eq_true rfl) dL_law_776 h (fun r142 M141 h => ?_)
        refine j_icmp_eq X 1281 dL_law_779 (by decide) (fun c143 => ?_) (fun c143 => ?_)
        · replace h := h.1 c143
          refine j_sub [0, 1, 2, 3] rfl ?_
          exact hj9 M141 h
        · replace h := h.2 c143
          refine j_iconst (v := (0 : Int32)) X (by decide) dL_law_782 ?_
          exact h.elim
      · replace h := h.2.2.2.2.2.2.2.2.2.2.2.2.2.2.2.2.2.2.2.2.1 c11
        refine j_aload_n X 1 dL_law_784 rfl rfl ?_
        refine j_aload_n X 0 dL_law_785 rfl rfl ?_
        refine j_iload_n X 3 dL_law_786 rfl rfl ?_
        refine j_iconst (v := (1 : Int32)) X (by decide) dL_law_787 ?_
        refine j_iadd X dL_law_788 ?_
        have q144 := h.1
        replace h := h.2
        refine j_sld X hX q144 dL_law_789 ?_
        refine j_aload_n X 0 dL_law_790 rfl rfl ?_
        refine j_iload_n X 3 dL_law_791 rfl rfl ?_
        refine j_iconst (v := (2 : Int32)) X (by decide) dL_law_792 ?_
        refine j_iadd X dL_law_793 ?_
        have q145 := h.1
        replace h := h.2
        refine j_sld X hX q145 dL_law_794 ?_
        refine jc_RL_98 X ⟨Nat.le_of_ble_eq_true rfl, Nat.le_of_ble_eq_true rfl⟩ (Nat.le_of_ble_eq_true rfl) dL_law_795 h (fun r147 M146 h => ?_)
        refine j_aload_n X 2 dL_law_798 rfl rfl ?_
        refine j_aload_n X 0 dL_law_799 rfl rfl ?_
        refine j_iload_n X 3 dL_law_800 rfl rfl ?_
        refine j_iconst (v := (1 : Int32)) X (by decide) dL_law_801 ?_
        refine j_iadd X dL_law_802 ?_
        refine j_sld X hX q144 dL_law_803 ?_
        refine j_aload_n X 0 dL_law_804 rfl rfl ?_
        refine j_iload_n X 3 dL_law_805 rfl rfl ?_
        refine j_iconst (v := (2 : Int32)) X (by decide) dL_law_806 ?_
        refine j_iadd X dL_law_807 ?_
        refine j_sld X hX q145 dL_law_808 ?_
        refine jc_RL_101 X ⟨Nat.le_of_ble_eq_true rfl, Nat.le_of_ble_eq_true rfl⟩ (Nat.le_of_ble_eq_true rfl) dL_law_809 h (fun r149 M148 h => ?_)
        refine j_icmp_eq X 1281 dL_law_812 (by decide) (fun c150 => ?_) (fun c150 => ?_)
        · replace h := h.1 c150
          refine j_sub [0, 1, 2, 3] rfl ?_
          exact hj9 M148 h
        · replace h := h.2 c150
          refine j_iconst (v := (0 : Int32)) X (by decide) dL_law_815 ?_
          exact h.elim
      · replace h := h.2.2.2.2.2.2.2.2.2.2.2.2.2.2.2.2.2.2.2.2.2.1 c11
        refine j_aload_n X 1 dL_law_817 rfl rfl ?_
        refine j_aload_n X 0 dL_law_818 rfl rfl ?_
        refine j_iload_n X 3 dL_law_819 rfl rfl ?_
        refine j_iconst (v := (1 : Int32)) X (by decide) dL_law_820 ?_
        refine j_iadd X dL_law_821 ?_
        have q151 := h.1
        replace h := h.2
        refine j_sld X hX q151 dL_law_822 ?_
        refine j_aload_n X 0 dL_law_823 rfl rfl ?_
        refine j_iload_n X 3 dL_law_824 rfl rfl ?_
        refine j_iconst (v := (2 : Int32)) X (by decide) dL_law_825 ?_
        refine j_iadd X dL_law_826 ?_
        have q152 := h.1
        replace h := h.2
        refine j_sld X hX q152 dL_law_827 ?_
        refine jc_RL_102 X ⟨Nat.le_of_ble_eq_true rfl, Nat.le_of_ble_eq_true rfl⟩ (Nat.le_of_ble_eq_true rfl) dL_law_828 h (fun r154 M153 h => ?_)
        refine j_aload_n X 2 dL_law_831 rfl rfl ?_
        refine j_aload_n X 0 dL_law_832 rfl rfl ?_
        refine j_iload_n X 3 dL_law_833 rfl rfl ?_
        refine j_iconst (v := (1 : Int32)) X (by decide) dL_law_834 ?_
        refine j_iadd X dL_law_835 ?_
        refine j_sld X hX q151 dL_law_836 ?_
        refine j_aload_n X 0 dL_law_837 rfl rfl ?_
        refine j_iload_n X 3 dL_law_838 rfl rfl ?_
        refine j_iconst (v := (2 : Int32)) X (by decide) dL_law_839 ?_
        refine j_iadd X dL_law_840 ?_
        refine j_sld X hX q152 dL_law_841 ?_
        refine jc_RL_105 X ⟨Nat.le_of_ble_eq_true rfl, Nat.le_of_ble_eq_true rfl⟩ (Nat.le_of_ble_eq_true rfl) dL_law_842 h (fun r156 M155 h => ?_)
        refine j_icmp_eq X 1281 dL_law_845 (by decide) (fun c157 => ?_) (fun c157 => ?_)
        · replace h := h.1 c157
          refine j_sub [0, 1, 2, 3] rfl ?_
          exact hj9 M155 h
        · replace h := h.2 c157
          refine j_iconst (v := (0 : Int32)) X (by decide) dL_law_848 ?_
          exact h.elim
      · replace h := h.2.2.2.2.2.2.2.2.2.2.2.2.2.2.2.2.2.2.2.2.2.2.1 c11
        refine j_aload_n X 1 dL_law_850 rfl rfl ?_
        refine j_aload_n X 0 dL_law_851 rfl rfl ?_
        refine j_iload_n X 3 dL_law_852 rfl rfl ?_
        refine j_iconst (v := (1 : Int32)) X (by decide) dL_law_853 ?_
        refine j_iadd X dL_law_854 ?_
        have q158 := h.1
        replace h := h.2
        refine j_sld X hX q158 dL_law_855 ?_
        refine j_aload_n X 0 dL_law_856 rfl rfl ?_
        refine j_iload_n X 3 dL_law_857 rfl rfl ?_
        refine j_iconst (v := (2 : Int32)) X (by decide) dL_law_858 ?_
        refine j_iadd X dL_law_859 ?_
        have q159 := h.1
        replace h := h.2
        refine j_sld X hX q159 dL_law_860 ?_
        refine jc_RL_106 X ⟨Nat.le_of_ble_eq_true rfl, Nat.le_of_ble_eq_true rfl⟩ (Nat.le_of_ble_eq_true rfl) dL_law_861 h (fun r161 M160 h => ?_)
        refine j_aload_n X 2 dL_law_864 rfl rfl ?_
        refine j_aload_n X 0 dL_law_865 rfl rfl ?_
        refine j_iload_n X 3 dL_law_866 rfl rfl ?_
        refine j_iconst (v := (1 : Int32)) X (by decide) dL_law_867 ?_
        refine j_iadd X dL_law_868 ?_
        refine j_sld X hX q158 dL_law_869 ?_
        refine j_aload_n X 0 dL_law_870 rfl rfl ?_
        refine j_iload_n X 3 dL_law_871 rfl rfl ?_
        refine j_iconst (v := (2 : Int32)) X (by decide) dL_law_872 ?_
        refine j_iadd X dL_law_873 ?_
        refine j_sld X hX q159 dL_law_874 ?_
        refine jc_RL_109 X ⟨Nat.le_of_ble_eq_true rfl, Nat.le_of_ble_eq_true rfl⟩ (Nat.le_of_ble_eq_true rfl) dL_law_875 h (fun r163 M162 h => ?_)
        refine j_icmp_eq X 1281 dL_law_878 (by decide) (fun c164 => ?_) (fun c164 => ?_)
        · replace h := h.1 c164
          refine j_sub [0, 1, 2, 3] rfl ?_
          exact hj9 M162 h
        · replace h := h.2 c164
          refine j_iconst (v := (0 : Int32)) X (by decide) dL_law_881 ?_
          exact h.elim
      · replace h := h.2.2.2.2.2.2.2.2.2.2.2.2.2.2.2.2.2.2.2.2.2.2.2.1 c11
        refine j_aload_n X 1 dL_law_883 rfl rfl ?_
        refine j_aload_n X 0 dL_law_884 rfl rfl ?_
        refine j_iload_n X 3 dL_law_885 rfl rfl ?_
        refine j_iconst (v := (1 : Int32)) X (by decide) dL_law_886 ?_
        refine j_iadd X dL_law_887 ?_
        have q165 := h.1
        replace h := h.2
        refine j_sld X hX q165 dL_law_888 ?_
        refine j_aload_n X 0 dL_law_889 rfl rfl ?_
        refine j_iload_n X 3 dL_law_890 rfl rfl ?_
        refine j_iconst (v := (2 : Int32)) X (by decide) dL_law_891 ?_
        refine j_iadd X dL_law_892 ?_
        have q166 := h.1
        replace h := h.2
        refine j_sld X hX q166 dL_law_893 ?_
        refine jc_RL_110 X ⟨Nat.le_of_ble_eq_true rfl, Nat.le_of_ble_eq_true rfl⟩ (Nat.le_of_ble_eq_true rfl) dL_law_894 h (fun r168 M167 h => ?_)
        refine j_aload_n X 2 dL_law_897 rfl rfl ?_
        refine j_aload_n X 0 dL_law_898 rfl rfl ?_
        refine j_iload_n X 3 dL_law_899 rfl rfl ?_
        refine j_iconst (v := (1 : Int32)) X (by decide) dL_law_900 ?_
        refine j_iadd X dL_law_901 ?_
        refine j_sld X hX q165 dL_law_902 ?_
        refine j_aload_n X 0 dL_law_903 rfl rfl ?_
        refine j_iload_n X 3 dL_law_904 rfl rfl ?_
        refine j_iconst (v := (2 : Int32)) X (by decide) dL_law_905 ?_
        refine j_iadd X dL_law_906 ?_
        refine j_sld X hX q166 dL_law_907 ?_
        refine jc_RL_113 X ⟨Nat.le_of_ble_eq_true rfl, Nat.le_of_ble_eq_true rfl⟩ (Nat.le_of_ble_eq_true rfl) dL_law_908 h (fun r170 M169 h => ?_)
        refine j_icmp_eq X 1281 dL_law_911 (by decide) (fun c171 => ?_) (fun c171 => ?_)
        · replace h := h.1 c171
          refine j_sub [0, 1, 2, 3] rfl ?_
          exact hj9 M169 h
        · replace h := h.2 c171
          refine j_iconst (v := (0 : Int32)) X (by decide) dL_law_914 ?_
          exact h.elim
      · replace h := h.2.2.2.2.2.2.2.2.2.2.2.2.2.2.2.2.2.2.2.2.2.2.2.2.1 c11
        refine j_aload_n X 1 dL_law_916 rfl rfl ?_
        refine j_aload_n X 0 dL_law_917 rfl rfl ?_
        refine j_iload_n X 3 dL_law_918 rfl rfl ?_
        refine j_iconst (v := (1 : Int32)) X (by decide) dL_law_919 ?_
        refine j_iadd X dL_law_920 ?_
        have q172 := h.1
        replace h := h.2
        refine j_sld X hX q172 dL_law_921 ?_
        refine j_aload_n X 0 dL_law_922 rfl rfl ?_
        refine j_iload_n X 3 dL_law_923 rfl rfl ?_
        refine j_iconst (v := (2 : Int32)) X (by decide) dL_law_924 ?_
        refine j_iadd X dL_law_925 ?_
        have q173 := h.1
        replace h := h.2
        refine j_sld X hX q173 dL_law_926 ?_
        refine jc_RL_114 X ⟨Nat.le_of_ble_eq_true rfl, Nat.le_of_ble_eq_true rfl⟩ (Nat.le_of_ble_eq_true rfl) dL_law_927 h (fun r175 M174 h => ?_)
        refine j_aload_n X 2 dL_law_930 rfl rfl ?_
        refine j_aload_n X 0 dL_law_931 rfl rfl ?_
        refine j_iload_n X 3 dL_law_932 rfl rfl ?_
        refine j_iconst (v := (1 : Int32)) X (by decide) dL_law_933 ?_
        refine j_iadd X dL_law_934 ?_
        refine j_sld X hX q172 dL_law_935 ?_
        refine j_aload_n X 0 dL_law_936 rfl rfl ?_
        refine j_iload_n X 3 dL_law_937 rfl rfl ?_
        refine j_iconst (v := (2 : Int32)) X (by decide) dL_law_938 ?_
        refine j_iadd X dL_law_939 ?_
        refine j_sld X hX q173 dL_law_940 ?_
        refine jc_RL_117 X ⟨Nat.le_of_ble_eq_true rfl, Nat.le_of_ble_eq_true rfl⟩ (Nat.le_of_ble_eq_true rfl) dL_law_941 h (fun r177 M176 h => ?_)
        refine j_icmp_eq X 1281 dL_law_944 (by decide) (fun c178 => ?_) (fun c178 => ?_)
        · replace h := h.1 c178
          refine j_sub [0, 1, 2, 3] rfl ?_
          exact hj9 M176 h
        · replace h := h.2 c178
          refine j_iconst (v := (0 : Int32)) X (by decide) dL_law_947 ?_
          exact h.elim
      · replace h := h.2.2.2.2.2.2.2.2.2.2.2.2.2.2.2.2.2.2.2.2.2.2.2.2.2.1 c11
        refine j_aload_n X 1 dL_law_949 rfl rfl ?_
        refine j_aload_n X 0 dL_law_950 rfl rfl ?_
        refine j_iload_n X 3 dL_law_951 rfl rfl ?_
        refine j_iconst (v := (1 : Int32)) X (by decide) dL_law_952 ?_
        refine j_iadd X dL_law_953 ?_
        have q179 := h.1
        replace h := h.2
        refine j_sld X hX q179 dL_law_954 ?_
        refine j_aload_n X 0 dL_law_955 rfl rfl ?_
        refine j_iload_n X 3 dL_law_956 rfl rfl ?_
        refine j_iconst (v := (2 : Int32)) X (by decide) dL_law_957 ?_
        refine j_iadd X dL_law_958 ?_
        have q180 := h.1
        replace h := h.2
        refine j_sld X hX q180 dL_law_959 ?_
        refine jc_RL_118 X ⟨Nat.le_of_ble_eq_true rfl, Nat.le_of_ble_eq_true rfl⟩ (Nat.le_of_ble_eq_true rfl) dL_law_960 h (fun r182 M181 h => ?_)
        refine j_aload_n X 2 dL_law_963 rfl rfl ?_
        refine j_aload_n X 0 dL_law_964 rfl rfl ?_
        refine j_iload_n X 3 dL_law_965 rfl rfl ?_
        refine j_iconst (v := (1 : Int32)) X (by decide) dL_law_966 ?_
        refine j_iadd X dL_law_967 ?_
        refine j_sld X hX q179 dL_law_968 ?_
        refine j_aload_n X 0 dL_law_969 rfl rfl ?_
        refine j_iload_n X 3 dL_law_970 rfl rfl ?_
        refine j_iconst (v := (2 : Int32)) X (by decide) dL_law_971 ?_
        refine j_iadd X dL_law_972 ?_
        refine j_sld X hX q180 dL_law_973 ?_
        refine jc_RL_121 X ⟨Nat.le_of_ble_eq_true rfl, Nat.le_of_ble_eq_true rfl⟩ (Nat.le_of_ble_eq_true rfl) dL_law_974 h (fun r184 M183 h => ?_)
        refine j_icmp_eq X 1281 dL_law_977 (by decide) (fun c185 => ?_) (fun c185 => ?_)
        · replace h := h.1 c185
          refine j_sub [0, 1, 2, 3] rfl ?_
          exact hj9 M183 h
        · replace h := h.2 c185
          refine j_iconst (v := (0 : Int32)) X (by decide) dL_law_980 ?_
          exact h.elim
      · replace h := h.2.2.2.2.2.2.2.2.2.2.2.2.2.2.2.2.2.2.2.2.2.2.2.2.2.2.1 c11
        refine j_aload_n X 1 dL_law_982 rfl rfl ?_
        refine j_aload_n X 0 dL_law_983 rfl rfl ?_
        refine j_iload_n X 3 dL_law_984 rfl rfl ?_
        refine j_iconst (v := (1 : Int32)) X (by decide) dL_law_985 ?_
        refine j_iadd X dL_law_986 ?_
        have q186 := h.1
        replace h := h.2
        refine j_sld X hX q186 dL_law_987 ?_
        refine jc_RL_122 X ⟨Nat.le_of_ble_eq_true rfl, Nat.le_of_ble_eq_true rfl⟩ (Nat.le_of_ble_eq_true rfl) dL_law_988 h (fun r188 M187 h => ?_)
        refine j_aload_n X 2 dL_law_991 rfl rfl ?_
        refine j_aload_n X 0 dL_law_992 rfl rfl ?_
        refine j_iload_n X 3 dL_law_993 rfl rfl ?_
        refine j_iconst (v := (1 : Int32)) X (by decide) dL_law_994 ?_
        refine j_iadd X dL_law_995 ?_
        refine j_sld X hX q186 dL_law_996 ?_
        refine jc_RL_125 X ⟨Nat.le_of_ble_eq_true rfl, Nat.le_of_ble_eq_true rfl⟩ (Nat.le_of_ble_eq_true rfl) dL_law_997 h (fun r190 M189 h => ?_)
        refine j_icmp_eq X 1281 dL_law_1000 (by decide) (fun c191 => ?_) (fun c191 => ?_)
        · replace h := h.1 c191
          refine j_sub [0, 1, 2, 3] rfl ?_
          exact hj9 M189 h
        · replace h := h.2 c191
          refine j_iconst (v := (0 : Int32)) X (by decide) dL_law_1003 ?_
          exact h.elim
      · replace h := h.2.2.2.2.2.2.2.2.2.2.2.2.2.2.2.2.2.2.2.2.2.2.2.2.2.2.2.1 c11
        refine j_aload_n X 1 dL_law_1005 rfl rfl ?_
        refine jc_RL_126 X ⟨Nat.le_of_ble_eq_true rfl, Nat.le_of_ble_eq_true rfl⟩ (Nat.le_of_ble_eq_true rfl) dL_law_1006 h (fun r193 M192 h => ?_)
        refine j_aload_n X 2 dL_law_1009 rfl rfl ?_
        refine jc_RL_129 X ⟨Nat.le_of_ble_eq_true rfl, Nat.le_of_ble_eq_true rfl⟩ (Nat.le_of_ble_eq_true rfl) dL_law_1010 h (fun r195 M194 h => ?_)
        refine j_icmp_eq X 1281 dL_law_1013 (by decide) (fun c196 => ?_) (fun c196 => ?_)
        · replace h := h.1 c196
          refine j_sub [0, 1, 2, 3] rfl ?_
          exact hj9 M194 h
        · replace h := h.2 c196
          refine j_iconst (v := (0 : Int32)) X (by decide) dL_law_1016 ?_
          exact h.elim
      · replace h := h.2.2.2.2.2.2.2.2.2.2.2.2.2.2.2.2.2.2.2.2.2.2.2.2.2.2.2.2.1 c11
        refine j_aload_n X 1 dL_law_1018 rfl rfl ?_
        refine j_aload_n X 0 dL_law_1019 rfl rfl ?_
        refine j_iload_n X 3 dL_law_1020 rfl rfl ?_
        refine j_iconst (v := (1 : Int32)) X (by decide) dL_law_1021 ?_
        refine j_iadd X dL_law_1022 ?_
        have q197 := h.1
        replace h := h.2
        refine j_sld X hX q197 dL_law_1023 ?_
        refine jc_RL_130 X ⟨Nat.le_of_ble_eq_true rfl, Nat.le_of_ble_eq_true rfl⟩ (Nat.le_of_ble_eq_true rfl) dL_law_1024 h (fun r199 M198 h => ?_)
        refine j_aload_n X 2 dL_law_1027 rfl rfl ?_
        refine j_aload_n X 0 dL_law_1028 rfl rfl ?_
        refine j_iload_n X 3 dL_law_1029 rfl rfl ?_
        refine j_iconst (v := (1 : Int32)) X (by decide) dL_law_1030 ?_
        refine j_iadd X dL_law_1031 ?_
        refine j_sld X hX q197 dL_law_1032 ?_
        refine jc_RL_133 X ⟨Nat.le_of_ble_eq_true rfl, Nat.le_of_ble_eq_true rfl⟩ (Nat.le_of_ble_eq_true rfl) dL_law_1033 h (fun r201 M200 h => ?_)
        refine j_icmp_eq X 1281 dL_law_1036 (by decide) (fun c202 => ?_) (fun c202 => ?_)
        · replace h := h.1 c202
          refine j_sub [0, 1, 2, 3] rfl ?_
          exact hj9 M200 h
        · replace h := h.2 c202
          refine j_iconst (v := (0 : Int32)) X (by decide) dL_law_1039 ?_
          exact h.elim
      · replace h := h.2.2.2.2.2.2.2.2.2.2.2.2.2.2.2.2.2.2.2.2.2.2.2.2.2.2.2.2.2.1 c11
        refine j_aload_n X 1 dL_law_1041 rfl rfl ?_
        refine jc_RL_134 X ⟨Nat.le_of_ble_eq_true rfl, Nat.le_of_ble_eq_true rfl⟩ (Nat.le_of_ble_eq_true rfl) dL_law_1042 h (fun r204 M203 h => ?_)
        refine j_aload_n X 2 dL_law_1045 rfl rfl ?_
        refine jc_RL_137 X ⟨Nat.le_of_ble_eq_true rfl, Nat.le_of_ble_eq_true rfl⟩ (Nat.le_of_ble_eq_true rfl) dL_law_1046 h (fun r206 M205 h => ?_)
        refine j_icmp_eq X 1281 dL_law_1049 (by decide) (fun c207 => ?_) (fun c207 => ?_)
        · replace h := h.1 c207
          refine j_sub [0, 1, 2, 3] rfl ?_
          exact hj9 M205 h
        · replace h := h.2 c207
          refine j_iconst (v := (0 : Int32)) X (by decide) dL_law_1052 ?_
          exact h.elim
      · replace h := h.2.2.2.2.2.2.2.2.2.2.2.2.2.2.2.2.2.2.2.2.2.2.2.2.2.2.2.2.2.2.1 c11
        refine j_aload_n X 1 dL_law_1054 rfl rfl ?_
        refine jc_RL_138 X ⟨Nat.le_of_ble_eq_true rfl, Nat.le_of_ble_eq_true rfl⟩ (Nat.le_of_ble_eq_true rfl) dL_law_1055 h (fun r209 M208 h => ?_)
        refine j_aload_n X 2 dL_law_1058 rfl rfl ?_
        refine jc_RL_141 X ⟨Nat.le_of_ble_eq_true rfl, Nat.le_of_ble_eq_true rfl⟩ (Nat.le_of_ble_eq_true rfl) dL_law_1059 h (fun r211 M210 h => ?_)
        refine j_icmp_eq X 1281 dL_law_1062 (by decide) (fun c212 => ?_) (fun c212 => ?_)
        · replace h := h.1 c212
          refine j_sub [0, 1, 2, 3] rfl ?_
          exact hj9 M210 h
        · replace h := h.2 c212
          refine j_iconst (v := (0 : Int32)) X (by decide) dL_law_1065 ?_
          exact h.elim
      · replace h := h.2.2.2.2.2.2.2.2.2.2.2.2.2.2.2.2.2.2.2.2.2.2.2.2.2.2.2.2.2.2.2.1 c11
        refine j_aload_n X 1 dL_law_1067 rfl rfl ?_
        refine jc_RL_142 X ⟨Nat.le_of_ble_eq_true rfl, Nat.le_of_ble_eq_true rfl⟩ (Nat.le_of_ble_eq_true rfl) dL_law_1068 h (fun r214 M213 h => ?_)
        refine j_aload_n X 2 dL_law_1071 rfl rfl ?_
        refine jc_RL_145 X ⟨Nat.le_of_ble_eq_true rfl, Nat.le_of_ble_eq_true rfl⟩ (Nat.le_of_ble_eq_true rfl) dL_law_1072 h (fun r216 M215 h => ?_)
        refine j_icmp_eq X 1281 dL_law_1075 (by decide) (fun c217 => ?_) (fun c217 => ?_)
        · replace h := h.1 c217
          refine j_sub [0, 1, 2, 3] rfl ?_
          exact hj9 M215 h
        · replace h := h.2 c217
          refine j_iconst (v := (0 : Int32)) X (by decide) dL_law_1078 ?_
          exact h.elim
      · replace h := h.2.2.2.2.2.2.2.2.2.2.2.2.2.2.2.2.2.2.2.2.2.2.2.2.2.2.2.2.2.2.2.2.1 c11
        refine j_aload_n X 1 dL_law_1080 rfl rfl ?_
        refine j_aload_n X 0 dL_law_1081 rfl rfl ?_
        refine j_iload_n X 3 dL_law_1082 rfl rfl ?_
        refine j_iconst (v := (1 : Int32)) X (by decide) dL_law_1083 ?_
        refine j_iadd X dL_law_1084 ?_
        have q218 := h.1
        replace h := h.2
        refine j_sld X hX q218 dL_law_1085 ?_
        refine j_aload_n X 0 dL_law_1086 rfl rfl ?_
        refine j_iload_n X 3 dL_law_1087 rfl rfl ?_
        refine j_iconst (v := (2 : Int32)) X (by decide) dL_law_1088 ?_
        refine j_iadd X dL_law_1089 ?_
        have q219 := h.1
        replace h := h.2
        refine j_sld X hX q219 dL_law_1090 ?_
        refine jc_RL_146 X ⟨Nat.le_of_ble_eq_true rfl, Nat.le_of_ble_eq_true rfl⟩ (Nat.le_of_ble_eq_true rfl) dL_law_1091 h (fun r221 M220 h => ?_)
        refine j_aload_n X 2 dL_law_1094 rfl rfl ?_
        refine j_aload_n X 0 dL_law_1095 rfl rfl ?_
        refine j_iload_n X 3 dL_law_1096 rfl rfl ?_
        refine j_iconst (v := (1 : Int32)) X (by decide) dL_law_1097 ?_
        refine j_iadd X dL_law_1098 ?_
        refine j_sld X hX q218 dL_law_1099 ?_
        refine j_aload_n X 0 dL_law_1100 rfl rfl ?_
        refine j_iload_n X 3 dL_law_1101 rfl rfl ?_
        refine j_iconst (v := (2 : Int32)) X (by decide) dL_law_1102 ?_
        refine j_iadd X dL_law_1103 ?_
        refine j_sld X hX q219 dL_law_1104 ?_
        refine jc_RL_149 X ⟨Nat.le_of_ble_eq_true rfl, Nat.le_of_ble_eq_true rfl⟩ (Nat.le_of_ble_eq_true rfl) dL_law_1105 h (fun r223 M222 h => ?_)
        refine j_icmp_eq X 1281 dL_law_1108 (by decide) (fun c224 => ?_) (fun c224 => ?_)
        · replace h := h.1 c224
          refine j_sub [0, 1, 2, 3] rfl ?_
          exact hj9 M222 h
        · replace h := h.2 c224
          refine j_iconst (v := (0 : Int32)) X (by decide) dL_law_1111 ?_
          exact h.elim
      · replace h := h.2.2.2.2.2.2.2.2.2.2.2.2.2.2.2.2.2.2.2.2.2.2.2.2.2.2.2.2.2.2.2.2.2.1 c11
        refine j_aload_n X 1 dL_law_1113 rfl rfl ?_
        refine j_aload_n X 0 dL_law_1114 rfl rfl ?_
        refine j_iload_n X 3 dL_law_1115 rfl rfl ?_
        refine j_iconst (v := (1 : Int32)) X (by decide) dL_law_1116 ?_
        refine j_iadd X dL_law_1117 ?_
        have q225 := h.1
        replace h := h.2
        refine j_sld X hX q225 dL_law_1118 ?_
        refine jc_RL_150 X ⟨Nat.le_of_ble_eq_true rfl, Nat.le_of_ble_eq_true rfl⟩ (Nat.le_of_ble_eq_true rfl) dL_law_1119 h (fun r227 M226 h => ?_)
        refine j_aload_n X 2 dL_law_1122 rfl rfl ?_
        refine j_aload_n X 0 dL_law_1123 rfl rfl ?_
        refine j_iload_n X 3 dL_law_1124 rfl rfl ?_
        refine j_iconst (v := (1 : Int32)) X (by decide) dL_law_1125 ?_
        refine j_iadd X dL_law_1126 ?_
        refine j_sld X hX q225 dL_law_1127 ?_
        refine jc_RL_153 X ⟨Nat.le_of_ble_eq_true rfl, Nat.le_of_ble_eq_true rfl⟩ (Nat.le_of_ble_eq_true rfl) dL_law_1128 h (fun r229 M228 h => ?_)
        refine j_icmp_eq X 1281 dL_law_1131 (by decide) (fun c230 => ?_) (fun c230 => ?_)
        · replace h := h.1 c230
          refine j_sub [0, 1, 2, 3] rfl ?_
          exact hj9 M228 h
        · replace h := h.2 c230
          refine j_iconst (v := (0 : Int32)) X (by decide) dL_law_1134 ?_
          exact h.elim
      · replace h := h.2.2.2.2.2.2.2.2.2.2.2.2.2.2.2.2.2.2.2.2.2.2.2.2.2.2.2.2.2.2.2.2.2.2.1 c11
        refine j_aload_n X 1 dL_law_1136 rfl rfl ?_
        refine j_aload_n X 0 dL_law_1137 rfl rfl ?_
        refine j_iload_n X 3 dL_law_1138 rfl rfl ?_
        refine j_iconst (v := (1 : Int32)) X (by decide) dL_law_1139 ?_
        refine j_iadd X dL_law_1140 ?_
        have q231 := h.1
        replace h := h.2
        refine j_sld X hX q231 dL_law_1141 ?_
        refine j_aload_n X 0 dL_law_1142 rfl rfl ?_
        refine j_iload_n X 3 dL_law_1143 rfl rfl ?_
        refine j_iconst (v := (2 : Int32)) X (by decide) dL_law_1144 ?_
        refine j_iadd X dL_law_1145 ?_
        have q232 := h.1
        replace h := h.2
        refine j_sld X hX q232 dL_law_1146 ?_
        refine j_aload_n X 0 dL_law_1147 rfl rfl ?_
        refine j_iload_n X 3 dL_law_1148 rfl rfl ?_
        refine j_iconst (v := (3 : Int32)) X (by decide) dL_law_1149 ?_
        refine j_iadd X dL_law_1150 ?_
        have q233 := h.1
        replace h := h.2
        refine j_sld X hX q233 dL_law_1151 ?_
        refine j_aload_n X 0 dL_law_1152 rfl rfl ?_
        refine j_iload_n X 3 dL_law_1153 rfl rfl ?_
        refine j_iconst (v := (4 : Int32)) X (by decide) dL_law_1154 ?_
        refine j_iadd X dL_law_1155 ?_
        have q234 := h.1
        replace h := h.2
        refine j_sld X hX q234 dL_law_1156 ?_
        refine jc_RL_154 X ⟨Nat.le_of_ble_eq_true rfl, Nat.le_of_ble_eq_true rfl⟩ (Nat.le_of_ble_eq_true rfl) dL_law_1157 h (fun r236 M235 h => ?_)
        refine j_aload_n X 2 dL_law_1160 rfl rfl ?_
        refine j_aload_n X 0 dL_law_1161 rfl rfl ?_
        refine j_iload_n X 3 dL_law_1162 rfl rfl ?_
        refine j_iconst (v := (1 : Int32)) X (by decide) dL_law_1163 ?_
        refine j_iadd X dL_law_1164 ?_
        refine j_sld X hX q231 dL_law_1165 ?_
        refine j_aload_n X 0 dL_law_1166 rfl rfl ?_
        refine j_iload_n X 3 dL_law_1167 rfl rfl ?_
        refine j_iconst (v := (2 : Int32)) X (by decide) dL_law_1168 ?_
        refine j_iadd X dL_law_1169 ?_
        refine j_sld X hX q232 dL_law_1170 ?_
        refine j_aload_n X 0 dL_law_1171 rfl rfl ?_
        refine j_iload_n X 3 dL_law_1172 rfl rfl ?_
        refine j_iconst (v := (3 : Int32)) X (by decide) dL_law_1173 ?_
        refine j_iadd X dL_law_1174 ?_
        refine j_sld X hX q233 dL_law_1175 ?_
        refine j_aload_n X 0 dL_law_1176 rfl rfl ?_
        refine j_iload_n X 3 dL_law_1177 rfl rfl ?_
        refine j_iconst (v := (4 : Int32)) X (by decide) dL_law_1178 ?_
        refine j_iadd X dL_law_1179 ?_
        refine j_sld X hX q234 dL_law_1180 ?_
        refine jc_RL_157 X ⟨Nat.le_of_ble_eq_true rfl, Nat.le_of_ble_eq_true rfl⟩ (Nat.le_of_ble_eq_true rfl) dL_law_1181 h (fun r238 M237 h => ?_)
        refine j_icmp_eq X 1281 dL_law_1184 (by decide) (fun c239 => ?_) (fun c239 => ?_)
        · replace h := h.1 c239
          refine j_sub [0, 1, 2, 3] rfl ?_
          exact hj9 M237 h
        · replace h := h.2 c239
          refine j_iconst (v := (0 : Int32)) X (by decide) dL_law_1187 ?_
          exact h.elim
      · replace h := h.2.2.2.2.2.2.2.2.2.2.2.2.2.2.2.2.2.2.2.2.2.2.2.2.2.2.2.2.2.2.2.2.2.2.2.1 c11
        refine j_aload_n X 1 dL_law_1189 rfl rfl ?_
        refine j_aload_n X 0 dL_law_1190 rfl rfl ?_
        refine j_iload_n X 3 dL_law_1191 rfl rfl ?_
        refine j_iconst (v := (1 : Int32)) X (by decide) dL_law_1192 ?_
        refine j_iadd X dL_law_1193 ?_
        have q240 := h.1
        replace h := h.2
        refine j_sld X hX q240 dL_law_1194 ?_
        refine j_aload_n X 0 dL_law_1195 rfl rfl ?_
        refine j_iload_n X 3 dL_law_1196 rfl rfl ?_
        refine j_iconst (v := (2 : Int32)) X (by decide) dL_law_1197 ?_
        refine j_iadd X dL_law_1198 ?_
        have q241 := h.1
        replace h := h.2
        refine j_sld X hX q241 dL_law_1199 ?_
        refine jc_RL_158 X ⟨Nat.le_of_ble_eq_true rfl, Nat.le_of_ble_eq_true rfl⟩ (Nat.le_of_ble_eq_true rfl) dL_law_1200 h (fun r243 M242 h => ?_)
        refine j_aload_n X 2 dL_law_1203 rfl rfl ?_
        refine j_aload_n X 0 dL_law_1204 rfl rfl ?_
        refine j_iload_n X 3 dL_law_1205 rfl rfl ?_
        refine j_iconst (v := (1 : Int32)) X (by decide) dL_law_1206 ?_
        refine j_iadd X dL_law_1207 ?_
        refine j_sld X hX q240 dL_law_1208 ?_
        refine j_aload_n X 0 dL_law_1209 rfl rfl ?_
        refine j_iload_n X 3 dL_law_1210 rfl rfl ?_
        refine j_iconst (v := (2 : Int32)) X (by decide) dL_law_1211 ?_
        refine j_iadd X dL_law_1212 ?_
        refine j_sld X hX q241 dL_law_1213 ?_
        refine jc_RL_161 X ⟨Nat.le_of_ble_eq_true rfl, Nat.le_of_ble_eq_true rfl⟩ (Nat.le_of_ble_eq_true rfl) dL_law_1214 h (fun r245 M244 h => ?_)
        refine j_icmp_eq X 1281 dL_law_1217 (by decide) (fun c246 => ?_) (fun c246 => ?_)
        · replace h := h.1 c246
          refine j_sub [0, 1, 2, 3] rfl ?_
          exact hj9 M244 h
        · replace h := h.2 c246
          refine j_iconst (v := (0 : Int32)) X (by decide) dL_law_1220 ?_
          exact h.elim
      · replace h := h.2.2.2.2.2.2.2.2.2.2.2.2.2.2.2.2.2.2.2.2.2.2.2.2.2.2.2.2.2.2.2.2.2.2.2.2.1 c11
        refine j_aload_n X 1 dL_law_1222 rfl rfl ?_
        refine j_aload_n X 0 dL_law_1223 rfl rfl ?_
        refine j_iload_n X 3 dL_law_1224 rfl rfl ?_
        refine j_iconst (v := (1 : Int32)) X (by decide) dL_law_1225 ?_
        refine j_iadd X dL_law_1226 ?_
        have q247 := h.1
        replace h := h.2
        refine j_sld X hX q247 dL_law_1227 ?_
        refine j_aload_n X 0 dL_law_1228 rfl rfl ?_
        refine j_iload_n X 3 dL_law_1229 rfl rfl ?_
        refine j_iconst (v := (2 : Int32)) X (by decide) dL_law_1230 ?_
        refine j_iadd X dL_law_1231 ?_
        have q248 := h.1
        replace h := h.2
        refine j_sld X hX q248 dL_law_1232 ?_
        refine jc_RL_162 X ⟨Nat.le_of_ble_eq_true rfl, Nat.le_of_ble_eq_true rfl⟩ (Nat.le_of_ble_eq_true rfl) dL_law_1233 h (fun r250 M249 h => ?_)
        refine j_aload_n X 2 dL_law_1236 rfl rfl ?_
        refine j_aload_n X 0 dL_law_1237 rfl rfl ?_
        refine j_iload_n X 3 dL_law_1238 rfl rfl ?_
        refine j_iconst (v := (1 : Int32)) X (by decide) dL_law_1239 ?_
        refine j_iadd X dL_law_1240 ?_
        refine j_sld X hX q247 dL_law_1241 ?_
        refine j_aload_n X 0 dL_law_1242 rfl rfl ?_
        refine j_iload_n X 3 dL_law_1243 rfl rfl ?_
        refine j_iconst (v := (2 : Int32)) X (by decide) dL_law_1244 ?_
        refine j_iadd X dL_law_1245 ?_
        refine j_sld X hX q248 dL_law_1246 ?_
        refine jc_RL_165 X ⟨Nat.le_of_ble_eq_true rfl, Nat.le_of_ble_eq_true rfl⟩ (Nat.le_of_ble_eq_true rfl) dL_law_1247 h (fun r252 M251 h => ?_)
        refine j_icmp_eq X 1281 dL_law_1250 (by decide) (fun c253 => ?_) (fun c253 => ?_)
        · replace h := h.1 c253
          refine j_sub [0, 1, 2, 3] rfl ?_
          exact hj9 M251 h
        · replace h := h.2 c253
          refine j_iconst (v := (0 : Int32)) X (by decide) dL_law_1253 ?_
          exact h.elim
      · replace h := h.2.2.2.2.2.2.2.2.2.2.2.2.2.2.2.2.2.2.2.2.2.2.2.2.2.2.2.2.2.2.2.2.2.2.2.2.2.1 c11
        refine j_aload_n X 1 dL_law_1255 rfl rfl ?_
        refine jc_RL_166 X ⟨Nat.le_of_ble_eq_true rfl, Nat.le_of_ble_eq_true rfl⟩ (Nat.le_of_ble_eq_true rfl) dL_law_1256 h (fun r255 M254 h => ?_)
        refine j_aload_n X 2 dL_law_1259 rfl rfl ?_
        refine jc_RL_169 X ⟨Nat.le_of_ble_eq_true rfl, Nat.le_of_ble_eq_true rfl⟩ (Nat.le_of_ble_eq_true rfl) dL_law_1260 h (fun r257 M256 h => ?_)
        refine j_icmp_eq X 1281 dL_law_1263 (by decide) (fun c258 => ?_) (fun c258 => ?_)
        · replace h := h.1 c258
          refine j_sub [0, 1, 2, 3] rfl ?_
          exact hj9 M256 h
        · replace h := h.2 c258
          refine j_iconst (v := (0 : Int32)) X (by decide) dL_law_1266 ?_
          exact h.elim
      · replace h := h.2.2.2.2.2.2.2.2.2.2.2.2.2.2.2.2.2.2.2.2.2.2.2.2.2.2.2.2.2.2.2.2.2.2.2.2.2.2.1 c11
        refine j_aload_n X 1 dL_law_1268 rfl rfl ?_
        refine jc_RL_170 X ⟨Nat.le_of_ble_eq_true rfl, Nat.le_of_ble_eq_true rfl⟩ (Nat.le_of_ble_eq_true rfl) dL_law_1269 h (fun r260 M259 h => ?_)
        refine j_aload_n X 2 dL_law_1272 rfl rfl ?_
        refine jc_RL_173 X ⟨Nat.le_of_ble_eq_true rfl, Nat.le_of_ble_eq_true rfl⟩ (Nat.le_of_ble_eq_true rfl) dL_law_1273 h (fun r262 M261 h => ?_)
        refine j_icmp_eq X 1281 dL_law_1276 (by decide) (fun c263 => ?_) (fun c263 => ?_)
        · replace h := h.1 c263
          refine j_sub [0, 1, 2, 3] rfl ?_
          exact hj9 M261 h
        · replace h := h.2 c263
          refine j_iconst (v := (0 : Int32)) X (by decide) dL_law_1279 ?_
          exact h.elim
      · replace h := h.2.2.2.2.2.2.2.2.2.2.2.2.2.2.2.2.2.2.2.2.2.2.2.2.2.2.2.2.2.2.2.2.2.2.2.2.2.2.2 c264 c265 c266 c267 c268 c269 c270 c271 c272 c273 c274 c275 c276 c277 c278 c279 c280 c281 c282 c283 c284 c285 c286 c287 c288 c289 c290 c291 c292 c293 c294 c295 c296 c297 c298 c299 c300 c301 c302
        refine j_sub [0, 1, 2, 3] rfl ?_
        exact hj9 M4 h
