/-- LayeredClaims$Book.copyFrom(LLayeredClaims$Book;)V -/
def wp_X0_copyFrom (k : Nat) (a1 : Nat) (M : Mm) (P : Mm → Prop) : Prop := (a1 < 9 ∧ (k < 9 ∧ (∀ M3 : Mm, M3 = wr M 0 k 0 (rd M 0 a1 0) → (∀ M4 : Mm, M4 = wrA M3 21 k (va_cpy (M3.1 21 a1) (M3.1 21 k) 0 0 6) → (∀ M5 : Mm, M5 = wrA M4 22 k (va_cpy (M4.1 22 a1) (M4.1 22 k) 0 0 6) → (∀ M6 : Mm, M6 = wrA M5 23 k (va_cpy (M5.1 23 a1) (M5.1 23 k) 0 0 6) → (∀ M7 : Mm, M7 = wrA M6 24 k (va_cpy (M6.1 24 a1) (M6.1 24 k) 0 0 6) → (∀ M8 : Mm, M8 = wr M7 0 k 5 (rd M7 0 a1 5) → (∀ M9 : Mm, M9 = wrA M8 26 k (va_cpy (M8.1 26 a1) (M8.1 26 k) 0 0 4) → (∀ M10 : Mm, M10 = wrA M9 27 k (va_cpy (M9.1 27 a1) (M9.1 27 k) 0 0 4) → (∀ M11 : Mm, M11 = wrA M10 28 k (va_cpy (M10.1 28 a1) (M10.1 28 k) 0 0 4) → (∀ M12 : Mm, M12 = wrA M11 29 k (va_cpy (M11.1 29 a1) (M11.1 29 k) 0 0 4) → (∀ M13 : Mm, M13 = wrA M12 30 k (va_cpy (M12.1 30 a1) (M12.1 30 k) 0 0 3) → (∀ M14 : Mm, M14 = wr M13 0 k 11 (rd M13 0 a1 11) → (∀ M15 : Mm, M15 = wr M14 0 k 12 (rd M14 0 a1 12) → (∀ M16 : Mm, M16 = wrA M15 33 k (va_cpy (M15.1 33 a1) (M15.1 33 k) 0 0 8) → (∀ M17 : Mm, M17 = wrA M16 34 k (va_cpy (M16.1 34 a1) (M16.1 34 k) 0 0 8) → (∀ M18 : Mm, M18 = wr M17 0 k 15 (rd M17 0 a1 15) → (∀ M19 : Mm, M19 = wrA M18 36 k (va_cpy (M18.1 36 a1) (M18.1 36 k) 0 0 24) → (∀ M20 : Mm, M20 = wrA M19 37 k (va_cpy (M19.1 37 a1) (M19.1 37 k) 0 0 24) → (∀ M21 : Mm, M21 = wrA M20 38 k (va_cpy (M20.1 38 a1) (M20.1 38 k) 0 0 24) → P M21)))))))))))))))))))))
set_option maxHeartbeats 4000000 in
set_option maxRecDepth 100000 in
theorem met_X0_copyFrom {l : Launch} {G : GT} (hG : GD G) (k : Nat) (a1 : Nat) (M : Mm) (P : Mm → Prop) (h : wp_X0_copyFrom k a1 M P) : MV l G yX0_copyFrom cX0_copyFrom 2 none ({ frames := 1, cells := 0, slots := 0, locals := 26 } : Room) [.ref (adr G 0 k), .ref (adr G 0 a1)] M P := by
  refine met_by hG (own := RX0) rfl (by decide +kernel) (Nat.le_of_ble_eq_true rfl) (fun E hE X Y => ?_)
  show J G E 2 0 [(0, .ref (adr G 0 k)), (1, .ref (adr G 0 a1))] [] M
  unfold wp_X0_copyFrom at h
  refine j_aload_n X 0 dX0_copyFrom_0 rfl rfl ?_
  refine j_aload_n X 1 dX0_copyFrom_1 rfl rfl ?_
  have q1 := h.1
  replace h := h.2
  refine jf_RX0_54 X q1 dX0_copyFrom_2 ?_
  have q2 := h.1
  replace h := h.2
  refine jp_RX0_54 X q2  dX0_copyFrom_5 ?_
  refine j_memo (fun M3 eM3 => ?_)
  replace h := h M3 eM3
  refine j_aload_n X 1 dX0_copyFrom_8 rfl rfl ?_
  refine jf_RX0_9 X q1 dX0_copyFrom_9 ?_
  refine j_iconst (v := (0 : Int32)) X (by decide) dX0_copyFrom_12 ?_
  refine j_aload_n X 0 dX0_copyFrom_13 rfl rfl ?_
  refine jf_RX0_9 X q2 dX0_copyFrom_14 ?_
  refine j_iconst (v := (0 : Int32)) X (by decide) dX0_copyFrom_17 ?_
  refine j_bipush (v := (6 : Int32)) X (by decide) dX0_copyFrom_18 ?_
  refine j_copy X 0 0 6 (by decide) (by decide) (by decide) (tw (i := 390) (by decide +kernel)) (mw21 a1 q1) kt21 lt21 (mw21 k q2) kt21 lt21 (by decide) (by decide) (by decide) (by decide) (by decide) (Nat.le_of_ble_eq_true rfl) (Nat.le_of_ble_eq_true rfl) dX0_copyFrom_20 ?_
  refine j_memo (fun M4 eM4 => ?_)
  replace h := h M4 eM4
  refine j_aload_n X 1 dX0_copyFrom_23 rfl rfl ?_
  refine jf_RX0_15 X q1 dX0_copyFrom_24 ?_
  refine j_iconst (v := (0 : Int32)) X (by decide) dX0_copyFrom_27 ?_
  refine j_aload_n X 0 dX0_copyFrom_28 rfl rfl ?_
  refine jf_RX0_15 X q2 dX0_copyFrom_29 ?_
  refine j_iconst (v := (0 : Int32)) X (by decide) dX0_copyFrom_32 ?_
  refine j_bipush (v := (6 : Int32)) X (by decide) dX0_copyFrom_33 ?_
  refine j_copy X 0 0 6 (by decide) (by decide) (by decide) (tw (i := 390) (by decide +kernel)) (mw22 a1 q1) kt22 lt22 (mw22 k q2) kt22 lt22 (by decide) (by decide) (by decide) (by decide) (by decide) (Nat.le_of_ble_eq_true rfl) (Nat.le_of_ble_eq_true rfl) dX0_copyFrom_35 ?_
  refine j_memo (fun M5 eM5 => ?_)
  replace h := h M5 eM5
  refine j_aload_n X 1 dX0_copyFrom_38 rfl rfl ?_
  refine jf_RX0_18 X q1 dX0_copyFrom_39 ?_
  refine j_iconst (v := (0 : Int32)) X (by decide) dX0_copyFrom_42 ?_
  refine j_aload_n X 0 dX0_copyFrom_43 rfl rfl ?_
  refine jf_RX0_18 X q2 dX0_copyFrom_44 ?_
  refine j_iconst (v := (0 : Int32)) X (by decide) dX0_copyFrom_47 ?_
  refine j_bipush (v := (6 : Int32)) X (by decide) dX0_copyFrom_48 ?_
  refine j_copy X 0 0 6 (by decide) (by decide) (by decide) (tw (i := 390) (by decide +kernel)) (mw23 a1 q1) kt23 lt23 (mw23 k q2) kt23 lt23 (by decide) (by decide) (by decide) (by decide) (by decide) (Nat.le_of_ble_eq_true rfl) (Nat.le_of_ble_eq_true rfl) dX0_copyFrom_50 ?_
  refine j_memo (fun M6 eM6 => ?_)
  replace h := h M6 eM6
  refine j_aload_n X 1 dX0_copyFrom_53 rfl rfl ?_
  refine jf_RX0_21 X q1 dX0_copyFrom_54 ?_
  refine j_iconst (v := (0 : Int32)) X (by decide) dX0_copyFrom_57 ?_
  refine j_aload_n X 0 dX0_copyFrom_58 rfl rfl ?_
  refine jf_RX0_21 X q2 dX0_copyFrom_59 ?_
  refine j_iconst (v := (0 : Int32)) X (by decide) dX0_copyFrom_62 ?_
  refine j_bipush (v := (6 : Int32)) X (by decide) dX0_copyFrom_63 ?_
  refine j_copy X 0 0 6 (by decide) (by decide) (by decide) (tw (i := 390) (by decide +kernel)) (mw24 a1 q1) kt24 lt24 (mw24 k q2) kt24 lt24 (by decide) (by decide) (by decide) (by decide) (by decide) (Nat.le_of_ble_eq_true rfl) (Nat.le_of_ble_eq_true rfl) dX0_copyFrom_65 ?_
  refine j_memo (fun M7 eM7 => ?_)
  replace h := h M7 eM7
  refine j_aload_n X 0 dX0_copyFrom_68 rfl rfl ?_
  refine j_aload_n X 1 dX0_copyFrom_69 rfl rfl ?_
  refine jf_RX0_62 X q1 dX0_copyFrom_70 ?_
  refine jp_RX0_62 X q2  dX0_copyFrom_73 ?_
  refine j_memo (fun M8 eM8 => ?_)
  replace h := h M8 eM8
  refine j_aload_n X 1 dX0_copyFrom_76 rfl rfl ?_
  refine jf_RX0_24 X q1 dX0_copyFrom_77 ?_
  refine j_iconst (v := (0 : Int32)) X (by decide) dX0_copyFrom_80 ?_
  refine j_aload_n X 0 dX0_copyFrom_81 rfl rfl ?_
  refine jf_RX0_24 X q2 dX0_copyFrom_82 ?_
  refine j_iconst (v := (0 : Int32)) X (by decide) dX0_copyFrom_85 ?_
  refine j_iconst (v := (4 : Int32)) X (by decide) dX0_copyFrom_86 ?_
  refine j_copy X 0 0 4 (by decide) (by decide) (by decide) (tw (i := 390) (by decide +kernel)) (mw26 a1 q1) kt26 lt26 (mw26 k q2) kt26 lt26 (by decide) (by decide) (by decide) (by decide) (by decide) (Nat.le_of_ble_eq_true rfl) (Nat.le_of_ble_eq_true rfl) dX0_copyFrom_87 ?_
  refine j_memo (fun M9 eM9 => ?_)
  replace h := h M9 eM9
  refine j_aload_n X 1 dX0_copyFrom_90 rfl rfl ?_
  refine jf_RX0_27 X q1 dX0_copyFrom_91 ?_
  refine j_iconst (v := (0 : Int32)) X (by decide) dX0_copyFrom_94 ?_
  refine j_aload_n X 0 dX0_copyFrom_95 rfl rfl ?_
  refine jf_RX0_27 X q2 dX0_copyFrom_96 ?_
  refine j_iconst (v := (0 : Int32)) X (by decide) dX0_copyFrom_99 ?_
  refine j_iconst (v := (4 : Int32)) X (by decide) dX0_copyFrom_100 ?_
  refine j_copy X 0 0 4 (by decide) (by decide) (by decide) (tw (i := 390) (by decide +kernel)) (mw27 a1 q1) kt27 lt27 (mw27 k q2) kt27 lt27 (by decide) (by decide) (by decide) (by decide) (by decide) (Nat.le_of_ble_eq_true rfl) (Nat.le_of_ble_eq_true rfl) dX0_copyFrom_101 ?_
  refine j_memo (fun M10 eM10 => ?_)
  replace h := h M10 eM10
  refine j_aload_n X 1 dX0_copyFrom_104 rfl rfl ?_
  refine jf_RX0_30 X q1 dX0_copyFrom_105 ?_
  refine j_iconst (v := (0 : Int32)) X (by decide) dX0_copyFrom_108 ?_
  refine j_aload_n X 0 dX0_copyFrom_109 rfl rfl ?_
  refine jf_RX0_30 X q2 dX0_copyFrom_110 ?_
  refine j_iconst (v := (0 : Int32)) X (by decide) dX0_copyFrom_113 ?_
  refine j_iconst (v := (4 : Int32)) X (by decide) dX0_copyFrom_114 ?_
  refine j_copy X 0 0 4 (by decide) (by decide) (by decide) (tw (i := 390) (by decide +kernel)) (mw28 a1 q1) kt28 lt28 (mw28 k q2) kt28 lt28 (by decide) (by decide) (by decide) (by decide) (by decide) (Nat.le_of_ble_eq_true rfl) (Nat.le_of_ble_eq_true rfl) dX0_copyFrom_115 ?_
  refine j_memo (fun M11 eM11 => ?_)
  replace h := h M11 eM11
  refine j_aload_n X 1 dX0_copyFrom_118 rfl rfl ?_
  refine jf_RX0_33 X q1 dX0_copyFrom_119 ?_
  refine j_iconst (v := (0 : Int32)) X (by decide) dX0_copyFrom_122 ?_
  refine j_aload_n X 0 dX0_copyFrom_123 rfl rfl ?_
  refine jf_RX0_33 X q2 dX0_copyFrom_124 ?_
  refine j_iconst (v := (0 : Int32)) X (by decide) dX0_copyFrom_127 ?_
  refine j_iconst (v := (4 : Int32)) X (by decide) dX0_copyFrom_128 ?_
  refine j_copy X 0 0 4 (by decide) (by decide) (by decide) (tw (i := 390) (by decide +kernel)) (mw29 a1 q1) kt29 lt29 (mw29 k q2) kt29 lt29 (by decide) (by decide) (by decide) (by decide) (by decide) (Nat.le_of_ble_eq_true rfl) (Nat.le_of_ble_eq_true rfl) dX0_copyFrom_129 ?_
  refine j_memo (fun M12 eM12 => ?_)
  replace h := h M12 eM12
  refine j_aload_n X 1 dX0_copyFrom_132 rfl rfl ?_
  refine jf_RX0_36 X q1 dX0_copyFrom_133 ?_
  refine j_iconst (v := (0 : Int32)) X (by decide) dX0_copyFrom_136 ?_
  refine j_aload_n X 0 dX0_copyFrom_137 rfl rfl ?_
  refine jf_RX0_36 X q2 dX0_copyFrom_138 ?_
  refine j_iconst (v := (0 : Int32)) X (by decide) dX0_copyFrom_141 ?_
  refine j_iconst (v := (3 : Int32)) X (by decide) dX0_copyFrom_142 ?_
  refine j_copy X 0 0 3 (by decide) (by decide) (by decide) (tw (i := 390) (by decide +kernel)) (mw30 a1 q1) kt30 lt30 (mw30 k q2) kt30 lt30 (by decide) (by decide) (by decide) (by decide) (by decide) (Nat.le_of_ble_eq_true rfl) (Nat.le_of_ble_eq_true rfl) dX0_copyFrom_143 ?_
  refine j_memo (fun M13 eM13 => ?_)
  replace h := h M13 eM13
  refine j_aload_n X 0 dX0_copyFrom_146 rfl rfl ?_
  refine j_aload_n X 1 dX0_copyFrom_147 rfl rfl ?_
  refine jf_RX0_87 X q1 dX0_copyFrom_148 ?_
  refine jp_RX0_87 X q2  dX0_copyFrom_151 ?_
  refine j_memo (fun M14 eM14 => ?_)
  replace h := h M14 eM14
  refine j_aload_n X 0 dX0_copyFrom_154 rfl rfl ?_
  refine j_aload_n X 1 dX0_copyFrom_155 rfl rfl ?_
  refine jf_RX0_65 X q1 dX0_copyFrom_156 ?_
  refine jp_RX0_65 X q2  dX0_copyFrom_159 ?_
  refine j_memo (fun M15 eM15 => ?_)
  replace h := h M15 eM15
  refine j_aload_n X 1 dX0_copyFrom_162 rfl rfl ?_
  refine jf_RX0_39 X q1 dX0_copyFrom_163 ?_
  refine j_iconst (v := (0 : Int32)) X (by decide) dX0_copyFrom_166 ?_
  refine j_aload_n X 0 dX0_copyFrom_167 rfl rfl ?_
  refine jf_RX0_39 X q2 dX0_copyFrom_168 ?_
  refine j_iconst (v := (0 : Int32)) X (by decide) dX0_copyFrom_171 ?_
  refine j_bipush (v := (8 : Int32)) X (by decide) dX0_copyFrom_172 ?_
  refine j_copy X 0 0 8 (by decide) (by decide) (by decide) (tw (i := 390) (by decide +kernel)) (mw33 a1 q1) kt33 lt33 (mw33 k q2) kt33 lt33 (by decide) (by decide) (by decide) (by decide) (by decide) (Nat.le_of_ble_eq_true rfl) (Nat.le_of_ble_eq_true rfl) dX0_copyFrom_174 ?_
  refine j_memo (fun M16 eM16 => ?_)
  replace h := h M16 eM16
  refine j_aload_n X 1 dX0_copyFrom_177 rfl rfl ?_
  refine jf_RX0_42 X q1 dX0_copyFrom_178 ?_
  refine j_iconst (v := (0 : Int32)) X (by decide) dX0_copyFrom_181 ?_
  refine j_aload_n X 0 dX0_copyFrom_182 rfl rfl ?_
  refine jf_RX0_42 X q2 dX0_copyFrom_183 ?_
  refine j_iconst (v := (0 : Int32)) X (by decide) dX0_copyFrom_186 ?_
  refine j_bipush (v := (8 : Int32)) X (by decide) dX0_copyFrom_187 ?_
  refine j_copy X 0 0 8 (by decide) (by decide) (by decide) (tw (i := 390) (by decide +kernel)) (mw34 a1 q1) kt34 lt34 (mw34 k q2) kt34 lt34 (by decide) (by decide) (by decide) (by decide) (by decide) (Nat.le_of_ble_eq_true rfl) (Nat.le_of_ble_eq_true rfl) dX0_copyFrom_189 ?_
  refine j_memo (fun M17 eM17 => ?_)
  replace h := h M17 eM17
  refine j_aload_n X 0 dX0_copyFrom_192 rfl rfl ?_
  refine j_aload_n X 1 dX0_copyFrom_193 rfl rfl ?_
  refine jf_RX0_68 X q1 dX0_copyFrom_194 ?_
  refine jp_RX0_68 X q2  dX0_copyFrom_197 ?_
  refine j_memo (fun M18 eM18 => ?_)
  replace h := h M18 eM18
  refine j_aload_n X 1 dX0_copyFrom_200 rfl rfl ?_
  refine jf_RX0_45 X q1 dX0_copyFrom_201 ?_
  refine j_iconst (v := (0 : Int32)) X (by decide) dX0_copyFrom_204 ?_
  refine j_aload_n X 0 dX0_copyFrom_205 rfl rfl ?_
  refine jf_RX0_45 X q2 dX0_copyFrom_206 ?_
  refine j_iconst (v := (0 : Int32)) X (by decide) dX0_copyFrom_209 ?_
  refine j_bipush (v := (24 : Int32)) X (by decide) dX0_copyFrom_210 ?_
  refine j_copy X 0 0 24 (by decide) (by decide) (by decide) (tw (i := 390) (by decide +kernel)) (mw36 a1 q1) kt36 lt36 (mw36 k q2) kt36 lt36 (by decide) (by decide) (by decide) (by decide) (by decide) (Nat.le_of_ble_eq_true rfl) (Nat.le_of_ble_eq_true rfl) dX0_copyFrom_212 ?_
  refine j_memo (fun M19 eM19 => ?_)
  replace h := h M19 eM19
  refine j_aload_n X 1 dX0_copyFrom_215 rfl rfl ?_
  refine jf_RX0_48 X q1 dX0_copyFrom_216 ?_
  refine j_iconst (v := (0 : Int32)) X (by decide) dX0_copyFrom_219 ?_
  refine j_aload_n X 0 dX0_copyFrom_220 rfl rfl ?_
  refine jf_RX0_48 X q2 dX0_copyFrom_221 ?_
  refine j_iconst (v := (0 : Int32)) X (by decide) dX0_copyFrom_224 ?_
  refine j_bipush (v := (24 : Int32)) X (by decide) dX0_copyFrom_225 ?_
  refine j_copy X 0 0 24 (by decide) (by decide) (by decide) (tw (i := 390) (by decide +kernel)) (mw37 a1 q1) kt37 lt37 (mw37 k q2) kt37 lt37 (by decide) (by decide) (by decide) (by decide) (by decide) (Nat.le_of_ble_eq_true rfl) (Nat.le_of_ble_eq_true rfl) dX0_copyFrom_227 ?_
  refine j_memo (fun M20 eM20 => ?_)
  replace h := h M20 eM20
  refine j_aload_n X 1 dX0_copyFrom_230 rfl rfl ?_
  refine jf_RX0_51 X q1 dX0_copyFrom_231 ?_
  refine j_iconst (v := (0 : Int32)) X (by decide) dX0_copyFrom_234 ?_
  refine j_aload_n X 0 dX0_copyFrom_235 rfl rfl ?_
  refine jf_RX0_51 X q2 dX0_copyFrom_236 ?_
  refine j_iconst (v := (0 : Int32)) X (by decide) dX0_copyFrom_239 ?_
  refine j_bipush (v := (24 : Int32)) X (by decide) dX0_copyFrom_240 ?_
  refine j_copy X 0 0 24 (by decide) (by decide) (by decide) (tw (i := 390) (by decide +kernel)) (mw38 a1 q1) kt38 lt38 (mw38 k q2) kt38 lt38 (by decide) (by decide) (by decide) (by decide) (by decide) (Nat.le_of_ble_eq_true rfl) (Nat.le_of_ble_eq_true rfl) dX0_copyFrom_242 ?_
  refine j_memo (fun M21 eM21 => ?_)
  replace h := h M21 eM21
  exact j_vret X Y dX0_copyFrom_245 h
theorem jc_RX6_357 {G : GT} {E : ET} {cc : ByteArray} {nL pc : Nat} {rm : Room} {lv : List (Nat × Value)} {st : List Value} {M : Mm} (X : CX G E RX6 cc nL rm) (hR : 1 + 1 ≤ rm.frames ∧ 8 + (2 + 11) + 26 ≤ rm.locals) (hst : (st.map fun v => v.category).sum ≤ 8) (d : decode cc pc = .ok (.invokevirtual 357, 3)) {k : Nat} {a1 : Nat} (hk : k < 9) {P : Mm → Prop} (h : wp_X0_copyFrom k a1 M P) (k1 : ∀ M2 : Mm, P M2 → J G E nL (pc + 3) lv st M2) : J G E nL pc lv (.ref (adr G 0 a1) :: .ref (adr G 0 k) :: st) M := fun H locs ls hP hS hl => by
  have hK := X.2.2.2.2.2.1.1
  have hm := met_X0_copyFrom (l := eL E) X.2.2.2.2.2.2.1 k a1 M P h
  have hR2 : 1 + 1 ≤ (eR E).frames ∧ 8 + (2 + 11) + 26 ≤ (eR E).locals := by rw [X.2.2.2.2.2.2.2.1]; exact hR
  have hC2 : eCells E + 0 ≤ (eR E).cells ∧ eSlots E + 0 ≤ (eR E).slots := by rw [X.2.2.2.2.2.2.2.1]; exact ⟨X.2.2.2.2.2.2.2.2.1, X.2.2.2.2.2.2.2.2.2⟩
  obtain ⟨q0, -, hq⟩ := wld_get (G := G) M (mw0 k hk)
  exact va_callv (va_runV (C := RX0) (As := [.ref (adr G 0 a1)]) (rest := st) ⟨X.1, X.2.1, X.2.2.1, X.2.2.2.1, X.2.2.2.2.1⟩ hm (cwV (ws' := lw_aw) 1 X.2.2.2.2.1 (gwV (tw (i := 857) (by decide +kernel)) (tw (i := 387) (by decide +kernel)) (tw (i := 388) (by decide +kernel)) (tw (i := 73) (by decide +kernel)) (tw (i := 389) (by decide +kernel))) rfl rfl rfl (by decide +kernel) hR2) ⟨hr_blind, va_recv hK hP (ci := 0) (q := (RX0, TX0, 19)) (fs := objF0 G k (M.1 0 k)) (q0 := q0) rfl hq, fun U hU hW => ⟨rfl, by rw [hU]; exact hP, KK.warm hW X.2.2.2.2.2.1⟩⟩ rfl rfl hl.1 rfl (lv_room hst) d hC2) hS (fun q _ h => h) (fun q h => h) (fun u t H1 locs1 ht hvm hw hB hz1 hk1 hS1 => k1 u hw H1 locs1 ls (by rw [← ht]; exact hB.1) hS1 hl)
theorem jc_RX1_22 {G : GT} {E : ET} {cc : ByteArray} {nL pc : Nat} {rm : Room} {lv : List (Nat × Value)} {st : List Value} {M : Mm} (X : CX G E RX1 cc nL rm) (hR : 1 + 1 ≤ rm.frames ∧ 8 + (2 + 11) + 26 ≤ rm.locals) (hst : (st.map fun v => v.category).sum ≤ 8) (d : decode cc pc = .ok (.invokevirtual 22, 3)) {k : Nat} {a1 : Nat} (hk : k < 9) {P : Mm → Prop} (h : wp_X0_copyFrom k a1 M P) (k1 : ∀ M2 : Mm, P M2 → J G E nL (pc + 3) lv st M2) : J G E nL pc lv (.ref (adr G 0 a1) :: .ref (adr G 0 k) :: st) M := fun H locs ls hP hS hl => by
  have hK := X.2.2.2.2.2.1.1
  have hm := met_X0_copyFrom (l := eL E) X.2.2.2.2.2.2.1 k a1 M P h
  have hR2 : 1 + 1 ≤ (eR E).frames ∧ 8 + (2 + 11) + 26 ≤ (eR E).locals := by rw [X.2.2.2.2.2.2.2.1]; exact hR
  have hC2 : eCells E + 0 ≤ (eR E).cells ∧ eSlots E + 0 ≤ (eR E).slots := by rw [X.2.2.2.2.2.2.2.1]; exact ⟨X.2.2.2.2.2.2.2.2.1, X.2.2.2.2.2.2.2.2.2⟩
  obtain ⟨q0, -, hq⟩ := wld_get (G := G) M (mw0 k hk)
  exact va_callv (va_runV (C := RX0) (As := [.ref (adr G 0 a1)]) (rest := st) ⟨X.1, X.2.1, X.2.2.1, X.2.2.2.1, X.2.2.2.2.1⟩ hm (cwV (ws' := lw_aw) 1 X.2.2.2.2.1 (gwV (tw (i := 386) (by decide +kernel)) (tw (i := 387) (by decide +kernel)) (tw (i := 388) (by decide +kernel)) (tw (i := 73) (by decide +kernel)) (tw (i := 389) (by decide +kernel))) rfl rfl rfl (by decide +kernel) hR2) ⟨hr_blind, va_recv hK hP (ci := 0) (q := (RX0, TX0, 19)) (fs := objF0 G k (M.1 0 k)) (q0 := q0) rfl hq, fun U hU hW => ⟨rfl, by rw [hU]; exact hP, KK.warm hW X.2.2.2.2.2.1⟩⟩ rfl rfl hl.1 rfl (lv_room hst) d hC2) hS (fun q _ h => h) (fun q h => h) (fun u t H1 locs1 ht hvm hw hB hz1 hk1 hS1 => k1 u hw H1 locs1 ls (by rw [← ht]; exact hB.1) hS1 hl)
/-- LayeredClaims$History.mark(LLayeredClaims$Book;)V -/
def wp_X1_mark (a1 : Nat) (M : Mm) (P : Mm → Prop) : Prop := (vp_in (rd M 1 0 1) 7 ∧ ((2 + (rd M 1 0 1).toNatClampNeg) < 9 ∧ (wp_X0_copyFrom (2 + (rd M 1 0 1).toNatClampNeg) a1 M (fun (M3 : Mm) => P M3))))
set_option maxHeartbeats 4000000 in
set_option maxRecDepth 100000 in
theorem met_X1_mark {l : Launch} {G : GT} (hG : GD G) (a1 : Nat) (M : Mm) (P : Mm → Prop) (h : wp_X1_mark a1 M P) : MV l G yX1_mark cX1_mark 2 none ({ frames := 2, cells := 0, slots := 0, locals := 47 } : Room) [.ref (adr G 1 0), .ref (adr G 0 a1)] M P := by
  refine met_by hG (own := RX1) rfl (by decide +kernel) (Nat.le_of_ble_eq_true rfl) (fun E hE X Y => ?_)
  show J G E 2 0 [(0, .ref (adr G 1 0)), (1, .ref (adr G 0 a1))] [] M
  unfold wp_X1_mark at h
  refine j_aload_n X 0 dX1_mark_0 rfl rfl ?_
  refine jf_RX1_13 X  dX1_mark_1 ?_
  refine j_aload_n X 0 dX1_mark_4 rfl rfl ?_
  refine jf_RX1_18 X  dX1_mark_5 ?_
  have q1 := h.1
  replace h := h.2
  refine j_aaldB X (mw40 0 (by decide)) kt40 lt40 q1 dX1_mark_8 ?_
  refine j_aload_n X 1 dX1_mark_9 rfl rfl ?_
  have q2 := h.1
  replace h := h.2
  refine jc_RX1_22 X ⟨Nat.le_of_ble_eq_true rfl, Nat.le_of_ble_eq_true rfl⟩ (Nat.le_of_ble_eq_true rfl) dX1_mark_10 q2 h (fun M3 h => ?_)
  exact j_vret X Y dX1_mark_13 h
theorem jc_RX6_52 {G : GT} {E : ET} {cc : ByteArray} {nL pc : Nat} {rm : Room} {lv : List (Nat × Value)} {st : List Value} {M : Mm} (X : CX G E RX6 cc nL rm) (hR : 2 + 1 ≤ rm.frames ∧ 8 + (2 + 11) + 47 ≤ rm.locals) (hst : (st.map fun v => v.category).sum ≤ 8) (d : decode cc pc = .ok (.invokevirtual 52, 3)) {a1 : Nat} {P : Mm → Prop} (h : wp_X1_mark a1 M P) (k1 : ∀ M2 : Mm, P M2 → J G E nL (pc + 3) lv st M2) : J G E nL pc lv (.ref (adr G 0 a1) :: .ref (adr G 1 0) :: st) M := fun H locs ls hP hS hl => by
  have hK := X.2.2.2.2.2.1.1
  have hm := met_X1_mark (l := eL E) X.2.2.2.2.2.2.1 a1 M P h
  have hR2 : 2 + 1 ≤ (eR E).frames ∧ 8 + (2 + 11) + 47 ≤ (eR E).locals := by rw [X.2.2.2.2.2.2.2.1]; exact hR
  have hC2 : eCells E + 0 ≤ (eR E).cells ∧ eSlots E + 0 ≤ (eR E).slots := by rw [X.2.2.2.2.2.2.2.1]; exact ⟨X.2.2.2.2.2.2.2.2.1, X.2.2.2.2.2.2.2.2.2⟩
  obtain ⟨q0, -, hq⟩ := wld_get (G := G) M (mw1 0 (by decide))
  exact va_callv (va_runV (C := RX1) (As := [.ref (adr G 0 a1)]) (rest := st) ⟨X.1, X.2.1, X.2.2.1, X.2.2.2.1, X.2.2.2.2.1⟩ hm (cwV (ws' := lw_aw) 1 X.2.2.2.2.1 (gwV (tw (i := 382) (by decide +kernel)) (tw (i := 383) (by decide +kernel)) (tw (i := 384) (by decide +kernel)) (tw (i := 75) (by decide +kernel)) (tw (i := 385) (by decide +kernel))) rfl rfl rfl (by decide +kernel) hR2) ⟨hr_blind, va_recv hK hP (ci := 1) (q := (RX1, TX1, 3)) (fs := objF1 G 0 (M.1 1 0)) (q0 := q0) rfl hq, fun U hU hW => ⟨rfl, by rw [hU]; exact hP, KK.warm hW X.2.2.2.2.2.1⟩⟩ rfl rfl hl.1 rfl (lv_room hst) d hC2) hS (fun q _ h => h) (fun q h => h) (fun u t H1 locs1 ht hvm hw hB hz1 hk1 hS1 => k1 u hw H1 locs1 ls (by rw [← ht]; exact hB.1) hS1 hl)
/-- LayeredClaims$History.keepMark()V -/
def wp_X1_keepMark  (M : Mm) (P : Mm → Prop) : Prop := (∀ M1 : Mm, M1 = wr M 1 0 1 (((rd M 1 0 1) + (1 : Int32)) - ((rd M 1 0 1) + (1 : Int32)) / (7 : Int32) * (7 : Int32)) → (∀ M2 : Mm, M2 = wr M1 1 0 2 (if (6 : Int32) < ((rd M1 1 0 2) + (1 : Int32)) then (6 : Int32) else ((rd M1 1 0 2) + (1 : Int32))) → P M2))
set_option maxHeartbeats 4000000 in
set_option maxRecDepth 100000 in
theorem met_X1_keepMark {l : Launch} {G : GT} (hG : GD G)  (M : Mm) (P : Mm → Prop) (h : wp_X1_keepMark  M P) : MV l G yX1_keepMark cX1_keepMark 1 none ({ frames := 1, cells := 0, slots := 0, locals := 21 } : Room) [.ref (adr G 1 0)] M P := by
  refine met_by hG (own := RX1) rfl (by decide +kernel) (Nat.le_of_ble_eq_true rfl) (fun E hE X Y => ?_)
  show J G E 1 0 [(0, .ref (adr G 1 0))] [] M
  unfold wp_X1_keepMark at h
  refine j_aload_n X 0 dX1_keepMark_0 rfl rfl ?_
  refine j_aload_n X 0 dX1_keepMark_1 rfl rfl ?_
  refine jf_RX1_18 X  dX1_keepMark_2 ?_
  refine j_iconst (v := (1 : Int32)) X (by decide) dX1_keepMark_5 ?_
  refine j_iadd X dX1_keepMark_6 ?_
  refine j_bipush (v := (7 : Int32)) X (by decide) dX1_keepMark_7 ?_
  refine j_irem X (by decide) dX1_keepMark_9 ?_
  refine jp_RX1_18 X   dX1_keepMark_10 ?_
  refine j_memo (fun M1 eM1 => ?_)
  replace h := h M1 eM1
  refine j_aload_n X 0 dX1_keepMark_13 rfl rfl ?_
  refine j_aload_n X 0 dX1_keepMark_14 rfl rfl ?_
  refine jf_RX1_26 X  dX1_keepMark_15 ?_
  refine j_iconst (v := (1 : Int32)) X (by decide) dX1_keepMark_18 ?_
  refine j_iadd X dX1_keepMark_19 ?_
  refine j_bipush (v := (6 : Int32)) X (by decide) dX1_keepMark_20 ?_
  refine j_min X (tw (i := 409) (by decide +kernel)) (Nat.le_of_ble_eq_true rfl) (Nat.le_of_ble_eq_true rfl) dX1_keepMark_22 ?_
  refine jp_RX1_26 X   dX1_keepMark_25 ?_
  refine j_memo (fun M2 eM2 => ?_)
  replace h := h M2 eM2
  exact j_vret X Y dX1_keepMark_28 h
theorem jc_RX6_367 {G : GT} {E : ET} {cc : ByteArray} {nL pc : Nat} {rm : Room} {lv : List (Nat × Value)} {st : List Value} {M : Mm} (X : CX G E RX6 cc nL rm) (hR : 1 + 1 ≤ rm.frames ∧ 8 + (1 + 11) + 21 ≤ rm.locals) (hst : (st.map fun v => v.category).sum ≤ 8) (d : decode cc pc = .ok (.invokevirtual 367, 3))  {P : Mm → Prop} (h : wp_X1_keepMark  M P) (k1 : ∀ M2 : Mm, P M2 → J G E nL (pc + 3) lv st M2) : J G E nL pc lv (.ref (adr G 1 0) :: st) M := fun H locs ls hP hS hl => by
  have hK := X.2.2.2.2.2.1.1
  have hm := met_X1_keepMark (l := eL E) X.2.2.2.2.2.2.1  M P h
  have hR2 : 1 + 1 ≤ (eR E).frames ∧ 8 + (1 + 11) + 21 ≤ (eR E).locals := by rw [X.2.2.2.2.2.2.2.1]; exact hR
  have hC2 : eCells E + 0 ≤ (eR E).cells ∧ eSlots E + 0 ≤ (eR E).slots := by rw [X.2.2.2.2.2.2.2.1]; exact ⟨X.2.2.2.2.2.2.2.2.1, X.2.2.2.2.2.2.2.2.2⟩
  obtain ⟨q0, -, hq⟩ := wld_get (G := G) M (mw1 0 (by decide))
  exact va_callv (va_runV (C := RX1) (As := []) (rest := st) ⟨X.1, X.2.1, X.2.2.1, X.2.2.2.1, X.2.2.2.2.1⟩ hm (cwV (ws' := lw_aw) 0 X.2.2.2.2.1 (gwV (tw (i := 405) (by decide +kernel)) (tw (i := 406) (by decide +kernel)) (tw (i := 407) (by decide +kernel)) (tw (i := 75) (by decide +kernel)) (tw (i := 408) (by decide +kernel))) rfl rfl rfl (by decide +kernel) hR2) ⟨hr_blind, va_recv hK hP (ci := 1) (q := (RX1, TX1, 3)) (fs := objF1 G 0 (M.1 1 0)) (q0 := q0) rfl hq, fun U hU hW => ⟨rfl, by rw [hU]; exact hP, KK.warm hW X.2.2.2.2.2.1⟩⟩ rfl rfl hl.1 rfl (lv_room hst) d hC2) hS (fun q _ h => h) (fun q h => h) (fun u t H1 locs1 ht hvm hw hB hz1 hk1 hS1 => k1 u hw H1 locs1 ls (by rw [← ht]; exact hB.1) hS1 hl)
/-- LayeredClaims$History.returnToMark(LLayeredClaims$Book;)V -/
def wp_X1_returnToMark (a1 : Nat) (M : Mm) (P : Mm → Prop) : Prop := (vp_in (rd M 1 0 1) 7 ∧ (a1 < 9 ∧ (wp_X0_copyFrom a1 (2 + (rd M 1 0 1).toNatClampNeg) M (fun (M3 : Mm) => P M3))))
set_option maxHeartbeats 4000000 in
set_option maxRecDepth 100000 in
theorem met_X1_returnToMark {l : Launch} {G : GT} (hG : GD G) (a1 : Nat) (M : Mm) (P : Mm → Prop) (h : wp_X1_returnToMark a1 M P) : MV l G yX1_returnToMark cX1_returnToMark 2 none ({ frames := 2, cells := 0, slots := 0, locals := 47 } : Room) [.ref (adr G 1 0), .ref (adr G 0 a1)] M P := by
  refine met_by hG (own := RX1) rfl (by decide +kernel) (Nat.le_of_ble_eq_true rfl) (fun E hE X Y => ?_)
  show J G E 2 0 [(0, .ref (adr G 1 0)), (1, .ref (adr G 0 a1))] [] M
  unfold wp_X1_returnToMark at h
  refine j_aload_n X 1 dX1_returnToMark_0 rfl rfl ?_
  refine j_aload_n X 0 dX1_returnToMark_1 rfl rfl ?_
  refine jf_RX1_13 X  dX1_returnToMark_2 ?_
  refine j_aload_n X 0 dX1_returnToMark_5 rfl rfl ?_
  refine jf_RX1_18 X  dX1_returnToMark_6 ?_
  have q1 := h.1
  replace h := h.2
  refine j_aaldB X (mw40 0 (by decide)) kt40 lt40 q1 dX1_returnToMark_9 ?_
  have q2 := h.1
  replace h := h.2
  refine jc_RX1_22 X ⟨Nat.le_of_ble_eq_true rfl, Nat.le_of_ble_eq_true rfl⟩ (Nat.le_of_ble_eq_true rfl) dX1_returnToMark_10 q2 h (fun M3 h => ?_)
  exact j_vret X Y dX1_returnToMark_13 h
theorem jc_RX6_109 {G : GT} {E : ET} {cc : ByteArray} {nL pc : Nat} {rm : Room} {lv : List (Nat × Value)} {st : List Value} {M : Mm} (X : CX G E RX6 cc nL rm) (hR : 2 + 1 ≤ rm.frames ∧ 8 + (2 + 11) + 47 ≤ rm.locals) (hst : (st.map fun v => v.category).sum ≤ 8) (d : decode cc pc = .ok (.invokevirtual 109, 3)) {a1 : Nat} {P : Mm → Prop} (h : wp_X1_returnToMark a1 M P) (k1 : ∀ M2 : Mm, P M2 → J G E nL (pc + 3) lv st M2) : J G E nL pc lv (.ref (adr G 0 a1) :: .ref (adr G 1 0) :: st) M := fun H locs ls hP hS hl => by
  have hK := X.2.2.2.2.2.1.1
  have hm := met_X1_returnToMark (l := eL E) X.2.2.2.2.2.2.1 a1 M P h
  have hR2 : 2 + 1 ≤ (eR E).frames ∧ 8 + (2 + 11) + 47 ≤ (eR E).locals := by rw [X.2.2.2.2.2.2.2.1]; exact hR
  have hC2 : eCells E + 0 ≤ (eR E).cells ∧ eSlots E + 0 ≤ (eR E).slots := by rw [X.2.2.2.2.2.2.2.1]; exact ⟨X.2.2.2.2.2.2.2.2.1, X.2.2.2.2.2.2.2.2.2⟩
  obtain ⟨q0, -, hq⟩ := wld_get (G := G) M (mw1 0 (by decide))
  exact va_callv (va_runV (C := RX1) (As := [.ref (adr G 0 a1)]) (rest := st) ⟨X.1, X.2.1, X.2.2.1, X.2.2.2.1, X.2.2.2.2.1⟩ hm (cwV (ws' := lw_aw) 1 X.2.2.2.2.1 (gwV (tw (i := 530) (by decide +kernel)) (tw (i := 531) (by decide +kernel)) (tw (i := 532) (by decide +kernel)) (tw (i := 75) (by decide +kernel)) (tw (i := 533) (by decide +kernel))) rfl rfl rfl (by decide +kernel) hR2) ⟨hr_blind, va_recv hK hP (ci := 1) (q := (RX1, TX1, 3)) (fs := objF1 G 0 (M.1 1 0)) (q0 := q0) rfl hq, fun U hU hW => ⟨rfl, by rw [hU]; exact hP, KK.warm hW X.2.2.2.2.2.1⟩⟩ rfl rfl hl.1 rfl (lv_room hst) d hC2) hS (fun q _ h => h) (fun q h => h) (fun u t H1 locs1 ht hvm hw hB hz1 hk1 hS1 => k1 u hw H1 locs1 ls (by rw [← ht]; exact hB.1) hS1 hl)
theorem jc_RX1_35 {G : GT} {E : ET} {cc : ByteArray} {nL pc : Nat} {rm : Room} {lv : List (Nat × Value)} {st : List Value} {M : Mm} (X : CX G E RX1 cc nL rm) (hR : 2 + 1 ≤ rm.frames ∧ 8 + (2 + 11) + 47 ≤ rm.locals) (hst : (st.map fun v => v.category).sum ≤ 8) (d : decode cc pc = .ok (.invokevirtual 35, 3)) {a1 : Nat} {P : Mm → Prop} (h : wp_X1_returnToMark a1 M P) (k1 : ∀ M2 : Mm, P M2 → J G E nL (pc + 3) lv st M2) : J G E nL pc lv (.ref (adr G 0 a1) :: .ref (adr G 1 0) :: st) M := fun H locs ls hP hS hl => by
  have hK := X.2.2.2.2.2.1.1
  have hm := met_X1_returnToMark (l := eL E) X.2.2.2.2.2.2.1 a1 M P h
  have hR2 : 2 + 1 ≤ (eR E).frames ∧ 8 + (2 + 11) + 47 ≤ (eR E).locals := by rw [X.2.2.2.2.2.2.2.1]; exact hR
  have hC2 : eCells E + 0 ≤ (eR E).cells ∧ eSlots E + 0 ≤ (eR E).slots := by rw [X.2.2.2.2.2.2.2.1]; exact ⟨X.2.2.2.2.2.2.2.2.1, X.2.2.2.2.2.2.2.2.2⟩
  obtain ⟨q0, -, hq⟩ := wld_get (G := G) M (mw1 0 (by decide))
  exact va_callv (va_runV (C := RX1) (As := [.ref (adr G 0 a1)]) (rest := st) ⟨X.1, X.2.1, X.2.2.1, X.2.2.2.1, X.2.2.2.2.1⟩ hm (cwV (ws' := lw_aw) 1 X.2.2.2.2.1 (gwV (tw (i := 546) (by decide +kernel)) (tw (i := 531) (by decide +kernel)) (tw (i := 532) (by decide +kernel)) (tw (i := 75) (by decide +kernel)) (tw (i := 533) (by decide +kernel))) rfl rfl rfl (by decide +kernel) hR2) ⟨hr_blind, va_recv hK hP (ci := 1) (q := (RX1, TX1, 3)) (fs := objF1 G 0 (M.1 1 0)) (q0 := q0) rfl hq, fun U hU hW => ⟨rfl, by rw [hU]; exact hP, KK.warm hW X.2.2.2.2.2.1⟩⟩ rfl rfl hl.1 rfl (lv_room hst) d hC2) hS (fun q _ h => h) (fun q h => h) (fun u t H1 locs1 ht hvm hw hB hz1 hk1 hS1 => k1 u hw H1 locs1 ls (by rw [← ht]; exact hB.1) hS1 hl)
/-- LayeredClaims$History.goBack(LLayeredClaims$Book;)I -/
def wp_X1_goBack (a1 : Nat) (M : Mm) (P : Int32 → Mm → Prop) : Prop := ((¬ (rd M 1 0 2) = 0 → (∀ M2 : Mm, M2 = wr M 1 0 2 ((rd M 1 0 2) - (1 : Int32)) → (∀ M3 : Mm, M3 = wr M2 1 0 1 ((((rd M2 1 0 1) + (7 : Int32)) - (1 : Int32)) - (((rd M2 1 0 1) + (7 : Int32)) - (1 : Int32)) / (7 : Int32) * (7 : Int32)) → (wp_X1_returnToMark a1 M3 (fun (M4 : Mm) => P (rd M4 1 0 2) M4))))) ∧ ((rd M 1 0 2) = 0 → P (-4 : Int32) M))
set_option maxHeartbeats 4000000 in
set_option maxRecDepth 100000 in
theorem met_X1_goBack {l : Launch} {G : GT} (hG : GD G) (a1 : Nat) (M : Mm) (P : Int32 → Mm → Prop) (h : wp_X1_goBack a1 M P) : MI l G yX1_goBack cX1_goBack 2 (some .int) ({ frames := 3, cells := 0, slots := 0, locals := 68 } : Room) [.ref (adr G 1 0), .ref (adr G 0 a1)] M P := by
  refine met_by hG (own := RX1) rfl (by decide +kernel) (Nat.le_of_ble_eq_true rfl) (fun E hE X Y => ?_)
  show J G E 2 0 [(0, .ref (adr G 1 0)), (1, .ref (adr G 0 a1))] [] M
  unfold wp_X1_goBack at h
  refine j_aload_n X 0 dX1_goBack_0 rfl rfl ?_
  refine jf_RX1_26 X  dX1_goBack_1 ?_
  refine j_if_ne X 10 dX1_goBack_4 (by decide) (fun c1 => ?_) (fun c1 => ?_)
  · replace h := h.1 c1
    refine j_aload_n X 0 dX1_goBack_10 rfl rfl ?_
    refine j_dup X rfl dX1_goBack_11 ?_
    refine jf_RX1_26 X  dX1_goBack_12 ?_
    refine j_iconst (v := (1 : Int32)) X (by decide) dX1_goBack_15 ?_
    refine j_isub X dX1_goBack_16 ?_
    refine jp_RX1_26 X   dX1_goBack_17 ?_
    refine j_memo (fun M2 eM2 => ?_)
    replace h := h M2 eM2
    refine j_aload_n X 0 dX1_goBack_20 rfl rfl ?_
    refine j_aload_n X 0 dX1_goBack_21 rfl rfl ?_
    refine jf_RX1_18 X  dX1_goBack_22 ?_
    refine j_bipush (v := (7 : Int32)) X (by decide) dX1_goBack_25 ?_
    refine j_iadd X dX1_goBack_27 ?_
    refine j_iconst (v := (1 : Int32)) X (by decide) dX1_goBack_28 ?_
    refine j_isub X dX1_goBack_29 ?_
    refine j_bipush (v := (7 : Int32)) X (by decide) dX1_goBack_30 ?_
    refine j_irem X (by decide) dX1_goBack_32 ?_
    refine jp_RX1_18 X   dX1_goBack_33 ?_
    refine j_memo (fun M3 eM3 => ?_)
    replace h := h M3 eM3
    refine j_aload_n X 0 dX1_goBack_36 rfl rfl ?_
    refine j_aload_n X 1 dX1_goBack_37 rfl rfl ?_
    refine jc_RX1_35 X ⟨Nat.le_of_ble_eq_true rfl, Nat.le_of_ble_eq_true rfl⟩ (Nat.le_of_ble_eq_true rfl) dX1_goBack_38 h (fun M4 h => ?_)
    refine j_aload_n X 0 dX1_goBack_41 rfl rfl ?_
    refine jf_RX1_26 X  dX1_goBack_42 ?_
    exact j_iret X Y dX1_goBack_45 h
  · replace h := h.2 c1
    refine j_bipush (v := (-4 : Int32)) X (by decide) dX1_goBack_7 ?_
    exact j_iret X Y dX1_goBack_9 h
theorem jc_RX6_116 {G : GT} {E : ET} {cc : ByteArray} {nL pc : Nat} {rm : Room} {lv : List (Nat × Value)} {st : List Value} {M : Mm} (X : CX G E RX6 cc nL rm) (hR : 3 + 1 ≤ rm.frames ∧ 8 + (2 + 11) + 68 ≤ rm.locals) (hst : (st.map fun v => v.category).sum ≤ 8) (d : decode cc pc = .ok (.invokevirtual 116, 3)) {a1 : Nat} {P : Int32 → Mm → Prop} (h : wp_X1_goBack a1 M P) (k1 : ∀ (r : Int32) (M2 : Mm), P r M2 → J G E nL (pc + 3) lv (.int r :: st) M2) : J G E nL pc lv (.ref (adr G 0 a1) :: .ref (adr G 1 0) :: st) M := fun H locs ls hP hS hl => by
  have hK := X.2.2.2.2.2.1.1
  have hm := met_X1_goBack (l := eL E) X.2.2.2.2.2.2.1 a1 M P h
  have hR2 : 3 + 1 ≤ (eR E).frames ∧ 8 + (2 + 11) + 68 ≤ (eR E).locals := by rw [X.2.2.2.2.2.2.2.1]; exact hR
  have hC2 : eCells E + 0 ≤ (eR E).cells ∧ eSlots E + 0 ≤ (eR E).slots := by rw [X.2.2.2.2.2.2.2.1]; exact ⟨X.2.2.2.2.2.2.2.2.1, X.2.2.2.2.2.2.2.2.2⟩
  obtain ⟨q0, -, hq⟩ := wld_get (G := G) M (mw1 0 (by decide))
  exact va_calli (va_runV (C := RX1) (As := [.ref (adr G 0 a1)]) (rest := st) ⟨X.1, X.2.1, X.2.2.1, X.2.2.2.1, X.2.2.2.2.1⟩ hm (cwV (ws' := lw_aw) 1 X.2.2.2.2.1 (gwV (tw (i := 542) (by decide +kernel)) (tw (i := 543) (by decide +kernel)) (tw (i := 544) (by decide +kernel)) (tw (i := 75) (by decide +kernel)) (tw (i := 545) (by decide +kernel))) rfl rfl rfl (by decide +kernel) hR2) ⟨hr_blind, va_recv hK hP (ci := 1) (q := (RX1, TX1, 3)) (fs := objF1 G 0 (M.1 1 0)) (q0 := q0) rfl hq, fun U hU hW => ⟨rfl, by rw [hU]; exact hP, KK.warm hW X.2.2.2.2.2.1⟩⟩ rfl rfl hl.1 rfl (lv_room hst) d hC2) hS (fun q _ h => h) (fun q h => h) (fun r u t H1 locs1 ht hvm hw hB hz1 hk1 hS1 => k1 r u hw H1 locs1 ls (by rw [← ht]; exact hB.1) hS1 hl)
/-- LayeredClaims$History.forget()V -/
def wp_X1_forget  (M : Mm) (P : Mm → Prop) : Prop := (∀ M1 : Mm, M1 = wr M 1 0 2 (0 : Int32) → P M1)
set_option maxHeartbeats 4000000 in
set_option maxRecDepth 100000 in
theorem met_X1_forget {l : Launch} {G : GT} (hG : GD G)  (M : Mm) (P : Mm → Prop) (h : wp_X1_forget  M P) : MV l G yX1_forget cX1_forget 1 none ({ frames := 0, cells := 0, slots := 0, locals := 0 } : Room) [.ref (adr G 1 0)] M P := by
  refine met_by hG (own := RX1) rfl (by decide +kernel) (Nat.le_of_ble_eq_true rfl) (fun E hE X Y => ?_)
  show J G E 1 0 [(0, .ref (adr G 1 0))] [] M
  unfold wp_X1_forget at h
  refine j_aload_n X 0 dX1_forget_0 rfl rfl ?_
  refine j_iconst (v := (0 : Int32)) X (by decide) dX1_forget_1 ?_
  refine jp_RX1_26 X   dX1_forget_2 ?_
  refine j_memo (fun M1 eM1 => ?_)
  replace h := h M1 eM1
  exact j_vret X Y dX1_forget_5 h
theorem jc_RX6_364 {G : GT} {E : ET} {cc : ByteArray} {nL pc : Nat} {rm : Room} {lv : List (Nat × Value)} {st : List Value} {M : Mm} (X : CX G E RX6 cc nL rm) (hR : 0 + 1 ≤ rm.frames ∧ 8 + (1 + 11) + 0 ≤ rm.locals) (hst : (st.map fun v => v.category).sum ≤ 8) (d : decode cc pc = .ok (.invokevirtual 364, 3))  {P : Mm → Prop} (h : wp_X1_forget  M P) (k1 : ∀ M2 : Mm, P M2 → J G E nL (pc + 3) lv st M2) : J G E nL pc lv (.ref (adr G 1 0) :: st) M := fun H locs ls hP hS hl => by
  have hK := X.2.2.2.2.2.1.1
  have hm := met_X1_forget (l := eL E) X.2.2.2.2.2.2.1  M P h
  have hR2 : 0 + 1 ≤ (eR E).frames ∧ 8 + (1 + 11) + 0 ≤ (eR E).locals := by rw [X.2.2.2.2.2.2.2.1]; exact hR
  have hC2 : eCells E + 0 ≤ (eR E).cells ∧ eSlots E + 0 ≤ (eR E).slots := by rw [X.2.2.2.2.2.2.2.1]; exact ⟨X.2.2.2.2.2.2.2.2.1, X.2.2.2.2.2.2.2.2.2⟩
  obtain ⟨q0, -, hq⟩ := wld_get (G := G) M (mw1 0 (by decide))
  exact va_callv (va_runV (C := RX1) (As := []) (rest := st) ⟨X.1, X.2.1, X.2.2.1, X.2.2.2.1, X.2.2.2.2.1⟩ hm (cwV (ws' := lw_aw) 0 X.2.2.2.2.1 (gwV (tw (i := 862) (by decide +kernel)) (tw (i := 863) (by decide +kernel)) (tw (i := 864) (by decide +kernel)) (tw (i := 75) (by decide +kernel)) (tw (i := 865) (by decide +kernel))) rfl rfl rfl (by decide +kernel) hR2) ⟨hr_blind, va_recv hK hP (ci := 1) (q := (RX1, TX1, 3)) (fs := objF1 G 0 (M.1 1 0)) (q0 := q0) rfl hq, fun U hU hW => ⟨rfl, by rw [hU]; exact hP, KK.warm hW X.2.2.2.2.2.1⟩⟩ rfl rfl hl.1 rfl (lv_room hst) d hC2) hS (fun q _ h => h) (fun q h => h) (fun u t H1 locs1 ht hvm hw hB hz1 hk1 hS1 => k1 u hw H1 locs1 ls (by rw [← ht]; exact hB.1) hS1 hl)
/-- LayeredClaims.quotient(JJ)I -/
def wp_X6_quotient (a1 : Int64) (a2 : Int64) (M : Mm) (P : Int32 → Mm → Prop) : Prop := (((lg_cmp a2 (0 : Int64)) ≤ 0 → P (0 : Int32) M) ∧ (¬ (lg_cmp a2 (0 : Int64)) ≤ 0 → (¬ a2 = 0 ∧ P (a1 / a2).toInt32 M)))
set_option maxHeartbeats 4000000 in
set_option maxRecDepth 100000 in
theorem met_X6_quotient {l : Launch} {G : GT} (hG : GD G) (a1 : Int64) (a2 : Int64) (M : Mm) (P : Int32 → Mm → Prop) (h : wp_X6_quotient a1 a2 M P) : MI l G yX6_quotient cX6_quotient 4 (some .int) ({ frames := 0, cells := 0, slots := 0, locals := 0 } : Room) [.long a1, .long a2] M P := by
  refine met_by hG (own := RX6) rfl (by decide +kernel) (Nat.le_of_ble_eq_true rfl) (fun E hE X Y => ?_)
  show J G E 4 0 [(0, .long a1), (2, .long a2)] [] M
  unfold wp_X6_quotient at h
  refine j_lload_n X 1 dX6_quotient_0 rfl rfl ?_
  refine j_lconst (v := (0 : Int64)) X (by decide) dX6_quotient_1 ?_
  refine j_lcmp X dX6_quotient_2 ?_
  refine j_if_le X 13 dX6_quotient_3 (by decide) (fun c1 => ?_) (fun c1 => ?_)
  · replace h := h.1 c1
    refine j_iconst (v := (0 : Int32)) X (by decide) dX6_quotient_13 ?_
    exact j_iret X Y dX6_quotient_14 h
  · replace h := h.2 c1
    refine j_lload_n X 0 dX6_quotient_6 rfl rfl ?_
    refine j_lload_n X 1 dX6_quotient_7 rfl rfl ?_
    have q2 := h.1
    replace h := h.2
    refine j_ldiv X q2 dX6_quotient_8 ?_
    refine j_l2i X dX6_quotient_9 ?_
    refine j_goto X 14 dX6_quotient_10 (by decide) ?_
    exact j_iret X Y dX6_quotient_14 h
theorem jc_RX2_26 {G : GT} {E : ET} {cc : ByteArray} {nL pc : Nat} {rm : Room} {lv : List (Nat × Value)} {st : List Value} {M : Mm} (X : CX G E RX2 cc nL rm) (hR : 0 + 1 ≤ rm.frames ∧ 8 + (4 + 11) + 0 ≤ rm.locals) (hst : (st.map fun v => v.category).sum ≤ 8) (d : decode cc pc = .ok (.invokestatic 26, 3)) {a1 : Int64} {a2 : Int64} {P : Int32 → Mm → Prop} (h : wp_X6_quotient a1 a2 M P) (k1 : ∀ (r : Int32) (M2 : Mm), P r M2 → J G E nL (pc + 3) lv (.int r :: st) M2) : J G E nL pc lv (.long a2 :: .long a1 :: st) M := fun H locs ls hP hS hl => by
  have hK := X.2.2.2.2.2.1.1
  have hm := met_X6_quotient (l := eL E) X.2.2.2.2.2.2.1 a1 a2 M P h
  have hR2 : 0 + 1 ≤ (eR E).frames ∧ 8 + (4 + 11) + 0 ≤ (eR E).locals := by rw [X.2.2.2.2.2.2.2.1]; exact hR
  have hC2 : eCells E + 0 ≤ (eR E).cells ∧ eSlots E + 0 ≤ (eR E).slots := by rw [X.2.2.2.2.2.2.2.1]; exact ⟨X.2.2.2.2.2.2.2.2.1, X.2.2.2.2.2.2.2.2.2⟩
  exact va_calli (va_runSN (As := [.long a1, .long a2]) (rest := st) ⟨X.1, X.2.1, X.2.2.1, X.2.2.2.1, X.2.2.2.2.1⟩ hm ⟨va_cnB (host := "LayeredClaims") (ws' := lw_aw) 2 X.2.2.2.2.1 (good_ws (tw (i := 595) (by decide +kernel))) rfl rfl rfl (X.2.2.2.2.2.1.2 _ (tn (i := 593) (by decide +kernel))) (X.2.2.2.2.1 _ (tw (i := 71) (by decide +kernel))) (by decide +kernel) hR2, X.2.2.2.2.1 _ (tw (i := 594) (by decide +kernel)), trivial⟩ ⟨hr_blind, fun U hU hW => ⟨rfl, by rw [hU]; exact hP, KK.warm hW X.2.2.2.2.2.1⟩⟩ rfl rfl hl.1 rfl (lv_room hst) d hC2) hS (fun q _ h => h) (fun q h => h) (fun r u t H1 locs1 ht hvm hw hB hz1 hk1 hS1 => k1 r u hw H1 locs1 ls (by rw [← ht]; exact hB.1) hS1 hl)
theorem jc_RX5_192 {G : GT} {E : ET} {cc : ByteArray} {nL pc : Nat} {rm : Room} {lv : List (Nat × Value)} {st : List Value} {M : Mm} (X : CX G E RX5 cc nL rm) (hR : 0 + 1 ≤ rm.frames ∧ 8 + (4 + 11) + 0 ≤ rm.locals) (hst : (st.map fun v => v.category).sum ≤ 8) (d : decode cc pc = .ok (.invokestatic 192, 3)) {a1 : Int64} {a2 : Int64} {P : Int32 → Mm → Prop} (h : wp_X6_quotient a1 a2 M P) (k1 : ∀ (r : Int32) (M2 : Mm), P r M2 → J G E nL (pc + 3) lv (.int r :: st) M2) : J G E nL pc lv (.long a2 :: .long a1 :: st) M := fun H locs ls hP hS hl => by
  have hK := X.2.2.2.2.2.1.1
  have hm := met_X6_quotient (l := eL E) X.2.2.2.2.2.2.1 a1 a2 M P h
  have hR2 : 0 + 1 ≤ (eR E).frames ∧ 8 + (4 + 11) + 0 ≤ (eR E).locals := by rw [X.2.2.2.2.2.2.2.1]; exact hR
  have hC2 : eCells E + 0 ≤ (eR E).cells ∧ eSlots E + 0 ≤ (eR E).slots := by rw [X.2.2.2.2.2.2.2.1]; exact ⟨X.2.2.2.2.2.2.2.2.1, X.2.2.2.2.2.2.2.2.2⟩
  exact va_calli (va_runSN (As := [.long a1, .long a2]) (rest := st) ⟨X.1, X.2.1, X.2.2.1, X.2.2.2.1, X.2.2.2.2.1⟩ hm ⟨va_cnB (host := "LayeredClaims") (ws' := lw_aw) 2 X.2.2.2.2.1 (good_ws (tw (i := 595) (by decide +kernel))) rfl rfl rfl (X.2.2.2.2.2.1.2 _ (tn (i := 643) (by decide +kernel))) (X.2.2.2.2.1 _ (tw (i := 71) (by decide +kernel))) (by decide +kernel) hR2, X.2.2.2.2.1 _ (tw (i := 594) (by decide +kernel)), trivial⟩ ⟨hr_blind, fun U hU hW => ⟨rfl, by rw [hU]; exact hP, KK.warm hW X.2.2.2.2.2.1⟩⟩ rfl rfl hl.1 rfl (lv_room hst) d hC2) hS (fun q _ h => h) (fun q h => h) (fun r u t H1 locs1 ht hvm hw hB hz1 hk1 hS1 => k1 r u hw H1 locs1 ls (by rw [← ht]; exact hB.1) hS1 hl)
/-- LayeredClaims$Sharing.greatestRemainder(I)I -/
def wp_X2_greatestRemainder (a1 : Int32) (M : Mm) (P : Int32 → Mm → Prop) : Prop := (∃ n, lq2 (fun self1 (x3 : Int32) (x4 : Int32) => ((a1 ≤ x4 → P x3 M) ∧ (¬ a1 ≤ x4 → (vp_in x4 24 ∧ (vp_in x3 24 ∧ (jn (fun (x8 : Int32) => (∀ x11 : Int32, x11 = x4 + (1 : Int32) → self1 x8 x11)) (fun J9 : Int32 → Prop => (((lg_cmp (rdL M x4.toNatClampNeg) (rdL M x3.toNatClampNeg)) ≤ 0 → J9 x3) ∧ (¬ (lg_cmp (rdL M x4.toNatClampNeg) (rdL M x3.toNatClampNeg)) ≤ 0 → J9 x4))))))))) n (0 : Int32) (1 : Int32))
set_option maxHeartbeats 4000000 in
set_option maxRecDepth 100000 in
theorem met_X2_greatestRemainder {l : Launch} {G : GT} (hG : GD G) (a1 : Int32) (M : Mm) (P : Int32 → Mm → Prop) (h : wp_X2_greatestRemainder a1 M P) : MI l G yX2_greatestRemainder cX2_greatestRemainder 4 (some .int) ({ frames := 0, cells := 0, slots := 0, locals := 0 } : Room) [.ref (adr G 2 0), .int a1] M P := by
  refine met_by hG (own := RX2) rfl (by decide +kernel) (Nat.le_of_ble_eq_true rfl) (fun E hE X Y => ?_)
  show J G E 4 0 [(0, .ref (adr G 2 0)), (1, .int a1)] [] M
  unfold wp_X2_greatestRemainder at h
  refine j_iconst (v := (0 : Int32)) X (by decide) dX2_greatestRemainder_0 ?_
  refine j_istore_n X [(2, .int (0 : Int32)), (0, .ref (adr G 2 0)), (1, .int a1)] dX2_greatestRemainder_1 rfl (by decide) rfl ?_
  refine j_iconst (v := (1 : Int32)) X (by decide) dX2_greatestRemainder_2 ?_
  refine j_istore_n X [(3, .int (1 : Int32)), (2, .int (0 : Int32)), (0, .ref (adr G 2 0)), (1, .int a1)] dX2_greatestRemainder_3 rfl (by decide) rfl ?_
  refine j_sub [2, 3, 1, 0] rfl ?_
  refine lq2_s h (fun (x3 : Int32) (x4 : Int32) => J G E 4 4 [(0, .ref (adr G 2 0)), (1, .int a1), (2, .int x3), (3, .int x4)] [] M) (fun self1 ih2 x3 x4 h => ?_) id
  refine j_iload_n X 3 dX2_greatestRemainder_4 rfl rfl ?_
  refine j_iload_n X 1 dX2_greatestRemainder_5 rfl rfl ?_
  refine j_icmp_ge X 33 dX2_greatestRemainder_6 (by decide) (fun c5 => ?_) (fun c5 => ?_)
  · replace h := h.1 c5
    refine j_iload_n X 2 dX2_greatestRemainder_33 rfl rfl ?_
    exact j_iret X Y dX2_greatestRemainder_34 h
  · replace h := h.2 c5
    refine j_aload_n X 0 dX2_greatestRemainder_9 rfl rfl ?_
    refine jf_RX2_18 X  dX2_greatestRemainder_10 ?_
    refine j_iload_n X 3 dX2_greatestRemainder_13 rfl rfl ?_
    have q6 := h.1
    replace h := h.2
    refine j_lald X (mw62 0 (by decide)) kt62 lt62 q6 dX2_greatestRemainder_14 ?_
    refine j_aload_n X 0 dX2_greatestRemainder_15 rfl rfl ?_
    refine jf_RX2_18 X  dX2_greatestRemainder_16 ?_
    refine j_iload_n X 2 dX2_greatestRemainder_19 rfl rfl ?_
    have q7 := h.1
    replace h := h.2
    refine j_lald X (mw62 0 (by decide)) kt62 lt62 q7 dX2_greatestRemainder_20 ?_
    refine j_lcmp X dX2_greatestRemainder_21 ?_
    refine jn1_s h (fun (x8 : Int32) => J G E 4 27 [(0, .ref (adr G 2 0)), (1, .int a1), (2, .int x8), (3, .int x4)] [] M) (fun x8 h => ?_) (fun J9 hj10 h => ?_)
    · obtain ⟨x11, ex11⟩ : ∃ z : Int32, z = x4 + (1 : Int32) := ⟨_, rfl⟩
      replace h := h x11 ex11
      refine j_iinc (v := x11) X 3 [(3, .int x11), (0, .ref (adr G 2 0)), (1, .int a1), (2, .int x8)] dX2_greatestRemainder_27 rfl (by rw [ex11]; rfl) (by decide) rfl ?_
      refine j_goto X 4 dX2_greatestRemainder_30 (by decide) ?_
      refine j_sub [1, 2, 3, 0] rfl ?_
      exact ih2 x8 x11 h
    · refine j_if_le X 27 dX2_greatestRemainder_22 (by decide) (fun c12 => ?_) (fun c12 => ?_)
      · replace h := h.1 c12
        refine j_sub [0, 1, 2, 3] rfl ?_
        exact hj10 x3 h
      · replace h := h.2 c12
        refine j_iload_n X 3 dX2_greatestRemainder_25 rfl rfl ?_
        refine j_istore_n X [(2, .int x4), (0, .ref (adr G 2 0)), (1, .int a1), (3, .int x4)] dX2_greatestRemainder_26 rfl (by decide) rfl ?_
        refine j_sub [1, 2, 0, 3] rfl ?_
        exact hj10 x4 h
theorem jc_RX2_30 {G : GT} {E : ET} {cc : ByteArray} {nL pc : Nat} {rm : Room} {lv : List (Nat × Value)} {st : List Value} {M : Mm} (X : CX G E RX2 cc nL rm) (hR : 0 + 1 ≤ rm.frames ∧ 8 + (4 + 11) + 0 ≤ rm.locals) (hst : (st.map fun v => v.category).sum ≤ 8) (d : decode cc pc = .ok (.invokevirtual 30, 3)) {a1 : Int32} {P : Int32 → Mm → Prop} (h : wp_X2_greatestRemainder a1 M P) (k1 : ∀ (r : Int32) (M2 : Mm), P r M2 → J G E nL (pc + 3) lv (.int r :: st) M2) : J G E nL pc lv (.int a1 :: .ref (adr G 2 0) :: st) M := fun H locs ls hP hS hl => by
  have hK := X.2.2.2.2.2.1.1
  have hm := met_X2_greatestRemainder (l := eL E) X.2.2.2.2.2.2.1 a1 M P h
  have hR2 : 0 + 1 ≤ (eR E).frames ∧ 8 + (4 + 11) + 0 ≤ (eR E).locals := by rw [X.2.2.2.2.2.2.2.1]; exact hR
  have hC2 : eCells E + 0 ≤ (eR E).cells ∧ eSlots E + 0 ≤ (eR E).slots := by rw [X.2.2.2.2.2.2.2.1]; exact ⟨X.2.2.2.2.2.2.2.2.1, X.2.2.2.2.2.2.2.2.2⟩
  obtain ⟨q0, -, hq⟩ := wld_get (G := G) M (mw2 0 (by decide))
  exact va_calli (va_runV (C := RX2) (As := [.int a1]) (rest := st) ⟨X.1, X.2.1, X.2.2.1, X.2.2.2.1, X.2.2.2.2.1⟩ hm (cwV (ws' := lw_aw) 1 X.2.2.2.2.1 (gwV (tw (i := 596) (by decide +kernel)) (tw (i := 598) (by decide +kernel)) (tw (i := 12) (by decide +kernel)) (tw (i := 74) (by decide +kernel)) (tw (i := 599) (by decide +kernel))) rfl rfl rfl (by decide +kernel) hR2) ⟨hr_blind, va_recv hK hP (ci := 2) (q := (RX2, TX2, 3)) (fs := objF2 G 0 (M.1 2 0)) (q0 := q0) rfl hq, fun U hU hW => ⟨rfl, by rw [hU]; exact hP, KK.warm hW X.2.2.2.2.2.1⟩⟩ rfl rfl hl.1 rfl (lv_room hst) d hC2) hS (fun q _ h => h) (fun q h => h) (fun r u t H1 locs1 ht hvm hw hB hz1 hk1 hS1 => k1 r u hw H1 locs1 ls (by rw [← ht]; exact hB.1) hS1 hl)
/-- LayeredClaims$Sharing.shareOut(II)V -/
def wp_X2_shareOut (a1 : Int32) (a2 : Int32) (M : Mm) (P : Mm → Prop) : Prop := (wp_X6_sumOf (60, 0) a2 M (fun (r2 : Int32) (M1 : Mm) => (∃ n, lq3 (fun self3 (x5 : Int32) (x6 : Int32) (M7 : Mm) => ((a2 ≤ x6 → (∃ n, lq3 (fun self9 (x11 : Int32) (x12 : Int32) (M13 : Mm) => ((a2 ≤ x12 → P M13) ∧ (¬ a2 ≤ x12 → ((x11 ≤ 0 → P M13) ∧ (¬ x11 ≤ 0 → (wp_X2_greatestRemainder a2 M13 (fun (r17 : Int32) (M16 : Mm) => (vp_in r17 24 ∧ (∀ M19 : Mm, M19 = wr M16 61 0 r17.toNatClampNeg ((rd M16 61 0 r17.toNatClampNeg) + (1 : Int32)) → (∀ M20 : Mm, M20 = wrL M19 r17.toNatClampNeg (-1 : Int64) → (∀ x21 : Int32, x21 = x11 + (-1 : Int32) → (∀ x22 : Int32, x22 = x12 + (1 : Int32) → self9 x21 x22 M20)))))))))))) n x5 (0 : Int32) M7)) ∧ (¬ a2 ≤ x6 → (vp_in x6 24 ∧ (∀ x24 : Int64, x24 = (a1.toInt64 * (rd M7 60 0 x6.toNatClampNeg).toInt64) → (wp_X6_quotient x24 r2.toInt64 M7 (fun (r26 : Int32) (M25 : Mm) => (∀ M27 : Mm, M27 = wr M25 61 0 x6.toNatClampNeg r26 → (∀ M28 : Mm, M28 = wrL M27 x6.toNatClampNeg (x24 - ((rd M27 61 0 x6.toNatClampNeg).toInt64 * r2.toInt64)) → (∀ x29 : Int32, x29 = (x5 - (rd M28 61 0 x6.toNatClampNeg)) → (∀ x30 : Int32, x30 = x6 + (1 : Int32) → self3 x29 x30 M28))))))))))) n a1 (0 : Int32) M1)))
set_option maxHeartbeats 4000000 in
set_option maxRecDepth 100000 in
theorem met_X2_shareOut {l : Launch} {G : GT} (hG : GD G) (a1 : Int32) (a2 : Int32) (M : Mm) (P : Mm → Prop) (h : wp_X2_shareOut a1 a2 M P) : MV l G yX2_shareOut cX2_shareOut 8 none ({ frames := 1, cells := 0, slots := 0, locals := 23 } : Room) [.ref (adr G 2 0), .int a1, .int a2] M P := by
  refine met_by hG (own := RX2) rfl (by decide +kernel) (Nat.le_of_ble_eq_true rfl) (fun E hE X Y => ?_)
  show J G E 8 0 [(0, .ref (adr G 2 0)), (1, .int a1), (2, .int a2)] [] M
  unfold wp_X2_shareOut at h
  refine j_aload_n X 0 dX2_shareOut_0 rfl rfl ?_
  refine jf_RX2_9 X  dX2_shareOut_1 ?_
  refine j_iload_n X 2 dX2_shareOut_4 rfl rfl ?_
  refine jc_RX2_22 X ⟨Nat.le_of_ble_eq_true rfl, Nat.le_of_ble_eq_true rfl⟩ (Nat.le_of_ble_eq_true rfl) dX2_shareOut_5 h (fun r2 M1 h => ?_)
  refine j_istore_n X [(3, .int r2), (0, .ref (adr G 2 0)), (1, .int a1), (2, .int a2)] dX2_shareOut_8 rfl (by decide) rfl ?_
  refine j_iload_n X 2 dX2_shareOut_9 rfl rfl ?_
  refine j_istore X [(4, .int a1), (3, .int r2), (0, .ref (adr G 2 0)), (1, .int a1), (2, .int a2)] dX2_shareOut_10 (by decide) rfl ?_
  refine j_iconst (v := (0 : Int32)) X (by decide) dX2_shareOut_12 ?_
  refine j_istore X [(5, .int (0 : Int32)), (4, .int a1), (3, .int r2), (0, .ref (adr G 2 0)), (1, .int a1), (2, .int a2)] dX2_shareOut_13 (by decide) rfl ?_
  refine j_sub [3, 4, 5, 2, 1, 0] rfl ?_
  refine lq3_s h (fun (x5 : Int32) (x6 : Int32) (M7 : Mm) => J G E 8 15 [(0, .ref (adr G 2 0)), (1, .int a1), (2, .int a2), (3, .int r2), (4, .int x5), (5, .int x6)] [] M7) (fun self3 ih4 x5 x6 M7 h => ?_) id
  refine j_iload X 5 dX2_shareOut_15 rfl ?_
  refine j_iload_n X 2 dX2_shareOut_17 rfl rfl ?_
  refine j_icmp_ge X 87 dX2_shareOut_18 (by decide) (fun c8 => ?_) (fun c8 => ?_)
  · replace h := h.1 c8
    refine j_iconst (v := (0 : Int32)) X (by decide) dX2_shareOut_87 ?_
    refine j_istore X [(5, .int (0 : Int32)), (0, .ref (adr G 2 0)), (1, .int a1), (2, .int a2), (3, .int r2), (4, .int x5)] dX2_shareOut_88 (by decide) rfl ?_
    refine j_sub [1, 3, 5, 0] rfl ?_
    refine lq3_s h (fun (x11 : Int32) (x12 : Int32) (M13 : Mm) => J G E 8 90 [(0, .ref (adr G 2 0)), (2, .int a2), (4, .int x11), (5, .int x12)] [] M13) (fun self9 ih10 x11 x12 M13 h => ?_) id
    refine j_iload X 3 dX2_shareOut_90 rfl ?_
    refine j_iload_n X 1 dX2_shareOut_92 rfl rfl ?_
    refine j_icmp_ge X 138 dX2_shareOut_93 (by decide) (fun c14 => ?_) (fun c14 => ?_)
    · replace h := h.1 c14
      exact j_vret X Y dX2_shareOut_138 h
    · replace h := h.2 c14
      refine j_iload X 2 dX2_shareOut_96 rfl ?_
      refine j_if_le X 138 dX2_shareOut_98 (by decide) (fun c15 => ?_) (fun c15 => ?_)
      · replace h := h.1 c15
        exact j_vret X Y dX2_shareOut_138 h
      · replace h := h.2 c15
        refine j_aload_n X 0 dX2_shareOut_101 rfl rfl ?_
        refine j_iload_n X 1 dX2_shareOut_102 rfl rfl ?_
        refine jc_RX2_30 X ⟨Nat.le_of_ble_eq_true rfl, Nat.le_of_ble_eq_true rfl⟩ (Nat.le_of_ble_eq_true rfl) dX2_shareOut_103 h (fun r17 M16 h => ?_)
        refine j_istore X [(6, .int r17), (0, .ref (adr G 2 0)), (2, .int a2), (4, .int x11), (5, .int x12)] dX2_shareOut_106 (by decide) rfl ?_
        refine j_aload_n X 1 dX2_shareOut_108 rfl rfl ?_
        refine jf_RX2_15 X  dX2_shareOut_109 ?_
        refine j_iload X 0 dX2_shareOut_112 rfl ?_
        refine j_dup2 X rfl rfl dX2_shareOut_114 ?_
        have q18 := h.1
        replace h := h.2
        refine j_iald X _ rfl (mw61 0 (by decide)) kt61 lt61 q18 dX2_shareOut_115 ?_
        refine j_iconst (v := (1 : Int32)) X (by decide) dX2_shareOut_116 ?_
        refine j_iadd X dX2_shareOut_117 ?_
        refine j_iast X _ rfl (mw61 0 (by decide)) kt61 lt61 q18 dX2_shareOut_118 ?_
        refine j_memo (fun M19 eM19 => ?_)
        replace h := h M19 eM19
        refine j_aload_n X 1 dX2_shareOut_119 rfl rfl ?_
        refine jf_RX2_18 X  dX2_shareOut_120 ?_
        refine j_iload X 0 dX2_shareOut_123 rfl ?_
        refine j_ldc2 (v := (-1 : Int64)) X (tw (i := 600) (by decide +kernel)) dX2_shareOut_125 ?_
        refine j_last X lt62 q18 dX2_shareOut_128 ?_
        refine j_memo (fun M20 eM20 => ?_)
        replace h := h M20 eM20
        obtain ⟨x21, ex21⟩ : ∃ z : Int32, z = x11 + (-1 : Int32) := ⟨_, rfl⟩
        replace h := h x21 ex21
        refine j_iinc (v := x21) X 3 [(4, .int x21), (6, .int r17), (0, .ref (adr G 2 0)), (2, .int a2), (5, .int x12)] dX2_shareOut_129 rfl (by rw [ex21]; rfl) (by decide) rfl ?_
        obtain ⟨x22, ex22⟩ : ∃ z : Int32, z = x12 + (1 : Int32) := ⟨_, rfl⟩
        replace h := h x22 ex22
        refine j_iinc (v := x22) X 4 [(5, .int x22), (4, .int x21), (6, .int r17), (0, .ref (adr G 2 0)), (2, .int a2)] dX2_shareOut_132 rfl (by rw [ex22]; rfl) (by decide) rfl ?_
        refine j_goto X 90 dX2_shareOut_135 (by decide) ?_
        refine j_sub [3, 4, 1, 0] rfl ?_
        exact ih10 x21 x22 M20 h
  · replace h := h.2 c8
    refine j_iload_n X 1 dX2_shareOut_21 rfl rfl ?_
    refine j_i2l X dX2_shareOut_22 ?_
    refine j_aload_n X 0 dX2_shareOut_23 rfl rfl ?_
    refine jf_RX2_9 X  dX2_shareOut_24 ?_
    refine j_iload X 5 dX2_shareOut_27 rfl ?_
    have q23 := h.1
    replace h := h.2
    refine j_iald X _ rfl (mw60 0 (by decide)) kt60 lt60 q23 dX2_shareOut_29 ?_
    refine j_i2l X dX2_shareOut_30 ?_
    refine j_lmul X dX2_shareOut_31 ?_
    refine j_topl (fun x24 ex24 => ?_)
    replace h := h x24 ex24
    refine j_lstore X [(6, .long x24), (0, .ref (adr G 2 0)), (1, .int a1), (2, .int a2), (3, .int r2), (4, .int x5), (5, .int x6)] dX2_shareOut_32 (by decide) rfl ?_
    refine j_aload_n X 1 dX2_shareOut_34 rfl rfl ?_
    refine jf_RX2_15 X  dX2_shareOut_35 ?_
    refine j_iload X 6 dX2_shareOut_38 rfl ?_
    refine j_lload X 0 dX2_shareOut_40 rfl ?_
    refine j_iload_n X 4 dX2_shareOut_42 rfl rfl ?_
    refine j_i2l X dX2_shareOut_43 ?_
    refine jc_RX2_26 X ⟨Nat.le_of_ble_eq_true rfl, Nat.le_of_ble_eq_true rfl⟩ (Nat.le_of_ble_eq_true rfl) dX2_shareOut_44 h (fun r26 M25 h => ?_)
    refine j_iast X _ rfl (mw61 0 (by decide)) kt61 lt61 q23 dX2_shareOut_47 ?_
    refine j_memo (fun M27 eM27 => ?_)
    replace h := h M27 eM27
    refine j_aload_n X 1 dX2_shareOut_48 rfl rfl ?_
    refine jf_RX2_18 X  dX2_shareOut_49 ?_
    refine j_iload X 6 dX2_shareOut_52 rfl ?_
    refine j_lload X 0 dX2_shareOut_54 rfl ?_
    refine j_aload_n X 1 dX2_shareOut_56 rfl rfl ?_
    refine jf_RX2_15 X  dX2_shareOut_57 ?_
    refine j_iload X 6 dX2_shareOut_60 rfl ?_
    refine j_iald X _ rfl (mw61 0 (by decide)) kt61 lt61 q23 dX2_shareOut_62 ?_
    refine j_i2l X dX2_shareOut_63 ?_
    refine j_iload_n X 4 dX2_shareOut_64 rfl rfl ?_
    refine j_i2l X dX2_shareOut_65 ?_
    refine j_lmul X dX2_shareOut_66 ?_
    refine j_lsub X dX2_shareOut_67 ?_
    refine j_last X lt62 q23 dX2_shareOut_68 ?_
    refine j_memo (fun M28 eM28 => ?_)
    replace h := h M28 eM28
    refine j_iload X 5 dX2_shareOut_69 rfl ?_
    refine j_aload_n X 1 dX2_shareOut_71 rfl rfl ?_
    refine jf_RX2_15 X  dX2_shareOut_72 ?_
    refine j_iload X 6 dX2_shareOut_75 rfl ?_
    refine j_iald X _ rfl (mw61 0 (by decide)) kt61 lt61 q23 dX2_shareOut_77 ?_
    refine j_isub X dX2_shareOut_78 ?_
    refine j_topi (fun x29 ex29 => ?_)
    replace h := h x29 ex29
    refine j_istore X [(4, .int x29), (6, .long x24), (0, .ref (adr G 2 0)), (1, .int a1), (2, .int a2), (3, .int r2), (5, .int x6)] dX2_shareOut_79 (by decide) rfl ?_
    obtain ⟨x30, ex30⟩ : ∃ z : Int32, z = x6 + (1 : Int32) := ⟨_, rfl⟩
    replace h := h x30 ex30
    refine j_iinc (v := x30) X 6 [(5, .int x30), (4, .int x29), (6, .long x24), (0, .ref (adr G 2 0)), (1, .int a1), (2, .int a2), (3, .int r2)] dX2_shareOut_81 rfl (by rw [ex30]; rfl) (by decide) rfl ?_
    refine j_goto X 15 dX2_shareOut_84 (by decide) ?_
    refine j_sub [3, 4, 5, 6, 1, 0] rfl ?_
    exact ih4 x29 x30 M28 h
theorem jc_RX5_148 {G : GT} {E : ET} {cc : ByteArray} {nL pc : Nat} {rm : Room} {lv : List (Nat × Value)} {st : List Value} {M : Mm} (X : CX G E RX5 cc nL rm) (hR : 1 + 1 ≤ rm.frames ∧ 8 + (8 + 11) + 23 ≤ rm.locals) (hst : (st.map fun v => v.category).sum ≤ 8) (d : decode cc pc = .ok (.invokevirtual 148, 3)) {a1 : Int32} {a2 : Int32} {P : Mm → Prop} (h : wp_X2_shareOut a1 a2 M P) (k1 : ∀ M2 : Mm, P M2 → J G E nL (pc + 3) lv st M2) : J G E nL pc lv (.int a2 :: .int a1 :: .ref (adr G 2 0) :: st) M := fun H locs ls hP hS hl => by
  have hK := X.2.2.2.2.2.1.1
  have hm := met_X2_shareOut (l := eL E) X.2.2.2.2.2.2.1 a1 a2 M P h
  have hR2 : 1 + 1 ≤ (eR E).frames ∧ 8 + (8 + 11) + 23 ≤ (eR E).locals := by rw [X.2.2.2.2.2.2.2.1]; exact hR
  have hC2 : eCells E + 0 ≤ (eR E).cells ∧ eSlots E + 0 ≤ (eR E).slots := by rw [X.2.2.2.2.2.2.2.1]; exact ⟨X.2.2.2.2.2.2.2.2.1, X.2.2.2.2.2.2.2.2.2⟩
  obtain ⟨q0, -, hq⟩ := wld_get (G := G) M (mw2 0 (by decide))
  exact va_callv (va_runV (C := RX2) (As := [.int a1, .int a2]) (rest := st) ⟨X.1, X.2.1, X.2.2.1, X.2.2.2.1, X.2.2.2.2.1⟩ hm (cwV (ws' := lw_aw) 2 X.2.2.2.2.1 (gwV (tw (i := 586) (by decide +kernel)) (tw (i := 587) (by decide +kernel)) (tw (i := 588) (by decide +kernel)) (tw (i := 74) (by decide +kernel)) (tw (i := 589) (by decide +kernel))) rfl rfl rfl (by decide +kernel) hR2) ⟨hr_blind, va_recv hK hP (ci := 2) (q := (RX2, TX2, 3)) (fs := objF2 G 0 (M.1 2 0)) (q0 := q0) rfl hq, fun U hU hW => ⟨rfl, by rw [hU]; exact hP, KK.warm hW X.2.2.2.2.2.1⟩⟩ rfl rfl hl.1 rfl (lv_room hst) d hC2) hS (fun q _ h => h) (fun q h => h) (fun u t H1 locs1 ht hvm hw hB hz1 hk1 hS1 => k1 u hw H1 locs1 ls (by rw [← ht]; exact hB.1) hS1 hl)
/-- LayeredClaims$Text.extend(I)I -/
def wp_X3_extend (a1 : Int32) (M : Mm) (P : Int32 → Mm → Prop) : Prop := (∃ n, lq3 (fun self1 (x3 : Int32) (x4 : Int32) (M5 : Mm) => ((x4 < 0 → ((((rd M5 3 0 1) + x3) ≤ (60 : Int32) → (∃ n, lq2 (fun self8 (x10 : Int32) (M11 : Mm) => ((x10 < 0 → P (rd M11 3 0 1) M11) ∧ (¬ x10 < 0 → (∀ x13 : Int32, x13 = ((a1.toUInt32 >>> (x10.toUInt32 &&& Int32.toUInt32 31)).toInt32 &&& (255 : Int32)) → (jn (fun  (M14 : Mm) => (∀ x17 : Int32, x17 = x10 + (-8 : Int32) → self8 x17 M14)) (fun J15 : Mm → Prop => ((x13 = 0 → J15 M11) ∧ (¬ x13 = 0 → (vp_in (rd M11 3 0 1) 60 ∧ (∀ M20 : Mm, M20 = wr M11 80 0 (rd M11 3 0 1).toNatClampNeg (vp_nar .char (x13.toUInt32 % 65536).toInt32) → (∀ M21 : Mm, M21 = wr M20 3 0 1 ((rd M20 3 0 1) + (1 : Int32)) → J15 M21))))))))))) n (24 : Int32) M5)) ∧ (¬ ((rd M5 3 0 1) + x3) ≤ (60 : Int32) → P (-3 : Int32) M5))) ∧ (¬ x4 < 0 → (∀ x22 : Int32, x22 = ((a1.toUInt32 >>> (x4.toUInt32 &&& Int32.toUInt32 31)).toInt32 &&& (255 : Int32)) → (jn (fun  (M23 : Mm) => (jn (fun (v26 : Int32) => (∀ x29 : Int32, x29 = (x3 + v26) → (∀ x30 : Int32, x30 = x4 + (-8 : Int32) → self1 x29 x30 M23))) (fun J27 : Int32 → Prop => ((¬ x22 = 0 → J27 (1 : Int32)) ∧ (x22 = 0 → J27 (0 : Int32)))))) (fun J24 : Mm → Prop => ((x22 = 0 → J24 M5) ∧ (¬ x22 = 0 → (wp_X6_isWithin x22 (33 : Int32) (126 : Int32) M5 (fun (r34 : Int32) (M33 : Mm) => ((¬ r34 = 0 → J24 M33) ∧ (r34 = 0 → P (-2 : Int32) M33)))))))))))) n (0 : Int32) (24 : Int32) M)
set_option maxHeartbeats 4000000 in
set_option maxRecDepth 100000 in
theorem met_X3_extend {l : Launch} {G : GT} (hG : GD G) (a1 : Int32) (M : Mm) (P : Int32 → Mm → Prop) (h : wp_X3_extend a1 M P) : MI l G yX3_extend cX3_extend 5 (some .int) ({ frames := 1, cells := 0, slots := 0, locals := 22 } : Room) [.ref (adr G 3 0), .int a1] M P := by
  refine met_by hG (own := RX3) rfl (by decide +kernel) (Nat.le_of_ble_eq_true rfl) (fun E hE X Y => ?_)
  show J G E 5 0 [(0, .ref (adr G 3 0)), (1, .int a1)] [] M
  unfold wp_X3_extend at h
  refine j_iconst (v := (0 : Int32)) X (by decide) dX3_extend_0 ?_
  refine j_istore_n X [(2, .int (0 : Int32)), (0, .ref (adr G 3 0)), (1, .int a1)] dX3_extend_1 rfl (by decide) rfl ?_
  refine j_bipush (v := (24 : Int32)) X (by decide) dX3_extend_2 ?_
  refine j_istore_n X [(3, .int (24 : Int32)), (2, .int (0 : Int32)), (0, .ref (adr G 3 0)), (1, .int a1)] dX3_extend_4 rfl (by decide) rfl ?_
  refine j_sub [2, 3, 1, 0] rfl ?_
  refine lq3_s h (fun (x3 : Int32) (x4 : Int32) (M5 : Mm) => J G E 5 5 [(0, .ref (adr G 3 0)), (1, .int a1), (2, .int x3), (3, .int x4)] [] M5) (fun self1 ih2 x3 x4 M5 h => ?_) id
  refine j_iload_n X 3 dX3_extend_5 rfl rfl ?_
  refine j_if_lt X 57 dX3_extend_6 (by decide) (fun c6 => ?_) (fun c6 => ?_)
  · replace h := h.1 c6
    refine j_aload_n X 0 dX3_extend_57 rfl rfl ?_
    refine jf_RX3_31 X  dX3_extend_58 ?_
    refine j_iload_n X 2 dX3_extend_61 rfl rfl ?_
    refine j_iadd X dX3_extend_62 ?_
    refine j_bipush (v := (60 : Int32)) X (by decide) dX3_extend_63 ?_
    refine j_icmp_le X 71 dX3_extend_65 (by decide) (fun c7 => ?_) (fun c7 => ?_)
    · replace h := h.1 c7
      refine j_bipush (v := (24 : Int32)) X (by decide) dX3_extend_71 ?_
      refine j_istore_n X [(3, .int (24 : Int32)), (0, .ref (adr G 3 0)), (1, .int a1), (2, .int x3)] dX3_extend_73 rfl (by decide) rfl ?_
      refine j_sub [1, 2, 0] rfl ?_
      refine lq2_s h (fun (x10 : Int32) (M11 : Mm) => J G E 5 74 [(0, .ref (adr G 3 0)), (1, .int a1), (3, .int x10)] [] M11) (fun self8 ih9 x10 M11 h => ?_) id
      refine j_iload_n X 2 dX3_extend_74 rfl rfl ?_
      refine j_if_lt X 120 dX3_extend_75 (by decide) (fun c12 => ?_) (fun c12 => ?_)
      · replace h := h.1 c12
        refine j_aload_n X 0 dX3_extend_120 rfl rfl ?_
        refine jf_RX3_31 X  dX3_extend_121 ?_
        exact j_iret X Y dX3_extend_124 h
      · replace h := h.2 c12
        refine j_iload_n X 1 dX3_extend_78 rfl rfl ?_
        refine j_iload_n X 2 dX3_extend_79 rfl rfl ?_
        refine j_iushr X dX3_extend_80 ?_
        refine j_sipush (v := (255 : Int32)) X (by decide) dX3_extend_81 ?_
        refine j_iand X dX3_extend_84 ?_
        refine j_topi (fun x13 ex13 => ?_)
        replace h := h x13 ex13
        refine j_istore X [(4, .int x13), (0, .ref (adr G 3 0)), (1, .int a1), (3, .int x10)] dX3_extend_85 (by decide) rfl ?_
        refine j_iload X 0 dX3_extend_87 rfl ?_
        refine jn1_s h (fun  (M14 : Mm) => J G E 5 114 [(0, .ref (adr G 3 0)), (1, .int a1), (3, .int x10)] [] M14) (fun M14 h => ?_) (fun J15 hj16 h => ?_)
        · obtain ⟨x17, ex17⟩ : ∃ z : Int32, z = x10 + (-8 : Int32) := ⟨_, rfl⟩
          replace h := h x17 ex17
          refine j_iinc (v := x17) X 2 [(3, .int x17), (0, .ref (adr G 3 0)), (1, .int a1)] dX3_extend_114 rfl (by rw [ex17]; rfl) (by decide) rfl ?_
          refine j_goto X 74 dX3_extend_117 (by decide) ?_
          refine j_sub [1, 2, 0] rfl ?_
          exact ih9 x17 M14 h
        · refine j_if_eq X 114 dX3_extend_89 (by decide) (fun c18 => ?_) (fun c18 => ?_)
          · replace h := h.1 c18
            refine j_sub [1, 2, 3] rfl ?_
            exact hj16 M11 h
          · replace h := h.2 c18
            refine j_aload_n X 1 dX3_extend_92 rfl rfl ?_
            refine jf_RX3_11 X  dX3_extend_93 ?_
            refine j_aload_n X 1 dX3_extend_96 rfl rfl ?_
            refine jf_RX3_31 X  dX3_extend_97 ?_
            refine j_iload X 0 dX3_extend_100 rfl ?_
            refine j_i2c X dX3_extend_102 ?_
            have q19 := h.1
            replace h := h.2
            refine j_cast X _ rfl (mw80 0 (by decide)) kt80 lt80 q19 dX3_extend_103 ?_
            refine j_memo (fun M20 eM20 => ?_)
            replace h := h M20 eM20
            refine j_aload_n X 1 dX3_extend_104 rfl rfl ?_
            refine j_dup X rfl dX3_extend_105 ?_
            refine jf_RX3_31 X  dX3_extend_106 ?_
            refine j_iconst (v := (1 : Int32)) X (by decide) dX3_extend_109 ?_
            refine j_iadd X dX3_extend_110 ?_
            refine jp_RX3_31 X   dX3_extend_111 ?_
            refine j_memo (fun M21 eM21 => ?_)
            replace h := h M21 eM21
            refine j_sub [1, 2, 3] rfl ?_
            exact hj16 M21 h
    · replace h := h.2 c7
      refine j_bipush (v := (-3 : Int32)) X (by decide) dX3_extend_68 ?_
      exact j_iret X Y dX3_extend_70 h
  · replace h := h.2 c6
    refine j_iload_n X 1 dX3_extend_9 rfl rfl ?_
    refine j_iload_n X 3 dX3_extend_10 rfl rfl ?_
    refine j_iushr X dX3_extend_11 ?_
    refine j_sipush (v := (255 : Int32)) X (by decide) dX3_extend_12 ?_
    refine j_iand X dX3_extend_15 ?_
    refine j_topi (fun x22 ex22 => ?_)
    replace h := h x22 ex22
    refine j_istore X [(4, .int x22), (0, .ref (adr G 3 0)), (1, .int a1), (2, .int x3), (3, .int x4)] dX3_extend_16 (by decide) rfl ?_
    refine j_iload X 0 dX3_extend_18 rfl ?_
    refine jn1_s h (fun  (M23 : Mm) => J G E 5 38 [(0, .ref (adr G 3 0)), (1, .int a1), (2, .int x3), (3, .int x4), (4, .int x22)] [] M23) (fun M23 h => ?_) (fun J24 hj25 h => ?_)
    · refine j_iload_n X 2 dX3_extend_38 rfl rfl ?_
      refine j_iload X 4 dX3_extend_39 rfl ?_
      refine jn1_s h (fun (v26 : Int32) => J G E 5 49 [(0, .ref (adr G 3 0)), (1, .int a1), (3, .int x4)] [.int v26, .int x3] M23) (fun v26 h => ?_) (fun J27 hj28 h => ?_)
      · refine j_iadd X dX3_extend_49 ?_
        refine j_topi (fun x29 ex29 => ?_)
        replace h := h x29 ex29
        refine j_istore_n X [(2, .int x29), (0, .ref (adr G 3 0)), (1, .int a1), (3, .int x4)] dX3_extend_50 rfl (by decide) rfl ?_
        obtain ⟨x30, ex30⟩ : ∃ z : Int32, z = x4 + (-8 : Int32) := ⟨_, rfl⟩
        replace h := h x30 ex30
        refine j_iinc (v := x30) X 3 [(3, .int x30), (2, .int x29), (0, .ref (adr G 3 0)), (1, .int a1)] dX3_extend_51 rfl (by rw [ex30]; rfl) (by decide) rfl ?_
        refine j_goto X 5 dX3_extend_54 (by decide) ?_
        refine j_sub [2, 3, 1, 0] rfl ?_
        exact ih2 x29 x30 M23 h
      · refine j_if_ne X 48 dX3_extend_41 (by decide) (fun c31 => ?_) (fun c31 => ?_)
        · replace h := h.1 c31
          refine j_iconst (v := (1 : Int32)) X (by decide) dX3_extend_48 ?_
          refine j_sub [0, 1, 3] rfl ?_
          exact hj28 (1 : Int32) h
        · replace h := h.2 c31
          refine j_iconst (v := (0 : Int32)) X (by decide) dX3_extend_44 ?_
          refine j_goto X 49 dX3_extend_45 (by decide) ?_
          refine j_sub [0, 1, 3] rfl ?_
          exact hj28 (0 : Int32) h
    · refine j_if_eq X 38 dX3_extend_20 (by decide) (fun c32 => ?_) (fun c32 => ?_)
      · replace h := h.1 c32
        refine j_sub [1, 2, 3, 4, 0] rfl ?_
        exact hj25 M5 h
      · replace h := h.2 c32
        refine j_iload X 0 dX3_extend_23 rfl ?_
        refine j_bipush (v := (33 : Int32)) X (by decide) dX3_extend_25 ?_
        refine j_bipush (v := (126 : Int32)) X (by decide) dX3_extend_27 ?_
        refine jc_RX3_27 X ⟨Nat.le_of_ble_eq_true rfl, Nat.le_of_ble_eq_true rfl⟩ (Nat.le_of_ble_eq_true rfl) dX3_extend_29 h (fun r34 M33 h => ?_)
        refine j_if_ne X 38 dX3_extend_32 (by decide) (fun c35 => ?_) (fun c35 => ?_)
        · replace h := h.1 c35
          refine j_sub [1, 2, 3, 4, 0] rfl ?_
          exact hj25 M33 h
        · replace h := h.2 c35
          refine j_bipush (v := (-2 : Int32)) X (by decide) dX3_extend_35 ?_
          exact j_iret X Y dX3_extend_37 h
theorem jc_RX6_90 {G : GT} {E : ET} {cc : ByteArray} {nL pc : Nat} {rm : Room} {lv : List (Nat × Value)} {st : List Value} {M : Mm} (X : CX G E RX6 cc nL rm) (hR : 1 + 1 ≤ rm.frames ∧ 8 + (5 + 11) + 22 ≤ rm.locals) (hst : (st.map fun v => v.category).sum ≤ 8) (d : decode cc pc = .ok (.invokevirtual 90, 3)) {a1 : Int32} {P : Int32 → Mm → Prop} (h : wp_X3_extend a1 M P) (k1 : ∀ (r : Int32) (M2 : Mm), P r M2 → J G E nL (pc + 3) lv (.int r :: st) M2) : J G E nL pc lv (.int a1 :: .ref (adr G 3 0) :: st) M := fun H locs ls hP hS hl => by
  have hK := X.2.2.2.2.2.1.1
  have hm := met_X3_extend (l := eL E) X.2.2.2.2.2.2.1 a1 M P h
  have hR2 : 1 + 1 ≤ (eR E).frames ∧ 8 + (5 + 11) + 22 ≤ (eR E).locals := by rw [X.2.2.2.2.2.2.2.1]; exact hR
  have hC2 : eCells E + 0 ≤ (eR E).cells ∧ eSlots E + 0 ≤ (eR E).slots := by rw [X.2.2.2.2.2.2.2.1]; exact ⟨X.2.2.2.2.2.2.2.2.1, X.2.2.2.2.2.2.2.2.2⟩
  obtain ⟨q0, -, hq⟩ := wld_get (G := G) M (mw3 0 (by decide))
  exact va_calli (va_runV (C := RX3) (As := [.int a1]) (rest := st) ⟨X.1, X.2.1, X.2.2.1, X.2.2.2.1, X.2.2.2.2.1⟩ hm (cwV (ws' := lw_aw) 1 X.2.2.2.2.1 (gwV (tw (i := 497) (by decide +kernel)) (tw (i := 498) (by decide +kernel)) (tw (i := 499) (by decide +kernel)) (tw (i := 76) (by decide +kernel)) (tw (i := 500) (by decide +kernel))) rfl rfl rfl (by decide +kernel) hR2) ⟨hr_blind, va_recv hK hP (ci := 3) (q := (RX3, TX3, 7)) (fs := objF3 G 0 (M.1 3 0)) (q0 := q0) rfl hq, fun U hU hW => ⟨rfl, by rw [hU]; exact hP, KK.warm hW X.2.2.2.2.2.1⟩⟩ rfl rfl hl.1 rfl (lv_room hst) d hC2) hS (fun q _ h => h) (fun q h => h) (fun r u t H1 locs1 ht hvm hw hB hz1 hk1 hS1 => k1 r u hw H1 locs1 ls (by rw [← ht]; exact hB.1) hS1 hl)
/-- LayeredClaims$Text.clear()V -/
def wp_X3_clear  (M : Mm) (P : Mm → Prop) : Prop := (∀ M1 : Mm, M1 = wr M 3 0 1 (0 : Int32) → P M1)
set_option maxHeartbeats 4000000 in
set_option maxRecDepth 100000 in
theorem met_X3_clear {l : Launch} {G : GT} (hG : GD G)  (M : Mm) (P : Mm → Prop) (h : wp_X3_clear  M P) : MV l G yX3_clear cX3_clear 1 none ({ frames := 0, cells := 0, slots := 0, locals := 0 } : Room) [.ref (adr G 3 0)] M P := by
  refine met_by hG (own := RX3) rfl (by decide +kernel) (Nat.le_of_ble_eq_true rfl) (fun E hE X Y => ?_)
  show J G E 1 0 [(0, .ref (adr G 3 0))] [] M
  unfold wp_X3_clear at h
  refine j_aload_n X 0 dX3_clear_0 rfl rfl ?_
  refine j_iconst (v := (0 : Int32)) X (by decide) dX3_clear_1 ?_
  refine jp_RX3_31 X   dX3_clear_2 ?_
  refine j_memo (fun M1 eM1 => ?_)
  replace h := h M1 eM1
  exact j_vret X Y dX3_clear_5 h
theorem jc_RX6_97 {G : GT} {E : ET} {cc : ByteArray} {nL pc : Nat} {rm : Room} {lv : List (Nat × Value)} {st : List Value} {M : Mm} (X : CX G E RX6 cc nL rm) (hR : 0 + 1 ≤ rm.frames ∧ 8 + (1 + 11) + 0 ≤ rm.locals) (hst : (st.map fun v => v.category).sum ≤ 8) (d : decode cc pc = .ok (.invokevirtual 97, 3))  {P : Mm → Prop} (h : wp_X3_clear  M P) (k1 : ∀ M2 : Mm, P M2 → J G E nL (pc + 3) lv st M2) : J G E nL pc lv (.ref (adr G 3 0) :: st) M := fun H locs ls hP hS hl => by
  have hK := X.2.2.2.2.2.1.1
  have hm := met_X3_clear (l := eL E) X.2.2.2.2.2.2.1  M P h
  have hR2 : 0 + 1 ≤ (eR E).frames ∧ 8 + (1 + 11) + 0 ≤ (eR E).locals := by rw [X.2.2.2.2.2.2.2.1]; exact hR
  have hC2 : eCells E + 0 ≤ (eR E).cells ∧ eSlots E + 0 ≤ (eR E).slots := by rw [X.2.2.2.2.2.2.2.1]; exact ⟨X.2.2.2.2.2.2.2.2.1, X.2.2.2.2.2.2.2.2.2⟩
  obtain ⟨q0, -, hq⟩ := wld_get (G := G) M (mw3 0 (by decide))
  exact va_callv (va_runV (C := RX3) (As := []) (rest := st) ⟨X.1, X.2.1, X.2.2.1, X.2.2.2.1, X.2.2.2.2.1⟩ hm (cwV (ws' := lw_aw) 0 X.2.2.2.2.1 (gwV (tw (i := 522) (by decide +kernel)) (tw (i := 523) (by decide +kernel)) (tw (i := 524) (by decide +kernel)) (tw (i := 76) (by decide +kernel)) (tw (i := 525) (by decide +kernel))) rfl rfl rfl (by decide +kernel) hR2) ⟨hr_blind, va_recv hK hP (ci := 3) (q := (RX3, TX3, 7)) (fs := objF3 G 0 (M.1 3 0)) (q0 := q0) rfl hq, fun U hU hW => ⟨rfl, by rw [hU]; exact hP, KK.warm hW X.2.2.2.2.2.1⟩⟩ rfl rfl hl.1 rfl (lv_room hst) d hC2) hS (fun q _ h => h) (fun q h => h) (fun u t H1 locs1 ht hvm hw hB hz1 hk1 hS1 => k1 u hw H1 locs1 ls (by rw [← ht]; exact hB.1) hS1 hl)
/-- LayeredClaims$Text.scanNumber([II)Z -/
def wp_X3_scanNumber (a1 : Nat × Nat) (a2 : Int32) (M : Mm) (P : Int32 → Mm → Prop) : Prop := (∃ n, lq3 (fun self1 (x3 : Int32) (x4 : Int32) (M5 : Mm) => (jn (fun  (M6 : Mm) => (IA (a1.1, a1.2) ∧ (vp_in a2 (lenT a1.1) ∧ (∀ M11 : Mm, M11 = wr M6 a1.1 a1.2 a2.toNatClampNeg x3 → ((x4 ≤ 0 → P (0 : Int32) M11) ∧ (¬ x4 ≤ 0 → P (1 : Int32) M11)))))) (fun J7 : Mm → Prop => (((6 : Int32) ≤ x4 → J7 M5) ∧ (¬ (6 : Int32) ≤ x4 → (((rd M5 3 0 1) ≤ (rd M5 3 0 2) → J7 M5) ∧ (¬ (rd M5 3 0 1) ≤ (rd M5 3 0 2) → (vp_in (rd M5 3 0 2) 60 ∧ (wp_X6_isWithin (rd M5 80 0 (rd M5 3 0 2).toNatClampNeg) (48 : Int32) (57 : Int32) M5 (fun (r17 : Int32) (M16 : Mm) => ((r17 = 0 → J7 M16) ∧ (¬ r17 = 0 → (vp_in (rd M16 3 0 2) 60 ∧ (∀ x20 : Int32, x20 = (((x3 * (10 : Int32)) + (rd M16 80 0 (rd M16 3 0 2).toNatClampNeg)) - (48 : Int32)) → (∀ x21 : Int32, x21 = x4 + (1 : Int32) → (∀ M22 : Mm, M22 = wr M16 3 0 2 ((rd M16 3 0 2) + (1 : Int32)) → self1 x20 x21 M22)))))))))))))))) n (0 : Int32) (0 : Int32) M)
set_option maxHeartbeats 4000000 in
set_option maxRecDepth 100000 in
theorem met_X3_scanNumber {l : Launch} {G : GT} (hG : GD G) (a1 : Nat × Nat) (a2 : Int32) (M : Mm) (P : Int32 → Mm → Prop) (h : wp_X3_scanNumber a1 a2 M P) : MI l G yX3_scanNumber cX3_scanNumber 5 (some .boolean) ({ frames := 1, cells := 0, slots := 0, locals := 22 } : Room) [.ref (adr G 3 0), .ref (adr G a1.1 a1.2), .int a2] M P := by
  refine met_by hG (own := RX3) rfl (by decide +kernel) (Nat.le_of_ble_eq_true rfl) (fun E hE X Y => ?_)
  show J G E 5 0 [(0, .ref (adr G 3 0)), (1, .ref (adr G a1.1 a1.2)), (2, .int a2)] [] M
  unfold wp_X3_scanNumber at h
  refine j_iconst (v := (0 : Int32)) X (by decide) dX3_scanNumber_0 ?_
  refine j_istore_n X [(3, .int (0 : Int32)), (0, .ref (adr G 3 0)), (1, .ref (adr G a1.1 a1.2)), (2, .int a2)] dX3_scanNumber_1 rfl (by decide) rfl ?_
  refine j_iconst (v := (0 : Int32)) X (by decide) dX3_scanNumber_2 ?_
  refine j_istore X [(4, .int (0 : Int32)), (3, .int (0 : Int32)), (0, .ref (adr G 3 0)), (1, .ref (adr G a1.1 a1.2)), (2, .int a2)] dX3_scanNumber_3 (by decide) rfl ?_
  refine j_sub [2, 3, 4, 1, 0] rfl ?_
  refine lq3_s h (fun (x3 : Int32) (x4 : Int32) (M5 : Mm) => J G E 5 5 [(0, .ref (adr G 3 0)), (1, .ref (adr G a1.1 a1.2)), (2, .int a2), (3, .int x3), (4, .int x4)] [] M5) (fun self1 ih2 x3 x4 M5 h => ?_) id
  refine j_iload X 4 dX3_scanNumber_5 rfl ?_
  refine j_bipush (v := (6 : Int32)) X (by decide) dX3_scanNumber_7 ?_
  refine jn1_s h (fun  (M6 : Mm) => J G E 5 76 [(1, .ref (adr G a1.1 a1.2)), (2, .int a2), (3, .int x3), (4, .int x4)] [] M6) (fun M6 h => ?_) (fun J7 hj8 h => ?_)
  · refine j_aload_n X 0 dX3_scanNumber_76 rfl rfl ?_
    refine j_iload_n X 1 dX3_scanNumber_77 rfl rfl ?_
    refine j_iload_n X 2 dX3_scanNumber_78 rfl rfl ?_
    have q9 := h.1
    replace h := h.2
    have q10 := h.1
    replace h := h.2
    refine j_iast X _ rfl q9.1 q9.2 rfl q10 dX3_scanNumber_79 ?_
    refine j_memo (fun M11 eM11 => ?_)
    replace h := h M11 eM11
    refine j_iload X 3 dX3_scanNumber_80 rfl ?_
    refine j_if_le X 89 dX3_scanNumber_82 (by decide) (fun c12 => ?_) (fun c12 => ?_)
    · replace h := h.1 c12
      refine j_iconst (v := (0 : Int32)) X (by decide) dX3_scanNumber_89 ?_
      exact j_zret X Y dX3_scanNumber_90 rfl h
    · replace h := h.2 c12
      refine j_iconst (v := (1 : Int32)) X (by decide) dX3_scanNumber_85 ?_
      refine j_goto X 90 dX3_scanNumber_86 (by decide) ?_
      exact j_zret X Y dX3_scanNumber_90 rfl h
  · refine j_icmp_ge X 76 dX3_scanNumber_9 (by decide) (fun c13 => ?_) (fun c13 => ?_)
    · replace h := h.1 c13
      refine j_sub [1, 2, 3, 4] rfl ?_
      exact hj8 M5 h
    · replace h := h.2 c13
      refine j_aload_n X 0 dX3_scanNumber_12 rfl rfl ?_
      refine jf_RX3_35 X  dX3_scanNumber_13 ?_
      refine j_aload_n X 0 dX3_scanNumber_16 rfl rfl ?_
      refine jf_RX3_31 X  dX3_scanNumber_17 ?_
      refine j_icmp_ge X 76 dX3_scanNumber_20 (by decide) (fun c14 => ?_) (fun c14 => ?_)
      · replace h := h.1 c14
        refine j_sub [1, 2, 3, 4] rfl ?_
        exact hj8 M5 h
      · replace h := h.2 c14
        refine j_aload_n X 0 dX3_scanNumber_23 rfl rfl ?_
        refine jf_RX3_11 X  dX3_scanNumber_24 ?_
        refine j_aload_n X 0 dX3_scanNumber_27 rfl rfl ?_
        refine jf_RX3_35 X  dX3_scanNumber_28 ?_
        have q15 := h.1
        replace h := h.2
        refine j_cald X _ rfl (mw80 0 (by decide)) kt80 lt80 q15 dX3_scanNumber_31 ?_
        refine j_bipush (v := (48 : Int32)) X (by decide) dX3_scanNumber_32 ?_
        refine j_bipush (v := (57 : Int32)) X (by decide) dX3_scanNumber_34 ?_
        refine jc_RX3_27 X ⟨Nat.le_of_ble_eq_true rfl, Nat.le_of_ble_eq_true rfl⟩ (Nat.le_of_ble_eq_true rfl) dX3_scanNumber_36 h (fun r17 M16 h => ?_)
        refine j_if_eq X 76 dX3_scanNumber_39 (by decide) (fun c18 => ?_) (fun c18 => ?_)
        · replace h := h.1 c18
          refine j_sub [1, 2, 3, 4] rfl ?_
          exact hj8 M16 h
        · replace h := h.2 c18
          refine j_iload_n X 3 dX3_scanNumber_42 rfl rfl ?_
          refine j_bipush (v := (10 : Int32)) X (by decide) dX3_scanNumber_43 ?_
          refine j_imul X dX3_scanNumber_45 ?_
          refine j_aload_n X 0 dX3_scanNumber_46 rfl rfl ?_
          refine jf_RX3_11 X  dX3_scanNumber_47 ?_
          refine j_aload_n X 0 dX3_scanNumber_50 rfl rfl ?_
          refine jf_RX3_35 X  dX3_scanNumber_51 ?_
          have q19 := h.1
          replace h := h.2
          refine j_cald X _ rfl (mw80 0 (by decide)) kt80 lt80 q19 dX3_scanNumber_54 ?_
          refine j_iadd X dX3_scanNumber_55 ?_
          refine j_bipush (v := (48 : Int32)) X (by decide) dX3_scanNumber_56 ?_
          refine j_isub X dX3_scanNumber_58 ?_
          refine j_topi (fun x20 ex20 => ?_)
          replace h := h x20 ex20
          refine j_istore_n X [(3, .int x20), (0, .ref (adr G 3 0)), (1, .ref (adr G a1.1 a1.2)), (2, .int a2), (4, .int x4)] dX3_scanNumber_59 rfl (by decide) rfl ?_
          obtain ⟨x21, ex21⟩ : ∃ z : Int32, z = x4 + (1 : Int32) := ⟨_, rfl⟩
          replace h := h x21 ex21
          refine j_iinc (v := x21) X 4 [(4, .int x21), (3, .int x20), (0, .ref (adr G 3 0)), (1, .ref (adr G a1.1 a1.2)), (2, .int a2)] dX3_scanNumber_60 rfl (by rw [ex21]; rfl) (by decide) rfl ?_
          refine j_aload_n X 2 dX3_scanNumber_63 rfl rfl ?_
          refine j_dup X rfl dX3_scanNumber_64 ?_
          refine jf_RX3_35 X  dX3_scanNumber_65 ?_
          refine j_iconst (v := (1 : Int32)) X (by decide) dX3_scanNumber_68 ?_
          refine j_iadd X dX3_scanNumber_69 ?_
          refine jp_RX3_35 X   dX3_scanNumber_70 ?_
          refine j_memo (fun M22 eM22 => ?_)
          replace h := h M22 eM22
          refine j_goto X 5 dX3_scanNumber_73 (by decide) ?_
          refine j_sub [2, 3, 4, 1, 0] rfl ?_
          exact ih2 x20 x21 M22 h
theorem jc_RX3_49 {G : GT} {E : ET} {cc : ByteArray} {nL pc : Nat} {rm : Room} {lv : List (Nat × Value)} {st : List Value} {M : Mm} (X : CX G E RX3 cc nL rm) (hR : 1 + 1 ≤ rm.frames ∧ 8 + (5 + 11) + 22 ≤ rm.locals) (hst : (st.map fun v => v.category).sum ≤ 8) (d : decode cc pc = .ok (.invokevirtual 49, 3)) {a1t a1b : Nat} {a2 : Int32} {P : Int32 → Mm → Prop} (h : wp_X3_scanNumber (a1t, a1b) a2 M P) (k1 : ∀ (r : Int32) (M2 : Mm), P r M2 → J G E nL (pc + 3) lv (.int r :: st) M2) : J G E nL pc lv (.int a2 :: .ref (adr G a1t a1b) :: .ref (adr G 3 0) :: st) M := fun H locs ls hP hS hl => by
  have hK := X.2.2.2.2.2.1.1
  have hm := met_X3_scanNumber (l := eL E) X.2.2.2.2.2.2.1 (a1t, a1b) a2 M P h
  have hR2 : 1 + 1 ≤ (eR E).frames ∧ 8 + (5 + 11) + 22 ≤ (eR E).locals := by rw [X.2.2.2.2.2.2.2.1]; exact hR
  have hC2 : eCells E + 0 ≤ (eR E).cells ∧ eSlots E + 0 ≤ (eR E).slots := by rw [X.2.2.2.2.2.2.2.1]; exact ⟨X.2.2.2.2.2.2.2.2.1, X.2.2.2.2.2.2.2.2.2⟩
  obtain ⟨q0, -, hq⟩ := wld_get (G := G) M (mw3 0 (by decide))
  exact va_calli (va_runV (C := RX3) (As := [.ref (adr G a1t a1b), .int a2]) (rest := st) ⟨X.1, X.2.1, X.2.2.1, X.2.2.2.1, X.2.2.2.2.1⟩ hm (cwV (ws' := lw_aw) 2 X.2.2.2.2.1 (gwV (tw (i := 518) (by decide +kernel)) (tw (i := 520) (by decide +kernel)) (tw (i := 4) (by decide +kernel)) (tw (i := 76) (by decide +kernel)) (tw (i := 521) (by decide +kernel))) rfl rfl rfl (by decide +kernel) hR2) ⟨hr_blind, va_recv hK hP (ci := 3) (q := (RX3, TX3, 7)) (fs := objF3 G 0 (M.1 3 0)) (q0 := q0) rfl hq, fun U hU hW => ⟨rfl, by rw [hU]; exact hP, KK.warm hW X.2.2.2.2.2.1⟩⟩ rfl rfl hl.1 rfl (lv_room hst) d hC2) hS (fun q _ h => h) (fun q h => h) (fun r u t H1 locs1 ht hvm hw hB hz1 hk1 hS1 => k1 r u hw H1 locs1 ls (by rw [← ht]; exact hB.1) hS1 hl)
/-- LayeredClaims$Text.skipSign(C)Z -/
def wp_X3_skipSign (a1 : Int32) (M : Mm) (P : Int32 → Mm → Prop) : Prop := (((rd M 3 0 1) ≤ (rd M 3 0 2) → P (0 : Int32) M) ∧ (¬ (rd M 3 0 1) ≤ (rd M 3 0 2) → (vp_in (rd M 3 0 2) 60 ∧ (((rd M 80 0 (rd M 3 0 2).toNatClampNeg) = a1 → (∀ M4 : Mm, M4 = wr M 3 0 2 ((rd M 3 0 2) + (1 : Int32)) → P (1 : Int32) M4)) ∧ (¬ (rd M 80 0 (rd M 3 0 2).toNatClampNeg) = a1 → P (0 : Int32) M)))))
set_option maxHeartbeats 4000000 in
set_option maxRecDepth 100000 in
theorem met_X3_skipSign {l : Launch} {G : GT} (hG : GD G) (a1 : Int32) (M : Mm) (P : Int32 → Mm → Prop) (h : wp_X3_skipSign a1 M P) : MI l G yX3_skipSign cX3_skipSign 2 (some .boolean) ({ frames := 0, cells := 0, slots := 0, locals := 0 } : Room) [.ref (adr G 3 0), .int a1] M P := by
  refine met_by hG (own := RX3) rfl (by decide +kernel) (Nat.le_of_ble_eq_true rfl) (fun E hE X Y => ?_)
  show J G E 2 0 [(0, .ref (adr G 3 0)), (1, .int a1)] [] M
  unfold wp_X3_skipSign at h
  refine j_aload_n X 0 dX3_skipSign_0 rfl rfl ?_
  refine jf_RX3_35 X  dX3_skipSign_1 ?_
  refine j_aload_n X 0 dX3_skipSign_4 rfl rfl ?_
  refine jf_RX3_31 X  dX3_skipSign_5 ?_
  refine j_icmp_ge X 24 dX3_skipSign_8 (by decide) (fun c1 => ?_) (fun c1 => ?_)
  · replace h := h.1 c1
    refine j_iconst (v := (0 : Int32)) X (by decide) dX3_skipSign_24 ?_
    exact j_zret X Y dX3_skipSign_25 rfl h
  · replace h := h.2 c1
    refine j_aload_n X 0 dX3_skipSign_11 rfl rfl ?_
    refine jf_RX3_11 X  dX3_skipSign_12 ?_
    refine j_aload_n X 0 dX3_skipSign_15 rfl rfl ?_
    refine jf_RX3_35 X  dX3_skipSign_16 ?_
    have q2 := h.1
    replace h := h.2
    refine j_cald X _ rfl (mw80 0 (by decide)) kt80 lt80 q2 dX3_skipSign_19 ?_
    refine j_iload_n X 1 dX3_skipSign_20 rfl rfl ?_
    refine j_icmp_eq X 26 dX3_skipSign_21 (by decide) (fun c3 => ?_) (fun c3 => ?_)
    · replace h := h.1 c3
      refine j_aload_n X 0 dX3_skipSign_26 rfl rfl ?_
      refine j_dup X rfl dX3_skipSign_27 ?_
      refine jf_RX3_35 X  dX3_skipSign_28 ?_
      refine j_iconst (v := (1 : Int32)) X (by decide) dX3_skipSign_31 ?_
      refine j_iadd X dX3_skipSign_32 ?_
      refine jp_RX3_35 X   dX3_skipSign_33 ?_
      refine j_memo (fun M4 eM4 => ?_)
      replace h := h M4 eM4
      refine j_iconst (v := (1 : Int32)) X (by decide) dX3_skipSign_36 ?_
      exact j_zret X Y dX3_skipSign_37 rfl h
    · replace h := h.2 c3
      refine j_iconst (v := (0 : Int32)) X (by decide) dX3_skipSign_24 ?_
      exact j_zret X Y dX3_skipSign_25 rfl h
theorem jc_RX3_45 {G : GT} {E : ET} {cc : ByteArray} {nL pc : Nat} {rm : Room} {lv : List (Nat × Value)} {st : List Value} {M : Mm} (X : CX G E RX3 cc nL rm) (hR : 0 + 1 ≤ rm.frames ∧ 8 + (2 + 11) + 0 ≤ rm.locals) (hst : (st.map fun v => v.category).sum ≤ 8) (d : decode cc pc = .ok (.invokevirtual 45, 3)) {a1 : Int32} {P : Int32 → Mm → Prop} (h : wp_X3_skipSign a1 M P) (k1 : ∀ (r : Int32) (M2 : Mm), P r M2 → J G E nL (pc + 3) lv (.int r :: st) M2) : J G E nL pc lv (.int a1 :: .ref (adr G 3 0) :: st) M := fun H locs ls hP hS hl => by
  have hK := X.2.2.2.2.2.1.1
  have hm := met_X3_skipSign (l := eL E) X.2.2.2.2.2.2.1 a1 M P h
  have hR2 : 0 + 1 ≤ (eR E).frames ∧ 8 + (2 + 11) + 0 ≤ (eR E).locals := by rw [X.2.2.2.2.2.2.2.1]; exact hR
  have hC2 : eCells E + 0 ≤ (eR E).cells ∧ eSlots E + 0 ≤ (eR E).slots := by rw [X.2.2.2.2.2.2.2.1]; exact ⟨X.2.2.2.2.2.2.2.2.1, X.2.2.2.2.2.2.2.2.2⟩
  obtain ⟨q0, -, hq⟩ := wld_get (G := G) M (mw3 0 (by decide))
  exact va_calli (va_runV (C := RX3) (As := [.int a1]) (rest := st) ⟨X.1, X.2.1, X.2.2.1, X.2.2.2.1, X.2.2.2.2.1⟩ hm (cwV (ws' := lw_aw) 1 X.2.2.2.2.1 (gwV (tw (i := 514) (by decide +kernel)) (tw (i := 516) (by decide +kernel)) (tw (i := 3) (by decide +kernel)) (tw (i := 76) (by decide +kernel)) (tw (i := 517) (by decide +kernel))) rfl rfl rfl (by decide +kernel) hR2) ⟨hr_blind, va_recv hK hP (ci := 3) (q := (RX3, TX3, 7)) (fs := objF3 G 0 (M.1 3 0)) (q0 := q0) rfl hq, fun U hU hW => ⟨rfl, by rw [hU]; exact hP, KK.warm hW X.2.2.2.2.2.1⟩⟩ rfl rfl hl.1 rfl (lv_room hst) d hC2) hS (fun q _ h => h) (fun q h => h) (fun r u t H1 locs1 ht hvm hw hB hz1 hk1 hS1 => k1 r u hw H1 locs1 ls (by rw [← ht]; exact hB.1) hS1 hl)
/-- LayeredClaims$Text.scanEntry(I)Z -/
def wp_X3_scanEntry (a1 : Int32) (M : Mm) (P : Int32 → Mm → Prop) : Prop := (vp_in a1 20 ∧ (∀ M2 : Mm, M2 = wr M 85 0 a1.toNatClampNeg (rd M 3 0 2) → (wp_X3_skipSign (101 : Int32) M2 (fun (r4 : Int32) (M3 : Mm) => ((r4 = 0 → (wp_X3_skipSign (99 : Int32) M3 (fun (r7 : Int32) (M6 : Mm) => ((r7 = 0 → (wp_X3_skipSign (114 : Int32) M6 (fun (r10 : Int32) (M9 : Mm) => ((r10 = 0 → P (0 : Int32) M9) ∧ (¬ r10 = 0 → (∀ M12 : Mm, M12 = wr M9 84 0 a1.toNatClampNeg (vp_nar .char (114 : Int32)) → (wp_X3_scanNumber (286, a1.toNatClampNeg) (0 : Int32) M12 (fun (r14 : Int32) (M13 : Mm) => ((r14 = 0 → P (0 : Int32) M13) ∧ (¬ r14 = 0 → (wp_X3_skipSign (61 : Int32) M13 (fun (r17 : Int32) (M16 : Mm) => ((r17 = 0 → P (0 : Int32) M16) ∧ (¬ r17 = 0 → (wp_X3_scanNumber (286, a1.toNatClampNeg) (1 : Int32) M16 (fun (r20 : Int32) (M19 : Mm) => ((r20 = 0 → P (0 : Int32) M19) ∧ (¬ r20 = 0 → P (1 : Int32) M19)))))))))))))))))) ∧ (¬ r7 = 0 → (∀ M22 : Mm, M22 = wr M6 84 0 a1.toNatClampNeg (vp_nar .char (99 : Int32)) → (wp_X3_scanNumber (286, a1.toNatClampNeg) (0 : Int32) M22 (fun (r24 : Int32) (M23 : Mm) => ((r24 = 0 → P (0 : Int32) M23) ∧ (¬ r24 = 0 → (wp_X3_skipSign (44 : Int32) M23 (fun (r27 : Int32) (M26 : Mm) => ((r27 = 0 → P (0 : Int32) M26) ∧ (¬ r27 = 0 → (wp_X3_scanNumber (286, a1.toNatClampNeg) (1 : Int32) M26 (fun (r30 : Int32) (M29 : Mm) => ((r30 = 0 → P (0 : Int32) M29) ∧ (¬ r30 = 0 → (wp_X3_skipSign (44 : Int32) M29 (fun (r33 : Int32) (M32 : Mm) => ((r33 = 0 → P (0 : Int32) M32) ∧ (¬ r33 = 0 → (wp_X3_scanNumber (286, a1.toNatClampNeg) (2 : Int32) M32 (fun (r36 : Int32) (M35 : Mm) => ((r36 = 0 → P (0 : Int32) M35) ∧ (¬ r36 = 0 → P (1 : Int32) M35)))))))))))))))))))))))))) ∧ (¬ r4 = 0 → (∀ M38 : Mm, M38 = wr M3 84 0 a1.toNatClampNeg (vp_nar .char (101 : Int32)) → (wp_X3_scanNumber (286, a1.toNatClampNeg) (0 : Int32) M38 (fun (r40 : Int32) (M39 : Mm) => (narrow .boolean (.int r40) = .int r40 ∧ P r40 M39))))))))))
set_option maxHeartbeats 4000000 in
set_option maxRecDepth 100000 in
theorem met_X3_scanEntry {l : Launch} {G : GT} (hG : GD G) (a1 : Int32) (M : Mm) (P : Int32 → Mm → Prop) (h : wp_X3_scanEntry a1 M P) : MI l G yX3_scanEntry cX3_scanEntry 3 (some .boolean) ({ frames := 2, cells := 0, slots := 0, locals := 46 } : Room) [.ref (adr G 3 0), .int a1] M P := by
  refine met_by hG (own := RX3) rfl (by decide +kernel) (Nat.le_of_ble_eq_true rfl) (fun E hE X Y => ?_)
  show J G E 3 0 [(0, .ref (adr G 3 0)), (1, .int a1)] [] M
  unfold wp_X3_scanEntry at h
  refine j_aload_n X 0 dX3_scanEntry_0 rfl rfl ?_
  refine jf_RX3_24 X  dX3_scanEntry_1 ?_
  refine j_iload_n X 1 dX3_scanEntry_4 rfl rfl ?_
  have q1 := h.1
  replace h := h.2
  refine j_aaldI X (mw86 0 (by decide)) kt86 lt86 q1 dX3_scanEntry_5 ?_
  refine j_astore_n X [(2, .ref (adr G 286 a1.toNatClampNeg)), (0, .ref (adr G 3 0)), (1, .int a1)] dX3_scanEntry_6 rfl (by decide) rfl ?_
  refine j_aload_n X 1 dX3_scanEntry_7 rfl rfl ?_
  refine jf_RX3_18 X  dX3_scanEntry_8 ?_
  refine j_iload_n X 2 dX3_scanEntry_11 rfl rfl ?_
  refine j_aload_n X 1 dX3_scanEntry_12 rfl rfl ?_
  refine jf_RX3_35 X  dX3_scanEntry_13 ?_
  refine j_iast X _ rfl (mw85 0 (by decide)) kt85 lt85 q1 dX3_scanEntry_16 ?_
  refine j_memo (fun M2 eM2 => ?_)
  replace h := h M2 eM2
  refine j_aload_n X 1 dX3_scanEntry_17 rfl rfl ?_
  refine j_bipush (v := (101 : Int32)) X (by decide) dX3_scanEntry_18 ?_
  refine jc_RX3_45 X ⟨Nat.le_of_ble_eq_true rfl, Nat.le_of_ble_eq_true rfl⟩ (Nat.le_of_ble_eq_true rfl) dX3_scanEntry_20 h (fun r4 M3 h => ?_)
  refine j_if_eq X 41 dX3_scanEntry_23 (by decide) (fun c5 => ?_) (fun c5 => ?_)
  · replace h := h.1 c5
    refine j_aload_n X 1 dX3_scanEntry_41 rfl rfl ?_
    refine j_bipush (v := (99 : Int32)) X (by decide) dX3_scanEntry_42 ?_
    refine jc_RX3_45 X ⟨Nat.le_of_ble_eq_true rfl, Nat.le_of_ble_eq_true rfl⟩ (Nat.le_of_ble_eq_true rfl) dX3_scanEntry_44 h (fun r7 M6 h => ?_)
    refine j_if_eq X 109 dX3_scanEntry_47 (by decide) (fun c8 => ?_) (fun c8 => ?_)
    · replace h := h.1 c8
      refine j_aload_n X 1 dX3_scanEntry_109 rfl rfl ?_
      refine j_bipush (v := (114 : Int32)) X (by decide) dX3_scanEntry_110 ?_
      refine jc_RX3_45 X ⟨Nat.le_of_ble_eq_true rfl, Nat.le_of_ble_eq_true rfl⟩ (Nat.le_of_ble_eq_true rfl) dX3_scanEntry_112 h (fun r10 M9 h => ?_)
      refine j_if_eq X 159 dX3_scanEntry_115 (by decide) (fun c11 => ?_) (fun c11 => ?_)
      · replace h := h.1 c11
        refine j_iconst (v := (0 : Int32)) X (by decide) dX3_scanEntry_159 ?_
        exact j_zret X Y dX3_scanEntry_160 rfl h
      · replace h := h.2 c11
        refine j_aload_n X 1 dX3_scanEntry_118 rfl rfl ?_
        refine jf_RX3_15 X  dX3_scanEntry_119 ?_
        refine j_iload_n X 2 dX3_scanEntry_122 rfl rfl ?_
        refine j_bipush (v := (114 : Int32)) X (by decide) dX3_scanEntry_123 ?_
        refine j_cast X _ rfl (mw84 0 (by decide)) kt84 lt84 q1 dX3_scanEntry_125 ?_
        refine j_memo (fun M12 eM12 => ?_)
        replace h := h M12 eM12
        refine j_aload_n X 1 dX3_scanEntry_126 rfl rfl ?_
        refine j_aload_n X 0 dX3_scanEntry_127 rfl rfl ?_
        refine j_iconst (v := (0 : Int32)) X (by decide) dX3_scanEntry_128 ?_
        refine jc_RX3_49 X ⟨Nat.le_of_ble_eq_true rfl, Nat.le_of_ble_eq_true rfl⟩ (Nat.le_of_ble_eq_true rfl) dX3_scanEntry_129 h (fun r14 M13 h => ?_)
        refine j_if_eq X 157 dX3_scanEntry_132 (by decide) (fun c15 => ?_) (fun c15 => ?_)
        · replace h := h.1 c15
          refine j_iconst (v := (0 : Int32)) X (by decide) dX3_scanEntry_157 ?_
          exact j_zret X Y dX3_scanEntry_158 rfl h
        · replace h := h.2 c15
          refine j_aload_n X 1 dX3_scanEntry_135 rfl rfl ?_
          refine j_bipush (v := (61 : Int32)) X (by decide) dX3_scanEntry_136 ?_
          refine jc_RX3_45 X ⟨Nat.le_of_ble_eq_true rfl, Nat.le_of_ble_eq_true rfl⟩ (Nat.le_of_ble_eq_true rfl) dX3_scanEntry_138 h (fun r17 M16 h => ?_)
          refine j_if_eq X 157 dX3_scanEntry_141 (by decide) (fun c18 => ?_) (fun c18 => ?_)
          · replace h := h.1 c18
            refine j_iconst (v := (0 : Int32)) X (by decide) dX3_scanEntry_157 ?_
            exact j_zret X Y dX3_scanEntry_158 rfl h
          · replace h := h.2 c18
            refine j_aload_n X 1 dX3_scanEntry_144 rfl rfl ?_
            refine j_aload_n X 0 dX3_scanEntry_145 rfl rfl ?_
            refine j_iconst (v := (1 : Int32)) X (by decide) dX3_scanEntry_146 ?_
            refine jc_RX3_49 X ⟨Nat.le_of_ble_eq_true rfl, Nat.le_of_ble_eq_true rfl⟩ (Nat.le_of_ble_eq_true rfl) dX3_scanEntry_147 h (fun r20 M19 h => ?_)
            refine j_if_eq X 157 dX3_scanEntry_150 (by decide) (fun c21 => ?_) (fun c21 => ?_)
            · replace h := h.1 c21
              refine j_iconst (v := (0 : Int32)) X (by decide) dX3_scanEntry_157 ?_
              exact j_zret X Y dX3_scanEntry_158 rfl h
            · replace h := h.2 c21
              refine j_iconst (v := (1 : Int32)) X (by decide) dX3_scanEntry_153 ?_
              refine j_goto X 158 dX3_scanEntry_154 (by decide) ?_
              exact j_zret X Y dX3_scanEntry_158 rfl h
    · replace h := h.2 c8
      refine j_aload_n X 1 dX3_scanEntry_50 rfl rfl ?_
      refine jf_RX3_15 X  dX3_scanEntry_51 ?_
      refine j_iload_n X 2 dX3_scanEntry_54 rfl rfl ?_
      refine j_bipush (v := (99 : Int32)) X (by decide) dX3_scanEntry_55 ?_
      refine j_cast X _ rfl (mw84 0 (by decide)) kt84 lt84 q1 dX3_scanEntry_57 ?_
      refine j_memo (fun M22 eM22 => ?_)
      replace h := h M22 eM22
      refine j_aload_n X 1 dX3_scanEntry_58 rfl rfl ?_
      refine j_aload_n X 0 dX3_scanEntry_59 rfl rfl ?_
      refine j_iconst (v := (0 : Int32)) X (by decide) dX3_scanEntry_60 ?_
      refine jc_RX3_49 X ⟨Nat.le_of_ble_eq_true rfl, Nat.le_of_ble_eq_true rfl⟩ (Nat.le_of_ble_eq_true rfl) dX3_scanEntry_61 h (fun r24 M23 h => ?_)
      refine j_if_eq X 107 dX3_scanEntry_64 (by decide) (fun c25 => ?_) (fun c25 => ?_)
      · replace h := h.1 c25
        refine j_iconst (v := (0 : Int32)) X (by decide) dX3_scanEntry_107 ?_
        exact j_zret X Y dX3_scanEntry_108 rfl h
      · replace h := h.2 c25
        refine j_aload_n X 1 dX3_scanEntry_67 rfl rfl ?_
        refine j_bipush (v := (44 : Int32)) X (by decide) dX3_scanEntry_68 ?_
        refine jc_RX3_45 X ⟨Nat.le_of_ble_eq_true rfl, Nat.le_of_ble_eq_true rfl⟩ (Nat.le_of_ble_eq_true rfl) dX3_scanEntry_70 h (fun r27 M26 h => ?_)
        refine j_if_eq X 107 dX3_scanEntry_73 (by decide) (fun c28 => ?_) (fun c28 => ?_)
        · replace h := h.1 c28
          refine j_iconst (v := (0 : Int32)) X (by decide) dX3_scanEntry_107 ?_
          exact j_zret X Y dX3_scanEntry_108 rfl h
        · replace h := h.2 c28
          refine j_aload_n X 1 dX3_scanEntry_76 rfl rfl ?_
          refine j_aload_n X 0 dX3_scanEntry_77 rfl rfl ?_
          refine j_iconst (v := (1 : Int32)) X (by decide) dX3_scanEntry_78 ?_
          refine jc_RX3_49 X ⟨Nat.le_of_ble_eq_true rfl, Nat.le_of_ble_eq_true rfl⟩ (Nat.le_of_ble_eq_true rfl) dX3_scanEntry_79 h (fun r30 M29 h => ?_)
          refine j_if_eq X 107 dX3_scanEntry_82 (by decide) (fun c31 => ?_) (fun c31 => ?_)
          · replace h := h.1 c31
            refine j_iconst (v := (0 : Int32)) X (by decide) dX3_scanEntry_107 ?_
            exact j_zret X Y dX3_scanEntry_108 rfl h
          · replace h := h.2 c31
            refine j_aload_n X 1 dX3_scanEntry_85 rfl rfl ?_
            refine j_bipush (v := (44 : Int32)) X (by decide) dX3_scanEntry_86 ?_
            refine jc_RX3_45 X ⟨Nat.le_of_ble_eq_true rfl, Nat.le_of_ble_eq_true rfl⟩ (Nat.le_of_ble_eq_true rfl) dX3_scanEntry_88 h (fun r33 M32 h => ?_)
            refine j_if_eq X 107 dX3_scanEntry_91 (by decide) (fun c34 => ?_) (fun c34 => ?_)
            · replace h := h.1 c34
              refine j_iconst (v := (0 : Int32)) X (by decide) dX3_scanEntry_107 ?_
              exact j_zret X Y dX3_scanEntry_108 rfl h
            · replace h := h.2 c34
              refine j_aload_n X 1 dX3_scanEntry_94 rfl rfl ?_
              refine j_aload_n X 0 dX3_scanEntry_95 rfl rfl ?_
              refine j_iconst (v := (2 : Int32)) X (by decide) dX3_scanEntry_96 ?_
              refine jc_RX3_49 X ⟨Nat.le_of_ble_eq_true rfl, Nat.le_of_ble_eq_true rfl⟩ (Nat.le_of_ble_eq_true rfl) dX3_scanEntry_97 h (fun r36 M35 h => ?_)
              refine j_if_eq X 107 dX3_scanEntry_100 (by decide) (fun c37 => ?_) (fun c37 => ?_)
              · replace h := h.1 c37
                refine j_iconst (v := (0 : Int32)) X (by decide) dX3_scanEntry_107 ?_
                exact j_zret X Y dX3_scanEntry_108 rfl h
              · replace h := h.2 c37
                refine j_iconst (v := (1 : Int32)) X (by decide) dX3_scanEntry_103 ?_
                refine j_goto X 108 dX3_scanEntry_104 (by decide) ?_
                exact j_zret X Y dX3_scanEntry_108 rfl h
  · replace h := h.2 c5
    refine j_aload_n X 1 dX3_scanEntry_26 rfl rfl ?_
    refine jf_RX3_15 X  dX3_scanEntry_27 ?_
    refine j_iload_n X 2 dX3_scanEntry_30 rfl rfl ?_
    refine j_bipush (v := (101 : Int32)) X (by decide) dX3_scanEntry_31 ?_
    refine j_cast X _ rfl (mw84 0 (by decide)) kt84 lt84 q1 dX3_scanEntry_33 ?_
    refine j_memo (fun M38 eM38 => ?_)
    replace h := h M38 eM38
    refine j_aload_n X 1 dX3_scanEntry_34 rfl rfl ?_
    refine j_aload_n X 0 dX3_scanEntry_35 rfl rfl ?_
    refine j_iconst (v := (0 : Int32)) X (by decide) dX3_scanEntry_36 ?_
    refine jc_RX3_49 X ⟨Nat.le_of_ble_eq_true rfl, Nat.le_of_ble_eq_true rfl⟩ (Nat.le_of_ble_eq_true rfl) dX3_scanEntry_37 h (fun r40 M39 h => ?_)
    exact j_zret X Y dX3_scanEntry_40 h.1 h.2
theorem jc_RX3_38 {G : GT} {E : ET} {cc : ByteArray} {nL pc : Nat} {rm : Room} {lv : List (Nat × Value)} {st : List Value} {M : Mm} (X : CX G E RX3 cc nL rm) (hR : 2 + 1 ≤ rm.frames ∧ 8 + (3 + 11) + 46 ≤ rm.locals) (hst : (st.map fun v => v.category).sum ≤ 8) (d : decode cc pc = .ok (.invokevirtual 38, 3)) {a1 : Int32} {P : Int32 → Mm → Prop} (h : wp_X3_scanEntry a1 M P) (k1 : ∀ (r : Int32) (M2 : Mm), P r M2 → J G E nL (pc + 3) lv (.int r :: st) M2) : J G E nL pc lv (.int a1 :: .ref (adr G 3 0) :: st) M := fun H locs ls hP hS hl => by
  have hK := X.2.2.2.2.2.1.1
  have hm := met_X3_scanEntry (l := eL E) X.2.2.2.2.2.2.1 a1 M P h
  have hR2 : 2 + 1 ≤ (eR E).frames ∧ 8 + (3 + 11) + 46 ≤ (eR E).locals := by rw [X.2.2.2.2.2.2.2.1]; exact hR
  have hC2 : eCells E + 0 ≤ (eR E).cells ∧ eSlots E + 0 ≤ (eR E).slots := by rw [X.2.2.2.2.2.2.2.1]; exact ⟨X.2.2.2.2.2.2.2.2.1, X.2.2.2.2.2.2.2.2.2⟩
  obtain ⟨q0, -, hq⟩ := wld_get (G := G) M (mw3 0 (by decide))
  exact va_calli (va_runV (C := RX3) (As := [.int a1]) (rest := st) ⟨X.1, X.2.1, X.2.2.1, X.2.2.2.1, X.2.2.2.2.1⟩ hm (cwV (ws' := lw_aw) 1 X.2.2.2.2.1 (gwV (tw (i := 510) (by decide +kernel)) (tw (i := 512) (by decide +kernel)) (tw (i := 2) (by decide +kernel)) (tw (i := 76) (by decide +kernel)) (tw (i := 513) (by decide +kernel))) rfl rfl rfl (by decide +kernel) hR2) ⟨hr_blind, va_recv hK hP (ci := 3) (q := (RX3, TX3, 7)) (fs := objF3 G 0 (M.1 3 0)) (q0 := q0) rfl hq, fun U hU hW => ⟨rfl, by rw [hU]; exact hP, KK.warm hW X.2.2.2.2.2.1⟩⟩ rfl rfl hl.1 rfl (lv_room hst) d hC2) hS (fun q _ h => h) (fun q h => h) (fun r u t H1 locs1 ht hvm hw hB hz1 hk1 hS1 => k1 r u hw H1 locs1 ls (by rw [← ht]; exact hB.1) hS1 hl)
/-- LayeredClaims$Text.scan()Z -/
def wp_X3_scan  (M : Mm) (P : Int32 → Mm → Prop) : Prop := (∀ M1 : Mm, M1 = wr M 3 0 2 (0 : Int32) → (∃ n, lq2 (fun self2 (x4 : Int32) (M5 : Mm) => (((20 : Int32) ≤ x4 → P (0 : Int32) M5) ∧ (¬ (20 : Int32) ≤ x4 → (wp_X3_scanEntry x4 M5 (fun (r8 : Int32) (M7 : Mm) => ((r8 = 0 → P (0 : Int32) M7) ∧ (¬ r8 = 0 → ((¬ (rd M7 3 0 2) = (rd M7 3 0 1) → (wp_X3_skipSign (59 : Int32) M7 (fun (r12 : Int32) (M11 : Mm) => ((¬ r12 = 0 → (∀ x14 : Int32, x14 = x4 + (1 : Int32) → self2 x14 M11)) ∧ (r12 = 0 → P (0 : Int32) M11))))) ∧ ((rd M7 3 0 2) = (rd M7 3 0 1) → (∀ M15 : Mm, M15 = wr M7 3 0 3 (x4 + (1 : Int32)) → P (1 : Int32) M15)))))))))) n (0 : Int32) M1))
set_option maxHeartbeats 4000000 in
set_option maxRecDepth 100000 in
theorem met_X3_scan {l : Launch} {G : GT} (hG : GD G)  (M : Mm) (P : Int32 → Mm → Prop) (h : wp_X3_scan  M P) : MI l G yX3_scan cX3_scan 2 (some .boolean) ({ frames := 3, cells := 0, slots := 0, locals := 68 } : Room) [.ref (adr G 3 0)] M P := by
  refine met_by hG (own := RX3) rfl (by decide +kernel) (Nat.le_of_ble_eq_true rfl) (fun E hE X Y => ?_)
  show J G E 2 0 [(0, .ref (adr G 3 0))] [] M
  unfold wp_X3_scan at h
  refine j_aload_n X 0 dX3_scan_0 rfl rfl ?_
  refine j_iconst (v := (0 : Int32)) X (by decide) dX3_scan_1 ?_
  refine jp_RX3_35 X   dX3_scan_2 ?_
  refine j_memo (fun M1 eM1 => ?_)
  replace h := h M1 eM1
  refine j_iconst (v := (0 : Int32)) X (by decide) dX3_scan_5 ?_
  refine j_istore_n X [(1, .int (0 : Int32)), (0, .ref (adr G 3 0))] dX3_scan_6 rfl (by decide) rfl ?_
  refine j_sub [1, 0] rfl ?_
  refine lq2_s h (fun (x4 : Int32) (M5 : Mm) => J G E 2 7 [(0, .ref (adr G 3 0)), (1, .int x4)] [] M5) (fun self2 ih3 x4 M5 h => ?_) id
  refine j_iload_n X 1 dX3_scan_7 rfl rfl ?_
  refine j_bipush (v := (20 : Int32)) X (by decide) dX3_scan_8 ?_
  refine j_icmp_ge X 58 dX3_scan_10 (by decide) (fun c6 => ?_) (fun c6 => ?_)
  · replace h := h.1 c6
    refine j_iconst (v := (0 : Int32)) X (by decide) dX3_scan_58 ?_
    exact j_zret X Y dX3_scan_59 rfl h
  · replace h := h.2 c6
    refine j_aload_n X 0 dX3_scan_13 rfl rfl ?_
    refine j_iload_n X 1 dX3_scan_14 rfl rfl ?_
    refine jc_RX3_38 X ⟨Nat.le_of_ble_eq_true rfl, Nat.le_of_ble_eq_true rfl⟩ (Nat.le_of_ble_eq_true rfl) dX3_scan_15 h (fun r8 M7 h => ?_)
    refine j_if_eq X 58 dX3_scan_18 (by decide) (fun c9 => ?_) (fun c9 => ?_)
    · replace h := h.1 c9
      refine j_iconst (v := (0 : Int32)) X (by decide) dX3_scan_58 ?_
      exact j_zret X Y dX3_scan_59 rfl h
    · replace h := h.2 c9
      refine j_aload_n X 0 dX3_scan_21 rfl rfl ?_
      refine jf_RX3_35 X  dX3_scan_22 ?_
      refine j_aload_n X 0 dX3_scan_25 rfl rfl ?_
      refine jf_RX3_31 X  dX3_scan_26 ?_
      refine j_icmp_ne X 41 dX3_scan_29 (by decide) (fun c10 => ?_) (fun c10 => ?_)
      · replace h := h.1 c10
        refine j_aload_n X 0 dX3_scan_41 rfl rfl ?_
        refine j_bipush (v := (59 : Int32)) X (by decide) dX3_scan_42 ?_
        refine jc_RX3_45 X ⟨Nat.le_of_ble_eq_true rfl, Nat.le_of_ble_eq_true rfl⟩ (Nat.le_of_ble_eq_true rfl) dX3_scan_44 h (fun r12 M11 h => ?_)
        refine j_if_ne X 52 dX3_scan_47 (by decide) (fun c13 => ?_) (fun c13 => ?_)
        · replace h := h.1 c13
          obtain ⟨x14, ex14⟩ : ∃ z : Int32, z = x4 + (1 : Int32) := ⟨_, rfl⟩
          replace h := h x14 ex14
          refine j_iinc (v := x14) X 1 [(1, .int x14), (0, .ref (adr G 3 0))] dX3_scan_52 rfl (by rw [ex14]; rfl) (by decide) rfl ?_
          refine j_goto X 7 dX3_scan_55 (by decide) ?_
          refine j_sub [1, 0] rfl ?_
          exact ih3 x14 M11 h
        · replace h := h.2 c13
          refine j_iconst (v := (0 : Int32)) X (by decide) dX3_scan_50 ?_
          exact j_zret X Y dX3_scan_51 rfl h
      · replace h := h.2 c10
        refine j_aload_n X 0 dX3_scan_32 rfl rfl ?_
        refine j_iload_n X 1 dX3_scan_33 rfl rfl ?_
        refine j_iconst (v := (1 : Int32)) X (by decide) dX3_scan_34 ?_
        refine j_iadd X dX3_scan_35 ?_
        refine jp_RX3_42 X   dX3_scan_36 ?_
        refine j_memo (fun M15 eM15 => ?_)
        replace h := h M15 eM15
        refine j_iconst (v := (1 : Int32)) X (by decide) dX3_scan_39 ?_
        exact j_zret X Y dX3_scan_40 rfl h
theorem jc_RX6_93 {G : GT} {E : ET} {cc : ByteArray} {nL pc : Nat} {rm : Room} {lv : List (Nat × Value)} {st : List Value} {M : Mm} (X : CX G E RX6 cc nL rm) (hR : 3 + 1 ≤ rm.frames ∧ 8 + (2 + 11) + 68 ≤ rm.locals) (hst : (st.map fun v => v.category).sum ≤ 8) (d : decode cc pc = .ok (.invokevirtual 93, 3))  {P : Int32 → Mm → Prop} (h : wp_X3_scan  M P) (k1 : ∀ (r : Int32) (M2 : Mm), P r M2 → J G E nL (pc + 3) lv (.int r :: st) M2) : J G E nL pc lv (.ref (adr G 3 0) :: st) M := fun H locs ls hP hS hl => by
  have hK := X.2.2.2.2.2.1.1
  have hm := met_X3_scan (l := eL E) X.2.2.2.2.2.2.1  M P h
  have hR2 : 3 + 1 ≤ (eR E).frames ∧ 8 + (2 + 11) + 68 ≤ (eR E).locals := by rw [X.2.2.2.2.2.2.2.1]; exact hR
  have hC2 : eCells E + 0 ≤ (eR E).cells ∧ eSlots E + 0 ≤ (eR E).slots := by rw [X.2.2.2.2.2.2.2.1]; exact ⟨X.2.2.2.2.2.2.2.2.1, X.2.2.2.2.2.2.2.2.2⟩
  obtain ⟨q0, -, hq⟩ := wld_get (G := G) M (mw3 0 (by decide))
  exact va_calli (va_runV (C := RX3) (As := []) (rest := st) ⟨X.1, X.2.1, X.2.2.1, X.2.2.2.1, X.2.2.2.2.1⟩ hm (cwV (ws' := lw_aw) 0 X.2.2.2.2.1 (gwV (tw (i := 506) (by decide +kernel)) (tw (i := 507) (by decide +kernel)) (tw (i := 508) (by decide +kernel)) (tw (i := 76) (by decide +kernel)) (tw (i := 509) (by decide +kernel))) rfl rfl rfl (by decide +kernel) hR2) ⟨hr_blind, va_recv hK hP (ci := 3) (q := (RX3, TX3, 7)) (fs := objF3 G 0 (M.1 3 0)) (q0 := q0) rfl hq, fun U hU hW => ⟨rfl, by rw [hU]; exact hP, KK.warm hW X.2.2.2.2.2.1⟩⟩ rfl rfl hl.1 rfl (lv_room hst) d hC2) hS (fun q _ h => h) (fun q h => h) (fun r u t H1 locs1 ht hvm hw hB hz1 hk1 hS1 => k1 r u hw H1 locs1 ls (by rw [← ht]; exact hB.1) hS1 hl)
/-- LayeredClaims$Trays.hasPlace(II)Z -/
def wp_X4_hasPlace (a1 : Int32) (a2 : Int32) (M : Mm) (P : Int32 → Mm → Prop) : Prop := (wp_X6_isWithin a1 (0 : Int32) (2 : Int32) M (fun (r2 : Int32) (M1 : Mm) => ((r2 = 0 → P (0 : Int32) M1) ∧ (¬ r2 = 0 → (wp_X6_isWithin a2 (0 : Int32) (3 : Int32) M1 (fun (r5 : Int32) (M4 : Mm) => ((r5 = 0 → P (0 : Int32) M4) ∧ (¬ r5 = 0 → P (1 : Int32) M4))))))))
set_option maxHeartbeats 4000000 in
set_option maxRecDepth 100000 in
theorem met_X4_hasPlace {l : Launch} {G : GT} (hG : GD G) (a1 : Int32) (a2 : Int32) (M : Mm) (P : Int32 → Mm → Prop) (h : wp_X4_hasPlace a1 a2 M P) : MI l G yX4_hasPlace cX4_hasPlace 3 (some .boolean) ({ frames := 1, cells := 0, slots := 0, locals := 22 } : Room) [.ref (adr G 4 0), .int a1, .int a2] M P := by
  refine met_by hG (own := RX4) rfl (by decide +kernel) (Nat.le_of_ble_eq_true rfl) (fun E hE X Y => ?_)
  show J G E 3 0 [(0, .ref (adr G 4 0)), (1, .int a1), (2, .int a2)] [] M
  unfold wp_X4_hasPlace at h
  refine j_iload_n X 1 dX4_hasPlace_0 rfl rfl ?_
  refine j_iconst (v := (0 : Int32)) X (by decide) dX4_hasPlace_1 ?_
  refine j_iconst (v := (2 : Int32)) X (by decide) dX4_hasPlace_2 ?_
  refine jc_RX4_20 X ⟨Nat.le_of_ble_eq_true rfl, Nat.le_of_ble_eq_true rfl⟩ (Nat.le_of_ble_eq_true rfl) dX4_hasPlace_3 h (fun r2 M1 h => ?_)
  refine j_if_eq X 22 dX4_hasPlace_6 (by decide) (fun c3 => ?_) (fun c3 => ?_)
  · replace h := h.1 c3
    refine j_iconst (v := (0 : Int32)) X (by decide) dX4_hasPlace_22 ?_
    exact j_zret X Y dX4_hasPlace_23 rfl h
  · replace h := h.2 c3
    refine j_iload_n X 2 dX4_hasPlace_9 rfl rfl ?_
    refine j_iconst (v := (0 : Int32)) X (by decide) dX4_hasPlace_10 ?_
    refine j_iconst (v := (3 : Int32)) X (by decide) dX4_hasPlace_11 ?_
    refine jc_RX4_20 X ⟨Nat.le_of_ble_eq_true rfl, Nat.le_of_ble_eq_true rfl⟩ (Nat.le_of_ble_eq_true rfl) dX4_hasPlace_12 h (fun r5 M4 h => ?_)
    refine j_if_eq X 22 dX4_hasPlace_15 (by decide) (fun c6 => ?_) (fun c6 => ?_)
    · replace h := h.1 c6
      refine j_iconst (v := (0 : Int32)) X (by decide) dX4_hasPlace_22 ?_
      exact j_zret X Y dX4_hasPlace_23 rfl h
    · replace h := h.2 c6
      refine j_iconst (v := (1 : Int32)) X (by decide) dX4_hasPlace_18 ?_
      refine j_goto X 23 dX4_hasPlace_19 (by decide) ?_
      exact j_zret X Y dX4_hasPlace_23 rfl h
theorem jc_RX6_320 {G : GT} {E : ET} {cc : ByteArray} {nL pc : Nat} {rm : Room} {lv : List (Nat × Value)} {st : List Value} {M : Mm} (X : CX G E RX6 cc nL rm) (hR : 1 + 1 ≤ rm.frames ∧ 8 + (3 + 11) + 22 ≤ rm.locals) (hst : (st.map fun v => v.category).sum ≤ 8) (d : decode cc pc = .ok (.invokevirtual 320, 3)) {a1 : Int32} {a2 : Int32} {P : Int32 → Mm → Prop} (h : wp_X4_hasPlace a1 a2 M P) (k1 : ∀ (r : Int32) (M2 : Mm), P r M2 → J G E nL (pc + 3) lv (.int r :: st) M2) : J G E nL pc lv (.int a2 :: .int a1 :: .ref (adr G 4 0) :: st) M := fun H locs ls hP hS hl => by
  have hK := X.2.2.2.2.2.1.1
  have hm := met_X4_hasPlace (l := eL E) X.2.2.2.2.2.2.1 a1 a2 M P h
  have hR2 : 1 + 1 ≤ (eR E).frames ∧ 8 + (3 + 11) + 22 ≤ (eR E).locals := by rw [X.2.2.2.2.2.2.2.1]; exact hR
  have hC2 : eCells E + 0 ≤ (eR E).cells ∧ eSlots E + 0 ≤ (eR E).slots := by rw [X.2.2.2.2.2.2.2.1]; exact ⟨X.2.2.2.2.2.2.2.2.1, X.2.2.2.2.2.2.2.2.2⟩
  obtain ⟨q0, -, hq⟩ := wld_get (G := G) M (mw4 0 (by decide))
  exact va_calli (va_runV (C := RX4) (As := [.int a1, .int a2]) (rest := st) ⟨X.1, X.2.1, X.2.2.1, X.2.2.2.1, X.2.2.2.2.1⟩ hm (cwV (ws' := lw_aw) 2 X.2.2.2.2.1 (gwV (tw (i := 807) (by decide +kernel)) (tw (i := 808) (by decide +kernel)) (tw (i := 809) (by decide +kernel)) (tw (i := 77) (by decide +kernel)) (tw (i := 810) (by decide +kernel))) rfl rfl rfl (by decide +kernel) hR2) ⟨hr_blind, va_recv hK hP (ci := 4) (q := (RX4, TX4, 2)) (fs := objF4 G 0 (M.1 4 0)) (q0 := q0) rfl hq, fun U hU hW => ⟨rfl, by rw [hU]; exact hP, KK.warm hW X.2.2.2.2.2.1⟩⟩ rfl rfl hl.1 rfl (lv_room hst) d hC2) hS (fun q _ h => h) (fun q h => h) (fun r u t H1 locs1 ht hvm hw hB hz1 hk1 hS1 => k1 r u hw H1 locs1 ls (by rw [← ht]; exact hB.1) hS1 hl)
/-- LayeredClaims$Trays.takesKind(II)Z -/
def wp_X4_takesKind (a1 : Int32) (a2 : Int32) (M : Mm) (P : Int32 → Mm → Prop) : Prop := (jn (fun (z1 : Int32) => P (1 : Int32) M) (fun J2 : Int32 → Prop => ((a1 = (2 : Int32) → J2 (0 : Int32)) ∧ (¬ a1 = (2 : Int32) → ((¬ a1 = a2 → P (0 : Int32) M) ∧ (a1 = a2 → J2 (0 : Int32)))))))
set_option maxHeartbeats 4000000 in
set_option maxRecDepth 100000 in
theorem met_X4_takesKind {l : Launch} {G : GT} (hG : GD G) (a1 : Int32) (a2 : Int32) (M : Mm) (P : Int32 → Mm → Prop) (h : wp_X4_takesKind a1 a2 M P) : MI l G yX4_takesKind cX4_takesKind 3 (some .boolean) ({ frames := 0, cells := 0, slots := 0, locals := 0 } : Room) [.ref (adr G 4 0), .int a1, .int a2] M P := by
  refine met_by hG (own := RX4) rfl (by decide +kernel) (Nat.le_of_ble_eq_true rfl) (fun E hE X Y => ?_)
  show J G E 3 0 [(0, .ref (adr G 4 0)), (1, .int a1), (2, .int a2)] [] M
  unfold wp_X4_takesKind at h
  refine j_iload_n X 1 dX4_takesKind_0 rfl rfl ?_
  refine j_iconst (v := (2 : Int32)) X (by decide) dX4_takesKind_1 ?_
  refine jn1_s h (fun (z1 : Int32) => J G E 3 10 [] [] M) (fun z1 h => ?_) (fun J2 hj3 h => ?_)
  · refine j_iconst (v := (1 : Int32)) X (by decide) dX4_takesKind_10 ?_
    refine j_goto X 15 dX4_takesKind_11 (by decide) ?_
    exact j_zret X Y dX4_takesKind_15 rfl h
  · refine j_icmp_eq X 10 dX4_takesKind_2 (by decide) (fun c4 => ?_) (fun c4 => ?_)
    · replace h := h.1 c4
      refine j_sub [] rfl ?_
      exact hj3 (0 : Int32) h
    · replace h := h.2 c4
      refine j_iload_n X 1 dX4_takesKind_5 rfl rfl ?_
      refine j_iload_n X 2 dX4_takesKind_6 rfl rfl ?_
      refine j_icmp_ne X 14 dX4_takesKind_7 (by decide) (fun c5 => ?_) (fun c5 => ?_)
      · replace h := h.1 c5
        refine j_iconst (v := (0 : Int32)) X (by decide) dX4_takesKind_14 ?_
        exact j_zret X Y dX4_takesKind_15 rfl h
      · replace h := h.2 c5
        refine j_sub [] rfl ?_
        exact hj3 (0 : Int32) h
theorem jc_RX6_324 {G : GT} {E : ET} {cc : ByteArray} {nL pc : Nat} {rm : Room} {lv : List (Nat × Value)} {st : List Value} {M : Mm} (X : CX G E RX6 cc nL rm) (hR : 0 + 1 ≤ rm.frames ∧ 8 + (3 + 11) + 0 ≤ rm.locals) (hst : (st.map fun v => v.category).sum ≤ 8) (d : decode cc pc = .ok (.invokevirtual 324, 3)) {a1 : Int32} {a2 : Int32} {P : Int32 → Mm → Prop} (h : wp_X4_takesKind a1 a2 M P) (k1 : ∀ (r : Int32) (M2 : Mm), P r M2 → J G E nL (pc + 3) lv (.int r :: st) M2) : J G E nL pc lv (.int a2 :: .int a1 :: .ref (adr G 4 0) :: st) M := fun H locs ls hP hS hl => by
  have hK := X.2.2.2.2.2.1.1
  have hm := met_X4_takesKind (l := eL E) X.2.2.2.2.2.2.1 a1 a2 M P h
  have hR2 : 0 + 1 ≤ (eR E).frames ∧ 8 + (3 + 11) + 0 ≤ (eR E).locals := by rw [X.2.2.2.2.2.2.2.1]; exact hR
  have hC2 : eCells E + 0 ≤ (eR E).cells ∧ eSlots E + 0 ≤ (eR E).slots := by rw [X.2.2.2.2.2.2.2.1]; exact ⟨X.2.2.2.2.2.2.2.2.1, X.2.2.2.2.2.2.2.2.2⟩
  obtain ⟨q0, -, hq⟩ := wld_get (G := G) M (mw4 0 (by decide))
  exact va_calli (va_runV (C := RX4) (As := [.int a1, .int a2]) (rest := st) ⟨X.1, X.2.1, X.2.2.1, X.2.2.2.1, X.2.2.2.2.1⟩ hm (cwV (ws' := lw_aw) 2 X.2.2.2.2.1 (gwV (tw (i := 812) (by decide +kernel)) (tw (i := 813) (by decide +kernel)) (tw (i := 814) (by decide +kernel)) (tw (i := 77) (by decide +kernel)) (tw (i := 815) (by decide +kernel))) rfl rfl rfl (by decide +kernel) hR2) ⟨hr_blind, va_recv hK hP (ci := 4) (q := (RX4, TX4, 2)) (fs := objF4 G 0 (M.1 4 0)) (q0 := q0) rfl hq, fun U hU hW => ⟨rfl, by rw [hU]; exact hP, KK.warm hW X.2.2.2.2.2.1⟩⟩ rfl rfl hl.1 rfl (lv_room hst) d hC2) hS (fun q _ h => h) (fun q h => h) (fun r u t H1 locs1 ht hvm hw hB hz1 hk1 hS1 => k1 r u hw H1 locs1 ls (by rw [← ht]; exact hB.1) hS1 hl)
/-- LayeredClaims$Trays.rowAt(II)[I -/
def wp_X4_rowAt (a1 : Int32) (a2 : Int32) (M : Mm) (P : Nat × Nat → Mm → Prop) : Prop := (vp_in ((a1 * (4 : Int32)) + a2) 12 ∧ P (301, ((a1 * (4 : Int32)) + a2).toNatClampNeg) M)
set_option maxHeartbeats 4000000 in
set_option maxRecDepth 100000 in
theorem met_X4_rowAt {l : Launch} {G : GT} (hG : GD G) (a1 : Int32) (a2 : Int32) (M : Mm) (P : Nat × Nat → Mm → Prop) (h : wp_X4_rowAt a1 a2 M P) : MR l G yX4_rowAt cX4_rowAt 3 (some (.array .int)) ({ frames := 0, cells := 0, slots := 0, locals := 0 } : Room) [.ref (adr G 4 0), .int a1, .int a2] M P := by
  refine met_by hG (own := RX4) rfl (by decide +kernel) (Nat.le_of_ble_eq_true rfl) (fun E hE X Y => ?_)
  show J G E 3 0 [(0, .ref (adr G 4 0)), (1, .int a1), (2, .int a2)] [] M
  unfold wp_X4_rowAt at h
  refine j_aload_n X 0 dX4_rowAt_0 rfl rfl ?_
  refine jf_RX4_17 X  dX4_rowAt_1 ?_
  refine j_iload_n X 1 dX4_rowAt_4 rfl rfl ?_
  refine j_iconst (v := (4 : Int32)) X (by decide) dX4_rowAt_5 ?_
  refine j_imul X dX4_rowAt_6 ?_
  refine j_iload_n X 2 dX4_rowAt_7 rfl rfl ?_
  refine j_iadd X dX4_rowAt_8 ?_
  have q1 := h.1
  replace h := h.2
  refine j_aaldI X (mw101 0 (by decide)) kt101 lt101 q1 dX4_rowAt_9 ?_
  exact j_aret X Y dX4_rowAt_10 h
theorem jc_RX6_344 {G : GT} {E : ET} {cc : ByteArray} {nL pc : Nat} {rm : Room} {lv : List (Nat × Value)} {st : List Value} {M : Mm} (X : CX G E RX6 cc nL rm) (hR : 0 + 1 ≤ rm.frames ∧ 8 + (3 + 11) + 0 ≤ rm.locals) (hst : (st.map fun v => v.category).sum ≤ 8) (d : decode cc pc = .ok (.invokevirtual 344, 3)) {a1 : Int32} {a2 : Int32} {P : Nat × Nat → Mm → Prop} (h : wp_X4_rowAt a1 a2 M P) (k1 : ∀ (r : Nat × Nat) (M2 : Mm), P r M2 → J G E nL (pc + 3) lv (.ref (adr G r.1 r.2) :: st) M2) : J G E nL pc lv (.int a2 :: .int a1 :: .ref (adr G 4 0) :: st) M := fun H locs ls hP hS hl => by
  have hK := X.2.2.2.2.2.1.1
  have hm := met_X4_rowAt (l := eL E) X.2.2.2.2.2.2.1 a1 a2 M P h
  have hR2 : 0 + 1 ≤ (eR E).frames ∧ 8 + (3 + 11) + 0 ≤ (eR E).locals := by rw [X.2.2.2.2.2.2.2.1]; exact hR
  have hC2 : eCells E + 0 ≤ (eR E).cells ∧ eSlots E + 0 ≤ (eR E).slots := by rw [X.2.2.2.2.2.2.2.1]; exact ⟨X.2.2.2.2.2.2.2.2.1, X.2.2.2.2.2.2.2.2.2⟩
  obtain ⟨q0, -, hq⟩ := wld_get (G := G) M (mw4 0 (by decide))
  exact va_callr (va_runV (C := RX4) (As := [.int a1, .int a2]) (rest := st) ⟨X.1, X.2.1, X.2.2.1, X.2.2.2.1, X.2.2.2.2.1⟩ hm (cwV (ws' := lw_aw) 2 X.2.2.2.2.1 (gwV (tw (i := 849) (by decide +kernel)) (tw (i := 821) (by decide +kernel)) (tw (i := 822) (by decide +kernel)) (tw (i := 77) (by decide +kernel)) (tw (i := 823) (by decide +kernel))) rfl rfl rfl (by decide +kernel) hR2) ⟨hr_blind, va_recv hK hP (ci := 4) (q := (RX4, TX4, 2)) (fs := objF4 G 0 (M.1 4 0)) (q0 := q0) rfl hq, fun U hU hW => ⟨rfl, by rw [hU]; exact hP, KK.warm hW X.2.2.2.2.2.1⟩⟩ rfl rfl hl.1 rfl (lv_room hst) d hC2) hS (fun q _ h => h) (fun q h => h) (fun u ra t H1 locs1 ht hvm hw hB hz1 hk1 hS1 => by
    have hJ := k1 u.1 u.2 hw H1 locs1 ls (by rw [← ht]; exact hB.2.1) hS1 hl
    rw [← hB.1] at hJ
    exact hJ)
theorem jc_RX4_24 {G : GT} {E : ET} {cc : ByteArray} {nL pc : Nat} {rm : Room} {lv : List (Nat × Value)} {st : List Value} {M : Mm} (X : CX G E RX4 cc nL rm) (hR : 0 + 1 ≤ rm.frames ∧ 8 + (3 + 11) + 0 ≤ rm.locals) (hst : (st.map fun v => v.category).sum ≤ 8) (d : decode cc pc = .ok (.invokevirtual 24, 3)) {a1 : Int32} {a2 : Int32} {P : Nat × Nat → Mm → Prop} (h : wp_X4_rowAt a1 a2 M P) (k1 : ∀ (r : Nat × Nat) (M2 : Mm), P r M2 → J G E nL (pc + 3) lv (.ref (adr G r.1 r.2) :: st) M2) : J G E nL pc lv (.int a2 :: .int a1 :: .ref (adr G 4 0) :: st) M := fun H locs ls hP hS hl => by
  have hK := X.2.2.2.2.2.1.1
  have hm := met_X4_rowAt (l := eL E) X.2.2.2.2.2.2.1 a1 a2 M P h
  have hR2 : 0 + 1 ≤ (eR E).frames ∧ 8 + (3 + 11) + 0 ≤ (eR E).locals := by rw [X.2.2.2.2.2.2.2.1]; exact hR
  have hC2 : eCells E + 0 ≤ (eR E).cells ∧ eSlots E + 0 ≤ (eR E).slots := by rw [X.2.2.2.2.2.2.2.1]; exact ⟨X.2.2.2.2.2.2.2.2.1, X.2.2.2.2.2.2.2.2.2⟩
  obtain ⟨q0, -, hq⟩ := wld_get (G := G) M (mw4 0 (by decide))
  exact va_callr (va_runV (C := RX4) (As := [.int a1, .int a2]) (rest := st) ⟨X.1, X.2.1, X.2.2.1, X.2.2.2.1, X.2.2.2.2.1⟩ hm (cwV (ws' := lw_aw) 2 X.2.2.2.2.1 (gwV (tw (i := 820) (by decide +kernel)) (tw (i := 821) (by decide +kernel)) (tw (i := 822) (by decide +kernel)) (tw (i := 77) (by decide +kernel)) (tw (i := 823) (by decide +kernel))) rfl rfl rfl (by decide +kernel) hR2) ⟨hr_blind, va_recv hK hP (ci := 4) (q := (RX4, TX4, 2)) (fs := objF4 G 0 (M.1 4 0)) (q0 := q0) rfl hq, fun U hU hW => ⟨rfl, by rw [hU]; exact hP, KK.warm hW X.2.2.2.2.2.1⟩⟩ rfl rfl hl.1 rfl (lv_room hst) d hC2) hS (fun q _ h => h) (fun q h => h) (fun u ra t H1 locs1 ht hvm hw hB hz1 hk1 hS1 => by
    have hJ := k1 u.1 u.2 hw H1 locs1 ls (by rw [← ht]; exact hB.2.1) hS1 hl
    rw [← hB.1] at hJ
    exact hJ)
