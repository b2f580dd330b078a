/-! WHAT IS USED OF FLOATS -/
/-- the walk's word 'no NaN' is the core's, read off the low 31 bits -/
theorem fn_bits (x : UInt32) : vf_n32 x ↔ Jvm.FP.Core.fIsNaN x = false := by
  have h := Jvm.FP.Core.isNaN_bits32 x
  have e : vf_n32 x ↔ x.toNat % 2 ^ 31 ≤ 2139095040 := by
    unfold vf_n32
    rw [UInt32.le_iff_toNat_le, UInt32.toNat_and, show (0x7fffffff : UInt32).toNat = 2 ^ 31 - 1 by decide, Nat.and_two_pow_sub_one_eq_mod, show (0x7f800000 : UInt32).toNat = 2139095040 by decide]
  rw [e]
  cases hb : Jvm.FP.Core.fIsNaN x with
  | true =>
    have := h.mp hb
    exact ⟨fun q => absurd q (by omega), fun q => Bool.noConfusion q⟩
  | false =>
    refine ⟨fun _ => rfl, fun _ => Nat.le_of_not_lt fun q => ?_⟩
    rw [h.mpr q] at hb
    exact Bool.noConfusion hb
theorem fn_val {x : UInt32} (h : Jvm.FP.Core.val32 x ≠ .nan) : vf_n32 x := (fn_bits x).mpr ((Jvm.FP.Core.notNaN_iff32 x).mpr h)
theorem fn_mul {a b : UInt32} (ha : Jvm.FP.Core.FFin a) (hb : Jvm.FP.Core.FFin b) : vf_n32 (FP.fmul a b) := (fn_bits _).mpr (Jvm.FP.Core.fmul_out ha hb)
theorem fn_div {x y : Int32} (hy : y ≠ 0) : vf_n32 (FP.fdiv (FP.i2f x) (FP.i2f y)) := by
  obtain ⟨s, c, q, hv⟩ := Jvm.FP.Core.i2f_fin x
  refine (fn_bits _).mpr (Jvm.FP.Core.fdiv_out ((Jvm.FP.Core.notNaN_iff32 _).mpr ?_) (Jvm.FP.Core.i2f_fin y) fun z => Jvm.FP.Core.i2f_ne_zero hy ((Jvm.FP.Core.zero_bits232 _).mp z))
  rw [hv]
  exact Jvm.FP.Core.Datum.noConfusion
theorem ff_of {a : UInt32} (hn : Jvm.FP.Core.val32 a ≠ .nan) (h : Jvm.FP.Core.zmag Jvm.FP.Core.b32 (Jvm.FP.Core.val32 a) ≤ 2 ^ 179) : Jvm.FP.Core.FFin a := by
  unfold Jvm.FP.Core.FFin
  cases hv : Jvm.FP.Core.val32 a with
  | nan => exact absurd hv hn
  | inf s =>
    rw [hv] at h
    exact absurd h (show ¬ Jvm.FP.Core.b32.tails * 2 ^ (Jvm.FP.Core.b32.exps - 2) ≤ 2 ^ 179 by decide +kernel)
  | fin s c q => exact ⟨s, c, q, rfl⟩
theorem fq_q {a : UInt32} {s : Bool} {c : Nat} {q : Int} (hv : Jvm.FP.Core.val32 a = .fin s c q) : Jvm.FP.Core.b32.qmin ≤ q := by
  have := Jvm.FP.Core.val32_fits a
  rw [hv] at this
  exact this.2.1
theorem fq_n {a : UInt32} {s : Bool} {c : Nat} {q : Int} (hv : Jvm.FP.Core.val32 a = .fin s c q) : Jvm.FP.Core.val32 a ≠ .nan := by
  rw [hv]
  exact Jvm.FP.Core.Datum.noConfusion
theorem fq_quot {c d : Nat} {q r : Int} (hd : d ≠ 0) : Jvm.FP.Core.quotient Jvm.FP.Core.b32 (.fin false c q) (.fin false d r) = Jvm.FP.Core.roundRatio Jvm.FP.Core.b32 false c d (q - r) := by
  show (if d = 0 then (if c = 0 then Jvm.FP.Core.Datum.nan else Jvm.FP.Core.Datum.inf (false != false)) else Jvm.FP.Core.roundRatio Jvm.FP.Core.b32 (false != false) c d (q - r)) = _
  rw [if_neg hd]
  rfl
theorem fq_ac {X u A B : Nat} (h : u = A * B) : X * u * u = A * (B * X * u) := by
  have e : X * u = A * (B * X) := by rw [h, Nat.mul_comm X, Nat.mul_assoc]
  rw [e, Nat.mul_assoc]
/-- a whole number from 0 on, as a float -/
theorem fq_i2f {g : Int32} {n : Nat} (hg : g.toInt = (n : Int)) (h1 : n ≤ 16777216) : ∃ c q, Jvm.FP.Core.val32 (FP.i2f g) = .fin false c q ∧ Jvm.FP.Core.inUnits c q Jvm.FP.Core.b32.qmin = n * Jvm.FP.Core.one32 := by
  obtain ⟨s, c, q, hv⟩ := Jvm.FP.Core.i2f_fin g
  have hs : Jvm.FP.Core.sgn (Jvm.FP.Core.val32 (FP.i2f g)) = false := by
    rw [show Jvm.FP.Core.val32 (FP.i2f g) = Jvm.FP.Core.round Jvm.FP.Core.b32 (Jvm.FP.Core.ofInt g.toInt) from Jvm.FP.Core.val32_i2f g]
    show Jvm.FP.Core.sgn (Jvm.FP.Core.roundRatio Jvm.FP.Core.b32 (decide (g.toInt < 0)) g.toInt.natAbs 1 0) = false
    rw [Jvm.FP.Core.sgn_roundRatio]
    exact decide_eq_false (by omega)
  have hz := Jvm.FP.Core.FInt_zval (Jvm.FP.Core.i2f_int (a := g) (by rw [hg, Int.natAbs_natCast]; omega))
  rw [hg, show Jvm.FP.Core.val32 (Jvm.FP.Core.i2f g) = .fin s c q from hv] at hz
  rw [show Jvm.FP.Core.val32 (FP.i2f g) = .fin s c q from hv] at hs
  have hs' : s = false := hs
  subst hs'
  refine ⟨c, q, hv, ?_⟩
  have hz2 : ((Jvm.FP.Core.inUnits c q Jvm.FP.Core.b32.qmin : Nat) : Int) = (n : Int) * (Jvm.FP.Core.one32 : Int) := hz
  rw [← Int.natCast_mul] at hz2
  exact Int.ofNat.inj hz2
theorem fq_div {a : UInt32} {c n : Nat} {q : Int} (hv : Jvm.FP.Core.val32 a = .fin false c q) (hm : Jvm.FP.Core.inUnits c q Jvm.FP.Core.b32.qmin = n * Jvm.FP.Core.one32) (hn : n ≤ 2000) : Jvm.FP.Core.val32 (FP.fdiv a (1148846080 : UInt32)) ≠ .nan ∧ Jvm.FP.Core.sgn (Jvm.FP.Core.val32 (FP.fdiv a (1148846080 : UInt32))) = false ∧ Jvm.FP.Core.zmag Jvm.FP.Core.b32 (Jvm.FP.Core.val32 (FP.fdiv a (1148846080 : UInt32))) ≤ 2 * Jvm.FP.Core.one32 := by
  have hk : Jvm.FP.Core.val32 (1148846080 : UInt32) = .fin false 16384000 (-14) := by decide +kernel
  have e : Jvm.FP.Core.val32 (FP.fdiv a (1148846080 : UInt32)) = Jvm.FP.Core.roundRatio Jvm.FP.Core.b32 false c 16384000 (q - (-14)) := by
    rw [show Jvm.FP.Core.val32 (FP.fdiv a (1148846080 : UInt32)) = Jvm.FP.Core.quotient Jvm.FP.Core.b32 (Jvm.FP.Core.val32 a) (Jvm.FP.Core.val32 (1148846080 : UInt32)) from Jvm.FP.Core.val32_fdiv _ _, hv, hk]
    exact fq_quot (by decide)
  have hq := fq_q hv
  have hV : Jvm.FP.Core.zmag Jvm.FP.Core.b32 (Jvm.FP.Core.val32 (1073741824 : UInt32)) = 2 * Jvm.FP.Core.one32 := by decide +kernel
  rw [e]
  refine ⟨Jvm.FP.Core.roundRatio_ne_nan _ _ _ _ _, Jvm.FP.Core.sgn_roundRatio _ _ _ _ _, ?_⟩
  rw [← hV]
  refine Jvm.FP.Core.zmag_roundRatio_le Jvm.FP.Core.good_b32 (e0 := Jvm.FP.Core.b32.qmin) (by decide) (Jvm.FP.Core.val32_fits _) (by decide +kernel) (Int.le_refl _) (by omega) ?_
  rw [hV, Int.sub_self]
  unfold Jvm.FP.Core.inUnits at hm ⊢
  rw [show (q - (-14) - Jvm.FP.Core.b32.qmin).toNat = (q - Jvm.FP.Core.b32.qmin).toNat + 14 by omega, Nat.pow_add, ← Nat.mul_assoc, hm]
  show n * Jvm.FP.Core.one32 * 2 ^ 14 ≤ 2 * Jvm.FP.Core.one32 * 1 * 16384000
  have h9 := Nat.mul_le_mul_right Jvm.FP.Core.one32 hn
  generalize Jvm.FP.Core.one32 = u at h9 ⊢
  generalize n * u = z at h9 ⊢
  omega
theorem fq_fac {D : UInt32} (h1 : Jvm.FP.Core.val32 D ≠ .nan) (h2 : Jvm.FP.Core.sgn (Jvm.FP.Core.val32 D) = false) (h3 : Jvm.FP.Core.zmag Jvm.FP.Core.b32 (Jvm.FP.Core.val32 D) ≤ 2 * Jvm.FP.Core.one32) : ∃ c q, Jvm.FP.Core.val32 (FP.fadd FP.fconst1 D) = .fin false c q ∧ Jvm.FP.Core.inUnits c q Jvm.FP.Core.b32.qmin ≤ 3 * Jvm.FP.Core.one32 := by
  have f1 : Jvm.FP.Core.FFin D := ff_of h1 (Nat.le_trans h3 (by decide +kernel))
  have g1 : Jvm.FP.Core.FFin FP.fconst1 := ⟨false, 2 ^ 23, -23, Jvm.FP.Core.val32_fconst1⟩
  have zD : Jvm.FP.Core.zval Jvm.FP.Core.b32 (Jvm.FP.Core.val32 D) = ((Jvm.FP.Core.zmag Jvm.FP.Core.b32 (Jvm.FP.Core.val32 D) : Nat) : Int) := by unfold Jvm.FP.Core.zval; rw [h2]; rfl
  have z1 : Jvm.FP.Core.zval Jvm.FP.Core.b32 (Jvm.FP.Core.val32 FP.fconst1) = (Jvm.FP.Core.one32 : Int) := by decide +kernel
  have z3 : Jvm.FP.Core.zval Jvm.FP.Core.b32 (Jvm.FP.Core.val32 (1077936128 : UInt32)) = 3 * (Jvm.FP.Core.one32 : Int) := by decide +kernel
  have e : Jvm.FP.Core.val32 (FP.fadd FP.fconst1 D) = Jvm.FP.Core.round Jvm.FP.Core.b32 (Jvm.FP.Core.exactSum (Jvm.FP.Core.val32 FP.fconst1) (Jvm.FP.Core.val32 D)) := Jvm.FP.Core.val32_fadd _ _
  have hle := Jvm.FP.Core.sum_le Jvm.FP.Core.good_b32 (V := Jvm.FP.Core.val32 (1077936128 : UInt32)) g1 f1 (Jvm.FP.Core.val32_fits _) (Jvm.FP.Core.val32_fits _) (Jvm.FP.Core.val32_fits _) (by decide +kernel) (by rw [zD, z1, z3]; omega)
  have hge := Jvm.FP.Core.sum_ge Jvm.FP.Core.good_b32 (V := Jvm.FP.Core.val32 FP.fconst1) g1 f1 (Jvm.FP.Core.val32_fits _) (Jvm.FP.Core.val32_fits _) (Jvm.FP.Core.val32_fits _) (by decide +kernel) (by rw [zD]; omega)
  rw [← e] at hle hge
  rw [z3] at hle
  rw [z1] at hge
  have hn : Jvm.FP.Core.val32 (FP.fadd FP.fconst1 D) ≠ .nan := (Jvm.FP.Core.notNaN_iff32 _).mp (Jvm.FP.Core.fadd_out' g1 ((Jvm.FP.Core.notNaN_iff32 _).mpr h1))
  have hp := Jvm.FP.Core.one32_pos
  have hpos : 0 < Jvm.FP.Core.signed (Jvm.FP.Core.sgn (Jvm.FP.Core.val32 (FP.fadd FP.fconst1 D))) (Jvm.FP.Core.zmag Jvm.FP.Core.b32 (Jvm.FP.Core.val32 (FP.fadd FP.fconst1 D))) := by
    have : Jvm.FP.Core.zval Jvm.FP.Core.b32 (Jvm.FP.Core.val32 (FP.fadd FP.fconst1 D)) = Jvm.FP.Core.signed (Jvm.FP.Core.sgn (Jvm.FP.Core.val32 (FP.fadd FP.fconst1 D))) (Jvm.FP.Core.zmag Jvm.FP.Core.b32 (Jvm.FP.Core.val32 (FP.fadd FP.fconst1 D))) := rfl
    omega
  obtain ⟨hs, hm⟩ := Jvm.FP.Core.signed_pos hpos
  have hle2 : Jvm.FP.Core.zmag Jvm.FP.Core.b32 (Jvm.FP.Core.val32 (FP.fadd FP.fconst1 D)) ≤ 3 * Jvm.FP.Core.one32 := by
    have : Jvm.FP.Core.zval Jvm.FP.Core.b32 (Jvm.FP.Core.val32 (FP.fadd FP.fconst1 D)) = Jvm.FP.Core.signed (Jvm.FP.Core.sgn (Jvm.FP.Core.val32 (FP.fadd FP.fconst1 D))) (Jvm.FP.Core.zmag Jvm.FP.Core.b32 (Jvm.FP.Core.val32 (FP.fadd FP.fconst1 D))) := rfl
    omega
  obtain ⟨s, c, q, hv⟩ := ff_of hn (Nat.le_trans hle2 (by decide +kernel))
  rw [hv] at hs hm hle2
  cases s with
  | true =>
    have hs2 : -((Jvm.FP.Core.zmag Jvm.FP.Core.b32 (.fin true c q) : Nat) : Int) = ((Jvm.FP.Core.zmag Jvm.FP.Core.b32 (.fin true c q) : Nat) : Int) := hs
    omega
  | false => exact ⟨c, q, hv, hle2⟩
theorem fq_prod {a : Int32} {F : UInt32} {n d : Nat} {r : Int} (ha : a.toInt = (n : Int)) (hn : n ≤ 99999) (hF : Jvm.FP.Core.val32 F = .fin false d r) (hm : Jvm.FP.Core.inUnits d r Jvm.FP.Core.b32.qmin ≤ 3 * Jvm.FP.Core.one32) : vf_n32 (FP.fmul (FP.i2f a) F) ∧ bd (FP.f2i (FP.fmul (FP.i2f a) F)) 0 4194304 := by
  obtain ⟨c, q, hv, hc⟩ := fq_i2f ha (by omega)
  have fa : Jvm.FP.Core.FFin (FP.i2f a) := ⟨_, _, _, hv⟩
  have fF : Jvm.FP.Core.FFin F := ⟨_, _, _, hF⟩
  have hvn : vf_n32 (FP.fmul (FP.i2f a) F) := fn_mul fa fF
  have hnn : Jvm.FP.Core.val32 (FP.fmul (FP.i2f a) F) ≠ .nan := (Jvm.FP.Core.notNaN_iff32 _).mp (Jvm.FP.Core.fmul_out fa fF)
  refine ⟨hvn, ?_⟩
  have e : Jvm.FP.Core.val32 (FP.fmul (FP.i2f a) F) = Jvm.FP.Core.round Jvm.FP.Core.b32 (Jvm.FP.Core.exactProduct (Jvm.FP.Core.val32 (FP.i2f a)) (Jvm.FP.Core.val32 F)) := Jvm.FP.Core.val32_fmul _ _
  have x1 := Jvm.FP.Core.val32_fits (FP.i2f a)
  have x2 := Jvm.FP.Core.val32_fits F
  rw [hv] at x1
  rw [hF] at x2
  obtain ⟨u1, u2, u3⟩ := Jvm.FP.Core.product_units x1 x2
  rw [hv, hF, u1] at e
  have u4 : Jvm.FP.Core.inUnits (c * d) (q + r) (2 * Jvm.FP.Core.b32.qmin) ≤ (99999 * Jvm.FP.Core.one32) * (3 * Jvm.FP.Core.one32) := by
    rw [u3]
    exact Nat.mul_le_mul (show Jvm.FP.Core.inUnits c q Jvm.FP.Core.b32.qmin ≤ _ by rw [hc]; exact Nat.mul_le_mul_right _ hn) hm
  have hp : 2 ^ (Jvm.FP.Core.b32.qmin - 2 * Jvm.FP.Core.b32.qmin).toNat = Jvm.FP.Core.one32 := by decide +kernel
  have zV : Jvm.FP.Core.zval Jvm.FP.Core.b32 (Jvm.FP.Core.val32 (1249902592 : UInt32)) = 4194304 * (Jvm.FP.Core.one32 : Int) := by decide +kernel
  have z0 : Jvm.FP.Core.zval Jvm.FP.Core.b32 (Jvm.FP.Core.val32 (0 : UInt32)) = 0 := Jvm.FP.Core.zval32_zero
  have hle := Jvm.FP.Core.zval_round_le Jvm.FP.Core.good_b32 (s := (false != false)) (c := c * d) (q := q + r) (e0 := 2 * Jvm.FP.Core.b32.qmin) (Jvm.FP.Core.val32_fits (1249902592 : UInt32)) (by decide +kernel) (by decide +kernel) u2 (by
    rw [zV, hp]
    show ((Jvm.FP.Core.inUnits (c * d) (q + r) (2 * Jvm.FP.Core.b32.qmin) : Nat) : Int) ≤ _
    generalize Jvm.FP.Core.inUnits (c * d) (q + r) (2 * Jvm.FP.Core.b32.qmin) = w at u4
    generalize Jvm.FP.Core.one32 = u at u4 ⊢
    have h1 : (99999 * u) * (3 * u) = 299997 * (u * u) := by
      rw [Nat.mul_mul_mul_comm]
    have h2 : 4194304 * (u : Int) * (u : Int) = 4194304 * ((u * u : Nat) : Int) := by rw [Int.natCast_mul, Int.mul_assoc]
    rw [h2]
    rw [h1] at u4
    omega)
  have hge := Jvm.FP.Core.zval_round_ge Jvm.FP.Core.good_b32 (s := (false != false)) (c := c * d) (q := q + r) (e0 := 2 * Jvm.FP.Core.b32.qmin) (Jvm.FP.Core.val32_fits (0 : UInt32)) (by decide +kernel) (by decide +kernel) u2 (by
    rw [z0, Int.zero_mul]
    exact Int.natCast_nonneg _)
  rw [← e] at hle hge
  rw [zV] at hle
  rw [z0] at hge
  obtain ⟨i, i1, i2, -, -⟩ := Jvm.FP.Core.cut_pos (s := Jvm.FP.Core.sgn (Jvm.FP.Core.val32 (FP.fmul (FP.i2f a) F))) (m := Jvm.FP.Core.zmag Jvm.FP.Core.b32 (Jvm.FP.Core.val32 (FP.fmul (FP.i2f a) F))) (k := 4194305) Jvm.FP.Core.one32_pos hge (by
    have hp1 := Jvm.FP.Core.one32_pos
    have : Jvm.FP.Core.zval Jvm.FP.Core.b32 (Jvm.FP.Core.val32 (FP.fmul (FP.i2f a) F)) = Jvm.FP.Core.signed (Jvm.FP.Core.sgn (Jvm.FP.Core.val32 (FP.fmul (FP.i2f a) F))) (Jvm.FP.Core.zmag Jvm.FP.Core.b32 (Jvm.FP.Core.val32 (FP.fmul (FP.i2f a) F))) := rfl
    omega)
  have hf := Jvm.FP.Core.f2i_val hnn
  rw [i1] at hf
  show (0 : Int) ≤ (Jvm.FP.Core.f2i (Jvm.FP.Core.fmul (Jvm.FP.Core.i2f a) F)).toInt ∧ (Jvm.FP.Core.f2i (Jvm.FP.Core.fmul (Jvm.FP.Core.i2f a) F)).toInt ≤ 4194304
  have hf2 : (Jvm.FP.Core.f2i (Jvm.FP.Core.fmul (Jvm.FP.Core.i2f a) F)).toInt = max (-2 ^ 31) (min (2 ^ 31 - 1) (i : Int)) := hf
  omega
theorem fp_grow {r d : Int32} (hr : bd r 0 100) (hd : bd d 0 364) : ∃ n : Nat, n ≤ 1213 ∧ ((r * d) / (30 : Int32)).toInt = (n : Int) := by
  obtain ⟨r1, r2, r3⟩ := i32_nn hr.1
  obtain ⟨d1, d2, d3⟩ := i32_nn hd.1
  have hr2 := hr.2
  have hd2 := hd.2
  have hm : r.toNatClampNeg * d.toNatClampNeg ≤ 100 * 364 := Nat.mul_le_mul (by omega) (by omega)
  refine ⟨r.toNatClampNeg * d.toNatClampNeg / 30, by omega, ?_⟩
  rw [r1, d1, show (30 : Int32) = nI 30 from rfl, pk_mul, pk_div (by omega) (by decide) (by decide), nI_clamp r2, nI_clamp d2, nI_toInt (by omega)]
theorem fp_a {r d : Int32} (hr : bd r 0 100) (hd : bd d 0 364) : vf_n32 (FP.fdiv (FP.i2f ((r * d) / (30 : Int32))) (1148846080 : UInt32)) ∧ vf_n32 (FP.fadd FP.fconst1 (FP.fdiv (FP.i2f ((r * d) / (30 : Int32))) (1148846080 : UInt32))) ∧
    ∀ a : Int32, bd a 1 99999 → vf_n32 (FP.fmul (FP.i2f a) (FP.fadd FP.fconst1 (FP.fdiv (FP.i2f ((r * d) / (30 : Int32))) (1148846080 : UInt32)))) ∧ bd (FP.f2i (FP.fmul (FP.i2f a) (FP.fadd FP.fconst1 (FP.fdiv (FP.i2f ((r * d) / (30 : Int32))) (1148846080 : UInt32))))) 0 4194304 := by
  obtain ⟨n, hn, hg⟩ := fp_grow hr hd
  obtain ⟨c, q, hv, hm⟩ := fq_i2f hg (by omega)
  obtain ⟨e1, e2, e3⟩ := fq_div hv hm (by omega)
  obtain ⟨c2, q2, hv2, hm2⟩ := fq_fac e1 e2 e3
  refine ⟨fn_val e1, fn_val (fq_n hv2), fun a ha => ?_⟩
  obtain ⟨a1, a2, a3⟩ := i32_nn (x := a) (by have := ha.1; omega)
  exact fq_prod a3.symm (by have := ha.2; omega) hv2 hm2
/-- the bits of a ratio: no NaN; and class LayeredClaims writes out the same bits (bt: the answer of its loops) -/
theorem fp_nz {y : Int32} (hy : bd y 1 599994) : y ≠ 0 := fun z => by
  rw [z] at hy
  exact absurd hy.1 (by decide)
theorem fp_b {x y : Int32} (hx : bd x 0 599994) (hy : bd y 1 599994) : vf_n32 (FP.fdiv (FP.i2f x) (FP.i2f y)) ∧ Op.cmpValue (FP.fcmp (FP.fdiv (FP.i2f x) (FP.i2f y)) (FP.fdiv (FP.i2f x) (FP.i2f y))) CmpOp.l = 0 := by
  have h := fn_div (x := x) (fp_nz hy)
  refine ⟨h, ?_⟩
  rw [show FP.fcmp (FP.fdiv (FP.i2f x) (FP.i2f y)) (FP.fdiv (FP.i2f x) (FP.i2f y)) = some .eq from Jvm.FP.Core.fcmp_self ((Jvm.FP.Core.notNaN_iff32 _).mp ((fn_bits _).mp h))]
  rfl
/-- a normal positive float of small exponent -/
def FQ (a : UInt32) (C : Nat) (q : Int) : Prop := Jvm.FP.Core.val32 a = .fin false C q ∧ 8388608 ≤ C ∧ C < 16777216 ∧ -60 ≤ q ∧ q ≤ 20
theorem fq_fits {C : Nat} {q : Int} (h1 : 8388608 ≤ C) (h2 : C < 16777216) (h3 : -60 ≤ q) (h4 : q ≤ 20) : Jvm.FP.Core.fits Jvm.FP.Core.b32 (.fin false C q) := by
  have e1 : Jvm.FP.Core.b32.qmin = -149 := by decide
  have e2 : Jvm.FP.Core.b32.qmax = 104 := by decide
  have e3 : Jvm.FP.Core.b32.tails = 8388608 := by decide
  refine ⟨?_, ?_, ?_, Or.inr ?_⟩
  · show C < 2 ^ 24
    omega
  · rw [e1]; omega
  · rw [e2]; omega
  · rw [e3]; exact h1
theorem fq_half {a : UInt32} {C : Nat} {q : Int} (h : FQ a C q) (hq : -60 < q) : FQ (FP.fdiv a FP.fconst2) C (q - 1) ∧ vf_n32 (FP.fdiv a FP.fconst2) := by
  obtain ⟨hv, h1, h2, h3, h4⟩ := h
  have hk : Jvm.FP.Core.val32 FP.fconst2 = .fin false 8388608 (-22) := by decide +kernel
  have e : Jvm.FP.Core.val32 (FP.fdiv a FP.fconst2) = .fin false C (q - 1) := by
    rw [show Jvm.FP.Core.val32 (FP.fdiv a FP.fconst2) = Jvm.FP.Core.quotient Jvm.FP.Core.b32 (Jvm.FP.Core.val32 a) (Jvm.FP.Core.val32 FP.fconst2) from Jvm.FP.Core.val32_fdiv _ _, hv, hk]
    rw [fq_quot (by decide)]
    refine Jvm.FP.Core.roundRatio_exact (s := false) Jvm.FP.Core.good_b32 (by decide) (fq_fits h1 h2 (by omega) (by omega)) ?_
    rw [show (q - (-22) - (q - 1)).toNat = 23 by omega, show (q - 1 - (q - (-22))).toNat = 0 by omega]
    omega
  exact ⟨⟨e, h1, h2, by omega, by omega⟩, fn_val (fq_n e)⟩
theorem fq_twice {a : UInt32} {C : Nat} {q : Int} (h : FQ a C q) (hq : q < 20) : FQ (FP.fmul a FP.fconst2) C (q + 1) ∧ vf_n32 (FP.fmul a FP.fconst2) := by
  obtain ⟨hv, h1, h2, h3, h4⟩ := h
  have hk : Jvm.FP.Core.val32 FP.fconst2 = .fin false 8388608 (-22) := by decide +kernel
  have e : Jvm.FP.Core.val32 (FP.fmul a FP.fconst2) = .fin false C (q + 1) := by
    rw [show Jvm.FP.Core.val32 (FP.fmul a FP.fconst2) = Jvm.FP.Core.round Jvm.FP.Core.b32 (Jvm.FP.Core.exactProduct (Jvm.FP.Core.val32 a) (Jvm.FP.Core.val32 FP.fconst2)) from Jvm.FP.Core.val32_fmul _ _, hv, hk]
    show Jvm.FP.Core.roundRatio Jvm.FP.Core.b32 (false != false) (C * 8388608) 1 (q + (-22)) = _
    refine Jvm.FP.Core.roundRatio_exact (s := false) Jvm.FP.Core.good_b32 (by decide) (fq_fits h1 h2 (by omega) (by omega)) ?_
    rw [show (q + (-22) - (q + 1)).toNat = 0 by omega, show (q + 1 - (q + (-22))).toNat = 23 by omega]
    omega
  exact ⟨⟨e, h1, h2, by omega, by omega⟩, fn_val (fq_n e)⟩
theorem fq_zval {a : UInt32} {C : Nat} {q : Int} (h : FQ a C q) : Jvm.FP.Core.zval Jvm.FP.Core.b32 (Jvm.FP.Core.val32 a) = ((C * 2 ^ (q + 149).toNat : Nat) : Int) := by
  rw [h.1]
  show ((Jvm.FP.Core.inUnits C q Jvm.FP.Core.b32.qmin : Nat) : Int) = _
  unfold Jvm.FP.Core.inUnits
  rw [show Jvm.FP.Core.b32.qmin = -149 by decide, show (q - -149) = q + 149 by omega]
/-- against the power 2^(k - 149) -/
theorem fq_cmp {a b : UInt32} {C : Nat} {q : Int} {k : Nat} (h : FQ a C q) (hb : Jvm.FP.Core.val32 b ≠ .nan) (hz : Jvm.FP.Core.zval Jvm.FP.Core.b32 (Jvm.FP.Core.val32 b) = ((2 ^ k : Nat) : Int)) : ((q + 149 + 24 ≤ (k : Int)) → Jvm.FP.Core.fcmp a b = some .lt) ∧ (((k : Int) ≤ q + 149 + 23) → (Jvm.FP.Core.fcmp a b = some .gt ∨ Jvm.FP.Core.fcmp a b = some .eq)) := by
  have hz2 := fq_zval h
  obtain ⟨hv, h1, h2, h3, h4⟩ := h
  constructor
  · intro hk
    refine Jvm.FP.Core.fcmp_lt.mpr ⟨fq_n hv, hb, ?_⟩
    rw [hz2, hz]
    refine Int.ofNat_lt.mpr ?_
    calc C * 2 ^ (q + 149).toNat < 2 ^ 24 * 2 ^ (q + 149).toNat := Nat.mul_lt_mul_of_pos_right (by omega) (Nat.two_pow_pos _)
      _ = 2 ^ (24 + (q + 149).toNat) := (Nat.pow_add ..).symm
      _ ≤ 2 ^ k := Nat.pow_le_pow_right (by decide) (by omega)
  · intro hk
    refine Jvm.FP.Core.fcmp_ge.mpr ⟨fq_n hv, hb, ?_⟩
    rw [hz2, hz]
    refine Int.ofNat_le.mpr ?_
    calc 2 ^ k ≤ 2 ^ (23 + (q + 149).toNat) := Nat.pow_le_pow_right (by decide) (by omega)
      _ = 2 ^ 23 * 2 ^ (q + 149).toNat := Nat.pow_add ..
      _ ≤ C * 2 ^ (q + 149).toNat := Nat.mul_le_mul_right _ (by omega)
theorem fq_c2 {a : UInt32} {C : Nat} {q : Int} (h : FQ a C q) : (q ≤ -23 → FP.fcmp a FP.fconst2 = some .lt) ∧ (-22 ≤ q → (FP.fcmp a FP.fconst2 = some .gt ∨ FP.fcmp a FP.fconst2 = some .eq)) := by
  obtain ⟨f, g⟩ := fq_cmp (k := 150) h (b := FP.fconst2) (by decide +kernel) (by decide +kernel)
  exact ⟨fun z => f (by omega), fun z => g (by omega)⟩
theorem fq_c1 {a : UInt32} {C : Nat} {q : Int} (h : FQ a C q) : (q ≤ -24 → FP.fcmp a FP.fconst1 = some .lt) ∧ (-23 ≤ q → (FP.fcmp a FP.fconst1 = some .gt ∨ FP.fcmp a FP.fconst1 = some .eq)) := by
  obtain ⟨f, g⟩ := fq_cmp (k := 149) h (b := FP.fconst1) (by decide +kernel) (by decide +kernel)
  exact ⟨fun z => f (by omega), fun z => g (by omega)⟩
theorem fq_c0 {a : UInt32} {C : Nat} {q : Int} (h : FQ a C q) : FP.fcmp a FP.fconst0 = some .gt := by
  refine Jvm.FP.Core.fcmp_gt.mpr ⟨fq_n h.1, by decide +kernel, ?_⟩
  rw [fq_zval h, show Jvm.FP.Core.zval Jvm.FP.Core.b32 (Jvm.FP.Core.val32 FP.fconst0) = 0 by decide +kernel]
  have := Nat.mul_pos (show 0 < C by have := h.2.1; omega) (Nat.two_pow_pos (q + 149).toNat)
  omega
/-- the digits behind the first, as an int -/
theorem fq_end {a : UInt32} {C : Nat} (h : FQ a C (-23)) : vf_n32 (FP.fsub a FP.fconst1) ∧ vf_n32 (FP.fmul (FP.fsub a FP.fconst1) (1258291200 : UInt32)) ∧ FP.f2i (FP.fmul (FP.fsub a FP.fconst1) (1258291200 : UInt32)) = nI (C - 8388608) := by
  obtain ⟨hv, h1, h2, -, -⟩ := h
  obtain ⟨n, hn⟩ : ∃ n, C = 8388608 + n := ⟨C - 8388608, by omega⟩
  subst hn
  have hk : Jvm.FP.Core.val32 FP.fconst1 = .fin false 8388608 (-23) := by decide +kernel
  have es : Jvm.FP.Core.exactSum (.fin false (8388608 + n) (-23)) (Jvm.FP.Core.negate (.fin false 8388608 (-23))) = .fin false n (-23) := by
    have hsu : Jvm.FP.Core.sumUnits false (8388608 + n) (-23) true 8388608 (-23) (min (-23) (-23)) = (n : Int) := by
      show ((Jvm.FP.Core.inUnits (8388608 + n) (-23) (-23) : Nat) : Int) + (-((Jvm.FP.Core.inUnits 8388608 (-23) (-23) : Nat) : Int)) = _
      show (((8388608 + n) * 1 : Nat) : Int) + (-((8388608 * 1 : Nat) : Int)) = _
      omega
    show Jvm.FP.Core.Datum.fin (Jvm.FP.Core.sumSign false true (Jvm.FP.Core.sumUnits false (8388608 + n) (-23) true 8388608 (-23) (min (-23) (-23)))) (Jvm.FP.Core.sumUnits false (8388608 + n) (-23) true 8388608 (-23) (min (-23) (-23))).natAbs (min (-23) (-23)) = _
    rw [hsu]
    have hsg : Jvm.FP.Core.sumSign false true (n : Int) = false := by
      unfold Jvm.FP.Core.sumSign
      split
      · rfl
      · exact decide_eq_false (by omega)
    rw [hsg, Int.natAbs_natCast]
    rfl
  have e1 : Jvm.FP.Core.val32 (FP.fsub a FP.fconst1) = Jvm.FP.Core.round Jvm.FP.Core.b32 (.fin false n (-23)) := by
    rw [show Jvm.FP.Core.val32 (FP.fsub a FP.fconst1) = Jvm.FP.Core.round Jvm.FP.Core.b32 (Jvm.FP.Core.exactSum (Jvm.FP.Core.val32 a) (Jvm.FP.Core.negate (Jvm.FP.Core.val32 FP.fconst1))) from Jvm.FP.Core.val32_fsub _ _, hv, hk, es]
  obtain ⟨c', q', e2, e3⟩ := Jvm.FP.Core.round_exact Jvm.FP.Core.good_b32 false (c := n) (q := -23) (show n < 2 ^ 24 by omega) (by decide) (by decide)
  rw [e2] at e1
  have hm : Jvm.FP.Core.val32 (1258291200 : UInt32) = .fin false 8388608 0 := by decide +kernel
  have fs : Jvm.FP.Core.FFin (FP.fsub a FP.fconst1) := ⟨_, _, _, e1⟩
  have fm : Jvm.FP.Core.FFin (1258291200 : UInt32) := ⟨_, _, _, hm⟩
  have hnn : Jvm.FP.Core.val32 (FP.fmul (FP.fsub a FP.fconst1) (1258291200 : UInt32)) ≠ .nan := (Jvm.FP.Core.notNaN_iff32 _).mp (Jvm.FP.Core.fmul_out fs fm)
  refine ⟨fn_val (fq_n e1), fn_mul fs fm, ?_⟩
  have e : Jvm.FP.Core.val32 (FP.fmul (FP.fsub a FP.fconst1) (1258291200 : UInt32)) = Jvm.FP.Core.round Jvm.FP.Core.b32 (Jvm.FP.Core.exactProduct (Jvm.FP.Core.val32 (FP.fsub a FP.fconst1)) (Jvm.FP.Core.val32 (1258291200 : UInt32))) := Jvm.FP.Core.val32_fmul _ _
  have x1 := Jvm.FP.Core.val32_fits (FP.fsub a FP.fconst1)
  have x2 := Jvm.FP.Core.val32_fits (1258291200 : UInt32)
  rw [e1] at x1
  rw [hm] at x2
  obtain ⟨u1, u2, u3⟩ := Jvm.FP.Core.product_units x1 x2
  rw [e1, hm, u1] at e
  have u4 : Jvm.FP.Core.inUnits (c' * 8388608) (q' + 0) (2 * Jvm.FP.Core.b32.qmin) = n * Jvm.FP.Core.one32 * Jvm.FP.Core.one32 := by
    rw [u3]
    show Jvm.FP.Core.inUnits c' q' Jvm.FP.Core.b32.qmin * Jvm.FP.Core.inUnits 8388608 0 Jvm.FP.Core.b32.qmin = _
    rw [e3]
    show n * 2 ^ (-23 - Jvm.FP.Core.b32.qmin).toNat * (8388608 * 2 ^ (0 - Jvm.FP.Core.b32.qmin).toNat) = n * Jvm.FP.Core.one32 * Jvm.FP.Core.one32
    have k1 : 2 ^ (-23 - Jvm.FP.Core.b32.qmin).toNat * (8388608 * 2 ^ (0 - Jvm.FP.Core.b32.qmin).toNat) = Jvm.FP.Core.one32 * Jvm.FP.Core.one32 := by decide +kernel
    rw [Nat.mul_assoc, k1, Nat.mul_assoc]
  have hp : 2 ^ (Jvm.FP.Core.b32.qmin - 2 * Jvm.FP.Core.b32.qmin).toNat = Jvm.FP.Core.one32 := by decide +kernel
  have zV : Jvm.FP.Core.zval Jvm.FP.Core.b32 (Jvm.FP.Core.val32 (Jvm.FP.Core.i2f (nI n))) = (n : Int) * (Jvm.FP.Core.one32 : Int) := by
    have := Jvm.FP.Core.FInt_zval (Jvm.FP.Core.i2f_int (a := nI n) (by rw [nI_toInt (by omega), Int.natAbs_natCast]; omega))
    rw [nI_toInt (by omega)] at this
    exact this
  have nV : Jvm.FP.Core.val32 (Jvm.FP.Core.i2f (nI n)) ≠ .nan := (Jvm.FP.Core.i2f_fin (nI n)).ne_nan
  have hw : ((Jvm.FP.Core.inUnits (c' * 8388608) (q' + 0) (2 * Jvm.FP.Core.b32.qmin) : Nat) : Int) = (n : Int) * (Jvm.FP.Core.one32 : Int) * (Jvm.FP.Core.one32 : Int) := by rw [u4, Int.natCast_mul, Int.natCast_mul]
  have hle := Jvm.FP.Core.zval_round_le Jvm.FP.Core.good_b32 (s := (false != false)) (c := c' * 8388608) (q := q' + 0) (e0 := 2 * Jvm.FP.Core.b32.qmin) (Jvm.FP.Core.val32_fits (Jvm.FP.Core.i2f (nI n))) nV (by decide +kernel) u2 (by
    rw [zV, hp]
    exact Int.le_of_eq hw)
  have hge := Jvm.FP.Core.zval_round_ge Jvm.FP.Core.good_b32 (s := (false != false)) (c := c' * 8388608) (q := q' + 0) (e0 := 2 * Jvm.FP.Core.b32.qmin) (Jvm.FP.Core.val32_fits (Jvm.FP.Core.i2f (nI n))) nV (by decide +kernel) u2 (by
    rw [zV, hp]
    exact Int.le_of_eq hw.symm)
  rw [← e] at hle hge
  rw [zV] at hle hge
  have hone := Jvm.FP.Core.one32_pos
  have hz : Jvm.FP.Core.signed (Jvm.FP.Core.sgn (Jvm.FP.Core.val32 (FP.fmul (FP.fsub a FP.fconst1) (1258291200 : UInt32)))) (Jvm.FP.Core.zmag Jvm.FP.Core.b32 (Jvm.FP.Core.val32 (FP.fmul (FP.fsub a FP.fconst1) (1258291200 : UInt32)))) = (n : Int) * (Jvm.FP.Core.one32 : Int) := Int.le_antisymm hle hge
  obtain ⟨i, i1, i2, i3, i4⟩ := Jvm.FP.Core.cut_pos (s := Jvm.FP.Core.sgn (Jvm.FP.Core.val32 (FP.fmul (FP.fsub a FP.fconst1) (1258291200 : UInt32)))) (m := Jvm.FP.Core.zmag Jvm.FP.Core.b32 (Jvm.FP.Core.val32 (FP.fmul (FP.fsub a FP.fconst1) (1258291200 : UInt32)))) (k := n + 1) hone (by rw [hz]; exact Int.mul_nonneg (Int.natCast_nonneg _) (Int.natCast_nonneg _)) (by rw [hz]; rw [Int.natCast_add, Int.add_mul]; omega)
  rw [hz] at i3 i4
  have hi : i = n := by
    have j1 : (i : Int) ≤ (n : Int) := Int.le_of_mul_le_mul_right i3 (by omega)
    have j2 : (n : Int) < (i : Int) + 1 := Int.lt_of_mul_lt_mul_right i4 (by omega)
    omega
  subst hi
  have hf := Jvm.FP.Core.f2i_val hnn
  rw [i1] at hf
  refine Int32.toInt_inj.mp ?_
  rw [nI_toInt (by omega), show (8388608 + i - 8388608) = i by omega]
  have hf2 : (FP.f2i (FP.fmul (FP.fsub a FP.fconst1) (1258291200 : UInt32))).toInt = max (-2 ^ 31) (min (2 ^ 31 - 1) (i : Int)) := hf
  omega
theorem fq_shl : ∀ e : Fin 256, nI e.val <<< ((23 : Int32) &&& 31) = nI (e.val * 8388608) := by decide +kernel
/-- the bits of a normal float -/
theorem fq_bits {a : UInt32} {C : Nat} {q : Int} (h : FQ a C q) (hq : q ≤ 0) {x : Int32} (hx : x.toInt = q + 150) : (x <<< ((23 : Int32) &&& 31)) + nI (C - 8388608) = a.toInt32 := by
  obtain ⟨hv, h1, h2, h3, h4⟩ := h
  obtain ⟨n, hn⟩ : ∃ n, C = 8388608 + n := ⟨C - 8388608, by omega⟩
  obtain ⟨m, hm⟩ : ∃ m : Nat, q + 150 = (m : Int) := ⟨(q + 150).toNat, by omega⟩
  have hxm : x = nI m := by
    refine Int32.toInt_inj.mp ?_
    rw [nI_toInt (by omega), hx, hm]
  have ha : a = UInt32.ofNat (m * 8388608 + n) := by
    have h0 := Jvm.FP.Core.of32_val32 (a := a) (fq_n hv)
    rw [← h0, hv]
    show UInt32.ofNat (Jvm.FP.Core.encode Jvm.FP.Core.b32 (.fin false C q)) = _
    congr 1
    show (if C < Jvm.FP.Core.b32.tails then Jvm.FP.Core.assemble Jvm.FP.Core.b32 false 0 C else Jvm.FP.Core.assemble Jvm.FP.Core.b32 false ((q - Jvm.FP.Core.b32.qmin).toNat + 1) (C - Jvm.FP.Core.b32.tails)) = _
    have e3 : Jvm.FP.Core.b32.tails = 8388608 := by decide
    rw [e3, if_neg (by omega)]
    unfold Jvm.FP.Core.assemble
    rw [e3, show Jvm.FP.Core.b32.qmin = -149 by decide, show (q - -149).toNat + 1 = m by omega, show (false.toNat * Jvm.FP.Core.b32.exps + m) = m by show 0 * _ + m = m; omega]
    omega
  rw [hxm, fq_shl ⟨m, by omega⟩, show C - 8388608 = n by omega, nI_add, ha]
  rfl
theorem fq_loops {V : UInt32} {C : Nat} {Q : Int} (hF : FQ V C Q) (hQ2 : -43 ≤ Q) (hQ1 : Q ≤ -3) {M : Mm} {P : Int32 → Mm → Prop} (h : P V.toInt32 M) : wp_X6_bitsOfFloat V M P := by
  unfold wp_X6_bitsOfFloat
  refine ⟨fun _ => ?_, fun z => absurd (by rw [fq_c0 hF]; decide) z⟩
  refine lq2_i (fun x4 x5 => ∃ q : Int, FQ x4 C q ∧ q ≤ Q ∧ (-23 ≤ q ∨ q = Q) ∧ x5.toInt = 127 + Q - q) (fun _ x5 => (400 - x5.toInt).toNat) ?_ _ _ ⟨Q, hF, by omega, Or.inr rfl, by rw [show ((127 : Int32)).toInt = 127 by decide]; omega⟩
  rintro x4 x5 ⟨q, hF4, g1, g2, g3⟩ self hself
  refine ⟨fun z => ?_, fun z => ?_⟩
  · refine lq2_i (fun x9 x10 => ∃ q : Int, FQ x9 C q ∧ -43 ≤ q ∧ q ≤ -23 ∧ x10.toInt = 127 + Q - q) (fun _ x10 => (x10.toInt).toNat) ?_ _ _ ?_
    · rintro x9 x10 ⟨q, hF9, k1, k2, k3⟩ self2 hself2
      unfold jn
      refine ⟨fun z0 => ?_, fun z => ⟨fun z2 => ?_, fun _ => ?_⟩⟩
      · by_cases hq23 : q = -23
        · subst hq23
          obtain ⟨w1, w2, w3⟩ := fq_end hF9
          refine ⟨w1, w2, ?_⟩
          rw [w3, fq_bits hF (by omega) (by rw [k3]; omega)]
          exact h
        · exact absurd z0 (by rw [(fq_c1 hF9).1 (by omega)]; decide)
      · have z3 := i32_le.mp z2
        rw [show ((1 : Int32)).toInt = 1 by decide] at z3
        omega
      · have hq24 : q ≤ -24 := by
          rcases Int.lt_or_le q (-23) with y9 | y9
          · omega
          · refine absurd ?_ z
            rcases (fq_c1 hF9).2 y9 with y8 | y8 <;> rw [y8] <;> decide
        obtain ⟨t1, t2⟩ := fq_twice hF9 (by omega)
        have m1 : ((-1 : Int32)).toInt = -1 := by decide
        have ad : (x10 + (-1 : Int32)).toInt = x10.toInt + -1 := by
          rw [Jvm.Kit.i32_add (by rw [m1]; omega) (by rw [m1]; omega), m1]
        refine ⟨t2, ?_⟩
        rintro x19 rfl x20 rfl
        exact hself2 _ _ ⟨q + 1, t1, by omega, by omega, by rw [ad]; omega⟩ (by rw [ad]; omega)
    · have hq22 : q ≤ -23 := by
        rcases Int.lt_or_le q (-22) with y9 | y9
        · omega
        · refine absurd z ?_
          rcases (fq_c2 hF4).2 y9 with y8 | y8 <;> rw [y8] <;> decide
      exact ⟨q, hF4, by omega, hq22, g3⟩
  · have hq22 : -22 ≤ q := by
      rcases Int.lt_or_le q (-22) with y9 | y9
      · refine absurd ?_ z
        rw [(fq_c2 hF4).1 (by omega)]
        decide
      · exact y9
    refine ⟨fun z3 => ?_, fun _ => ?_⟩
    · have z4 := i32_le.mp z3
      rw [show ((254 : Int32)).toInt = 254 by decide] at z4
      omega
    · obtain ⟨t1, t2⟩ := fq_half hF4 (by omega)
      have m1 : ((1 : Int32)).toInt = 1 := by decide
      have ad : (x5 + (1 : Int32)).toInt = x5.toInt + 1 := by
        rw [Jvm.Kit.i32_add (by rw [m1]; omega) (by rw [m1]; omega), m1]
      refine ⟨t2, ?_⟩
      rintro x37 rfl x38 rfl
      exact hself _ _ ⟨q - 1, t1, by omega, Or.inl (by omega), by rw [ad]; omega⟩ (by rw [ad]; omega)
theorem fp_bits {x y : Int32} (hx : bd x 0 599994) (hy : bd y 1 599994) {M : Mm} {P : Int32 → Mm → Prop} (h : P (FP.fdiv (FP.i2f x) (FP.i2f y)).toInt32 M) : wp_X6_bitsOfFloat (FP.fdiv (FP.i2f x) (FP.i2f y)) M P := by
  obtain ⟨x1, x2, x3⟩ := i32_nn hx.1
  obtain ⟨y1, y2, y3⟩ := i32_nn (x := y) (by have := hy.1; omega)
  have hx9 := hx.2
  have hy9 := hy.2
  have hy0 := hy.1
  generalize hX : x.toNatClampNeg = X at x3
  generalize hY : y.toNatClampNeg = Y at y3
  obtain ⟨c, q, hv, hm⟩ := fq_i2f (n := X) x3.symm (by omega)
  obtain ⟨d, r, hw, hn⟩ := fq_i2f (n := Y) y3.symm (by omega)
  have hone := Jvm.FP.Core.one32_pos
  have hd : d ≠ 0 := fun z => by
    subst z
    unfold Jvm.FP.Core.inUnits at hn
    rw [Nat.zero_mul] at hn
    have := Nat.mul_pos (show 0 < Y by omega) hone
    omega
  have e : Jvm.FP.Core.val32 (FP.fdiv (FP.i2f x) (FP.i2f y)) = Jvm.FP.Core.roundRatio Jvm.FP.Core.b32 false c d (q - r) := by
    rw [show Jvm.FP.Core.val32 (FP.fdiv (FP.i2f x) (FP.i2f y)) = Jvm.FP.Core.quotient Jvm.FP.Core.b32 (Jvm.FP.Core.val32 (FP.i2f x)) (Jvm.FP.Core.val32 (FP.i2f y)) from Jvm.FP.Core.val32_fdiv _ _, hv, hw]
    exact fq_quot hd
  have hq := fq_q hv
  have hr := fq_q hw
  have e1 : Jvm.FP.Core.b32.qmin = -149 := by decide
  generalize hV : FP.fdiv (FP.i2f x) (FP.i2f y) = V at e h ⊢
  by_cases hx0 : X = 0
  · subst hx0
    have hc : c = 0 := by
      unfold Jvm.FP.Core.inUnits at hm
      rw [Nat.zero_mul] at hm
      rcases Nat.mul_eq_zero.mp hm with z | z
      · exact z
      · exact absurd z (Nat.pos_iff_ne_zero.mp (Nat.two_pow_pos _))
    subst hc
    have e0 : Jvm.FP.Core.val32 V = .fin false 0 Jvm.FP.Core.b32.qmin := by
      rw [e]
      rfl
    have hv0 : V = 0 := by
      have h0 := Jvm.FP.Core.of32_val32 (a := V) (fq_n e0)
      rw [← h0, e0]
      decide +kernel
    subst hv0
    unfold wp_X6_bitsOfFloat
    refine ⟨fun z => absurd z (by decide +kernel), fun _ => h⟩
  have u1 : Jvm.FP.Core.inUnits c (q - r) (2 * Jvm.FP.Core.b32.qmin - r) = X * Jvm.FP.Core.one32 * Jvm.FP.Core.one32 := by
    unfold Jvm.FP.Core.inUnits at hm ⊢
    rw [show (q - r - (2 * Jvm.FP.Core.b32.qmin - r)).toNat = (q - Jvm.FP.Core.b32.qmin).toNat + 149 by omega, Nat.pow_add, ← Nat.mul_assoc, hm]
    rfl
  have u2 : 2 ^ (Jvm.FP.Core.b32.qmin - (2 * Jvm.FP.Core.b32.qmin - r)).toNat * d = Y * Jvm.FP.Core.one32 := by
    unfold Jvm.FP.Core.inUnits at hn
    rw [show (Jvm.FP.Core.b32.qmin - (2 * Jvm.FP.Core.b32.qmin - r)).toNat = (r - Jvm.FP.Core.b32.qmin).toNat by omega, Nat.mul_comm, hn]
  have b1 := Jvm.FP.Core.zmag_roundRatio_ge Jvm.FP.Core.good_b32 (s := false) (A := c) (B := d) (e := q - r) (e0 := 2 * Jvm.FP.Core.b32.qmin - r) (V := Jvm.FP.Core.val32 (897581056 : UInt32)) (by omega) (Jvm.FP.Core.val32_fits _) (by omega) (by omega) (by
    rw [u1, Nat.mul_assoc, u2, show Jvm.FP.Core.zmag Jvm.FP.Core.b32 (Jvm.FP.Core.val32 (897581056 : UInt32)) = 2 ^ 129 by decide +kernel]
    have k1 : Jvm.FP.Core.one32 = 2 ^ 129 * 1048576 := by decide +kernel
    rw [fq_ac k1]
    refine Nat.mul_le_mul_left _ (Nat.mul_le_mul_right _ (by omega)))
  have b2 := Jvm.FP.Core.zmag_roundRatio_le Jvm.FP.Core.good_b32 (s := false) (A := c) (B := d) (e := q - r) (e0 := 2 * Jvm.FP.Core.b32.qmin - r) (V := Jvm.FP.Core.val32 (1233125376 : UInt32)) (by omega) (Jvm.FP.Core.val32_fits _) (by decide +kernel) (by omega) (by omega) (by
    rw [u1, Nat.mul_assoc, Nat.mul_assoc, u2, show Jvm.FP.Core.zmag Jvm.FP.Core.b32 (Jvm.FP.Core.val32 (1233125376 : UInt32)) = Jvm.FP.Core.one32 * 1048576 by decide +kernel]
    have k2 : Jvm.FP.Core.one32 * 1048576 * (Y * Jvm.FP.Core.one32) = (1048576 * Y) * (Jvm.FP.Core.one32 * Jvm.FP.Core.one32) := by
      rw [Nat.mul_comm Jvm.FP.Core.one32 1048576, Nat.mul_mul_mul_comm]
    rw [k2]
    exact Nat.mul_le_mul_right _ (by omega))
  rw [← e, show Jvm.FP.Core.zmag Jvm.FP.Core.b32 (Jvm.FP.Core.val32 (897581056 : UInt32)) = 2 ^ 129 by decide +kernel] at b1
  rw [← e, show Jvm.FP.Core.zmag Jvm.FP.Core.b32 (Jvm.FP.Core.val32 (1233125376 : UInt32)) = 2 ^ 169 by decide +kernel] at b2
  have hnV : Jvm.FP.Core.val32 V ≠ .nan := by rw [e]; exact Jvm.FP.Core.roundRatio_ne_nan _ _ _ _ _
  have hsV : Jvm.FP.Core.sgn (Jvm.FP.Core.val32 V) = false := by rw [e]; exact Jvm.FP.Core.sgn_roundRatio _ _ _ _ _
  obtain ⟨s, C, Q, hC⟩ := ff_of hnV (Nat.le_trans b2 (by decide))
  have hfit := Jvm.FP.Core.val32_fits V
  rw [hC] at hsV b1 b2 hfit
  have hs' : s = false := hsV
  subst hs'
  obtain ⟨f1, f2, f3, f4⟩ := hfit
  have f1' : C < 16777216 := f1
  have b1' : 2 ^ 129 ≤ C * 2 ^ (Q - Jvm.FP.Core.b32.qmin).toNat := b1
  have b2' : C * 2 ^ (Q - Jvm.FP.Core.b32.qmin).toNat ≤ 2 ^ 169 := b2
  have hCge : 8388608 ≤ C := by
    rcases f4 with z | z
    · rw [z, show (Jvm.FP.Core.b32.qmin - Jvm.FP.Core.b32.qmin).toNat = 0 by omega, Nat.pow_zero, Nat.mul_one] at b1'
      have : (16777216 : Nat) ≤ 2 ^ 129 := by decide
      omega
    · have e3 : Jvm.FP.Core.b32.tails = 8388608 := by decide
      rw [e3] at z
      exact z
  have hQ1 : Q ≤ -3 := by
    have : 2 ^ (23 + (Q - Jvm.FP.Core.b32.qmin).toNat) ≤ 2 ^ 169 := by
      rw [Nat.pow_add]
      exact Nat.le_trans (Nat.mul_le_mul_right _ hCge) b2'
    have := (Nat.pow_le_pow_iff_right (by decide : 1 < 2)).mp this
    omega
  have hQ2 : -43 ≤ Q := by
    have : 2 ^ 129 < 2 ^ (24 + (Q - Jvm.FP.Core.b32.qmin).toNat) := by
      rw [Nat.pow_add]
      exact Nat.lt_of_le_of_lt b1' (Nat.mul_lt_mul_of_pos_right f1' (Nat.two_pow_pos _))
    have := (Nat.pow_lt_pow_iff_right (by decide : 1 < 2)).mp this
    omega
  exact fq_loops ⟨hC, hCge, f1', by omega, by omega⟩ hQ2 hQ1 h
