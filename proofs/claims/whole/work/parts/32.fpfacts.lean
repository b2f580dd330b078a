/-! WHAT IS USED OF FLOATS -/
theorem fp_a {r d : Int32} (hr : bd r 0 100) (hd : bd d 0 364) : vf_n32 (FP.fdiv (FP.i2f ((r * d) / (30 : Int32))) (1148846080 : UInt32)) ∧ vf_n32 (FP.fadd FP.fconst1 (FP.fdiv (FP.i2f ((r * d) / (30 : Int32))) (1148846080 : UInt32))) ∧
    ∀ a : Int32, bd a 1 99999 → vf_n32 (FP.fmul (FP.i2f a) (FP.fadd FP.fconst1 (FP.fdiv (FP.i2f ((r * d) / (30 : Int32))) (1148846080 : UInt32)))) ∧ bd (FP.f2i (FP.fmul (FP.i2f a) (FP.fadd FP.fconst1 (FP.fdiv (FP.i2f ((r * d) / (30 : Int32))) (1148846080 : UInt32))))) 0 4194304 := by
  sorry
/-- the bits of a ratio: no NaN; and class LayeredClaims writes out the same bits (bt: the answer of its loops) -/
theorem fp_nz {y : Int32} (hy : bd y 1 599994) : y ≠ 0 := fun z => by
  rw [z] at hy
  exact absurd hy.1 (by decide)
theorem fp_b {x y : Int32} (hx : bd x 0 599994) (hy : bd y 1 599994) : vf_n32 (FP.fdiv (FP.i2f x) (FP.i2f y)) ∧ Op.cmpValue (FP.fcmp (FP.fdiv (FP.i2f x) (FP.i2f y)) (FP.fdiv (FP.i2f x) (FP.i2f y))) CmpOp.l = 0 := by
  have h := Jvm.Free.Fl.fdiv_out (Jvm.Free.Fl.i2f_fin x).noNaN (Jvm.Free.Fl.i2f_fin y) (Jvm.Free.Fl.i2f_nz (fp_nz hy))
  refine ⟨h, ?_⟩
  have h2 := Jvm.Free.Fl.fcmp_of_noNaN32 h
  revert h2
  cases FP.fcmp (FP.fdiv (FP.i2f x) (FP.i2f y)) (FP.fdiv (FP.i2f x) (FP.i2f y)) with
  | none => intro h2; exact absurd h2 (by decide)
  | some o => cases o <;> intro h2 <;> first | rfl | exact absurd h2 (by decide)
theorem fp_bits {x y : Int32} (hx : bd x 0 599994) (hy : bd y 1 599994) {M : Mm} {P : Int32 → Mm → Prop} (h : P (FP.fdiv (FP.i2f x) (FP.i2f y)).toInt32 M) : wp_X6_bitsOfFloat (FP.fdiv (FP.i2f x) (FP.i2f y)) M P := by
  sorry
