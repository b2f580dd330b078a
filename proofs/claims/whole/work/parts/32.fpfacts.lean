/-! WHAT IS USED OF FLOATS -/
theorem fp_a {r d : Int32} (hr : bd r 0 100) (hd : bd d 0 364) : vf_n32 (FP.fdiv (FP.i2f ((r * d) / (30 : Int32))) (1148846080 : UInt32)) ∧ vf_n32 (FP.fadd FP.fconst1 (FP.fdiv (FP.i2f ((r * d) / (30 : Int32))) (1148846080 : UInt32))) ∧
    ∀ a : Int32, bd a 1 99999 → vf_n32 (FP.fmul (FP.i2f a) (FP.fadd FP.fconst1 (FP.fdiv (FP.i2f ((r * d) / (30 : Int32))) (1148846080 : UInt32)))) ∧ bd (FP.f2i (FP.fmul (FP.i2f a) (FP.fadd FP.fconst1 (FP.fdiv (FP.i2f ((r * d) / (30 : Int32))) (1148846080 : UInt32))))) 0 4194304 := by
  sorry
