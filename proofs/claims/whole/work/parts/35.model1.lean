/-! THE MODEL'S QUERIES, one after another: what each answers of the data B -/
section MQ1
variable {B : Bk} {M : Mm}
theorem q_isBefore (hR : RM B M) {j e : Nat} (hj : j < nE B) (he : e < nE B) {P : Int32 → Mm → Prop} (h : P (if bef B j e = true then 1 else 0) M) : wp_X7_isBefore (nI j) (nI e) M P := by
  have h8 := hR.1.e8
  unfold wp_X7_isBefore
  simp (disch := omega) only [mI3, nI_clamp, vpI, hR.e13 hj, hR.e13 he]
  refine ⟨by omega, by omega, fun q => cLe (by omega) (by omega) (fun q2 => ?_) (fun q2 => ?_), fun q => ⟨fun q2 => ?_, fun q2 => ?_⟩⟩
  · rw [if_neg (by unfold bef; simp only [decide_eq_true_eq, i32_lt, i32_eq] at q ⊢; omega)] at h; exact h
  · rw [if_pos (by unfold bef; simp only [decide_eq_true_eq, i32_lt, i32_eq] at q ⊢; omega)] at h; exact h
  · rw [if_neg (by unfold bef; simp only [decide_eq_true_eq, i32_lt, i32_le, i32_eq] at q q2 ⊢; omega)] at h; exact h
  · rw [if_pos (by unfold bef; simp only [decide_eq_true_eq, i32_lt, i32_le, i32_eq] at q q2 ⊢; omega)] at h; exact h
theorem q_positionOf (hR : RM B M) {e : Nat} (he : e < nE B) {P : Int32 → Mm → Prop} (h : P (nI (pos B e)) M) : wp_X7_positionOf (nI e) M P := by
  have h8 := hR.1.e8
  unfold wp_X7_positionOf
  refine lq3_i (fun s x M' => ∃ j, j ≤ nE B ∧ x = nI j ∧ s = nI (cnt (fun k => bef B k e) j) ∧ M' = M) (fun _ x _ => nE B - x.toNatClampNeg) ?_ _ _ _ ⟨0, by omega, rfl, rfl, rfl⟩
  rintro s x M' ⟨j, hj, hx, hs, hM⟩ self hself
  subst hx hs hM
  rw [hR.n2]
  refine cLe (by omega) (by omega) (fun q => ?_) (fun q => ?_)
  · have : j = nE B := by omega
    subst this
    exact h
  · have key : ∀ v : Int32, v = nI (if bef B j e = true then 1 else 0) → ∀ x11 : Int32, x11 = nI (cnt (fun k => bef B k e) j) + v → ∀ x12 : Int32, x12 = nI j + (1 : Int32) → self x11 x12 M' := by
      rintro v rfl x11 rfl x12 rfl
      refine hself _ _ _ ⟨j + 1, by omega, mI6 j, nI_add _ _, rfl⟩ ?_
      rw [mI6, nI_clamp (by omega), nI_clamp (by omega)]
      omega
    unfold jn
    refine cEq (by omega) (by omega) (fun q2 => ?_) (fun q2 => ?_)
    · exact key 0 (by subst q2; rw [bef_irr]; rfl)
    · refine q_isBefore hR (by omega) he ?_
      by_cases hb : bef B j e = true
      · rw [if_pos hb]; exact ⟨fun q3 => absurd q3 (by decide), fun _ => key 1 (by rw [if_pos hb]; rfl)⟩
      · rw [if_neg hb]; exact ⟨fun _ => key 0 (by rw [if_neg hb]; rfl), fun q3 => absurd rfl q3⟩
theorem q_eventOn (hR : RM B M) {p : Nat} (hp : p < nE B) {P : Int32 → Mm → Prop} (h : P (nI (ordE B p)) M) : wp_X7_eventOn (nI p) M P := by
  have h8 := hR.1.e8
  obtain ⟨ho, hpo⟩ := ordE_lt hp
  unfold wp_X7_eventOn
  refine lq2_i (fun x M' => ∃ j, j ≤ ordE B p ∧ x = nI j ∧ M' = M) (fun x _ => nE B - x.toNatClampNeg) ?_ _ _ ⟨0, by omega, rfl, rfl⟩
  rintro x M' ⟨j, hj, hx, hM⟩ self hself
  subst hx hM
  rw [hR.n2]
  refine cLe (by omega) (by omega) (fun q => by omega) (fun q => ?_)
  refine q_positionOf hR q ?_
  have hpl := pos_lt q
  refine cNe (by omega) (by omega) (fun q2 => ?_) (fun q2 => ?_)
  · rintro x9 rfl
    have hne : j ≠ ordE B p := fun z => q2 (by rw [z]; exact hpo)
    refine hself _ _ ⟨j + 1, by omega, mI6 j, rfl⟩ ?_
    rw [mI6, nI_clamp (by omega), nI_clamp (by omega)]
    omega
  · rw [← q2, ordE_pos q] at h
    exact h
theorem q_eventOn_none (hR : RM B M) {a : Int32} (ha : ∀ e, e < nE B → ¬ nI (pos B e) = a) {P : Int32 → Mm → Prop} (h : P (-1) M) : wp_X7_eventOn a M P := by
  have h8 := hR.1.e8
  unfold wp_X7_eventOn
  refine lq2_i (fun x M' => ∃ j, j ≤ nE B ∧ x = nI j ∧ M' = M) (fun x _ => nE B - x.toNatClampNeg) ?_ _ _ ⟨0, by omega, rfl, rfl⟩
  rintro x M' ⟨j, hj, hx, hM⟩ self hself
  subst hx hM
  rw [hR.n2]
  refine cLe (by omega) (by omega) (fun q => h) (fun q => ?_)
  refine q_positionOf hR q ?_
  refine ⟨fun q2 => ?_, fun q2 => absurd q2 (ha j q)⟩
  rintro x9 rfl
  refine hself _ _ ⟨j + 1, by omega, mI6 j, rfl⟩ ?_
  rw [mI6, nI_clamp (by omega), nI_clamp (by omega)]
  omega
theorem q_lossOf (hR : RM B M) {k : Nat} (hk : k < nK B) {P : Int32 → Mm → Prop} (h : P (lossF B k) M) : wp_X7_lossOf (nI k) M P := by
  have h8 := hR.1.e8
  have h24 := hR.1.k24
  obtain ⟨⟨e, he, h16⟩, -, h18⟩ := hR.1.cl k hk
  obtain ⟨f1, f2, f3⟩ := fp_a hR.1.rate (hR.1.ev e he).1
  unfold wp_X7_lossOf
  simp (disch := omega) only [mI2, mI7, nI_clamp, vpI, hR.k16 hk, hR.k18 hk, h16]
  refine ⟨by omega, ?_⟩
  rintro x2 rfl
  simp (disch := omega) only [mI3, nI_clamp, vpI, hR.e13 he, hR.n4]
  refine ⟨by omega, f1, f2, ?_⟩
  rintro x6 rfl
  refine ⟨by omega, (f3 _ h18).1, ?_⟩
  have e1 : lossF B k = FP.f2i (FP.fmul (FP.i2f (B 18 k)) (FP.fadd FP.fconst1 (FP.fdiv (FP.i2f ((B 11 0 * B 13 e) / (30 : Int32))) (1148846080 : UInt32)))) := by
    unfold lossF facF
    rw [h16, nI_clamp (by omega)]
  rw [e1] at h
  exact h
theorem q_isOf (hR : RM B M) {k : Nat} (hk : k < nK B) {a b : Int32} {P : Int32 → Mm → Prop} (h : P (if B 16 k = a ∧ B 17 k = b then 1 else 0) M) : wp_X7_isOf (nI k) a b M P := by
  have h24 := hR.1.k24
  unfold wp_X7_isOf
  simp (disch := omega) only [mI2, mI6, nI_clamp, vpI, hR.k16 hk, hR.k17 hk]
  refine ⟨by omega, fun q => ?_, fun q => ⟨by omega, fun q2 => ?_, fun q2 => ?_⟩⟩
  · rw [if_neg (fun z => q z.1)] at h; exact h
  · rw [if_neg (fun z => q2 z.2)] at h; exact h
  · rw [if_pos ⟨q, q2⟩] at h; exact h
theorem q_lossesOf (hR : RM B M) (e c : Nat) {P : Int32 → Mm → Prop} (h : P (lsum B e c) M) : wp_X7_lossesOf (nI e) (nI c) M P := by
  have h24 := hR.1.k24
  unfold wp_X7_lossesOf
  refine lq3_i (fun s x M' => ∃ j, j ≤ nK B ∧ x = nI j ∧ s = sumI (lsAt B e c) j ∧ M' = M) (fun _ x _ => nK B - x.toNatClampNeg) ?_ _ _ _ ⟨0, by omega, rfl, rfl, rfl⟩
  rintro s x M' ⟨j, hj, hx, hs, hM⟩ self hself
  subst hx hs hM
  rw [hR.n3]
  refine cLe (by omega) (by omega) (fun q => ?_) (fun q => ?_)
  · have : j = nK B := by omega
    subst this
    exact h
  · have key : ∀ v : Int32, v = lsAt B e c j → ∀ x11 : Int32, x11 = sumI (lsAt B e c) j + v → ∀ x12 : Int32, x12 = nI j + (1 : Int32) → self x11 x12 M' := by
      rintro v rfl x11 rfl x12 rfl
      refine hself _ _ _ ⟨j + 1, by omega, mI6 j, rfl, rfl⟩ ?_
      rw [mI6, nI_clamp (by omega), nI_clamp (by omega)]
      omega
    refine q_isOf hR q ?_
    unfold jn
    by_cases hb : B 16 j = nI e ∧ B 17 j = nI c
    · rw [if_pos hb]
      refine ⟨fun q3 => absurd q3 (by decide), fun _ => q_lossOf hR q (key _ (by unfold lsAt; rw [if_pos hb]))⟩
    · rw [if_neg hb]
      exact ⟨fun _ => key 0 (by unfold lsAt; rw [if_neg hb]), fun q3 => absurd rfl q3⟩
theorem q_grossOf (hR : RM B M) (e : Nat) {c : Nat} (hc : c < nC B) {P : Int32 → Mm → Prop} (h : P (gross B e c) M) : wp_X7_grossOf (nI e) (nI c) M P := by
  have h6 := hR.1.c6
  unfold wp_X7_grossOf
  simp (disch := omega) only [mI0, nI_clamp, vpI, hR.c1 hc]
  refine ⟨by omega, q_lossesOf hR e c ?_⟩
  exact h
end MQ1
/-! long numbers -/
theorem lc_lt {a b : Int64} : (0 < lg_cmp a b) ↔ b < a := by
  unfold lg_cmp
  by_cases h : a > b
  · rw [if_pos h]; exact ⟨fun _ => h, fun _ => by decide⟩
  · rw [if_neg h]
    refine ⟨fun q => ?_, fun q => absurd q h⟩
    split at q <;> exact absurd q (by decide)
theorem lc_eq {a b : Int64} : (lg_cmp a b = 0) ↔ a = b := by
  unfold lg_cmp
  by_cases h : a > b
  · rw [if_pos h]; exact ⟨fun q => absurd q (by decide), fun q => by subst q; exact absurd h (Int64.lt_irrefl)⟩
  · rw [if_neg h]
    by_cases h2 : a = b
    · rw [if_pos h2]; exact ⟨fun _ => h2, fun _ => rfl⟩
    · rw [if_neg h2]; exact ⟨fun q => absurd q (by decide), fun q => absurd q h2⟩
theorem lc_ge {a b : Int64} : (0 ≤ lg_cmp a b) ↔ b ≤ a := by
  unfold lg_cmp
  by_cases h : a > b
  · rw [if_pos h]; exact ⟨fun _ => Int64.le_of_lt h, fun _ => by decide⟩
  · rw [if_neg h]
    by_cases h2 : a = b
    · rw [if_pos h2]; exact ⟨fun _ => by subst h2; exact Int64.le_refl _, fun _ => by decide⟩
    · rw [if_neg h2]
      refine ⟨fun q => absurd q (by decide), fun q => ?_⟩
      rcases Int64.lt_or_eq_of_le q with z | z
      · exact absurd z h
      · exact absurd z.symm h2
theorem toL {n : Nat} (h : n < 2 ^ 31) : (nI n).toInt64 = lN n := nI_l h
theorem lN0 : (0 : Int64) = lN 0 := rfl
section MQ2
variable {M : Mm}
theorem q_shareOf {a n i : Nat} (w : Nat → Nat) (hn : n ≤ 24) (hi : i < n) (hw : ∀ k, k < n → rd M 172 0 k = nI (w k)) (hwb : ∀ k, k < n → w k ≤ 134217728) (ha : a < 2147483648) {P : Int32 → Mm → Prop} (h : P (nI (shareN a w n i)) M) : wp_X7_shareOf (nI a) (nI n) (nI i) M P := by
  have hpr : ∀ k, k < n → a * w k ≤ 2147483648 * 134217728 := fun k hk => Nat.mul_le_mul (by omega) (hwb k hk)
  have hsb : ∀ j, j ≤ n → sumN w j ≤ 134217728 * 24 := fun j hj => Nat.le_trans (sumN_bd (fun k hk => hwb k (by omega))) (Nat.mul_le_mul_left _ (by omega))
  have hS := hsb n (Nat.le_refl _)
  unfold wp_X7_shareOf
  refine lq2_i (fun s x => ∃ j, j ≤ n ∧ x = nI j ∧ s = lN (sumN w j)) (fun _ x => n - x.toNatClampNeg) ?_ _ _ ⟨0, by omega, rfl, rfl⟩
  rintro s x ⟨j, hj, hx, hs⟩ self hself
  subst hx hs
  refine cLe (by omega) (by omega) (fun q => ?_) (fun q => ?_)
  rotate_left
  · rw [vpI (by omega)]
    refine ⟨by omega, ?_⟩
    rintro x45 rfl x46 rfl
    refine hself _ _ ⟨j + 1, by omega, mI6 j, ?_⟩ ?_
    · rw [nI_clamp (by omega), hw j q, toL (by have := hwb j q; omega), lN_add]; rfl
    · rw [mI6, nI_clamp (by omega), nI_clamp (by omega)]; omega
  have : j = n := by omega
  subst this
  have hsum0 : (lg_cmp (lN (sumN w j)) 0 = 0) ↔ sumN w j = 0 := by rw [lc_eq, lN0, pk_lEQ (by omega) (by omega)]
  refine ⟨fun q0 => ?_, fun q0 => ?_⟩
  rotate_left
  · have e0 := hsum0.mp q0
    have : shareN a w j i = 0 := by unfold shareN; rw [if_pos e0]
    rw [this] at h
    exact h
  have hs0 : ¬ sumN w j = 0 := fun z => q0 (hsum0.mpr z)
  generalize hSg : sumN w j = S at *
  have hne : ¬ lN S = 0 := by rw [lN0, pk_lEQ (by omega) (by omega)]; exact hs0
  have hq : ∀ k, k < j → (nI a).toInt64 * (rd M 172 0 k).toInt64 / lN S = lN (a * w k / S) := fun k hk => by
    have h1 := hpr k hk
    rw [hw k hk, toL (by omega), toL (by have := hwb k hk; omega), lN_mul, pk_lDiv (by omega) (by omega) (by omega)]
  have hrm : ∀ k, k < j → (nI a).toInt64 * (rd M 172 0 k).toInt64 - (nI a).toInt64 * (rd M 172 0 k).toInt64 / lN S * lN S = lN (a * w k % S) := fun k hk => by
    have h1 := hpr k hk
    rw [hw k hk, toL (by omega), toL (by have := hwb k hk; omega), lN_mul, pk_lRem (by omega) (by omega) (by omega)]
  have hout : ∀ k, k ≤ j → sumN (fun k => a * w k / S) k ≤ 2147483648 * 134217728 * 24 := fun k hk => Nat.le_trans (sumN_bd (b := 2147483648 * 134217728) (fun z hz => Nat.le_trans (Nat.div_le_self _ _) (hpr z (by omega)))) (Nat.mul_le_mul_left _ (by omega))
  -- the second loop: what is given out
  refine lq2_i (fun s x => ∃ k, k ≤ j ∧ x = nI k ∧ s = lN (sumN (fun k => a * w k / S) k)) (fun _ x => j - x.toNatClampNeg) ?_ _ _ ⟨0, by omega, rfl, rfl⟩
  rintro s x ⟨k, hk, hx, hs⟩ self2 hself2
  subst hx hs
  refine cLe (by omega) (by omega) (fun q => ?_) (fun q => ?_)
  rotate_left
  · rw [vpI (by omega)]
    refine ⟨by omega, hne, ?_⟩
    rintro x45 rfl x46 rfl
    refine hself2 _ _ ⟨k + 1, by omega, mI6 k, ?_⟩ ?_
    · rw [nI_clamp (by omega), hq k q, lN_add]; rfl
    · rw [mI6, nI_clamp (by omega), nI_clamp (by omega)]; omega
  have : k = j := by omega
  subst this
  have ho := hout k (Nat.le_refl _)
  have hol : sumN (fun z => a * w z / S) k ≤ a := by rw [← hSg]; exact out_le a w k (by omega)
  rw [vpI (by omega), nI_clamp (by omega)]
  refine ⟨by omega, hne, ?_⟩
  intro x14 hx14
  rw [hrm i hi] at hx14
  subst hx14
  -- the third: those ahead
  refine lq2_i (fun s x => ∃ z, z ≤ k ∧ x = nI z ∧ s = nI (cnt (ahead a w S i) z)) (fun _ x => k - x.toNatClampNeg) ?_ _ _ ⟨0, by omega, rfl, rfl⟩
  rintro s x ⟨z, hz, hx, hs⟩ self3 hself3
  subst hx hs
  have hcl : cnt (ahead a w S i) z ≤ z := cnt_le
  have hmi : a * w i % S < S := Nat.mod_lt _ (by omega)
  refine cLe (by omega) (by omega) (fun q => ?_) (fun q => ?_)
  · have : z = k := by omega
    subst this
    rw [hq i hi]
    have e1 : (lN (a * w i / S)).toInt32 = nI (a * w i / S) := lN_i _
    have e2 : (nI (cnt (ahead a w S i) z)).toInt64 = lN (cnt (ahead a w S i) z) := toL (by omega)
    have e3 : (nI a).toInt64 - lN (sumN (fun z => a * w z / S) z) = lN (a - sumN (fun z => a * w z / S) z) := by rw [toL (by omega), lN_sub hol]
    rw [e1, e2, e3]
    have hsh : shareN a w z i = a * w i / S + (if cnt (ahead a w S i) z < a - sumN (fun k => a * w k / S) z then 1 else 0) := by
      unfold shareN
      rw [hSg, if_neg hs0]
    rw [hsh] at h
    unfold jn
    refine ⟨fun q2 => ?_, fun q2 => ?_⟩
    · rw [lc_ge, pk_lLE (by omega) (by omega)] at q2
      rw [if_neg (by omega)] at h
      rw [show (0 : Int32) = nI 0 from rfl, nI_add]; exact h
    · rw [lc_ge, pk_lLE (by omega) (by omega)] at q2
      rw [if_pos (by omega)] at h
      rw [mI6]; exact h
  · rw [vpI (by omega), nI_clamp (by omega)]
    refine ⟨by omega, ?_⟩
    intro x25 hx25
    rw [hrm z q] at hx25
    subst hx25
    have hmz : a * w z % S < S := Nat.mod_lt _ (by omega)
    have key : ∀ v : Int32, v = nI (if ahead a w S i z = true then 1 else 0) → ∀ x11 : Int32, x11 = nI (cnt (ahead a w S i) z) + v → ∀ x12 : Int32, x12 = nI z + (1 : Int32) → self3 x11 x12 := by
      rintro v rfl x11 rfl x12 rfl
      refine hself3 _ _ ⟨z + 1, by omega, mI6 z, nI_add _ _⟩ ?_
      rw [mI6, nI_clamp (by omega), nI_clamp (by omega)]
      omega
    unfold jn
    refine ⟨fun q2 => ?_, fun q2 => ?_⟩
    · rw [lc_lt, pk_lLT (by omega) (by omega)] at q2
      exact key 1 (by rw [if_pos (by unfold ahead; simp only [decide_eq_true_eq]; omega)]; rfl)
    · rw [lc_lt, pk_lLT (by omega) (by omega)] at q2
      refine ⟨fun q3 => ?_, fun q3 => ?_⟩
      · rw [lc_eq, pk_lEQ (by omega) (by omega)] at q3
        exact key 0 (by rw [if_neg (by unfold ahead; simp only [decide_eq_true_eq]; omega)]; rfl)
      · rw [lc_eq, pk_lEQ (by omega) (by omega)] at q3
        refine cLe (by omega) (by omega) (fun q4 => ?_) (fun q4 => ?_)
        · exact key 0 (by rw [if_neg (by unfold ahead; simp only [decide_eq_true_eq]; omega)]; rfl)
        · exact key 1 (by rw [if_pos (by unfold ahead; simp only [decide_eq_true_eq]; omega)]; rfl)
end MQ2
