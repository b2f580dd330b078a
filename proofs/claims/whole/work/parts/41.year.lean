/-! THE CLASS RECKONS A YEAR -/
section YR
variable {B : Bk} {M : Mm}
def r121 (t k j : Nat) : Prop := t = 121 ∨ t = 122
theorem day_bd (hW : WF B) {e : Nat} (he : e < nE B) : 0 ≤ (B 13 e).toInt ∧ (B 13 e).toInt ≤ 364 := (hW.ev e he).1
theorem sub_toInt {x y : Int32} (hx : 0 ≤ x.toInt ∧ x.toInt ≤ 1000000000) (hy : 0 ≤ y.toInt ∧ y.toInt ≤ 1000000000) : (x - y).toInt = x.toInt - y.toInt := by
  obtain ⟨a1, a2, a3⟩ := i32_nn hx.1
  obtain ⟨b1, b2, b3⟩ := i32_nn hy.1
  rw [a1, b1, pk_sub_toInt (by omega) (by omega), nI_toInt (by omega), nI_toInt (by omega)]
theorem y_orderEvents (hR : RC B M) {P : Mm → Prop} (h : ∀ M2, Fg r121 M M2 → (∀ e, e < nE B → rd M2 122 0 e = nI (pos B e) ∧ rd M2 121 0 (pos B e) = nI e) → P M2) : wp_X5_orderEvents M P := by
  have he8 := hR.1.e8
  unfold wp_X5_orderEvents
  refine lq2_i (fun x M' => ∃ i, i ≤ nE B ∧ x = nI i ∧ Fg r121 M M' ∧ (∀ e, e < i → rd M' 122 0 e = nI (pos B e) ∧ rd M' 121 0 (pos B e) = nI e)) (fun x _ => nE B - x.toNatClampNeg) ?_ _ _ ⟨0, by omega, rfl, Fg.rf, fun e q => by omega⟩
  rintro x M' ⟨i, hi, hx, hF, ht⟩ self hself
  subst hx
  have hR' := hR.kept hF (fun t j q z => by unfold r121 at z; omega)
  rw [hR'.n12]
  refine cLe (by omega) (by omega) (fun q => ?_) (fun q => ?_)
  · have : i = nE B := by omega
    subst this
    exact h _ hF ht
  refine lq2_i (fun s x => ∃ j, j ≤ nE B ∧ x = nI j ∧ s = nI (cnt (fun k => bef B k i) j)) (fun _ x => nE B - x.toNatClampNeg) ?_ _ _ ⟨0, by omega, rfl, rfl⟩
  rintro s x ⟨j, hj, hx, hs⟩ self2 hself2
  subst hx hs
  refine cLe (by omega) (by omega) (fun q2 => ?_) (fun q2 => ?_)
  · have : j = nE B := by omega
    subst this
    have hp := pos_lt q
    rw [show cnt (fun k => bef B k i) (nE B) = pos B i from rfl, vpI (by omega), vpI (by omega), nI_clamp (by omega), nI_clamp (by omega)]
    refine ⟨by omega, ?_⟩
    rintro M12 rfl
    refine ⟨by omega, ?_⟩
    rintro M14 rfl x15 rfl
    refine hself _ _ ⟨i + 1, by omega, mI6 i, (hF.tr (Fg.w (Or.inr rfl))).tr (Fg.w (Or.inl rfl)), fun e he => ?_⟩ ?_
    · by_cases z : e = i
      · subst z
        refine ⟨?_, rd_wr_s⟩
        rw [rd_wr_n (by omega), rd_wr_s]
      · have hne : pos B e ≠ pos B i := fun q5 => z (pos_inj (by omega) q q5)
        obtain ⟨f1, f2⟩ := ht e (by omega)
        refine ⟨?_, ?_⟩
        · rw [rd_wr_n (by omega), rd_wr_n (by omega)]; exact f1
        · rw [rd_wr_n (by omega), rd_wr_n (by omega)]; exact f2
    · rw [mI6, nI_clamp (by omega), nI_clamp (by omega)]; omega
  · rw [vpI (by omega), vpI (by omega), nI_clamp (by omega), nI_clamp (by omega), hR'.e13 q, hR'.e13 q2]
    refine ⟨by omega, by omega, ?_⟩
    rintro x18 hx18
    have d1 := day_bd hR.1 q
    have d2 := day_bd hR.1 q2
    have hsub : x18.toInt = (B 13 j).toInt - (B 13 i).toInt := by rw [hx18]; exact sub_toInt (by omega) (by omega)
    have hcl := @cnt_le (fun k => bef B k i) j
    have k0 : bef B j i = false → ∀ x22 : Int32, x22 = nI j + (1 : Int32) → self2 (nI (cnt (fun k => bef B k i) j)) x22 := by
      rintro hb x22 rfl
      refine hself2 _ _ ⟨j + 1, by omega, mI6 j, ?_⟩ ?_
      · show _ = nI (cnt (fun k => bef B k i) j + (if bef B j i = true then 1 else 0))
        rw [hb]; rfl
      · rw [mI6, nI_clamp (by omega), nI_clamp (by omega)]; omega
    have k1 : bef B j i = true → ∀ x26 : Int32, x26 = nI (cnt (fun k => bef B k i) j) + (1 : Int32) → ∀ x22 : Int32, x22 = nI j + (1 : Int32) → self2 x26 x22 := by
      rintro hb x26 rfl x22 rfl
      refine hself2 _ _ ⟨j + 1, by omega, mI6 j, ?_⟩ ?_
      · show _ = nI (cnt (fun k => bef B k i) j + (if bef B j i = true then 1 else 0))
        rw [hb, if_pos rfl, mI6]
      · rw [mI6, nI_clamp (by omega), nI_clamp (by omega)]; omega
    have h0 : (0 : Int32).toInt = 0 := rfl
    unfold jn
    refine ⟨fun z => ?_, fun z => ⟨fun z2 => ?_, fun z2 => ?_⟩⟩
    · rw [i32_lt] at z
      exact k1 (by unfold bef; simp only [decide_eq_true_eq, i32_lt, i32_eq]; omega)
    · rw [i32_lt] at z
      rw [i32_eq] at z2
      exact k0 (by unfold bef; simp only [decide_eq_false_iff_not, i32_lt, i32_eq]; omega)
    · rw [i32_lt] at z
      rw [i32_eq] at z2
      refine cLe (by omega) (by omega) (fun z3 => ?_) (fun z3 => ?_)
      · exact k0 (by unfold bef; simp only [decide_eq_false_iff_not, i32_lt, i32_eq]; omega)
      · exact k1 (by unfold bef; simp only [decide_eq_true_eq, i32_lt, i32_eq]; omega)
theorem y_factor (hR : RC B M) {e : Nat} (he : e < nE B) {P : UInt32 → Mm → Prop} (h : P (facF B e) M) : wp_X5_factorOfEvent (nI e) M P := by
  have he8 := hR.1.e8
  obtain ⟨f1, f2, -⟩ := fp_a hR.1.rate (hR.1.ev e he).1
  unfold wp_X5_factorOfEvent
  rw [vpI (by omega), nI_clamp (by omega), hR.e13 he, hR.n11]
  refine ⟨by omega, ?_⟩
  rintro x2 rfl
  exact ⟨f1, f2, h⟩
def r123 (t k j : Nat) : Prop := t = 123 ∨ t = 324
theorem y_sumLosses (hR : RC B M) {P : Mm → Prop} (h : ∀ M2, Fg r123 M M2 → (∀ k, k < nK B → rd M2 123 0 k = lossF B k) → (∀ e c, e < nE B → c < nC B → rd M2 324 e c = lsum B e c) → P M2) : wp_X5_sumLosses M P := by
  have he8 := hR.1.e8
  have hc6 := hR.1.c6
  have hk24 := hR.1.k24
  unfold wp_X5_sumLosses
  have nR : ∀ t j, (t = 0 ∨ 21 ≤ t ∧ t ≤ 38) → ¬ r123 t 0 j := fun t j q z => by unfold r123 at z; omega
  refine lq2_i (fun x M' => ∃ i, i ≤ nE B ∧ x = nI i ∧ Fg r123 M M' ∧ (∀ e c, e < i → c < nC B → rd M' 324 e c = 0)) (fun x _ => nE B - x.toNatClampNeg) ?_ _ _ ⟨0, by omega, rfl, Fg.rf, fun e c q => by omega⟩
  rintro x M' ⟨i, hi, hx, hF, ht⟩ self hself
  subst hx
  have hR' := hR.kept hF nR
  rw [hR'.n12]
  refine cLe (by omega) (by omega) (fun q => ?_) (fun q => ?_)
  · have : i = nE B := by omega
    subst this
    refine lq2_i (fun x M2 => ∃ k, k ≤ nK B ∧ x = nI k ∧ Fg r123 M M2 ∧ (∀ i, i < k → rd M2 123 0 i = lossF B i) ∧ (∀ e c, e < nE B → c < nC B → rd M2 324 e c = sumI (lsAt B e c) k)) (fun x _ => nK B - x.toNatClampNeg) ?_ _ _ ⟨0, by omega, rfl, hF, fun i q => by omega, ht⟩
    rintro x M2 ⟨k, hk, hx, hF2, h1, h2⟩ self2 hself2
    subst hx
    have hR2 := hR.kept hF2 nR
    rw [hR2.n15]
    refine cLe (by omega) (by omega) (fun q2 => ?_) (fun q2 => ?_)
    · have : k = nK B := by omega
      subst this
      exact h _ hF2 h1 h2
    · obtain ⟨⟨e, he, h16⟩, ⟨c, hc, h17⟩, h18⟩ := hR.1.cl k q2
      obtain ⟨-, -, f3⟩ := fp_a hR.1.rate (hR.1.ev e he).1
      rw [vpI (by omega), nI_clamp (by omega), hR2.k16 q2, hR2.k18 q2, h16]
      refine ⟨by omega, ?_⟩
      rintro x12 rfl
      refine y_factor hR2 he ⟨(f3 _ h18).1, ?_⟩
      have hl : FP.f2i (FP.fmul (FP.i2f (B 18 k)) (facF B e)) = lossF B k := by unfold lossF; rw [h16, nI_clamp (by omega)]
      rw [hl, vpI (by omega), nI_clamp (by omega)]
      rintro M16 rfl
      have e37 : rd (wr M2 123 0 k (lossF B k)) 37 0 k = nI c := by rw [rd_wr_n (by omega), hR2.k17 q2, h17]
      rw [e37, vpI (by omega), nI_clamp (by omega), rd_wr_s, rd_wr_n (by omega)]
      refine ⟨by omega, by omega, by omega, ?_⟩
      rintro M20 rfl x21 rfl
      refine hself2 _ _ ⟨k + 1, by omega, mI6 k, (hF2.tr (Fg.w (Or.inl rfl))).tr (Fg.w (Or.inr rfl)), fun i hi => ?_, fun e' c' he' hc' => ?_⟩ ?_
      · rw [rd_wr_n (by omega)]
        by_cases z : i = k
        · subst z; rw [rd_wr_s]
        · rw [rd_wr_n (by omega)]; exact h1 i (by omega)
      · show _ = sumI (lsAt B e' c') k + lsAt B e' c' k
        have hh := h2 e' c' he' hc'
        unfold lsAt
        rw [h16, h17]
        by_cases z : e = e' ∧ c = c'
        · obtain ⟨rfl, rfl⟩ := z
          rw [rd_wr_s, if_pos ⟨rfl, rfl⟩, hh]; rfl
        · rw [rd_wr_n (by omega), rd_wr_n (by omega), if_neg (fun y => z ⟨(nI_eq (by omega) (by omega)).mp y.1, (nI_eq (by omega) (by omega)).mp y.2⟩), hh]
          exact (Int32.add_zero _).symm
      · rw [mI6, nI_clamp (by omega), nI_clamp (by omega)]; omega
  · refine lq2_i (fun x M2 => ∃ k, k ≤ nC B ∧ x = nI k ∧ Fg r123 M M2 ∧ (∀ e c, e < i → c < nC B → rd M2 324 e c = 0) ∧ (∀ c, c < k → rd M2 324 i c = 0)) (fun x _ => nC B - x.toNatClampNeg) ?_ _ _ ⟨0, by omega, rfl, hF, ht, fun c q => by omega⟩
    rintro x M2 ⟨k, hk, hx, hF2, h1, h2⟩ self2 hself2
    subst hx
    have hR2 := hR.kept hF2 nR
    rw [hR2.n0]
    refine cLe (by omega) (by omega) (fun q2 => ?_) (fun q2 => ?_)
    · have : k = nC B := by omega
      subst this
      rintro x27 rfl
      refine hself _ _ ⟨i + 1, by omega, mI6 i, hF2, fun e c he hc => ?_⟩ ?_
      · by_cases z : e = i
        · subst z; exact h2 c hc
        · exact h1 e c (by omega) hc
      · rw [mI6, nI_clamp (by omega), nI_clamp (by omega)]; omega
    · rw [vpI (by omega), vpI (by omega), nI_clamp (by omega), nI_clamp (by omega)]
      refine ⟨by omega, by omega, by omega, ?_⟩
      rintro M31 rfl x32 rfl
      refine hself2 _ _ ⟨k + 1, by omega, mI6 k, hF2.tr (Fg.w (Or.inr rfl)), fun e c he hc => ?_, fun c hc => ?_⟩ ?_
      · rw [rd_wr_n (by omega)]; exact h1 e c he hc
      · by_cases z : c = k
        · subst z; rw [rd_wr_s]
        · rw [rd_wr_n (by omega)]; exact h2 c (by omega)
      · rw [mI6, nI_clamp (by omega), nI_clamp (by omega)]; omega
theorem y_limitLosses (hR : RC B M) {e : Nat} (he : e < nE B) (hl : ∀ c, c < nC B → rd M 324 e c = lsum B e c) {P : Mm → Prop} (h : ∀ M2, Fg (fun t k _ => t = 325 ∧ k = e) M M2 → (∀ c, c < nC B → rd M2 325 e c = gross B e c) → P M2) : wp_X5_limitLosses (nI e) M P := by
  have he8 := hR.1.e8
  have hc6 := hR.1.c6
  unfold wp_X5_limitLosses
  refine lq2_i (fun x M' => ∃ i, i ≤ nC B ∧ x = nI i ∧ Fg (fun t k _ => t = 325 ∧ k = e) M M' ∧ (∀ c, c < i → rd M' 325 e c = gross B e c)) (fun x _ => nC B - x.toNatClampNeg) ?_ _ _ ⟨0, by omega, rfl, Fg.rf, fun c q => by omega⟩
  rintro x M' ⟨i, hi, hx, hF, ht⟩ self hself
  subst hx
  have hR' := hR.kept hF (fun t j q z => by omega)
  rw [hR'.n0]
  refine cLe (by omega) (by omega) (fun q => ?_) (fun q => ?_)
  · have : i = nC B := by omega
    subst this
    exact h _ hF ht
  · rw [vpI (by omega), vpI (by omega), nI_clamp (by omega), nI_clamp (by omega), hR'.c1 q, hF 324 e i (by omega), hl i q]
    refine ⟨by omega, by omega, by omega, ?_⟩
    rintro M9 rfl x10 rfl
    refine hself _ _ ⟨i + 1, by omega, mI6 i, hF.tr (Fg.w ⟨rfl, rfl⟩), fun c hc => ?_⟩ ?_
    · by_cases z : c = i
      · subst z; rw [rd_wr_s]; exact mn_comm _ _
      · rw [rd_wr_n (by omega)]; exact ht c (by omega)
    · rw [mI6, nI_clamp (by omega), nI_clamp (by omega)]; omega
theorem y_deduct (hR : RC B M) {e g : Nat} (he : e < nE B) (hg : g < 3) (hgr : ∀ c, c < nC B → rd M 325 e c = gross B e c) {P : Mm → Prop} (h : ∀ M2, Fg (fun t k j => t = 60 ∨ t = 61 ∨ (t = 326 ∧ k = e ∧ j < nC B ∧ B 4 j = nI g)) M M2 → (∀ c, c < nC B → B 4 c = nI g → rd M2 326 e c = ded B e c) → P M2) : wp_X5_deductFromGroup (nI e) (nI g) M P := by
  have he8 := hR.1.e8
  have hc6 := hR.1.c6
  unfold wp_X5_deductFromGroup
  refine lq3_i (fun s x M' => ∃ i, i ≤ nC B ∧ x = nI i ∧ s = sumI (gAt B e (nI g)) i ∧ Fg (fun t _ _ => t = 60) M M' ∧ (∀ c, c < i → rd M' 60 0 c = gAt B e (nI g) c)) (fun _ x _ => nC B - x.toNatClampNeg) ?_ _ _ _ ⟨0, by omega, rfl, rfl, Fg.rf, fun c q => by omega⟩
  rintro s x M' ⟨i, hi, hx, hs, hF, hw⟩ self hself
  subst hx hs
  have hR' := hR.kept hF (fun t j q z => by omega)
  rw [hR'.n0]
  refine cLe (by omega) (by omega) (fun q => ?_) (fun q => ?_)
  · have : i = nC B := by omega
    subst this
    rw [vpI (by omega), nI_clamp (by omega), hR'.g hg]
    refine ⟨by omega, ?_⟩
    obtain ⟨d1, d2⟩ := damt_bd hR.1 e hg
    obtain ⟨d3, d4, d5⟩ := bd_nI d1
    have e1 : (if sumI (gAt B e (nI g)) (nC B) < B 10 g then sumI (gAt B e (nI g)) (nC B) else B 10 g) = nI (damt B e (nI g)).toNatClampNeg := by
      rw [← d3, damt_eq hg]; rfl
    rw [e1]
    refine y_shareOut (fun k => (gAt B e (nI g) k).toNatClampNeg) (by omega) (fun k hk => ?_) (fun k hk => ?_) (by omega) (fun z => by omega) (fun M2 hF2 hsh => ?_)
    · rw [hw k hk]; exact (bd_nI (gAt_bd hR.1 e (nI g) hk)).1
    · have := (bd_nI (gAt_bd hR.1 e (nI g) hk)).2.2
      omega
    have hsd : ∀ c, c < nC B → B 4 c = nI g → rd M2 61 0 c = ded B e c := fun c hc h4 => by
      rw [hsh c hc]
      unfold ded share
      rw [h4]
    have hF12 : Fg (fun t k j => t = 60 ∨ t = 61 ∨ (t = 326 ∧ k = e ∧ j < nC B ∧ B 4 j = nI g)) M M2 := (hF.mo (fun t k j z => Or.inl z)).tr (hF2.mo (fun t k j z => Or.inr (Or.inl z)))
    have hR2 := hR.kept hF12 (fun t j q z => by omega)
    refine lq2_i (fun x M3 => ∃ i, i ≤ nC B ∧ x = nI i ∧ Fg (fun t k j => t = 326 ∧ k = e ∧ j < nC B ∧ B 4 j = nI g) M2 M3 ∧ (∀ c, c < i → B 4 c = nI g → rd M3 326 e c = ded B e c)) (fun x _ => nC B - x.toNatClampNeg) ?_ _ _ ⟨0, by omega, rfl, Fg.rf, fun c q => by omega⟩
    rintro x M3 ⟨i, hi, hx, hF3, ht⟩ self2 hself2
    subst hx
    have hR3 := hR2.kept hF3 (fun t j q z => by omega)
    rw [hR3.n0]
    refine cLe (by omega) (by omega) (fun q2 => ?_) (fun q2 => ?_)
    · have : i = nC B := by omega
      subst this
      exact h _ (hF12.tr (hF3.mo (fun t k j z => Or.inr (Or.inr z)))) ht
    · rw [vpI (by omega), vpI (by omega), vpI (by omega), nI_clamp (by omega), nI_clamp (by omega), hR3.c4 q2]
      refine ⟨by omega, ?_⟩
      unfold jn
      refine ⟨fun z => ?_, fun z => ⟨by omega, by omega, by omega, ?_⟩⟩
      · rintro x18 rfl
        refine hself2 _ _ ⟨i + 1, by omega, mI6 i, hF3, fun c hc h4 => ?_⟩ ?_
        · by_cases y : c = i
          · subst y; exact absurd h4 z
          · exact ht c (by omega) h4
        · rw [mI6, nI_clamp (by omega), nI_clamp (by omega)]; omega
      · rintro M23 rfl x18 rfl
        refine hself2 _ _ ⟨i + 1, by omega, mI6 i, hF3.tr (Fg.w ⟨rfl, rfl, q2, z⟩), fun c hc h4 => ?_⟩ ?_
        · by_cases y : c = i
          · subst y; rw [rd_wr_s, hF3 61 0 c (by omega), hsd c q2 h4]
          · rw [rd_wr_n (by omega)]; exact ht c (by omega) h4
        · rw [mI6, nI_clamp (by omega), nI_clamp (by omega)]; omega
  · rw [vpI (by omega), vpI (by omega), vpI (by omega), nI_clamp (by omega), nI_clamp (by omega), hR'.c4 q, hF 325 e i (by omega), hgr i q]
    refine ⟨by omega, ?_⟩
    have key : ∀ v : Int32, v = gAt B e (nI g) i → i < 24 ∧ ∀ M29 : Mm, M29 = wr M' 60 0 i v → ∀ x30 : Int32, x30 = sumI (gAt B e (nI g)) i + rd M29 60 0 i → ∀ x31 : Int32, x31 = nI i + (1 : Int32) → self x30 x31 M29 := by
      rintro v rfl
      refine ⟨by omega, ?_⟩
      rintro M29 rfl x30 rfl x31 rfl
      refine hself _ _ _ ⟨i + 1, by omega, mI6 i, by rw [rd_wr_s]; rfl, hF.tr (Fg.w rfl), fun c hc => ?_⟩ ?_
      · by_cases y : c = i
        · subst y; rw [rd_wr_s]
        · rw [rd_wr_n (by omega)]; exact hw c (by omega)
      · rw [mI6, nI_clamp (by omega), nI_clamp (by omega)]; omega
    unfold jn
    refine ⟨fun z => key 0 (by unfold gAt; rw [if_neg z]), fun z => ⟨by omega, by omega, key _ (by unfold gAt; rw [if_pos z])⟩⟩
theorem y_due {e c : Nat} (he : e < 8) (hc : c < 6) {P : Int32 → Mm → Prop} (h : P (rd M 325 e c - rd M 326 e c) M) : wp_X5_dueFromCover (nI e) (nI c) M P := by
  unfold wp_X5_dueFromCover
  rw [vpI (by omega), vpI (by omega), nI_clamp (by omega), nI_clamp (by omega)]
  exact ⟨by omega, by omega, by omega, h⟩
theorem y_pay (hR : RC B M) {e : Nat} (he : e < nE B) (hn : ∀ c, c < nC B → rd M 325 e c = gross B e c ∧ rd M 326 e c = ded B e c) (hl : ∀ c, c < nC B → rd M 129 0 c = left B c (pos B e)) {P : Mm → Prop}
    (h : ∀ M2, Fg (fun t k _ => ((t = 327 ∨ t = 328) ∧ k = e) ∨ t = 129) M M2 → (∀ c, c < nC B → rd M2 327 e c = left B c (pos B e) ∧ rd M2 328 e c = paid B e c ∧ rd M2 129 0 c = left B c (pos B e + 1)) → P M2) : wp_X5_payFromCovers (nI e) M P := by
  have he8 := hR.1.e8
  have hc6 := hR.1.c6
  unfold wp_X5_payFromCovers
  refine lq2_i (fun x M' => ∃ i, i ≤ nC B ∧ x = nI i ∧ Fg (fun t k _ => ((t = 327 ∨ t = 328) ∧ k = e) ∨ t = 129) M M' ∧ (∀ c, c < i → rd M' 327 e c = left B c (pos B e) ∧ rd M' 328 e c = paid B e c ∧ rd M' 129 0 c = left B c (pos B e + 1)) ∧ (∀ c, i ≤ c → rd M' 129 0 c = rd M 129 0 c)) (fun x _ => nC B - x.toNatClampNeg) ?_ _ _ ⟨0, by omega, rfl, Fg.rf, fun c q => by omega, fun _ _ => rfl⟩
  rintro x M' ⟨i, hi, hx, hF, ht, hk⟩ self hself
  subst hx
  have hR' := hR.kept hF (fun t j q z => by omega)
  rw [hR'.n0]
  refine cLe (by omega) (by omega) (fun q => ?_) (fun q => ?_)
  · have : i = nC B := by omega
    subst this
    exact h _ hF ht
  · rw [vpI (by omega), vpI (by omega), nI_clamp (by omega), nI_clamp (by omega)]
    refine ⟨by omega, by omega, by omega, ?_⟩
    rintro M9 rfl
    refine y_due (by omega) (by omega) ?_
    have e0 : rd M' 129 0 i = left B i (pos B e) := by rw [hk i (Nat.le_refl _), hl i q]
    have e1 : rd M' 325 e i - rd M' 326 e i = net B e i := by rw [hF 325 e i (by omega), hF 326 e i (by omega), (hn i q).1, (hn i q).2]; rfl
    rw [rd_wr_n (by omega), rd_wr_n (by omega), rd_wr_n (by omega), e0, e1]
    rintro M12 rfl M13 rfl x14 rfl
    have e2 : (if left B i (pos B e) < net B e i then left B i (pos B e) else net B e i) = paid B e i := rfl
    have e3 : rd (wr (wr M' 327 e i (left B i (pos B e))) 328 e i (paid B e i)) 129 0 i = left B i (pos B e) := by rw [rd_wr_n (by omega), rd_wr_n (by omega), e0]
    rw [e2, e3, rd_wr_s]
    have e4 : left B i (pos B e) - paid B e i = left B i (pos B e + 1) := by
      show _ = left B i (pos B e) - mn (left B i (pos B e)) (net B (ordE B (pos B e)) i)
      rw [ordE_pos he, mn_comm]; rfl
    rw [e4]
    refine hself _ _ ⟨i + 1, by omega, mI6 i, ((hF.tr (Fg.w (by omega))).tr (Fg.w (by omega))).tr (Fg.w (by omega)), fun c hc => ?_, fun c hc => ?_⟩ ?_
    · by_cases y : c = i
      · subst y
        refine ⟨?_, ?_, rd_wr_s⟩
        · rw [rd_wr_n (by omega), rd_wr_n (by omega), rd_wr_s]
        · rw [rd_wr_n (by omega), rd_wr_s]
      · obtain ⟨f1, f2, f3⟩ := ht c (by omega)
        refine ⟨?_, ?_, ?_⟩
        · rw [rd_wr_n (by omega), rd_wr_n (by omega), rd_wr_n (by omega)]; exact f1
        · rw [rd_wr_n (by omega), rd_wr_n (by omega), rd_wr_n (by omega)]; exact f2
        · rw [rd_wr_n (by omega), rd_wr_n (by omega), rd_wr_n (by omega)]; exact f3
    · rw [rd_wr_n (by omega), rd_wr_n (by omega), rd_wr_n (by omega)]; exact hk c (by omega)
    · rw [mI6, nI_clamp (by omega), nI_clamp (by omega)]; omega
theorem row328 {e : Nat} (he : e < 8) : IA (328, e) := ⟨mw328 e he, kt328⟩
theorem y_paidForEvent (hR : RC B M) {e : Nat} (he : e < nE B) (hp : ∀ c, c < nC B → rd M 328 e c = paid B e c) {P : Int32 → Mm → Prop} (h : P (pall B e) M) : wp_X5_paidForEvent (nI e) M P := by
  have he8 := hR.1.e8
  have hc6 := hR.1.c6
  unfold wp_X5_paidForEvent
  rw [vpI (by omega), nI_clamp (by omega), hR.n0]
  exact ⟨by omega, y_sumOf (L := 6) (row328 (by omega)) lt328 (by omega) (by decide) _ hp h⟩
theorem y_bear (hR : RC B M) {e : Nat} (he : e < nE B) (hp : ∀ c, c < nC B → rd M 328 e c = paid B e c) (hl : ∀ l, l < nL B → rd M 132 0 l = capl B l (pos B e)) {P : Mm → Prop}
    (h : ∀ M2, Fg (fun t k j => (t = 331 ∧ k = e) ∨ t = 132 ∨ ((t = 130 ∨ t = 133) ∧ j = e)) M M2 → (∀ l, l < nL B → rd M2 331 e l = borne B e l ∧ rd M2 132 0 l = capl B l (pos B e + 1)) → rd M2 130 0 e = burd B e → rd M2 133 0 e = retn B e → P M2) : wp_X5_bearBurden (nI e) M P := by
  have he8 := hR.1.e8
  have hl4 := hR.1.l4
  unfold wp_X5_bearBurden
  refine y_paidForEvent hR he hp ?_
  rw [vpI (by omega), nI_clamp (by omega), hR.e14 he]
  refine ⟨by omega, ?_⟩
  intro x4 hx4
  have hx4 : x4 = burd B e := hx4
  subst hx4
  refine lq3_i (fun s x M' => ∃ i, i ≤ nL B ∧ x = nI i ∧ s = burd B e - sumI (borne B e) i ∧ Fg (fun t k j => (t = 331 ∧ k = e) ∨ t = 132 ∨ ((t = 130 ∨ t = 133) ∧ j = e)) M M' ∧ (∀ l, l < i → rd M' 331 e l = borne B e l ∧ rd M' 132 0 l = capl B l (pos B e + 1)) ∧ (∀ l, i ≤ l → rd M' 132 0 l = rd M 132 0 l)) (fun _ x _ => nL B - x.toNatClampNeg) ?_ _ _ _ ⟨0, by omega, rfl, by show _ = _ - (0 : Int32); rw [Int32.sub_zero], Fg.rf, fun l q => by omega, fun _ _ => rfl⟩
  rintro s x M' ⟨i, hi, hx, hs, hF, ht, hk⟩ self hself
  subst hx hs
  have hR' := hR.kept hF (fun t j q z => by omega)
  rw [hR'.n5]
  refine cLe (by omega) (by omega) (fun q => ?_) (fun q => ?_)
  · have : i = nL B := by omega
    subst this
    rintro M11 rfl M12 rfl
    refine h _ ((hF.tr (Fg.w (by omega))).tr (Fg.w (by omega))) (fun l hl2 => ?_) ?_ rd_wr_s
    · rw [rd_wr_n (by omega), rd_wr_n (by omega), rd_wr_n (by omega), rd_wr_n (by omega)]; exact ht l hl2
    · rw [rd_wr_n (by omega), rd_wr_s]
  · rw [vpI (by omega), nI_clamp (by omega), hR'.l6 q, hR'.l7 q, hk i (Nat.le_refl _), hl i q]
    refine ⟨by omega, ?_⟩
    intro x14 hx14
    intro x15 hx15
    have hb : x15 = borne B e i := by
      rw [hx15, hx14]
      show mn (mn (mx 0 (burd B e - B 6 i)) (B 7 i)) (capl B i (pos B e)) = mn (want B e i) (capl B i (pos B e))
      unfold want
      rw [mn_comm (B 7 i)]
    subst hb
    refine ⟨by omega, ?_⟩
    rintro M17 rfl M18 rfl x19 rfl x20 rfl
    have e3 : rd (wr M' 331 e i (borne B e i)) 132 0 i = capl B i (pos B e) := by rw [rd_wr_n (by omega), hk i (Nat.le_refl _), hl i q]
    have e4 : capl B i (pos B e) - borne B e i = capl B i (pos B e + 1) := by
      show _ = capl B i (pos B e) - mn (capl B i (pos B e)) (want B (ordE B (pos B e)) i)
      rw [ordE_pos he, mn_comm]; rfl
    rw [e3, e4]
    refine hself _ _ _ ⟨i + 1, by omega, mI6 i, ?_, (hF.tr (Fg.w (by omega))).tr (Fg.w (by omega)), fun l hl2 => ?_, fun l hl2 => ?_⟩ ?_
    · show _ = _ - (sumI (borne B e) i + borne B e i)
      rw [Int32.sub_sub]
    · by_cases y : l = i
      · subst y
        refine ⟨?_, rd_wr_s⟩
        rw [rd_wr_n (by omega), rd_wr_s]
      · obtain ⟨f1, f2⟩ := ht l (by omega)
        refine ⟨?_, ?_⟩
        · rw [rd_wr_n (by omega), rd_wr_n (by omega)]; exact f1
        · rw [rd_wr_n (by omega), rd_wr_n (by omega)]; exact f2
    · rw [rd_wr_n (by omega), rd_wr_n (by omega)]; exact hk l (by omega)
    · rw [mI6, nI_clamp (by omega), nI_clamp (by omega)]; omega
theorem y_capacity (hR : RC B M) {l : Nat} (hl : l < nL B) {P : Int32 → Mm → Prop} (h : P (cap B l) M) : wp_X5_capacityOfLayer (nI l) M P := by
  have hl4 := hR.1.l4
  unfold wp_X5_capacityOfLayer
  rw [vpI (by omega), nI_clamp (by omega), hR.l7 hl, hR.l9 hl]
  exact ⟨by omega, h⟩
/-- all that a reckoned year holds -/
def Evt (B : Bk) (M : Mm) (e : Nat) : Prop :=
  (∀ c, c < nC B → rd M 325 e c = gross B e c ∧ rd M 326 e c = ded B e c ∧ rd M 327 e c = left B c (pos B e) ∧ rd M 328 e c = paid B e c) ∧ (∀ l, l < nL B → rd M 331 e l = borne B e l) ∧ rd M 130 0 e = burd B e ∧ rd M 133 0 e = retn B e
def Tab (B : Bk) (M : Mm) : Prop :=
  (∀ e, e < nE B → rd M 122 0 e = nI (pos B e)) ∧ (∀ p, p < nE B → rd M 121 0 p = nI (ordE B p)) ∧ (∀ k, k < nK B → rd M 123 0 k = lossF B k) ∧ (∀ e c, e < nE B → c < nC B → rd M 324 e c = lsum B e c) ∧
  (∀ e, e < nE B → Evt B M e) ∧ (∀ c, c < nC B → rd M 129 0 c = left B c (nE B)) ∧ (∀ l, l < nL B → rd M 132 0 l = capl B l (nE B))
/-- the cells that a year's reckoning may write -/
def rY (t _k _j : Nat) : Prop := t = 60 ∨ t = 61 ∨ t = 121 ∨ t = 122 ∨ t = 123 ∨ t = 129 ∨ t = 130 ∨ t = 132 ∨ t = 133 ∨ t = 134 ∨ t = 324 ∨ t = 325 ∨ t = 326 ∨ t = 327 ∨ t = 328 ∨ t = 331
theorem rY_b {t j : Nat} (q : t = 0 ∨ 21 ≤ t ∧ t ≤ 38) : ¬ rY t 0 j := fun z => by unfold rY at z; omega
theorem y_reckon (hR : RC B M) {P : Mm → Prop} (h : ∀ M2, Fg rY M M2 → Tab B M2 → P M2) : wp_X5_reckon M P := by
  have he8 := hR.1.e8
  have hc6 := hR.1.c6
  have hl4 := hR.1.l4
  have hk24 := hR.1.k24
  unfold wp_X5_reckon
  refine y_orderEvents hR (fun M1 g1 h1 => ?_)
  have G1 : Fg rY M M1 := g1.mo (fun t k j z => by unfold r121 at z; unfold rY; omega)
  have hR1 := hR.kept G1 (fun t j q => rY_b q)
  refine y_sumLosses hR1 (fun M2 g2 h2 h3 => ?_)
  have G2 : Fg rY M M2 := G1.tr (g2.mo (fun t k j z => by unfold r123 at z; unfold rY; omega))
  have h1' : ∀ e, e < nE B → rd M2 122 0 e = nI (pos B e) ∧ rd M2 121 0 (pos B e) = nI e := fun e he => by
    rw [g2 122 0 e (by unfold r123; omega), g2 121 0 _ (by unfold r123; omega)]; exact h1 e he
  have hord : ∀ p, p < nE B → rd M2 121 0 p = nI (ordE B p) := fun p hp => by
    obtain ⟨a1, a2⟩ := ordE_lt hp
    have := (h1' _ a1).2
    rw [a2] at this
    exact this
  -- the year limits
  refine lq2_i (fun x M' => ∃ i, i ≤ nC B ∧ x = nI i ∧ Fg (fun t _ _ => t = 129) M2 M' ∧ (∀ c, c < i → rd M' 129 0 c = B 2 c)) (fun x _ => nC B - x.toNatClampNeg) ?_ _ _ ⟨0, by omega, rfl, Fg.rf, fun c q => by omega⟩
  rintro x M3 ⟨i, hi, hx, g3, h4⟩ self hself
  subst hx
  have G3 : Fg rY M M3 := G2.tr (g3.mo (fun t k j z => by unfold rY; omega))
  have hR3 := hR.kept G3 (fun t j q => rY_b q)
  rw [hR3.n0]
  refine cLe (by omega) (by omega) (fun q => ?_) (fun q => ?_)
  rotate_left
  · rw [vpI (by omega), nI_clamp (by omega), hR3.c2 q]
    refine ⟨by omega, ?_⟩
    rintro M37 rfl x38 rfl
    refine hself _ _ ⟨i + 1, by omega, mI6 i, g3.tr (Fg.w rfl), fun c hc => ?_⟩ ?_
    · by_cases y : c = i
      · subst y; rw [rd_wr_s]
      · rw [rd_wr_n (by omega)]; exact h4 c (by omega)
    · rw [mI6, nI_clamp (by omega), nI_clamp (by omega)]; omega
  have : i = nC B := by omega
  subst this
  clear hself self
  -- the capacities
  refine lq2_i (fun x M' => ∃ i, i ≤ nL B ∧ x = nI i ∧ Fg (fun t _ _ => t = 132) M3 M' ∧ (∀ l, l < i → rd M' 132 0 l = cap B l)) (fun x _ => nL B - x.toNatClampNeg) ?_ _ _ ⟨0, by omega, rfl, Fg.rf, fun c q => by omega⟩
  rintro x M4 ⟨i, hi, hx, g4, h5⟩ self hself
  subst hx
  have G4 : Fg rY M M4 := G3.tr (g4.mo (fun t k j z => by unfold rY; omega))
  have hR4 := hR.kept G4 (fun t j q => rY_b q)
  rw [hR4.n5]
  refine cLe (by omega) (by omega) (fun q => ?_) (fun q => ?_)
  rotate_left
  · refine y_capacity hR4 q ?_
    rw [vpI (by omega), nI_clamp (by omega)]
    refine ⟨by omega, ?_⟩
    rintro M37 rfl x38 rfl
    refine hself _ _ ⟨i + 1, by omega, mI6 i, g4.tr (Fg.w rfl), fun c hc => ?_⟩ ?_
    · by_cases y : c = i
      · subst y; rw [rd_wr_s]
      · rw [rd_wr_n (by omega)]; exact h5 c (by omega)
    · rw [mI6, nI_clamp (by omega), nI_clamp (by omega)]; omega
  have : i = nL B := by omega
  subst this
  clear hself self
  have kk : ∀ {M5 : Mm}, Fg rY M M5 → RC B M5 := fun g => hR.kept g (fun t j q => rY_b q)
  -- the events
  refine lq2_i (fun x M5 => ∃ i, i ≤ nE B ∧ x = nI i ∧ Fg rY M M5 ∧ (∀ e, e < nE B → rd M5 122 0 e = nI (pos B e)) ∧ (∀ p, p < nE B → rd M5 121 0 p = nI (ordE B p)) ∧ (∀ k, k < nK B → rd M5 123 0 k = lossF B k) ∧ (∀ e c, e < nE B → c < nC B → rd M5 324 e c = lsum B e c) ∧ (∀ p, p < i → Evt B M5 (ordE B p)) ∧ (∀ c, c < nC B → rd M5 129 0 c = left B c i) ∧ (∀ l, l < nL B → rd M5 132 0 l = capl B l i)) (fun x _ => nE B - x.toNatClampNeg) ?_ _ _
    ⟨0, by omega, rfl, G4, fun e he => ?_, fun p hp => ?_, fun k hk => ?_, fun e c he hc => ?_, fun p hp => by omega, fun c hc => ?_, fun l hl => ?_⟩
  rotate_left
  · rw [g4 _ _ _ (by omega), g3 _ _ _ (by omega)]; exact (h1' e he).1
  · rw [g4 _ _ _ (by omega), g3 _ _ _ (by omega)]; exact hord p hp
  · rw [g4 _ _ _ (by omega), g3 _ _ _ (by omega)]; exact h2 k hk
  · rw [g4 _ _ _ (by omega), g3 _ _ _ (by omega)]; exact h3 e c he hc
  · rw [g4 _ _ _ (by omega)]; exact h4 c hc
  · exact h5 l hl
  clear h1 h1' hord h2 h3 h4 h5 g1 g2 g3 g4 G1 G2 G3 G4 hR1 hR3 hR4
  rintro x M5 ⟨i, hi, hx, G5, t1, t2, t3, t4, t5, t6, t7⟩ self hself
  subst hx
  have hR5 := kk G5
  rw [hR5.n12]
  refine cLe (by omega) (by omega) (fun q => ?_) (fun q => ?_)
  · have : i = nE B := by omega
    subst this
    refine h _ G5 ⟨t1, t2, t3, t4, fun e he => ?_, t6, t7⟩
    have := t5 (pos B e) (pos_lt he)
    rw [ordE_pos he] at this
    exact this
  rw [vpI (by omega), nI_clamp (by omega), t2 i q]
  refine ⟨by omega, ?_⟩
  obtain ⟨he, hpe⟩ := ordE_lt q
  generalize hee : ordE B i = e at *
  rintro x19 rfl
  refine y_limitLosses hR5 he (fun c hc => t4 e c he hc) (fun M6 g6 u1 => ?_)
  have G6 : Fg rY M M6 := G5.tr (g6.mo (fun t k j z => by unfold rY; omega))
  -- the groups
  refine lq2_i (fun x M7 => ∃ g, g ≤ 3 ∧ x = nI g ∧ Fg (fun t k _ => t = 60 ∨ t = 61 ∨ (t = 326 ∧ k = e)) M6 M7 ∧ (∀ c g', c < nC B → g' < g → B 4 c = nI g' → rd M7 326 e c = ded B e c)) (fun x _ => 3 - x.toNatClampNeg) ?_ _ _ ⟨0, by omega, rfl, Fg.rf, fun c g' _ z => by omega⟩
  rintro x M7 ⟨g, hg, hx, g7, u2⟩ self2 hself2
  subst hx
  have G7 : Fg rY M M7 := G6.tr (g7.mo (fun t k j z => by unfold rY; omega))
  have hR7 := kk G7
  have u1' : ∀ c, c < nC B → rd M7 325 e c = gross B e c := fun c hc => by rw [g7 _ _ _ (by omega)]; exact u1 c hc
  rw [show (3 : Int32) = nI 3 from rfl]
  refine cLe (by omega) (by omega) (fun q2 => ?_) (fun q2 => ?_)
  rotate_left
  · refine y_deduct hR7 he q2 u1' (fun M8 g8 u3 => ?_)
    rintro x30 rfl
    refine hself2 _ _ ⟨g + 1, by omega, mI6 g, g7.tr (g8.mo (fun t k j z => by omega)), fun c g' hc hg' h4 => ?_⟩ ?_
    · by_cases y : g' = g
      · subst y; exact u3 c hc h4
      · rw [g8 326 e c (by
          rintro (z | z | ⟨-, -, -, z⟩)
          · omega
          · omega
          · rw [h4, nI_eq (by omega) (by omega)] at z; omega)]
        exact u2 c g' hc (by omega) h4
    · rw [mI6, nI_clamp (by omega), nI_clamp (by omega)]; omega
  have : g = 3 := by omega
  subst this
  have u2' : ∀ c, c < nC B → rd M7 325 e c = gross B e c ∧ rd M7 326 e c = ded B e c := fun c hc => by
    obtain ⟨g', hg', h4⟩ := grp hR.1 hc
    exact ⟨u1' c hc, u2 c g' hc hg' h4⟩
  have u4 : ∀ c, c < nC B → rd M7 129 0 c = left B c (pos B e) := fun c hc => by
    rw [g7 _ _ _ (by omega), g6 _ _ _ (by omega), t6 c hc, hpe]
  refine y_pay hR7 he u2' u4 (fun M8 g8 u5 => ?_)
  have G8 : Fg rY M M8 := G7.tr (g8.mo (fun t k j z => by unfold rY; omega))
  have u6 : ∀ l, l < nL B → rd M8 132 0 l = capl B l (pos B e) := fun l hl => by
    rw [g8 _ _ _ (by omega), g7 _ _ _ (by omega), g6 _ _ _ (by omega), t7 l hl, hpe]
  refine y_bear (kk G8) he (fun c hc => (u5 c hc).2.1) u6 (fun M9 g9 u7 u8 u9 => ?_)
  have G9 : Fg rY M M9 := G8.tr (g9.mo (fun t k j z => by unfold rY; omega))
  rintro x28 rfl
  refine hself _ _ ⟨i + 1, by omega, mI6 i, G9, fun e' he' => ?_, fun p hp => ?_, fun k hk => ?_, fun e' c he' hc => ?_, fun p hp => ?_, fun c hc => ?_, fun l hl => ?_⟩ ?_
  · rw [g9 _ _ _ (by omega), g8 _ _ _ (by omega), g7 _ _ _ (by omega), g6 _ _ _ (by omega)]; exact t1 e' he'
  · rw [g9 _ _ _ (by omega), g8 _ _ _ (by omega), g7 _ _ _ (by omega), g6 _ _ _ (by omega)]; exact t2 p hp
  · rw [g9 _ _ _ (by omega), g8 _ _ _ (by omega), g7 _ _ _ (by omega), g6 _ _ _ (by omega)]; exact t3 k hk
  · rw [g9 _ _ _ (by omega), g8 _ _ _ (by omega), g7 _ _ _ (by omega), g6 _ _ _ (by omega)]; exact t4 e' c he' hc
  · by_cases y : p = i
    · subst y
      rw [hee]
      refine ⟨fun c hc => ⟨?_, ?_, ?_, ?_⟩, fun l hl => (u7 l hl).1, u8, u9⟩
      · rw [g9 _ _ _ (by omega), g8 _ _ _ (by omega)]; exact (u2' c hc).1
      · rw [g9 _ _ _ (by omega), g8 _ _ _ (by omega)]; exact (u2' c hc).2
      · rw [g9 _ _ _ (by omega)]; exact (u5 c hc).1
      · rw [g9 _ _ _ (by omega)]; exact (u5 c hc).2.1
    · obtain ⟨o1, o2⟩ := ordE_lt (B := B) (p := p) (by omega)
      have hne : ordE B p ≠ e := fun z => y (by rw [← o2, z, hpe])
      obtain ⟨v1, v2, v3, v4⟩ := t5 p (by omega)
      generalize ordE B p = f at *
      refine ⟨fun c hc => ⟨?_, ?_, ?_, ?_⟩, fun l hl => ?_, ?_, ?_⟩
      · rw [g9 _ _ _ (by omega), g8 _ _ _ (by omega), g7 _ _ _ (by omega), g6 _ _ _ (by omega)]; exact (v1 c hc).1
      · rw [g9 _ _ _ (by omega), g8 _ _ _ (by omega), g7 _ _ _ (by omega), g6 _ _ _ (by omega)]; exact (v1 c hc).2.1
      · rw [g9 _ _ _ (by omega), g8 _ _ _ (by omega), g7 _ _ _ (by omega), g6 _ _ _ (by omega)]; exact (v1 c hc).2.2.1
      · rw [g9 _ _ _ (by omega), g8 _ _ _ (by omega), g7 _ _ _ (by omega), g6 _ _ _ (by omega)]; exact (v1 c hc).2.2.2
      · rw [g9 _ _ _ (by omega), g8 _ _ _ (by omega), g7 _ _ _ (by omega), g6 _ _ _ (by omega)]; exact v2 l hl
      · rw [g9 _ _ _ (by omega), g8 _ _ _ (by omega), g7 _ _ _ (by omega), g6 _ _ _ (by omega)]; exact v3
      · rw [g9 _ _ _ (by omega), g8 _ _ _ (by omega), g7 _ _ _ (by omega), g6 _ _ _ (by omega)]; exact v4
  · rw [g9 _ _ _ (by omega), (u5 c hc).2.2, hpe]
  · rw [(u7 l hl).2, hpe]
  · rw [mI6, nI_clamp (by omega), nI_clamp (by omega)]; omega
end YR
