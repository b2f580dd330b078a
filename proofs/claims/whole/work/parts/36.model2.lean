/-! THE MODEL'S QUERIES THAT USE ITS ROW OF WEIGHTS -/
def binall (B : Bk) (l : Nat) : Int32 := cap B l - capl B l (nE B)
def rein (B : Bk) (l : Nat) : Int32 := mn (binall B l) (B 7 l * B 9 l)
def rprem (B : Bk) (l : Nat) : Int32 := (((B 8 l).toInt64 * (rein B l).toInt64) / (B 7 l).toInt64).toInt32
def pinall (B : Bk) (c : Nat) : Int32 := B 2 c - left B c (nE B)
def manyC (B : Bk) (e : Nat) : Int32 := sumI (fun k => if B 16 k = nI e then 1 else 0) (nK B)
def lossIn (B : Bk) (e : Nat) : Int32 := sumI (fun k => if B 16 k = nI e then lossF B k else 0) (nK B)
def lprems (B : Bk) : Int32 := sumI (fun l => B 8 l) (nL B) + sumI (rprem B) (nL B)
theorem damt_eq {B : Bk} {e g : Nat} (hg : g < 3) : damt B e (nI g) = (if gsum B e (nI g) < B 10 g then gsum B e (nI g) else B 10 g) := by
  unfold damt mn
  rw [nI_clamp (by omega)]
section MQ3
variable {B : Bk} {M : Mm}
theorem q_deductedOf (hR : RM B M) (e : Nat) {c : Nat} (hc : c < nC B) {P : Int32 → Mm → Prop} (h : ∀ M2, Fm M M2 → P (ded B e c) M2) : wp_X7_deductedOf (nI e) (nI c) M P := by
  have hc6 := hR.1.c6; have hl4 := hR.1.l4; have he8 := hR.1.e8; have hk24 := hR.1.k24
  obtain ⟨g, hg, h4⟩ := grp hR.1 hc
  unfold wp_X7_deductedOf
  simp (disch := omega) only [mI0, mI8, nI_clamp, vpI, hR.c4 hc, h4]
  refine ⟨by omega, ?_⟩
  rintro x2 rfl
  refine lq3_i (fun s x M' => ∃ j, j ≤ nC B ∧ x = nI j ∧ s = sumI (gAt B e (nI g)) j ∧ Fm M M' ∧ ∀ k, k < j → rd M' 172 0 k = gAt B e (nI g) k) (fun _ x _ => nC B - x.toNatClampNeg) ?_ _ _ _ ⟨0, by omega, rfl, rfl, Fr.rf, fun k hk => by omega⟩
  rintro s x M' ⟨j, hj, hx, hs, hF, hw⟩ self hself
  subst hx hs
  have hR' := hR.kept hF
  rw [hR'.n0]
  refine cLe (by omega) (by omega) (fun q => ?_) (fun q => ?_)
  · have : j = nC B := by omega
    subst this
    simp (disch := omega) only [mI5, nI_clamp, vpI, hR'.g hg]
    refine ⟨by omega, ?_⟩
    obtain ⟨d1, d2⟩ := damt_bd hR.1 e hg
    obtain ⟨d3, d4, d5⟩ := bd_nI d1
    have e1 : (if sumI (gAt B e (nI g)) (nC B) < B 10 g then sumI (gAt B e (nI g)) (nC B) else B 10 g) = nI (damt B e (nI g)).toNatClampNeg := by
      rw [← d3, damt_eq hg]; rfl
    rw [e1]
    refine q_shareOf (fun k => (gAt B e (nI g) k).toNatClampNeg) (by omega) hc (fun k hk => ?_) (fun k hk => ?_) (by omega) ?_
    · rw [hw k hk]; exact (bd_nI (gAt_bd hR.1 e (nI g) hk)).1
    · have := (bd_nI (gAt_bd hR.1 e (nI g) hk)).2.2
      omega
    · have e2 := h _ hF
      unfold ded share at e2
      rw [h4] at e2
      exact e2
  · have key : ∀ v : Int32, v = gAt B e (nI g) j → vp_in (nI j) 24 ∧ ∀ M18 : Mm, M18 = wr M' 172 0 (nI j).toNatClampNeg v → ∀ x19 : Int32, x19 = sumI (gAt B e (nI g)) j + rd M18 172 0 (nI j).toNatClampNeg → ∀ x20 : Int32, x20 = nI j + (1 : Int32) → self x19 x20 M18 := by
      rintro v rfl
      rw [vpI (by omega), nI_clamp (by omega)]
      refine ⟨by omega, ?_⟩
      rintro M18 rfl x19 rfl x20 rfl
      refine hself _ _ _ ⟨j + 1, by omega, mI6 j, by rw [rd_wr_s]; rfl, hF.tr (Fr.wr (by decide)), fun k hk => ?_⟩ ?_
      · by_cases e3 : k = j
        · subst e3; rw [rd_wr_s]
        · rw [rd_wr_n (fun z => e3 z.2.2)]; exact hw k (by omega)
      · rw [mI6, nI_clamp (by omega), nI_clamp (by omega)]; omega
    simp (disch := omega) only [mI0, mI8, nI_clamp, vpI, hR'.c4 q] at key ⊢
    refine ⟨by omega, ?_⟩
    unfold jn
    refine ⟨fun q2 => key 0 (by unfold gAt; rw [if_neg q2]), fun q2 => q_grossOf hR' e q (key _ (by unfold gAt; rw [if_pos q2]))⟩
theorem q_netOf (hR : RM B M) (e : Nat) {c : Nat} (hc : c < nC B) {P : Int32 → Mm → Prop} (h : ∀ M2, Fm M M2 → P (net B e c) M2) : wp_X7_netOf (nI e) (nI c) M P := by
  unfold wp_X7_netOf
  exact q_grossOf hR e hc (q_deductedOf hR e hc h)
theorem q_leftAt (hR : RM B M) {p c : Nat} (hp : p ≤ nE B) (hc : c < nC B) {P : Int32 → Mm → Prop} (h : ∀ M2, Fm M M2 → P (left B c p) M2) : wp_X7_leftAt (nI p) (nI c) M P := by
  have hc6 := hR.1.c6; have hl4 := hR.1.l4; have he8 := hR.1.e8; have hk24 := hR.1.k24
  unfold wp_X7_leftAt
  simp (disch := omega) only [mI0, mI6, nI_clamp, vpI, hR.c2 hc]
  refine ⟨by omega, ?_⟩
  rintro x2 rfl
  refine lq3_i (fun s x M' => ∃ j, j ≤ p ∧ x = nI j ∧ s = left B c j ∧ Fm M M') (fun _ x _ => p - x.toNatClampNeg) ?_ _ _ _ ⟨0, by omega, rfl, rfl, Fr.rf⟩
  rintro s x M' ⟨j, hj, hx, hs, hF⟩ self hself
  subst hx hs
  have hR' := hR.kept hF
  refine cLe (by omega) (by omega) (fun q => ?_) (fun q => ?_)
  · have : j = p := by omega
    subst this
    exact h _ hF
  · refine q_eventOn hR' (by omega) (q_netOf hR' _ hc (fun M2 hF2 => ?_))
    rintro x11 rfl x12 rfl
    refine hself _ _ _ ⟨j + 1, by omega, mI6 j, rfl, hF.tr hF2⟩ ?_
    rw [mI6, nI_clamp (by omega), nI_clamp (by omega)]; omega
theorem q_paidOf (hR : RM B M) {e c : Nat} (he : e < nE B) (hc : c < nC B) {P : Int32 → Mm → Prop} (h : ∀ M2, Fm M M2 → P (paid B e c) M2) : wp_X7_paidOf (nI e) (nI c) M P := by
  unfold wp_X7_paidOf
  refine q_netOf hR e hc (fun M2 h2 => q_positionOf (hR.kept h2) he (q_leftAt (hR.kept h2) (Nat.le_of_lt (pos_lt he)) hc (fun M3 h3 => ?_)))
  exact h _ (h2.tr h3)
theorem q_paidByAll (hR : RM B M) {e : Nat} (he : e < nE B) {P : Int32 → Mm → Prop} (h : ∀ M2, Fm M M2 → P (pall B e) M2) : wp_X7_paidByAll (nI e) M P := by
  have hc6 := hR.1.c6; have hl4 := hR.1.l4; have he8 := hR.1.e8; have hk24 := hR.1.k24
  unfold wp_X7_paidByAll
  refine lq3_i (fun s x M' => ∃ j, j ≤ nC B ∧ x = nI j ∧ s = sumI (paid B e) j ∧ Fm M M') (fun _ x _ => nC B - x.toNatClampNeg) ?_ _ _ _ ⟨0, by omega, rfl, rfl, Fr.rf⟩
  rintro s x M' ⟨j, hj, hx, hs, hF⟩ self hself
  subst hx hs
  have hR' := hR.kept hF
  rw [hR'.n0]
  refine cLe (by omega) (by omega) (fun q => ?_) (fun q => ?_)
  · have : j = nC B := by omega
    subst this
    exact h _ hF
  · refine q_paidOf hR' he q (fun M2 hF2 => ?_)
    rintro x11 rfl x12 rfl
    refine hself _ _ _ ⟨j + 1, by omega, mI6 j, rfl, hF.tr hF2⟩ ?_
    rw [mI6, nI_clamp (by omega), nI_clamp (by omega)]; omega
theorem q_burdenOf (hR : RM B M) {e : Nat} (he : e < nE B) {P : Int32 → Mm → Prop} (h : ∀ M2, Fm M M2 → P (burd B e) M2) : wp_X7_burdenOf (nI e) M P := by
  have hc6 := hR.1.c6; have hl4 := hR.1.l4; have he8 := hR.1.e8; have hk24 := hR.1.k24
  unfold wp_X7_burdenOf
  refine q_paidByAll hR he (fun M2 h2 => ?_)
  simp (disch := omega) only [mI4, nI_clamp, vpI, (hR.kept h2).e14 he]
  exact ⟨by omega, h _ h2⟩
theorem q_capacityOf (hR : RM B M) {l : Nat} (hl : l < nL B) {P : Int32 → Mm → Prop} (h : P (cap B l) M) : wp_X7_capacityOf (nI l) M P := by
  have hc6 := hR.1.c6; have hl4 := hR.1.l4; have he8 := hR.1.e8; have hk24 := hR.1.k24
  unfold wp_X7_capacityOf
  simp (disch := omega) only [mI1, mI6, mI8, nI_clamp, vpI, hR.l7 hl, hR.l9 hl]
  exact ⟨by omega, by omega, h⟩
theorem q_wantOf (hR : RM B M) {e l : Nat} (he : e < nE B) (hl : l < nL B) {P : Int32 → Mm → Prop} (h : ∀ M2, Fm M M2 → P (want B e l) M2) : wp_X7_wantOf (nI e) (nI l) M P := by
  have hc6 := hR.1.c6; have hl4 := hR.1.l4; have he8 := hR.1.e8; have hk24 := hR.1.k24
  unfold wp_X7_wantOf
  simp (disch := omega) only [mI1, mI6, nI_clamp, vpI, hR.l7 hl]
  refine ⟨by omega, q_burdenOf hR he (fun M2 h2 => ?_)⟩
  simp (disch := omega) only [(hR.kept h2).l6 hl]
  exact ⟨by omega, h _ h2⟩
theorem q_capacityAt (hR : RM B M) {p l : Nat} (hp : p ≤ nE B) (hl : l < nL B) {P : Int32 → Mm → Prop} (h : ∀ M2, Fm M M2 → P (capl B l p) M2) : wp_X7_capacityAt (nI p) (nI l) M P := by
  have hc6 := hR.1.c6; have hl4 := hR.1.l4; have he8 := hR.1.e8; have hk24 := hR.1.k24
  unfold wp_X7_capacityAt
  refine q_capacityOf hR hl ?_
  refine lq3_i (fun s x M' => ∃ j, j ≤ p ∧ x = nI j ∧ s = capl B l j ∧ Fm M M') (fun _ x _ => p - x.toNatClampNeg) ?_ _ _ _ ⟨0, by omega, rfl, rfl, Fr.rf⟩
  rintro s x M' ⟨j, hj, hx, hs, hF⟩ self hself
  subst hx hs
  have hR' := hR.kept hF
  refine cLe (by omega) (by omega) (fun q => ?_) (fun q => ?_)
  · have : j = p := by omega
    subst this
    exact h _ hF
  · refine q_eventOn hR' (by omega) (q_wantOf hR' (ordE_lt (by omega)).1 hl (fun M2 hF2 => ?_))
    rintro x11 rfl x12 rfl
    refine hself _ _ _ ⟨j + 1, by omega, mI6 j, rfl, hF.tr hF2⟩ ?_
    rw [mI6, nI_clamp (by omega), nI_clamp (by omega)]; omega
theorem q_borneOf (hR : RM B M) {e l : Nat} (he : e < nE B) (hl : l < nL B) {P : Int32 → Mm → Prop} (h : ∀ M2, Fm M M2 → P (borne B e l) M2) : wp_X7_borneOf (nI e) (nI l) M P := by
  unfold wp_X7_borneOf
  refine q_wantOf hR he hl (fun M2 h2 => q_positionOf (hR.kept h2) he (q_capacityAt (hR.kept h2) (Nat.le_of_lt (pos_lt he)) hl (fun M3 h3 => ?_)))
  exact h _ (h2.tr h3)
theorem q_retainedOf (hR : RM B M) {e : Nat} (he : e < nE B) {P : Int32 → Mm → Prop} (h : ∀ M2, Fm M M2 → P (retn B e) M2) : wp_X7_retainedOf (nI e) M P := by
  have hc6 := hR.1.c6; have hl4 := hR.1.l4; have he8 := hR.1.e8; have hk24 := hR.1.k24
  unfold wp_X7_retainedOf
  refine q_burdenOf hR he (fun M1 h1 => ?_)
  refine lq3_i (fun s x M' => ∃ j, j ≤ nL B ∧ x = nI j ∧ s = burd B e - sumI (borne B e) j ∧ Fm M M') (fun _ x _ => nL B - x.toNatClampNeg) ?_ _ _ _ ⟨0, by omega, rfl, by show _ = _ - (0 : Int32); rw [Int32.sub_zero], h1⟩
  rintro s x M' ⟨j, hj, hx, hs, hF⟩ self hself
  subst hx hs
  have hR' := hR.kept hF
  rw [hR'.n1]
  refine cLe (by omega) (by omega) (fun q => ?_) (fun q => ?_)
  · have : j = nL B := by omega
    subst this
    exact h _ hF
  · refine q_borneOf hR' he q (fun M2 hF2 => ?_)
    rintro x11 rfl x12 rfl
    refine hself _ _ _ ⟨j + 1, by omega, mI6 j, ?_, hF.tr hF2⟩ ?_
    · show _ = _ - (sumI (borne B e) j + borne B e j)
      rw [Int32.sub_sub]
    · rw [mI6, nI_clamp (by omega), nI_clamp (by omega)]; omega
theorem q_borneInAll (hR : RM B M) {l : Nat} (hl : l < nL B) {P : Int32 → Mm → Prop} (h : ∀ M2, Fm M M2 → P (binall B l) M2) : wp_X7_borneInAll (nI l) M P := by
  unfold wp_X7_borneInAll
  refine q_capacityOf hR hl ?_
  rw [hR.n2]
  exact q_capacityAt hR (Nat.le_refl _) hl h
theorem q_reinstated (hR : RM B M) {l : Nat} (hl : l < nL B) {P : Int32 → Mm → Prop} (h : ∀ M2, Fm M M2 → P (rein B l) M2) : wp_X7_reinstated (nI l) M P := by
  have hc6 := hR.1.c6; have hl4 := hR.1.l4; have he8 := hR.1.e8; have hk24 := hR.1.k24
  unfold wp_X7_reinstated
  refine q_borneInAll hR hl (fun M2 h2 => ?_)
  simp (disch := omega) only [mI1, mI6, mI8, nI_clamp, vpI, (hR.kept h2).l7 hl, (hR.kept h2).l9 hl]
  exact ⟨by omega, by omega, h _ h2⟩
theorem i64_ne {x : Int32} (h : 1 ≤ x.toInt) : ¬ x.toInt64 = 0 := fun z => by
  have h2 : x.toInt64.toInt = x.toInt := Int32.toInt_toInt64 x
  rw [z] at h2
  have : (0 : Int64).toInt = 0 := rfl
  omega
theorem q_reinstatementPremium (hR : RM B M) {l : Nat} (hl : l < nL B) {P : Int32 → Mm → Prop} (h : ∀ M2, Fm M M2 → P (rprem B l) M2) : wp_X7_reinstatementPremium (nI l) M P := by
  have hc6 := hR.1.c6; have hl4 := hR.1.l4; have he8 := hR.1.e8; have hk24 := hR.1.k24
  unfold wp_X7_reinstatementPremium
  simp (disch := omega) only [mI1, mI6, mI7, nI_clamp, vpI, hR.l8 hl]
  refine ⟨by omega, q_reinstated hR hl (fun M2 h2 => ?_)⟩
  simp (disch := omega) only [(hR.kept h2).l7 hl]
  exact ⟨by omega, i64_ne (hR.1.lay l hl).2.1.1, h _ h2⟩
theorem q_paidInAll (hR : RM B M) {c : Nat} (hc : c < nC B) {P : Int32 → Mm → Prop} (h : ∀ M2, Fm M M2 → P (pinall B c) M2) : wp_X7_paidInAll (nI c) M P := by
  have hc6 := hR.1.c6; have hl4 := hR.1.l4; have he8 := hR.1.e8; have hk24 := hR.1.k24
  unfold wp_X7_paidInAll
  simp (disch := omega) only [mI0, mI6, nI_clamp, vpI, hR.c2 hc, hR.n2]
  exact ⟨by omega, q_leftAt hR (Nat.le_refl _) hc h⟩
theorem q_manyClaims (hR : RM B M) (e : Nat) {P : Int32 → Mm → Prop} (h : P (manyC B e) M) : wp_X7_manyClaims (nI e) M P := by
  have hc6 := hR.1.c6; have hl4 := hR.1.l4; have he8 := hR.1.e8; have hk24 := hR.1.k24
  unfold wp_X7_manyClaims
  refine lq2_i (fun s x => ∃ j, j ≤ nK B ∧ x = nI j ∧ s = sumI (fun k => if B 16 k = nI e then 1 else 0) j) (fun _ x => nK B - x.toNatClampNeg) ?_ _ _ ⟨0, by omega, rfl, rfl⟩
  rintro s x ⟨j, hj, hx, hs⟩ self hself
  subst hx hs
  rw [hR.n3]
  refine cLe (by omega) (by omega) (fun q => ?_) (fun q => ?_)
  · have : j = nK B := by omega
    subst this
    exact h
  · have key : ∀ v : Int32, v = (if B 16 j = nI e then 1 else 0) → ∀ x11 : Int32, x11 = sumI (fun k => if B 16 k = nI e then 1 else 0) j + v → ∀ x12 : Int32, x12 = nI j + (1 : Int32) → self x11 x12 := by
      rintro v rfl x11 rfl x12 rfl
      refine hself _ _ ⟨j + 1, by omega, mI6 j, rfl⟩ ?_
      rw [mI6, nI_clamp (by omega), nI_clamp (by omega)]; omega
    simp (disch := omega) only [mI2, nI_clamp, vpI, hR.k16 q]
    unfold jn
    exact ⟨by omega, fun q2 => key 0 (by rw [if_neg q2]), fun q2 => key 1 (by rw [if_pos q2])⟩
theorem q_lossesIn (hR : RM B M) (e : Nat) {P : Int32 → Mm → Prop} (h : P (lossIn B e) M) : wp_X7_lossesIn (nI e) M P := by
  have hc6 := hR.1.c6; have hl4 := hR.1.l4; have he8 := hR.1.e8; have hk24 := hR.1.k24
  unfold wp_X7_lossesIn
  refine lq3_i (fun s x M' => ∃ j, j ≤ nK B ∧ x = nI j ∧ s = sumI (fun k => if B 16 k = nI e then lossF B k else 0) j ∧ M' = M) (fun _ x _ => nK B - x.toNatClampNeg) ?_ _ _ _ ⟨0, by omega, rfl, rfl, rfl⟩
  rintro s x M' ⟨j, hj, hx, hs, hM⟩ self hself
  subst hx hs hM
  rw [hR.n3]
  refine cLe (by omega) (by omega) (fun q => ?_) (fun q => ?_)
  · have : j = nK B := by omega
    subst this
    exact h
  · have key : ∀ v : Int32, v = (if B 16 j = nI e then lossF B j else 0) → ∀ x11 : Int32, x11 = sumI (fun k => if B 16 k = nI e then lossF B k else 0) j + v → ∀ x12 : Int32, x12 = nI j + (1 : Int32) → self x11 x12 M' := by
      rintro v rfl x11 rfl x12 rfl
      refine hself _ _ _ ⟨j + 1, by omega, mI6 j, rfl, rfl⟩ ?_
      rw [mI6, nI_clamp (by omega), nI_clamp (by omega)]; omega
    simp (disch := omega) only [mI2, nI_clamp, vpI, hR.k16 q]
    unfold jn
    exact ⟨by omega, fun q2 => key 0 (by rw [if_neg q2]), fun q2 => q_lossOf hR q (key _ (by rw [if_pos q2]))⟩
theorem q_allPaid (hR : RM B M) {P : Int32 → Mm → Prop} (h : ∀ M2, Fm M M2 → P (sumI (pinall B) (nC B)) M2) : wp_X7_allPaid M P := by
  have hc6 := hR.1.c6; have hl4 := hR.1.l4; have he8 := hR.1.e8; have hk24 := hR.1.k24
  unfold wp_X7_allPaid
  refine lq3_i (fun s x M' => ∃ j, j ≤ nC B ∧ x = nI j ∧ s = sumI (pinall B) j ∧ Fm M M') (fun _ x _ => nC B - x.toNatClampNeg) ?_ _ _ _ ⟨0, by omega, rfl, rfl, Fr.rf⟩
  rintro s x M' ⟨j, hj, hx, hs, hF⟩ self hself
  subst hx hs
  have hR' := hR.kept hF
  rw [hR'.n0]
  refine cLe (by omega) (by omega) (fun q => ?_) (fun q => ?_)
  · have : j = nC B := by omega
    subst this
    exact h _ hF
  · refine q_paidInAll hR' q (fun M2 hF2 => ?_)
    rintro x11 rfl x12 rfl
    refine hself _ _ _ ⟨j + 1, by omega, mI6 j, rfl, hF.tr hF2⟩ ?_
    rw [mI6, nI_clamp (by omega), nI_clamp (by omega)]; omega
theorem q_allBorne (hR : RM B M) {P : Int32 → Mm → Prop} (h : ∀ M2, Fm M M2 → P (sumI (binall B) (nL B)) M2) : wp_X7_allBorne M P := by
  have hc6 := hR.1.c6; have hl4 := hR.1.l4; have he8 := hR.1.e8; have hk24 := hR.1.k24
  unfold wp_X7_allBorne
  refine lq3_i (fun s x M' => ∃ j, j ≤ nL B ∧ x = nI j ∧ s = sumI (binall B) j ∧ Fm M M') (fun _ x _ => nL B - x.toNatClampNeg) ?_ _ _ _ ⟨0, by omega, rfl, rfl, Fr.rf⟩
  rintro s x M' ⟨j, hj, hx, hs, hF⟩ self hself
  subst hx hs
  have hR' := hR.kept hF
  rw [hR'.n1]
  refine cLe (by omega) (by omega) (fun q => ?_) (fun q => ?_)
  · have : j = nL B := by omega
    subst this
    exact h _ hF
  · refine q_borneInAll hR' q (fun M2 hF2 => ?_)
    rintro x11 rfl x12 rfl
    refine hself _ _ _ ⟨j + 1, by omega, mI6 j, rfl, hF.tr hF2⟩ ?_
    rw [mI6, nI_clamp (by omega), nI_clamp (by omega)]; omega
theorem q_allDeducted (hR : RM B M) {P : Int32 → Mm → Prop} (h : ∀ M2, Fm M M2 → P (sumI (fun e => sumI (ded B e) (nC B)) (nE B)) M2) : wp_X7_allDeducted M P := by
  have hc6 := hR.1.c6; have hl4 := hR.1.l4; have he8 := hR.1.e8; have hk24 := hR.1.k24
  unfold wp_X7_allDeducted
  refine lq3_i (fun s x M' => ∃ j, j ≤ nE B ∧ x = nI j ∧ s = sumI (fun e => sumI (ded B e) (nC B)) j ∧ Fm M M') (fun _ x _ => nE B - x.toNatClampNeg) ?_ _ _ _ ⟨0, by omega, rfl, rfl, Fr.rf⟩
  rintro s x M' ⟨j, hj, hx, hs, hF⟩ self hself
  subst hx hs
  have hR' := hR.kept hF
  rw [hR'.n2]
  refine cLe (by omega) (by omega) (fun q => ?_) (fun q => ?_)
  · have : j = nE B := by omega
    subst this
    exact h _ hF
  · refine lq3_i (fun s x M2 => ∃ k, k ≤ nC B ∧ x = nI k ∧ s = sumI (fun e => sumI (ded B e) (nC B)) j + sumI (ded B j) k ∧ Fm M M2) (fun _ x _ => nC B - x.toNatClampNeg) ?_ _ _ _ ⟨0, by omega, rfl, by show _ = _ + (0 : Int32); rw [Int32.add_zero], hF⟩
    rintro s x M2 ⟨k, hk, hx, hs, hF2⟩ self2 hself2
    subst hx hs
    have hR2 := hR.kept hF2
    rw [hR2.n0]
    refine cLe (by omega) (by omega) (fun q2 => ?_) (fun q2 => ?_)
    · have : k = nC B := by omega
      subst this
      rintro x13 rfl
      refine hself _ _ _ ⟨j + 1, by omega, mI6 j, rfl, hF2⟩ ?_
      rw [mI6, nI_clamp (by omega), nI_clamp (by omega)]; omega
    · refine q_deductedOf hR2 j q2 (fun M3 hF3 => ?_)
      rintro x11 rfl x12 rfl
      refine hself2 _ _ _ ⟨k + 1, by omega, mI6 k, ?_, hF2.tr hF3⟩ ?_
      · show _ = _ + (sumI (ded B j) k + ded B j k)
        rw [Int32.add_assoc]
      · rw [mI6, nI_clamp (by omega), nI_clamp (by omega)]; omega
theorem q_premiums (hW : WF B) (o n : Nat) (f : Nat → Int32) (hn : n ≤ 6) (ho : o ≤ 32) (hf : ∀ i, i < n → rd M 160 0 (o + 4 * i + 2) = f i) {P : Int32 → Mm → Prop} (h : P (sumI f n) M) : wp_X7_premiums (nI o) (nI n) M P := by
  unfold wp_X7_premiums
  refine lq2_i (fun s x => ∃ j, j ≤ n ∧ x = nI j ∧ s = sumI f j) (fun _ x => n - x.toNatClampNeg) ?_ _ _ ⟨0, by omega, rfl, rfl⟩
  rintro s x ⟨j, hj, hx, hs⟩ self hself
  subst hx hs
  refine cLe (by omega) (by omega) (fun q => ?_) (fun q => ?_)
  · have : j = n := by omega
    subst this
    exact h
  · have e1 : nI o + (4 : Int32) * nI j + (2 : Int32) = nI (o + 4 * j + 2) := by rw [show (4 : Int32) = nI 4 from rfl, pk_mul, nI_add, mI7]
    rw [e1, vpI (by omega), nI_clamp (by omega), hf j q]
    refine ⟨by omega, ?_⟩
    rintro x11 rfl x12 rfl
    refine hself _ _ ⟨j + 1, by omega, mI6 j, rfl⟩ ?_
    rw [mI6, nI_clamp (by omega), nI_clamp (by omega)]; omega
theorem q_premC (hR : RM B M) {P : Int32 → Mm → Prop} (h : P (sumI (fun c => B 3 c) (nC B)) M) : wp_X7_premiums (8 : Int32) (rd M 160 0 0) M P := by
  have hc6 := hR.1.c6; have hl4 := hR.1.l4; have he8 := hR.1.e8; have hk24 := hR.1.k24
  rw [hR.n0]
  exact q_premiums hR.1 8 (nC B) _ (by omega) (by omega) (fun i hi => hR.c3 hi) h
theorem q_premL (hR : RM B M) {P : Int32 → Mm → Prop} (h : P (sumI (fun l => B 8 l) (nL B)) M) : wp_X7_premiums (32 : Int32) (rd M 160 0 1) M P := by
  have hc6 := hR.1.c6; have hl4 := hR.1.l4; have he8 := hR.1.e8; have hk24 := hR.1.k24
  rw [hR.n1]
  exact q_premiums hR.1 32 (nL B) _ (by omega) (by omega) (fun i hi => hR.l8 hi) h
theorem q_layerPremiums (hR : RM B M) {P : Int32 → Mm → Prop} (h : ∀ M2, Fm M M2 → P (lprems B) M2) : wp_X7_layerPremiums M P := by
  have hc6 := hR.1.c6; have hl4 := hR.1.l4; have he8 := hR.1.e8; have hk24 := hR.1.k24
  unfold wp_X7_layerPremiums
  refine q_premL hR ?_
  refine lq3_i (fun s x M' => ∃ j, j ≤ nL B ∧ x = nI j ∧ s = sumI (fun l => B 8 l) (nL B) + sumI (rprem B) j ∧ Fm M M') (fun _ x _ => nL B - x.toNatClampNeg) ?_ _ _ _ ⟨0, by omega, rfl, by show _ = _ + (0 : Int32); rw [Int32.add_zero], Fr.rf⟩
  rintro s x M' ⟨j, hj, hx, hs, hF⟩ self hself
  subst hx hs
  have hR' := hR.kept hF
  rw [hR'.n1]
  refine cLe (by omega) (by omega) (fun q => ?_) (fun q => ?_)
  · have : j = nL B := by omega
    subst this
    exact h _ hF
  · refine q_reinstatementPremium hR' q (fun M2 hF2 => ?_)
    rintro x11 rfl x12 rfl
    refine hself _ _ _ ⟨j + 1, by omega, mI6 j, ?_, hF.tr hF2⟩ ?_
    · show _ = _ + (sumI (rprem B) j + rprem B j)
      rw [Int32.add_assoc]
    · rw [mI6, nI_clamp (by omega), nI_clamp (by omega)]; omega
theorem q_overEvents (hR : RM B M) (a : Int32) (f : Nat → Int32) (hf : (a = 0 ∧ f = lossIn B) ∨ (a = 3 ∧ f = burd B) ∨ (¬ a = 0 ∧ ¬ a = 3 ∧ f = retn B)) {P : Int32 → Mm → Prop} (h : ∀ M2, Fm M M2 → P (sumI f (nE B)) M2) : wp_X7_overEvents a M P := by
  have hc6 := hR.1.c6; have hl4 := hR.1.l4; have he8 := hR.1.e8; have hk24 := hR.1.k24
  unfold wp_X7_overEvents
  refine lq3_i (fun s x M' => ∃ j, j ≤ nE B ∧ x = nI j ∧ s = sumI f j ∧ Fm M M') (fun _ x _ => nE B - x.toNatClampNeg) ?_ _ _ _ ⟨0, by omega, rfl, rfl, Fr.rf⟩
  rintro s x M' ⟨j, hj, hx, hs, hF⟩ self hself
  subst hx hs
  have hR' := hR.kept hF
  rw [hR'.n2]
  refine cLe (by omega) (by omega) (fun q => ?_) (fun q => ?_)
  · have : j = nE B := by omega
    subst this
    exact h _ hF
  · have key : ∀ (v : Int32) (M2 : Mm), Fm M' M2 → v = f j → ∀ x11 : Int32, x11 = sumI f j + v → ∀ x12 : Int32, x12 = nI j + (1 : Int32) → self x11 x12 M2 := by
      rintro v M2 hF2 rfl x11 rfl x12 rfl
      refine hself _ _ _ ⟨j + 1, by omega, mI6 j, rfl, hF.tr hF2⟩ ?_
      rw [mI6, nI_clamp (by omega), nI_clamp (by omega)]; omega
    unfold jn
    rcases hf with ⟨rfl, rfl⟩ | ⟨rfl, rfl⟩ | ⟨h1, h2, rfl⟩
    · exact ⟨fun z => absurd rfl z, fun _ => q_lossesIn hR' j (key _ _ Fr.rf rfl)⟩
    · exact ⟨fun _ => ⟨fun z => absurd rfl z, fun _ => q_burdenOf hR' q (fun M2 h2 => key _ _ h2 rfl)⟩, fun z => absurd z (by decide)⟩
    · exact ⟨fun _ => ⟨fun _ => q_retainedOf hR' q (fun M2 h2 => key _ _ h2 rfl), fun z => absurd z h2⟩, fun z => absurd z h1⟩
theorem q_paidFor (hR : RM B M) {k : Nat} (hk : k < nK B) {P : Int32 → Mm → Prop} (h : ∀ M2, Fm M M2 → P (cpay B k) M2) : wp_X7_paidFor (nI k) M P := by
  have hc6 := hR.1.c6; have hl4 := hR.1.l4; have he8 := hR.1.e8; have hk24 := hR.1.k24
  obtain ⟨⟨e, he, h16⟩, ⟨c, hc, h17⟩, -⟩ := hR.1.cl k hk
  have hcp : cpay B k = share (paid B e c) (lsAt B e c) (nK B) k := by unfold cpay; rw [h16, h17, nI_clamp (by omega), nI_clamp (by omega)]
  rw [hcp] at h
  unfold wp_X7_paidFor
  simp (disch := omega) only [mI2, mI6, nI_clamp, vpI, hR.k16 hk, hR.k17 hk, h16, h17]
  refine ⟨by omega, ?_⟩
  rintro x2 rfl
  refine ⟨by omega, ?_⟩
  rintro x4 rfl
  refine q_paidOf hR he hc (fun M1 h1 => ?_)
  refine lq2_i (fun x M' => ∃ j, j ≤ nK B ∧ x = nI j ∧ Fm M M' ∧ ∀ i, i < j → rd M' 172 0 i = lsAt B e c i) (fun x _ => nK B - x.toNatClampNeg) ?_ _ _ ⟨0, by omega, rfl, h1, fun i hi => by omega⟩
  rintro x M' ⟨j, hj, hx, hF, hw⟩ self hself
  subst hx
  have hR' := hR.kept hF
  rw [hR'.n3]
  refine cLe (by omega) (by omega) (fun q => ?_) (fun q => ?_)
  · have : j = nK B := by omega
    subst this
    obtain ⟨p1, p2, p3⟩ := bd_nI (paid_bd hR.1 he hc)
    rw [p1]
    refine q_shareOf (fun i => (lsAt B e c i).toNatClampNeg) (by omega) hk (fun i hi => ?_) (fun i hi => ?_) (by omega) ?_
    · rw [hw i hi]; exact (bd_nI (lsAt_bd hR.1 hi)).1
    · have := (bd_nI (lsAt_bd hR.1 (e := e) (c := c) hi)).2.2
      omega
    · exact h _ hF
  · have key : ∀ v : Int32, v = lsAt B e c j → vp_in (nI j) 24 ∧ ∀ M18 : Mm, M18 = wr M' 172 0 (nI j).toNatClampNeg v → ∀ x20 : Int32, x20 = nI j + (1 : Int32) → self x20 M18 := by
      rintro v rfl
      rw [vpI (by omega), nI_clamp (by omega)]
      refine ⟨by omega, ?_⟩
      rintro M18 rfl x20 rfl
      refine hself _ _ ⟨j + 1, by omega, mI6 j, hF.tr (Fr.wr (by decide)), fun i hi => ?_⟩ ?_
      · by_cases e3 : i = j
        · subst e3; rw [rd_wr_s]
        · rw [rd_wr_n (fun z => e3 z.2.2)]; exact hw i (by omega)
      · rw [mI6, nI_clamp (by omega), nI_clamp (by omega)]; omega
    refine q_isOf hR' q ?_
    unfold jn
    by_cases hb : B 16 j = nI e ∧ B 17 j = nI c
    · rw [if_pos hb]
      exact ⟨fun q3 => absurd q3 (by decide), fun _ => q_lossOf hR' q (key _ (by unfold lsAt; rw [if_pos hb]))⟩
    · rw [if_neg hb]
      exact ⟨fun _ => key 0 (by unfold lsAt; rw [if_neg hb]), fun q3 => absurd rfl q3⟩
end MQ3
