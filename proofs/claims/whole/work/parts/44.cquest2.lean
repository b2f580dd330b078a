/-! THE CLASS'S QUESTIONS, those that change the book for a while and those over the whole year -/
section CQ2
variable {B : Bk} {M : Mm}
theorem BookR.set13 {k : Nat} (h : BookR B k M) {e : Nat} {v : Int32} : BookR (setB B 13 e v) k (wr M 33 k e v) := by
  obtain ⟨⟨h0, h5, h12, h15, h11⟩, hg, hc, hl, he, hi⟩ := h
  unfold BookR
  rw [nC_set (by decide), nL_set (by decide), nE_set (by decide), nK_set (by decide)]
  refine ⟨⟨?_, ?_, ?_, ?_, ?_⟩, fun g q => ?_, fun c q => ⟨?_, ?_, ?_, ?_⟩, fun l q => ⟨?_, ?_, ?_, ?_⟩, fun e' q => ⟨?_, ?_⟩, fun i q => ⟨?_, ?_, ?_⟩⟩
  case refine_15 =>
    by_cases z : e' = e
    · subst z; rw [rd_wr_s, setB_s]
    · rw [rd_wr_n (by omega), setB_i z]; exact (he e' q).1
  all_goals rw [rd_wr_n (by omega), setB_f (by decide)]
  all_goals first | assumption | exact hg _ q | exact (hc _ q).1 | exact (hc _ q).2.1 | exact (hc _ q).2.2.1 | exact (hc _ q).2.2.2 | exact (hl _ q).1 | exact (hl _ q).2.1 | exact (hl _ q).2.2.1 | exact (hl _ q).2.2.2 | exact (he _ q).2 | exact (hi _ q).1 | exact (hi _ q).2.1 | exact (hi _ q).2.2
theorem BookR.set14 {k : Nat} (h : BookR B k M) {e : Nat} {v : Int32} : BookR (setB B 14 e v) k (wr M 34 k e v) := by
  obtain ⟨⟨h0, h5, h12, h15, h11⟩, hg, hc, hl, he, hi⟩ := h
  unfold BookR
  rw [nC_set (by decide), nL_set (by decide), nE_set (by decide), nK_set (by decide)]
  refine ⟨⟨?_, ?_, ?_, ?_, ?_⟩, fun g q => ?_, fun c q => ⟨?_, ?_, ?_, ?_⟩, fun l q => ⟨?_, ?_, ?_, ?_⟩, fun e' q => ⟨?_, ?_⟩, fun i q => ⟨?_, ?_, ?_⟩⟩
  case refine_16 =>
    by_cases z : e' = e
    · subst z; rw [rd_wr_s, setB_s]
    · rw [rd_wr_n (by omega), setB_i z]; exact (he e' q).2
  all_goals rw [rd_wr_n (by omega), setB_f (by decide)]
  all_goals first | assumption | exact hg _ q | exact (hc _ q).1 | exact (hc _ q).2.1 | exact (hc _ q).2.2.1 | exact (hc _ q).2.2.2 | exact (hl _ q).1 | exact (hl _ q).2.1 | exact (hl _ q).2.2.1 | exact (hl _ q).2.2.2 | exact (he _ q).1 | exact (hi _ q).1 | exact (hi _ q).2.1 | exact (hi _ q).2.2
theorem fg_back {R : Nat → Nat → Nat → Prop} {M M1 M2 : Mm} {t k j : Nat} {v : Int32} (ht : ¬ R t k j) (h1 : Fg R M M1) (h2 : Fg R (wr M1 t k j v) M2) : Fg R M (wr M2 t k j (rd M1 t k j)) := fun t' k' j' ht' => by
  rw [rd_wr]
  split
  · rename_i q
    obtain ⟨rfl, rfl, rfl⟩ := q
    exact h1 _ _ _ ht
  · rename_i q
    rw [h2 _ _ _ ht', rd_wr_n q]
    exact h1 _ _ _ ht'
/-- the tables say the same of a book that is put back -/
theorem y_part {B2 : Bk} (hR : RC B M) (hT : Tab B2 M) (hnL : nL B2 = nL B) (hnE : nE B2 = nE B) {e l : Nat} (he : e < nE B) (hl : l < nL B + 1) {P : Int32 → Mm → Prop} (h : P (part B2 e l) M) : wp_X5_partOfBurden (nI e) (nI l) M P := by
  have h8 := hR.1.e8
  have h4 := hR.1.l4
  obtain ⟨v1, v2, v3, v4⟩ := hT.2.2.2.2.1 e (by omega)
  unfold part at h
  unfold wp_X5_partOfBurden
  rw [hR.n5]
  refine cLe (by omega) (by omega) (fun q => ?_) (fun q => ?_)
  · rw [if_neg (by omega)] at h
    rw [vpI (by omega), nI_clamp (by omega), v4]
    exact ⟨by omega, h⟩
  · rw [if_pos (by omega)] at h
    rw [vpI (by omega), vpI (by omega), nI_clamp (by omega), nI_clamp (by omega), v2 l (by omega)]
    exact ⟨by omega, by omega, by omega, h⟩
theorem tab_wr {B2 : Bk} (hT : Tab B2 M) {t k j : Nat} {v : Int32} (ht : t < 100) : Tab B2 (wr M t k j v) := by
  obtain ⟨t1, t2, t3, t4, t5, t6, t7⟩ := hT
  refine ⟨fun i q => ?_, fun i q => ?_, fun i q => ?_, fun i c q q2 => ?_, fun i q => ?_, fun i q => ?_, fun i q => ?_⟩
  · rw [rd_wr_n (by omega)]; exact t1 i q
  · rw [rd_wr_n (by omega)]; exact t2 i q
  · rw [rd_wr_n (by omega)]; exact t3 i q
  · rw [rd_wr_n (by omega)]; exact t4 i c q q2
  · obtain ⟨v1, v2, v3, v4⟩ := t5 i q
    refine ⟨fun c hc => ?_, fun l hl => ?_, ?_, ?_⟩
    · rw [rd_wr_n (by omega), rd_wr_n (by omega), rd_wr_n (by omega), rd_wr_n (by omega)]; exact v1 c hc
    · rw [rd_wr_n (by omega)]; exact v2 l hl
    · rw [rd_wr_n (by omega)]; exact v3
    · rw [rd_wr_n (by omega)]; exact v4
  · rw [rd_wr_n (by omega)]; exact t6 i q
  · rw [rd_wr_n (by omega)]; exact t7 i q
theorem c_returned (hR : RC B M) (a b : Int32) {P : Int32 → Mm → Prop} (h : ∀ M2, Fg rY M M2 → P (ansReturned B a b) M2) : wp_X6_returned a b M P := by
  have h8 := hR.1.e8
  have h4 := hR.1.l4
  unfold ansReturned at h
  unfold wp_X6_returned
  refine y_hasEvent hR (tst (fun q => ?_) (fun q => ?_))
  · rw [if_neg (by rw [q]; decide)] at h; exact h _ Fg.rf
  rw [if_pos q] at h
  rw [hR.n5]
  have e0 : (nI (nL B)).toInt = ((nL B + 1 : Nat) : Int) - 1 := by rw [nI_toInt (by omega)]; omega
  refine y_in ?_
  rw [e0]
  refine tsw (fun q2 => ?_) (fun q2 => ?_)
  rotate_left
  · rw [if_neg (by rw [show inR b (nL B + 1) = false from q2]; decide)] at h; exact h _ Fg.rf
  have q2 : inR b (nL B + 1) = true := q2
  rw [if_pos q2] at h
  obtain ⟨e, he, rfl⟩ := inR_nI q
  obtain ⟨l, hl, rfl⟩ := inR_nI q2
  rw [nI_clamp (by omega), nI_clamp (by omega)] at h
  refine y_reckon hR (fun M7 g7 hT7 => ?_)
  have hR7 := after hR g7
  refine y_part hR7 hT7 rfl rfl he hl ?_
  rw [vpI (by omega), nI_clamp (by omega)]
  refine ⟨by omega, ?_⟩
  rintro x11 rfl M12 rfl
  have hR12 : RC (setB B 14 e 0) (wr M7 34 0 e 0) := ⟨hR.1.set14 (bd_0 (by decide)), hR7.2.set14⟩
  refine y_reckon hR12 (fun M13 g13 hT13 => ?_)
  rintro M14 rfl
  have hF : Fg rY M (wr M13 34 0 e (rd M7 34 0 e)) := fg_back (by unfold rY; omega) g7 g13
  exact y_part (after hR hF) (tab_wr hT13 (by decide)) (nL_set (by decide)) (nE_set (by decide)) he hl (h _ hF)
theorem y_sumOfLosses (hR : RC B M) (hT : Tab B M) {P : Int32 → Mm → Prop} (h : P (sumI (lossIn B) (nE B)) M) : wp_X5_sumOfLosses M P := by
  have h24 := hR.1.k24
  unfold wp_X5_sumOfLosses
  rw [hR.n15]
  rw [id_losses hR.1] at h
  exact y_sumOf (L := 24) ⟨mw123 0 (by decide), kt123⟩ lt123 (by omega) (by decide) _ (fun k hk => hT.2.2.1 k hk) h
theorem y_sumOfPayments' {B2 : Bk} (hR : RC B M) (hT : Tab B2 M) (hnC : nC B2 = nC B) (hnE : nE B2 = nE B) {P : Int32 → Mm → Prop} (h : P (sumI (pinall B2) (nC B)) M) : wp_X5_sumOfPayments M P := by
  have h8 := hR.1.e8
  have h6 := hR.1.c6
  rw [← hnC, ← id_paid, hnE] at h
  unfold wp_X5_sumOfPayments
  refine lq3_i (fun s x M' => ∃ j, j ≤ nE B ∧ x = nI j ∧ s = sumI (pall B2) j ∧ M' = M) (fun _ x _ => nE B - x.toNatClampNeg) ?_ _ _ _ ⟨0, by omega, rfl, rfl, rfl⟩
  rintro s x M' ⟨j, hj, hx, hs, hM⟩ self hself
  subst hx hs hM
  rw [hR.n12]
  refine cLe (by omega) (by omega) (fun q => ?_) (fun q => ?_)
  · have : j = nE B := by omega
    subst this
    exact h
  · unfold wp_X5_paidForEvent
    rw [vpI (by omega), nI_clamp (by omega), hR.n0]
    refine ⟨by omega, y_sumOf (L := 6) (row328 (by omega)) lt328 (by omega) (by decide) (paid B2 j) (fun c hc => hT.pay (by omega) c (by omega)) ?_⟩
    rintro x11 rfl x12 rfl
    refine hself _ _ _ ⟨j + 1, by omega, mI6 j, by rw [← hnC]; rfl, rfl⟩ ?_
    rw [mI6, nI_clamp (by omega), nI_clamp (by omega)]; omega
theorem y_sumOfPayments (hR : RC B M) (hT : Tab B M) {P : Int32 → Mm → Prop} (h : P (sumI (pinall B) (nC B)) M) : wp_X5_sumOfPayments M P := y_sumOfPayments' hR hT rfl rfl h
theorem y_sumOfDeductions (hR : RC B M) (hT : Tab B M) {P : Int32 → Mm → Prop} (h : P (sumI (fun e => sumI (ded B e) (nC B)) (nE B)) M) : wp_X5_sumOfDeductions M P := by
  have h8 := hR.1.e8
  have h6 := hR.1.c6
  unfold wp_X5_sumOfDeductions
  refine lq3_i (fun s x M' => ∃ j, j ≤ nE B ∧ x = nI j ∧ s = sumI (fun e => sumI (ded B e) (nC B)) j ∧ M' = M) (fun _ x _ => nE B - x.toNatClampNeg) ?_ _ _ _ ⟨0, by omega, rfl, rfl, rfl⟩
  rintro s x M' ⟨j, hj, hx, hs, hM⟩ self hself
  subst hx hs hM
  rw [hR.n12]
  refine cLe (by omega) (by omega) (fun q => ?_) (fun q => ?_)
  · have : j = nE B := by omega
    subst this
    exact h
  · rw [vpI (by omega), nI_clamp (by omega), hR.n0]
    refine ⟨by omega, y_sumOf (L := 6) ⟨mw326 j (by omega), kt326⟩ lt326 (by omega) (by decide) (ded B j) (fun c hc => ((hT.2.2.2.2.1 j q).1 c hc).2.1) ?_⟩
    rintro x11 rfl x12 rfl
    refine hself _ _ _ ⟨j + 1, by omega, mI6 j, rfl, rfl⟩ ?_
    rw [mI6, nI_clamp (by omega), nI_clamp (by omega)]; omega
theorem y_sumOfBurdens (hR : RC B M) (hT : Tab B M) {P : Int32 → Mm → Prop} (h : P (sumI (burd B) (nE B)) M) : wp_X5_sumOfBurdens M P := by
  have h8 := hR.1.e8
  unfold wp_X5_sumOfBurdens
  rw [hR.n12]
  exact y_sumOf (L := 8) ⟨mw130 0 (by decide), kt130⟩ lt130 (by omega) (by decide) _ (fun e he => (hT.2.2.2.2.1 e he).2.2.1) h
theorem y_sumOfRetained (hR : RC B M) (hT : Tab B M) {P : Int32 → Mm → Prop} (h : P (sumI (retn B) (nE B)) M) : wp_X5_sumOfRetained M P := by
  have h8 := hR.1.e8
  unfold wp_X5_sumOfRetained
  rw [hR.n12]
  exact y_sumOf (L := 8) ⟨mw133 0 (by decide), kt133⟩ lt133 (by omega) (by decide) _ (fun e he => (hT.2.2.2.2.1 e he).2.2.2) h
theorem y_sumOfBorne (hR : RC B M) (hT : Tab B M) {P : Int32 → Mm → Prop} (h : P (sumI (binall B) (nL B)) M) : wp_X5_sumOfBorne M P := by
  have h8 := hR.1.e8
  have h4 := hR.1.l4
  rw [← id_borne] at h
  unfold wp_X5_sumOfBorne
  refine lq3_i (fun s x M' => ∃ j, j ≤ nE B ∧ x = nI j ∧ s = sumI (fun e => sumI (borne B e) (nL B)) j ∧ M' = M) (fun _ x _ => nE B - x.toNatClampNeg) ?_ _ _ _ ⟨0, by omega, rfl, rfl, rfl⟩
  rintro s x M' ⟨j, hj, hx, hs, hM⟩ self hself
  subst hx hs hM
  rw [hR.n12]
  refine cLe (by omega) (by omega) (fun q => ?_) (fun q => ?_)
  · have : j = nE B := by omega
    subst this
    exact h
  · rw [vpI (by omega), nI_clamp (by omega), hR.n5]
    refine ⟨by omega, y_sumOf (L := 4) ⟨mw331 j (by omega), kt331⟩ lt331 (by omega) (by decide) (borne B j) (fun l hl => (hT.2.2.2.2.1 j q).2.1 l hl) ?_⟩
    rintro x11 rfl x12 rfl
    refine hself _ _ _ ⟨j + 1, by omega, mI6 j, rfl, rfl⟩ ?_
    rw [mI6, nI_clamp (by omega), nI_clamp (by omega)]; omega
theorem y_sumOfPrem (hR : RC B M) {P : Int32 → Mm → Prop} (h : P (sumI (fun c => B 3 c) (nC B)) M) : wp_X0_sumOfCoverPremiums 0 M P := by
  have h6 := hR.1.c6
  unfold wp_X0_sumOfCoverPremiums
  rw [hR.n0]
  exact ⟨by decide, y_sumOf (L := 6) ⟨mw23 0 (by decide), kt23⟩ lt23 (by omega) (by decide) _ (fun c hc => hR.c3 hc) h⟩
theorem y_cost (hR : RC B M) (hT : Tab B M) {P : Int32 → Mm → Prop} (h : P (lprems B) M) : wp_X5_costOfLayers M P := by
  have h4 := hR.1.l4
  rw [← id_cost] at h
  unfold wp_X5_costOfLayers
  refine lq3_i (fun s x M' => ∃ j, j ≤ nL B ∧ x = nI j ∧ s = sumI (fun l => B 8 l + rprem B l) j ∧ M' = M) (fun _ x _ => nL B - x.toNatClampNeg) ?_ _ _ _ ⟨0, by omega, rfl, rfl, rfl⟩
  rintro s x M' ⟨j, hj, hx, hs, hM⟩ self hself
  subst hx hs hM
  rw [hR.n5]
  refine cLe (by omega) (by omega) (fun q => ?_) (fun q => ?_)
  · have : j = nL B := by omega
    subst this
    exact h
  · rw [vpI (by omega), nI_clamp (by omega), hR.l8 q]
    refine ⟨by omega, y_rprem hR hT q ?_⟩
    rintro x11 rfl x12 rfl
    refine hself _ _ _ ⟨j + 1, by omega, mI6 j, rfl, rfl⟩ ?_
    rw [mI6, nI_clamp (by omega), nI_clamp (by omega)]; omega
theorem y_layersOne (hR : RC B M) (hT : Tab B M) {P : Int32 → Mm → Prop} (h : P (sumI (binall B) (nL B)) M) : wp_X5_sumOfLayersOneByOne M P := by
  have h4 := hR.1.l4
  unfold wp_X5_sumOfLayersOneByOne
  refine lq3_i (fun s x M' => ∃ j, j ≤ nL B ∧ x = nI j ∧ s = sumI (binall B) j ∧ M' = M) (fun _ x _ => nL B - x.toNatClampNeg) ?_ _ _ _ ⟨0, by omega, rfl, rfl, rfl⟩
  rintro s x M' ⟨j, hj, hx, hs, hM⟩ self hself
  subst hx hs hM
  rw [hR.n5]
  refine cLe (by omega) (by omega) (fun q => ?_) (fun q => ?_)
  · have : j = nL B := by omega
    subst this
    exact h
  · refine y_borneByLayer hR hT q ?_
    rintro x11 rfl x12 rfl
    refine hself _ _ _ ⟨j + 1, by omega, mI6 j, rfl, rfl⟩ ?_
    rw [mI6, nI_clamp (by omega), nI_clamp (by omega)]; omega
theorem y_claimPays (hR : RC B M) (hT : Tab B M) {P : Int32 → Mm → Prop} (h : ∀ M2, Fg rP M M2 → P (sumI (cpay B) (nK B)) M2) : wp_X5_sumOfClaimPayments M P := by
  have h8 := hR.1.e8
  have h6 := hR.1.c6
  have h24 := hR.1.k24
  unfold wp_X5_sumOfClaimPayments
  refine lq2_i (fun x M' => ∃ i, i ≤ nE B ∧ x = nI i ∧ Fg rP M M' ∧ (∀ k e, k < nK B → e < i → B 16 k = nI e → rd M' 134 0 k = cpay B k)) (fun x _ => nE B - x.toNatClampNeg) ?_ _ _ ⟨0, by omega, rfl, Fg.rf, fun k e _ q => by omega⟩
  rintro x M' ⟨i, hi, hx, hF, ht⟩ self hself
  subst hx
  have hR' := after hR (rP_Y hF)
  rw [hR'.n12, hR'.n15]
  refine cLe (by omega) (by omega) (fun q => ?_) (fun q => ?_)
  · have : i = nE B := by omega
    subst this
    refine y_sumOf (L := 24) ⟨mw134 0 (by decide), kt134⟩ lt134 (by omega) (by decide) (cpay B) (fun k hk => ?_) (h _ hF)
    obtain ⟨⟨e, he, h16⟩, -, -⟩ := hR.1.cl k hk
    exact ht k e hk he h16
  · refine lq2_i (fun x M2 => ∃ j, j ≤ nC B ∧ x = nI j ∧ Fg rP M M2 ∧ (∀ k e, k < nK B → e < i → B 16 k = nI e → rd M2 134 0 k = cpay B k) ∧ (∀ k c, k < nK B → c < j → B 16 k = nI i → B 17 k = nI c → rd M2 134 0 k = cpay B k)) (fun x _ => nC B - x.toNatClampNeg) ?_ _ _ ⟨0, by omega, rfl, hF, ht, fun k c _ q => by omega⟩
    rintro x M2 ⟨j, hj, hx, hF2, ht2, hu2⟩ self2 hself2
    subst hx
    have hR2 := after hR (rP_Y hF2)
    rw [hR2.n0]
    refine cLe (by omega) (by omega) (fun q2 => ?_) (fun q2 => ?_)
    · have : j = nC B := by omega
      subst this
      rintro x13 rfl
      refine hself _ _ ⟨i + 1, by omega, mI6 i, hF2, fun k e hk he h16 => ?_⟩ ?_
      · by_cases z : e = i
        · subst z
          obtain ⟨-, ⟨c, hc, h17⟩, -⟩ := hR.1.cl k hk
          exact hu2 k c hk hc h16 h17
        · exact ht2 k e hk (by omega) h16
      · rw [mI6, nI_clamp (by omega), nI_clamp (by omega)]; omega
    · refine y_payClaims hR2 (hT.kept hF2) q q2 (fun M3 g3 h3 h4 => ?_)
      rintro x15 rfl
      refine hself2 _ _ ⟨j + 1, by omega, mI6 j, hF2.tr g3, fun k e hk he h16 => ?_, fun k c hk hc h16 h17 => ?_⟩ ?_
      · rw [h3 k hk (fun z => by have := z.1; rw [h16, nI_eq (by omega) (by omega)] at this; omega)]
        exact ht2 k e hk he h16
      · by_cases z : c = j
        · subst z; exact h4 k hk h16 h17
        · rw [h3 k hk (fun y => by have := y.2; rw [h17, nI_eq (by omega) (by omega)] at this; omega)]
          exact hu2 k c hk (by omega) h16 h17
      · rw [mI6, nI_clamp (by omega), nI_clamp (by omega)]; omega
theorem c_account (hR : RC B M) (w : Int32) {P : Int32 → Mm → Prop} (h : ∀ M2, Fg rY M M2 → P (accAns B w) M2) : wp_X6_account w M P := by
  unfold wp_X6_account
  refine y_reckon hR (fun M2 g hT => ?_)
  have h := h _ g
  have hR2 := after hR g
  refine ⟨fun z => ?_, fun z => ?_, fun z => ?_, fun z => ?_, fun z => ?_, fun z => ?_, fun z => ?_, fun z => ?_, fun z => ?_, fun n0 n1 n2 n3 n4 n5 n6 n7 n8 => ?_⟩
  · subst z; exact y_sumOfLosses hR2 hT h
  · subst z; exact y_sumOfPayments hR2 hT h
  · subst z; exact y_sumOfDeductions hR2 hT h
  · subst z; exact y_sumOfBurdens hR2 hT h
  · subst z; exact y_sumOfBorne hR2 hT h
  · subst z; exact y_sumOfRetained hR2 hT h
  · subst z; exact y_sumOfPrem hR2 h
  · subst z; exact y_cost hR2 hT h
  · subst z; exact y_sumOfLosses hR2 hT (y_sumOfPayments hR2 hT h)
  · unfold accAns at h
    rw [if_neg n0, if_neg n1, if_neg n2, if_neg n3, if_neg n4, if_neg n5, if_neg n6, if_neg n7, if_neg n8] at h; exact h
theorem c_result (hR : RC B M) {P : Int32 → Mm → Prop} (h : ∀ M2, Fg rY M M2 → P (ansResult B) M2) : wp_X6_result M P := by
  unfold wp_X6_result
  refine y_reckon hR (fun M2 g hT => ?_)
  have hR2 := after hR g
  exact y_sumOfPrem hR2 (y_cost hR2 hT (y_sumOfRetained hR2 hT (h _ g)))
theorem c_ratioBits (hR : RC B M) {P : Int32 → Mm → Prop} (h : ∀ M2, Fg rY M M2 → P (ansRatio B) M2) : wp_X6_ratioBits M P := by
  have hp := prem_bd hR.1
  unfold ansRatio at h
  unfold wp_X6_ratioBits
  refine y_sumOfPrem hR ⟨fun q => ?_, fun q => ?_⟩
  · have hne : ¬ sumI (fun c => B 3 c) (nC B) = 0 := fun z => by rw [z] at q; exact absurd q (by decide)
    rw [if_neg hne] at h
    refine y_reckon hR (fun M2 g hT => ?_)
    refine y_sumOfPayments (after hR g) hT ?_
    exact ⟨(fp_b (allp_bd hR.1) (prem_1 hR.1 hne)).1, fp_bits (allp_bd hR.1) (prem_1 hR.1 hne) (h _ g)⟩
  · have he : sumI (fun c => B 3 c) (nC B) = 0 := by
      rw [i32_lt] at q
      rw [i32_eq]
      have h0 : (0 : Int32).toInt = 0 := rfl
      have := hp.1
      omega
    rw [if_pos he] at h
    exact h _ Fg.rf
theorem c_isBalanced (hR : RC B M) {P : Int32 → Mm → Prop} (h : ∀ M2, Fg rY M M2 → P (ansBal B) M2) : wp_X6_isBalanced M P := by
  unfold ansBal at h
  unfold wp_X6_isBalanced
  refine y_reckon hR (fun M1 g1 hT1 => ?_)
  have hR1 := after hR g1
  refine y_sumOfPayments hR1 hT1 (y_claimPays hR1 hT1 (fun M2 g2 => ?_))
  have hT2 := hT1.kept g2
  have hR2 := after hR1 (rP_Y g2)
  have h := h _ (g1.tr (rP_Y g2))
  unfold jn
  have k3 : ∀ v6 v15 : Int32, (v6 = 0 ∨ v6 = 1) → (v15 = 0 ∨ v15 = 1) → (v6 = 0 ∨ v15 = 0 → P 0 M2) → (¬ v6 = 0 → ¬ v15 = 0 → P (if sumI (lossIn B) (nE B) < sumI (pinall B) (nC B) + sumI (fun e => sumI (ded B e) (nC B)) (nE B) then 0 else 1) M2) → wp_X5_sumOfDeductions M2 (fun (r19 : Int32) (M18 : Mm) => (wp_X5_sumOfLosses M18 (fun (r21 : Int32) (M20 : Mm) => (r21 < sumI (pinall B) (nC B) + r19 → (v6 = 0 → P (0 : Int32) M20) ∧ (¬ v6 = 0 → ((v15 = 0 → P (0 : Int32) M20) ∧ (¬ v15 = 0 → (((0 : Int32) = 0 → P (0 : Int32) M20) ∧ (¬ (0 : Int32) = 0 → P (1 : Int32) M20)))))) ∧ (¬ r21 < sumI (pinall B) (nC B) + r19 → (v6 = 0 → P (0 : Int32) M20) ∧ (¬ v6 = 0 → ((v15 = 0 → P (0 : Int32) M20) ∧ (¬ v15 = 0 → (((1 : Int32) = 0 → P (0 : Int32) M20) ∧ (¬ (1 : Int32) = 0 → P (1 : Int32) M20))))))))) := by
    intro v6 v15 a1 a2 b1 b2
    refine y_sumOfDeductions hR2 hT2 (y_sumOfLosses hR2 hT2 ⟨fun q => ⟨fun z => b1 (Or.inl z), fun z => ⟨fun z2 => b1 (Or.inr z2), fun z2 => ⟨fun _ => ?_, fun y => absurd rfl y⟩⟩⟩, fun q => ⟨fun z => b1 (Or.inl z), fun z => ⟨fun z2 => b1 (Or.inr z2), fun z2 => ⟨fun y => absurd y (by decide), fun _ => ?_⟩⟩⟩⟩)
    · have := b2 z z2
      rw [if_pos q] at this
      exact this
    · have := b2 z z2
      rw [if_neg q] at this
      exact this
  refine ⟨fun q => ?_, fun q => ?_⟩
  · rw [if_neg q] at h
    refine y_layersOne hR2 hT2 (y_sumOfRetained hR2 hT2 (y_sumOfBurdens hR2 hT2 ⟨fun _ => ?_, fun _ => ?_⟩))
    · exact k3 0 0 (Or.inl rfl) (Or.inl rfl) (fun _ => h) (fun z => absurd rfl z)
    · exact k3 0 1 (Or.inl rfl) (Or.inr rfl) (fun _ => h) (fun z => absurd rfl z)
  · rw [if_pos q] at h
    refine y_layersOne hR2 hT2 (y_sumOfRetained hR2 hT2 (y_sumOfBurdens hR2 hT2 ⟨fun q2 => ?_, fun q2 => ?_⟩))
    · rw [if_neg q2] at h
      exact k3 1 0 (Or.inr rfl) (Or.inl rfl) (fun _ => h) (fun _ z => absurd rfl z)
    · rw [if_pos q2] at h
      exact k3 1 1 (Or.inr rfl) (Or.inr rfl) (fun z => by rcases z with z | z <;> exact absurd z (by decide)) (fun _ _ => h)
theorem c_paidIf (hR : RC B M) (a d : Int32) {P : Int32 → Mm → Prop} (h : ∀ M2, Fg rY M M2 → P (ansPaidIf B a d) M2) : wp_X6_paidIf a d M P := by
  have h8 := hR.1.e8
  unfold ansPaidIf at h
  unfold wp_X6_paidIf
  refine y_hasEvent hR (tsw (fun q => ?_) (fun q => ?_))
  rotate_left
  · rw [if_neg (by rw [q]; decide)] at h; exact h _ Fg.rf
  rw [if_pos q] at h
  refine y_in (tsw (fun q2 => ?_) (fun q2 => ?_))
  rotate_left
  · rw [if_neg (by rw [show inb d 0 364 = false from q2]; decide)] at h; exact h _ Fg.rf
  have q2 : inb d 0 364 = true := q2
  rw [if_pos q2] at h
  obtain ⟨e, he, rfl⟩ := inR_nI q
  rw [nI_clamp (by omega)] at h
  rw [vpI (by omega), nI_clamp (by omega)]
  refine ⟨by omega, ?_⟩
  rintro x8 rfl M9 rfl
  have hR9 : RC (setB B 13 e d) (wr M 33 0 e d) := ⟨hR.1.set13 (inb_t.mp q2), hR.2.set13⟩
  refine y_reckon hR9 (fun M10 g hT => ?_)
  rintro M11 rfl
  have hF : Fg rY M (wr M10 33 0 e (rd M 33 0 e)) := fg_back (by unfold rY; omega) Fg.rf g
  exact y_sumOfPayments' (after hR hF) (tab_wr hT (by decide)) (nC_set (by decide)) (nE_set (by decide)) (h _ hF)
theorem c_leastLimit (hR : RC B M) (a : Int32) {P : Int32 → Mm → Prop} (h : ∀ M2, Fg rY M M2 → P (ansLeast B a) M2) : wp_X6_leastLimit a M P := by
  have h8 := hR.1.e8
  have h6 := hR.1.c6
  unfold ansLeast at h
  unfold wp_X6_leastLimit
  refine y_hasCover hR (tsw (fun q => ?_) (fun q => ?_))
  rotate_left
  · rw [if_neg (by rw [q]; decide)] at h; exact h _ Fg.rf
  rw [if_pos q] at h
  obtain ⟨c, hc, rfl⟩ := inR_nI q
  refine y_reckon hR (fun M2 g hT => ?_)
  have h := h _ g
  have hR2 := after hR g
  rw [nI_clamp (by omega), mn_comm] at h
  unfold wp_X5_claimedFromCover
  refine lq3_i (fun s x M' => ∃ j, j ≤ nE B ∧ x = nI j ∧ s = sumI (fun e => net B e c) j ∧ M' = M2) (fun _ x _ => nE B - x.toNatClampNeg) ?_ _ _ _ ⟨0, by omega, rfl, rfl, rfl⟩
  rintro s x M' ⟨j, hj, hx, hs, hM⟩ self hself
  subst hx hs hM
  rw [hR2.n12]
  refine cLe (by omega) (by omega) (fun q => ?_) (fun q => ?_)
  · have : j = nE B := by omega
    subst this
    exact h
  · refine y_due (by omega) (by omega) ?_
    obtain ⟨w1, w2, w3, w4⟩ := (hT.2.2.2.2.1 j q).1 c hc
    rw [w1, w2]
    rintro x11 rfl x12 rfl
    refine hself _ _ _ ⟨j + 1, by omega, mI6 j, rfl, rfl⟩ ?_
    rw [mI6, nI_clamp (by omega), nI_clamp (by omega)]; omega
end CQ2
