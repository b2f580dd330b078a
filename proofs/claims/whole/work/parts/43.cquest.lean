/-! THE CLASS'S QUESTIONS -/
section CQ
variable {B : Bk} {M : Mm}
theorem y_hasCover (hR : RC B M) {v : Int32} {P : Int32 → Mm → Prop} (h : P (if inR v (nC B) = true then 1 else 0) M) : wp_X0_hasCover 0 v M P := by
  have := hR.1.c6
  unfold wp_X0_hasCover
  rw [hR.n0]
  refine ⟨by decide, y_in ⟨nar01, ?_⟩⟩
  rw [sub1 (by omega)]; exact h
theorem y_hasLayer (hR : RC B M) {v : Int32} {P : Int32 → Mm → Prop} (h : P (if inR v (nL B) = true then 1 else 0) M) : wp_X0_hasLayer 0 v M P := by
  have := hR.1.l4
  unfold wp_X0_hasLayer
  rw [hR.n5]
  refine ⟨by decide, y_in ⟨nar01, ?_⟩⟩
  rw [sub1 (by omega)]; exact h
theorem y_hasEvent (hR : RC B M) {v : Int32} {P : Int32 → Mm → Prop} (h : P (if inR v (nE B) = true then 1 else 0) M) : wp_X0_hasEvent 0 v M P := by
  have := hR.1.e8
  unfold wp_X0_hasEvent
  rw [hR.n12]
  refine ⟨by decide, y_in ⟨nar01, ?_⟩⟩
  rw [sub1 (by omega)]; exact h
theorem y_hasClaim (hR : RC B M) {v : Int32} {P : Int32 → Mm → Prop} (h : P (if inR v (nK B) = true then 1 else 0) M) : wp_X0_hasClaim 0 v M P := by
  have := hR.1.k24
  unfold wp_X0_hasClaim
  rw [hR.n15]
  refine ⟨by decide, y_in ⟨nar01, ?_⟩⟩
  rw [sub1 (by omega)]; exact h
/-- the world behind a reckoning -/
theorem after (hR : RC B M) {M2 : Mm} (h : Fg rY M M2) : RC B M2 := hR.kept h (fun t j q => rY_b q)
def rP (t _k _j : Nat) : Prop := t = 60 ∨ t = 61 ∨ t = 134
theorem rP_Y {M2 : Mm} (h : Fg rP M M2) : Fg rY M M2 := h.mo (fun t k j z => by unfold rP at z; unfold rY; omega)
theorem Tab.kept {M2 : Mm} (h : Tab B M) (hf : Fg rP M M2) : Tab B M2 := by
  have e : ∀ t k j, t ≠ 60 → t ≠ 61 → t ≠ 134 → rd M2 t k j = rd M t k j := fun t k j a b c => hf t k j (fun z => by unfold rP at z; omega)
  obtain ⟨t1, t2, t3, t4, t5, t6, t7⟩ := h
  refine ⟨fun i q => ?_, fun i q => ?_, fun i q => ?_, fun i c q q2 => ?_, fun i q => ?_, fun i q => ?_, fun i q => ?_⟩
  · rw [e _ _ _ (by decide) (by decide) (by decide)]; exact t1 i q
  · rw [e _ _ _ (by decide) (by decide) (by decide)]; exact t2 i q
  · rw [e _ _ _ (by decide) (by decide) (by decide)]; exact t3 i q
  · rw [e _ _ _ (by decide) (by decide) (by decide)]; exact t4 i c q q2
  · obtain ⟨v1, v2, v3, v4⟩ := t5 i q
    refine ⟨fun c hc => ?_, fun l hl => ?_, ?_, ?_⟩
    · rw [e _ _ _ (by decide) (by decide) (by decide), e _ _ _ (by decide) (by decide) (by decide), e _ _ _ (by decide) (by decide) (by decide), e _ _ _ (by decide) (by decide) (by decide)]; exact v1 c hc
    · rw [e _ _ _ (by decide) (by decide) (by decide)]; exact v2 l hl
    · rw [e _ _ _ (by decide) (by decide) (by decide)]; exact v3
    · rw [e _ _ _ (by decide) (by decide) (by decide)]; exact v4
  · rw [e _ _ _ (by decide) (by decide) (by decide)]; exact t6 i q
  · rw [e _ _ _ (by decide) (by decide) (by decide)]; exact t7 i q
theorem y_borneByLayer (hR : RC B M) (hT : Tab B M) {l : Nat} (hl : l < nL B) {P : Int32 → Mm → Prop} (h : P (binall B l) M) : wp_X5_borneByLayer (nI l) M P := by
  have := hR.1.l4
  unfold wp_X5_borneByLayer
  refine y_capacity hR hl ?_
  rw [vpI (by omega), nI_clamp (by omega), hT.2.2.2.2.2.2 l hl]
  exact ⟨by omega, h⟩
theorem y_reinst (hR : RC B M) (hT : Tab B M) {l : Nat} (hl : l < nL B) {P : Int32 → Mm → Prop} (h : P (rein B l) M) : wp_X5_reinstatedAmount (nI l) M P := by
  have := hR.1.l4
  unfold wp_X5_reinstatedAmount
  refine y_borneByLayer hR hT hl ?_
  rw [vpI (by omega), nI_clamp (by omega), hR.l7 hl, hR.l9 hl]
  exact ⟨by omega, h⟩
theorem y_rprem (hR : RC B M) (hT : Tab B M) {l : Nat} (hl : l < nL B) {P : Int32 → Mm → Prop} (h : P (rprem B l) M) : wp_X5_reinstatementPremium (nI l) M P := by
  have := hR.1.l4
  unfold wp_X5_reinstatementPremium
  rw [vpI (by omega), nI_clamp (by omega), hR.l8 hl]
  refine ⟨by omega, y_reinst hR hT hl ?_⟩
  rw [hR.l7 hl]
  rintro x4 rfl
  unfold wp_X6_quotient
  have h7 := (hR.1.lay l hl).2.1.1
  refine ⟨fun q => ?_, fun q => ⟨i64_ne h7, h⟩⟩
  rw [lc_le] at q
  have h2 : (B 7 l).toInt64.toInt = (B 7 l).toInt := Int32.toInt_toInt64 (B 7 l)
  have h3 := Int64.le_iff_toInt_le.mp q
  rw [h2] at h3
  have h4 : (0 : Int64).toInt = 0 := rfl
  omega
theorem c_cover (hR : RC B M) (a w : Int32) {P : Int32 → Mm → Prop} (h : ∀ M2, Fg rY M M2 → P (ansCover B a w) M2) : wp_X6_cover a w M P := by
  have := hR.1.c6
  unfold ansCover at h
  unfold wp_X6_cover
  refine y_hasCover hR (tsw (fun q => ?_) (fun q => ?_))
  rotate_left
  · rw [if_neg (by rw [q]; decide)] at h; exact h _ Fg.rf
  rw [if_pos q] at h
  obtain ⟨c, hc, rfl⟩ := inR_nI q
  refine y_reckon hR (fun M2 g hT => ?_)
  have h := h _ g
  have hR2 := after hR g
  rw [nI_clamp (by omega)] at h
  simp (disch := omega) only [vpI, nI_clamp, hR2.c1 hc, hR2.c2 hc, hR2.c3 hc, hR2.c4 hc, hT.2.2.2.2.2.1 c hc]
  refine ⟨fun z => ?_, fun z => ?_, fun z => ?_, fun z => ?_, fun z => ?_, fun z => ?_, fun n0 n1 n2 n3 n4 n5 => ?_⟩
  · subst z; exact ⟨by omega, h⟩
  · subst z; exact ⟨by omega, h⟩
  · subst z; exact ⟨by omega, h⟩
  · subst z; exact ⟨by omega, h⟩
  · subst z; exact ⟨by omega, h⟩
  · subst z; exact ⟨by omega, h⟩
  · unfold covAns at h
    rw [if_neg n0, if_neg n1, if_neg n2, if_neg n3, if_neg n4, if_neg n5] at h; exact h
theorem c_layer (hR : RC B M) (a w : Int32) {P : Int32 → Mm → Prop} (h : ∀ M2, Fg rY M M2 → P (ansLayer B a w) M2) : wp_X6_layer a w M P := by
  have := hR.1.l4
  unfold ansLayer at h
  unfold wp_X6_layer
  refine y_hasLayer hR (tsw (fun q => ?_) (fun q => ?_))
  rotate_left
  · rw [if_neg (by rw [q]; decide)] at h; exact h _ Fg.rf
  rw [if_pos q] at h
  obtain ⟨c, hc, rfl⟩ := inR_nI q
  refine y_reckon hR (fun M2 g hT => ?_)
  have h := h _ g
  have hR2 := after hR g
  rw [nI_clamp (by omega)] at h
  simp (disch := omega) only [vpI, nI_clamp, hR2.l6 hc, hR2.l7 hc, hR2.l8 hc, hR2.l9 hc, hT.2.2.2.2.2.2 c hc]
  refine ⟨fun z => ?_, fun z => ?_, fun z => ?_, fun z => ?_, fun z => ?_, fun z => ?_, fun z => ?_, fun z => ?_, fun n0 n1 n2 n3 n4 n5 n6 n7 => ?_⟩
  · subst z; exact ⟨by omega, h⟩
  · subst z; exact ⟨by omega, h⟩
  · subst z; exact ⟨by omega, h⟩
  · subst z; exact ⟨by omega, h⟩
  · subst z; exact y_borneByLayer hR2 hT hc h
  · subst z; exact ⟨by omega, h⟩
  · subst z; exact y_reinst hR2 hT hc h
  · subst z; exact y_rprem hR2 hT hc h
  · unfold layAns at h
    rw [if_neg n0, if_neg n1, if_neg n2, if_neg n3, if_neg n4, if_neg n5, if_neg n6, if_neg n7] at h; exact h
theorem c_deductible (hR : RC B M) (a : Int32) {P : Int32 → Mm → Prop} (h : P (ansDed B a) M) : wp_X6_deductible a M P := by
  unfold ansDed at h
  unfold wp_X6_deductible
  refine y_in (tst (fun q => ?_) (fun q => ?_))
  · rw [if_neg (by rw [show inR a 3 = false from q]; decide)] at h; exact h
  · have q : inR a 3 = true := q
    rw [if_pos q] at h
    obtain ⟨g, hg, rfl⟩ := inR_nI q
    rw [nI_clamp (by omega)] at h
    rw [vpI (by omega), nI_clamp (by omega), hR.g hg]
    exact ⟨by omega, h⟩
theorem y_claimsOfEvent (hR : RC B M) (e : Nat) {P : Int32 → Mm → Prop} (h : P (manyC B e) M) : wp_X0_claimsOfEvent 0 (nI e) M P := by
  have := hR.1.k24
  unfold wp_X0_claimsOfEvent
  refine lq2_i (fun s x => ∃ j, j ≤ nK B ∧ x = nI j ∧ s = sumI (fun k => if B 16 k = nI e then 1 else 0) j) (fun _ x => nK B - x.toNatClampNeg) ?_ _ _ ⟨0, by omega, rfl, rfl⟩
  rintro s x ⟨j, hj, hx, hs⟩ self hself
  subst hx hs
  rw [hR.n15]
  refine ⟨by decide, cLe (by omega) (by omega) (fun q => ?_) (fun q => ?_)⟩
  · have : j = nK B := by omega
    subst this
    exact h
  · rw [vpI (by omega), nI_clamp (by omega), hR.k16 q]
    refine ⟨by omega, ?_⟩
    unfold jn
    refine ⟨fun z => ?_, fun z => ?_⟩
    · rintro x11 rfl
      refine hself _ _ ⟨j + 1, by omega, mI6 j, ?_⟩ ?_
      · show _ = sumI _ j + (if B 16 j = nI e then 1 else 0)
        rw [if_neg z, Int32.add_zero]
      · rw [mI6, nI_clamp (by omega), nI_clamp (by omega)]; omega
    · rintro x13 rfl x11 rfl
      refine hself _ _ ⟨j + 1, by omega, mI6 j, ?_⟩ ?_
      · show _ = sumI _ j + (if B 16 j = nI e then 1 else 0)
        rw [if_pos z]
      · rw [mI6, nI_clamp (by omega), nI_clamp (by omega)]; omega
theorem y_lossOfEvent (hR : RC B M) (hT : Tab B M) {e : Nat} (he : e < nE B) {P : Int32 → Mm → Prop} (h : P (lossIn B e) M) : wp_X5_lossOfEvent (nI e) M P := by
  have h8 := hR.1.e8
  have h6 := hR.1.c6
  unfold wp_X5_lossOfEvent
  rw [vpI (by omega), nI_clamp (by omega), hR.n0]
  refine ⟨by omega, y_sumOf (L := 6) ⟨mw324 e (by omega), kt324⟩ lt324 (by omega) (by decide) (lsum B e) (fun c hc => hT.2.2.2.1 e c he hc) ?_⟩
  rw [id_loss1 hR.1]; exact h
theorem Tab.pay (hT : Tab B M) {e : Nat} (he : e < nE B) : ∀ c, c < nC B → rd M 328 e c = paid B e c := fun c hc => ((hT.2.2.2.2.1 e he).1 c hc).2.2.2
theorem c_event (hR : RC B M) (a w : Int32) {P : Int32 → Mm → Prop} (h : ∀ M2, Fg rY M M2 → P (ansEvent B a w) M2) : wp_X6_event a w M P := by
  have := hR.1.e8
  unfold ansEvent at h
  unfold wp_X6_event
  refine y_hasEvent hR (tsw (fun q => ?_) (fun q => ?_))
  rotate_left
  · rw [if_neg (by rw [q]; decide)] at h; exact h _ Fg.rf
  rw [if_pos q] at h
  obtain ⟨e, he, rfl⟩ := inR_nI q
  refine y_reckon hR (fun M2 g hT => ?_)
  have h := h _ g
  have hR2 := after hR g
  obtain ⟨v1, v2, v3, v4⟩ := hT.2.2.2.2.1 e he
  rw [nI_clamp (by omega)] at h
  simp (disch := omega) only [vpI, nI_clamp, hR2.e13 he, hR2.e14 he, v3, v4, hT.1 e he]
  refine ⟨fun z => ?_, fun z => ?_, fun z => ?_, fun z => ?_, fun z => ?_, fun z => ?_, fun z => ?_, fun z => ?_, fun n0 n1 n2 n3 n4 n5 n6 n7 => ?_⟩
  · subst z; exact ⟨by omega, h⟩
  · subst z; exact ⟨by omega, h⟩
  · subst z; exact y_claimsOfEvent hR2 e h
  · subst z; exact y_lossOfEvent hR2 hT he h
  · subst z; exact y_paidForEvent hR2 he (hT.pay he) h
  · subst z; exact ⟨by omega, h⟩
  · subst z; exact ⟨by omega, h⟩
  · subst z; exact ⟨by omega, h⟩
  · unfold evAns at h
    rw [if_neg n0, if_neg n1, if_neg n2, if_neg n3, if_neg n4, if_neg n5, if_neg n6, if_neg n7] at h; exact h
theorem c_eventAt (hR : RC B M) (a : Int32) {P : Int32 → Mm → Prop} (h : ∀ M2, Fg rY M M2 → P (ansEventAt B a) M2) : wp_X6_eventAt a M P := by
  have := hR.1.e8
  unfold ansEventAt at h
  unfold wp_X6_eventAt
  refine y_hasEvent hR (tsw (fun q => ?_) (fun q => ?_))
  rotate_left
  · rw [if_neg (by rw [q]; decide)] at h; exact h _ Fg.rf
  rw [if_pos q] at h
  obtain ⟨p, hp, rfl⟩ := inR_nI q
  refine y_reckon hR (fun M2 g hT => ?_)
  rw [nI_clamp (by omega)] at h
  rw [vpI (by omega), nI_clamp (by omega), hT.2.1 p hp]
  exact ⟨by omega, h _ g⟩
theorem y_isClaimOf (hR : RC B M) {k : Nat} (hk : k < nK B) {a b : Int32} {P : Int32 → Mm → Prop} (h : P (if B 16 k = a ∧ B 17 k = b then 1 else 0) M) : wp_X5_isClaimOf (nI k) a b M P := by
  have := hR.1.k24
  unfold wp_X5_isClaimOf
  rw [vpI (by omega), nI_clamp (by omega), hR.k16 hk, hR.k17 hk]
  refine ⟨by omega, fun q => ?_, fun q => ⟨fun q2 => ?_, fun q2 => ?_⟩⟩
  · rw [if_neg (fun z => q z.1)] at h; exact h
  · rw [if_neg (fun z => q2 z.2)] at h; exact h
  · rw [if_pos ⟨q, q2⟩] at h; exact h
theorem y_payClaims (hR : RC B M) (hT : Tab B M) {e c : Nat} (he : e < nE B) (hc : c < nC B) {P : Mm → Prop} (h : ∀ M2, Fg rP M M2 → (∀ k, k < nK B → ¬ (B 16 k = nI e ∧ B 17 k = nI c) → rd M2 134 0 k = rd M 134 0 k) → (∀ k, k < nK B → B 16 k = nI e → B 17 k = nI c → rd M2 134 0 k = cpay B k) → P M2) : wp_X5_payClaims (nI e) (nI c) M P := by
  have h24 := hR.1.k24
  have h8 := hR.1.e8
  have h6 := hR.1.c6
  unfold wp_X5_payClaims
  refine lq2_i (fun x M' => ∃ i, i ≤ nK B ∧ x = nI i ∧ Fg (fun t _ _ => t = 60) M M' ∧ (∀ k, k < i → rd M' 60 0 k = lsAt B e c k)) (fun x _ => nK B - x.toNatClampNeg) ?_ _ _ ⟨0, by omega, rfl, Fg.rf, fun c q => by omega⟩
  rintro x M' ⟨i, hi, hx, hF, hw⟩ self hself
  subst hx
  have hR' := hR.kept hF (fun t j q z => by omega)
  rw [hR'.n15]
  refine cLe (by omega) (by omega) (fun q => ?_) (fun q => ?_)
  · have : i = nK B := by omega
    subst this
    rw [vpI (by omega), vpI (by omega), nI_clamp (by omega), nI_clamp (by omega), hF 328 e c (by omega), hT.pay he c hc]
    refine ⟨by omega, by omega, by omega, ?_⟩
    obtain ⟨p1, p2, p3⟩ := bd_nI (paid_bd hR.1 he hc)
    have pl := paid_ls hR.1 he hc
    rw [p1]
    refine y_shareOut (fun k => (lsAt B e c k).toNatClampNeg) (by omega) (fun k hk => ?_) (fun k hk => ?_) (by omega) (fun z => by omega) (fun M2 hF2 hsh => ?_)
    · rw [hw k hk]; exact (bd_nI (lsAt_bd hR.1 hk)).1
    · have := (bd_nI (lsAt_bd hR.1 (e := e) (c := c) hk)).2.2
      omega
    have hF12 : Fg rP M M2 := (hF.mo (fun t k j z => Or.inl z)).tr (hF2.mo (fun t k j z => Or.inr (Or.inl z)))
    have hR2 := hR.kept hF12 (fun t j q z => by unfold rP at z; omega)
    refine lq2_i (fun x M3 => ∃ i, i ≤ nK B ∧ x = nI i ∧ Fg (fun t k j => t = 134) M2 M3 ∧ (∀ k, k < i → B 16 k = nI e → B 17 k = nI c → rd M3 134 0 k = cpay B k) ∧ (∀ k, k < nK B → ¬ (B 16 k = nI e ∧ B 17 k = nI c) → rd M3 134 0 k = rd M 134 0 k)) (fun x _ => nK B - x.toNatClampNeg) ?_ _ _ ⟨0, by omega, rfl, Fg.rf, fun c q => by omega, fun k _ _ => by rw [hF2 134 0 k (by omega), hF 134 0 k (by omega)]⟩
    rintro x M3 ⟨i, hi, hx, hF3, ht, hk⟩ self2 hself2
    subst hx
    have hR3 := hR2.kept hF3 (fun t j q z => by omega)
    rw [hR3.n15]
    refine cLe (by omega) (by omega) (fun q2 => ?_) (fun q2 => ?_)
    · have : i = nK B := by omega
      subst this
      exact h _ (hF12.tr (hF3.mo (fun t k j z => Or.inr (Or.inr z)))) hk ht
    · refine y_isClaimOf hR3 q2 ?_
      unfold jn
      by_cases hb : B 16 i = nI e ∧ B 17 i = nI c
      · rw [if_pos hb, vpI (by omega), nI_clamp (by omega)]
        refine ⟨fun q3 => absurd q3 (by decide), fun _ => ⟨by omega, ?_⟩⟩
        rintro M23 rfl x20 rfl
        have hcp : cpay B i = share (paid B e c) (lsAt B e c) (nK B) i := by unfold cpay; rw [hb.1, hb.2, nI_clamp (by omega), nI_clamp (by omega)]
        refine hself2 _ _ ⟨i + 1, by omega, mI6 i, hF3.tr (Fg.w rfl), fun k hk2 h16 h17 => ?_, fun k hk2 hn => ?_⟩ ?_
        · by_cases y : k = i
          · subst y; rw [rd_wr_s, hF3 61 0 k (by omega), hsh k q2, hcp]; rfl
          · rw [rd_wr_n (by omega)]; exact ht k (by omega) h16 h17
        · by_cases y : k = i
          · subst y; exact absurd hb hn
          · rw [rd_wr_n (by omega)]; exact hk k hk2 hn
        · rw [mI6, nI_clamp (by omega), nI_clamp (by omega)]; omega
      · rw [if_neg hb]
        refine ⟨fun _ => ?_, fun q3 => absurd rfl q3⟩
        rintro x20 rfl
        refine hself2 _ _ ⟨i + 1, by omega, mI6 i, hF3, fun k hk2 h16 h17 => ?_, hk⟩ ?_
        · by_cases y : k = i
          · subst y; exact absurd ⟨h16, h17⟩ hb
          · exact ht k (by omega) h16 h17
        · rw [mI6, nI_clamp (by omega), nI_clamp (by omega)]; omega
  · have key : ∀ v : Int32, v = lsAt B e c i → vp_in (nI i) 24 ∧ ∀ M30 : Mm, M30 = wr M' 60 0 (nI i).toNatClampNeg v → ∀ x31 : Int32, x31 = nI i + (1 : Int32) → self x31 M30 := by
      rintro v rfl
      rw [vpI (by omega), nI_clamp (by omega)]
      refine ⟨by omega, ?_⟩
      rintro M30 rfl x31 rfl
      refine hself _ _ ⟨i + 1, by omega, mI6 i, hF.tr (Fg.w rfl), fun k hk => ?_⟩ ?_
      · by_cases y : k = i
        · subst y; rw [rd_wr_s]
        · rw [rd_wr_n (by omega)]; exact hw k (by omega)
      · rw [mI6, nI_clamp (by omega), nI_clamp (by omega)]; omega
    refine y_isClaimOf hR' q ?_
    unfold jn
    by_cases hb : B 16 i = nI e ∧ B 17 i = nI c
    · rw [if_pos hb]
      refine ⟨fun q3 => absurd q3 (by decide), fun _ => ⟨(vpI (by omega)).mpr (by omega), key _ ?_⟩⟩
      rw [nI_clamp (by omega), hF 123 0 i (by omega), hT.2.2.1 i q]
      unfold lsAt
      rw [if_pos hb]
    · rw [if_neg hb]
      exact ⟨fun _ => key 0 (by unfold lsAt; rw [if_neg hb]), fun q3 => absurd rfl q3⟩
theorem y_reason (hR : RC B M) (hT : Tab B M) {k : Nat} (hk : k < nK B) (hp : rd M 134 0 k = cpay B k) {P : Int32 → Mm → Prop} (h : P (reasonB B (B 16 k).toNatClampNeg (B 17 k).toNatClampNeg k) M) : wp_X5_reasonOfClaim (nI k) M P := by
  have h24 := hR.1.k24
  have h8 := hR.1.e8
  have h6 := hR.1.c6
  obtain ⟨⟨e, he, h16⟩, ⟨c, hc, h17⟩, -⟩ := hR.1.cl k hk
  obtain ⟨v1, v2, v3, v4⟩ := hT.2.2.2.2.1 e he
  obtain ⟨w1, w2, w3, w4⟩ := v1 c hc
  rw [h16, h17, nI_clamp (by omega), nI_clamp (by omega)] at h
  unfold reasonB at h
  unfold wp_X5_reasonOfClaim
  rw [vpI (by omega), nI_clamp (by omega), hR.k16 hk, hR.k17 hk, h16, h17, hp]
  refine ⟨by omega, ?_⟩
  rintro x2 rfl x3 rfl
  rw [vpI (by omega), vpI (by omega), nI_clamp (by omega), nI_clamp (by omega), w3, w4]
  refine ⟨fun q => ⟨by omega, by omega, by omega, y_due (by omega) (by omega) ?_⟩, fun q => ⟨by omega, by omega, by omega, fun q2 => ?_, fun q2 => ?_⟩⟩
  · rw [if_neg q] at h
    rw [w1, w2, hT.2.2.2.1 e c he hc]
    refine ⟨fun q2 => ⟨fun q3 => ⟨fun q4 => ?_, fun q4 => ?_⟩, fun q3 => ?_⟩, fun q2 => ?_⟩
    · rw [if_pos (show net B e c ≤ paid B e c from q2), if_pos q3, if_pos q4] at h; exact h
    · rw [if_pos (show net B e c ≤ paid B e c from q2), if_pos q3, if_neg q4] at h; exact h
    · rw [if_pos (show net B e c ≤ paid B e c from q2), if_neg q3] at h; exact h
    · rw [if_neg (show ¬ net B e c ≤ paid B e c from q2)] at h; exact h
  · rw [if_pos q, if_neg q2] at h; exact h
  · rw [if_pos q, if_pos q2] at h; exact h
theorem c_claim (hR : RC B M) (a w : Int32) {P : Int32 → Mm → Prop} (h : ∀ M2, Fg rY M M2 → P (ansClaim B a w) M2) : wp_X6_claim a w M P := by
  have h24 := hR.1.k24
  unfold ansClaim at h
  unfold wp_X6_claim
  refine y_hasClaim hR (tsw (fun q => ?_) (fun q => ?_))
  rotate_left
  · rw [if_neg (by rw [q]; decide)] at h; exact h _ Fg.rf
  rw [if_pos q] at h
  obtain ⟨k, hk, rfl⟩ := inR_nI q
  obtain ⟨⟨e, he, h16⟩, ⟨c, hc, h17⟩, -⟩ := hR.1.cl k hk
  refine y_reckon hR (fun M2 g hT => ?_)
  have hR2 := after hR g
  rw [vpI (by omega), nI_clamp (by omega), hR2.k16 hk, hR2.k17 hk, h16, h17]
  refine ⟨by omega, y_payClaims hR2 hT he hc (fun M3 g3 _ hcp => ?_)⟩
  have h := h _ (g.tr (rP_Y g3))
  have hR3 := after hR2 (rP_Y g3)
  have hT3 := hT.kept g3
  have hp := hcp k hk h16 h17
  rw [nI_clamp (by omega)] at h
  rw [hR3.k16 hk, hR3.k17 hk, hR3.k18 hk, hp, hT3.2.2.1 k hk]
  refine ⟨fun z => ?_, fun z => ?_, fun z => ?_, fun z => ?_, fun z => ?_, fun z => ?_, fun n0 n1 n2 n3 n4 n5 => ?_⟩
  · subst z; exact h
  · subst z; exact h
  · subst z; exact h
  · subst z; exact h
  · subst z; exact h
  · subst z; exact y_reason hR3 hT3 hk hp h
  · unfold clAns at h
    rw [if_neg n0, if_neg n1, if_neg n2, if_neg n3, if_neg n4, if_neg n5] at h; exact h
theorem y_answerOf (hR : RC B M) (t : Nat) (f : Nat → Nat → Int32) (ht : AA (t, 0)) (hl : lenT t = 8) (hl2 : lenT (t + 200) = 6) (hm : ∀ e, e < 8 → IA (t + 200, e)) (hf : ∀ M2, Tab B M2 → ∀ e c, e < nE B → c < nC B → rd M2 (t + 200) e c = f e c) (a b : Int32) {P : Int32 → Mm → Prop} (h : ∀ M2, Fg rY M M2 → P (ansEC f B a b) M2) : wp_X6_answerOf (t, 0) a b M P := by
  have h8 := hR.1.e8
  have h6 := hR.1.c6
  unfold ansEC at h
  unfold wp_X6_answerOf
  refine y_hasEvent hR (tst (fun q => ?_) (fun q => ?_))
  · rw [if_neg (by rw [q]; decide)] at h; exact h _ Fg.rf
  rw [if_pos q] at h
  refine y_hasCover hR (tsw (fun q2 => ?_) (fun q2 => ?_))
  rotate_left
  · rw [if_neg (by rw [q2]; decide)] at h; exact h _ Fg.rf
  rw [if_pos q2] at h
  obtain ⟨e, he, rfl⟩ := inR_nI q
  obtain ⟨c, hc, rfl⟩ := inR_nI q2
  refine y_reckon hR (fun M2 g hT => ?_)
  rw [nI_clamp (by omega), nI_clamp (by omega)] at h
  rw [hl, hl2, vpI (by omega), vpI (by omega), nI_clamp (by omega), nI_clamp (by omega), hf M2 hT e c he hc]
  exact ⟨ht, by omega, hm e (by omega), by omega, h _ g⟩
theorem c_gross (hR : RC B M) (a b : Int32) {P : Int32 → Mm → Prop} (h : ∀ M2, Fg rY M M2 → P (ansEC (gross B) B a b) M2) : wp_X6_gross a b M P := by
  unfold wp_X6_gross
  exact y_answerOf hR 125 (gross B) ⟨mw125 0 (by decide), kt125⟩ lt125 lt325 (fun e he => ⟨mw325 e he, kt325⟩) (fun M2 hT e c he hc => ((hT.2.2.2.2.1 e he).1 c hc).1) a b h
theorem c_deducted (hR : RC B M) (a b : Int32) {P : Int32 → Mm → Prop} (h : ∀ M2, Fg rY M M2 → P (ansEC (ded B) B a b) M2) : wp_X6_deducted a b M P := by
  unfold wp_X6_deducted
  exact y_answerOf hR 126 (ded B) ⟨mw126 0 (by decide), kt126⟩ lt126 lt326 (fun e he => ⟨mw326 e he, kt326⟩) (fun M2 hT e c he hc => ((hT.2.2.2.2.1 e he).1 c hc).2.1) a b h
theorem c_paid (hR : RC B M) (a b : Int32) {P : Int32 → Mm → Prop} (h : ∀ M2, Fg rY M M2 → P (ansEC (paid B) B a b) M2) : wp_X6_paid a b M P := by
  unfold wp_X6_paid
  exact y_answerOf hR 128 (paid B) ⟨mw128 0 (by decide), kt128⟩ lt128 lt328 (fun e he => ⟨mw328 e he, kt328⟩) (fun M2 hT e c he hc => ((hT.2.2.2.2.1 e he).1 c hc).2.2.2) a b h
theorem c_leftBefore (hR : RC B M) (a b : Int32) {P : Int32 → Mm → Prop} (h : ∀ M2, Fg rY M M2 → P (ansEC (fun e c => left B c (pos B e)) B a b) M2) : wp_X6_leftBefore a b M P := by
  unfold wp_X6_leftBefore
  exact y_answerOf hR 127 (fun e c => left B c (pos B e)) ⟨mw127 0 (by decide), kt127⟩ lt127 lt327 (fun e he => ⟨mw327 e he, kt327⟩) (fun M2 hT e c he hc => ((hT.2.2.2.2.1 e he).1 c hc).2.2.1) a b h
theorem c_borne (hR : RC B M) (a b : Int32) {P : Int32 → Mm → Prop} (h : ∀ M2, Fg rY M M2 → P (ansBorne B a b) M2) : wp_X6_borne a b M P := by
  have h8 := hR.1.e8
  have h4 := hR.1.l4
  unfold ansBorne at h
  unfold wp_X6_borne
  refine y_hasEvent hR (tst (fun q => ?_) (fun q => ?_))
  · rw [if_neg (by rw [q]; decide)] at h; exact h _ Fg.rf
  rw [if_pos q] at h
  refine y_hasLayer hR (tsw (fun q2 => ?_) (fun q2 => ?_))
  rotate_left
  · rw [if_neg (by rw [q2]; decide)] at h; exact h _ Fg.rf
  rw [if_pos q2] at h
  obtain ⟨e, he, rfl⟩ := inR_nI q
  obtain ⟨l, hl, rfl⟩ := inR_nI q2
  refine y_reckon hR (fun M2 g hT => ?_)
  rw [nI_clamp (by omega), nI_clamp (by omega)] at h
  rw [vpI (by omega), vpI (by omega), nI_clamp (by omega), nI_clamp (by omega), (hT.2.2.2.2.1 e he).2.1 l hl]
  exact ⟨by omega, by omega, by omega, h _ g⟩
theorem c_place (hR : RC B M) (a : Int32) {P : Int32 → Mm → Prop} (h : ∀ M2, Fg rY M M2 → P (ansPlace B a) M2) : wp_X6_place a M P := by
  have h8 := hR.1.e8
  have h4 := hR.1.l4
  unfold ansPlace at h
  unfold wp_X6_place
  refine y_hasEvent hR (tsw (fun q => ?_) (fun q => ?_))
  rotate_left
  · rw [if_neg (by rw [q]; decide)] at h; exact h _ Fg.rf
  rw [if_pos q] at h
  obtain ⟨e, he, rfl⟩ := inR_nI q
  refine y_reckon hR (fun M2 g hT => ?_)
  have h := h _ g
  have hR2 := after hR g
  rw [nI_clamp (by omega)] at h
  refine lq2_i (fun s x => ∃ j, j ≤ nL B ∧ x = nI j ∧ s = placeN B e j) (fun _ x => nL B - x.toNatClampNeg) ?_ _ _ ⟨0, by omega, rfl, rfl⟩
  rintro s x ⟨j, hj, hx, hs⟩ self hself
  subst hx hs
  rw [hR2.n5]
  refine cLe (by omega) (by omega) (fun q2 => ?_) (fun q2 => ?_)
  · have : j = nL B := by omega
    subst this
    exact h
  · rw [vpI (by omega), vpI (by omega), nI_clamp (by omega), nI_clamp (by omega), (hT.2.2.2.2.1 e he).2.1 j q2]
    have key : ∀ v : Int32, v = placeN B e (j + 1) → ∀ x15 : Int32, x15 = nI j + (1 : Int32) → self v x15 := by
      rintro v rfl x15 rfl
      refine hself _ _ ⟨j + 1, by omega, mI6 j, rfl⟩ ?_
      rw [mI6, nI_clamp (by omega), nI_clamp (by omega)]; omega
    refine ⟨by omega, by omega, by omega, ?_⟩
    unfold jn
    refine ⟨fun q3 => key _ (by show _ = if _ then _ else _; rw [if_pos q3]), fun q3 => ?_⟩
    rintro x18 rfl
    exact key _ (by show _ = if _ then _ else _; rw [if_neg q3, mI6])
theorem c_worst (hR : RC B M) {P : Int32 → Mm → Prop} (h : ∀ M2, Fg rY M M2 → P (ansWorst B) M2) : wp_X6_worst M P := by
  have h8 := hR.1.e8
  unfold ansWorst at h
  unfold wp_X6_worst
  rw [hR.n12, show (0 : Int32) = nI 0 from rfl]
  refine cNe (by omega) (by omega) (fun q => ?_) (fun q => ?_)
  rotate_left
  · rw [if_pos q] at h; exact h _ Fg.rf
  rw [if_neg q] at h
  refine y_reckon hR (fun M2 g hT => ?_)
  have h := h _ g
  have hR2 := after hR g
  rintro x3 rfl
  rw [hT.2.1 0 (by omega)]
  refine lq2_i (fun s x => ∃ j, j + 1 ≤ nE B ∧ x = nI (j + 1) ∧ s = nI (wst B j)) (fun _ x => nE B - x.toNatClampNeg) ?_ _ _ ⟨0, by omega, rfl, rfl⟩
  rintro s x ⟨j, hj, hx, hs⟩ self hself
  subst hx hs
  rw [hR2.n12]
  have hw := wst_lt hR.1 j (by omega)
  refine cLe (by omega) (by omega) (fun q2 => ?_) (fun q2 => ?_)
  · have : nE B - 1 = j := by omega
    rw [this] at h
    exact h
  · obtain ⟨o1, o2⟩ := ordE_lt q2
    rw [vpI (by omega), nI_clamp (by omega), hT.2.1 (j + 1) q2]
    refine ⟨by omega, ?_⟩
    rintro x10 rfl
    rw [vpI (by omega), vpI (by omega), nI_clamp (by omega), nI_clamp (by omega), (hT.2.2.2.2.1 _ o1).2.2.1, (hT.2.2.2.2.1 _ hw).2.2.1]
    have key : ∀ v : Int32, v = nI (wst B (j + 1)) → ∀ x15 : Int32, x15 = nI (j + 1) + (1 : Int32) → self v x15 := by
      rintro v rfl x15 rfl
      refine hself _ _ ⟨j + 1, by omega, mI6 (j + 1), rfl⟩ ?_
      rw [mI6, nI_clamp (by omega), nI_clamp (by omega)]; omega
    refine ⟨by omega, by omega, ?_⟩
    unfold jn
    exact ⟨fun q3 => key _ (by show _ = nI (if _ then _ else _); rw [if_pos q3]), fun q3 => key _ (by show _ = nI (if _ then _ else _); rw [if_neg q3])⟩
end CQ
