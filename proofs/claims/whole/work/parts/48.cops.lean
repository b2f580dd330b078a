/-! THE STEPS of the class's book -/
section CBO
variable {B : Bk} {M : Mm}
theorem nI_p {n : Nat} (h : 0 < n) (h2 : n < 2 ^ 30) : nI n - (1 : Int32) = nI (n - 1) := by rw [show (1 : Int32) = nI 1 from rfl, pk_sub (by omega)]
theorem us_set {f i : Nat} {v : Int32} (h : f ≠ 0 ∧ f ≠ 5 ∧ f ≠ 12 ∧ f ≠ 15) : us (setB B f i v) = us B := by
  unfold us
  rw [nC_set h.1, nL_set h.2.1, nE_set h.2.2.1, nK_set h.2.2.2]
theorem ag_set {V V1 : Bk} {f i : Nat} {v : Int32} (h : Agr (us B) B V) (hf : f ≠ 0 ∧ f ≠ 5 ∧ f ≠ 12 ∧ f ≠ 15) (h1 : ∀ f' i', lg f' i' → V1 f' i' = setB V f i v f' i') : Agr (us (setB B f i v)) (setB B f i v) V1 := by
  rw [us_set hf]
  exact (h.w h1).mo (fun _ _ _ hu => Or.inl hu)
theorem y_endOfLayers (hR : RC B M) {P : Int32 → Mm → Prop} (h : P (endL B) M) : wp_X0_endOfLayers 0 M P := by
  have hc6 := hR.1.c6; have hl4 := hR.1.l4; have he8 := hR.1.e8; have hk24 := hR.1.k24
  unfold endL at h
  unfold wp_X0_endOfLayers
  refine ⟨by decide, ?_⟩
  rw [hR.n5, show (0 : Int32) = nI 0 from rfl]
  refine cNe (by omega) (by omega) (fun q => ?_) (fun q => ?_)
  · rw [if_neg q] at h
    rw [show (1 : Int32) = nI 1 from rfl, pk_sub (by omega), vpI (by omega), nI_clamp (by omega), hR.l6 (by omega), hR.l7 (by omega)]
    exact ⟨by omega, h⟩
  · rw [if_pos q] at h; exact h

theorem y_insertLayer (hR : RC B M) (a b c d : Int32) {P : Int32 → Mm → Prop} (h : ∀ M2, Fg rB M M2 → RC (insL B a b c d).2 M2 → P (insL B a b c d).1 M2) : wp_X0_insertLayer 0 a b c d M P := by
  have hc6 := hR.1.c6; have hl4 := hR.1.l4; have he8 := hR.1.e8; have hk24 := hR.1.k24
  unfold insL at h
  unfold wp_X0_insertLayer
  refine y_in (tst (fun q1 => ?_) (fun q1 => ?_))
  · rw [if_neg (by rw [show inb a 0 999999 = false from q1]; decide)] at h; exact h _ Fg.rf hR
  rw [if_pos (show inb a 0 999999 = true from q1)] at h
  refine y_in (tst (fun q2 => ?_) (fun q2 => ?_))
  · rw [if_neg (by rw [show inb b 1 99999 = false from q2]; decide)] at h; exact h _ Fg.rf hR
  rw [if_pos (show inb b 1 99999 = true from q2)] at h
  refine y_in (tst (fun q3 => ?_) (fun q3 => ?_))
  · rw [if_neg (by rw [show inb c 0 99999 = false from q3]; decide)] at h; exact h _ Fg.rf hR
  rw [if_pos (show inb c 0 99999 = true from q3)] at h
  refine y_in (tsw (fun q4 => ?_) (fun q4 => ?_))
  rotate_left
  · rw [if_neg (by rw [show inb d 0 3 = false from q4]; decide)] at h; exact h _ Fg.rf hR
  rw [if_pos (show inb d 0 3 = true from q4)] at h
  refine ⟨by decide, y_endOfLayers hR ⟨fun q8 => ?_, fun q8 => ?_⟩⟩
  rotate_left
  · rw [if_neg q8] at h; exact h _ Fg.rf hR
  rw [if_pos q8] at h
  rw [hR.n5, show (4 : Int32) = nI 4 from rfl]
  refine cLt (by omega) (by omega) (fun q9 => ?_) (fun q9 => ?_)
  rotate_left
  · rw [if_neg (by omega)] at h; exact h _ Fg.rf hR
  rw [if_pos q9] at h
  rw [vpI (by omega), nI_clamp (by omega)]
  have e0 := hR.n5
  refine ⟨by omega, ?_⟩
  rintro M1 rfl
  have e1 := rdk (t' := 26) (k' := 0) (i := nL B) (v := a) e0 (by decide)
  rw [e1, vpI (by omega), nI_clamp (by omega)]
  refine ⟨by omega, ?_⟩
  rintro M1 rfl
  have e2 := rdk (t' := 27) (k' := 0) (i := nL B) (v := b) e1 (by decide)
  rw [e2, vpI (by omega), nI_clamp (by omega)]
  refine ⟨by omega, ?_⟩
  rintro M1 rfl
  have e3 := rdk (t' := 28) (k' := 0) (i := nL B) (v := c) e2 (by decide)
  rw [e3, vpI (by omega), nI_clamp (by omega)]
  refine ⟨by omega, ?_⟩
  rintro M1 rfl
  have e4 := rdk (t' := 29) (k' := 0) (i := nL B) (v := d) e3 (by decide)
  rw [e4]
  rintro M1 rfl
  rw [mI6, rd_wr_s, nI_m1 (by omega)]
  have hW := hR.1.putL rfl q9 (inb_t.mp q1) (inb_t.mp q2) (inb_t.mp q3) (inb_t.mp q4)
  refine h _ (fun t k j hn => ?_) ⟨hW, (ag_putL rfl q9 hR.ag (vC_a (by decide) (by decide)) (vC_a (by decide) (by decide)) (vC_a (by decide) (by decide)) (vC_a (by decide) (by decide)) (vC_s (by decide))).bk hW⟩
  unfold rB at hn
  rw [rd_wr_n (by omega), rd_wr_n (by omega), rd_wr_n (by omega), rd_wr_n (by omega), rd_wr_n (by omega)]

theorem y_insertEvent (hR : RC B M) (a : Int32) {P : Int32 → Mm → Prop} (h : ∀ M2, Fg rB M M2 → RC (insE B a).2 M2 → P (insE B a).1 M2) : wp_X0_insertEvent 0 a M P := by
  have hc6 := hR.1.c6; have hl4 := hR.1.l4; have he8 := hR.1.e8; have hk24 := hR.1.k24
  unfold insE at h
  unfold wp_X0_insertEvent
  refine y_in (tsw (fun q1 => ?_) (fun q1 => ?_))
  rotate_left
  · rw [if_neg (by rw [show inb a 0 364 = false from q1]; decide)] at h; exact h _ Fg.rf hR
  rw [if_pos (show inb a 0 364 = true from q1)] at h
  refine ⟨by decide, ?_⟩
  rw [hR.n12, show (8 : Int32) = nI 8 from rfl]
  refine cLt (by omega) (by omega) (fun q9 => ?_) (fun q9 => ?_)
  rotate_left
  · rw [if_neg (by omega)] at h; exact h _ Fg.rf hR
  rw [if_pos q9] at h
  rw [vpI (by omega), nI_clamp (by omega)]
  have e0 := hR.n12
  refine ⟨by omega, ?_⟩
  rintro M1 rfl
  have e1 := rdk (t' := 33) (k' := 0) (i := nE B) (v := a) e0 (by decide)
  rw [e1, vpI (by omega), nI_clamp (by omega)]
  refine ⟨by omega, ?_⟩
  rintro M1 rfl
  have e2 := rdk (t' := 34) (k' := 0) (i := nE B) (v := 0) e1 (by decide)
  rw [e2]
  rintro M1 rfl
  rw [mI6, rd_wr_s, nI_m1 (by omega)]
  have hW := hR.1.putE rfl q9 (inb_t.mp q1)
  refine h _ (fun t k j hn => ?_) ⟨hW, (ag_putE rfl q9 hR.ag (vC_a (by decide) (by decide)) (vC_a (by decide) (by decide)) (vC_s (by decide))).bk hW⟩
  unfold rB at hn
  rw [rd_wr_n (by omega), rd_wr_n (by omega), rd_wr_n (by omega)]

theorem y_insertClaim (hR : RC B M) (a b c : Int32) {P : Int32 → Mm → Prop} (h : ∀ M2, Fg rB M M2 → RC (insK B a b c).2 M2 → P (insK B a b c).1 M2) : wp_X0_insertClaim 0 a b c M P := by
  have hc6 := hR.1.c6; have hl4 := hR.1.l4; have he8 := hR.1.e8; have hk24 := hR.1.k24
  unfold insK at h
  unfold wp_X0_insertClaim
  refine ⟨by decide, ?_⟩
  refine y_hasEvent hR (tst (fun q1 => ?_) (fun q1 => ?_))
  · rw [if_neg (by rw [show inR a (nE B) = false from q1]; decide)] at h; exact h _ Fg.rf hR
  rw [if_pos (show inR a (nE B) = true from q1)] at h
  refine y_hasCover hR (tsw (fun q2 => ?_) (fun q2 => ?_))
  rotate_left
  · rw [if_neg (by rw [show inR b (nC B) = false from q2]; decide)] at h; exact h _ Fg.rf hR
  rw [if_pos (show inR b (nC B) = true from q2)] at h
  refine y_in (tsw (fun q3 => ?_) (fun q3 => ?_))
  rotate_left
  · rw [if_neg (by rw [show inb c 1 99999 = false from q3]; decide)] at h; exact h _ Fg.rf hR
  rw [if_pos (show inb c 1 99999 = true from q3)] at h
  rw [hR.n15, show (24 : Int32) = nI 24 from rfl]
  refine cLt (by omega) (by omega) (fun q9 => ?_) (fun q9 => ?_)
  rotate_left
  · rw [if_neg (by omega)] at h; exact h _ Fg.rf hR
  rw [if_pos q9] at h
  rw [vpI (by omega), nI_clamp (by omega)]
  have e0 := hR.n15
  refine ⟨by omega, ?_⟩
  rintro M1 rfl
  have e1 := rdk (t' := 36) (k' := 0) (i := nK B) (v := a) e0 (by decide)
  rw [e1, vpI (by omega), nI_clamp (by omega)]
  refine ⟨by omega, ?_⟩
  rintro M1 rfl
  have e2 := rdk (t' := 37) (k' := 0) (i := nK B) (v := b) e1 (by decide)
  rw [e2, vpI (by omega), nI_clamp (by omega)]
  refine ⟨by omega, ?_⟩
  rintro M1 rfl
  have e3 := rdk (t' := 38) (k' := 0) (i := nK B) (v := c) e2 (by decide)
  rw [e3]
  rintro M1 rfl
  rw [mI6, rd_wr_s, nI_m1 (by omega)]
  have hW := hR.1.putK rfl q9 (inR_nI q1) (inR_nI q2) (inb_t.mp q3)
  refine h _ (fun t k j hn => ?_) ⟨hW, (ag_putK rfl q9 hR.ag (vC_a (by decide) (by decide)) (vC_a (by decide) (by decide)) (vC_a (by decide) (by decide)) (vC_s (by decide))).bk hW⟩
  unfold rB at hn
  rw [rd_wr_n (by omega), rd_wr_n (by omega), rd_wr_n (by omega), rd_wr_n (by omega)]


theorem y_changeDay (hR : RC B M) (a d : Int32) {P : Int32 → Mm → Prop} (h : ∀ M2, Fg rB M M2 → RC (chDay B a d).2 M2 → P (chDay B a d).1 M2) : wp_X0_changeDay 0 a d M P := by
  have hc6 := hR.1.c6; have hl4 := hR.1.l4; have he8 := hR.1.e8; have hk24 := hR.1.k24
  unfold chDay at h
  unfold wp_X0_changeDay
  refine ⟨by decide, ?_⟩
  refine y_hasEvent hR (tsw (fun q1 => ?_) (fun q1 => ?_))
  rotate_left
  · rw [if_neg (by rw [show inR a (nE B) = false from q1]; decide)] at h; exact h _ Fg.rf hR
  rw [if_pos (show inR a (nE B) = true from q1)] at h
  refine y_in (tsw (fun q2 => ?_) (fun q2 => ?_))
  rotate_left
  · rw [if_neg (by rw [show inb d 0 364 = false from q2]; decide)] at h; exact h _ Fg.rf hR
  rw [if_pos (show inb d 0 364 = true from q2)] at h
  have q1 : inR a (nE B) = true := q1
  obtain ⟨e, he, rfl⟩ := inR_nI q1
  rw [nI_clamp (by omega)] at h
  rw [vpI (by omega), nI_clamp (by omega)]
  refine ⟨by omega, ?_⟩
  rintro x9 rfl M10 rfl
  rw [hR.e13 he]
  have hW := hR.1.set13 (e := e) (inb_t.mp q2)
  refine h _ (fun t k j hn => ?_) ⟨hW, (ag_set hR.ag (by decide) (vC_a (by decide) (by decide))).bk hW⟩
  unfold rB at hn
  rw [rd_wr_n (by omega)]

theorem y_changeRecovery (hR : RC B M) (a d : Int32) {P : Int32 → Mm → Prop} (h : ∀ M2, Fg rB M M2 → RC (chRec B a d).2 M2 → P (chRec B a d).1 M2) : wp_X0_changeRecovery 0 a d M P := by
  have hc6 := hR.1.c6; have hl4 := hR.1.l4; have he8 := hR.1.e8; have hk24 := hR.1.k24
  unfold chRec at h
  unfold wp_X0_changeRecovery
  refine ⟨by decide, ?_⟩
  refine y_hasEvent hR (tsw (fun q1 => ?_) (fun q1 => ?_))
  rotate_left
  · rw [if_neg (by rw [show inR a (nE B) = false from q1]; decide)] at h; exact h _ Fg.rf hR
  rw [if_pos (show inR a (nE B) = true from q1)] at h
  refine y_in (tsw (fun q2 => ?_) (fun q2 => ?_))
  rotate_left
  · rw [if_neg (by rw [show inb d 0 999999 = false from q2]; decide)] at h; exact h _ Fg.rf hR
  rw [if_pos (show inb d 0 999999 = true from q2)] at h
  have q1 : inR a (nE B) = true := q1
  obtain ⟨e, he, rfl⟩ := inR_nI q1
  rw [nI_clamp (by omega)] at h
  rw [vpI (by omega), nI_clamp (by omega)]
  refine ⟨by omega, ?_⟩
  rintro x9 rfl M10 rfl
  rw [hR.e14 he]
  have hW := hR.1.set14 (e := e) (inb_t.mp q2)
  refine h _ (fun t k j hn => ?_) ⟨hW, (ag_set hR.ag (by decide) (vC_a (by decide) (by decide))).bk hW⟩
  unfold rB at hn
  rw [rd_wr_n (by omega)]

theorem y_changeDeductible (hR : RC B M) (a d : Int32) {P : Int32 → Mm → Prop} (h : ∀ M2, Fg rB M M2 → RC (chDed B a d).2 M2 → P (chDed B a d).1 M2) : wp_X0_changeDeductible 0 a d M P := by
  have hc6 := hR.1.c6; have hl4 := hR.1.l4; have he8 := hR.1.e8; have hk24 := hR.1.k24
  unfold chDed at h
  unfold wp_X0_changeDeductible
  refine y_in (tsw (fun q1 => ?_) (fun q1 => ?_))
  rotate_left
  · rw [if_neg (by rw [show inR a 3 = false from q1]; decide)] at h; exact h _ Fg.rf hR
  rw [if_pos (show inR a 3 = true from q1)] at h
  refine y_in (tsw (fun q2 => ?_) (fun q2 => ?_))
  rotate_left
  · rw [if_neg (by rw [show inb d 0 99999 = false from q2]; decide)] at h; exact h _ Fg.rf hR
  rw [if_pos (show inb d 0 99999 = true from q2)] at h
  refine ⟨by decide, ?_⟩
  have q1 : inR a (3) = true := q1
  obtain ⟨e, he, rfl⟩ := inR_nI q1
  rw [nI_clamp (by omega)] at h
  rw [vpI (by omega), nI_clamp (by omega)]
  refine ⟨by omega, ?_⟩
  rintro x9 rfl M10 rfl
  rw [hR.g he]
  have hW := hR.1.set10 (g := e) (inb_t.mp q2)
  refine h _ (fun t k j hn => ?_) ⟨hW, (ag_set hR.ag (by decide) (vC_a (by decide) (by decide))).bk hW⟩
  unfold rB at hn
  rw [rd_wr_n (by omega)]

theorem y_changeRate (hR : RC B M) (d : Int32) {P : Int32 → Mm → Prop} (h : ∀ M2, Fg rB M M2 → RC (chRate B d).2 M2 → P (chRate B d).1 M2) : wp_X0_changeRate 0 d M P := by
  have hc6 := hR.1.c6; have hl4 := hR.1.l4; have he8 := hR.1.e8; have hk24 := hR.1.k24
  unfold chRate at h
  unfold wp_X0_changeRate
  refine y_in (tsw (fun q1 => ?_) (fun q1 => ?_))
  rotate_left
  · rw [if_neg (by rw [show inb d 0 100 = false from q1]; decide)] at h; exact h _ Fg.rf hR
  rw [if_pos (show inb d 0 100 = true from q1)] at h
  refine ⟨by decide, ?_⟩
  rintro x9 rfl M10 rfl
  rw [hR.n11]
  have hW := hR.1.set11 (inb_t.mp q1)
  refine h _ (fun t k j hn => ?_) ⟨hW, (ag_set hR.ag (by decide) (vC_s (by decide))).bk hW⟩
  unfold rB at hn
  rw [rd_wr_n (by omega)]

theorem y_dropClaim (hR : RC B M) (a : Int32) {P : Int32 → Mm → Prop} (h : ∀ M2, Fg rB M M2 → RC (rmK B a).2 M2 → P (rmK B a).1 M2) : wp_X0_dropClaim 0 a M P := by
  have hc6 := hR.1.c6; have hl4 := hR.1.l4; have he8 := hR.1.e8; have hk24 := hR.1.k24
  unfold rmK at h
  unfold wp_X0_dropClaim
  refine ⟨by decide, ?_⟩
  refine y_hasClaim hR (tsw (fun q1 => ?_) (fun q1 => ?_))
  rotate_left
  · rw [if_neg (by rw [show inR a (nK B) = false from q1]; decide)] at h; exact h _ Fg.rf hR
  rw [if_pos (show inR a (nK B) = true from q1)] at h
  obtain ⟨k, hk, rfl⟩ := inR_nI q1
  rw [nI_clamp (by omega)] at h
  rintro M5 rfl
  rw [hR.n15, nI_p (by omega) (by omega)]
  have hW := wf_dropK hR.1 hk
  obtain ⟨d0, d1, d2, d3⟩ := dropK_N hR.1.k24 (k := k)
  have hA := hR.ag
  have V0 := fun f i hl => vC_s (k := 0) (f := 15) (v := nI (nK B - 1)) (M := M) (by decide) f i hl
  refine lq2_i (fun x M' => ∃ j, k ≤ j ∧ j ≤ nK B - 1 ∧ x = nI j ∧ Fg rB M M' ∧ rd M' 0 0 15 = nI (nK B - 1) ∧ ∀ f i, lg f i → us B f i → vC 0 M' f i = if f = 15 then nI (nK B - 1) else if (16 ≤ f ∧ f ≤ 18) ∧ (k ≤ i ∧ i < j) then B f (i + 1) else B f i) (fun x _ => nK B - x.toNatClampNeg) ?_ _ _ ⟨k, by omega, by omega, rfl, Fg.w (by unfold rB; omega), rd_wr_s, fun f i hl hu => ?_⟩
  rotate_left
  · rw [V0 f i hl]
    by_cases q : f = 15
    · subst q
      rw [if_pos rfl]
      have : i = 0 := by unfold lg at hl; omega
      subst this
      exact setB_s
    · rw [if_neg q, if_neg (by omega), setB_f q]
      exact hA f i hl hu
  rintro x M' ⟨j, hkj, hj, rfl, hF, h15, hV⟩ self hself
  rw [h15]
  refine cLe (by omega) (by omega) (fun q => ?_) (fun q => ?_)
  · have : j = nK B - 1 := by omega
    subst this
    refine h _ hF ⟨hW, Agr.bk hW (fun f i hl hu => ?_)⟩
    have hu' : us B f i := by
      unfold us usN at hu ⊢
      rw [d0, d1, d2, d3] at hu
      omega
    rw [hV f i hl hu']
    show _ = dropK B k f i
    unfold dropK
    by_cases q2 : f = 15
    · rw [if_pos q2, if_pos q2]
    · rw [if_neg q2, if_neg q2]
      by_cases q3 : (16 ≤ f ∧ f ≤ 18) ∧ k ≤ i
      · have q4 : i < nK B - 1 := by
          unfold us usN at hu
          rw [d3] at hu
          omega
        rw [if_pos ⟨q3.1, q3.2, q4⟩, if_pos q3]
      · rw [if_neg (fun z => q3 ⟨z.1, z.2.1⟩), if_neg q3]
  · rw [mI6, vpI (by omega), vpI (by omega), nI_clamp (by omega), nI_clamp (by omega)]
    refine ⟨by omega, by omega, ?_⟩
    rintro M13 rfl M14 rfl M15 rfl x16 rfl
    have g : ∀ f, 16 ≤ f ∧ f ≤ 18 → rd M' (20 + f) 0 (j + 1) = B f (j + 1) := fun f hf => by
      have := hV f (j + 1) (by unfold lg; omega) (by unfold us usN; omega)
      rw [if_neg (by omega), if_neg (by omega)] at this
      unfold vC at this
      rw [if_neg (by omega)] at this
      exact this
    have g16 : rd M' 36 0 (j + 1) = B 16 (j + 1) := g 16 (by omega)
    have g17 : rd M' 37 0 (j + 1) = B 17 (j + 1) := g 17 (by omega)
    have g18 : rd M' 38 0 (j + 1) = B 18 (j + 1) := g 18 (by omega)
    rw [g16, rdk g17 (by decide), rdk (rdk g18 (by decide)) (by decide)]
    refine hself _ _ ⟨j + 1, by omega, by omega, rfl, hF.tr (fun t k' j' hn => ?_), rdk (rdk (rdk h15 (by decide)) (by decide)) (by decide), fun f i hl hu => ?_⟩ ?_
    · unfold rB at hn
      rw [rd_wr_n (by omega), rd_wr_n (by omega), rd_wr_n (by omega)]
    · rw [vC_a (f := 18) (by decide) (by decide) f i hl]
      by_cases w1 : f = 18 ∧ i = j
      · obtain ⟨rfl, rfl⟩ := w1
        rw [setB_s, if_neg (by omega), if_pos (by omega)]
      rw [setB_n w1, vC_a (f := 17) (by decide) (by decide) f i hl]
      by_cases w2 : f = 17 ∧ i = j
      · obtain ⟨rfl, rfl⟩ := w2
        rw [setB_s, if_neg (by omega), if_pos (by omega)]
      rw [setB_n w2, vC_a (f := 16) (by decide) (by decide) f i hl]
      by_cases w3 : f = 16 ∧ i = j
      · obtain ⟨rfl, rfl⟩ := w3
        rw [setB_s, if_neg (by omega), if_pos (by omega)]
      rw [setB_n w3, hV f i hl hu]
      by_cases w4 : f = 15
      · rw [if_pos w4, if_pos w4]
      · rw [if_neg w4, if_neg w4]
        by_cases w5 : (16 ≤ f ∧ f ≤ 18) ∧ (k ≤ i ∧ i < j)
        · rw [if_pos w5, if_pos (by omega)]
        · rw [if_neg w5, if_neg (by omega)]
    · rw [nI_clamp (by omega), nI_clamp (by omega)]; omega
end CBO
