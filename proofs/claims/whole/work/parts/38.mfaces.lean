/-! THE MODEL'S FACE: its questions -/
section MF1
variable {B : Bk} {M : Mm}
theorem q_in {v a b : Int32} {P : Int32 → Mm → Prop} (h : P (if inb v a.toInt b.toInt = true then 1 else 0) M) : wp_X7_in v a b M P := by
  unfold wp_X7_in
  refine ⟨fun q => ?_, fun q => ⟨fun q2 => ?_, fun q2 => ?_⟩⟩
  · rw [if_neg (by rw [inb_t]; unfold bd; rw [i32_lt] at q; omega)] at h; exact h
  · rw [if_neg (by rw [inb_t]; unfold bd; rw [i32_lt] at q2; omega)] at h; exact h
  · rw [if_pos (by rw [inb_t]; unfold bd; rw [i32_lt] at q q2; omega)] at h; exact h
theorem sub1 {n : Nat} (h : n < 2 ^ 30) : (nI n - (1 : Int32)).toInt = (n : Int) - 1 := by
  rw [show (1 : Int32) = nI 1 from rfl, pk_sub_toInt h (by decide)]; rfl
theorem q_isCover (hR : RM B M) {v : Int32} {P : Int32 → Mm → Prop} (h : P (if inR v (nC B) = true then 1 else 0) M) : wp_X7_isCover v M P := by
  have := hR.1.c6
  unfold wp_X7_isCover
  rw [hR.n0]
  refine q_in ⟨nar01, ?_⟩
  rw [sub1 (by omega)]; exact h
theorem q_isLayer (hR : RM B M) {v : Int32} {P : Int32 → Mm → Prop} (h : P (if inR v (nL B) = true then 1 else 0) M) : wp_X7_isLayer v M P := by
  have := hR.1.l4
  unfold wp_X7_isLayer
  rw [hR.n1]
  refine q_in ⟨nar01, ?_⟩
  rw [sub1 (by omega)]; exact h
theorem q_isEvent (hR : RM B M) {v : Int32} {P : Int32 → Mm → Prop} (h : P (if inR v (nE B) = true then 1 else 0) M) : wp_X7_isEvent v M P := by
  have := hR.1.e8
  unfold wp_X7_isEvent
  rw [hR.n2]
  refine q_in ⟨nar01, ?_⟩
  rw [sub1 (by omega)]; exact h
theorem q_isClaim (hR : RM B M) {v : Int32} {P : Int32 → Mm → Prop} (h : P (if inR v (nK B) = true then 1 else 0) M) : wp_X7_isClaim v M P := by
  have := hR.1.k24
  unfold wp_X7_isClaim
  rw [hR.n3]
  refine q_in ⟨nar01, ?_⟩
  rw [sub1 (by omega)]; exact h
theorem q_isGroup {v : Int32} {P : Int32 → Mm → Prop} (h : P (if inR v 3 = true then 1 else 0) M) : wp_X7_isGroup v M P := by
  unfold wp_X7_isGroup
  exact q_in ⟨nar01, h⟩
theorem q_isPlace {a b : Int32} {P : Int32 → Mm → Prop} (h : P (if (inR a 3 && inR b 4) = true then 1 else 0) M) : wp_X7_isPlace a b M P := by
  unfold wp_X7_isPlace
  refine q_in (tst (fun q => ?_) (fun q => ?_))
  · rw [show inR a 3 = false from q] at h; exact h
  · rw [show inR a 3 = true from q] at h
    refine q_in (tst (fun q2 => ?_) (fun q2 => ?_))
    · rw [show inR b 4 = false from q2] at h; exact h
    · rw [show inR b 4 = true from q2] at h; exact h
theorem q_areThere (hR : RM B M) {a b : Int32} {P : Int32 → Mm → Prop} (h : P (if (inR a (nE B) && inR b (nC B)) = true then 1 else 0) M) : wp_X7_areThere a b M P := by
  unfold wp_X7_areThere
  refine q_isEvent hR (tst (fun q => ?_) (fun q => ?_))
  · rw [q] at h; exact h
  · rw [q] at h
    refine q_isCover hR (tst (fun q2 => ?_) (fun q2 => ?_))
    · rw [q2] at h; exact h
    · rw [q2] at h; exact h
theorem m_cover (hR : RM B M) (a w : Int32) {P : Int32 → Mm → Prop} (h : ∀ M2, Fm M M2 → P (ansCover B a w) M2) : wp_X7_cover a w M P := by
  have hc6 := hR.1.c6; have hl4 := hR.1.l4; have he8 := hR.1.e8; have hk24 := hR.1.k24
  unfold ansCover at h
  unfold wp_X7_cover
  refine q_isCover hR (tsw (fun q => ?_) (fun q => ?_))
  · rw [if_pos q] at h
    obtain ⟨c, hc, rfl⟩ := inR_nI q
    rw [nI_clamp (by omega)] at h
    refine q_in (tst (fun q2 => ?_) (fun q2 => ?_))
    · have n0 : ¬ w = 0 := fun z => by rw [z] at q2; exact absurd q2 (by decide)
      have n1 : ¬ w = 1 := fun z => by rw [z] at q2; exact absurd q2 (by decide)
      have n2 : ¬ w = 2 := fun z => by rw [z] at q2; exact absurd q2 (by decide)
      have n3 : ¬ w = 3 := fun z => by rw [z] at q2; exact absurd q2 (by decide)
      unfold covAns at h
      rw [if_neg n0, if_neg n1, if_neg n2, if_neg n3] at h
      refine ⟨fun n4 => ⟨fun n5 => ?_, fun z => ?_⟩, fun z => ?_⟩
      · rw [if_neg n4, if_neg n5] at h; exact h _ Fr.rf
      · rw [if_neg n4, if_pos z] at h; rw [hR.n2]; exact q_leftAt hR (Nat.le_refl _) hc h
      · rw [if_pos z] at h; exact q_paidInAll hR hc h
    · obtain ⟨i, hi, rfl⟩ := inR_nI (n := 4) q2
      have h2 := h _ Fr.rf
      rw [mI0, nI_add, vpI (by omega), nI_clamp (by omega)]
      refine ⟨by omega, ?_⟩
      rcases (show i = 0 ∨ i = 1 ∨ i = 2 ∨ i = 3 by omega) with rfl | rfl | rfl | rfl
      · rw [Nat.add_zero, hR.c1 hc]; exact h2
      · rw [hR.c2 hc]; exact h2
      · rw [hR.c3 hc]; exact h2
      · rw [hR.c4 hc]; exact h2
  · rw [if_neg (by rw [q]; decide)] at h; exact h _ Fr.rf
theorem m_layer (hR : RM B M) (a w : Int32) {P : Int32 → Mm → Prop} (h : ∀ M2, Fm M M2 → P (ansLayer B a w) M2) : wp_X7_layer a w M P := by
  have hc6 := hR.1.c6; have hl4 := hR.1.l4; have he8 := hR.1.e8; have hk24 := hR.1.k24
  unfold ansLayer at h
  unfold wp_X7_layer
  refine q_isLayer hR (tsw (fun q => ?_) (fun q => ?_))
  · rw [if_pos q] at h
    obtain ⟨c, hc, rfl⟩ := inR_nI q
    rw [nI_clamp (by omega)] at h
    refine q_in (tst (fun q2 => ?_) (fun q2 => ?_))
    · have n0 : ¬ w = 0 := fun z => by rw [z] at q2; exact absurd q2 (by decide)
      have n1 : ¬ w = 1 := fun z => by rw [z] at q2; exact absurd q2 (by decide)
      have n2 : ¬ w = 2 := fun z => by rw [z] at q2; exact absurd q2 (by decide)
      have n3 : ¬ w = 3 := fun z => by rw [z] at q2; exact absurd q2 (by decide)
      unfold layAns at h
      rw [if_neg n0, if_neg n1, if_neg n2, if_neg n3] at h
      refine ⟨fun z => ?_, fun z => ?_, fun z => ?_, fun z => ?_, fun n4 n5 n6 n7 => ?_⟩
      · rw [if_pos z] at h; exact q_borneInAll hR hc h
      · subst z; rw [hR.n2]; exact q_capacityAt hR (Nat.le_refl _) hc h
      · subst z; exact q_reinstated hR hc h
      · subst z; exact q_reinstatementPremium hR hc h
      · rw [if_neg n4, if_neg n5, if_neg n6, if_neg n7] at h; exact h _ Fr.rf
    · obtain ⟨i, hi, rfl⟩ := inR_nI (n := 4) q2
      have h2 := h _ Fr.rf
      rw [mI1, nI_add, vpI (by omega), nI_clamp (by omega)]
      refine ⟨by omega, ?_⟩
      rcases (show i = 0 ∨ i = 1 ∨ i = 2 ∨ i = 3 by omega) with rfl | rfl | rfl | rfl
      · rw [Nat.add_zero, hR.l6 hc]; exact h2
      · rw [hR.l7 hc]; exact h2
      · rw [hR.l8 hc]; exact h2
      · rw [hR.l9 hc]; exact h2
  · rw [if_neg (by rw [q]; decide)] at h; exact h _ Fr.rf
theorem m_deductible (hR : RM B M) (a : Int32) {P : Int32 → Mm → Prop} (h : ∀ M2, Fm M M2 → P (ansDed B a) M2) : wp_X7_deductible a M P := by
  unfold ansDed at h
  unfold wp_X7_deductible
  refine q_isGroup (tst (fun q => ?_) (fun q => ?_))
  · rw [if_neg (by rw [q]; decide)] at h; exact h _ Fr.rf
  · rw [if_pos q] at h
    obtain ⟨g, hg, rfl⟩ := inR_nI q
    rw [nI_clamp (by omega)] at h
    simp (disch := omega) only [mI5, nI_clamp, vpI, hR.g hg]
    exact ⟨by omega, h _ Fr.rf⟩
theorem m_event (hR : RM B M) (a w : Int32) {P : Int32 → Mm → Prop} (h : ∀ M2, Fm M M2 → P (ansEvent B a w) M2) : wp_X7_event a w M P := by
  have hc6 := hR.1.c6; have hl4 := hR.1.l4; have he8 := hR.1.e8; have hk24 := hR.1.k24
  unfold ansEvent at h
  unfold wp_X7_event
  refine q_isEvent hR (tsw (fun q => ?_) (fun q => ?_))
  · rw [if_pos q] at h
    obtain ⟨e, he, rfl⟩ := inR_nI q
    rw [nI_clamp (by omega)] at h
    refine ⟨fun z => ?_, fun z => ?_, fun z => ?_, fun z => ?_, fun z => ?_, fun z => ?_, fun z => ?_, fun z => ?_, fun n0 n1 n2 n3 n4 n5 n6 n7 => ?_⟩
    · subst z; simp (disch := omega) only [mI3, nI_clamp, vpI, hR.e13 he]; exact ⟨by omega, h _ Fr.rf⟩
    · subst z; simp (disch := omega) only [mI4, nI_clamp, vpI, hR.e14 he]; exact ⟨by omega, h _ Fr.rf⟩
    · subst z; exact q_manyClaims hR e (h _ Fr.rf)
    · subst z; exact q_lossesIn hR e (h _ Fr.rf)
    · subst z; exact q_paidByAll hR he h
    · subst z; exact q_burdenOf hR he h
    · subst z; exact q_retainedOf hR he h
    · subst z; exact q_positionOf hR he (h _ Fr.rf)
    · unfold evAns at h
      rw [if_neg n0, if_neg n1, if_neg n2, if_neg n3, if_neg n4, if_neg n5, if_neg n6, if_neg n7] at h; exact h _ Fr.rf
  · rw [if_neg (by rw [q]; decide)] at h; exact h _ Fr.rf
theorem m_eventAt (hR : RM B M) (a : Int32) {P : Int32 → Mm → Prop} (h : ∀ M2, Fm M M2 → P (ansEventAt B a) M2) : wp_X7_eventAt a M P := by
  have hc6 := hR.1.c6; have hl4 := hR.1.l4; have he8 := hR.1.e8; have hk24 := hR.1.k24
  unfold ansEventAt at h
  unfold wp_X7_eventAt
  by_cases q : inR a (nE B) = true
  · rw [if_pos q] at h
    obtain ⟨p, hp, rfl⟩ := inR_nI q
    rw [nI_clamp (by omega)] at h
    exact q_eventOn hR hp (h _ Fr.rf)
  · rw [if_neg q] at h
    exact q_eventOn_none hR (fun e he z => q (by rw [← z]; exact inR_of (pos_lt he) (by omega))) (h _ Fr.rf)
theorem q_reasonOf (hR : RM B M) {k : Nat} (hk : k < nK B) {P : Int32 → Mm → Prop} (h : ∀ M2, Fm M M2 → P (reasonB B (B 16 k).toNatClampNeg (B 17 k).toNatClampNeg k) M2) : wp_X7_reasonOf (nI k) M P := by
  have hc6 := hR.1.c6; have hl4 := hR.1.l4; have he8 := hR.1.e8; have hk24 := hR.1.k24
  obtain ⟨⟨e, he, h16⟩, ⟨c, hc, h17⟩, -⟩ := hR.1.cl k hk
  rw [h16, h17, nI_clamp (by omega), nI_clamp (by omega)] at h
  unfold reasonB at h
  unfold wp_X7_reasonOf
  simp (disch := omega) only [mI2, mI6, nI_clamp, vpI, hR.k16 hk, hR.k17 hk, h16, h17]
  refine ⟨by omega, ?_⟩
  rintro x2 rfl
  refine ⟨by omega, ?_⟩
  rintro x4 rfl
  refine q_paidFor hR hk (fun M1 h1 => ⟨fun q => ?_, fun q => ?_⟩)
  · rw [if_neg q] at h
    refine q_paidOf (hR.kept h1) he hc (fun M2 h2 => q_netOf ((hR.kept h1).kept h2) e hc (fun M3 h3 => ⟨fun q2 => ?_, fun q2 => ?_⟩))
    · rw [if_pos q2] at h
      have hR3 := ((hR.kept h1).kept h2).kept h3
      have hF3 := (h1.tr h2).tr h3
      refine q_grossOf hR3 e hc (q_lossesOf hR3 e c ⟨fun q3 => ?_, fun q3 => ?_⟩)
      · rw [if_pos q3] at h
        refine q_deductedOf hR3 e hc (fun M4 h4 => ⟨fun q4 => ?_, fun q4 => ?_⟩)
        · rw [if_pos q4] at h; exact h _ (hF3.tr h4)
        · rw [if_neg q4] at h; exact h _ (hF3.tr h4)
      · rw [if_neg q3] at h; exact h _ hF3
    · rw [if_neg q2] at h; exact h _ ((h1.tr h2).tr h3)
  · rw [if_pos q] at h
    refine q_positionOf (hR.kept h1) he (q_leftAt (hR.kept h1) (Nat.le_of_lt (pos_lt he)) hc (fun M2 h2 => ⟨fun q2 => ?_, fun q2 => ?_⟩))
    · rw [if_neg q2] at h; exact h _ (h1.tr h2)
    · rw [if_pos q2] at h; exact h _ (h1.tr h2)
theorem m_claim (hR : RM B M) (a w : Int32) {P : Int32 → Mm → Prop} (h : ∀ M2, Fm M M2 → P (ansClaim B a w) M2) : wp_X7_claim a w M P := by
  have hc6 := hR.1.c6; have hl4 := hR.1.l4; have he8 := hR.1.e8; have hk24 := hR.1.k24
  unfold ansClaim at h
  unfold wp_X7_claim
  refine q_isClaim hR (tsw (fun q => ?_) (fun q => ?_))
  · rw [if_pos q] at h
    obtain ⟨k, hk, rfl⟩ := inR_nI q
    rw [nI_clamp (by omega)] at h
    refine q_in (tst (fun q2 => ?_) (fun q2 => ?_))
    · have n0 : ¬ w = 0 := fun z => by rw [z] at q2; exact absurd q2 (by decide)
      have n1 : ¬ w = 1 := fun z => by rw [z] at q2; exact absurd q2 (by decide)
      have n2 : ¬ w = 2 := fun z => by rw [z] at q2; exact absurd q2 (by decide)
      unfold clAns at h
      rw [if_neg n0, if_neg n1, if_neg n2] at h
      refine ⟨fun n3 => ⟨fun n4 => ⟨fun n5 => ?_, fun z => ?_⟩, fun z => ?_⟩, fun z => ?_⟩
      · rw [if_neg n3, if_neg n4, if_neg n5] at h; exact h _ Fr.rf
      · rw [if_neg n3, if_neg n4, if_pos z] at h; exact q_reasonOf hR hk h
      · rw [if_neg n3, if_pos z] at h; exact q_paidFor hR hk h
      · rw [if_pos z] at h; exact q_lossOf hR hk (h _ Fr.rf)
    · obtain ⟨i, hi, rfl⟩ := inR_nI (n := 3) q2
      have h2 := h _ Fr.rf
      rw [mI2, nI_add, vpI (by omega), nI_clamp (by omega)]
      refine ⟨by omega, ?_⟩
      rcases (show i = 0 ∨ i = 1 ∨ i = 2 by omega) with rfl | rfl | rfl
      · rw [Nat.add_zero, hR.k16 hk]; exact h2
      · rw [hR.k17 hk]; exact h2
      · rw [hR.k18 hk]; exact h2
  · rw [if_neg (by rw [q]; decide)] at h; exact h _ Fr.rf
theorem ec_cases {f : Nat → Nat → Int32} {a b : Int32} : (inR a (nE B) && inR b (nC B)) = false → ansEC f B a b = -1 := by
  intro q
  unfold ansEC
  cases h1 : inR a (nE B) <;> cases h2 : inR b (nC B) <;> simp [h1, h2] at q ⊢
theorem ec_t {a b : Int32} (hW : WF B) (q : (inR a (nE B) && inR b (nC B)) = true) : ∃ e c, e < nE B ∧ c < nC B ∧ a = nI e ∧ b = nI c ∧ ∀ f, ansEC f B a b = f e c := by
  obtain ⟨q1, q2⟩ := Bool.and_eq_true_iff.mp q
  have h6 := hW.c6
  have h8 := hW.e8
  obtain ⟨e, he, h1⟩ := inR_nI q1
  obtain ⟨c, hc, h2⟩ := inR_nI q2
  refine ⟨e, c, he, hc, h1, h2, fun f => ?_⟩
  unfold ansEC
  rw [if_pos q1, if_pos q2, h1, h2, nI_clamp (by omega), nI_clamp (by omega)]
theorem m_gross (hR : RM B M) (a b : Int32) {P : Int32 → Mm → Prop} (h : ∀ M2, Fm M M2 → P (ansEC (gross B) B a b) M2) : wp_X7_gross a b M P := by
  unfold wp_X7_gross
  refine q_areThere hR (tst (fun q => ?_) (fun q => ?_))
  · rw [ec_cases q] at h; exact h _ Fr.rf
  · obtain ⟨e, c, he, hc, rfl, rfl, hf⟩ := ec_t hR.1 q
    rw [hf] at h
    exact q_grossOf hR e hc (h _ Fr.rf)
theorem m_deducted (hR : RM B M) (a b : Int32) {P : Int32 → Mm → Prop} (h : ∀ M2, Fm M M2 → P (ansEC (ded B) B a b) M2) : wp_X7_deducted a b M P := by
  unfold wp_X7_deducted
  refine q_areThere hR (tst (fun q => ?_) (fun q => ?_))
  · rw [ec_cases q] at h; exact h _ Fr.rf
  · obtain ⟨e, c, he, hc, rfl, rfl, hf⟩ := ec_t hR.1 q
    rw [hf] at h
    exact q_deductedOf hR e hc h
theorem m_paid (hR : RM B M) (a b : Int32) {P : Int32 → Mm → Prop} (h : ∀ M2, Fm M M2 → P (ansEC (paid B) B a b) M2) : wp_X7_paid a b M P := by
  unfold wp_X7_paid
  refine q_areThere hR (tst (fun q => ?_) (fun q => ?_))
  · rw [ec_cases q] at h; exact h _ Fr.rf
  · obtain ⟨e, c, he, hc, rfl, rfl, hf⟩ := ec_t hR.1 q
    rw [hf] at h
    exact q_paidOf hR he hc h
theorem m_leftBefore (hR : RM B M) (a b : Int32) {P : Int32 → Mm → Prop} (h : ∀ M2, Fm M M2 → P (ansEC (fun e c => left B c (pos B e)) B a b) M2) : wp_X7_leftBefore a b M P := by
  unfold wp_X7_leftBefore
  refine q_areThere hR (tst (fun q => ?_) (fun q => ?_))
  · rw [ec_cases q] at h; exact h _ Fr.rf
  · obtain ⟨e, c, he, hc, rfl, rfl, hf⟩ := ec_t hR.1 q
    rw [hf] at h
    exact q_positionOf hR he (q_leftAt hR (Nat.le_of_lt (pos_lt he)) hc h)
theorem m_borne (hR : RM B M) (a b : Int32) {P : Int32 → Mm → Prop} (h : ∀ M2, Fm M M2 → P (ansBorne B a b) M2) : wp_X7_borne a b M P := by
  have hc6 := hR.1.c6; have hl4 := hR.1.l4; have he8 := hR.1.e8; have hk24 := hR.1.k24
  unfold ansBorne at h
  unfold wp_X7_borne
  refine q_isEvent hR (tst (fun q => ?_) (fun q => ?_))
  · rw [if_neg (by rw [q]; decide)] at h; exact h _ Fr.rf
  · rw [if_pos q] at h
    refine q_isLayer hR (tst (fun q2 => ?_) (fun q2 => ?_))
    · rw [if_neg (by rw [q2]; decide)] at h; exact h _ Fr.rf
    · rw [if_pos q2] at h
      obtain ⟨e, he, rfl⟩ := inR_nI q
      obtain ⟨l, hl, rfl⟩ := inR_nI q2
      rw [nI_clamp (by omega), nI_clamp (by omega)] at h
      exact q_borneOf hR he hl h
theorem m_place (hR : RM B M) (a : Int32) {P : Int32 → Mm → Prop} (h : ∀ M2, Fm M M2 → P (ansPlace B a) M2) : wp_X7_place a M P := by
  have hc6 := hR.1.c6; have hl4 := hR.1.l4; have he8 := hR.1.e8; have hk24 := hR.1.k24
  unfold ansPlace at h
  unfold wp_X7_place
  refine q_isEvent hR (tsw (fun q => ?_) (fun q => ?_))
  · rw [if_pos q] at h
    obtain ⟨e, he, rfl⟩ := inR_nI q
    rw [nI_clamp (by omega)] at h
    refine lq3_i (fun s x M' => ∃ j, j ≤ nL B ∧ x = nI j ∧ s = placeN B e j ∧ Fm M M') (fun _ x _ => nL B - x.toNatClampNeg) ?_ _ _ _ ⟨0, by omega, rfl, rfl, Fr.rf⟩
    rintro s x M' ⟨j, hj, hx, hs, hF⟩ self hself
    subst hx hs
    have hR' := hR.kept hF
    rw [hR'.n1]
    refine cLe (by omega) (by omega) (fun q => ?_) (fun q => ?_)
    · have : j = nL B := by omega
      subst this
      exact h _ hF
    · refine q_borneOf hR' he q (fun M2 hF2 => ?_)
      have key : ∀ v : Int32, v = placeN B e (j + 1) → ∀ x15 : Int32, x15 = nI j + (1 : Int32) → self v x15 M2 := by
        rintro v rfl x15 rfl
        refine hself _ _ _ ⟨j + 1, by omega, mI6 j, rfl, hF.tr hF2⟩ ?_
        rw [mI6, nI_clamp (by omega), nI_clamp (by omega)]; omega
      unfold jn
      exact ⟨fun q2 => key _ (by show _ = if _ then _ else _; rw [if_pos q2]), fun q2 => key _ (by show _ = if _ then _ else _; rw [if_neg q2, mI6])⟩
  · rw [if_neg (by rw [q]; decide)] at h; exact h _ Fr.rf
theorem wst_lt (hW : WF B) : ∀ p, p < nE B → wst B p < nE B := by
  intro p
  induction p with
  | zero => intro hp; exact (ordE_lt hp).1
  | succ p ih =>
    intro hp
    show (if _ then wst B p else ordE B (p + 1)) < nE B
    split
    · exact ih (by omega)
    · exact (ordE_lt hp).1
theorem m_worst (hR : RM B M) {P : Int32 → Mm → Prop} (h : ∀ M2, Fm M M2 → P (ansWorst B) M2) : wp_X7_worst M P := by
  have hc6 := hR.1.c6; have hl4 := hR.1.l4; have he8 := hR.1.e8; have hk24 := hR.1.k24
  unfold ansWorst at h
  unfold wp_X7_worst
  refine lq3_i (fun s x M' => ∃ j, j ≤ nE B ∧ x = nI j ∧ s = (if j = 0 then -4 else nI (wst B (j - 1))) ∧ Fm M M') (fun _ x _ => nE B - x.toNatClampNeg) ?_ _ _ _ ⟨0, by omega, rfl, rfl, Fr.rf⟩
  rintro s x M' ⟨j, hj, hx, hs, hF⟩ self hself
  subst hx hs
  have hR' := hR.kept hF
  rw [hR'.n2]
  refine cLe (by omega) (by omega) (fun q => ?_) (fun q => ?_)
  · have : j = nE B := by omega
    subst this
    exact h _ hF
  · have key : ∀ (v : Int32) (M2 : Mm), Fm M' M2 → v = nI (wst B j) → ∀ x11 : Int32, x11 = nI j + (1 : Int32) → self v x11 M2 := by
      rintro v M2 hF2 rfl x11 rfl
      refine hself _ _ _ ⟨j + 1, by omega, mI6 j, by rw [if_neg (by omega)]; rfl, hF.tr hF2⟩ ?_
      rw [mI6, nI_clamp (by omega), nI_clamp (by omega)]; omega
    unfold jn
    by_cases h0 : j = 0
    · subst h0
      exact ⟨fun _ => q_eventOn hR' q (key _ _ Fr.rf rfl), fun z => absurd rfl z⟩
    · obtain ⟨p, rfl⟩ : ∃ p, j = p + 1 := ⟨j - 1, by omega⟩
      have hw := wst_lt hR.1 p (by omega)
      rw [if_neg h0]
      refine ⟨fun z => ?_, fun _ => ?_⟩
      · exfalso
        have z : nI (wst B p) = -4 := z
        have := congrArg Int32.toInt z
        rw [nI_toInt (by omega)] at this
        have h4 : (-4 : Int32).toInt = -4 := rfl
        omega
      · refine q_eventOn hR' q (q_burdenOf hR' (ordE_lt q).1 (fun M2 h2 => q_burdenOf (hR'.kept h2) hw (fun M3 h3 => ⟨fun q2 => ?_, fun q2 => ?_⟩)))
        · exact key _ _ (h2.tr h3) (by show _ = nI (if _ then _ else _); rw [if_pos q2]; rfl)
        · exact q_eventOn ((hR'.kept h2).kept h3) q (key _ _ (h2.tr h3) (by show _ = nI (if _ then _ else _); rw [if_neg q2]))
theorem m_account (hR : RM B M) (w : Int32) {P : Int32 → Mm → Prop} (h : ∀ M2, Fm M M2 → P (accAns B w) M2) : wp_X7_account w M P := by
  unfold wp_X7_account
  refine ⟨fun z => ?_, fun z => ?_, fun z => ?_, fun z => ?_, fun z => ?_, fun z => ?_, fun z => ?_, fun z => ?_, fun z => ?_, fun n0 n1 n2 n3 n4 n5 n6 n7 n8 => ?_⟩
  · subst z; exact q_overEvents hR 0 _ (Or.inl ⟨rfl, rfl⟩) h
  · subst z; exact q_allPaid hR h
  · subst z; exact q_allDeducted hR h
  · subst z; exact q_overEvents hR 3 _ (Or.inr (Or.inl ⟨rfl, rfl⟩)) h
  · subst z; exact q_allBorne hR h
  · subst z; exact q_overEvents hR 5 _ (Or.inr (Or.inr ⟨by decide, by decide, rfl⟩)) h
  · subst z; exact q_premC hR (h _ Fr.rf)
  · subst z; exact q_layerPremiums hR h
  · subst z; exact q_overEvents hR 0 _ (Or.inl ⟨rfl, rfl⟩) (fun M2 h2 => q_allPaid (hR.kept h2) (fun M3 h3 => h _ (h2.tr h3)))
  · unfold accAns at h
    rw [if_neg n0, if_neg n1, if_neg n2, if_neg n3, if_neg n4, if_neg n5, if_neg n6, if_neg n7, if_neg n8] at h; exact h _ Fr.rf
theorem m_result (hR : RM B M) {P : Int32 → Mm → Prop} (h : ∀ M2, Fm M M2 → P (ansResult B) M2) : wp_X7_result M P := by
  unfold wp_X7_result
  exact q_premC hR (q_layerPremiums hR (fun M2 h2 => q_overEvents (hR.kept h2) 5 _ (Or.inr (Or.inr ⟨by decide, by decide, rfl⟩)) (fun M3 h3 => h _ (h2.tr h3))))
theorem m_isBalanced (hR : RM B M) {P : Int32 → Mm → Prop} (h : ∀ M2, Fm M M2 → P (ansBal B) M2) : wp_X7_isBalanced M P := by
  have hc6 := hR.1.c6; have hl4 := hR.1.l4; have he8 := hR.1.e8; have hk24 := hR.1.k24
  unfold ansBal at h
  unfold wp_X7_isBalanced
  refine lq3_i (fun s x M' => ∃ j, j ≤ nK B ∧ x = nI j ∧ s = sumI (cpay B) j ∧ Fm M M') (fun _ x _ => nK B - x.toNatClampNeg) ?_ _ _ _ ⟨0, by omega, rfl, rfl, Fr.rf⟩
  rintro s x M' ⟨j, hj, hx, hs, hF⟩ self hself
  subst hx hs
  have hR' := hR.kept hF
  rw [hR'.n3]
  refine cLe (by omega) (by omega) (fun q => ?_) (fun q => ?_)
  · have : j = nK B := by omega
    subst this
    refine q_allPaid hR' (fun M1 h1 => ?_)
    unfold jn
    refine ⟨fun q1 => ?_, fun q1 => ?_⟩
    · rw [if_neg q1] at h; exact ⟨fun _ => h _ (hF.tr h1), fun z => absurd rfl z⟩
    rw [if_pos q1] at h
    refine q_allBorne (hR'.kept h1) (fun M2 h2 => q_overEvents ((hR'.kept h1).kept h2) 5 _ (Or.inr (Or.inr ⟨by decide, by decide, rfl⟩)) (fun M3 h3 => q_overEvents (((hR'.kept h1).kept h2).kept h3) 3 _ (Or.inr (Or.inl ⟨rfl, rfl⟩)) (fun M4 h4 => ?_)))
    have hF4 := (((hF.tr h1).tr h2).tr h3).tr h4
    have hR4 := hR.kept hF4
    refine ⟨fun q2 => ?_, fun q2 => ?_⟩
    · rw [if_neg q2] at h; exact ⟨fun _ => h _ hF4, fun z => absurd rfl z⟩
    rw [if_pos q2] at h
    refine q_allPaid hR4 (fun M5 h5 => q_allDeducted (hR4.kept h5) (fun M6 h6 => q_overEvents ((hR4.kept h5).kept h6) 0 _ (Or.inl ⟨rfl, rfl⟩) (fun M7 h7 => ?_)))
    have hF7 := ((hF4.tr h5).tr h6).tr h7
    refine ⟨fun q3 => ?_, fun q3 => ?_⟩
    · rw [if_pos q3] at h; exact ⟨fun _ => h _ hF7, fun z => absurd rfl z⟩
    · rw [if_neg q3] at h; exact ⟨fun z => absurd z (by decide), fun _ => h _ hF7⟩
  · refine q_paidFor hR' q (fun M2 hF2 => ?_)
    rintro x11 rfl x12 rfl
    refine hself _ _ _ ⟨j + 1, by omega, mI6 j, rfl, hF.tr hF2⟩ ?_
    rw [mI6, nI_clamp (by omega), nI_clamp (by omega)]; omega
end MF1
