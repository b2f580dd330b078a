/-! THE MODEL: its changing calls -/
section MFC
variable {B : Bk} {M : Mm} {H : Hs}
theorem fr160 {M2 : Mm} (h : Fr [160] M M2) : Fg (fun t _ _ => t = 160) M M2 := fun t k j hn => h t k j (fun z => hn (by simpa using z))
theorem rowk {M2 : Mm} {R : Nat → Nat → Nat → Prop} {t k : Nat} (hW : WF B) (h : RowR B (rd M t k)) (hf : Fg R M M2) (hr : ∀ j, ¬ R t k j) : RowR B (rd M2 t k) := h.cg hW (fun i _ => hf _ _ _ (hr i))
theorem upd_m {H : Hs} : updH (-1) H B = H ∧ updH (-2) H B = H ∧ updH (-3) H B = H ∧ updH (-5) H B = H := ⟨if_pos (by decide), if_pos (by decide), if_pos (by decide), if_pos (by decide)⟩

theorem m_addCover (hR : RM B M) (hH : MH H M) (a b c d : Int32) {P : Int32 → Mm → Prop} (h : ∀ M2, Fg qW M M2 → RM (insC B a b c d).2 M2 → MH (updH (insC B a b c d).1 H B) M2 → P (insC B a b c d).1 M2) : wp_X7_addCover a b c d M P := by
  unfold wp_X7_addCover
  refine q_keeps hR (fun M1 f1 k1 => ?_)
  have hR1 := hR.keptg f1 (fun k j => by decide)
  have hH1 := hH.kept f1 (fun t k j q => by omega)
  refine q_laysCover hR1 a b c d (fun M2 f2 hR2 => ?_)
  have f2 := fr160 f2
  exact q_made hR2 (hH1.kept f2 (fun t k j q => by omega)) hR.1 (rowk hR.1 k1 f2 (fun j => by decide)) (fun M4 f4 hR4 hH4 => h _ (((f1.mo (fun t k j q => by unfold qW; omega)).tr (f2.mo (fun t k j q => by unfold qW; omega))).tr f4) hR4 hH4)

theorem m_addLayer (hR : RM B M) (hH : MH H M) (a b c d : Int32) {P : Int32 → Mm → Prop} (h : ∀ M2, Fg qW M M2 → RM (insL B a b c d).2 M2 → MH (updH (insL B a b c d).1 H B) M2 → P (insL B a b c d).1 M2) : wp_X7_addLayer a b c d M P := by
  unfold wp_X7_addLayer
  refine q_keeps hR (fun M1 f1 k1 => ?_)
  have hR1 := hR.keptg f1 (fun k j => by decide)
  have hH1 := hH.kept f1 (fun t k j q => by omega)
  refine q_laysLayer hR1 a b c d (fun M2 f2 hR2 => ?_)
  have f2 := fr160 f2
  exact q_made hR2 (hH1.kept f2 (fun t k j q => by omega)) hR.1 (rowk hR.1 k1 f2 (fun j => by decide)) (fun M4 f4 hR4 hH4 => h _ (((f1.mo (fun t k j q => by unfold qW; omega)).tr (f2.mo (fun t k j q => by unfold qW; omega))).tr f4) hR4 hH4)

theorem m_addEvent (hR : RM B M) (hH : MH H M) (a : Int32) {P : Int32 → Mm → Prop} (h : ∀ M2, Fg qW M M2 → RM (insE B a).2 M2 → MH (updH (insE B a).1 H B) M2 → P (insE B a).1 M2) : wp_X7_addEvent a M P := by
  unfold wp_X7_addEvent
  refine q_keeps hR (fun M1 f1 k1 => ?_)
  have hR1 := hR.keptg f1 (fun k j => by decide)
  have hH1 := hH.kept f1 (fun t k j q => by omega)
  refine q_laysEvent hR1 a (fun M2 f2 hR2 => ?_)
  have f2 := fr160 f2
  exact q_made hR2 (hH1.kept f2 (fun t k j q => by omega)) hR.1 (rowk hR.1 k1 f2 (fun j => by decide)) (fun M4 f4 hR4 hH4 => h _ (((f1.mo (fun t k j q => by unfold qW; omega)).tr (f2.mo (fun t k j q => by unfold qW; omega))).tr f4) hR4 hH4)

theorem m_addClaim (hR : RM B M) (hH : MH H M) (a b c : Int32) {P : Int32 → Mm → Prop} (h : ∀ M2, Fg qW M M2 → RM (insK B a b c).2 M2 → MH (updH (insK B a b c).1 H B) M2 → P (insK B a b c).1 M2) : wp_X7_addClaim a b c M P := by
  unfold wp_X7_addClaim
  refine q_keeps hR (fun M1 f1 k1 => ?_)
  have hR1 := hR.keptg f1 (fun k j => by decide)
  have hH1 := hH.kept f1 (fun t k j q => by omega)
  refine q_laysClaim hR1 a b c (fun M2 f2 hR2 => ?_)
  have f2 := fr160 f2
  exact q_made hR2 (hH1.kept f2 (fun t k j q => by omega)) hR.1 (rowk hR.1 k1 f2 (fun j => by decide)) (fun M4 f4 hR4 hH4 => h _ (((f1.mo (fun t k j q => by unfold qW; omega)).tr (f2.mo (fun t k j q => by unfold qW; omega))).tr f4) hR4 hH4)

theorem m_setRecovery (hR : RM B M) (hH : MH H M) (a d : Int32) {P : Int32 → Mm → Prop} (h : ∀ M2, Fg qW M M2 → RM (chRec B a d).2 M2 → MH (updH (chRec B a d).1 H B) M2 → P (chRec B a d).1 M2) : wp_X7_setRecovery a d M P := by
  unfold wp_X7_setRecovery
  refine q_keeps hR (fun M1 f1 k1 => ?_)
  have hR1 := hR.keptg f1 (fun k j => by decide)
  have hH1 := hH.kept f1 (fun t k j q => by omega)
  refine q_laysRecovery hR1 a d (fun M2 f2 hR2 => ?_)
  have f2 := fr160 f2
  exact q_made hR2 (hH1.kept f2 (fun t k j q => by omega)) hR.1 (rowk hR.1 k1 f2 (fun j => by decide)) (fun M4 f4 hR4 hH4 => h _ (((f1.mo (fun t k j q => by unfold qW; omega)).tr (f2.mo (fun t k j q => by unfold qW; omega))).tr f4) hR4 hH4)

theorem m_setDay (hR : RM B M) (hH : MH H M) (a d : Int32) {P : Int32 → Mm → Prop} (h : ∀ M2, Fg qW M M2 → RM (chDay B a d).2 M2 → MH (updH (chDay B a d).1 H B) M2 → P (chDay B a d).1 M2) : wp_X7_setDay a d M P := by
  have hc6 := hR.1.c6; have hl4 := hR.1.l4; have he8 := hR.1.e8; have hk24 := hR.1.k24
  unfold chDay at h
  unfold wp_X7_setDay
  refine q_isEvent hR (tsw (fun q1 => ?_) (fun q1 => ?_))
  rotate_left
  · rw [if_neg (by rw [show inR a (nE B) = false from q1]; decide)] at h; exact h _ Fg.rf hR (by rw [show updH (-1, B).1 H B = H from upd_m.1]; exact hH)
  rw [if_pos (show inR a (nE B) = true from q1)] at h
  refine q_in (tsw (fun q2 => ?_) (fun q2 => ?_))
  rotate_left
  · rw [if_neg (by rw [show inb d 0 364 = false from q2]; decide)] at h; exact h _ Fg.rf hR (by rw [show updH (-2, B).1 H B = H from upd_m.2.1]; exact hH)
  rw [if_pos (show inb d 0 364 = true from q2)] at h
  refine q_keeps hR (fun M1 f1 k1 => ?_)
  have hR1 := hR.keptg f1 (fun k j => by decide)
  have hH1 := hH.kept f1 (fun t k j q => by omega)
  have q1 : inR a (nE B) = true := q1
  obtain ⟨e, he, rfl⟩ := inR_nI q1
  rw [nI_clamp (by omega)] at h
  rw [mI3, vpI (by omega), nI_clamp (by omega)]
  refine ⟨by omega, ?_⟩
  rintro x9 rfl M10 rfl
  have f2 : Fg (fun t _ _ => t = 160) M1 (wr M1 160 0 (48 + e) d) := Fg.w rfl
  have hR2 := hR1.set13 he (inb_t.mp q2)
  rw [hR1.e13 he]
  exact q_made hR2 (hH1.kept f2 (fun t k j q => by omega)) hR.1 (rowk hR.1 k1 f2 (fun j => by decide)) (fun M4 f4 hR4 hH4 => h _ (((f1.mo (fun t k j q => by unfold qW; omega)).tr (f2.mo (fun t k j q => by unfold qW; omega))).tr f4) hR4 hH4)

theorem m_setDeductible (hR : RM B M) (hH : MH H M) (a d : Int32) {P : Int32 → Mm → Prop} (h : ∀ M2, Fg qW M M2 → RM (chDed B a d).2 M2 → MH (updH (chDed B a d).1 H B) M2 → P (chDed B a d).1 M2) : wp_X7_setDeductible a d M P := by
  have hc6 := hR.1.c6; have hl4 := hR.1.l4; have he8 := hR.1.e8; have hk24 := hR.1.k24
  unfold chDed at h
  unfold wp_X7_setDeductible
  refine q_isGroup (tsw (fun q1 => ?_) (fun q1 => ?_))
  rotate_left
  · rw [if_neg (by rw [show inR a 3 = false from q1]; decide)] at h; exact h _ Fg.rf hR (by rw [show updH (-1, B).1 H B = H from upd_m.1]; exact hH)
  rw [if_pos (show inR a 3 = true from q1)] at h
  refine q_in (tsw (fun q2 => ?_) (fun q2 => ?_))
  rotate_left
  · rw [if_neg (by rw [show inb d 0 99999 = false from q2]; decide)] at h; exact h _ Fg.rf hR (by rw [show updH (-2, B).1 H B = H from upd_m.2.1]; exact hH)
  rw [if_pos (show inb d 0 99999 = true from q2)] at h
  refine q_keeps hR (fun M1 f1 k1 => ?_)
  have hR1 := hR.keptg f1 (fun k j => by decide)
  have hH1 := hH.kept f1 (fun t k j q => by omega)
  have q1 : inR a (3) = true := q1
  obtain ⟨e, he, rfl⟩ := inR_nI q1
  rw [nI_clamp (by omega)] at h
  rw [mI5, vpI (by omega), nI_clamp (by omega)]
  refine ⟨by omega, ?_⟩
  rintro x9 rfl M10 rfl
  have f2 : Fg (fun t _ _ => t = 160) M1 (wr M1 160 0 (5 + e) d) := Fg.w rfl
  have hR2 := (show RM (setB B 10 e d) (wr M1 160 0 (5 + e) d) from ⟨hR1.1.set10 (inb_t.mp q2), by rw [rd_ups]; exact hR1.2.set10 hR1.1 he⟩)
  rw [hR1.g he]
  exact q_made hR2 (hH1.kept f2 (fun t k j q => by omega)) hR.1 (rowk hR.1 k1 f2 (fun j => by decide)) (fun M4 f4 hR4 hH4 => h _ (((f1.mo (fun t k j q => by unfold qW; omega)).tr (f2.mo (fun t k j q => by unfold qW; omega))).tr f4) hR4 hH4)

theorem m_setIndex (hR : RM B M) (hH : MH H M) (d : Int32) {P : Int32 → Mm → Prop} (h : ∀ M2, Fg qW M M2 → RM (chRate B d).2 M2 → MH (updH (chRate B d).1 H B) M2 → P (chRate B d).1 M2) : wp_X7_setIndex d M P := by
  have hc6 := hR.1.c6; have hl4 := hR.1.l4; have he8 := hR.1.e8; have hk24 := hR.1.k24
  unfold chRate at h
  unfold wp_X7_setIndex
  refine q_in (tsw (fun q2 => ?_) (fun q2 => ?_))
  rotate_left
  · rw [if_neg (by rw [show inb d 0 100 = false from q2]; decide)] at h; exact h _ Fg.rf hR (by rw [show updH (-2, B).1 H B = H from upd_m.2.1]; exact hH)
  rw [if_pos (show inb d 0 100 = true from q2)] at h
  refine q_keeps hR (fun M1 f1 k1 => ?_)
  have hR1 := hR.keptg f1 (fun k j => by decide)
  have hH1 := hH.kept f1 (fun t k j q => by omega)
  rintro x9 rfl M10 rfl
  have f2 : Fg (fun t _ _ => t = 160) M1 (wr M1 160 0 4 d) := Fg.w rfl
  have hR2 := (show RM (setB B 11 0 d) (wr M1 160 0 4 d) from ⟨hR1.1.set11 (inb_t.mp q2), by rw [rd_ups]; exact hR1.2.set11 hR1.1⟩)
  rw [hR1.n4]
  exact q_made hR2 (hH1.kept f2 (fun t k j q => by omega)) hR.1 (rowk hR.1 k1 f2 (fun j => by decide)) (fun M4 f4 hR4 hH4 => h _ (((f1.mo (fun t k j q => by unfold qW; omega)).tr (f2.mo (fun t k j q => by unfold qW; omega))).tr f4) hR4 hH4)

theorem m_removeClaim (hR : RM B M) (hH : MH H M) (a : Int32) {P : Int32 → Mm → Prop} (h : ∀ M2, Fg qW M M2 → RM (rmK B a).2 M2 → MH (updH (rmK B a).1 H B) M2 → P (rmK B a).1 M2) : wp_X7_removeClaim a M P := by
  have hc6 := hR.1.c6; have hl4 := hR.1.l4; have he8 := hR.1.e8; have hk24 := hR.1.k24
  unfold rmK at h
  unfold wp_X7_removeClaim
  refine q_isClaim hR (tsw (fun q1 => ?_) (fun q1 => ?_))
  rotate_left
  · rw [if_neg (by rw [show inR a (nK B) = false from q1]; decide)] at h; exact h _ Fg.rf hR (by rw [show updH (-1, B).1 H B = H from upd_m.1]; exact hH)
  rw [if_pos (show inR a (nK B) = true from q1)] at h
  refine q_keeps hR (fun M1 f1 k1 => ?_)
  have hR1 := hR.keptg f1 (fun k j => by decide)
  have hH1 := hH.kept f1 (fun t k j q => by omega)
  obtain ⟨k, hk, rfl⟩ := inR_nI q1
  rw [nI_clamp (by omega)] at h
  rintro x5 rfl
  rw [mI2]
  have hW := wf_dropK hR.1 hk
  obtain ⟨d0, d1, d2, d3⟩ := dropK_N hR.1.k24 (k := k)
  refine lq2_i (fun x M' => ∃ j, 64 + 3 * k ≤ j ∧ j ≤ 133 ∧ x = nI j ∧ Fg (fun t _ _ => t = 160) M1 M' ∧ ∀ i, (64 + 3 * k ≤ i ∧ i < j → rd M' 160 0 i = rd M1 160 0 (i + 3)) ∧ (¬ (64 + 3 * k ≤ i ∧ i < j) → rd M' 160 0 i = rd M1 160 0 i)) (fun x _ => 136 - x.toNatClampNeg) ?_ _ _ ⟨64 + 3 * k, by omega, by omega, rfl, Fg.rf, fun i => ⟨fun z => by omega, fun _ => rfl⟩⟩
  rintro x M' ⟨j, hkj, hj, rfl, hF, hV⟩ self hself
  rw [mI8, show (136 : Int32) = nI 136 from rfl]
  refine cLe (by omega) (by omega) (fun q => ?_) (fun q => ?_)
  · have : j = 133 := by omega
    subst this
    rintro M11 rfl
    have e3 : rd M' 160 0 3 = nI (nK B) := by rw [(hV 3).2 (by omega)]; exact hR1.n3
    rw [rd_wr_s, e3, nI_p (by omega) (by omega)]
    have f2 : Fg (fun t _ _ => t = 160) M1 (wr M' 160 0 3 (nI (nK B - 1))) := hF.tr (Fg.w rfl)
    have hR2 : RM (dropK B k) (wr M' 160 0 3 (nI (nK B - 1))) := ⟨hW, Agr.rw hW (fun f i hl hu => by
      have hA := hR1.ag
      unfold dropK
      by_cases w : f = 15
      · subst w
        rw [if_pos rfl]
        exact rd_wr_s
      rw [if_neg w]
      have hp : pl f i ≠ 3 := fun z => w (pl_inj hl (show lg 15 0 by unfold lg; omega) z).1
      have hb : ∀ f' i', us B f' i' → rd M1 160 0 (pl f' i') = B f' i' := fun f' i' u => hA f' i' (us_lg hR.1 u) u
      have hu' : us B f i := by
        unfold us usN at hu ⊢
        rw [d0, d1, d2, d3] at hu
        omega
      show rd (wr M' 160 0 3 (nI (nK B - 1))) 160 0 (pl f i) = _
      rw [rd_wr_n (by omega)]
      have hc := pl_c hl
      by_cases w2 : (16 ≤ f ∧ f ≤ 18) ∧ k ≤ i
      · rw [if_pos w2]
        have hu2 : us B f (i + 1) := by
          unfold us usN at hu ⊢
          rw [d3] at hu
          omega
        have hi : i < nK B - 1 := by
          unfold us usN at hu
          rw [d3] at hu
          omega
        have hc2 := pl_c (us_lg hR.1 hu2)
        rw [(hV _).1 (by omega), show pl f i + 3 = pl f (i + 1) by omega]
        exact hb _ _ hu2
      · rw [if_neg w2, (hV _).2 (by omega)]
        exact hb _ _ hu')⟩
    exact q_made hR2 (hH1.kept f2 (fun t k j q => by omega)) hR.1 (rowk hR.1 k1 f2 (fun j => by decide)) (fun M4 f4 hR4 hH4 => h _ (((f1.mo (fun t k j q => by unfold qW; omega)).tr (f2.mo (fun t k j q => by unfold qW; omega))).tr f4) hR4 hH4)
  · rw [vpI (by omega), vpI (by omega), nI_clamp (by omega), nI_clamp (by omega)]
    refine ⟨by omega, by omega, ?_⟩
    rintro M16 rfl x17 rfl
    refine hself _ _ ⟨j + 1, by omega, by omega, mI6 j, hF.tr (Fg.w rfl), fun i => ?_⟩ ?_
    · have e : rd M' 160 0 (j + 3) = rd M1 160 0 (j + 3) := (hV (j + 3)).2 (by omega)
      by_cases w : i = j
      · subst w
        rw [rd_wr_s, e]
        exact ⟨fun _ => rfl, fun z => by omega⟩
      · rw [rd_wr_n (by omega)]
        exact ⟨fun z => (hV i).1 (by omega), fun z => (hV i).2 (by omega)⟩
    · rw [mI6, nI_clamp (by omega), nI_clamp (by omega)]; omega

theorem m_undo (hR : RM B M) (hH : MH H M) {P : Int32 → Mm → Prop} (h : ∀ M2, Fg qW M M2 → RM (unD H B).2.1 M2 → MH (unD H B).2.2 M2 → P (unD H B).1 M2) : wp_X7_undo M P := by
  have hH0 := hH
  obtain ⟨h1, h2, h3⟩ := hH
  unfold unD at h
  unfold wp_X7_undo
  rw [h1, show (0 : Int32) = nI 0 from rfl]
  refine cNe (by omega) (by omega) (fun q => ?_) (fun q => ?_)
  rotate_left
  · rw [if_pos q] at h; exact h _ Fg.rf hR hH0
  rw [if_neg q] at h
  rintro M2 rfl
  rw [rd_wr_s, nI_p (by omega) (by omega), show (136 : Int32) = nI 136 from rfl, pk_mul]
  refine q_copies (p2 := 0) ia161 ia160 (by rw [lt161]; omega) (by rw [lt160]; omega) (by rw [lt161]; omega) (by rw [lt160]; omega) (Or.inl (by decide)) (fun M3 c => ?_)
  have g4 : rd M3 7 0 4 = nI (H.1 - 1) := by rw [(c 7 0 4).2 (by omega)]; exact rd_wr_s
  show P (rd M3 7 0 4) M3
  rw [g4]
  have hx := h3 (H.1 - 1) (by omega)
  refine h _ (fun t k j z => ?_) ⟨hx.1, hx.2.cg hx.1 (fun i hi => ?_)⟩ ⟨g4, by show H.1 - 1 ≤ 6; omega, fun j hj => ?_⟩
  · unfold qW at z
    rw [(c t k j).2 (by omega), rd_wr_n (by omega)]
  · rw [(c 160 0 i).1 (by omega), rd_wr_n (by omega)]
    congr 1
  · have hj : j < H.1 - 1 := hj
    have hy := h3 j (by omega)
    exact ⟨hy.1, hy.2.cg hy.1 (fun i hi => by rw [(c 161 0 _).2 (by omega), rd_wr_n (by omega)])⟩
def MS (s : Bool × Bk) (M : Mm) : Prop := rd M 7 0 5 = (if s.1 = true then 1 else 0) ∧ (s.1 = true → WF s.2 ∧ RowR s.2 (rd M 162 0))
def qS (t _k j : Nat) : Prop := t = 162 ∨ (t = 7 ∧ j = 5)
theorem m_save (hR : RM B M) {P : Int32 → Mm → Prop} (h : ∀ M2, Fg qS M M2 → MS (true, B) M2 → P (nI (nK B)) M2) : wp_X7_save M P := by
  unfold wp_X7_save
  refine q_copies (p1 := 0) (p2 := 0) ia160 ia162 (by rw [lt160]; omega) (by rw [lt162]; omega) (by rw [lt160]; omega) (by rw [lt162]; omega) (Or.inl (by decide)) (fun M2 c => ?_)
  rintro M3 rfl
  have g : rd M2 160 0 3 = nI (nK B) := by rw [(c 160 0 3).2 (by omega)]; exact hR.n3
  rw [rdk g (by decide)]
  refine h _ (fun t k j z => ?_) ⟨rd_wr_s, fun _ => ⟨hR.1, hR.2.cg hR.1 (fun i hi => ?_)⟩⟩
  · unfold qS at z
    rw [rd_wr_n (by omega), (c t k j).2 (by omega)]
  · rw [rd_wr_n (by omega), (c 162 0 i).1 (by omega)]
    congr 1
    omega
theorem m_restore (hR : RM B M) (hH : MH H M) {s : Bool × Bk} (hS : MS s M) {P : Int32 → Mm → Prop} (h : ∀ M2, Fg qW M M2 → RM (reD s H B).2.1 M2 → MH (reD s H B).2.2 M2 → P (reD s H B).1 M2) : wp_X7_restore M P := by
  unfold reD at h
  unfold wp_X7_restore
  rw [hS.1]
  refine tsw (fun q => ?_) (fun q => ?_)
  rotate_left
  · rw [if_neg (by rw [q]; decide)] at h; exact h _ Fg.rf hR hH
  rw [if_pos q] at h
  obtain ⟨hW, hB⟩ := hS.2 q
  refine q_copies (p1 := 0) (p2 := 0) ia162 ia160 (by rw [lt162]; omega) (by rw [lt160]; omega) (by rw [lt162]; omega) (by rw [lt160]; omega) (Or.inl (by decide)) (fun M2 c => ?_)
  rintro M3 rfl
  have hR3 : RM s.2 (wr M2 7 0 4 0) := ⟨hW, hB.cg hW (fun i hi => by
    rw [rd_wr_n (by omega), (c 160 0 i).1 (by omega)]
    congr 1
    omega)⟩
  rw [hR3.n3]
  refine h _ (fun t k j z => ?_) hR3 ⟨rd_wr_s, by show 0 ≤ 6; omega, fun j hj => absurd hj (Nat.not_lt_zero _)⟩
  unfold qW at z
  rw [rd_wr_n (by omega), (c t k j).2 (by omega)]
end MFC
