/-! THE STEPS of the model's row -/
section MBO
variable {B : Bk} {M : Mm}
theorem q_laysCover (hR : RM B M) (a b c d : Int32) {P : Int32 → Mm → Prop} (h : ∀ M2, Fr [160] M M2 → RM (insC B a b c d).2 M2 → P (insC B a b c d).1 M2) : wp_X7_laysCover a b c d M P := by
  have hc6 := hR.1.c6; have hl4 := hR.1.l4; have he8 := hR.1.e8; have hk24 := hR.1.k24
  unfold insC at h
  unfold wp_X7_laysCover
  refine q_in (tst (fun q1 => ?_) (fun q1 => ?_))
  · rw [if_neg (by rw [show inb a 1 99999 = false from q1]; decide)] at h; exact h _ Fr.rf hR
  rw [if_pos (show inb a 1 99999 = true from q1)] at h
  refine q_in (tst (fun q2 => ?_) (fun q2 => ?_))
  · rw [if_neg (by rw [show inb b 1 99999 = false from q2]; decide)] at h; exact h _ Fr.rf hR
  rw [if_pos (show inb b 1 99999 = true from q2)] at h
  refine q_in (tst (fun q3 => ?_) (fun q3 => ?_))
  · rw [if_neg (by rw [show inb c 0 99999 = false from q3]; decide)] at h; exact h _ Fr.rf hR
  rw [if_pos (show inb c 0 99999 = true from q3)] at h
  refine q_isGroup (tsw (fun q4 => ?_) (fun q4 => ?_))
  rotate_left
  · rw [if_neg (by rw [show inb d 0 2 = false from q4]; decide)] at h; exact h _ Fr.rf hR
  rw [if_pos (show inb d 0 2 = true from q4)] at h
  rw [hR.n0, show (6 : Int32) = nI 6 from rfl]
  refine cNe (by omega) (by omega) (fun q9 => ?_) (fun q9 => ?_)
  rotate_left
  · rw [if_neg (by omega)] at h; exact h _ Fr.rf hR
  have q9 : nC B < 6 := by omega
  rw [if_pos q9] at h
  have hW := hR.1.putC rfl q9 (inb_t.mp q1) (inb_t.mp q2) (inb_t.mp q3) (inb_t.mp q4)
  exact q_puts0 hR q9 (fun M2 h1 h2 => h _ h1 ⟨hW, h2.rw hW⟩)

theorem q_puts1 (hR : RM B M) {a b c d : Int32} (q5 : nL B < 4) {P : Int32 → Mm → Prop} (h : ∀ M2, Fr [160] M M2 → Agr (us (putL B (nL B) a b c d)) (putL B (nL B) a b c d) (vM (rd M2 160 0)) → P (nI (nL B)) M2) : wp_X7_puts (32 : Int32) (1 : Int32) a b c d M P := by
  unfold wp_X7_puts
  refine ⟨(vpI (a := 1) (by omega)).mpr (by omega), ?_⟩
  rintro x2 rfl
  have c0 : (1 : Int32).toNatClampNeg = 1 := rfl
  rw [c0, hR.n1, mI1, mI6, mI7, mI8, vpI (by omega), vpI (by omega), vpI (by omega), vpI (by omega), nI_clamp (by omega), nI_clamp (by omega), nI_clamp (by omega), nI_clamp (by omega)]
  have e0 := hR.n1
  refine ⟨by omega, ?_⟩
  rintro M1 rfl
  have e1 := rdj (k' := 0) (i := 32 + 4 * nL B) (v := a) e0 (by omega)
  refine ⟨by omega, ?_⟩
  rintro M1 rfl
  have e2 := rdj (k' := 0) (i := 32 + 4 * nL B + 1) (v := b) e1 (by omega)
  refine ⟨by omega, ?_⟩
  rintro M1 rfl
  have e3 := rdj (k' := 0) (i := 32 + 4 * nL B + 2) (v := c) e2 (by omega)
  refine ⟨by omega, ?_⟩
  rintro M1 rfl
  have e4 := rdj (k' := 0) (i := 32 + 4 * nL B + 3) (v := d) e3 (by omega)
  rw [e4]
  rintro M1 rfl
  rw [mI6, rd_wr_s, nI_m1 (by omega)]
  refine h _ (fun t k j hn => ?_) ?_
  · have : t ≠ 160 := fun z => hn (by rw [z]; decide)
    rw [rd_wr_n (by omega), rd_wr_n (by omega), rd_wr_n (by omega), rd_wr_n (by omega), rd_wr_n (by omega)]
  · rw [rd_ups, rd_ups, rd_ups, rd_ups, rd_ups]
    exact ag_putL rfl q5 hR.ag (vM_w (f := 6) rfl (by unfold lg; omega)) (vM_w (f := 7) rfl (by unfold lg; omega)) (vM_w (f := 8) rfl (by unfold lg; omega)) (vM_w (f := 9) rfl (by unfold lg; omega)) (vM_w (f := 5) rfl (by unfold lg; omega))

theorem q_laysLayer (hR : RM B M) (a b c d : Int32) {P : Int32 → Mm → Prop} (h : ∀ M2, Fr [160] M M2 → RM (insL B a b c d).2 M2 → P (insL B a b c d).1 M2) : wp_X7_laysLayer a b c d M P := by
  have hc6 := hR.1.c6; have hl4 := hR.1.l4; have he8 := hR.1.e8; have hk24 := hR.1.k24
  unfold insL at h
  unfold wp_X7_laysLayer
  refine q_in (tst (fun q1 => ?_) (fun q1 => ?_))
  · rw [if_neg (by rw [show inb a 0 999999 = false from q1]; decide)] at h; exact h _ Fr.rf hR
  rw [if_pos (show inb a 0 999999 = true from q1)] at h
  refine q_in (tst (fun q2 => ?_) (fun q2 => ?_))
  · rw [if_neg (by rw [show inb b 1 99999 = false from q2]; decide)] at h; exact h _ Fr.rf hR
  rw [if_pos (show inb b 1 99999 = true from q2)] at h
  refine q_in (tst (fun q3 => ?_) (fun q3 => ?_))
  · rw [if_neg (by rw [show inb c 0 99999 = false from q3]; decide)] at h; exact h _ Fr.rf hR
  rw [if_pos (show inb c 0 99999 = true from q3)] at h
  refine q_in (tsw (fun q4 => ?_) (fun q4 => ?_))
  rotate_left
  · rw [if_neg (by rw [show inb d 0 3 = false from q4]; decide)] at h; exact h _ Fr.rf hR
  rw [if_pos (show inb d 0 3 = true from q4)] at h
  rintro x13 rfl
  rw [hR.n1]
  have key : endL B ≤ a → ((¬ nI (nL B) = (4 : Int32) → (wp_X7_puts (32 : Int32) (1 : Int32) a b c d M (fun (r19 : Int32) (M18 : Mm) => P r19 M18))) ∧ (nI (nL B) = (4 : Int32) → P (-3 : Int32) M)) := fun q8 => by
    rw [if_pos q8] at h
    rw [show (4 : Int32) = nI 4 from rfl]
    refine cNe (by omega) (by omega) (fun q9 => ?_) (fun q9 => ?_)
    · have q9 : nL B < 4 := by omega
      rw [if_pos q9] at h
      have hW := hR.1.putL rfl q9 (inb_t.mp q1) (inb_t.mp q2) (inb_t.mp q3) (inb_t.mp q4)
      exact q_puts1 hR q9 (fun M2 h1 h2 => h _ h1 ⟨hW, h2.rw hW⟩)
    · rw [if_neg (by omega)] at h; exact h _ Fr.rf hR
  unfold jn
  rw [show (0 : Int32) = nI 0 from rfl, show (4 : Int32) = nI 4 from rfl]
  refine cLe (by omega) (by omega) (fun q7 => ?_) (fun q7 => ?_)
  · refine key ?_
    unfold endL
    rw [if_pos (by omega)]
    have := (inb_t.mp q1).1
    rw [i32_le]
    exact this
  · have e1 : nI 32 + nI 4 * nI (nL B) - nI 4 = nI (32 + 4 * (nL B - 1)) := by
      rw [pk_mul, nI_add, pk_sub (by omega)]; congr 1; omega
    have e2 : nI 32 + nI 4 * nI (nL B) - (3 : Int32) = nI (32 + 4 * (nL B - 1) + 1) := by
      rw [show (3 : Int32) = nI 3 from rfl, pk_mul, nI_add, pk_sub (by omega)]; congr 1; omega
    rw [show (32 : Int32) = nI 32 from rfl, e1, e2, vpI (by omega), vpI (by omega), nI_clamp (by omega), nI_clamp (by omega), hR.l6 (by omega), hR.l7 (by omega)]
    have e3 : endL B = B 6 (nL B - 1) + B 7 (nL B - 1) := by unfold endL; rw [if_neg (by omega)]
    rw [← e3]
    refine ⟨by omega, by omega, fun q8 => key q8, fun q8 => ?_⟩
    rw [if_neg q8] at h; exact h _ Fr.rf hR

theorem q_laysEvent (hR : RM B M) (a : Int32) {P : Int32 → Mm → Prop} (h : ∀ M2, Fr [160] M M2 → RM (insE B a).2 M2 → P (insE B a).1 M2) : wp_X7_laysEvent a M P := by
  have hc6 := hR.1.c6; have hl4 := hR.1.l4; have he8 := hR.1.e8; have hk24 := hR.1.k24
  unfold insE at h
  unfold wp_X7_laysEvent
  refine q_in (tsw (fun q1 => ?_) (fun q1 => ?_))
  rotate_left
  · rw [if_neg (by rw [show inb a 0 364 = false from q1]; decide)] at h; exact h _ Fr.rf hR
  rw [if_pos (show inb a 0 364 = true from q1)] at h
  rw [hR.n2, show (8 : Int32) = nI 8 from rfl]
  refine cNe (by omega) (by omega) (fun q9 => ?_) (fun q9 => ?_)
  rotate_left
  · rw [if_neg (by omega)] at h; exact h _ Fr.rf hR
  have q9 : nE B < 8 := by omega
  rw [if_pos q9] at h
  rw [mI3, vpI (by omega), nI_clamp (by omega)]
  have e0 := hR.n2
  refine ⟨by omega, ?_⟩
  rintro M1 rfl
  have e1 := rdj (k' := 0) (i := 48 + nE B) (v := a) e0 (by omega)
  rw [e1, mI4, vpI (by omega), nI_clamp (by omega)]
  refine ⟨by omega, ?_⟩
  rintro M1 rfl
  have e2 := rdj (k' := 0) (i := 56 + nE B) (v := 0) e1 (by omega)
  rw [e2]
  rintro M1 rfl
  rw [mI6, rd_wr_s, nI_m1 (by omega)]
  have hW := hR.1.putE rfl q9 (inb_t.mp q1)
  refine h _ (fun t k j hn => ?_) ⟨hW, Agr.rw hW ?_⟩
  · have : t ≠ 160 := fun z => hn (by rw [z]; decide)
    rw [rd_wr_n (by omega), rd_wr_n (by omega), rd_wr_n (by omega)]
  · rw [rd_ups, rd_ups, rd_ups]
    exact ag_putE rfl q9 hR.ag (vM_w (f := 13) rfl (by unfold lg; omega)) (vM_w (f := 14) rfl (by unfold lg; omega)) (vM_w (f := 12) rfl (by unfold lg; omega))

theorem q_laysClaim (hR : RM B M) (a b c : Int32) {P : Int32 → Mm → Prop} (h : ∀ M2, Fr [160] M M2 → RM (insK B a b c).2 M2 → P (insK B a b c).1 M2) : wp_X7_laysClaim a b c M P := by
  have hc6 := hR.1.c6; have hl4 := hR.1.l4; have he8 := hR.1.e8; have hk24 := hR.1.k24
  unfold insK at h
  unfold wp_X7_laysClaim
  refine q_isEvent hR (tst (fun q1 => ?_) (fun q1 => ?_))
  · rw [if_neg (by rw [show inR a (nE B) = false from q1]; decide)] at h; exact h _ Fr.rf hR
  rw [if_pos (show inR a (nE B) = true from q1)] at h
  refine q_isCover hR (tsw (fun q2 => ?_) (fun q2 => ?_))
  rotate_left
  · rw [if_neg (by rw [show inR b (nC B) = false from q2]; decide)] at h; exact h _ Fr.rf hR
  rw [if_pos (show inR b (nC B) = true from q2)] at h
  refine q_in (tsw (fun q3 => ?_) (fun q3 => ?_))
  rotate_left
  · rw [if_neg (by rw [show inb c 1 99999 = false from q3]; decide)] at h; exact h _ Fr.rf hR
  rw [if_pos (show inb c 1 99999 = true from q3)] at h
  rw [hR.n3, show (24 : Int32) = nI 24 from rfl]
  refine cNe (by omega) (by omega) (fun q9 => ?_) (fun q9 => ?_)
  rotate_left
  · rw [if_neg (by omega)] at h; exact h _ Fr.rf hR
  have q9 : nK B < 24 := by omega
  rw [if_pos q9] at h
  rintro x11 rfl
  rw [mI2, mI6, mI7, vpI (by omega), vpI (by omega), vpI (by omega), nI_clamp (by omega), nI_clamp (by omega), nI_clamp (by omega)]
  have e0 := hR.n3
  refine ⟨by omega, ?_⟩
  rintro M1 rfl
  have e1 := rdj (k' := 0) (i := 64 + 3 * nK B) (v := a) e0 (by omega)
  refine ⟨by omega, ?_⟩
  rintro M1 rfl
  have e2 := rdj (k' := 0) (i := 64 + 3 * nK B + 1) (v := b) e1 (by omega)
  refine ⟨by omega, ?_⟩
  rintro M1 rfl
  have e3 := rdj (k' := 0) (i := 64 + 3 * nK B + 2) (v := c) e2 (by omega)
  rw [e3]
  rintro M1 rfl
  rw [mI6, rd_wr_s, nI_m1 (by omega)]
  have hW := hR.1.putK rfl q9 (inR_nI q1) (inR_nI q2) (inb_t.mp q3)
  refine h _ (fun t k j hn => ?_) ⟨hW, Agr.rw hW ?_⟩
  · have : t ≠ 160 := fun z => hn (by rw [z]; decide)
    rw [rd_wr_n (by omega), rd_wr_n (by omega), rd_wr_n (by omega), rd_wr_n (by omega)]
  · rw [rd_ups, rd_ups, rd_ups, rd_ups]
    exact ag_putK rfl q9 hR.ag (vM_w (f := 16) rfl (by unfold lg; omega)) (vM_w (f := 17) rfl (by unfold lg; omega)) (vM_w (f := 18) rfl (by unfold lg; omega)) (vM_w (f := 15) rfl (by unfold lg; omega))

theorem q_laysRecovery (hR : RM B M) (a d : Int32) {P : Int32 → Mm → Prop} (h : ∀ M2, Fr [160] M M2 → RM (chRec B a d).2 M2 → P (chRec B a d).1 M2) : wp_X7_laysRecovery a d M P := by
  have hc6 := hR.1.c6; have hl4 := hR.1.l4; have he8 := hR.1.e8; have hk24 := hR.1.k24
  unfold chRec at h
  unfold wp_X7_laysRecovery
  refine q_isEvent hR (tsw (fun q1 => ?_) (fun q1 => ?_))
  rotate_left
  · rw [if_neg (by rw [show inR a (nE B) = false from q1]; decide)] at h; exact h _ Fr.rf hR
  rw [if_pos (show inR a (nE B) = true from q1)] at h
  refine q_in (tsw (fun q2 => ?_) (fun q2 => ?_))
  rotate_left
  · rw [if_neg (by rw [show inb d 0 999999 = false from q2]; decide)] at h; exact h _ Fr.rf hR
  rw [if_pos (show inb d 0 999999 = true from q2)] at h
  obtain ⟨e, he, rfl⟩ := inR_nI q1
  rw [nI_clamp (by omega)] at h
  rw [mI4, vpI (by omega), nI_clamp (by omega)]
  refine ⟨by omega, ?_⟩
  rintro x9 rfl M10 rfl
  rw [hR.e14 he]
  exact h _ (Fr.wr (by decide)) (hR.set14 he (inb_t.mp q2))
end MBO
