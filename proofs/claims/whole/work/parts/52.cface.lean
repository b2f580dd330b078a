/-! THE CLASS: its changing calls -/
section CFC
variable {B : Bk} {M : Mm} {H : Hs}
theorem CHm.kept {B0 : Bk} {M2 : Mm} {R : Nat → Nat → Nat → Prop} (h : CHm H B0 M) (hf : Fg R M M2) (hr : ∀ t k j, t = 1 ∨ ((t = 0 ∨ 21 ≤ t ∧ t ≤ 38) ∧ 2 ≤ k ∧ k < 9) → ¬ R t k j) : CHm H B0 M2 := by
  obtain ⟨m, hm, hB⟩ := h
  have := hm.1
  exact ⟨m, hm.kept hf (fun t k j q => hr t k j (by omega)), hB.kept hf (fun t j q => hr t _ j (by omega))⟩
theorem CH.kept {M2 : Mm} {R : Nat → Nat → Nat → Prop} (h : CH H M) (hf : Fg R M M2) (hr : ∀ t k j, t = 1 ∨ ((t = 0 ∨ 21 ≤ t ∧ t ≤ 38) ∧ 2 ≤ k ∧ k < 9) → ¬ R t k j) : CH H M2 := by
  obtain ⟨m, hm⟩ := h
  exact ⟨m, hm.kept hf (fun t k j q => hr t k j (by omega))⟩
theorem rB_rW {t k j : Nat} (h : rB t k j) : rW t k j := by unfold rB at h; unfold rW; omega

theorem c_addCover (hR : RC B M) (hH : CH H M) (a b c d : Int32) {P : Int32 → Mm → Prop} (h : ∀ M2, Fg rW M M2 → RC (insC B a b c d).2 M2 → CH (updH (insC B a b c d).1 H B) M2 → P (insC B a b c d).1 M2) : wp_X6_addCover a b c d M P := by
  unfold wp_X6_addCover
  refine y_mark hR hH (fun M1 f1 hR1 hH1 => ?_)
  refine y_insertCover hR1 a b c d (fun M2 f2 hR2 => ?_)
  exact y_changed hR2 hR.1 (hH1.kept f2 (fun t k j q => by unfold rB; omega)) (fun M4 f4 hR4 hH4 => h _ ((f1.tr (f2.mo (fun _ _ _ => rB_rW))).tr f4) hR4 hH4)

theorem c_addLayer (hR : RC B M) (hH : CH H M) (a b c d : Int32) {P : Int32 → Mm → Prop} (h : ∀ M2, Fg rW M M2 → RC (insL B a b c d).2 M2 → CH (updH (insL B a b c d).1 H B) M2 → P (insL B a b c d).1 M2) : wp_X6_addLayer a b c d M P := by
  unfold wp_X6_addLayer
  refine y_mark hR hH (fun M1 f1 hR1 hH1 => ?_)
  refine y_insertLayer hR1 a b c d (fun M2 f2 hR2 => ?_)
  exact y_changed hR2 hR.1 (hH1.kept f2 (fun t k j q => by unfold rB; omega)) (fun M4 f4 hR4 hH4 => h _ ((f1.tr (f2.mo (fun _ _ _ => rB_rW))).tr f4) hR4 hH4)

theorem c_addEvent (hR : RC B M) (hH : CH H M) (a : Int32) {P : Int32 → Mm → Prop} (h : ∀ M2, Fg rW M M2 → RC (insE B a).2 M2 → CH (updH (insE B a).1 H B) M2 → P (insE B a).1 M2) : wp_X6_addEvent a M P := by
  unfold wp_X6_addEvent
  refine y_mark hR hH (fun M1 f1 hR1 hH1 => ?_)
  refine y_insertEvent hR1 a (fun M2 f2 hR2 => ?_)
  exact y_changed hR2 hR.1 (hH1.kept f2 (fun t k j q => by unfold rB; omega)) (fun M4 f4 hR4 hH4 => h _ ((f1.tr (f2.mo (fun _ _ _ => rB_rW))).tr f4) hR4 hH4)

theorem c_addClaim (hR : RC B M) (hH : CH H M) (a b c : Int32) {P : Int32 → Mm → Prop} (h : ∀ M2, Fg rW M M2 → RC (insK B a b c).2 M2 → CH (updH (insK B a b c).1 H B) M2 → P (insK B a b c).1 M2) : wp_X6_addClaim a b c M P := by
  unfold wp_X6_addClaim
  refine y_mark hR hH (fun M1 f1 hR1 hH1 => ?_)
  refine y_insertClaim hR1 a b c (fun M2 f2 hR2 => ?_)
  exact y_changed hR2 hR.1 (hH1.kept f2 (fun t k j q => by unfold rB; omega)) (fun M4 f4 hR4 hH4 => h _ ((f1.tr (f2.mo (fun _ _ _ => rB_rW))).tr f4) hR4 hH4)

theorem c_removeClaim (hR : RC B M) (hH : CH H M) (a : Int32) {P : Int32 → Mm → Prop} (h : ∀ M2, Fg rW M M2 → RC (rmK B a).2 M2 → CH (updH (rmK B a).1 H B) M2 → P (rmK B a).1 M2) : wp_X6_removeClaim a M P := by
  unfold wp_X6_removeClaim
  refine y_mark hR hH (fun M1 f1 hR1 hH1 => ?_)
  refine y_dropClaim hR1 a (fun M2 f2 hR2 => ?_)
  exact y_changed hR2 hR.1 (hH1.kept f2 (fun t k j q => by unfold rB; omega)) (fun M4 f4 hR4 hH4 => h _ ((f1.tr (f2.mo (fun _ _ _ => rB_rW))).tr f4) hR4 hH4)

theorem c_setDay (hR : RC B M) (hH : CH H M) (a d : Int32) {P : Int32 → Mm → Prop} (h : ∀ M2, Fg rW M M2 → RC (chDay B a d).2 M2 → CH (updH (chDay B a d).1 H B) M2 → P (chDay B a d).1 M2) : wp_X6_setDay a d M P := by
  unfold wp_X6_setDay
  refine y_mark hR hH (fun M1 f1 hR1 hH1 => ?_)
  refine y_changeDay hR1 a d (fun M2 f2 hR2 => ?_)
  exact y_changed hR2 hR.1 (hH1.kept f2 (fun t k j q => by unfold rB; omega)) (fun M4 f4 hR4 hH4 => h _ ((f1.tr (f2.mo (fun _ _ _ => rB_rW))).tr f4) hR4 hH4)

theorem c_setDeductible (hR : RC B M) (hH : CH H M) (a d : Int32) {P : Int32 → Mm → Prop} (h : ∀ M2, Fg rW M M2 → RC (chDed B a d).2 M2 → CH (updH (chDed B a d).1 H B) M2 → P (chDed B a d).1 M2) : wp_X6_setDeductible a d M P := by
  unfold wp_X6_setDeductible
  refine y_mark hR hH (fun M1 f1 hR1 hH1 => ?_)
  refine y_changeDeductible hR1 a d (fun M2 f2 hR2 => ?_)
  exact y_changed hR2 hR.1 (hH1.kept f2 (fun t k j q => by unfold rB; omega)) (fun M4 f4 hR4 hH4 => h _ ((f1.tr (f2.mo (fun _ _ _ => rB_rW))).tr f4) hR4 hH4)

theorem c_setIndex (hR : RC B M) (hH : CH H M) (d : Int32) {P : Int32 → Mm → Prop} (h : ∀ M2, Fg rW M M2 → RC (chRate B d).2 M2 → CH (updH (chRate B d).1 H B) M2 → P (chRate B d).1 M2) : wp_X6_setIndex d M P := by
  unfold wp_X6_setIndex
  refine y_mark hR hH (fun M1 f1 hR1 hH1 => ?_)
  refine y_changeRate hR1 d (fun M2 f2 hR2 => ?_)
  exact y_changed hR2 hR.1 (hH1.kept f2 (fun t k j q => by unfold rB; omega)) (fun M4 f4 hR4 hH4 => h _ ((f1.tr (f2.mo (fun _ _ _ => rB_rW))).tr f4) hR4 hH4)

theorem c_setRecovery (hR : RC B M) (hH : CH H M) (a d : Int32) {P : Int32 → Mm → Prop} (h : ∀ M2, Fg rW M M2 → RC (chRec B a d).2 M2 → CH (updH (chRec B a d).1 H B) M2 → P (chRec B a d).1 M2) : wp_X6_setRecovery a d M P := by
  unfold wp_X6_setRecovery
  refine y_mark hR hH (fun M1 f1 hR1 hH1 => ?_)
  refine y_changeRecovery hR1 a d (fun M2 f2 hR2 => ?_)
  exact y_changed hR2 hR.1 (hH1.kept f2 (fun t k j q => by unfold rB; omega)) (fun M4 f4 hR4 hH4 => h _ ((f1.tr (f2.mo (fun _ _ _ => rB_rW))).tr f4) hR4 hH4)

def unD (H : Hs) (B : Bk) : Int32 × Bk × Hs := if H.1 = 0 then (-4, B, H) else (nI (H.1 - 1), H.2 (H.1 - 1), (H.1 - 1, H.2))
theorem c_undo (hR : RC B M) (hH : CH H M) {P : Int32 → Mm → Prop} (h : ∀ M2, Fg rW M M2 → RC (unD H B).2.1 M2 → CH (unD H B).2.2 M2 → P (unD H B).1 M2) : wp_X6_undo M P := by
  have hH0 := hH
  obtain ⟨m, h1, h2, h3, h4, h5⟩ := hH
  unfold unD at h
  unfold wp_X6_undo wp_X1_goBack
  rw [h3, show (0 : Int32) = nI 0 from rfl]
  refine cNe (by omega) (by omega) (fun q => ?_) (fun q => ?_)
  rotate_left
  · rw [if_pos q] at h; exact h _ Fg.rf hR hH0
  rw [if_neg q] at h
  rintro M2 rfl M3 rfl
  rw [nI_p (by omega) (by omega), rdj h2 (by omega), show (7 : Int32) = nI 7 from rfl, nI_add, nI_p (by omega) (by omega), pk_rem (by omega) (by omega) (by omega)]
  unfold wp_X1_returnToMark
  rw [rd_wr_s, vpI (by omega), nI_clamp (by omega)]
  have hF : Fg (fun t _ _ => t = 1) M (wr (wr M 1 0 2 (nI (H.1 - 1))) 1 0 1 (nI ((m + 7 - 1) % 7))) := (Fg.w rfl).tr (Fg.w rfl)
  have hb : ∀ {C : Bk} {k : Nat}, BookR C k M → BookR C k (wr (wr M 1 0 2 (nI (H.1 - 1))) 1 0 1 (nI ((m + 7 - 1) % 7))) := fun hc => hc.kept hF (fun t j ht => by show ¬ t = 1; omega)
  have hx := h5 (H.1 - 1) (by omega)
  rw [show (m + 7 - H.1 + (H.1 - 1)) % 7 = (m + 7 - 1) % 7 by omega] at hx
  refine ⟨by omega, by decide, y_copyFrom (by decide) (by omega) (by omega) (fun M4 f4 e4 => ?_)⟩
  have k1 : ∀ t k j, ¬ (k = 0 ∧ (t = 0 ∨ 21 ≤ t ∧ t ≤ 38)) → ¬ rK 0 t k j := fun t k j q z => q z
  have g2 : rd M4 1 0 2 = nI (H.1 - 1) := by
    rw [f4 _ _ _ (k1 _ _ _ (by omega)), rd_wr_n (by omega), rd_wr_s]
  show P (rd M4 1 0 2) M4
  rw [g2]
  refine h _ ((hF.mo (fun t k j q => Or.inl q)).tr (f4.mo (fun t k j q => by unfold rK at q; show t = 1 ∨ ((t = 0 ∨ 21 ≤ t ∧ t ≤ 38) ∧ k ≠ 1); omega))) ⟨hx.1, bookR_of hx.1 (hb hx.2) e4⟩ ⟨(m + 7 - 1) % 7, by omega, ?_, g2, ?_, fun j hj => ?_⟩
  · rw [f4 _ _ _ (k1 _ _ _ (by omega)), rd_wr_s]
  · show H.1 - 1 ≤ 6; omega
  · have hj : j < H.1 - 1 := hj
    have hy := h5 j (by omega)
    show WF (H.2 j) ∧ BookR (H.2 j) (2 + ((m + 7 - 1) % 7 + 7 - (H.1 - 1) + j) % 7) M4
    rw [show ((m + 7 - 1) % 7 + 7 - (H.1 - 1) + j) % 7 = (m + 7 - H.1 + j) % 7 by omega]
    exact ⟨hy.1, (hb hy.2).kept f4 (fun t i q => k1 _ _ _ (by omega))⟩
def CS (s : Bool × Bk) (M : Mm) : Prop := rd M 6 0 6 = (if s.1 = true then 1 else 0) ∧ (s.1 = true → WF s.2 ∧ BookR s.2 1 M)
def rS (t k j : Nat) : Prop := (k = 1 ∧ (t = 0 ∨ 21 ≤ t ∧ t ≤ 38)) ∨ (t = 6 ∧ j = 6)
theorem c_save (hR : RC B M) {P : Int32 → Mm → Prop} (h : ∀ M2, Fg rS M M2 → CS (true, B) M2 → P (nI (nK B)) M2) : wp_X6_save M P := by
  unfold wp_X6_save
  refine y_copyFrom (by decide) (by decide) (by decide) (fun M2 f2 e2 => ?_)
  rintro M3 rfl
  have g : rd M2 0 0 15 = nI (nK B) := by rw [f2 _ _ _ (by unfold rK; omega)]; exact hR.n15
  rw [rdk g (by decide)]
  have f3 : Fg (fun t _ j => t = 6 ∧ j = 6) M2 (wr M2 6 0 6 1) := Fg.w ⟨rfl, rfl⟩
  refine h _ ((f2.mo (fun t k j q => Or.inl q)).tr (f3.mo (fun t k j q => Or.inr q))) ⟨rd_wr_s, fun _ => ⟨hR.1, (bookR_of hR.1 hR.2 e2).kept f3 (fun t j q => by show ¬ (t = 6 ∧ j = 6); omega)⟩⟩
def reD (s : Bool × Bk) (H : Hs) (B : Bk) : Int32 × Bk × Hs := if s.1 = true then (nI (nK s.2), s.2, (0, H.2)) else (-5, B, H)
theorem c_restore (hR : RC B M) (hH : CH H M) {s : Bool × Bk} (hS : CS s M) {P : Int32 → Mm → Prop} (h : ∀ M2, Fg rW M M2 → RC (reD s H B).2.1 M2 → CH (reD s H B).2.2 M2 → P (reD s H B).1 M2) : wp_X6_restore M P := by
  unfold reD at h
  unfold wp_X6_restore
  rw [hS.1]
  refine tsw (fun q => ?_) (fun q => ?_)
  rotate_left
  · rw [if_neg (by rw [q]; decide)] at h; exact h _ Fg.rf hR hH
  rw [if_pos q] at h
  obtain ⟨hW, hB⟩ := hS.2 q
  refine y_copyFrom (by decide) (by decide) (by decide) (fun M2 f2 e2 => ?_)
  unfold wp_X1_forget
  rintro M3 rfl
  have hb2 := bookR_of hW hB e2
  have f3 : Fg (fun t _ _ => t = 1) M2 (wr M2 1 0 2 0) := Fg.w rfl
  have hb3 : BookR s.2 0 (wr M2 1 0 2 0) := hb2.kept f3 (fun t j q => by show ¬ t = 1; omega)
  have hR3 : RC s.2 (wr M2 1 0 2 0) := ⟨hW, hb3⟩
  rw [hR3.n15]
  obtain ⟨m, h1, h2, h3, h4, h5⟩ := hH
  refine h _ ((f2.mo (fun t k j q => by unfold rK at q; show t = 1 ∨ ((t = 0 ∨ 21 ≤ t ∧ t ≤ 38) ∧ k ≠ 1); omega)).tr (f3.mo (fun t k j q => Or.inl q))) hR3 ⟨m, h1, ?_, rd_wr_s, by show 0 ≤ 6; omega, fun j hj => absurd hj (Nat.not_lt_zero _)⟩
  rw [rd_wr_n (by omega), f2 _ _ _ (by unfold rK; omega)]
  exact h2
end CFC
