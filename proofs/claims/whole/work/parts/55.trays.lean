/-! THE TRAYS -/
abbrev Ys : Type := (Nat → Nat) × (Nat → Nat → Int32)
def kc (n : Nat) : Int32 := if n = 0 then -4 else if n = 1 then 0 else 1
def CY (y : Ys) (M : Mm) : Prop := ∀ p, p < 12 → y.1 p ≤ 2 ∧ rd M 100 0 p = kc (y.1 p) ∧ (y.1 p ≠ 0 → ∀ j, j < 4 → rd M 301 p j = y.2 p j)
def MY (y : Ys) (M : Mm) : Prop := ∀ p, p < 12 → y.1 p ≤ 2 ∧ rd M 173 0 p = nI (y.1 p) ∧ (y.1 p ≠ 0 → ∀ j, j < 4 → rd M 174 0 (4 * p + j) = y.2 p j)
def plT (a b : Int32) : Nat := 4 * a.toNatClampNeg + b.toNatClampNeg
def ansFiled (y : Ys) (a b : Int32) : Int32 := if (inR a 3 && inR b 4) = true then kc (y.1 (plT a b)) else -1
def useA (B : Bk) (y : Ys) (a b : Int32) : Int32 × Bk := if (inR a 3 && inR b 4) = true then (if y.1 (plT a b) = 0 then (-4, B) else if y.1 (plT a b) = 1 then insC B (y.2 (plT a b) 0) (y.2 (plT a b) 1) (y.2 (plT a b) 2) (y.2 (plT a b) 3) else insL B (y.2 (plT a b) 0) (y.2 (plT a b) 1) (y.2 (plT a b) 2) (y.2 (plT a b) 3)) else (-1, B)
def putY (y : Ys) (q kd : Nat) (r : Nat → Int32) : Ys := (fun p => if p = q then kd else y.1 p, fun p => if p = q then r else y.2 p)
def cntY (y : Ys) (t : Nat) : Nat := cnt (fun j => decide (y.1 (4 * t + j) ≠ 0)) 4
def fileA (B : Bk) (y : Ys) (a b k n : Int32) : Int32 × Ys := if (inR a 3 && inR b 4) = true then (if k = 0 then (if inR n (nC B) = true then (if a = 2 ∨ a = 0 then (nI (cntY (putY y (plT a b) 1 (fun j => B (1 + j) n.toNatClampNeg)) a.toNatClampNeg), putY y (plT a b) 1 (fun j => B (1 + j) n.toNatClampNeg)) else (-6, y)) else (-1, y)) else if k = 1 then (if inR n (nL B) = true then (if a = 2 ∨ a = 1 then (nI (cntY (putY y (plT a b) 2 (fun j => B (6 + j) n.toNatClampNeg)) a.toNatClampNeg), putY y (plT a b) 2 (fun j => B (6 + j) n.toNatClampNeg)) else (-6, y)) else (-1, y)) else (-2, y)) else (-1, y)
theorem tI (t p : Nat) : nI t * (4 : Int32) + nI p = nI (4 * t + p) := by rw [show (4 : Int32) = nI 4 from rfl, pk_mul, nI_add, Nat.mul_comm]
theorem tI' (t p : Nat) : (4 : Int32) * nI t + nI p = nI (4 * t + p) := by rw [show (4 : Int32) = nI 4 from rfl, pk_mul, nI_add]
theorem plc_of {a b : Int32} (h : (inR a 3 && inR b 4) = true) : ∃ t p, t < 3 ∧ p < 4 ∧ a = nI t ∧ b = nI p ∧ plT a b = 4 * t + p := by
  rw [Bool.and_eq_true] at h
  obtain ⟨t, ht, rfl⟩ := inR_nI h.1
  obtain ⟨p, hp, rfl⟩ := inR_nI h.2
  refine ⟨t, p, ht, hp, rfl, rfl, ?_⟩
  unfold plT
  rw [nI_clamp (by omega), nI_clamp (by omega)]
section TRY
variable {B : Bk} {M : Mm} {H : Hs} {y : Ys}
theorem CY.kept {M2 : Mm} {R : Nat → Nat → Nat → Prop} (h : CY y M) (hf : Fg R M M2) (hr : ∀ t k j, t = 100 ∨ t = 301 → ¬ R t k j) : CY y M2 := fun p hp => by
  obtain ⟨h1, h2, h3⟩ := h p hp
  exact ⟨h1, by rw [hf _ _ _ (hr _ _ _ (Or.inl rfl))]; exact h2, fun q j hj => by rw [hf _ _ _ (hr _ _ _ (Or.inr rfl))]; exact h3 q j hj⟩
theorem MY.kept {M2 : Mm} {R : Nat → Nat → Nat → Prop} (h : MY y M) (hf : Fg R M M2) (hr : ∀ t k j, t = 173 ∨ t = 174 → ¬ R t k j) : MY y M2 := fun p hp => by
  obtain ⟨h1, h2, h3⟩ := h p hp
  exact ⟨h1, by rw [hf _ _ _ (hr _ _ _ (Or.inl rfl))]; exact h2, fun q j hj => by rw [hf _ _ _ (hr _ _ _ (Or.inr rfl))]; exact h3 q j hj⟩
theorem y_hasPlace {a b : Int32} {P : Int32 → Mm → Prop} (h : P (if (inR a 3 && inR b 4) = true then 1 else 0) M) : wp_X4_hasPlace a b M P := by
  unfold wp_X4_hasPlace
  refine y_in (tst (fun q => ?_) (fun q => ?_))
  · rw [show inR a 3 = false from q] at h; exact h
  · rw [show inR a 3 = true from q] at h
    refine y_in (tst (fun q2 => ?_) (fun q2 => ?_))
    · rw [show inR b 4 = false from q2] at h; exact h
    · rw [show inR b 4 = true from q2] at h; exact h
theorem c_filed (hY : CY y M) (a b : Int32) {P : Int32 → Mm → Prop} (h : P (ansFiled y a b) M) : wp_X6_filed a b M P := by
  unfold ansFiled at h
  unfold wp_X6_filed
  refine y_hasPlace (tst (fun q => ?_) (fun q => ?_))
  · rw [if_neg (by rw [q]; decide)] at h; exact h
  rw [if_pos q] at h
  obtain ⟨t, p, ht, hp, rfl, rfl, e⟩ := plc_of q
  rw [e] at h
  unfold wp_X4_kindAt
  rw [tI, vpI (by omega), nI_clamp (by omega), (hY (4 * t + p) (by omega)).2.1]
  exact ⟨by omega, h⟩
theorem m_filed (hY : MY y M) (a b : Int32) {P : Int32 → Mm → Prop} (h : P (ansFiled y a b) M) : wp_X7_filed a b M P := by
  unfold ansFiled at h
  unfold wp_X7_filed
  refine q_isPlace (tsw (fun q => ?_) (fun q => ?_))
  rotate_left
  · rw [if_neg (by rw [q]; decide)] at h; exact h
  rw [if_pos q] at h
  obtain ⟨t, p, ht, hp, rfl, rfl, e⟩ := plc_of q
  rw [e] at h
  rw [tI', vpI (by omega), nI_clamp (by omega), (hY (4 * t + p) (by omega)).2.1]
  refine ⟨by omega, ?_⟩
  rintro x5 rfl
  have h2 := (hY (4 * t + p) (by omega)).1
  generalize y.1 (4 * t + p) = z at *
  unfold kc at h
  refine cNe (b := 0) (by omega) (by omega) (fun w => ?_) (fun w => ?_)
  · rw [if_neg w] at h
    rw [nI_p (by omega) (by omega)]
    by_cases w2 : z = 1
    · rw [if_pos w2] at h; rw [w2]; exact h
    · rw [if_neg w2] at h; rw [show z - 1 = 1 by omega]; exact h
  · rw [if_pos w] at h; exact h
theorem c_use (hR : RC B M) (hH : CH H M) (hY : CY y M) (a b : Int32) {P : Int32 → Mm → Prop} (h : ∀ M2, Fg rW M M2 → RC (useA B y a b).2 M2 → CH (updH (useA B y a b).1 H B) M2 → P (useA B y a b).1 M2) : wp_X6_use a b M P := by
  unfold useA at h
  unfold wp_X6_use
  refine c_filed hY a b ?_
  unfold ansFiled
  by_cases q : (inR a 3 && inR b 4) = true
  rotate_left
  · rw [if_neg q] at h ⊢
    refine ⟨fun w => absurd w (by decide), fun _ => h _ Fg.rf hR (by rw [show updH (-1, B).1 H B = H from upd_m.1]; exact hH)⟩
  rw [if_pos q] at h ⊢
  obtain ⟨t, p, ht, hp, rfl, rfl, e⟩ := plc_of q
  rw [e] at h ⊢
  obtain ⟨h2, h3, h4⟩ := hY (4 * t + p) (by omega)
  by_cases w : y.1 (4 * t + p) = 0
  · rw [if_pos w] at h
    rw [w]
    refine ⟨fun w => absurd w (by decide), fun _ => h _ Fg.rf hR (by rw [show updH (-4, B).1 H B = H from if_pos (show (-4 : Int32) < 0 by decide)]; exact hH)⟩
  rw [if_neg w] at h
  have h4 := h4 w
  have hi : IA (301, 4 * t + p) := ⟨mw301 _ (by omega), kt301⟩
  have v0 : ∀ k, k < 4 → vp_in (nI k) (lenT (301, 4 * t + p).1) := fun k hk => by rw [lt301, vpI (by omega)]; exact hk
  unfold wp_X4_rowAt
  rw [tI, vpI (by omega), nI_clamp (by omega)]
  unfold kc
  rw [if_neg w]
  by_cases w2 : y.1 (4 * t + p) = 1
  · rw [if_pos w2] at h ⊢
    refine ⟨fun _ => ⟨by omega, fun z => absurd rfl z, fun _ => ⟨hi, v0 0 (by omega), v0 1 (by omega), v0 2 (by omega), v0 3 (by omega), ?_⟩⟩, fun z => absurd (by decide) z⟩
    rw [h4 0 (by omega), h4 1 (by omega), h4 2 (by omega), h4 3 (by omega)]
    exact c_addCover hR hH _ _ _ _ h
  · rw [if_neg w2] at h ⊢
    refine ⟨fun _ => ⟨by omega, fun _ => ⟨hi, v0 0 (by omega), v0 1 (by omega), v0 2 (by omega), v0 3 (by omega), ?_⟩, fun z => absurd z (by decide)⟩, fun z => absurd (by decide) z⟩
    rw [h4 0 (by omega), h4 1 (by omega), h4 2 (by omega), h4 3 (by omega)]
    exact c_addLayer hR hH _ _ _ _ h
theorem m_use (hR : RM B M) (hH : MH H M) (hY : MY y M) (a b : Int32) {P : Int32 → Mm → Prop} (h : ∀ M2, Fg qW M M2 → RM (useA B y a b).2 M2 → MH (updH (useA B y a b).1 H B) M2 → P (useA B y a b).1 M2) : wp_X7_use a b M P := by
  unfold useA at h
  unfold wp_X7_use
  refine q_isPlace (tsw (fun q => ?_) (fun q => ?_))
  rotate_left
  · rw [if_neg (by rw [q]; decide)] at h
    exact h _ Fg.rf hR (by rw [show updH (-1, B).1 H B = H from upd_m.1]; exact hH)
  rw [if_pos q] at h
  obtain ⟨t, p, ht, hp, rfl, rfl, e⟩ := plc_of q
  rw [e] at h
  rintro x4 rfl
  rw [tI', vpI (by omega), nI_clamp (by omega)]
  obtain ⟨h2, h3, h4⟩ := hY (4 * t + p) (by omega)
  rw [h3]
  refine ⟨by omega, cNe (b := 0) (by omega) (by omega) (fun w => ?_) (fun w => ?_)⟩
  rotate_left
  · rw [if_pos w] at h
    exact h _ Fg.rf hR (by rw [show updH (-4, B).1 H B = H from if_pos (show (-4 : Int32) < 0 by decide)]; exact hH)
  rw [if_neg w] at h
  have h4 := h4 w
  refine q_keeps hR (fun M1 f1 k1 => ?_)
  have hR1 := hR.keptg f1 (fun k j => by decide)
  have hH1 := hH.kept f1 (fun t k j q => by omega)
  have g : ∀ j, j < 4 → rd M1 174 0 (4 * (4 * t + p) + j) = y.2 (4 * t + p) j := fun j hj => by rw [f1 _ _ _ (show ¬ 174 = 163 by decide)]; exact h4 j hj
  have g0 := g 0 (by omega)
  have g1 := g 1 (by omega)
  have g2 := g 2 (by omega)
  have g3 := g 3 (by omega)
  rw [Nat.add_zero] at g0
  rw [show (4 : Int32) * nI (4 * t + p) = nI (4 * (4 * t + p)) from by rw [show (4 : Int32) = nI 4 from rfl, pk_mul], mI6, mI7, mI8, vpI (by omega), vpI (by omega), vpI (by omega), vpI (by omega), nI_clamp (by omega), nI_clamp (by omega), nI_clamp (by omega), nI_clamp (by omega), f1 173 0 _ (show ¬ 173 = 163 by decide), h3]
  refine ⟨by omega, ?_⟩
  rintro x9 rfl
  refine ⟨by omega, ?_⟩
  rintro x11 rfl
  refine ⟨by omega, ?_⟩
  rintro x13 rfl
  refine ⟨by omega, ?_⟩
  rintro x15 rfl
  rw [g0, g1, g2, g3]
  have fin : ∀ (r : Int32) (B2 : Bk) (M3 : Mm), Fr [160] M1 M3 → RM B2 M3 → (∀ M4, Fg qW M M4 → RM B2 M4 → MH (updH r H B) M4 → P r M4) → wp_X7_made r M3 (fun (r21 : Int32) (M20 : Mm) => P r21 M20) := fun r B2 M3 f2 hR2 hh => by
    have f2 := fr160 f2
    exact q_made hR2 (hH1.kept f2 (fun t k j q => by omega)) hR.1 (rowk hR.1 k1 f2 (fun j => by decide)) (fun M4 f4 hR4 hH4 => hh _ (((f1.mo (fun t k j q => by unfold qW; omega)).tr (f2.mo (fun t k j q => by unfold qW; omega))).tr f4) hR4 hH4)
  unfold jn
  refine cNe (b := 1) (by omega) (by omega) (fun w2 => ?_) (fun w2 => ?_)
  · rw [if_neg w2] at h
    exact q_laysLayer hR1 _ _ _ _ (fun M3 f2 hR2 => fin _ _ _ f2 hR2 h)
  · rw [if_pos w2] at h
    exact q_laysCover hR1 _ _ _ _ (fun M3 f2 hR2 => fin _ _ _ f2 hR2 h)
end TRY
