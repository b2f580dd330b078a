/-! FILING -/
section FIL
variable {B : Bk} {M : Mm} {y : Ys}
theorem cntY_le (y : Ys) (t n : Nat) : cnt (fun j => decide (y.1 (4 * t + j) ≠ 0)) n ≤ n := by
  induction n with
  | zero => exact Nat.le_refl _
  | succ n ih =>
    show cnt _ n + _ ≤ n + 1
    split <;> omega
theorem y_filled {t : Nat} (ht : t < 3) (hY : CY y M) {P : Int32 → Mm → Prop} (h : P (nI (cntY y t)) M) : wp_X4_filledPlaces (nI t) M P := by
  unfold wp_X4_filledPlaces
  refine lq3_i (fun s x M' => M' = M ∧ ∃ j, j ≤ 4 ∧ x = nI j ∧ s = nI (cnt (fun j => decide (y.1 (4 * t + j) ≠ 0)) j)) (fun _ x _ => 4 - x.toNatClampNeg) ?_ _ _ _ ⟨rfl, 0, by omega, rfl, rfl⟩
  rintro s x M' ⟨rfl, j, hj, rfl, rfl⟩ self hself
  rw [show (4 : Int32) = nI 4 from rfl]
  refine cLe (by omega) (by omega) (fun q => ?_) (fun q => ?_)
  · have : j = 4 := by omega
    subst this
    exact h
  · unfold wp_X4_kindAt
    rw [tI, vpI (by omega), nI_clamp (by omega)]
    obtain ⟨h2, h3, h4⟩ := hY (4 * t + j) (by omega)
    rw [h3]
    refine ⟨by omega, ?_⟩
    have hc := cntY_le y t j
    have step : ∀ v : Int32, v = nI (cnt (fun j => decide (y.1 (4 * t + j) ≠ 0)) (j + 1)) → ∀ x12 : Int32, x12 = nI j + 1 → self v x12 M' := by
      rintro v rfl x12 rfl
      refine hself _ _ _ ⟨rfl, j + 1, by omega, mI6 j, rfl⟩ ?_
      rw [mI6, nI_clamp (by omega), nI_clamp (by omega)]; omega
    have hs : cnt (fun j => decide (y.1 (4 * t + j) ≠ 0)) (j + 1) = cnt (fun j => decide (y.1 (4 * t + j) ≠ 0)) j + (if decide (y.1 (4 * t + j) ≠ 0) = true then 1 else 0) := rfl
    unfold jn
    unfold kc
    by_cases w : y.1 (4 * t + j) = 0
    · rw [if_pos w]
      refine ⟨fun _ => step _ ?_, fun z => absurd rfl z⟩
      rw [hs, if_neg (by simp [w])]
      rfl
    · rw [if_neg w]
      have hd : ¬ (if y.1 (4 * t + j) = 1 then (0 : Int32) else 1) = -4 := by split <;> decide
      refine ⟨fun z => absurd z hd, fun _ => ?_⟩
      rintro x14 rfl
      refine step _ ?_
      rw [hs, if_pos (by simp [w]), mI6]
theorem cy_put {q : Nat} {kd : Nat} {r : Nat → Int32} {M2 : Mm} (hY : CY y M) (hkd : kd ≤ 2) (h1 : rd M2 100 0 q = kc kd) (h2 : ∀ j, j < 4 → rd M2 301 q j = r j) (h3 : ∀ p, p ≠ q → rd M2 100 0 p = rd M 100 0 p ∧ ∀ j, rd M2 301 p j = rd M 301 p j) : CY (putY y q kd r) M2 := fun p hp => by
  unfold putY
  by_cases w : p = q
  · subst w
    show (if p = p then kd else y.1 p) ≤ 2 ∧ rd M2 100 0 p = kc (if p = p then kd else y.1 p) ∧ ((if p = p then kd else y.1 p) ≠ 0 → ∀ j, j < 4 → rd M2 301 p j = (if p = p then r else y.2 p) j)
    rw [if_pos rfl, if_pos rfl]
    exact ⟨hkd, h1, fun _ => h2⟩
  · show (if p = q then kd else y.1 p) ≤ 2 ∧ rd M2 100 0 p = kc (if p = q then kd else y.1 p) ∧ ((if p = q then kd else y.1 p) ≠ 0 → ∀ j, j < 4 → rd M2 301 p j = (if p = q then r else y.2 p) j)
    rw [if_neg w, if_neg w, (h3 p w).1]
    obtain ⟨g1, g2, g3⟩ := hY p hp
    exact ⟨g1, g2, fun z j hj => by rw [(h3 p w).2 j]; exact g3 z j hj⟩
theorem my_put {q : Nat} {kd : Nat} {r : Nat → Int32} {M2 : Mm} (hY : MY y M) (hkd : kd ≤ 2) (h1 : rd M2 173 0 q = nI kd) (h2 : ∀ j, j < 4 → rd M2 174 0 (4 * q + j) = r j) (h3 : ∀ p, p ≠ q → rd M2 173 0 p = rd M 173 0 p ∧ ∀ j, j < 4 → rd M2 174 0 (4 * p + j) = rd M 174 0 (4 * p + j)) : MY (putY y q kd r) M2 := fun p hp => by
  unfold putY
  by_cases w : p = q
  · subst w
    show (if p = p then kd else y.1 p) ≤ 2 ∧ rd M2 173 0 p = nI (if p = p then kd else y.1 p) ∧ ((if p = p then kd else y.1 p) ≠ 0 → ∀ j, j < 4 → rd M2 174 0 (4 * p + j) = (if p = p then r else y.2 p) j)
    rw [if_pos rfl, if_pos rfl]
    exact ⟨hkd, h1, fun _ => h2⟩
  · show (if p = q then kd else y.1 p) ≤ 2 ∧ rd M2 173 0 p = nI (if p = q then kd else y.1 p) ∧ ((if p = q then kd else y.1 p) ≠ 0 → ∀ j, j < 4 → rd M2 174 0 (4 * p + j) = (if p = q then r else y.2 p) j)
    rw [if_neg w, if_neg w, (h3 p w).1]
    obtain ⟨g1, g2, g3⟩ := hY p hp
    exact ⟨g1, g2, fun z j hj => by rw [(h3 p w).2 j hj]; exact g3 z j hj⟩
def rF (t _k _j : Nat) : Prop := t = 100 ∨ t = 301
def qF (t _k _j : Nat) : Prop := t = 173 ∨ t = 174
/-- the class's copy into a tray -/
theorem y_row {q : Nat} (hq : q < 12) {v0 v1 v2 v3 : Int32} {kd : Nat} (hkd : kd ≤ 2) (hY : CY y M) : CY (putY y q kd (fun j => if j = 0 then v0 else if j = 1 then v1 else if j = 2 then v2 else v3)) (wr (wr (wr (wr (wr M 100 0 q (kc kd)) 301 q 0 v0) 301 q 1 v1) 301 q 2 v2) 301 q 3 v3) := by
  refine cy_put hY hkd ?_ (fun j hj => ?_) (fun p w => ⟨?_, fun j => ?_⟩)
  · rw [rd_wr_n (by omega), rd_wr_n (by omega), rd_wr_n (by omega), rd_wr_n (by omega), rd_wr_s]
  · have : j = 0 ∨ j = 1 ∨ j = 2 ∨ j = 3 := by omega
    rcases this with rfl | rfl | rfl | rfl
    · rw [rd_wr_n (by omega), rd_wr_n (by omega), rd_wr_n (by omega), rd_wr_s]; rfl
    · rw [rd_wr_n (by omega), rd_wr_n (by omega), rd_wr_s]; rfl
    · rw [rd_wr_n (by omega), rd_wr_s]; rfl
    · rw [rd_wr_s]; rfl
  · rw [rd_wr_n (by omega), rd_wr_n (by omega), rd_wr_n (by omega), rd_wr_n (by omega), rd_wr_n (by omega)]
  · rw [rd_wr_n (by omega), rd_wr_n (by omega), rd_wr_n (by omega), rd_wr_n (by omega), rd_wr_n (by omega)]
theorem putY_c {q kd : Nat} {r r' : Nat → Int32} {M : Mm} (h : CY (putY y q kd r) M) (he : ∀ j, j < 4 → r' j = r j) : CY (putY y q kd r') M := fun p hp => by
  obtain ⟨h1, h2, h3⟩ := h p hp
  refine ⟨h1, h2, fun z j hj => ?_⟩
  rw [h3 z j hj]
  show (if p = q then r else y.2 p) j = (if p = q then r' else y.2 p) j
  by_cases w : p = q
  · rw [if_pos w, if_pos w, he j hj]
  · rw [if_neg w, if_neg w]
theorem y_takes {a k : Int32} {P : Int32 → Mm → Prop} (h : P (if decide (a = 2 ∨ a = k) = true then 1 else 0) M) : wp_X4_takesKind a k M P := by
  unfold wp_X4_takesKind
  unfold jn
  refine ⟨fun q => ?_, fun q => ⟨fun q2 => ?_, fun q2 => ?_⟩⟩
  · rw [if_pos (by simp [q])] at h; exact h
  · rw [if_neg (by simp [q, q2])] at h; exact h
  · rw [if_pos (by simp [q2])] at h; exact h
theorem c_file (hR : RC B M) (hY : CY y M) (a b k n : Int32) {P : Int32 → Mm → Prop} (h : ∀ M2, Fg rF M M2 → CY (fileA B y a b k n).2 M2 → P (fileA B y a b k n).1 M2) : wp_X6_file a b k n M P := by
  have hc6 := hR.1.c6; have hl4 := hR.1.l4; have he8 := hR.1.e8; have hk24 := hR.1.k24
  unfold fileA at h
  unfold wp_X6_file
  refine y_hasPlace (tsw (fun q => ?_) (fun q => ?_))
  rotate_left
  · rw [if_neg (by rw [q]; decide)] at h; exact h _ Fg.rf hY
  rw [if_pos q] at h
  obtain ⟨t, p, ht, hp, rfl, rfl, e⟩ := plc_of q
  rw [e, nI_clamp (by omega)] at h
  unfold jn
  have hi : IA (301, 4 * t + p) := ⟨mw301 _ (by omega), kt301⟩
  have v0 : ∀ k, k < 4 → vp_in (nI k) (lenT (301, 4 * t + p).1) := fun k hk => by rw [lt301, vpI (by omega)]; exact hk
  have hF : ∀ v v0 v1 v2 v3 : Int32, Fg rF M (wr (wr (wr (wr (wr M 100 0 (4 * t + p) v) 301 (4 * t + p) 0 v0) 301 (4 * t + p) 1 v1) 301 (4 * t + p) 2 v2) 301 (4 * t + p) 3 v3) := fun v v0 v1 v2 v3 t' k' j' z => by
    unfold rF at z
    rw [rd_wr_n (by omega), rd_wr_n (by omega), rd_wr_n (by omega), rd_wr_n (by omega), rd_wr_n (by omega)]
  by_cases z0 : k = 0
  · subst z0
    rw [if_pos rfl] at h
    have key : wp_X0_hasCover 0 n M (fun (r29 : Int32) (M28 : Mm) => ((¬ r29 = 0 → (wp_X4_takesKind (nI t) 0 M28 (fun (r13 : Int32) (M12 : Mm) => ((¬ r13 = 0 → (wp_X4_fill (nI t) (nI p) 0 M12 (fun (r16 : Nat × Nat) (M15 : Mm) => ((¬ (0 : Int32) = 0 → (wp_X0_writeLayer 0 n (r16.1, r16.2) M15 (fun (M23 : Mm) => wp_X4_filledPlaces (nI t) M23 (fun (r21 : Int32) (M20 : Mm) => P r21 M20)))) ∧ ((0 : Int32) = 0 → (wp_X0_writeCover 0 n (r16.1, r16.2) M15 (fun (M24 : Mm) => wp_X4_filledPlaces (nI t) M24 (fun (r21 : Int32) (M20 : Mm) => P r21 M20)))))))) ∧ (r13 = 0 → P (-6 : Int32) M12))))) ∧ (r29 = 0 → P (-1 : Int32) M28))) := by
      refine y_hasCover hR (tsw (fun q1 => ?_) (fun q1 => ?_))
      rotate_left
      · rw [if_neg (by rw [q1]; decide)] at h; exact h _ Fg.rf hY
      rw [if_pos q1] at h
      obtain ⟨c, hc, rfl⟩ := inR_nI q1
      rw [nI_clamp (by omega)] at h
      refine y_takes (tsw (fun q2 => ?_) (fun q2 => ?_))
      rotate_left
      · rw [if_neg (of_decide_eq_false q2)] at h; exact h _ Fg.rf hY
      rw [if_pos (of_decide_eq_true q2)] at h
      unfold wp_X4_fill wp_X4_rowAt
      rw [tI, vpI (by omega), nI_clamp (by omega)]
      refine ⟨by omega, ?_⟩
      rintro M2 rfl
      refine ⟨by omega, fun z => absurd rfl z, fun _ => ?_⟩
      unfold wp_X0_writeCover
      rw [vpI (by omega), nI_clamp (by omega)]
      refine ⟨by decide, by omega, hi, v0 0 (by omega), ?_⟩
      rintro M5 rfl
      refine ⟨v0 1 (by omega), ?_⟩
      rintro M5 rfl
      refine ⟨v0 2 (by omega), ?_⟩
      rintro M5 rfl
      refine ⟨v0 3 (by omega), ?_⟩
      rintro M5 rfl
      rw [rdk (t' := 301) (rdk (t' := 301) (rdk (t' := 301) (rdk (t' := 100) (hR.c4 hc) (by decide)) (by decide)) (by decide)) (by decide), rdk (t' := 301) (rdk (t' := 301) (rdk (t' := 100) (hR.c3 hc) (by decide)) (by decide)) (by decide), rdk (t' := 301) (rdk (t' := 100) (hR.c2 hc) (by decide)) (by decide), rdk (t' := 100) (hR.c1 hc) (by decide)]
      have hy := y_row (q := 4 * t + p) (by omega) (v0 := B 1 c) (v1 := B 2 c) (v2 := B 3 c) (v3 := B 4 c) (kd := 1) (by omega) hY
      have hy := putY_c (r' := fun j => B (1 + j) c) hy (fun j hj => by
        have : j = 0 ∨ j = 1 ∨ j = 2 ∨ j = 3 := by omega
        rcases this with rfl | rfl | rfl | rfl <;> rfl)
      exact y_filled ht hy (h _ (hF _ _ _ _ _) hy)
    refine ⟨fun _ => ⟨fun z => absurd rfl z, fun _ => key⟩, fun z => absurd rfl z⟩
  · rw [if_neg z0] at h
    by_cases z1 : k = 1
    rotate_left
    · rw [if_neg z1] at h
      exact ⟨fun z => absurd z z0, fun _ => ⟨fun z => absurd z z1, fun _ => h _ Fg.rf hY⟩⟩
    subst z1
    rw [if_pos rfl] at h
    have key : wp_X0_hasLayer 0 n M (fun (r29 : Int32) (M28 : Mm) => ((¬ r29 = 0 → (wp_X4_takesKind (nI t) 1 M28 (fun (r13 : Int32) (M12 : Mm) => ((¬ r13 = 0 → (wp_X4_fill (nI t) (nI p) 1 M12 (fun (r16 : Nat × Nat) (M15 : Mm) => ((¬ (1 : Int32) = 0 → (wp_X0_writeLayer 0 n (r16.1, r16.2) M15 (fun (M23 : Mm) => wp_X4_filledPlaces (nI t) M23 (fun (r21 : Int32) (M20 : Mm) => P r21 M20)))) ∧ ((1 : Int32) = 0 → (wp_X0_writeCover 0 n (r16.1, r16.2) M15 (fun (M24 : Mm) => wp_X4_filledPlaces (nI t) M24 (fun (r21 : Int32) (M20 : Mm) => P r21 M20)))))))) ∧ (r13 = 0 → P (-6 : Int32) M12))))) ∧ (r29 = 0 → P (-1 : Int32) M28))) := by
      refine y_hasLayer hR (tsw (fun q1 => ?_) (fun q1 => ?_))
      rotate_left
      · rw [if_neg (by rw [q1]; decide)] at h; exact h _ Fg.rf hY
      rw [if_pos q1] at h
      obtain ⟨c, hc, rfl⟩ := inR_nI q1
      rw [nI_clamp (by omega)] at h
      refine y_takes (tsw (fun q2 => ?_) (fun q2 => ?_))
      rotate_left
      · rw [if_neg (of_decide_eq_false q2)] at h; exact h _ Fg.rf hY
      rw [if_pos (of_decide_eq_true q2)] at h
      unfold wp_X4_fill wp_X4_rowAt
      rw [tI, vpI (by omega), nI_clamp (by omega)]
      refine ⟨by omega, ?_⟩
      rintro M2 rfl
      refine ⟨by omega, fun _ => ?_, fun z => absurd z (by decide)⟩
      unfold wp_X0_writeLayer
      rw [vpI (by omega), nI_clamp (by omega)]
      refine ⟨by decide, by omega, hi, v0 0 (by omega), ?_⟩
      rintro M5 rfl
      refine ⟨v0 1 (by omega), ?_⟩
      rintro M5 rfl
      refine ⟨v0 2 (by omega), ?_⟩
      rintro M5 rfl
      refine ⟨v0 3 (by omega), ?_⟩
      rintro M5 rfl
      rw [rdk (t' := 301) (rdk (t' := 301) (rdk (t' := 301) (rdk (t' := 100) (hR.l9 hc) (by decide)) (by decide)) (by decide)) (by decide), rdk (t' := 301) (rdk (t' := 301) (rdk (t' := 100) (hR.l8 hc) (by decide)) (by decide)) (by decide), rdk (t' := 301) (rdk (t' := 100) (hR.l7 hc) (by decide)) (by decide), rdk (t' := 100) (hR.l6 hc) (by decide)]
      have hy := y_row (q := 4 * t + p) (by omega) (v0 := B 6 c) (v1 := B 7 c) (v2 := B 8 c) (v3 := B 9 c) (kd := 2) (by omega) hY
      have hy := putY_c (r' := fun j => B (6 + j) c) hy (fun j hj => by
        have : j = 0 ∨ j = 1 ∨ j = 2 ∨ j = 3 := by omega
        rcases this with rfl | rfl | rfl | rfl <;> rfl)
      exact y_filled ht hy (h _ (hF _ _ _ _ _) hy)
    refine ⟨fun z => absurd z z0, fun _ => ⟨fun _ => ⟨fun _ => key, fun z => absurd z z0⟩, fun z => absurd rfl z⟩⟩
end FIL
