/-! THE CLASS: its history -/
abbrev Hs : Type := Nat × (Nat → Bk)
def pushH (h : Hs) (B : Bk) : Hs := if h.1 < 6 then (h.1 + 1, fun j => if j = h.1 then B else h.2 j) else (6, fun j => if j < 5 then h.2 (j + 1) else B)
def updH (r : Int32) (h : Hs) (B : Bk) : Hs := if r < 0 then h else pushH h B
def CHat (m : Nat) (h : Hs) (M : Mm) : Prop := m < 7 ∧ rd M 1 0 1 = nI m ∧ rd M 1 0 2 = nI h.1 ∧ h.1 ≤ 6 ∧ ∀ j, j < h.1 → WF (h.2 j) ∧ BookR (h.2 j) (2 + (m + 7 - h.1 + j) % 7) M
def CH (h : Hs) (M : Mm) : Prop := ∃ m, CHat m h M
def CHm (h : Hs) (B : Bk) (M : Mm) : Prop := ∃ m, CHat m h M ∧ BookR B (2 + m) M
def rW (t k _j : Nat) : Prop := t = 1 ∨ ((t = 0 ∨ 21 ≤ t ∧ t ≤ 38) ∧ k ≠ 1)
section CHI
variable {B : Bk} {M : Mm} {H : Hs}
theorem pushH_1 (h : H.1 < 6) : pushH H B = (H.1 + 1, fun j => if j = H.1 then B else H.2 j) := if_pos h
theorem pushH_2 (h : ¬ H.1 < 6) : pushH H B = (6, fun j => if j < 5 then H.2 (j + 1) else B) := if_neg h
theorem CHat.kept {m : Nat} {M2 : Mm} {R : Nat → Nat → Nat → Prop} (h : CHat m H M) (hf : Fg R M M2) (hr : ∀ t k j, t = 1 ∨ ((t = 0 ∨ 21 ≤ t ∧ t ≤ 38) ∧ 2 ≤ k ∧ k ≠ 2 + m ∧ k < 9) → ¬ R t k j) : CHat m H M2 := by
  obtain ⟨h1, h2, h3, h4, h5⟩ := h
  refine ⟨h1, ?_, ?_, h4, fun j hj => ⟨(h5 j hj).1, (h5 j hj).2.kept hf (fun t i ht => hr t _ i (Or.inr ⟨ht, by omega, by omega, by omega⟩))⟩⟩
  · rw [hf _ _ _ (hr _ _ _ (Or.inl rfl))]; exact h2
  · rw [hf _ _ _ (hr _ _ _ (Or.inl rfl))]; exact h3
theorem bookR_of {k : Nat} {M1 M2 : Mm} {a : Nat} (hW : WF B) (h : BookR B a M1) (he : ∀ f i, lg f i → vC k M2 f i = vC a M1 f i) : BookR B k M2 := bookR_iff.mpr (fun f i u => by rw [he f i (us_lg hW u)]; exact bookR_iff.mp h f i u)
theorem y_mark (hR : RC B M) (hH : CH H M) {P : Mm → Prop} (h : ∀ M2, Fg rW M M2 → RC B M2 → CHm H B M2 → P M2) : wp_X1_mark 0 M P := by
  obtain ⟨m, hm⟩ := hH
  have hm7 := hm.1
  unfold wp_X1_mark
  rw [hm.2.1, vpI (by omega), nI_clamp (by omega)]
  refine ⟨hm.1, by omega, y_copyFrom (by omega) (by omega) (by omega) (fun M2 h1 h2 => h _ (h1.mo ?_) ⟨hR.1, hR.2.kept h1 ?_⟩ ⟨m, hm.kept h1 ?_, bookR_of hR.1 hR.2 h2⟩)⟩
  · intro t k j hr; unfold rK at hr; unfold rW; omega
  · intro t j ht; unfold rK; omega
  · intro t k j ht; unfold rK; omega
theorem mod7 {a : Nat} (h : a < 100) : (nI a) - (nI a) / (7 : Int32) * (7 : Int32) = nI (a % 7) := pk_rem (d := 7) (by omega) (by omega) (by omega)
theorem y_changed (hR : RC B M) {B0 : Bk} (hW : WF B0) (hH : CHm H B0 M) {r : Int32} {P : Int32 → Mm → Prop} (h : ∀ M2, Fg rW M M2 → RC B M2 → CH (updH r H B0) M2 → P r M2) : wp_X6_changed r M P := by
  obtain ⟨m, hm, hB⟩ := hH
  obtain ⟨h1, h2, h3, h4, h5⟩ := hm
  unfold wp_X6_changed
  unfold jn
  refine ⟨fun q => ?_, fun q => ?_⟩
  · refine h _ Fg.rf hR ?_
    unfold updH
    rw [if_pos q]
    exact ⟨m, h1, h2, h3, h4, h5⟩
  · unfold wp_X1_keepMark
    rintro M1 rfl M2 rfl
    rw [h2, rdj h3 (by omega), mI6, mI6, mod7 (by omega)]
    have hF : ∀ v w : Int32, Fg (fun t _ _ => t = 1) M (wr (wr M 1 0 1 v) 1 0 2 w) := fun v w => (Fg.w rfl).tr (Fg.w rfl)
    have hb : ∀ {C : Bk} {k : Nat} (v w : Int32), BookR C k M → BookR C k (wr (wr M 1 0 1 v) 1 0 2 w) := fun v w hc => hc.kept (hF v w) (fun t j ht => by show ¬ t = 1; omega)
    refine h _ ((hF _ _).mo (fun t k j ht => Or.inl ht)) ⟨hR.1, hb _ _ hR.2⟩ ⟨(m + 1) % 7, by omega, rdj rd_wr_s (by omega), ?_, ?_, fun j hj => ?_⟩
    · rw [rd_wr_s, show updH r H B0 = pushH H B0 from if_neg q]
      by_cases q2 : H.1 < 6
      · rw [pushH_1 q2, if_neg]
        rw [show (6 : Int32) = nI 6 from rfl, i32_lt, nI_toInt (by omega), nI_toInt (by omega)]
        omega
      · rw [pushH_2 q2, if_pos]
        · rfl
        rw [show (6 : Int32) = nI 6 from rfl, i32_lt, nI_toInt (by omega), nI_toInt (by omega)]
        omega
    · rw [show updH r H B0 = pushH H B0 from if_neg q]
      by_cases q2 : H.1 < 6
      · rw [pushH_1 q2]; show H.1 + 1 ≤ 6; omega
      · rw [pushH_2 q2]; exact Nat.le_refl _
    · unfold updH pushH at hj ⊢
      rw [if_neg q] at hj ⊢
      split at hj
      · rename_i q2
        rw [if_pos q2]
        have hj : j < H.1 + 1 := hj
        show WF (if j = H.1 then B0 else H.2 j) ∧ BookR (if j = H.1 then B0 else H.2 j) (2 + ((m + 1) % 7 + 7 - (H.1 + 1) + j) % 7) _
        by_cases q3 : j = H.1
        · rw [if_pos q3, show ((m + 1) % 7 + 7 - (H.1 + 1) + j) % 7 = m by omega]
          exact ⟨hW, hb _ _ hB⟩
        · rw [if_neg q3, show ((m + 1) % 7 + 7 - (H.1 + 1) + j) % 7 = (m + 7 - H.1 + j) % 7 by omega]
          have := h5 j (by omega)
          exact ⟨this.1, hb _ _ this.2⟩
      · rename_i q2
        rw [if_neg q2]
        have hj : j < 6 := hj
        show WF (if j < 5 then H.2 (j + 1) else B0) ∧ BookR (if j < 5 then H.2 (j + 1) else B0) (2 + ((m + 1) % 7 + 7 - 6 + j) % 7) _
        by_cases q3 : j < 5
        · rw [if_pos q3, show ((m + 1) % 7 + 7 - 6 + j) % 7 = (m + 7 - H.1 + (j + 1)) % 7 by omega]
          have := h5 (j + 1) (by omega)
          exact ⟨this.1, hb _ _ this.2⟩
        · rw [if_neg q3, show ((m + 1) % 7 + 7 - 6 + j) % 7 = m by omega]
          exact ⟨hW, hb _ _ hB⟩
end CHI
