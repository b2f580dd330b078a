section MRD3
variable {B : Bk} {M : Mm} {H : Hs} {x : Tx}
theorem ent_ge (p : Nat) : p ≤ (ent x p).2 := by
  unfold ent e2 e1 e0
  split
  · split <;> simp only [] <;> omega
  split
  · split
    · simp only []; omega
    split
    · split
      · simp only []; omega
      split
      · split <;> simp only [] <;> omega
      · simp only []; omega
    · simp only []; omega
  split
  · split
    · simp only []; omega
    split
    · split <;> simp only [] <;> omega
    · simp only []; omega
  · exact Nat.le_refl _
/-- what a whole text is -/
def Whl (x : Tx) (n : Nat) : Prop := 1 ≤ n ∧ (∀ j, j < n → (ent x (st x j)).1 = true ∧ st x j ≤ x.1 ∧ 3 * j ≤ st x j) ∧ (∀ j, j + 1 < n → (ent x (st x j)).2 < x.1) ∧ (ent x (st x (n - 1))).2 = x.1
theorem scn_ok : ∀ (f p i : Nat), p = st x i → p ≤ x.1 → 3 * i ≤ p → (∀ j, j < i → (ent x (st x j)).1 = true ∧ st x j ≤ x.1 ∧ 3 * j ≤ st x j) → (∀ j, j < i → (ent x (st x j)).2 < x.1) → (scn x f p i).1.1 = true → Whl x (scn x f p i).2 ∧ (scn x f p i).1.2 = x.1 := by
  intro f
  induction f with
  | zero => intro p i _ _ _ _ _ h; exact absurd h Bool.false_ne_true
  | succ f ih =>
    intro p i hp hpl h3 h1 h2 h
    have hs : scn x (f + 1) p i = (if (ent x p).1 = false then ((false, (ent x p).2), i) else if (ent x p).2 = x.1 then ((true, x.1), i + 1) else if is x (ent x p).2 59 = true then scn x f ((ent x p).2 + 1) (i + 1) else ((false, (ent x p).2), i)) := rfl
    rw [hs] at h ⊢
    by_cases a : (ent x p).1 = false
    · rw [if_pos a] at h; exact absurd h Bool.false_ne_true
    rw [if_neg a] at h ⊢
    have a' : (ent x p).1 = true := by revert a; cases (ent x p).1 <;> simp
    have hj : ∀ j, j < i + 1 → (ent x (st x j)).1 = true ∧ st x j ≤ x.1 ∧ 3 * j ≤ st x j := fun j hj => by
      by_cases w : j = i
      · rw [w, ← hp]; exact ⟨a', hpl, h3⟩
      · exact h1 j (by omega)
    by_cases b : (ent x p).2 = x.1
    · rw [if_pos b]
      refine ⟨⟨by show 1 ≤ i + 1; omega, hj, fun j z => h2 j (by have z : j + 1 < i + 1 := z; omega), ?_⟩, rfl⟩
      show (ent x (st x i)).2 = x.1
      rw [← hp]; exact b
    rw [if_neg b] at h ⊢
    by_cases c : is x (ent x p).2 59 = true
    · rw [if_pos c] at h ⊢
      have hl := (ent_le hpl).2 a'
      have c1 := (is_t.mp c).1
      refine ih _ _ (by rw [hp]; rfl) (by omega) (by omega) hj (fun j z => ?_) h
      by_cases w : j = i
      · rw [w, ← hp]; exact c1
      · exact h2 j (by omega)
    · rw [if_neg c] at h; exact absurd h Bool.false_ne_true
theorem sc_ok (h : (sc x).1.1 = true) : Whl x (sc x).2 ∧ (sc x).1.2 = x.1 := scn_ok 62 0 0 rfl (by omega) (by omega) (fun j hj => absurd hj (Nat.not_lt_zero _)) (fun j hj => absurd hj (Nat.not_lt_zero _)) h
theorem q_faulty (hT : MT x M) {P : Int32 → Mm → Prop} (h : ∀ M2, Fg qE M M2 → MT x M2 → rd M2 7 0 8 = nI (sc x).1.2 → P (if (sc x).1.1 = true then 0 else 1) M2) : wp_X7_isFaulty M P := by
  have h60 := hT.1
  unfold wp_X7_isFaulty
  rintro M1 rfl M2 rfl
  have hS : MPs x (false, 0) (wr (wr M 7 0 8 0) 7 0 10 0) := ⟨(hT.kept (R := fun t _ j => t = 7 ∧ j = 8) (Fg.w ⟨rfl, rfl⟩) (fun t k j z => by omega)).kept (R := fun t _ j => t = 7 ∧ j = 10) (Fg.w ⟨rfl, rfl⟩) (fun t k j z => by omega), rdj rd_wr_s (by omega), rd_wr_s, by show 0 ≤ x.1; omega⟩
  have f2 : Fg qE M (wr (wr M 7 0 8 0) 7 0 10 0) := (Fg.w (by unfold qE; omega)).tr (Fg.w (by unfold qE; omega))
  refine q_entry hS (fun r M3 f3 hS3 _ => ?_)
  refine lq1_i (fun M' => ∃ f p i, 62 ≤ f + p ∧ p ≤ x.1 ∧ MPs x (entM x p) M' ∧ Fg qE M M' ∧ scn x f p i = sc x) (fun M' => 61 - (rd M' 7 0 8).toNatClampNeg) ?_ _ ⟨62, 0, 0, by omega, by omega, hS3, f2.tr f3, rfl⟩
  rintro M' ⟨f, p, i, hf, hpl, hC, hF, hs⟩ self hself
  obtain ⟨f, rfl⟩ : ∃ g, f = g + 1 := ⟨f - 1, by omega⟩
  have hs : (if (ent x p).1 = false then ((false, (ent x p).2), i) else if (ent x p).2 = x.1 then ((true, x.1), i + 1) else if is x (ent x p).2 59 = true then scn x f ((ent x p).2 + 1) (i + 1) else ((false, (ent x p).2), i)) = sc x := hs
  rw [(entM_ent (x := x) p).1] at hC
  have hle := ent_le hpl
  have hl1 := hle.1
  have i59 := sgn_is (x := x) (S := (!(ent x p).1, (ent x p).2)) (c := 59) (by decide)
  refine q_sign hC ⟨fun q => ?_, fun q => ?_⟩
  · have h := h _ hF hC.1
    rw [hC.2.1, hC.2.2.1, hC.1.2.1]
    have hC1 : rd M' 7 0 8 = nI (ent x p).2 := hC.2.1
    unfold jn
    by_cases a : (ent x p).1 = false
    · rw [if_pos a] at hs
      rw [← hs] at h
      have h := h hC1
      rw [a]
      exact ⟨fun _ => h, fun z => absurd z (show ¬ (1 : Int32) = 0 by decide)⟩
    rw [if_neg a] at hs
    have a' : (ent x p).1 = true := by revert a; cases (ent x p).1 <;> simp
    rw [a']
    refine ⟨fun z => absurd rfl z, fun _ => ?_⟩
    show (nI x.1 ≤ nI (ent x p).2 → P 0 M') ∧ (¬ nI x.1 ≤ nI (ent x p).2 → P 1 M')
    refine cLe (by omega) (by omega) (fun q2 => ?_) (fun q2 => ?_)
    · rw [if_pos (by omega)] at hs
      rw [← hs] at h
      exact h (by rw [hC1, show (ent x p).2 = x.1 by omega])
    · rw [if_neg (by omega), if_neg (fun z => q (i59.mpr ⟨by rw [a']; rfl, z⟩))] at hs
      rw [← hs] at h
      exact h hC1
  · obtain ⟨q1, q2⟩ := i59.mp q
    have a' : (ent x p).1 = true := by revert q1; cases (ent x p).1 <;> simp
    have q2 : is x (ent x p).2 59 = true := q2
    have q3 := (is_t.mp q2).1
    rw [if_neg (by rw [a']; decide), if_neg (by omega), if_pos q2] at hs
    rintro M16 rfl
    have hC1 : rd M' 7 0 8 = nI (ent x p).2 := hC.2.1
    rw [hC1, mI6]
    have hS4 : MPs x (false, (ent x p).2 + 1) (wr M' 7 0 8 (nI ((ent x p).2 + 1))) := by
      have := hC.at (q := (ent x p).2 + 1) q3
      rw [a'] at this
      exact this
    have hl2 := hle.2 a'
    refine q_entry hS4 (fun r M17 f17 hS17 _ => ?_)
    refine hself _ ⟨f, (ent x p).2 + 1, i + 1, by omega, q3, hS17, (hF.tr (Fg.w (by unfold qE; omega))).tr f17, hs⟩ ?_
    have e17 : rd M17 7 0 8 = nI (ent x ((ent x p).2 + 1)).2 := by
      have := hS17.2.1
      rw [(entM_ent (x := x) _).1] at this
      exact this
    have g1 := ent_ge (x := x) ((ent x p).2 + 1)
    have g2 := (ent_le (x := x) (p := (ent x p).2 + 1) q3).1
    rw [e17, hC1, nI_clamp (by omega), nI_clamp (by omega)]
    omega
end MRD3
