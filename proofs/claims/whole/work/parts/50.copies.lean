/-! COPIES -/
/-- of book k, the places D have been copied from book a -/
def CP (a k : Nat) (D : Nat → Nat → Prop) (M M1 : Mm) : Prop := ∀ t' k' j, (k' = k ∧ D t' j → rd M1 t' k' j = rd M t' a j) ∧ (¬ (k' = k ∧ D t' j) → rd M1 t' k' j = rd M t' k' j)
theorem cp_0 {a k : Nat} {M : Mm} : CP a k (fun _ _ => False) M M := fun _ _ _ => ⟨fun h => h.2.elim, fun _ => rfl⟩
theorem cp_w {a k : Nat} {D : Nat → Nat → Prop} {M M1 M2 : Mm} (hak : a ≠ k) (h : CP a k D M M1) {f : Nat} (hM : M2 = wr M1 0 k f (rd M1 0 a f)) : CP a k (fun t' j => D t' j ∨ (t' = 0 ∧ j = f)) M M2 := fun t' k' j => by
  subst hM
  by_cases q : t' = 0 ∧ k' = k ∧ j = f
  · obtain ⟨rfl, rfl, rfl⟩ := q
    refine ⟨fun _ => ?_, fun z => absurd ⟨rfl, Or.inr ⟨rfl, rfl⟩⟩ z⟩
    rw [rd_wr_s]
    exact (h 0 a j).2 (fun z => hak z.1)
  · rw [rd_wr_n q]
    refine ⟨fun z => ?_, fun z => (h t' k' j).2 (fun y => z ⟨y.1, Or.inl y.2⟩)⟩
    rcases z.2 with y | y
    · exact (h t' k' j).1 ⟨z.1, y⟩
    · exact absurd ⟨y.1, z.1, y.2⟩ q
theorem rd_wrA {M : Mm} {t k : Nat} {f : Nat → Int32} {t' k' j : Nat} : rd (wrA M t k f) t' k' j = if t' = t ∧ k' = k then f j else rd M t' k' j := rfl
theorem cp_a {a k : Nat} {D : Nat → Nat → Prop} {M M1 M2 : Mm} (hak : a ≠ k) (h : CP a k D M M1) {t n : Nat} (hM : M2 = wrA M1 t k (va_cpy (M1.1 t a) (M1.1 t k) 0 0 n)) : CP a k (fun t' j => D t' j ∨ (t' = t ∧ j < n)) M M2 := fun t' k' j => by
  subst hM
  rw [rd_wrA]
  have fall : ¬ (t' = t ∧ k' = k ∧ j < n) → (k' = k ∧ (D t' j ∨ (t' = t ∧ j < n)) → rd M1 t' k' j = rd M t' a j) ∧ (¬ (k' = k ∧ (D t' j ∨ (t' = t ∧ j < n))) → rd M1 t' k' j = rd M t' k' j) := fun q => by
    refine ⟨fun z => ?_, fun z => (h t' k' j).2 (fun y => z ⟨y.1, Or.inl y.2⟩)⟩
    rcases z.2 with y | y
    · exact (h t' k' j).1 ⟨z.1, y⟩
    · exact absurd ⟨y.1, z.1, y.2⟩ q
  by_cases q : t' = t ∧ k' = k
  · rw [if_pos q]
    obtain ⟨rfl, rfl⟩ := q
    by_cases q2 : j < n
    · rw [pk_cpy_in (by omega) (by omega), Nat.sub_zero, Nat.zero_add]
      refine ⟨fun _ => (h t' a j).2 (fun z => hak z.1), fun z => absurd ⟨rfl, Or.inr ⟨rfl, q2⟩⟩ z⟩
    · rw [pk_cpy_out (by omega)]
      exact fall (fun z => q2 z.2.2)
  · rw [if_neg q]
    exact fall (fun z => q ⟨z.1, z.2.1⟩)
def rK (b : Nat) (t k _j : Nat) : Prop := k = b ∧ (t = 0 ∨ 21 ≤ t ∧ t ≤ 38)
theorem lg_arr {f i : Nat} (hl : lg f i) (q : ¬ (f = 0 ∨ f = 5 ∨ f = 11 ∨ f = 12 ∨ f = 15)) : (f = 1 ∧ i < 6) ∨ (f = 2 ∧ i < 6) ∨ (f = 3 ∧ i < 6) ∨ (f = 4 ∧ i < 6) ∨ (f = 6 ∧ i < 4) ∨ (f = 7 ∧ i < 4) ∨ (f = 8 ∧ i < 4) ∨ (f = 9 ∧ i < 4) ∨ (f = 10 ∧ i < 3) ∨ (f = 13 ∧ i < 8) ∨ (f = 14 ∧ i < 8) ∨ (f = 16 ∧ i < 24) ∨ (f = 17 ∧ i < 24) ∨ (f = 18 ∧ i < 24) := by
  unfold lg at hl
  rcases hl with hl | hl | hl | hl | hl | hl
  · exact absurd hl.1 q
  · obtain ⟨rfl, w⟩ := hl
    exact Or.inr (Or.inr (Or.inr (Or.inr (Or.inr (Or.inr (Or.inr (Or.inr (Or.inl ⟨rfl, w⟩))))))))
  · obtain ⟨g, w⟩ := hl
    have g : f = 1 ∨ f = 2 ∨ f = 3 ∨ f = 4 := by clear q; omega
    rcases g with rfl | rfl | rfl | rfl
    · exact Or.inl ⟨rfl, w⟩
    · exact Or.inr (Or.inl ⟨rfl, w⟩)
    · exact Or.inr (Or.inr (Or.inl ⟨rfl, w⟩))
    · exact Or.inr (Or.inr (Or.inr (Or.inl ⟨rfl, w⟩)))
  · obtain ⟨g, w⟩ := hl
    have g : f = 6 ∨ f = 7 ∨ f = 8 ∨ f = 9 := by clear q; omega
    rcases g with rfl | rfl | rfl | rfl
    · exact Or.inr (Or.inr (Or.inr (Or.inr (Or.inl ⟨rfl, w⟩))))
    · exact Or.inr (Or.inr (Or.inr (Or.inr (Or.inr (Or.inl ⟨rfl, w⟩)))))
    · exact Or.inr (Or.inr (Or.inr (Or.inr (Or.inr (Or.inr (Or.inl ⟨rfl, w⟩))))))
    · exact Or.inr (Or.inr (Or.inr (Or.inr (Or.inr (Or.inr (Or.inr (Or.inl ⟨rfl, w⟩)))))))
  · obtain ⟨g, w⟩ := hl
    have g : f = 13 ∨ f = 14 := by clear q; omega
    rcases g with rfl | rfl
    · exact Or.inr (Or.inr (Or.inr (Or.inr (Or.inr (Or.inr (Or.inr (Or.inr (Or.inr (Or.inl ⟨rfl, w⟩)))))))))
    · exact Or.inr (Or.inr (Or.inr (Or.inr (Or.inr (Or.inr (Or.inr (Or.inr (Or.inr (Or.inr (Or.inl ⟨rfl, w⟩))))))))))
  · obtain ⟨g, w⟩ := hl
    have g : f = 16 ∨ f = 17 ∨ f = 18 := by clear q; omega
    rcases g with rfl | rfl | rfl
    · exact Or.inr (Or.inr (Or.inr (Or.inr (Or.inr (Or.inr (Or.inr (Or.inr (Or.inr (Or.inr (Or.inr (Or.inl ⟨rfl, w⟩)))))))))))
    · exact Or.inr (Or.inr (Or.inr (Or.inr (Or.inr (Or.inr (Or.inr (Or.inr (Or.inr (Or.inr (Or.inr (Or.inr (Or.inl ⟨rfl, w⟩))))))))))))
    · exact Or.inr (Or.inr (Or.inr (Or.inr (Or.inr (Or.inr (Or.inr (Or.inr (Or.inr (Or.inr (Or.inr (Or.inr (Or.inr (⟨rfl, w⟩)))))))))))))
theorem y_copyFrom {M : Mm} {k a : Nat} (hk : k < 9) (ha : a < 9) (hak : a ≠ k) {P : Mm → Prop} (h : ∀ M2, Fg (rK k) M M2 → (∀ f i, lg f i → vC k M2 f i = vC a M f i) → P M2) : wp_X0_copyFrom k a M P := by
  unfold wp_X0_copyFrom
  refine ⟨ha, hk, ?_⟩
  intro M3 e3
  have c3 := cp_w hak (cp_0 (a := a) (k := k) (M := M)) e3
  intro M4 e4
  have c4 := cp_a hak c3 e4
  intro M5 e5
  have c5 := cp_a hak c4 e5
  intro M6 e6
  have c6 := cp_a hak c5 e6
  intro M7 e7
  have c7 := cp_a hak c6 e7
  intro M8 e8
  have c8 := cp_w hak c7 e8
  intro M9 e9
  have c9 := cp_a hak c8 e9
  intro M10 e10
  have c10 := cp_a hak c9 e10
  intro M11 e11
  have c11 := cp_a hak c10 e11
  intro M12 e12
  have c12 := cp_a hak c11 e12
  intro M13 e13
  have c13 := cp_a hak c12 e13
  intro M14 e14
  have c14 := cp_w hak c13 e14
  intro M15 e15
  have c15 := cp_w hak c14 e15
  intro M16 e16
  have c16 := cp_a hak c15 e16
  intro M17 e17
  have c17 := cp_a hak c16 e17
  intro M18 e18
  have c18 := cp_w hak c17 e18
  intro M19 e19
  have c19 := cp_a hak c18 e19
  intro M20 e20
  have c20 := cp_a hak c19 e20
  intro M21 e21
  have c21 := cp_a hak c20 e21
  have C := c21
  clear e3 e4 e5 e6 e7 e8 e9 e10 e11 e12 e13 e14 e15 e16 e17 e18 e19 e20 e21
  refine h _ (fun t' k' j hn => (C t' k' j).2 (fun z => hn ?_)) (fun f i hl => ?_)
  · obtain ⟨z1, z2⟩ := z
    unfold rK
    refine ⟨z1, ?_⟩
    rcases z2 with ((((((((((((((((((z | z) | z) | z) | z) | z) | z) | z) | z) | z) | z) | z) | z) | z) | z) | z) | z) | z) | z) | z
    · exact z.elim
    all_goals omega
  · unfold vC
    by_cases q : f = 0 ∨ f = 5 ∨ f = 11 ∨ f = 12 ∨ f = 15
    · rw [if_pos q, if_pos q]
      refine (C 0 k f).1 ⟨rfl, ?_⟩
      rcases q with rfl | rfl | rfl | rfl | rfl
      · exact Or.inl (Or.inl (Or.inl (Or.inl (Or.inl (Or.inl (Or.inl (Or.inl (Or.inl (Or.inl (Or.inl (Or.inl (Or.inl (Or.inl (Or.inl (Or.inl (Or.inl (Or.inl (Or.inr ⟨rfl, rfl⟩))))))))))))))))))
      · exact Or.inl (Or.inl (Or.inl (Or.inl (Or.inl (Or.inl (Or.inl (Or.inl (Or.inl (Or.inl (Or.inl (Or.inl (Or.inl (Or.inr ⟨rfl, rfl⟩)))))))))))))
      · exact Or.inl (Or.inl (Or.inl (Or.inl (Or.inl (Or.inl (Or.inl (Or.inr ⟨rfl, rfl⟩)))))))
      · exact Or.inl (Or.inl (Or.inl (Or.inl (Or.inl (Or.inl (Or.inr ⟨rfl, rfl⟩))))))
      · exact Or.inl (Or.inl (Or.inl (Or.inr ⟨rfl, rfl⟩)))
    · rw [if_neg q, if_neg q]
      refine (C (20 + f) k i).1 ⟨rfl, ?_⟩
      rcases lg_arr hl q with ⟨rfl, w⟩ | ⟨rfl, w⟩ | ⟨rfl, w⟩ | ⟨rfl, w⟩ | ⟨rfl, w⟩ | ⟨rfl, w⟩ | ⟨rfl, w⟩ | ⟨rfl, w⟩ | ⟨rfl, w⟩ | ⟨rfl, w⟩ | ⟨rfl, w⟩ | ⟨rfl, w⟩ | ⟨rfl, w⟩ | ⟨rfl, w⟩
      · exact Or.inl (Or.inl (Or.inl (Or.inl (Or.inl (Or.inl (Or.inl (Or.inl (Or.inl (Or.inl (Or.inl (Or.inl (Or.inl (Or.inl (Or.inl (Or.inl (Or.inl (Or.inr ⟨rfl, w⟩)))))))))))))))))
      · exact Or.inl (Or.inl (Or.inl (Or.inl (Or.inl (Or.inl (Or.inl (Or.inl (Or.inl (Or.inl (Or.inl (Or.inl (Or.inl (Or.inl (Or.inl (Or.inl (Or.inr ⟨rfl, w⟩))))))))))))))))
      · exact Or.inl (Or.inl (Or.inl (Or.inl (Or.inl (Or.inl (Or.inl (Or.inl (Or.inl (Or.inl (Or.inl (Or.inl (Or.inl (Or.inl (Or.inl (Or.inr ⟨rfl, w⟩)))))))))))))))
      · exact Or.inl (Or.inl (Or.inl (Or.inl (Or.inl (Or.inl (Or.inl (Or.inl (Or.inl (Or.inl (Or.inl (Or.inl (Or.inl (Or.inl (Or.inr ⟨rfl, w⟩))))))))))))))
      · exact Or.inl (Or.inl (Or.inl (Or.inl (Or.inl (Or.inl (Or.inl (Or.inl (Or.inl (Or.inl (Or.inl (Or.inl (Or.inr ⟨rfl, w⟩))))))))))))
      · exact Or.inl (Or.inl (Or.inl (Or.inl (Or.inl (Or.inl (Or.inl (Or.inl (Or.inl (Or.inl (Or.inl (Or.inr ⟨rfl, w⟩)))))))))))
      · exact Or.inl (Or.inl (Or.inl (Or.inl (Or.inl (Or.inl (Or.inl (Or.inl (Or.inl (Or.inl (Or.inr ⟨rfl, w⟩))))))))))
      · exact Or.inl (Or.inl (Or.inl (Or.inl (Or.inl (Or.inl (Or.inl (Or.inl (Or.inl (Or.inr ⟨rfl, w⟩)))))))))
      · exact Or.inl (Or.inl (Or.inl (Or.inl (Or.inl (Or.inl (Or.inl (Or.inl (Or.inr ⟨rfl, w⟩))))))))
      · exact Or.inl (Or.inl (Or.inl (Or.inl (Or.inl (Or.inr ⟨rfl, w⟩)))))
      · exact Or.inl (Or.inl (Or.inl (Or.inl (Or.inr ⟨rfl, w⟩))))
      · exact Or.inl (Or.inl (Or.inr ⟨rfl, w⟩))
      · exact Or.inl (Or.inr ⟨rfl, w⟩)
      · exact Or.inr ⟨rfl, w⟩
theorem q_copies {M : Mm} {t1 t2 p1 p2 : Nat} (h1 : IA (t1, 0)) (h2 : IA (t2, 0)) (hp1 : p1 + 136 ≤ lenT t1) (hp2 : p2 + 136 ≤ lenT t2) (hl1 : lenT t1 < 2 ^ 20) (hl2 : lenT t2 < 2 ^ 20) (hd : t1 ≠ t2 ∨ p2 + 136 ≤ p1) {P : Mm → Prop} (h : ∀ M2, (∀ t k j, (t = t2 ∧ k = 0 ∧ p2 ≤ j ∧ j < p2 + 136 → rd M2 t k j = rd M t1 0 (p1 + (j - p2))) ∧ (¬ (t = t2 ∧ k = 0 ∧ p2 ≤ j ∧ j < p2 + 136) → rd M2 t k j = rd M t k j)) → P M2) : wp_X7_copies (t1, 0) (nI p1) (t2, 0) (nI p2) M P := by
  unfold wp_X7_copies
  refine lq2_i (fun x M' => ∃ n, n ≤ 136 ∧ x = nI n ∧ ∀ t k j, (t = t2 ∧ k = 0 ∧ p2 ≤ j ∧ j < p2 + n → rd M' t k j = rd M t1 0 (p1 + (j - p2))) ∧ (¬ (t = t2 ∧ k = 0 ∧ p2 ≤ j ∧ j < p2 + n) → rd M' t k j = rd M t k j)) (fun x _ => 136 - x.toNatClampNeg) ?_ _ _ ⟨0, by omega, rfl, fun t k j => ⟨fun z => by omega, fun _ => rfl⟩⟩
  rintro x M' ⟨n, hn, rfl, hV⟩ self hself
  rw [show (136 : Int32) = nI 136 from rfl]
  refine cLe (by omega) (by omega) (fun q => ?_) (fun q => ?_)
  · have : n = 136 := by omega
    subst this
    exact h _ hV
  · rw [nI_add, nI_add, vpI (by omega), vpI (by omega), nI_clamp (by omega), nI_clamp (by omega)]
    refine ⟨h1, by show p1 + n < lenT t1; omega, h2, by show p2 + n < lenT t2; omega, ?_⟩
    rintro M10 rfl x11 rfl
    refine hself _ _ ⟨n + 1, by omega, mI6 n, fun t k j => ?_⟩ ?_
    · have e : rd M' t1 0 (p1 + n) = rd M t1 0 (p1 + n) := (hV t1 0 (p1 + n)).2 (by omega)
      by_cases w : t = t2 ∧ k = 0 ∧ j = p2 + n
      · obtain ⟨rfl, rfl, rfl⟩ := w
        rw [rd_wr_s, e]
        refine ⟨fun _ => ?_, fun z => absurd ⟨rfl, rfl, by omega, by omega⟩ z⟩
        congr 1
        omega
      · rw [rd_wr_n w]
        exact ⟨fun z => (hV t k j).1 (by omega), fun z => (hV t k j).2 (by omega)⟩
    · rw [mI6, nI_clamp (by omega), nI_clamp (by omega)]; omega
