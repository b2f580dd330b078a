/-! THE CLASS: its books, and sharing out -/
def BookR (B : Bk) (k : Nat) (M : Mm) : Prop :=
  (rd M 0 k 0 = B 0 0 ∧ rd M 0 k 5 = B 5 0 ∧ rd M 0 k 12 = B 12 0 ∧ rd M 0 k 15 = B 15 0 ∧ rd M 0 k 11 = B 11 0) ∧ (∀ g, g < 3 → rd M 30 k g = B 10 g) ∧
  (∀ c, c < nC B → rd M 21 k c = B 1 c ∧ rd M 22 k c = B 2 c ∧ rd M 23 k c = B 3 c ∧ rd M 24 k c = B 4 c) ∧
  (∀ l, l < nL B → rd M 26 k l = B 6 l ∧ rd M 27 k l = B 7 l ∧ rd M 28 k l = B 8 l ∧ rd M 29 k l = B 9 l) ∧
  (∀ e, e < nE B → rd M 33 k e = B 13 e ∧ rd M 34 k e = B 14 e) ∧
  (∀ i, i < nK B → rd M 36 k i = B 16 i ∧ rd M 37 k i = B 17 i ∧ rd M 38 k i = B 18 i)
def RC (B : Bk) (M : Mm) : Prop := WF B ∧ BookR B 0 M
/-- only cells in this region may differ -/
def Fg (R : Nat → Nat → Nat → Prop) (M M2 : Mm) : Prop := ∀ t k j, ¬ R t k j → rd M2 t k j = rd M t k j
theorem Fg.rf {R : Nat → Nat → Nat → Prop} {M : Mm} : Fg R M M := fun _ _ _ _ => rfl
theorem Fg.tr {R : Nat → Nat → Nat → Prop} {M M1 M2 : Mm} (h1 : Fg R M M1) (h2 : Fg R M1 M2) : Fg R M M2 := fun t k j ht => (h2 t k j ht).trans (h1 t k j ht)
theorem Fg.mo {R S : Nat → Nat → Nat → Prop} {M M1 : Mm} (h1 : Fg R M M1) (h : ∀ t k j, R t k j → S t k j) : Fg S M M1 := fun t k j ht => h1 t k j (fun q => ht (h t k j q))
theorem Fg.w {R : Nat → Nat → Nat → Prop} {M : Mm} {t k j : Nat} {v : Int32} (h : R t k j) : Fg R M (wr M t k j v) := fun t' k' j' ht' => by
  rw [rd_wr, if_neg]
  rintro ⟨rfl, rfl, rfl⟩
  exact ht' h
theorem Fg.wL {R : Nat → Nat → Nat → Prop} {M : Mm} {j : Nat} {v : Int64} : Fg R M (wrL M j v) := fun _ _ _ _ => rfl
theorem rdL_wrL {M : Mm} {j i : Nat} {v : Int64} : rdL (wrL M j v) i = if i = j then v else rdL M i := rfl
theorem rdL_wr {M : Mm} {t k j i : Nat} {v : Int32} : rdL (wr M t k j v) i = rdL M i := rfl
theorem rd_wrL {M : Mm} {j t k i : Nat} {v : Int64} : rd (wrL M j v) t k i = rd M t k i := rfl
theorem BookR.kept {B : Bk} {k : Nat} {M M2 : Mm} {R : Nat → Nat → Nat → Prop} (h : BookR B k M) (hf : Fg R M M2) (hr : ∀ t j, (t = 0 ∨ 21 ≤ t ∧ t ≤ 38) → ¬ R t k j) : BookR B k M2 := by
  obtain ⟨⟨h0, h5, h12, h15, h11⟩, hg, hc, hl, he, hi⟩ := h
  refine ⟨⟨?_, ?_, ?_, ?_, ?_⟩, fun g q => ?_, fun c q => ⟨?_, ?_, ?_, ?_⟩, fun l q => ⟨?_, ?_, ?_, ?_⟩, fun e q => ⟨?_, ?_⟩, fun i q => ⟨?_, ?_, ?_⟩⟩
  all_goals rw [hf _ _ _ (hr _ _ (by omega))]
  all_goals first | assumption | exact hg _ q | exact (hc _ q).1 | exact (hc _ q).2.1 | exact (hc _ q).2.2.1 | exact (hc _ q).2.2.2 | exact (hl _ q).1 | exact (hl _ q).2.1 | exact (hl _ q).2.2.1 | exact (hl _ q).2.2.2 | exact (he _ q).1 | exact (he _ q).2 | exact (hi _ q).1 | exact (hi _ q).2.1 | exact (hi _ q).2.2
theorem RC.kept {B : Bk} {M M2 : Mm} {R : Nat → Nat → Nat → Prop} (h : RC B M) (hf : Fg R M M2) (hr : ∀ t j, (t = 0 ∨ 21 ≤ t ∧ t ≤ 38) → ¬ R t 0 j) : RC B M2 := ⟨h.1, h.2.kept hf hr⟩
section CB
variable {B : Bk} {M : Mm}
theorem RC.n0 (h : RC B M) : rd M 0 0 0 = nI (nC B) := h.2.1.1.trans h.1.c
theorem RC.n5 (h : RC B M) : rd M 0 0 5 = nI (nL B) := h.2.1.2.1.trans h.1.l
theorem RC.n12 (h : RC B M) : rd M 0 0 12 = nI (nE B) := h.2.1.2.2.1.trans h.1.e
theorem RC.n15 (h : RC B M) : rd M 0 0 15 = nI (nK B) := h.2.1.2.2.2.1.trans h.1.k
theorem RC.n11 (h : RC B M) : rd M 0 0 11 = B 11 0 := h.2.1.2.2.2.2
theorem RC.g (h : RC B M) {g : Nat} (q : g < 3) : rd M 30 0 g = B 10 g := h.2.2.1 g q
theorem RC.c1 (h : RC B M) {c : Nat} (q : c < nC B) : rd M 21 0 c = B 1 c := (h.2.2.2.1 c q).1
theorem RC.c2 (h : RC B M) {c : Nat} (q : c < nC B) : rd M 22 0 c = B 2 c := (h.2.2.2.1 c q).2.1
theorem RC.c3 (h : RC B M) {c : Nat} (q : c < nC B) : rd M 23 0 c = B 3 c := (h.2.2.2.1 c q).2.2.1
theorem RC.c4 (h : RC B M) {c : Nat} (q : c < nC B) : rd M 24 0 c = B 4 c := (h.2.2.2.1 c q).2.2.2
theorem RC.l6 (h : RC B M) {l : Nat} (q : l < nL B) : rd M 26 0 l = B 6 l := (h.2.2.2.2.1 l q).1
theorem RC.l7 (h : RC B M) {l : Nat} (q : l < nL B) : rd M 27 0 l = B 7 l := (h.2.2.2.2.1 l q).2.1
theorem RC.l8 (h : RC B M) {l : Nat} (q : l < nL B) : rd M 28 0 l = B 8 l := (h.2.2.2.2.1 l q).2.2.1
theorem RC.l9 (h : RC B M) {l : Nat} (q : l < nL B) : rd M 29 0 l = B 9 l := (h.2.2.2.2.1 l q).2.2.2
theorem RC.e13 (h : RC B M) {e : Nat} (q : e < nE B) : rd M 33 0 e = B 13 e := (h.2.2.2.2.2.1 e q).1
theorem RC.e14 (h : RC B M) {e : Nat} (q : e < nE B) : rd M 34 0 e = B 14 e := (h.2.2.2.2.2.1 e q).2
theorem RC.k16 (h : RC B M) {i : Nat} (q : i < nK B) : rd M 36 0 i = B 16 i := (h.2.2.2.2.2.2 i q).1
theorem RC.k17 (h : RC B M) {i : Nat} (q : i < nK B) : rd M 37 0 i = B 17 i := (h.2.2.2.2.2.2 i q).2.1
theorem RC.k18 (h : RC B M) {i : Nat} (q : i < nK B) : rd M 38 0 i = B 18 i := (h.2.2.2.2.2.2 i q).2.2
theorem y_in {v a b : Int32} {P : Int32 → Mm → Prop} (h : P (if inb v a.toInt b.toInt = true then 1 else 0) M) : wp_X6_isWithin v a b M P := by
  unfold wp_X6_isWithin
  refine ⟨fun q => ?_, fun q => ⟨fun q2 => ?_, fun q2 => ?_⟩⟩
  · rw [if_neg (by rw [inb_t]; unfold bd; rw [i32_lt] at q; omega)] at h; exact h
  · rw [if_neg (by rw [inb_t]; unfold bd; rw [i32_lt] at q2; omega)] at h; exact h
  · rw [if_pos (by rw [inb_t]; unfold bd; rw [i32_lt] at q q2; omega)] at h; exact h
theorem y_sumOf {t b n L : Nat} (hm : IA (t, b)) (hL : lenT t = L) (hn : n ≤ L) (hn2 : L < 2 ^ 20) (f : Nat → Int32) (hf : ∀ i, i < n → rd M t b i = f i) {P : Int32 → Mm → Prop} (h : P (sumI f n) M) : wp_X6_sumOf (t, b) (nI n) M P := by
  unfold wp_X6_sumOf
  refine lq2_i (fun s x => ∃ j, j ≤ n ∧ x = nI j ∧ s = sumI f j) (fun _ x => n - x.toNatClampNeg) ?_ _ _ ⟨0, by omega, rfl, rfl⟩
  rintro s x ⟨j, hj, hx, hs⟩ self hself
  subst hx hs
  refine cLe (by omega) (by omega) (fun q => ?_) (fun q => ?_)
  · have : j = n := by omega
    subst this
    exact h
  · rw [hL, vpI (by omega), nI_clamp (by omega)]
    refine ⟨hm, by omega, ?_⟩
    rintro x8 rfl x9 rfl
    refine hself _ _ ⟨j + 1, by omega, mI6 j, by rw [hf j q]; rfl⟩ ?_
    rw [mI6, nI_clamp (by omega), nI_clamp (by omega)]; omega
theorem lc_le {a b : Int64} : (lg_cmp a b ≤ 0) ↔ a ≤ b := by
  have h := @lc_lt a b
  constructor
  · intro q
    rcases Int64.lt_or_le b a with z | z
    · have := h.mpr z
      rw [i32_lt] at this
      rw [i32_le] at q
      omega
    · exact z
  · intro q
    rw [i32_le]
    have : ¬ (0 < lg_cmp a b) := fun z => absurd (h.mp z) (Int64.not_lt.mpr q)
    rw [i32_lt] at this
    have h0 : (0 : Int32).toInt = 0 := rfl
    omega
theorem y_quotient {x y : Nat} (hx : x < 2 ^ 62) (hy : y < 2 ^ 62) {P : Int32 → Mm → Prop} (h : P (nI (if y = 0 then 0 else x / y)) M) : wp_X6_quotient (lN x) (lN y) M P := by
  unfold wp_X6_quotient
  rw [lc_le, lN0, pk_lLE (by omega) (by omega), pk_lEQ (by omega) (by omega)]
  refine ⟨fun q => ?_, fun q => ⟨by omega, ?_⟩⟩
  · rw [if_pos (by omega)] at h; exact h
  · rw [if_neg (by omega)] at h
    rw [pk_lDiv (by omega) (by omega) (by omega), lN_i]; exact h
theorem y_greatest {n : Nat} (h0 : 0 < n) (hn : n ≤ 24) {P : Int32 → Mm → Prop} (h : ∀ g, g < n → (∀ k, k < n → rdL M k ≤ rdL M g) → (∀ k, k < g → rdL M k < rdL M g) → P (nI g) M) : wp_X2_greatestRemainder (nI n) M P := by
  unfold wp_X2_greatestRemainder
  refine lq2_i (fun s x => ∃ j g, j ≤ n ∧ x = nI j ∧ s = nI g ∧ g < j ∧ (∀ k, k < j → rdL M k ≤ rdL M g) ∧ ∀ k, k < g → rdL M k < rdL M g) (fun _ x => n - x.toNatClampNeg) ?_ _ _ ⟨1, 0, by omega, rfl, rfl, by omega, fun k hk => by rw [show k = 0 by omega]; exact Int64.le_refl _, fun k hk => by omega⟩
  rintro s x ⟨j, g, hj, hx, hs, hg, h1, h2⟩ self hself
  subst hx hs
  refine cLe (by omega) (by omega) (fun q => ?_) (fun q => ?_)
  · have : j = n := by omega
    subst this
    exact h g hg h1 h2
  · rw [vpI (by omega), vpI (by omega), nI_clamp (by omega), nI_clamp (by omega), lc_le]
    refine ⟨by omega, by omega, ?_⟩
    unfold jn
    refine ⟨fun q2 => ?_, fun q2 => ?_⟩
    · rintro x11 rfl
      refine hself _ _ ⟨j + 1, g, by omega, mI6 j, rfl, by omega, fun k hk => ?_, h2⟩ ?_
      · by_cases e : k = j
        · subst e; exact q2
        · exact h1 k (by omega)
      · rw [mI6, nI_clamp (by omega), nI_clamp (by omega)]; omega
    · rintro x11 rfl
      have q3 := Int64.not_le.mp q2
      refine hself _ _ ⟨j + 1, j, by omega, mI6 j, rfl, by omega, fun k hk => ?_, fun k hk => ?_⟩ ?_
      · by_cases e : k = j
        · subst e; exact Int64.le_refl _
        · exact Int64.le_of_lt (Int64.lt_of_le_of_lt (h1 k (by omega)) q3)
      · exact Int64.lt_of_le_of_lt (h1 k hk) q3
      · rw [mI6, nI_clamp (by omega), nI_clamp (by omega)]; omega
end CB
/-! ranks in the sharing out -/
def rank (a : Nat) (w : Nat → Nat) (S n k : Nat) : Nat := cnt (ahead a w S k) n
theorem ah_irr {a : Nat} {w : Nat → Nat} {S k : Nat} : ahead a w S k k = false := by
  unfold ahead
  simp only [decide_eq_false_iff_not]
  omega
theorem ah_tr {a : Nat} {w : Nat → Nat} {S i j k : Nat} (h1 : ahead a w S j i = true) (h2 : ahead a w S k j = true) : ahead a w S k i = true := by
  unfold ahead at *
  simp only [decide_eq_true_eq] at *
  omega
theorem ah_tot {a : Nat} {w : Nat → Nat} {S i j : Nat} (h : i ≠ j) : ahead a w S i j = true ∨ ahead a w S j i = true := by
  unfold ahead
  simp only [decide_eq_true_eq]
  omega
theorem rank_lt {a : Nat} {w : Nat → Nat} {S n k : Nat} (hk : k < n) : rank a w S n k < n := cnt_lt hk ah_irr
/-- i ahead of j: its rank is lower -/
theorem rank_mono {a : Nat} {w : Nat → Nat} {S n i j : Nat} (hi : i < n) (h : ahead a w S j i = true) : rank a w S n i < rank a w S n j :=
  cnt_smono (fun _ _ hk => ah_tr hk h) hi ah_irr h
theorem rank_inj {a : Nat} {w : Nat → Nat} {S n i j : Nat} (hi : i < n) (hj : j < n) (h : rank a w S n i = rank a w S n j) : i = j := by
  rcases Nat.decEq i j with q | q
  · rcases ah_tot (a := a) (w := w) (S := S) q with b | b
    · have := rank_mono (n := n) hj b; omega
    · have := rank_mono (n := n) hi b; omega
  · exact q
theorem rank_onto {a : Nat} {w : Nat → Nat} {S n m : Nat} (hm : m < n) : ∃ k, k < n ∧ rank a w S n k = m := inj_onto n (rank a w S n) (fun _ h => rank_lt h) (fun _ _ h1 h2 h => rank_inj h1 h2 h) m hm
section CB2
variable {M : Mm}
theorem lN_mo {a b : Nat} (ha : a < 2 ^ 62) (hb : b < 2 ^ 62) : lN a ≤ lN b ↔ a ≤ b := pk_lLE (by omega) (by omega)
theorem lm1 : (-1 : Int64).toInt = -1 := rfl
theorem y_shareOut {a n : Nat} (w : Nat → Nat) (hn : n ≤ 24) (hw : ∀ k, k < n → rd M 60 0 k = nI (w k)) (hwb : ∀ k, k < n → w k ≤ 4194304) (ha : a ≤ 1000000) (hz : sumN w n = 0 → a = 0) {P : Mm → Prop}
    (h : ∀ M2, Fg (fun t _ _ => t = 61) M M2 → (∀ k, k < n → rd M2 61 0 k = nI (shareN a w n k)) → P M2) : wp_X2_shareOut (nI a) (nI n) M P := by
  have hpr : ∀ k, k < n → a * w k ≤ 1000000 * 4194304 := fun k hk => Nat.mul_le_mul ha (hwb k hk)
  have hsb : sumN w n ≤ 4194304 * 24 := Nat.le_trans (sumN_bd hwb) (Nat.mul_le_mul_left _ hn)
  unfold wp_X2_shareOut
  have hsum : sumI (fun k => nI (w k)) n = nI (sumN w n) := sumI_nn (fun _ _ => rfl)
  refine y_sumOf (L := 24) ⟨mw60 0 (by decide), kt60⟩ lt60 hn (by decide) (fun k => nI (w k)) hw ?_
  rw [hsum]
  generalize hS : sumN w n = S at *
  have hrle : ∀ k, k < n → a * w k % S ≤ a * w k := fun k _ => Nat.mod_le _ _
  have hqle : ∀ k, k < n → a * w k / S ≤ a * w k := fun k _ => Nat.div_le_self _ _
  have hq0 : ∀ k, k < n → S = 0 → a * w k / S = 0 := fun k _ z => by rw [z, Nat.div_zero]
  have hout : ∀ j, j ≤ n → sumN (fun k => a * w k / S) j ≤ a := by
    intro j hj
    by_cases z : S = 0
    · have : sumN (fun k => a * w k / S) j = 0 := by rw [sumN_congr (g := fun _ => 0) (fun k hk => hq0 k (by omega) z), sumN_0]
      omega
    · have h1 : sumN (fun k => a * w k / S) n ≤ a := by rw [← hS]; exact out_le a w n (by omega)
      have h2 : ∀ m, j ≤ m → sumN (fun k => a * w k / S) j ≤ sumN (fun k => a * w k / S) m := by
        intro m
        induction m with
        | zero => intro hm; rw [show j = 0 by omega]; exact Nat.le_refl _
        | succ m ih =>
          intro hm
          by_cases e : j = m + 1
          · rw [e]; exact Nat.le_refl _
          · exact Nat.le_trans (ih (by omega)) (Nat.le_add_right _ _)
      exact Nat.le_trans (h2 n hj) h1
  have hqb : ∀ k, k < n → a * w k / S ≤ a := by
    intro k hk
    have h1 := hout (k + 1) (by omega)
    have h2 : sumN (fun k => a * w k / S) (k + 1) = sumN (fun k => a * w k / S) k + a * w k / S := rfl
    omega
  -- the parts rounded down
  refine lq3_i (fun s x M' => ∃ j, j ≤ n ∧ x = nI j ∧ s = nI (a - sumN (fun k => a * w k / S) j) ∧ Fg (fun t _ _ => t = 61) M M' ∧ (∀ k, k < j → rd M' 61 0 k = nI (a * w k / S) ∧ rdL M' k = lN (a * w k % S))) (fun _ x _ => n - x.toNatClampNeg) ?_ _ _ _ ⟨0, by omega, rfl, rfl, Fg.rf, fun k hk => by omega⟩
  rintro s x M' ⟨j, hj, hx, hs, hF, hpt⟩ self hself
  subst hx hs
  refine cLe (by omega) (by omega) (fun q => ?_) (fun q => ?_)
  rotate_left
  · have hp := hpr j q
    have hwj := hwb j q
    have hrj := hrle j q
    have hqj := hqle j q
    have hqa := hqb j q
    rw [vpI (by omega), nI_clamp (by omega), toL (by omega), hF 60 0 j (by show ¬ (60 = 61); decide), hw j q, toL (by omega), lN_mul]
    refine ⟨by omega, ?_⟩
    rintro x24 rfl
    rw [toL (by omega)]
    refine y_quotient (by omega) (by omega) ?_
    have e1 : (if S = 0 then 0 else a * w j / S) = a * w j / S := by
      by_cases z : S = 0
      · rw [if_pos z, z, Nat.div_zero]
      · rw [if_neg z]
    rw [e1]
    rintro M27 rfl M28 rfl x29 rfl x30 rfl
    have ho := hout j (by omega)
    have ho2 := hout (j + 1) (by omega)
    have hs2 : sumN (fun k => a * w k / S) (j + 1) = sumN (fun k => a * w k / S) j + a * w j / S := rfl
    refine hself _ _ _ ⟨j + 1, by omega, mI6 j, ?_, (hF.tr (Fg.w rfl)).tr Fg.wL, fun k hk => ?_⟩ ?_
    · rw [rd_wrL, rd_wr_s, pk_sub (by omega), hs2]
      congr 1
      omega
    · by_cases e : k = j
      · subst e
        refine ⟨by rw [rd_wrL, rd_wr_s], ?_⟩
        rw [rdL_wrL, if_pos rfl, rd_wr_s, toL (by omega), lN_mul, lN_sub (Nat.div_mul_le_self _ _)]
        congr 1
        have := Nat.div_add_mod (a * w k) S
        rw [Nat.mul_comm] at this
        omega
      · obtain ⟨f1, f2⟩ := hpt k (by omega)
        refine ⟨?_, ?_⟩
        · rw [rd_wrL, rd_wr_n (fun z => e z.2.2)]; exact f1
        · rw [rdL_wrL, if_neg e, rdL_wr]; exact f2
    · rw [mI6, nI_clamp (by omega), nI_clamp (by omega)]; omega
  have : j = n := by omega
  subst this
  have ho := hout j (Nat.le_refl _)
  generalize hd : a - sumN (fun k => a * w k / S) j = d at *
  have hdn : d ≤ j := by
    by_cases z : S = 0
    · have := hz z; omega
    · have := rest_lt a w j (by omega)
      rw [hS] at this
      have h2 := @cnt_le (fun k => decide (0 < a * w k % S)) j
      omega
  have hfin : ∀ k, k < j → shareN a w j k = a * w k / S + (if rank a w S j k < d then 1 else 0) := by
    intro k hk
    unfold shareN rank
    rw [hS]
    by_cases z : S = 0
    · rw [if_pos z, hq0 k hk z, if_neg (by have := hz z; omega)]
    · rw [if_neg z, hd]
  -- those with the greatest remainders
  refine lq3_i (fun s x M2 => ∃ m, m ≤ d ∧ x = nI m ∧ s = nI (d - m) ∧ Fg (fun t _ _ => t = 61) M M2 ∧ (∀ k, k < j → rd M2 61 0 k = nI (a * w k / S + (if rank a w S j k < m then 1 else 0)) ∧ rdL M2 k = (if rank a w S j k < m then -1 else lN (a * w k % S)))) (fun _ x _ => d - x.toNatClampNeg) ?_ _ _ _ ⟨0, by omega, rfl, rfl, hF, fun k hk => by rw [if_neg (by omega), if_neg (by omega)]; exact hpt k hk⟩
  rintro s x M2 ⟨m, hm, hx, hs, hF2, hpt2⟩ self2 hself2
  subst hx hs
  have hend : m = d → P M2 := fun e => h M2 hF2 (fun k hk => by rw [hfin k hk, (hpt2 k hk).1, e])
  refine cLe (by omega) (by omega) (fun q2 => hend (by omega)) (fun q2 => ?_)
  rw [show (0 : Int32) = nI 0 from rfl]
  refine cLe (by omega) (by omega) (fun q3 => hend (by omega)) (fun q3 => ?_)
  refine y_greatest (by omega) hn (fun g hg hmax hfirst => ?_)
  obtain ⟨z, hzj, hzr⟩ := rank_onto (a := a) (w := w) (S := S) (n := j) (m := m) q2
  have hpz := hpr z hzj
  have hrz := hrle z hzj
  have hpg := hpr g hg
  have hrg := hrle g hg
  have hz1 : rdL M2 z = lN (a * w z % S) := by rw [(hpt2 z hzj).2, if_neg (by omega)]
  have hgz := hmax z hzj
  have hgr : ¬ rank a w S j g < m := by
    intro q4
    rw [hz1, (hpt2 g hg).2, if_pos q4] at hgz
    have h5 := Int64.le_iff_toInt_le.mp hgz
    rw [pk_lT (by omega), lm1] at h5
    omega
  have hg1 : rdL M2 g = lN (a * w g % S) := by rw [(hpt2 g hg).2, if_neg hgr]
  have hge : g = z := by
    rcases Nat.decEq g z with q4 | q4
    · exfalso
      have hne : rank a w S j g ≠ m := fun q5 => q4 (rank_inj hg hzj (q5.trans hzr.symm))
      have hah : ahead a w S g z = true := by
        rcases ah_tot (a := a) (w := w) (S := S) q4 with b | b
        · exact b
        · have := rank_mono (n := j) hg b; omega
      rw [hz1, hg1, lN_mo (by omega) (by omega)] at hgz
      unfold ahead at hah
      simp only [decide_eq_true_eq] at hah
      rcases hah with b | ⟨b1, b2⟩
      · omega
      · have h6 := hfirst z b2
        rw [hz1, hg1, pk_lLT (by omega) (by omega)] at h6
        omega
    · exact q4
  subst hge
  rw [vpI (by omega), nI_clamp (by omega)]
  refine ⟨by omega, ?_⟩
  rintro M19 rfl M20 rfl x21 rfl x22 rfl
  have hqg := hqb g hg
  refine hself2 _ _ _ ⟨m + 1, by omega, mI6 m, ?_, (hF2.tr (Fg.w rfl)).tr Fg.wL, fun k hk => ?_⟩ ?_
  · obtain ⟨u, hu⟩ : ∃ u, d - m = u + 1 := ⟨d - m - 1, by omega⟩
    rw [hu, pk_m1]
    congr 1
    omega
  · by_cases e : k = g
    · subst e
      refine ⟨?_, ?_⟩
      · rw [rd_wrL, rd_wr_s, (hpt2 k hk).1, if_neg hgr, if_pos (by omega), Nat.add_zero, mI6]
      · rw [rdL_wrL, if_pos rfl, if_pos (by omega)]
    · have hne : rank a w S j k ≠ m := fun q5 => e (rank_inj hk hg (q5.trans hzr.symm))
      obtain ⟨f1, f2⟩ := hpt2 k hk
      refine ⟨?_, ?_⟩
      · rw [rd_wrL, rd_wr_n (fun z => e z.2.2), f1]
        congr 2
        by_cases q5 : rank a w S j k < m
        · rw [if_pos q5, if_pos (by omega)]
        · rw [if_neg q5, if_neg (by omega)]
      · rw [rdL_wrL, if_neg e, rdL_wr, f2]
        by_cases q5 : rank a w S j k < m
        · rw [if_pos q5, if_pos (by omega)]
        · rw [if_neg q5, if_neg (by omega)]
  · rw [mI6, nI_clamp (by omega), nI_clamp (by omega)]; omega
end CB2
