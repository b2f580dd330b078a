/-! THE MODEL takes its text apart -/
abbrev Sp : Type := Bool × Nat
def MPs (x : Tx) (S : Sp) (M : Mm) : Prop := MT x M ∧ rd M 7 0 8 = nI S.2 ∧ rd M 7 0 10 = (if S.1 = true then 1 else 0) ∧ S.2 ≤ x.1
def sgn (x : Tx) (S : Sp) : Int32 := if S.1 = true then -4 else if S.2 < x.1 then x.2 S.2 else -4
def takeP (x : Tx) (S : Sp) (c : Int32) : Sp := if S.1 = true then S else if is x S.2 c = true then (false, S.2 + 1) else (true, S.2)
def numP (x : Tx) (S : Sp) : Sp := if S.1 = true then S else (decide (nd x S.2 = 0), S.2 + nd x S.2)
def numV (x : Tx) (S : Sp) : Int32 := if S.1 = true then 0 else vl x S.2 (nd x S.2)
def enA (x : Tx) (p : Nat) : Sp := numP x (false, p + 1)
def enB (x : Tx) (p : Nat) (c : Int32) : Sp := numP x (takeP x (enA x p) c)
def enC (x : Tx) (p : Nat) : Sp := numP x (takeP x (enB x p 44) 44)
def entM (x : Tx) (p : Nat) : Sp := if is x p 101 = true then enA x p else if is x p 99 = true then enC x p else if is x p 114 = true then enB x p 61 else (true, p)
section MSC
variable {M : Mm} {x : Tx} {S : Sp}
theorem MPs.k {M2 : Mm} {R : Nat → Nat → Nat → Prop} (h : MPs x S M) (hf : Fg R M M2) (hr : ∀ t k j, t = 7 ∨ t = 166 → ¬ R t k j) : MPs x S M2 :=
  ⟨h.1.kept hf (fun t k j z => hr t k j (by omega)), by rw [hf _ _ _ (hr _ _ _ (Or.inl rfl))]; exact h.2.1, by rw [hf _ _ _ (hr _ _ _ (Or.inl rfl))]; exact h.2.2.1, h.2.2.2⟩
theorem q_sign (hS : MPs x S M) {P : Int32 → Mm → Prop} (h : P (sgn x S) M) : wp_X7_sign M P := by
  obtain ⟨⟨h6, hl, ht⟩, hp, hw, hle⟩ := hS
  unfold sgn at h
  unfold wp_X7_sign
  rw [hw, hp, hl]
  refine tsw (fun q => ?_) (fun q => ?_)
  · rw [if_pos q] at h; exact h
  rw [if_neg (by rw [q]; decide)] at h
  refine cLe (by omega) (by omega) (fun q2 => ?_) (fun q2 => ?_)
  · rw [if_neg (by omega)] at h; exact h
  · rw [if_pos q2] at h
    rw [vpI (by omega), nI_clamp (by omega), ht _ q2]
    exact ⟨by omega, h⟩
theorem sgn_is {c : Int32} (hc : c ≠ -4) : sgn x S = c ↔ S.1 = false ∧ is x S.2 c = true := by
  unfold sgn
  by_cases q : S.1 = true
  · rw [if_pos q]
    exact ⟨fun z => absurd z.symm hc, fun z => absurd (q.symm.trans z.1) (by decide)⟩
  · rw [if_neg q, is_t]
    have q' : S.1 = false := by revert q; cases S.1 <;> simp
    by_cases q2 : S.2 < x.1
    · rw [if_pos q2]; exact ⟨fun z => ⟨q', q2, z⟩, fun z => z.2.2⟩
    · rw [if_neg q2]; exact ⟨fun z => absurd z.symm hc, fun z => absurd z.2.1 q2⟩
def qP (t _k j : Nat) : Prop := t = 7 ∧ (j = 8 ∨ j = 10)
theorem MPs.at {q : Nat} (hS : MPs x S M) (hq : q ≤ x.1) : MPs x (S.1, q) (wr M 7 0 8 (nI q)) :=
  ⟨hS.1.kept (R := fun t _ j => t = 7 ∧ j = 8) (Fg.w ⟨rfl, rfl⟩) (fun t k j z => by omega), rd_wr_s, rdj hS.2.2.1 (by omega), hq⟩
theorem mps_w {w : Bool} {v : Int32} (hS : MPs x S M) (hv : v = if w = true then 1 else 0) : MPs x (w, S.2) (wr M 7 0 10 v) :=
  ⟨hS.1.kept (R := fun t _ j => t = 7 ∧ j = 10) (Fg.w ⟨rfl, rfl⟩) (fun t k j z => by omega), rdj hS.2.1 (by omega), by rw [rd_wr_s]; exact hv, hS.2.2.2⟩
theorem q_takes (hS : MPs x S M) {c : Int32} (hc : c ≠ -4) {P : Mm → Prop} (h : ∀ M2, Fg qP M M2 → MPs x (takeP x S c) M2 → P M2) : wp_X7_takes c M P := by
  have h6 := hS.1.1
  have hle := hS.2.2.2
  unfold wp_X7_takes
  refine q_sign hS ⟨fun q => ?_, fun q => ?_⟩
  · rintro M4 rfl
    refine h _ (Fg.w ⟨rfl, Or.inr rfl⟩) ?_
    have e : takeP x S c = (true, S.2) := by
      unfold takeP
      by_cases w : S.1 = true
      · rw [if_pos w]; rw [← w]
      · rw [if_neg w, if_neg]
        intro z
        exact q ((sgn_is hc).mpr ⟨by revert w; cases S.1 <;> simp, z⟩)
    rw [e]
    exact mps_w hS rfl
  · obtain ⟨q1, q2⟩ := (sgn_is hc).mp q
    have q3 := (is_t.mp q2).1
    rintro M5 rfl
    rw [hS.2.1, mI6]
    refine h _ (Fg.w ⟨rfl, Or.inl rfl⟩) ?_
    have e : takeP x S c = (S.1, S.2 + 1) := by
      unfold takeP
      rw [if_neg (by rw [q1]; decide), if_pos q2, q1]
    rw [e]
    exact hS.at q3
theorem q_number {p : Nat} (hS : MPs x (false, p) M) {P : Int32 → Mm → Prop} (h : ∀ M2, Fg qP M M2 → MPs x (numP x (false, p)) M2 → P (numV x (false, p)) M2) : wp_X7_number M P := by
  have h6 := hS.1.1
  unfold wp_X7_number
  refine lq3_i (fun v n M' => ∃ k, k ≤ 6 ∧ n = nI k ∧ v = vl x p k ∧ (∀ i, i < k → dg x (p + i) = true) ∧ Fg qP M M' ∧ MPs x (false, p + k) M') (fun _ n _ => 6 - n.toNatClampNeg) ?_ _ _ _ ⟨0, by omega, rfl, rfl, fun i hi => absurd hi (Nat.not_lt_zero _), Fg.rf, hS⟩
  rintro v n M' ⟨k, hk, rfl, rfl, hd, hF, hC⟩ self hself
  have hpk : p + k ≤ x.1 := hC.2.2.2
  have fin : nd x p = k → ((¬ nI k = 0 → (fits .boolean (.int ((rd M' 7 0 10) ||| 0)) = true ∧ (∀ M13 : Mm, M13 = wr M' 7 0 10 ((rd M' 7 0 10) ||| 0) → P (vl x p k) M13))) ∧ (nI k = 0 → (fits .boolean (.int ((rd M' 7 0 10) ||| 1)) = true ∧ (∀ M13 : Mm, M13 = wr M' 7 0 10 ((rd M' 7 0 10) ||| 1) → P (vl x p k) M13)))) := fun e => by
    have ev : numV x (false, p) = vl x p k := by
      unfold numV
      rw [if_neg Bool.false_ne_true]
      show vl x p (nd x p) = _
      rw [e]
    have ep : numP x (false, p) = (decide (k = 0), p + k) := by
      unfold numP
      rw [if_neg Bool.false_ne_true]
      show (decide (nd x p = 0), p + nd x p) = _
      rw [e]
    rw [ev, ep] at h
    have w0 : rd M' 7 0 10 = 0 := hC.2.2.1
    rw [w0, show (0 : Int32) ||| 0 = 0 from by decide, show (0 : Int32) ||| 1 = 1 from by decide]
    rw [show (nI k = (0 : Int32)) = (nI k = nI 0) from rfl]
    refine cNe (by omega) (by omega) (fun q => ⟨by rfl, ?_⟩) (fun q => ⟨by rfl, ?_⟩)
    · rintro M13 rfl
      refine h _ (hF.tr (Fg.w ⟨rfl, Or.inr rfl⟩)) (mps_w hC ?_)
      rw [decide_eq_false q]; rfl
    · rintro M13 rfl
      refine h _ (hF.tr (Fg.w ⟨rfl, Or.inr rfl⟩)) (mps_w hC ?_)
      rw [decide_eq_true q]; rfl
  unfold jn
  rw [show (6 : Int32) = nI 6 from rfl]
  refine cLe (by omega) (by omega) (fun q => ?_) (fun q => ?_)
  · exact fin (by rw [show k = 6 by omega] at hd ⊢; exact rn_all hd 6 (by omega))
  refine q_sign hC (q_in (tst (fun q3 => ?_) (fun q3 => ?_)))
  · have q3 : inb (sgn x (false, p + k)) 48 57 = false := q3
    refine fin (rn_stop hd ?_ 6 (by omega))
    unfold dg
    by_cases w : p + k < x.1
    · unfold sgn at q3
      rw [if_neg Bool.false_ne_true, if_pos w] at q3
      rw [q3, Bool.and_false]
    · rw [decide_eq_false w, Bool.false_and]
  · have q3 : inb (sgn x (false, p + k)) 48 57 = true := q3
    have w : p + k < x.1 := by
      rcases Nat.lt_or_ge (p + k) x.1 with z | z
      · exact z
      · unfold sgn at q3
        rw [if_neg Bool.false_ne_true, if_neg (show ¬ p + k < x.1 by omega)] at q3
        exact absurd q3 (by decide)
    have e : sgn x (false, p + k) = x.2 (p + k) := by
      unfold sgn
      rw [if_neg Bool.false_ne_true, if_pos w]
    rw [e] at q3
    refine q_sign hC ?_
    rw [e]
    rintro x23 rfl M24 rfl x25 rfl
    rw [hC.2.1, mI6, mI6, Int32.mul_comm]
    refine hself _ _ _ ⟨k + 1, by omega, rfl, rfl, fun i hi => ?_, hF.tr (Fg.w ⟨rfl, Or.inl rfl⟩), hC.at w⟩ ?_
    · by_cases z : i = k
      · rw [z]
        unfold dg
        rw [decide_eq_true w, q3]
        rfl
      · exact hd i (by omega)
    · rw [nI_clamp (by omega), nI_clamp (by omega)]; omega
theorem q_mnum (hS : MPs x S M) {J : Int32 → Mm → Prop} (h : ∀ M2, Fg qP M M2 → MPs x (numP x S) M2 → J (numV x S) M2) : ((rd M 7 0 10 = 0 → wp_X7_number M (fun r M2 => J r M2)) ∧ (¬ rd M 7 0 10 = 0 → J 0 M)) := by
  rw [hS.2.2.1]
  refine tst (fun q => ?_) (fun q => ?_)
  · obtain ⟨w, p⟩ := S
    have q : w = false := q
    subst q
    exact q_number hS h
  · have e1 : numP x S = S := if_pos q
    have e2 : numV x S = 0 := if_pos q
    rw [e1, e2] at h
    exact h _ Fg.rf hS
end MSC
