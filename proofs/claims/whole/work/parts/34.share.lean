/-! SHARING OUT -/
theorem sumN_mul (a : Nat) (w : Nat → Nat) (n : Nat) : sumN (fun k => a * w k) n = a * sumN w n := by
  induction n with
  | zero => rfl
  | succ n ih => show sumN (fun k => a * w k) n + a * w n = a * (sumN w n + w n); rw [ih, Nat.mul_add]
theorem sumN_add (f g : Nat → Nat) (n : Nat) : sumN (fun k => f k + g k) n = sumN f n + sumN g n := by
  induction n with
  | zero => rfl
  | succ n ih => show sumN (fun k => f k + g k) n + (f n + g n) = (sumN f n + f n) + (sumN g n + g n); rw [ih]; omega
/-- what is left over, times the sum, is the sum of the remainders -/
theorem rest_rem (a : Nat) (w : Nat → Nat) (n : Nat) (hs : 0 < sumN w n) : (sumN (fun k => a * w k / sumN w n) n) * sumN w n + sumN (fun k => a * w k % sumN w n) n = a * sumN w n := by
  generalize hS : sumN w n = s at *
  have h1 : sumN (fun k => s * (a * w k / s)) n = s * sumN (fun k => a * w k / s) n := sumN_mul s _ n
  have h2 : sumN (fun k => s * (a * w k / s) + a * w k % s) n = sumN (fun k => a * w k) n := sumN_congr (fun k _ => Nat.div_add_mod _ _)
  rw [sumN_add, h1, sumN_mul, hS] at h2
  rw [Nat.mul_comm]
  exact h2
theorem out_le (a : Nat) (w : Nat → Nat) (n : Nat) (hs : 0 < sumN w n) : sumN (fun k => a * w k / sumN w n) n ≤ a := by
  have h := rest_rem a w n hs
  exact Nat.le_of_mul_le_mul_right (by omega : sumN (fun k => a * w k / sumN w n) n * sumN w n ≤ a * sumN w n) hs
/-- the remainders that are not 0 are more than what is left over -/
theorem rest_lt (a : Nat) (w : Nat → Nat) (n : Nat) (hs : 0 < sumN w n) : a - sumN (fun k => a * w k / sumN w n) n ≤ cnt (fun k => decide (0 < a * w k % sumN w n)) n := by
  have h := rest_rem a w n hs
  have hle := out_le a w n hs
  generalize hS : sumN w n = s at *
  have hb : sumN (fun k => a * w k % s) n ≤ cnt (fun k => decide (0 < a * w k % s)) n * s := by
    clear h hle hS
    induction n with
    | zero => exact Nat.zero_le _
    | succ n ih =>
      show sumN (fun k => a * w k % s) n + a * w n % s ≤ (cnt (fun k => decide (0 < a * w k % s)) n + (if decide (0 < a * w n % s) = true then 1 else 0)) * s
      have hm := Nat.mod_lt (a * w n) hs
      by_cases e : 0 < a * w n % s
      · rw [if_pos (decide_eq_true e), Nat.add_mul]; omega
      · rw [if_neg (by simpa using e), Nat.add_mul]; omega
  obtain ⟨d, hd⟩ : ∃ d, a = sumN (fun k => a * w k / s) n + d := ⟨a - sumN (fun k => a * w k / s) n, by omega⟩
  have h3 : d * s ≤ cnt (fun k => decide (0 < a * w k % s)) n * s := by
    have h4 : a * s = sumN (fun k => a * w k / s) n * s + d * s := by
      rw [← Nat.add_mul, ← hd]
    omega
  have := Nat.le_of_mul_le_mul_right h3 hs
  omega
/-- nobody gets more than its weight -/
theorem share_le {a : Nat} {w : Nat → Nat} {n i : Nat} (hi : i < n) (ha : a ≤ sumN w n) : shareN a w n i ≤ w i := by
  unfold shareN
  by_cases h0 : sumN w n = 0
  · rw [if_pos h0]; exact Nat.zero_le _
  rw [if_neg h0]
  have hs : 0 < sumN w n := by omega
  have hlt := rest_lt a w n hs
  have hle : a * w i / sumN w n ≤ w i := by
    apply Nat.div_le_of_le_mul
    rw [Nat.mul_comm]
    exact Nat.mul_le_mul_right _ ha |> fun h => by rw [Nat.mul_comm (w i)]; exact h
  by_cases hc : cnt (ahead a w (sumN w n) i) n < a - sumN (fun k => a * w k / sumN w n) n
  · rw [if_pos hc]
    have hr : 0 < a * w i % sumN w n := by
      rcases Nat.eq_zero_or_pos (a * w i % sumN w n) with q | q
      · exfalso
        have h2 : cnt (fun k => decide (0 < a * w k % sumN w n)) n ≤ cnt (ahead a w (sumN w n) i) n := cnt_mono (fun k _ hk => by
          unfold ahead
          simp only [decide_eq_true_eq] at *
          left; omega)
        omega
      · exact q
    have h3 : a * w i / sumN w n * sumN w n + a * w i % sumN w n = a * w i := by rw [Nat.mul_comm]; exact Nat.div_add_mod _ _
    have h4 : a * w i ≤ sumN w n * w i := Nat.mul_le_mul_right _ ha
    have h5 : a * w i / sumN w n * sumN w n < w i * sumN w n := by rw [Nat.mul_comm (w i)]; omega
    have := Nat.lt_of_mul_lt_mul_right h5
    omega
  · rw [if_neg hc]; omega
theorem share_b {a : Nat} {w : Nat → Nat} {n i : Nat} (hi : i < n) (ha : a ≤ sumN w n) {b : Nat} (hb : w i ≤ b) : shareN a w n i ≤ b := Nat.le_trans (share_le hi ha) hb
section SHB
variable {B : Bk}
theorem grp (hW : WF B) {c : Nat} (hc : c < nC B) : ∃ g, g < 3 ∧ B 4 c = nI g := (hW.cov c hc).2.2.2
theorem ded_bd (hW : WF B) (e : Nat) {c : Nat} (hc : c < nC B) : ∃ d, ded B e c = nI d ∧ d ≤ (gross B e c).toNatClampNeg := by
  obtain ⟨g, hg, h4⟩ := grp hW hc
  refine ⟨_, rfl, ?_⟩
  rw [h4]
  have h := share_le (w := fun k => (gAt B e (nI g) k).toNatClampNeg) hc (damt_bd hW e hg).2
  have h2 : gAt B e (nI g) c = gross B e c := by unfold gAt; rw [if_pos h4]
  rw [h2] at h
  exact h
theorem net_bd (hW : WF B) (e : Nat) {c : Nat} (hc : c < nC B) : bd (net B e c) 0 99999 := by
  obtain ⟨d, hd, hle⟩ := ded_bd hW e hc
  have hg := gross_bd hW e hc
  obtain ⟨h1, h2, h3⟩ := bd_nI hg
  unfold net
  rw [hd, h1, pk_sub hle]
  exact nI_bd (by omega) (by decide)
theorem left_bd (hW : WF B) {c : Nat} (hc : c < nC B) : ∀ p, p ≤ nE B → bd (left B c p) 0 99999 := by
  intro p
  induction p with
  | zero => intro _; exact bd_wk (hW.cov c hc).2.1 (by decide) (Int.le_refl _)
  | succ p ih =>
    intro hp
    have h1 := ih (by omega)
    have h2 := net_bd hW (ordE B p) hc
    obtain ⟨a1, a2, a3⟩ := bd_nI h1
    have h3 := (bd_mn h1 h2).1
    obtain ⟨b1, b2, b3⟩ := bd_nI h3
    have hle : (mn (left B c p) (net B (ordE B p) c)).toNatClampNeg ≤ (left B c p).toNatClampNeg := by
      have e1 := (i32_nn h1.1).2.2
      have e2 := (i32_nn h3.1).2.2
      have e3 : (mn (left B c p) (net B (ordE B p) c)).toInt ≤ (left B c p).toInt := by rw [mn_toInt]; split <;> omega
      omega
    show bd (left B c p - mn (left B c p) (net B (ordE B p) c)) 0 99999
    rw [b1]
    generalize (mn (left B c p) (net B (ordE B p) c)).toNatClampNeg = y at *
    rw [a1, pk_sub hle]
    exact nI_bd (by omega) (by decide)
theorem paid_bd (hW : WF B) {e c : Nat} (he : e < nE B) (hc : c < nC B) : bd (paid B e c) 0 99999 := (bd_mn (net_bd hW e hc) (left_bd hW hc (pos B e) (Nat.le_of_lt (pos_lt he)))).1
theorem paid_ls (hW : WF B) {e c : Nat} (he : e < nE B) (hc : c < nC B) : (paid B e c).toNatClampNeg ≤ sumN (fun k => (lsAt B e c k).toNatClampNeg) (nK B) := by
  have h1 := (i32_nn (paid_bd hW he hc).1).2.2
  have h2 : (paid B e c).toInt ≤ (net B e c).toInt := by unfold paid; rw [mn_toInt]; split <;> omega
  obtain ⟨d, hd, hle⟩ := ded_bd hW e hc
  obtain ⟨g1, g2, g3⟩ := bd_nI (gross_bd hW e hc)
  have h3 : (net B e c).toInt ≤ (gross B e c).toInt := by
    unfold net
    rw [hd]
    generalize (gross B e c).toNatClampNeg = y at *
    rw [g1, pk_sub hle, nI_toInt (by omega), nI_toInt (by omega)]
    omega
  have h4 : (gross B e c).toInt ≤ (lsum B e c).toInt := by unfold gross; rw [mn_toInt]; split <;> omega
  obtain ⟨l1, l2⟩ := lsum_nn hW e c
  rw [l1, nI_toInt (by omega)] at h4
  omega
end SHB
