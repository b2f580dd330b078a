/-! THE LAW'S SHEET HOLDS -/
theorem l5 {L j : Nat} (hL : L ≤ 2560) (hj : j ≤ L) {A C : Prop} (f : L < j + 5 → A) (g : j + 5 ≤ L → C) : ((Int32.ofNat L - (5 : Int32)) < nI j → A) ∧ (¬ (Int32.ofNat L - (5 : Int32)) < nI j → C) := by
  have e : (Int32.ofNat L - (5 : Int32)).toInt = (L : Int) - 5 := by
    by_cases q : 5 ≤ L
    · have : Int32.ofNat L - (5 : Int32) = nI (L - 5) := by
        show nI L - nI 5 = _
        rw [pk_sub q]
      rw [this, nI_toInt (by omega)]
      omega
    · have : L = 0 ∨ L = 1 ∨ L = 2 ∨ L = 3 ∨ L = 4 := by omega
      rcases this with rfl | rfl | rfl | rfl | rfl <;> decide
  rw [i32_lt, e, nI_toInt (by omega)]
  exact ⟨fun z => f (by omega), fun z => g (by omega)⟩
set_option maxRecDepth 100000 in
set_option maxHeartbeats 8000000 in
theorem law_true {L : Nat} (hL : L ≤ 2560) (xs : Nat → Int32) {D : Dt} {M : Mm} (hI : INV D M) : law_sh L xs 0 M := by
  unfold law_sh
  refine lq2_i (fun x M' => ∃ j, j ≤ L ∧ x = nI j ∧ ∃ D, INV D M') (fun x _ => L - x.toNatClampNeg) ?_ _ _ ⟨0, by omega, rfl, D, hI⟩
  rintro x M' ⟨j, hj, rfl, D, hI⟩ self hself
  refine l5 hL hj (fun _ => trivial) (fun q => ?_)
  have g : ∀ n, n < 5 → vp_in (nI j + nI n) L := fun n hn => by
    rw [nI_add, vpI (by omega)]
    omega
  have g0 : vp_in (nI j) L := by rw [vpI (by omega)]; omega
  refine ⟨g0, ?_⟩
  have nx : ∀ (M2 : Mm) (D2 : Dt), INV D2 M2 → ∀ x10 : Int32, x10 = nI j + (5 : Int32) → self x10 M2 := by
    rintro M2 D2 h2 x10 rfl
    have e : nI j + (5 : Int32) = nI (j + 5) := by rw [show (5 : Int32) = nI 5 from rfl, nI_add]
    rw [e]
    refine hself _ _ ⟨j + 5, q, rfl, D2, h2⟩ ?_
    rw [nI_clamp (by omega), nI_clamp (by omega)]
    omega
  have fin : ∀ (r : Int32) (M2 : Mm) (D2 : Dt), INV D2 M2 → ((r = r → ∀ x10 : Int32, x10 = nI j + (5 : Int32) → self x10 M2) ∧ (¬ r = r → False)) := fun r M2 D2 h2 => ⟨fun _ => nx M2 D2 h2, fun z => z rfl⟩
  obtain ⟨B, H, s, y, F, z⟩ := D
  unfold jn
  exact ⟨fun _ => ⟨g 1 (by omega), g 2 (by omega), g 3 (by omega), g 4 (by omega), d_addCover hI _ _ _ _ (fun r M2 k2 => fin r M2 _ k2)⟩,
    fun _ => ⟨g 1 (by omega), g 2 (by omega), g 3 (by omega), g 4 (by omega), d_addLayer hI _ _ _ _ (fun r M2 k2 => fin r M2 _ k2)⟩,
    fun _ => ⟨g 1 (by omega), d_addEvent hI _ (fun r M2 k2 => fin r M2 _ k2)⟩,
    fun _ => ⟨g 1 (by omega), g 2 (by omega), g 3 (by omega), d_addClaim hI _ _ _ (fun r M2 k2 => fin r M2 _ k2)⟩,
    fun _ => ⟨g 1 (by omega), d_removeClaim hI _ (fun r M2 k2 => fin r M2 _ k2)⟩,
    fun _ => ⟨g 1 (by omega), g 2 (by omega), d_setDay hI _ _ (fun r M2 k2 => fin r M2 _ k2)⟩,
    fun _ => ⟨g 1 (by omega), g 2 (by omega), d_setDeductible hI _ _ (fun r M2 k2 => fin r M2 _ k2)⟩,
    fun _ => ⟨g 1 (by omega), d_setIndex hI _ (fun r M2 k2 => fin r M2 _ k2)⟩,
    fun _ => ⟨g 1 (by omega), g 2 (by omega), d_setRecovery hI _ _ (fun r M2 k2 => fin r M2 _ k2)⟩,
    fun _ => ⟨g 1 (by omega), d_append hI _ (fun r M2 k2 => fin r M2 _ k2)⟩,
    fun _ => d_read hI (fun r M2 k2 => fin r M2 _ k2),
    fun _ => d_faultPosition hI (fun r M2 k2 => fin r M2 _ k2),
    fun _ => d_undo hI (fun r M2 k2 => fin r M2 _ k2),
    fun _ => ⟨g 1 (by omega), d_count hI _ (fun r M2 k2 => fin r M2 _ k2)⟩,
    fun _ => ⟨g 1 (by omega), g 2 (by omega), d_cover hI _ _ (fun r M2 k2 => fin r M2 _ k2)⟩,
    fun _ => ⟨g 1 (by omega), g 2 (by omega), d_layer hI _ _ (fun r M2 k2 => fin r M2 _ k2)⟩,
    fun _ => ⟨g 1 (by omega), d_deductible hI _ (fun r M2 k2 => fin r M2 _ k2)⟩,
    fun _ => ⟨g 1 (by omega), g 2 (by omega), d_event hI _ _ (fun r M2 k2 => fin r M2 _ k2)⟩,
    fun _ => ⟨g 1 (by omega), d_eventAt hI _ (fun r M2 k2 => fin r M2 _ k2)⟩,
    fun _ => ⟨g 1 (by omega), g 2 (by omega), d_claim hI _ _ (fun r M2 k2 => fin r M2 _ k2)⟩,
    fun _ => ⟨g 1 (by omega), g 2 (by omega), d_gross hI _ _ (fun r M2 k2 => fin r M2 _ k2)⟩,
    fun _ => ⟨g 1 (by omega), g 2 (by omega), d_deducted hI _ _ (fun r M2 k2 => fin r M2 _ k2)⟩,
    fun _ => ⟨g 1 (by omega), g 2 (by omega), d_paid hI _ _ (fun r M2 k2 => fin r M2 _ k2)⟩,
    fun _ => ⟨g 1 (by omega), g 2 (by omega), d_leftBefore hI _ _ (fun r M2 k2 => fin r M2 _ k2)⟩,
    fun _ => ⟨g 1 (by omega), g 2 (by omega), d_borne hI _ _ (fun r M2 k2 => fin r M2 _ k2)⟩,
    fun _ => ⟨g 1 (by omega), g 2 (by omega), d_returned hI _ _ (fun r M2 k2 => fin r M2 _ k2)⟩,
    fun _ => ⟨g 1 (by omega), d_place hI _ (fun r M2 k2 => fin r M2 _ k2)⟩,
    fun _ => d_worst hI (fun r M2 k2 => fin r M2 _ k2),
    fun _ => ⟨g 1 (by omega), d_account hI _ (fun r M2 k2 => fin r M2 _ k2)⟩,
    fun _ => d_result hI (fun r M2 k2 => fin r M2 _ k2),
    fun _ => d_ratioBits hI (fun r M2 k2 => fin r M2 _ k2),
    fun _ => d_isBalanced hI (fun r M2 k2 => fin r M2 _ k2),
    fun _ => ⟨g 1 (by omega), g 2 (by omega), d_paidIf hI _ _ (fun r M2 k2 => fin r M2 _ k2)⟩,
    fun _ => ⟨g 1 (by omega), d_leastLimit hI _ (fun r M2 k2 => fin r M2 _ k2)⟩,
    fun _ => ⟨g 1 (by omega), g 2 (by omega), g 3 (by omega), g 4 (by omega), d_file hI _ _ _ _ (fun r M2 k2 => fin r M2 _ k2)⟩,
    fun _ => ⟨g 1 (by omega), g 2 (by omega), d_use hI _ _ (fun r M2 k2 => fin r M2 _ k2)⟩,
    fun _ => ⟨g 1 (by omega), g 2 (by omega), d_filed hI _ _ (fun r M2 k2 => fin r M2 _ k2)⟩,
    fun _ => d_save hI (fun r M2 k2 => fin r M2 _ k2),
    fun _ => d_restore hI (fun r M2 k2 => fin r M2 _ k2),
    fun _ _ _ _ _ _ _ _ _ _ _ _ _ _ _ _ _ _ _ _ _ _ _ _ _ _ _ _ _ _ _ _ _ _ _ _ _ _ _ => nx M' _ hI⟩
