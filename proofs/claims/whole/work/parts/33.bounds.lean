/-! BOUNDS -/
section BDS
variable {B : Bk}
theorem bd_nI {x : Int32} {b : Int} (h : bd x 0 b) : x = nI x.toNatClampNeg ∧ x.toNatClampNeg < 2 ^ 31 ∧ (x.toNatClampNeg : Int) ≤ b := by
  obtain ⟨h1, h2, h3⟩ := i32_nn h.1
  exact ⟨h1, h2, by rw [h3]; exact h.2⟩
theorem nI_bd {n : Nat} {b : Int} (h : (n : Int) ≤ b) (hb : b < 2 ^ 31) : bd (nI n) 0 b := by
  unfold bd
  rw [nI_toInt (by omega)]
  omega
theorem bd_wk {x : Int32} {a b a' b' : Int} (h : bd x a b) (h1 : a' ≤ a) (h2 : b ≤ b') : bd x a' b' := ⟨Int.le_trans h1 h.1, Int.le_trans h.2 h2⟩
theorem bd_0 {b : Int} (h : 0 ≤ b) : bd 0 0 b := ⟨Int.le_refl 0, h⟩
theorem bd_sum {f : Nat → Int32} {n : Nat} {b : Nat} (h : ∀ i, i < n → bd (f i) 0 b) (hb : b * n < 2 ^ 31) : sumI f n = nI (sumN (fun i => (f i).toNatClampNeg) n) ∧ sumN (fun i => (f i).toNatClampNeg) n ≤ b * n :=
  ⟨sumI_nn (fun i hi => (bd_nI (h i hi)).1), sumN_bd (fun i hi => by have := (bd_nI (h i hi)).2.2; omega)⟩
theorem bd_mn {x y : Int32} {a b : Int} (hx : bd x 0 a) (hy : bd y 0 b) : bd (mn x y) 0 a ∧ bd (mn x y) 0 b := by
  unfold bd at *
  rw [mn_toInt]
  split <;> omega
theorem loss_bd (hW : WF B) {k : Nat} (hk : k < nK B) : bd (lossF B k) 0 4194304 := by
  obtain ⟨⟨e, he, h16⟩, -, h18⟩ := hW.cl k hk
  have h8 := hW.e8
  have h := ((fp_a hW.rate (hW.ev e he).1).2.2 _ h18).2
  unfold lossF facF
  rw [h16, nI_clamp (by omega)]
  exact h
theorem lsAt_bd (hW : WF B) {e c k : Nat} (hk : k < nK B) : bd (lsAt B e c k) 0 4194304 := by
  unfold lsAt
  split
  · exact loss_bd hW hk
  · exact bd_0 (by decide)
theorem lsum_nn (hW : WF B) (e c : Nat) : lsum B e c = nI (sumN (fun k => (lsAt B e c k).toNatClampNeg) (nK B)) ∧ sumN (fun k => (lsAt B e c k).toNatClampNeg) (nK B) ≤ 100663296 := by
  have h24 := hW.k24
  have h := bd_sum (f := lsAt B e c) (n := nK B) (b := 4194304) (fun i hi => lsAt_bd hW hi) (by omega)
  exact ⟨h.1, by have := h.2; omega⟩
theorem lsum_bd (hW : WF B) (e c : Nat) : bd (lsum B e c) 0 100663296 := by
  rw [(lsum_nn hW e c).1]
  exact nI_bd (by have := (lsum_nn hW e c).2; omega) (by decide)
theorem gross_bd (hW : WF B) (e : Nat) {c : Nat} (hc : c < nC B) : bd (gross B e c) 0 99999 :=
  (bd_mn (bd_wk (hW.cov c hc).1 (by decide) (Int.le_refl _)) (lsum_bd hW e c)).1
theorem gAt_bd (hW : WF B) (e : Nat) (g : Int32) {c : Nat} (hc : c < nC B) : bd (gAt B e g c) 0 99999 := by
  unfold gAt
  split
  · exact gross_bd hW e hc
  · exact bd_0 (by decide)
theorem gsum_nn (hW : WF B) (e : Nat) (g : Int32) : gsum B e g = nI (sumN (fun k => (gAt B e g k).toNatClampNeg) (nC B)) ∧ sumN (fun k => (gAt B e g k).toNatClampNeg) (nC B) ≤ 599994 := by
  have h6 := hW.c6
  have h := bd_sum (f := gAt B e g) (n := nC B) (b := 99999) (fun i hi => gAt_bd hW e g hi) (by omega)
  exact ⟨h.1, by have := h.2; omega⟩
theorem gsum_bd (hW : WF B) (e : Nat) (g : Int32) : bd (gsum B e g) 0 599994 := by
  rw [(gsum_nn hW e g).1]
  exact nI_bd (by have := (gsum_nn hW e g).2; omega) (by decide)
theorem damt_bd (hW : WF B) (e : Nat) {g : Nat} (hg : g < 3) : bd (damt B e (nI g)) 0 99999 ∧ (damt B e (nI g)).toNatClampNeg ≤ sumN (fun k => (gAt B e (nI g) k).toNatClampNeg) (nC B) := by
  have h1 : bd (B 10 (nI g).toNatClampNeg) 0 99999 := by rw [nI_clamp (by omega)]; exact hW.ded g hg
  have h2 := gsum_bd hW e (nI g)
  refine ⟨(bd_mn h1 h2).1, ?_⟩
  obtain ⟨h3, h4⟩ := gsum_nn hW e (nI g)
  have h5 : (damt B e (nI g)).toInt ≤ (gsum B e (nI g)).toInt := by
    unfold damt
    rw [mn_toInt]
    split <;> omega
  have h6 := (i32_nn (bd_mn h1 h2).1.1).2.2
  rw [h3, nI_toInt (by omega)] at h5
  have h7 : ((damt B e (nI g)).toNatClampNeg : Int) = (damt B e (nI g)).toInt := h6
  omega
end BDS
