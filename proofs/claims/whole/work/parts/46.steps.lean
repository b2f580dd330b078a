/-! THE STEPS, pure -/
theorem setB_n {B : Bk} {f i f' i' : Nat} {v : Int32} (h : ¬ (f' = f ∧ i' = i)) : setB B f i v f' i' = B f' i' := if_neg h
theorem nI_m1 {n : Nat} (h : n < 2 ^ 30) : nI (n + 1) - (1 : Int32) = nI n := by rw [show (1 : Int32) = nI 1 from rfl, pk_sub (by omega)]; rfl
theorem rdk {M : Mm} {t k j t' k' i : Nat} {v x : Int32} (h : rd M t k j = x) (ht : t' ≠ t) : rd (wr M t' k' i v) t k j = x := by rw [rd_wr_n (by omega)]; exact h
theorem rdj {M : Mm} {t k j k' i : Nat} {v x : Int32} (h : rd M t k j = x) (ht : i ≠ j) : rd (wr M t k' i v) t k j = x := by rw [rd_wr_n (by omega)]; exact h
def putC (B : Bk) (n : Nat) (a b c d : Int32) : Bk := setB (setB (setB (setB (setB B 1 n a) 2 n b) 3 n c) 4 n d) 0 0 (nI (n + 1))
def putL (B : Bk) (n : Nat) (a b c d : Int32) : Bk := setB (setB (setB (setB (setB B 6 n a) 7 n b) 8 n c) 9 n d) 5 0 (nI (n + 1))
def putE (B : Bk) (n : Nat) (a : Int32) : Bk := setB (setB (setB B 13 n a) 14 n 0) 12 0 (nI (n + 1))
def putK (B : Bk) (n : Nat) (a b c : Int32) : Bk := setB (setB (setB (setB B 16 n a) 17 n b) 18 n c) 15 0 (nI (n + 1))
def dropK (B : Bk) (a : Nat) : Bk := fun f i => if f = 15 then nI (nK B - 1) else if (16 ≤ f ∧ f ≤ 18) ∧ a ≤ i then B f (i + 1) else B f i
section STP
variable {B : Bk} {n : Nat} {a b c d : Int32}
theorem putC_o {f i : Nat} (h : f ≠ 0) (h2 : ¬ ((1 ≤ f ∧ f ≤ 4) ∧ i = n)) : putC B n a b c d f i = B f i := by
  unfold putC
  rw [setB_n (by omega), setB_n (by omega), setB_n (by omega), setB_n (by omega), setB_n (by omega)]
theorem putL_o {f i : Nat} (h : f ≠ 5) (h2 : ¬ ((6 ≤ f ∧ f ≤ 9) ∧ i = n)) : putL B n a b c d f i = B f i := by
  unfold putL
  rw [setB_n (by omega), setB_n (by omega), setB_n (by omega), setB_n (by omega), setB_n (by omega)]
theorem putE_o {f i : Nat} (h : f ≠ 12) (h2 : ¬ ((f = 13 ∨ f = 14) ∧ i = n)) : putE B n a f i = B f i := by
  unfold putE
  rw [setB_n (by omega), setB_n (by omega), setB_n (by omega)]
theorem putK_o {f i : Nat} (h : f ≠ 15) (h2 : ¬ ((16 ≤ f ∧ f ≤ 18) ∧ i = n)) : putK B n a b c f i = B f i := by
  unfold putK
  rw [setB_n (by omega), setB_n (by omega), setB_n (by omega), setB_n (by omega)]
theorem putC_n : putC B n a b c d 0 0 = nI (n + 1) := by unfold putC; exact setB_s
theorem putL_n : putL B n a b c d 5 0 = nI (n + 1) := by unfold putL; exact setB_s
theorem putE_n : putE B n a 12 0 = nI (n + 1) := by unfold putE; exact setB_s
theorem putK_n : putK B n a b c 15 0 = nI (n + 1) := by unfold putK; exact setB_s
theorem putC_1 : putC B n a b c d 1 n = a ∧ putC B n a b c d 2 n = b ∧ putC B n a b c d 3 n = c ∧ putC B n a b c d 4 n = d := by
  unfold putC
  refine ⟨?_, ?_, ?_, ?_⟩
  · rw [setB_n (by omega), setB_n (by omega), setB_n (by omega), setB_n (by omega), setB_s]
  · rw [setB_n (by omega), setB_n (by omega), setB_n (by omega), setB_s]
  · rw [setB_n (by omega), setB_n (by omega), setB_s]
  · rw [setB_n (by omega), setB_s]
theorem putL_1 : putL B n a b c d 6 n = a ∧ putL B n a b c d 7 n = b ∧ putL B n a b c d 8 n = c ∧ putL B n a b c d 9 n = d := by
  unfold putL
  refine ⟨?_, ?_, ?_, ?_⟩
  · rw [setB_n (by omega), setB_n (by omega), setB_n (by omega), setB_n (by omega), setB_s]
  · rw [setB_n (by omega), setB_n (by omega), setB_n (by omega), setB_s]
  · rw [setB_n (by omega), setB_n (by omega), setB_s]
  · rw [setB_n (by omega), setB_s]
theorem putE_1 : putE B n a 13 n = a ∧ putE B n a 14 n = 0 := by
  unfold putE
  refine ⟨?_, ?_⟩
  · rw [setB_n (by omega), setB_n (by omega), setB_s]
  · rw [setB_n (by omega), setB_s]
theorem putK_1 : putK B n a b c 16 n = a ∧ putK B n a b c 17 n = b ∧ putK B n a b c 18 n = c := by
  unfold putK
  refine ⟨?_, ?_, ?_⟩
  · rw [setB_n (by omega), setB_n (by omega), setB_n (by omega), setB_s]
  · rw [setB_n (by omega), setB_n (by omega), setB_s]
  · rw [setB_n (by omega), setB_s]
theorem putC_N (hn : n < 2 ^ 30) : nC (putC B n a b c d) = n + 1 ∧ nL (putC B n a b c d) = nL B ∧ nE (putC B n a b c d) = nE B ∧ nK (putC B n a b c d) = nK B := by
  unfold nC nL nE nK
  rw [putC_n, putC_o (by omega) (by omega), putC_o (by omega) (by omega), putC_o (by omega) (by omega), nI_clamp (by omega)]
  exact ⟨rfl, rfl, rfl, rfl⟩
theorem putL_N (hn : n < 2 ^ 30) : nC (putL B n a b c d) = nC B ∧ nL (putL B n a b c d) = n + 1 ∧ nE (putL B n a b c d) = nE B ∧ nK (putL B n a b c d) = nK B := by
  unfold nC nL nE nK
  rw [putL_n, putL_o (by omega) (by omega), putL_o (by omega) (by omega), putL_o (by omega) (by omega), nI_clamp (by omega)]
  exact ⟨rfl, rfl, rfl, rfl⟩
theorem putE_N (hn : n < 2 ^ 30) : nC (putE B n a) = nC B ∧ nL (putE B n a) = nL B ∧ nE (putE B n a) = n + 1 ∧ nK (putE B n a) = nK B := by
  unfold nC nL nE nK
  rw [putE_n, putE_o (by omega) (by omega), putE_o (by omega) (by omega), putE_o (by omega) (by omega), nI_clamp (by omega)]
  exact ⟨rfl, rfl, rfl, rfl⟩
theorem putK_N (hn : n < 2 ^ 30) : nC (putK B n a b c) = nC B ∧ nL (putK B n a b c) = nL B ∧ nE (putK B n a b c) = nE B ∧ nK (putK B n a b c) = n + 1 := by
  unfold nC nL nE nK
  rw [putK_n, putK_o (by omega) (by omega), putK_o (by omega) (by omega), putK_o (by omega) (by omega), nI_clamp (by omega)]
  exact ⟨rfl, rfl, rfl, rfl⟩
theorem dropK_o {k f i : Nat} (h : f ≠ 15) (h2 : ¬ (16 ≤ f ∧ f ≤ 18)) : dropK B k f i = B f i := by
  unfold dropK
  rw [if_neg h, if_neg (by omega)]
theorem dropK_a {k f i : Nat} (h : 16 ≤ f ∧ f ≤ 18) (h2 : k ≤ i) : dropK B k f i = B f (i + 1) := by
  unfold dropK
  rw [if_neg (by omega), if_pos ⟨h, h2⟩]
theorem dropK_b {k f i : Nat} (h : f ≠ 15) (h2 : i < k) : dropK B k f i = B f i := by
  unfold dropK
  rw [if_neg h, if_neg (by omega)]
theorem dropK_N (hn : nK B ≤ 24) {k : Nat} : nC (dropK B k) = nC B ∧ nL (dropK B k) = nL B ∧ nE (dropK B k) = nE B ∧ nK (dropK B k) = nK B - 1 := by
  have e : dropK B k 15 0 = nI (nK B - 1) := if_pos rfl
  unfold nC nL nE
  rw [dropK_o (by omega) (by omega), dropK_o (by omega) (by omega), dropK_o (by omega) (by omega)]
  refine ⟨rfl, rfl, rfl, ?_⟩
  show (dropK B k 15 0).toNatClampNeg = _
  rw [e, nI_clamp (by omega)]
theorem WF.putC (h : WF B) (hn : n = nC B) (h6 : n < 6) (ha : bd a 1 99999) (hb : bd b 1 99999) (hc : bd c 0 99999) (hd : bd d 0 2) : WF (putC B n a b c d) := by
  obtain ⟨e0, e1, e2, e3⟩ := putC_N (B := B) (n := n) (a := a) (b := b) (c := c) (d := d) (by omega)
  unfold WF
  rw [e0, e1, e2, e3]
  refine ⟨⟨putC_n, by omega⟩, ⟨?_, h.l4⟩, ⟨?_, h.e8⟩, ⟨?_, h.k24⟩, ?_, fun i hi => ?_, fun l hl => ?_, fun g hg => ?_, fun e he => ?_, fun k hk => ?_⟩
  · rw [putC_o (by omega) (by omega)]; exact h.l
  · rw [putC_o (by omega) (by omega)]; exact h.e
  · rw [putC_o (by omega) (by omega)]; exact h.k
  · rw [putC_o (by omega) (by omega)]; exact h.rate
  · by_cases q : i = n
    · subst q
      obtain ⟨x1, x2, x3, x4⟩ := putC_1 (B := B) (n := i) (a := a) (b := b) (c := c) (d := d)
      rw [x1, x2, x3, x4]
      obtain ⟨y1, y2, y3⟩ := bd_nI hd
      exact ⟨ha, hb, hc, d.toNatClampNeg, by omega, y1⟩
    · rw [putC_o (by omega) (by omega), putC_o (by omega) (by omega), putC_o (by omega) (by omega), putC_o (by omega) (by omega)]
      exact h.cov i (by omega)
  · rw [putC_o (by omega) (by omega), putC_o (by omega) (by omega), putC_o (by omega) (by omega), putC_o (by omega) (by omega)]
    exact h.lay l hl
  · rw [putC_o (by omega) (by omega)]; exact h.ded g hg
  · rw [putC_o (by omega) (by omega), putC_o (by omega) (by omega)]; exact h.ev e he
  · rw [putC_o (by omega) (by omega), putC_o (by omega) (by omega), putC_o (by omega) (by omega)]
    obtain ⟨z1, ⟨z2, z3, z4⟩, z5⟩ := h.cl k hk
    exact ⟨z1, ⟨z2, by omega, z4⟩, z5⟩
theorem WF.putL (h : WF B) (hn : n = nL B) (h6 : n < 4) (ha : bd a 0 999999) (hb : bd b 1 99999) (hc : bd c 0 99999) (hd : bd d 0 3) : WF (putL B n a b c d) := by
  obtain ⟨e0, e1, e2, e3⟩ := putL_N (B := B) (n := n) (a := a) (b := b) (c := c) (d := d) (by omega)
  unfold WF
  rw [e0, e1, e2, e3]
  refine ⟨⟨?_, h.c6⟩, ⟨putL_n, by omega⟩, ⟨?_, h.e8⟩, ⟨?_, h.k24⟩, ?_, fun i hi => ?_, fun l hl => ?_, fun g hg => ?_, fun e he => ?_, fun k hk => ?_⟩
  · rw [putL_o (by omega) (by omega)]; exact h.c
  · rw [putL_o (by omega) (by omega)]; exact h.e
  · rw [putL_o (by omega) (by omega)]; exact h.k
  · rw [putL_o (by omega) (by omega)]; exact h.rate
  · rw [putL_o (by omega) (by omega), putL_o (by omega) (by omega), putL_o (by omega) (by omega), putL_o (by omega) (by omega)]
    exact h.cov i hi
  · by_cases q : l = n
    · subst q
      obtain ⟨x1, x2, x3, x4⟩ := putL_1 (B := B) (n := l) (a := a) (b := b) (c := c) (d := d)
      rw [x1, x2, x3, x4]
      exact ⟨ha, hb, hc, hd⟩
    · rw [putL_o (by omega) (by omega), putL_o (by omega) (by omega), putL_o (by omega) (by omega), putL_o (by omega) (by omega)]
      exact h.lay l (by omega)
  · rw [putL_o (by omega) (by omega)]; exact h.ded g hg
  · rw [putL_o (by omega) (by omega), putL_o (by omega) (by omega)]; exact h.ev e he
  · rw [putL_o (by omega) (by omega), putL_o (by omega) (by omega), putL_o (by omega) (by omega)]
    exact h.cl k hk
theorem WF.putE (h : WF B) (hn : n = nE B) (h6 : n < 8) (ha : bd a 0 364) : WF (putE B n a) := by
  obtain ⟨e0, e1, e2, e3⟩ := putE_N (B := B) (n := n) (a := a) (by omega)
  unfold WF
  rw [e0, e1, e2, e3]
  refine ⟨⟨?_, h.c6⟩, ⟨?_, h.l4⟩, ⟨putE_n, by omega⟩, ⟨?_, h.k24⟩, ?_, fun i hi => ?_, fun l hl => ?_, fun g hg => ?_, fun e he => ?_, fun k hk => ?_⟩
  · rw [putE_o (by omega) (by omega)]; exact h.c
  · rw [putE_o (by omega) (by omega)]; exact h.l
  · rw [putE_o (by omega) (by omega)]; exact h.k
  · rw [putE_o (by omega) (by omega)]; exact h.rate
  · rw [putE_o (by omega) (by omega), putE_o (by omega) (by omega), putE_o (by omega) (by omega), putE_o (by omega) (by omega)]
    exact h.cov i hi
  · rw [putE_o (by omega) (by omega), putE_o (by omega) (by omega), putE_o (by omega) (by omega), putE_o (by omega) (by omega)]
    exact h.lay l hl
  · rw [putE_o (by omega) (by omega)]; exact h.ded g hg
  · by_cases q : e = n
    · subst q
      obtain ⟨x1, x2⟩ := putE_1 (B := B) (n := e) (a := a)
      rw [x1, x2]
      exact ⟨ha, bd_0 (by decide)⟩
    · rw [putE_o (by omega) (by omega), putE_o (by omega) (by omega)]; exact h.ev e (by omega)
  · rw [putE_o (by omega) (by omega), putE_o (by omega) (by omega), putE_o (by omega) (by omega)]
    obtain ⟨⟨z2, z3, z4⟩, z1, z5⟩ := h.cl k hk
    exact ⟨⟨z2, by omega, z4⟩, z1, z5⟩
theorem WF.putK (h : WF B) (hn : n = nK B) (h6 : n < 24) (ha : ∃ e, e < nE B ∧ a = nI e) (hb : ∃ e, e < nC B ∧ b = nI e) (hc : bd c 1 99999) : WF (putK B n a b c) := by
  obtain ⟨e0, e1, e2, e3⟩ := putK_N (B := B) (n := n) (a := a) (b := b) (c := c) (by omega)
  unfold WF
  rw [e0, e1, e2, e3]
  refine ⟨⟨?_, h.c6⟩, ⟨?_, h.l4⟩, ⟨?_, h.e8⟩, ⟨putK_n, by omega⟩, ?_, fun i hi => ?_, fun l hl => ?_, fun g hg => ?_, fun e he => ?_, fun k hk => ?_⟩
  · rw [putK_o (by omega) (by omega)]; exact h.c
  · rw [putK_o (by omega) (by omega)]; exact h.l
  · rw [putK_o (by omega) (by omega)]; exact h.e
  · rw [putK_o (by omega) (by omega)]; exact h.rate
  · rw [putK_o (by omega) (by omega), putK_o (by omega) (by omega), putK_o (by omega) (by omega), putK_o (by omega) (by omega)]
    exact h.cov i hi
  · rw [putK_o (by omega) (by omega), putK_o (by omega) (by omega), putK_o (by omega) (by omega), putK_o (by omega) (by omega)]
    exact h.lay l hl
  · rw [putK_o (by omega) (by omega)]; exact h.ded g hg
  · rw [putK_o (by omega) (by omega), putK_o (by omega) (by omega)]; exact h.ev e he
  · by_cases q : k = n
    · subst q
      obtain ⟨x1, x2, x3⟩ := putK_1 (B := B) (n := k) (a := a) (b := b) (c := c)
      rw [x1, x2, x3]
      exact ⟨ha, hb, hc⟩
    · rw [putK_o (by omega) (by omega), putK_o (by omega) (by omega), putK_o (by omega) (by omega)]
      exact h.cl k (by omega)
theorem wf_dropK (h : WF B) {k : Nat} (hk : k < nK B) : WF (dropK B k) := by
  obtain ⟨e0, e1, e2, e3⟩ := dropK_N h.k24 (B := B) (k := k)
  unfold WF
  have h24 := h.k24
  rw [e0, e1, e2, e3]
  refine ⟨⟨?_, h.c6⟩, ⟨?_, h.l4⟩, ⟨?_, h.e8⟩, ⟨if_pos rfl, by omega⟩, ?_, fun i hi => ?_, fun l hl => ?_, fun g hg => ?_, fun e he => ?_, fun i hi => ?_⟩
  · rw [dropK_o (by omega) (by omega)]; exact h.c
  · rw [dropK_o (by omega) (by omega)]; exact h.l
  · rw [dropK_o (by omega) (by omega)]; exact h.e
  · rw [dropK_o (by omega) (by omega)]; exact h.rate
  · rw [dropK_o (by omega) (by omega), dropK_o (by omega) (by omega), dropK_o (by omega) (by omega), dropK_o (by omega) (by omega)]
    exact h.cov i hi
  · rw [dropK_o (by omega) (by omega), dropK_o (by omega) (by omega), dropK_o (by omega) (by omega), dropK_o (by omega) (by omega)]
    exact h.lay l hl
  · rw [dropK_o (by omega) (by omega)]; exact h.ded g hg
  · rw [dropK_o (by omega) (by omega), dropK_o (by omega) (by omega)]; exact h.ev e he
  · by_cases q : k ≤ i
    · rw [dropK_a (by omega) q, dropK_a (by omega) q, dropK_a (by omega) q]
      exact h.cl (i + 1) (by omega)
    · rw [dropK_b (by omega) (by omega), dropK_b (by omega) (by omega), dropK_b (by omega) (by omega)]
      exact h.cl i (by omega)
end STP
