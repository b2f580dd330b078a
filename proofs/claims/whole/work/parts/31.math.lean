/-! WHAT THE DATA OF A DESK COME TO: pure numbers. B f i: field f of a book (the number of its slot) at place i -/
abbrev Bk : Type := Nat → Nat → Int32
def nC (B : Bk) : Nat := (B 0 0).toNatClampNeg
def nL (B : Bk) : Nat := (B 5 0).toNatClampNeg
def nE (B : Bk) : Nat := (B 12 0).toNatClampNeg
def nK (B : Bk) : Nat := (B 15 0).toNatClampNeg
def bd (x : Int32) (a b : Int) : Prop := a ≤ x.toInt ∧ x.toInt ≤ b
/-- the data are in range -/
def WF (B : Bk) : Prop :=
  (B 0 0 = nI (nC B) ∧ nC B ≤ 6) ∧ (B 5 0 = nI (nL B) ∧ nL B ≤ 4) ∧ (B 12 0 = nI (nE B) ∧ nE B ≤ 8) ∧ (B 15 0 = nI (nK B) ∧ nK B ≤ 24) ∧ bd (B 11 0) 0 100 ∧
  (∀ c, c < nC B → bd (B 1 c) 1 99999 ∧ bd (B 2 c) 1 99999 ∧ bd (B 3 c) 0 99999 ∧ ∃ g, g < 3 ∧ B 4 c = nI g) ∧
  (∀ l, l < nL B → bd (B 6 l) 0 999999 ∧ bd (B 7 l) 1 99999 ∧ bd (B 8 l) 0 99999 ∧ bd (B 9 l) 0 3) ∧
  (∀ g, g < 3 → bd (B 10 g) 0 99999) ∧
  (∀ e, e < nE B → bd (B 13 e) 0 364 ∧ bd (B 14 e) 0 999999) ∧
  (∀ k, k < nK B → (∃ e, e < nE B ∧ B 16 k = nI e) ∧ (∃ c, c < nC B ∧ B 17 k = nI c) ∧ bd (B 18 k) 1 99999)
section MTH
variable {B : Bk}
theorem WF.c (h : WF B) : B 0 0 = nI (nC B) := h.1.1
theorem WF.c6 (h : WF B) : nC B ≤ 6 := h.1.2
theorem WF.l (h : WF B) : B 5 0 = nI (nL B) := h.2.1.1
theorem WF.l4 (h : WF B) : nL B ≤ 4 := h.2.1.2
theorem WF.e (h : WF B) : B 12 0 = nI (nE B) := h.2.2.1.1
theorem WF.e8 (h : WF B) : nE B ≤ 8 := h.2.2.1.2
theorem WF.k (h : WF B) : B 15 0 = nI (nK B) := h.2.2.2.1.1
theorem WF.k24 (h : WF B) : nK B ≤ 24 := h.2.2.2.1.2
theorem WF.rate (h : WF B) : bd (B 11 0) 0 100 := h.2.2.2.2.1
theorem WF.cov (h : WF B) : ∀ c, c < nC B → bd (B 1 c) 1 99999 ∧ bd (B 2 c) 1 99999 ∧ bd (B 3 c) 0 99999 ∧ ∃ g, g < 3 ∧ B 4 c = nI g := h.2.2.2.2.2.1
theorem WF.lay (h : WF B) : ∀ l, l < nL B → bd (B 6 l) 0 999999 ∧ bd (B 7 l) 1 99999 ∧ bd (B 8 l) 0 99999 ∧ bd (B 9 l) 0 3 := h.2.2.2.2.2.2.1
theorem WF.ded (h : WF B) : ∀ g, g < 3 → bd (B 10 g) 0 99999 := h.2.2.2.2.2.2.2.1
theorem WF.ev (h : WF B) : ∀ e, e < nE B → bd (B 13 e) 0 364 ∧ bd (B 14 e) 0 999999 := h.2.2.2.2.2.2.2.2.1
theorem WF.cl (h : WF B) : ∀ k, k < nK B → (∃ e, e < nE B ∧ B 16 k = nI e) ∧ (∃ c, c < nC B ∧ B 17 k = nI c) ∧ bd (B 18 k) 1 99999 := h.2.2.2.2.2.2.2.2.2
end MTH
def facF (B : Bk) (e : Nat) : UInt32 := FP.fadd FP.fconst1 (FP.fdiv (FP.i2f ((B 11 0 * B 13 e) / (30 : Int32))) (1148846080 : UInt32))
def lossF (B : Bk) (k : Nat) : Int32 := FP.f2i (FP.fmul (FP.i2f (B 18 k)) (facF B (B 16 k).toNatClampNeg))
/-- a claim's loss, if it is of this event and cover -/
def lsAt (B : Bk) (e c k : Nat) : Int32 := if B 16 k = nI e ∧ B 17 k = nI c then lossF B k else 0
def lsum (B : Bk) (e c : Nat) : Int32 := sumI (lsAt B e c) (nK B)
def gross (B : Bk) (e c : Nat) : Int32 := mn (B 1 c) (lsum B e c)
def gAt (B : Bk) (e : Nat) (g : Int32) (j : Nat) : Int32 := if B 4 j = g then gross B e j else 0
def gsum (B : Bk) (e : Nat) (g : Int32) : Int32 := sumI (gAt B e g) (nC B)
def damt (B : Bk) (e : Nat) (g : Int32) : Int32 := mn (B 10 g.toNatClampNeg) (gsum B e g)
/-- those ahead of i in the sharing out of a by w, sum s -/
def ahead (a : Nat) (w : Nat → Nat) (s i k : Nat) : Bool := decide (a * w i % s < a * w k % s ∨ (a * w k % s = a * w i % s ∧ k < i))
def shareN (a : Nat) (w : Nat → Nat) (n i : Nat) : Nat :=
  if sumN w n = 0 then 0 else a * w i / sumN w n + (if cnt (ahead a w (sumN w n) i) n < a - sumN (fun k => a * w k / sumN w n) n then 1 else 0)
def share (a : Int32) (w : Nat → Int32) (n i : Nat) : Int32 := nI (shareN a.toNatClampNeg (fun k => (w k).toNatClampNeg) n i)
def ded (B : Bk) (e c : Nat) : Int32 := share (damt B e (B 4 c)) (gAt B e (B 4 c)) (nC B) c
def net (B : Bk) (e c : Nat) : Int32 := gross B e c - ded B e c
def bef (B : Bk) (j e : Nat) : Bool := decide (B 13 j < B 13 e ∨ (B 13 j = B 13 e ∧ j < e))
def pos (B : Bk) (e : Nat) : Nat := cnt (fun j => bef B j e) (nE B)
def ordE (B : Bk) (p : Nat) : Nat := sumN (fun e => if pos B e = p then e else 0) (nE B)
def left (B : Bk) (c : Nat) : Nat → Int32
  | 0 => B 2 c
  | p + 1 => left B c p - mn (left B c p) (net B (ordE B p) c)
def paid (B : Bk) (e c : Nat) : Int32 := mn (net B e c) (left B c (pos B e))
def pall (B : Bk) (e : Nat) : Int32 := sumI (paid B e) (nC B)
def burd (B : Bk) (e : Nat) : Int32 := mx 0 (pall B e - B 14 e)
def want (B : Bk) (e l : Nat) : Int32 := mn (B 7 l) (mx 0 (burd B e - B 6 l))
def cap (B : Bk) (l : Nat) : Int32 := B 7 l * (B 9 l + 1)
def capl (B : Bk) (l : Nat) : Nat → Int32
  | 0 => cap B l
  | p + 1 => capl B l p - mn (capl B l p) (want B (ordE B p) l)
def borne (B : Bk) (e l : Nat) : Int32 := mn (want B e l) (capl B l (pos B e))
def retn (B : Bk) (e : Nat) : Int32 := burd B e - sumI (borne B e) (nL B)
/-- what is paid for a claim -/
def cpay (B : Bk) (k : Nat) : Int32 := share (paid B (B 16 k).toNatClampNeg (B 17 k).toNatClampNeg) (lsAt B (B 16 k).toNatClampNeg (B 17 k).toNatClampNeg) (nK B) k
/-! the order of events -/
theorem bef_irr (B : Bk) (e : Nat) : bef B e e = false := by
  unfold bef
  simp only [decide_eq_false_iff_not]
  rintro (h | ⟨-, h⟩)
  · have := i32_lt.mp h; omega
  · omega
theorem bef_tr {B : Bk} {i j k : Nat} (h1 : bef B i j = true) (h2 : bef B j k = true) : bef B i k = true := by
  unfold bef at *
  simp only [decide_eq_true_eq, i32_lt, i32_eq] at *
  omega
theorem bef_tot {B : Bk} {i j : Nat} (h : i ≠ j) : bef B i j = true ∨ bef B j i = true := by
  unfold bef
  simp only [decide_eq_true_eq, i32_lt, i32_eq]
  omega
theorem pos_lt {B : Bk} {e : Nat} (he : e < nE B) : pos B e < nE B := cnt_lt he (bef_irr B e)
theorem pos_mono {B : Bk} {i j : Nat} (hi : i < nE B) (h : bef B i j = true) : pos B i < pos B j :=
  cnt_smono (fun k _ hk => bef_tr hk h) hi (bef_irr B i) h
theorem pos_inj {B : Bk} {i j : Nat} (hi : i < nE B) (hj : j < nE B) (h : pos B i = pos B j) : i = j := by
  rcases Nat.decEq i j with q | q
  · rcases bef_tot (B := B) q with b | b
    · have := pos_mono hi b; omega
    · have := pos_mono hj b; omega
  · exact q
theorem inj_onto : ∀ (n : Nat) (f : Nat → Nat), (∀ i, i < n → f i < n) → (∀ i j, i < n → j < n → f i = f j → i = j) → ∀ p, p < n → ∃ i, i < n ∧ f i = p := by
  intro n
  induction n with
  | zero => intro f _ _ p hp; omega
  | succ n ih =>
    intro f hr hi p hp
    have key := ih (fun i => if f i = n then f n else f i) ?_ ?_
    · by_cases e : p = f n
      · exact ⟨n, by omega, e.symm⟩
      · by_cases e2 : p = n
        · have hm : f n < n := by
            have := hr n (by omega)
            omega
          obtain ⟨i, hin, hf⟩ := key (f n) hm
          by_cases e3 : f i = n
          · exact ⟨i, by omega, by omega⟩
          · rw [if_neg e3] at hf
            have := hi i n (by omega) (by omega) hf
            omega
        · obtain ⟨i, hin, hf⟩ := key p (by omega)
          by_cases e3 : f i = n
          · rw [if_pos e3] at hf; omega
          · rw [if_neg e3] at hf
            exact ⟨i, by omega, hf⟩
    · intro i hin
      show (if f i = n then f n else f i) < n
      have h1 := hr i (by omega)
      have h2 := hr n (by omega)
      split
      · rename_i e
        have : f n ≠ n := fun q => by
          have := hi i n (by omega) (by omega) (e.trans q.symm)
          omega
        omega
      · omega
    · intro i j hin hjn h
      have h : (if f i = n then f n else f i) = (if f j = n then f n else f j) := h
      split at h <;> split at h
      · rename_i a b; exact hi i j (by omega) (by omega) (a.trans b.symm)
      · have := hi n j (by omega) (by omega) h; omega
      · have := hi i n (by omega) (by omega) h; omega
      · exact hi i j (by omega) (by omega) h
theorem pos_onto {B : Bk} {p : Nat} (hp : p < nE B) : ∃ e, e < nE B ∧ pos B e = p := inj_onto (nE B) (pos B) (fun _ h => pos_lt h) (fun _ _ h1 h2 h => pos_inj h1 h2 h) p hp
theorem sumN_0 {n : Nat} : sumN (fun _ => 0) n = 0 := by rw [sumN_const]; omega
theorem sumN_one {f : Nat → Nat} {n k : Nat} (hk : k < n) (h : ∀ i, i < n → i ≠ k → f i = 0) : sumN f n = f k := by
  induction n with
  | zero => omega
  | succ n ih =>
    show sumN f n + f n = f k
    by_cases e : k = n
    · subst e
      rw [sumN_congr (g := fun _ => 0) (fun i hi => h i (by omega) (by omega)), sumN_0]; omega
    · rw [ih (by omega) (fun i hi he => h i (by omega) he), h n (by omega) (fun q => e q.symm)]; rfl
theorem ordE_pos {B : Bk} {e : Nat} (he : e < nE B) : ordE B (pos B e) = e := by
  have h := sumN_one (f := fun i => if pos B i = pos B e then i else 0) he (fun i hi hne => if_neg (fun q => hne (pos_inj hi he q)))
  show sumN (fun i => if pos B i = pos B e then i else 0) (nE B) = e
  rw [h]
  simp
theorem ordE_lt {B : Bk} {p : Nat} (hp : p < nE B) : ordE B p < nE B ∧ pos B (ordE B p) = p := by
  obtain ⟨e, he, rfl⟩ := pos_onto hp
  rw [ordE_pos he]
  exact ⟨he, rfl⟩
/-- a sum over events is a sum over positions -/
theorem sum_ord (f : Nat → Int32) (B : Bk) : sumI f (nE B) = sumI (fun p => f (ordE B p)) (nE B) := by
  have h1 : ∀ e, e < nE B → f e = sumI (fun p => if p = pos B e then f e else 0) (nE B) := fun e he => by
    rw [sumI_one (k := pos B e) (pos_lt he) (fun i _ hne => if_neg hne)]
    simp
  rw [sumI_congr h1, sumI_swap]
  refine sumI_congr (fun p hp => ?_)
  obtain ⟨ho, hp2⟩ := ordE_lt hp
  rw [sumI_one (k := ordE B p) ho (fun i hi hne => if_neg (fun q => hne (by rw [q, ordE_pos hi])))]
  rw [if_pos hp2.symm]
/-! the model's row of data -/
def RowR (B : Bk) (r : Nat → Int32) : Prop :=
  (r 0 = B 0 0 ∧ r 1 = B 5 0 ∧ r 2 = B 12 0 ∧ r 3 = B 15 0 ∧ r 4 = B 11 0) ∧ (∀ g, g < 3 → r (5 + g) = B 10 g) ∧
  (∀ c, c < nC B → r (8 + 4 * c) = B 1 c ∧ r (8 + 4 * c + 1) = B 2 c ∧ r (8 + 4 * c + 2) = B 3 c ∧ r (8 + 4 * c + 3) = B 4 c) ∧
  (∀ l, l < nL B → r (32 + 4 * l) = B 6 l ∧ r (32 + 4 * l + 1) = B 7 l ∧ r (32 + 4 * l + 2) = B 8 l ∧ r (32 + 4 * l + 3) = B 9 l) ∧
  (∀ e, e < nE B → r (48 + e) = B 13 e ∧ r (56 + e) = B 14 e) ∧
  (∀ k, k < nK B → r (64 + 3 * k) = B 16 k ∧ r (64 + 3 * k + 1) = B 17 k ∧ r (64 + 3 * k + 2) = B 18 k)
def RM (B : Bk) (M : Mm) : Prop := WF B ∧ RowR B (rd M 160 0)
/-- only cells of these kinds may differ -/
def Fr (T : List Nat) (M M2 : Mm) : Prop := ∀ t k j, t ∉ T → rd M2 t k j = rd M t k j
theorem Fr.rf {T : List Nat} {M : Mm} : Fr T M M := fun _ _ _ _ => rfl
theorem Fr.tr {T : List Nat} {M M1 M2 : Mm} (h1 : Fr T M M1) (h2 : Fr T M1 M2) : Fr T M M2 := fun t k j ht => (h2 t k j ht).trans (h1 t k j ht)
theorem Fr.wr {T : List Nat} {M : Mm} {t k j : Nat} {v : Int32} (ht : t ∈ T) : Fr T M (wr M t k j v) := fun t' k' j' ht' => by
  show (if t' = t ∧ k' = k ∧ j' = j then v else M.1 t' k' j') = M.1 t' k' j'
  rw [if_neg]
  rintro ⟨rfl, -, -⟩
  exact ht' ht
theorem rd_wr {M : Mm} {t k j t' k' j' : Nat} {v : Int32} : rd (wr M t k j v) t' k' j' = if t' = t ∧ k' = k ∧ j' = j then v else rd M t' k' j' := rfl
theorem rd_wr_s {M : Mm} {t k j : Nat} {v : Int32} : rd (wr M t k j v) t k j = v := by rw [rd_wr, if_pos ⟨rfl, rfl, rfl⟩]
theorem rd_wr_n {M : Mm} {t k j t' k' j' : Nat} {v : Int32} (h : ¬ (t' = t ∧ k' = k ∧ j' = j)) : rd (wr M t k j v) t' k' j' = rd M t' k' j' := by rw [rd_wr, if_neg h]
def Fm (M M2 : Mm) : Prop := Fr [172] M M2
theorem RM.kept {B : Bk} {M M2 : Mm} (h : RM B M) (hf : Fm M M2) : RM B M2 := by
  have e : rd M2 160 0 = rd M 160 0 := funext fun j => hf 160 0 j (by decide)
  exact ⟨h.1, by rw [e]; exact h.2⟩
section MRD
variable {B : Bk} {M : Mm}
theorem RM.n0 (h : RM B M) : rd M 160 0 0 = nI (nC B) := h.2.1.1.trans h.1.c
theorem RM.n1 (h : RM B M) : rd M 160 0 1 = nI (nL B) := h.2.1.2.1.trans h.1.l
theorem RM.n2 (h : RM B M) : rd M 160 0 2 = nI (nE B) := h.2.1.2.2.1.trans h.1.e
theorem RM.n3 (h : RM B M) : rd M 160 0 3 = nI (nK B) := h.2.1.2.2.2.1.trans h.1.k
theorem RM.n4 (h : RM B M) : rd M 160 0 4 = B 11 0 := h.2.1.2.2.2.2
theorem RM.g (h : RM B M) {g : Nat} (hg : g < 3) : rd M 160 0 (5 + g) = B 10 g := h.2.2.1 g hg
theorem RM.c1 (h : RM B M) {c : Nat} (hc : c < nC B) : rd M 160 0 (8 + 4 * c) = B 1 c := (h.2.2.2.1 c hc).1
theorem RM.c2 (h : RM B M) {c : Nat} (hc : c < nC B) : rd M 160 0 (8 + 4 * c + 1) = B 2 c := (h.2.2.2.1 c hc).2.1
theorem RM.c3 (h : RM B M) {c : Nat} (hc : c < nC B) : rd M 160 0 (8 + 4 * c + 2) = B 3 c := (h.2.2.2.1 c hc).2.2.1
theorem RM.c4 (h : RM B M) {c : Nat} (hc : c < nC B) : rd M 160 0 (8 + 4 * c + 3) = B 4 c := (h.2.2.2.1 c hc).2.2.2
theorem RM.l6 (h : RM B M) {l : Nat} (hl : l < nL B) : rd M 160 0 (32 + 4 * l) = B 6 l := (h.2.2.2.2.1 l hl).1
theorem RM.l7 (h : RM B M) {l : Nat} (hl : l < nL B) : rd M 160 0 (32 + 4 * l + 1) = B 7 l := (h.2.2.2.2.1 l hl).2.1
theorem RM.l8 (h : RM B M) {l : Nat} (hl : l < nL B) : rd M 160 0 (32 + 4 * l + 2) = B 8 l := (h.2.2.2.2.1 l hl).2.2.1
theorem RM.l9 (h : RM B M) {l : Nat} (hl : l < nL B) : rd M 160 0 (32 + 4 * l + 3) = B 9 l := (h.2.2.2.2.1 l hl).2.2.2
theorem RM.e13 (h : RM B M) {e : Nat} (he : e < nE B) : rd M 160 0 (48 + e) = B 13 e := (h.2.2.2.2.2.1 e he).1
theorem RM.e14 (h : RM B M) {e : Nat} (he : e < nE B) : rd M 160 0 (56 + e) = B 14 e := (h.2.2.2.2.2.1 e he).2
theorem RM.k16 (h : RM B M) {k : Nat} (hk : k < nK B) : rd M 160 0 (64 + 3 * k) = B 16 k := (h.2.2.2.2.2.2 k hk).1
theorem RM.k17 (h : RM B M) {k : Nat} (hk : k < nK B) : rd M 160 0 (64 + 3 * k + 1) = B 17 k := (h.2.2.2.2.2.2 k hk).2.1
theorem RM.k18 (h : RM B M) {k : Nat} (hk : k < nK B) : rd M 160 0 (64 + 3 * k + 2) = B 18 k := (h.2.2.2.2.2.2 k hk).2.2
end MRD
