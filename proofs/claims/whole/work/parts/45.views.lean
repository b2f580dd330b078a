/-! ONE SIGHT OF A BOOK FOR BOTH SIDES -/
def lg (f i : Nat) : Prop := ((f = 0 ∨ f = 5 ∨ f = 11 ∨ f = 12 ∨ f = 15) ∧ i = 0) ∨ (f = 10 ∧ i < 3) ∨ ((1 ≤ f ∧ f ≤ 4) ∧ i < 6) ∨ ((6 ≤ f ∧ f ≤ 9) ∧ i < 4) ∨ ((f = 13 ∨ f = 14) ∧ i < 8) ∨ ((16 ≤ f ∧ f ≤ 18) ∧ i < 24)
def usN (a b c d : Nat) (f i : Nat) : Prop := ((f = 0 ∨ f = 5 ∨ f = 11 ∨ f = 12 ∨ f = 15) ∧ i = 0) ∨ (f = 10 ∧ i < 3) ∨ ((1 ≤ f ∧ f ≤ 4) ∧ i < a) ∨ ((6 ≤ f ∧ f ≤ 9) ∧ i < b) ∨ ((f = 13 ∨ f = 14) ∧ i < c) ∨ ((16 ≤ f ∧ f ≤ 18) ∧ i < d)
def us (B : Bk) (f i : Nat) : Prop := usN (nC B) (nL B) (nE B) (nK B) f i
def pl (f i : Nat) : Nat := if f = 0 then 0 else if f = 5 then 1 else if f = 12 then 2 else if f = 15 then 3 else if f = 11 then 4 else if f = 10 then 5 + i else if f ≤ 4 then 8 + 4 * i + (f - 1) else if f ≤ 9 then 32 + 4 * i + (f - 6) else if f = 13 then 48 + i else if f = 14 then 56 + i else 64 + 3 * i + (f - 16)
theorem pl_c {f i : Nat} (h : lg f i) : (f = 0 ∧ i = 0 ∧ pl f i = 0) ∨ (f = 5 ∧ i = 0 ∧ pl f i = 1) ∨ (f = 12 ∧ i = 0 ∧ pl f i = 2) ∨ (f = 15 ∧ i = 0 ∧ pl f i = 3) ∨ (f = 11 ∧ i = 0 ∧ pl f i = 4) ∨ (f = 10 ∧ i < 3 ∧ pl f i = 5 + i) ∨ (1 ≤ f ∧ f ≤ 4 ∧ i < 6 ∧ pl f i = 8 + 4 * i + (f - 1)) ∨ (6 ≤ f ∧ f ≤ 9 ∧ i < 4 ∧ pl f i = 32 + 4 * i + (f - 6)) ∨ (f = 13 ∧ i < 8 ∧ pl f i = 48 + i) ∨ (f = 14 ∧ i < 8 ∧ pl f i = 56 + i) ∨ (16 ≤ f ∧ f ≤ 18 ∧ i < 24 ∧ pl f i = 64 + 3 * i + (f - 16)) := by
  unfold lg at h
  rcases h with ⟨rfl | rfl | rfl | rfl | rfl, rfl⟩ | ⟨rfl, q⟩ | ⟨q, qi⟩ | ⟨q, qi⟩ | ⟨rfl | rfl, q⟩ | ⟨q, qi⟩
  · exact Or.inl ⟨rfl, rfl, rfl⟩
  · exact Or.inr (Or.inl ⟨rfl, rfl, rfl⟩)
  · exact Or.inr (Or.inr (Or.inr (Or.inr (Or.inl ⟨rfl, rfl, rfl⟩))))
  · exact Or.inr (Or.inr (Or.inl ⟨rfl, rfl, rfl⟩))
  · exact Or.inr (Or.inr (Or.inr (Or.inl ⟨rfl, rfl, rfl⟩)))
  · exact Or.inr (Or.inr (Or.inr (Or.inr (Or.inr (Or.inl ⟨rfl, q, rfl⟩)))))
  · have e : pl f i = 8 + 4 * i + (f - 1) := by
      unfold pl
      rw [if_neg (by omega), if_neg (by omega), if_neg (by omega), if_neg (by omega), if_neg (by omega), if_neg (by omega), if_pos (by omega)]
    omega
  · have e : pl f i = 32 + 4 * i + (f - 6) := by
      unfold pl
      rw [if_neg (by omega), if_neg (by omega), if_neg (by omega), if_neg (by omega), if_neg (by omega), if_neg (by omega), if_neg (by omega), if_pos (by omega)]
    omega
  · have e : pl 13 i = 48 + i := rfl
    omega
  · have e : pl 14 i = 56 + i := rfl
    omega
  · have e : pl f i = 64 + 3 * i + (f - 16) := by
      unfold pl
      rw [if_neg (by omega), if_neg (by omega), if_neg (by omega), if_neg (by omega), if_neg (by omega), if_neg (by omega), if_neg (by omega), if_neg (by omega), if_neg (by omega), if_neg (by omega)]
    omega
theorem pl_inj {f i f' i' : Nat} (h : lg f i) (h' : lg f' i') (e : pl f i = pl f' i') : f = f' ∧ i = i' := by
  have h1 := pl_c h
  have h2 := pl_c h'
  rw [e] at h1
  generalize pl f' i' = x at *
  clear h h' e
  rcases h1 with h1 | h1 | h1 | h1 | h1 | h1 | h1 | h1 | h1 | h1 | h1 <;> omega
theorem pl_lt {f i : Nat} (h : lg f i) : pl f i < 136 := by
  have h1 := pl_c h
  omega
def vM (r : Nat → Int32) : Bk := fun f i => r (pl f i)
def vC (k : Nat) (M : Mm) : Bk := fun f i => if f = 0 ∨ f = 5 ∨ f = 11 ∨ f = 12 ∨ f = 15 then rd M 0 k f else rd M (20 + f) k i
def Agr (U : Nat → Nat → Prop) (B V : Bk) : Prop := ∀ f i, lg f i → U f i → V f i = B f i
theorem Agr.mo {U W : Nat → Nat → Prop} {B V : Bk} (h : Agr U B V) (hw : ∀ f i, lg f i → W f i → U f i) : Agr W B V := fun f i a b => h f i a (hw f i a b)
theorem Agr.w {U : Nat → Nat → Prop} {B V V' : Bk} {f i : Nat} {v : Int32} (h : Agr U B V) (hv : ∀ f' i', lg f' i' → V' f' i' = setB V f i v f' i') : Agr (fun f' i' => U f' i' ∨ (f' = f ∧ i' = i)) (setB B f i v) V' := fun f' i' a b => by
  rw [hv f' i' a]
  unfold setB
  by_cases q : f' = f ∧ i' = i
  · rw [if_pos q, if_pos q]
  · rw [if_neg q, if_neg q]
    rcases b with b | b
    · exact h f' i' a b
    · exact absurd b q
theorem vC_a {k f i t : Nat} {v : Int32} {M : Mm} (ht : t = 20 + f) (hf : ¬ (f = 0 ∨ f = 5 ∨ f = 11 ∨ f = 12 ∨ f = 15)) : ∀ f' i', lg f' i' → vC k (wr M t k i v) f' i' = setB (vC k M) f i v f' i' := fun f' i' _ => by
  subst ht
  unfold vC setB
  dsimp only
  by_cases q : f' = 0 ∨ f' = 5 ∨ f' = 11 ∨ f' = 12 ∨ f' = 15
  · rw [if_pos q, if_pos q, rd_wr_n (by omega), if_neg (by rintro ⟨rfl, -⟩; exact hf q)]
  · rw [if_neg q, if_neg q, rd_wr]
    by_cases q2 : f' = f ∧ i' = i
    · rw [if_pos (by omega), if_pos q2]
    · rw [if_neg (by omega), if_neg q2]
theorem vC_s {k f : Nat} {v : Int32} {M : Mm} (hf : f = 0 ∨ f = 5 ∨ f = 11 ∨ f = 12 ∨ f = 15) : ∀ f' i', lg f' i' → vC k (wr M 0 k f v) f' i' = setB (vC k M) f 0 v f' i' := fun f' i' hl => by
  unfold lg at hl
  unfold vC setB
  dsimp only
  by_cases q : f' = 0 ∨ f' = 5 ∨ f' = 11 ∨ f' = 12 ∨ f' = 15
  · rw [if_pos q, if_pos q, rd_wr]
    by_cases q2 : f' = f ∧ i' = 0
    · rw [if_pos ⟨rfl, rfl, q2.1⟩, if_pos q2]
    · rw [if_neg (by omega), if_neg q2]
  · rw [if_neg q, if_neg q, rd_wr_n (by omega), if_neg (by omega)]
theorem vM_w {r : Nat → Int32} {f i j : Nat} {v : Int32} (hj : j = pl f i) (hl : lg f i) : ∀ f' i', lg f' i' → vM (ups r j v) f' i' = setB (vM r) f i v f' i' := fun f' i' hl' => by
  subst hj
  unfold vM setB ups
  by_cases q : f' = f ∧ i' = i
  · rw [if_pos q, if_pos (by rw [q.1, q.2])]
  · rw [if_neg q, if_neg (fun e => q (pl_inj hl' hl e))]
theorem bookR_iff {B : Bk} {k : Nat} {M : Mm} : BookR B k M ↔ ∀ f i, us B f i → vC k M f i = B f i := by
  unfold us usN vC
  constructor
  · rintro ⟨⟨h0, h5, h12, h15, h11⟩, hg, hc, hl, he, hi⟩ f i hu
    rcases hu with ⟨q, rfl⟩ | ⟨rfl, q⟩ | ⟨q, qi⟩ | ⟨q, qi⟩ | ⟨q, qi⟩ | ⟨q, qi⟩
    · rw [if_pos q]; rcases q with rfl | rfl | rfl | rfl | rfl <;> assumption
    · exact hg i q
    · have : f = 1 ∨ f = 2 ∨ f = 3 ∨ f = 4 := by omega
      rcases this with rfl | rfl | rfl | rfl
      · exact (hc i qi).1
      · exact (hc i qi).2.1
      · exact (hc i qi).2.2.1
      · exact (hc i qi).2.2.2
    · have : f = 6 ∨ f = 7 ∨ f = 8 ∨ f = 9 := by omega
      rcases this with rfl | rfl | rfl | rfl
      · exact (hl i qi).1
      · exact (hl i qi).2.1
      · exact (hl i qi).2.2.1
      · exact (hl i qi).2.2.2
    · rcases q with rfl | rfl
      · exact (he i qi).1
      · exact (he i qi).2
    · have : f = 16 ∨ f = 17 ∨ f = 18 := by omega
      rcases this with rfl | rfl | rfl
      · exact (hi i qi).1
      · exact (hi i qi).2.1
      · exact (hi i qi).2.2
  · intro h
    exact ⟨⟨h 0 0 (by omega), h 5 0 (by omega), h 12 0 (by omega), h 15 0 (by omega), h 11 0 (by omega)⟩, fun g q => h 10 g (by omega), fun c q => ⟨h 1 c (by omega), h 2 c (by omega), h 3 c (by omega), h 4 c (by omega)⟩, fun l q => ⟨h 6 l (by omega), h 7 l (by omega), h 8 l (by omega), h 9 l (by omega)⟩, fun e q => ⟨h 13 e (by omega), h 14 e (by omega)⟩, fun i q => ⟨h 16 i (by omega), h 17 i (by omega), h 18 i (by omega)⟩⟩
theorem rowR_iff {B : Bk} {r : Nat → Int32} : RowR B r ↔ ∀ f i, us B f i → vM r f i = B f i := by
  unfold us usN vM
  constructor
  · rintro ⟨⟨h0, h5, h12, h15, h11⟩, hg, hc, hl, he, hi⟩ f i hu
    rcases hu with ⟨q, rfl⟩ | ⟨rfl, q⟩ | ⟨q, qi⟩ | ⟨q, qi⟩ | ⟨q, qi⟩ | ⟨q, qi⟩
    · rcases q with rfl | rfl | rfl | rfl | rfl <;> assumption
    · exact hg i q
    · have : f = 1 ∨ f = 2 ∨ f = 3 ∨ f = 4 := by omega
      rcases this with rfl | rfl | rfl | rfl
      · exact (hc i qi).1
      · exact (hc i qi).2.1
      · exact (hc i qi).2.2.1
      · exact (hc i qi).2.2.2
    · have : f = 6 ∨ f = 7 ∨ f = 8 ∨ f = 9 := by omega
      rcases this with rfl | rfl | rfl | rfl
      · exact (hl i qi).1
      · exact (hl i qi).2.1
      · exact (hl i qi).2.2.1
      · exact (hl i qi).2.2.2
    · rcases q with rfl | rfl
      · exact (he i qi).1
      · exact (he i qi).2
    · have : f = 16 ∨ f = 17 ∨ f = 18 := by omega
      rcases this with rfl | rfl | rfl
      · exact (hi i qi).1
      · exact (hi i qi).2.1
      · exact (hi i qi).2.2
  · intro h
    exact ⟨⟨h 0 0 (by omega), h 5 0 (by omega), h 12 0 (by omega), h 15 0 (by omega), h 11 0 (by omega)⟩, fun g q => h 10 g (by omega), fun c q => ⟨h 1 c (by omega), h 2 c (by omega), h 3 c (by omega), h 4 c (by omega)⟩, fun l q => ⟨h 6 l (by omega), h 7 l (by omega), h 8 l (by omega), h 9 l (by omega)⟩, fun e q => ⟨h 13 e (by omega), h 14 e (by omega)⟩, fun i q => ⟨h 16 i (by omega), h 17 i (by omega), h 18 i (by omega)⟩⟩
theorem us_lg {B : Bk} (hW : WF B) {f i : Nat} (h : us B f i) : lg f i := by
  have h6 := hW.c6
  have h4 := hW.l4
  have h8 := hW.e8
  have h24 := hW.k24
  unfold us usN at h
  unfold lg
  omega
theorem BookR.ag {B : Bk} {k : Nat} {M : Mm} (h : BookR B k M) : Agr (us B) B (vC k M) := fun f i _ u => bookR_iff.mp h f i u
theorem Agr.bk {B : Bk} {k : Nat} {M : Mm} (hW : WF B) (h : Agr (us B) B (vC k M)) : BookR B k M := bookR_iff.mpr (fun f i u => h f i (us_lg hW u) u)
theorem RowR.ag {B : Bk} {r : Nat → Int32} (h : RowR B r) : Agr (us B) B (vM r) := fun f i _ u => rowR_iff.mp h f i u
theorem Agr.rw {B : Bk} {r : Nat → Int32} (hW : WF B) (h : Agr (us B) B (vM r)) : RowR B r := rowR_iff.mpr (fun f i u => h f i (us_lg hW u) u)
