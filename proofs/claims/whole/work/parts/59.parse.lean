/-! THE TEXT: what it spells -/
def dg (x : Tx) (q : Nat) : Bool := decide (q < x.1) && inb (x.2 q) 48 57
def rn (x : Tx) (p : Nat) : Nat → Nat
  | 0 => 0
  | k + 1 => if rn x p k = k ∧ dg x (p + k) = true then k + 1 else rn x p k
def vl (x : Tx) (p : Nat) : Nat → Int32
  | 0 => 0
  | n + 1 => vl x p n * 10 + x.2 (p + n) - 48
def nd (x : Tx) (p : Nat) : Nat := rn x p 6
def is (x : Tx) (q : Nat) (c : Int32) : Bool := decide (q < x.1) && decide (x.2 q = c)
def e0 (x : Tx) (p : Nat) : Nat := p + 1 + nd x (p + 1)
def e1 (x : Tx) (p : Nat) : Nat := e0 x p + 1 + nd x (e0 x p + 1)
def e2 (x : Tx) (p : Nat) : Nat := e1 x p + 1 + nd x (e1 x p + 1)
def v0 (x : Tx) (p : Nat) : Int32 := vl x (p + 1) (nd x (p + 1))
def v1 (x : Tx) (p : Nat) : Int32 := vl x (e0 x p + 1) (nd x (e0 x p + 1))
def v2 (x : Tx) (p : Nat) : Int32 := vl x (e1 x p + 1) (nd x (e1 x p + 1))
/-- an entry at p: whether it is one, and where it ends or fails -/
def ent (x : Tx) (p : Nat) : Bool × Nat :=
  if is x p 101 = true then (if nd x (p + 1) = 0 then (false, p + 1) else (true, e0 x p))
  else if is x p 99 = true then (if nd x (p + 1) = 0 then (false, p + 1) else if is x (e0 x p) 44 = true then (if nd x (e0 x p + 1) = 0 then (false, e0 x p + 1) else if is x (e1 x p) 44 = true then (if nd x (e1 x p + 1) = 0 then (false, e1 x p + 1) else (true, e2 x p)) else (false, e1 x p)) else (false, e0 x p))
  else if is x p 114 = true then (if nd x (p + 1) = 0 then (false, p + 1) else if is x (e0 x p) 61 = true then (if nd x (e0 x p + 1) = 0 then (false, e0 x p + 1) else (true, e1 x p)) else (false, e0 x p))
  else (false, p)
def scn (x : Tx) : Nat → Nat → Nat → (Bool × Nat) × Nat
  | 0, p, i => ((false, p), i)
  | f + 1, p, i => if (ent x p).1 = false then ((false, (ent x p).2), i) else if (ent x p).2 = x.1 then ((true, x.1), i + 1) else if is x (ent x p).2 59 = true then scn x f ((ent x p).2 + 1) (i + 1) else ((false, (ent x p).2), i)
def st (x : Tx) : Nat → Nat
  | 0 => 0
  | i + 1 => (ent x (st x i)).2 + 1
section PRS
variable {x : Tx}
theorem rn_le (p k : Nat) : rn x p k ≤ k := by
  induction k with
  | zero => exact Nat.le_refl _
  | succ k ih =>
    show (if rn x p k = k ∧ dg x (p + k) = true then k + 1 else rn x p k) ≤ k + 1
    split <;> omega
theorem rn_all {p n : Nat} (h : ∀ i, i < n → dg x (p + i) = true) : ∀ k, k ≤ n → rn x p k = k := by
  intro k
  induction k with
  | zero => intro _; rfl
  | succ k ih => intro hk; exact if_pos ⟨ih (by omega), h k (by omega)⟩
theorem rn_stop {p n : Nat} (h : ∀ i, i < n → dg x (p + i) = true) (hn : dg x (p + n) = false) : ∀ k, n ≤ k → rn x p k = n := by
  intro k
  induction k with
  | zero => intro hk; rw [show n = 0 by omega]; rfl
  | succ k ih =>
    intro hk
    by_cases q : n = k + 1
    · rw [q]; exact rn_all (n := n) h _ (by omega)
    · have e := ih (by omega)
      show (if rn x p k = k ∧ dg x (p + k) = true then k + 1 else rn x p k) = n
      rw [if_neg, e]
      rintro ⟨z1, z2⟩
      rw [show k = n by omega, hn] at z2
      exact absurd z2 (by decide)
theorem rn_dg {p : Nat} : ∀ k i, i < rn x p k → dg x (p + i) = true := by
  intro k
  induction k with
  | zero => intro i hi; exact absurd hi (Nat.not_lt_zero _)
  | succ k ih =>
    intro i hi
    have hi : i < (if rn x p k = k ∧ dg x (p + k) = true then k + 1 else rn x p k) := hi
    split at hi
    · rename_i q
      by_cases w : i = k
      · rw [w]; exact q.2
      · exact ih i (by omega)
    · exact ih i hi
theorem dg_lt {q : Nat} (h : dg x q = true) : q < x.1 ∧ inb (x.2 q) 48 57 = true := by
  unfold dg at h
  rw [Bool.and_eq_true] at h
  exact ⟨of_decide_eq_true h.1, h.2⟩
theorem is_t {q : Nat} {c : Int32} : is x q c = true ↔ q < x.1 ∧ x.2 q = c := by
  unfold is
  rw [Bool.and_eq_true, decide_eq_true_eq, decide_eq_true_eq]
theorem is_f {q : Nat} {c : Int32} (h : ¬ (q < x.1 ∧ x.2 q = c)) : is x q c = false := by
  rw [← Bool.not_eq_true, is_t]; exact h
theorem nd_le {p : Nat} (h : p ≤ x.1) : p + nd x p ≤ x.1 := by
  rcases Nat.eq_zero_or_pos (nd x p) with z | z
  · omega
  · have := (dg_lt (rn_dg (x := x) (p := p) 6 (nd x p - 1) (by unfold nd at z ⊢; omega))).1
    omega
theorem nd_6 (p : Nat) : nd x p ≤ 6 := rn_le p 6
theorem ent_le {p : Nat} (h : p ≤ x.1) : (ent x p).2 ≤ x.1 ∧ ((ent x p).1 = true → p + 2 ≤ (ent x p).2) := by
  unfold ent
  by_cases a : is x p 101 = true
  · rw [if_pos a]
    have h1 := (is_t.mp a).1
    have h2 := nd_le (x := x) (p := p + 1) (by omega)
    by_cases b : nd x (p + 1) = 0
    · rw [if_pos b]; exact ⟨h1, fun z => absurd z Bool.false_ne_true⟩
    · rw [if_neg b]; unfold e0; exact ⟨h2, fun _ => by show p + 2 ≤ p + 1 + nd x (p + 1); omega⟩
  rw [if_neg a]
  by_cases a : is x p 99 = true
  · rw [if_pos a]
    have h1 := (is_t.mp a).1
    have h2 := nd_le (x := x) (p := p + 1) (by omega)
    by_cases b : nd x (p + 1) = 0
    · rw [if_pos b]; exact ⟨h1, fun z => absurd z Bool.false_ne_true⟩
    rw [if_neg b]
    by_cases c : is x (e0 x p) 44 = true
    rotate_left
    · rw [if_neg c]; exact ⟨h2, fun z => absurd z Bool.false_ne_true⟩
    rw [if_pos c]
    have h3 := (is_t.mp c).1
    have h4 := nd_le (x := x) (p := e0 x p + 1) (by omega)
    by_cases b2 : nd x (e0 x p + 1) = 0
    · rw [if_pos b2]; exact ⟨h3, fun z => absurd z Bool.false_ne_true⟩
    rw [if_neg b2]
    by_cases c2 : is x (e1 x p) 44 = true
    rotate_left
    · rw [if_neg c2]; exact ⟨h4, fun z => absurd z Bool.false_ne_true⟩
    rw [if_pos c2]
    have h5 := (is_t.mp c2).1
    have h6 := nd_le (x := x) (p := e1 x p + 1) (by omega)
    by_cases b3 : nd x (e1 x p + 1) = 0
    · rw [if_pos b3]; exact ⟨h5, fun z => absurd z Bool.false_ne_true⟩
    rw [if_neg b3]
    refine ⟨h6, fun _ => ?_⟩
    show p + 2 ≤ e2 x p
    unfold e2 e1 e0
    omega
  rw [if_neg a]
  by_cases a : is x p 114 = true
  · rw [if_pos a]
    have h1 := (is_t.mp a).1
    have h2 := nd_le (x := x) (p := p + 1) (by omega)
    by_cases b : nd x (p + 1) = 0
    · rw [if_pos b]; exact ⟨h1, fun z => absurd z Bool.false_ne_true⟩
    rw [if_neg b]
    by_cases c : is x (e0 x p) 61 = true
    rotate_left
    · rw [if_neg c]; exact ⟨h2, fun z => absurd z Bool.false_ne_true⟩
    rw [if_pos c]
    have h3 := (is_t.mp c).1
    have h4 := nd_le (x := x) (p := e0 x p + 1) (by omega)
    by_cases b2 : nd x (e0 x p + 1) = 0
    · rw [if_pos b2]; exact ⟨h3, fun z => absurd z Bool.false_ne_true⟩
    rw [if_neg b2]
    refine ⟨h4, fun _ => ?_⟩
    show p + 2 ≤ e1 x p
    unfold e1 e0
    omega
  rw [if_neg a]
  exact ⟨h, fun z => absurd z Bool.false_ne_true⟩
theorem ent_end {p : Nat} (h : ¬ p < x.1) : ent x p = (false, p) := by
  have e : ∀ c, ¬ is x p c = true := fun c z => h (is_t.mp z).1
  unfold ent
  rw [if_neg (e _), if_neg (e _), if_neg (e _)]
end PRS
