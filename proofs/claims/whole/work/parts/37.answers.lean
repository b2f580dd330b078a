/-! THE ANSWERS, as functions of the data -/
def inb (x : Int32) (a b : Int) : Bool := decide (a ≤ x.toInt ∧ x.toInt ≤ b)
def inR (x : Int32) (n : Nat) : Bool := inb x 0 ((n : Int) - 1)
theorem inb_t {x : Int32} {a b : Int} : inb x a b = true ↔ bd x a b := by unfold inb bd; exact decide_eq_true_iff
theorem inR_nI {x : Int32} {n : Nat} (h : inR x n = true) : ∃ j, j < n ∧ x = nI j := by
  obtain ⟨h1, h2⟩ := inb_t.mp h
  obtain ⟨a, b, c⟩ := i32_nn h1
  exact ⟨_, by omega, a⟩
theorem inR_of {n j : Nat} (h : j < n) (hn : n < 2 ^ 31) : inR (nI j) n = true := by
  refine inb_t.mpr ?_
  unfold bd
  rw [nI_toInt (by omega)]
  omega
theorem tst {b : Bool} {A C : Prop} (f : b = false → A) (g : b = true → C) : ((if b = true then (1 : Int32) else 0) = 0 → A) ∧ (¬ (if b = true then (1 : Int32) else 0) = 0 → C) := by
  cases b
  · exact ⟨fun _ => f rfl, fun h => absurd rfl h⟩
  · exact ⟨fun h => absurd h (by decide), fun _ => g rfl⟩
theorem tsw {b : Bool} {A C : Prop} (g : b = true → C) (f : b = false → A) : (¬ (if b = true then (1 : Int32) else 0) = 0 → C) ∧ ((if b = true then (1 : Int32) else 0) = 0 → A) := ⟨(tst f g).2, (tst f g).1⟩
theorem nar01 {b : Bool} : narrow .boolean (.int (if b = true then (1 : Int32) else 0)) = .int (if b = true then (1 : Int32) else 0) := by cases b <;> rfl
def setB (B : Bk) (f i : Nat) (v : Int32) : Bk := fun f' i' => if f' = f ∧ i' = i then v else B f' i'
theorem setB_s {B : Bk} {f i : Nat} {v : Int32} : setB B f i v f i = v := if_pos ⟨rfl, rfl⟩
theorem setB_f {B : Bk} {f i f' i' : Nat} {v : Int32} (h : f' ≠ f) : setB B f i v f' i' = B f' i' := if_neg (fun z => h z.1)
theorem setB_i {B : Bk} {f i f' i' : Nat} {v : Int32} (h : i' ≠ i) : setB B f i v f' i' = B f' i' := if_neg (fun z => h z.2)
def covAns (B : Bk) (c : Nat) (w : Int32) : Int32 := if w = 0 then B 1 c else if w = 1 then B 2 c else if w = 2 then B 3 c else if w = 3 then B 4 c else if w = 4 then pinall B c else if w = 5 then left B c (nE B) else -2
def ansCover (B : Bk) (a w : Int32) : Int32 := if inR a (nC B) = true then covAns B a.toNatClampNeg w else -1
def layAns (B : Bk) (l : Nat) (w : Int32) : Int32 := if w = 0 then B 6 l else if w = 1 then B 7 l else if w = 2 then B 8 l else if w = 3 then B 9 l else if w = 4 then binall B l else if w = 5 then capl B l (nE B) else if w = 6 then rein B l else if w = 7 then rprem B l else -2
def ansLayer (B : Bk) (a w : Int32) : Int32 := if inR a (nL B) = true then layAns B a.toNatClampNeg w else -1
def ansDed (B : Bk) (a : Int32) : Int32 := if inR a 3 = true then B 10 a.toNatClampNeg else -1
def evAns (B : Bk) (e : Nat) (w : Int32) : Int32 := if w = 0 then B 13 e else if w = 1 then B 14 e else if w = 2 then manyC B e else if w = 3 then lossIn B e else if w = 4 then pall B e else if w = 5 then burd B e else if w = 6 then retn B e else if w = 7 then nI (pos B e) else -2
def ansEvent (B : Bk) (a w : Int32) : Int32 := if inR a (nE B) = true then evAns B a.toNatClampNeg w else -1
def ansEventAt (B : Bk) (a : Int32) : Int32 := if inR a (nE B) = true then nI (ordE B a.toNatClampNeg) else -1
def reasonB (B : Bk) (e c k : Nat) : Int32 := if cpay B k = 0 then (if left B c (pos B e) = 0 then 1 else 2) else if net B e c ≤ paid B e c then (if lsum B e c ≤ gross B e c then (if ded B e c ≤ 0 then 0 else 5) else 4) else 3
def clAns (B : Bk) (k : Nat) (w : Int32) : Int32 := if w = 0 then B 16 k else if w = 1 then B 17 k else if w = 2 then B 18 k else if w = 3 then lossF B k else if w = 4 then cpay B k else if w = 5 then reasonB B (B 16 k).toNatClampNeg (B 17 k).toNatClampNeg k else -2
def ansClaim (B : Bk) (a w : Int32) : Int32 := if inR a (nK B) = true then clAns B a.toNatClampNeg w else -1
def ansEC (f : Nat → Nat → Int32) (B : Bk) (a b : Int32) : Int32 := if inR a (nE B) = true then (if inR b (nC B) = true then f a.toNatClampNeg b.toNatClampNeg else -1) else -1
def ansBorne (B : Bk) (a b : Int32) : Int32 := if inR a (nE B) = true then (if inR b (nL B) = true then borne B a.toNatClampNeg b.toNatClampNeg else -1) else -1
def part (B : Bk) (e l : Nat) : Int32 := if l < nL B then borne B e l else retn B e
def ansReturned (B : Bk) (a b : Int32) : Int32 := if inR a (nE B) = true then (if inR b (nL B + 1) = true then part (setB B 14 a.toNatClampNeg 0) a.toNatClampNeg b.toNatClampNeg - part B a.toNatClampNeg b.toNatClampNeg else -1) else -1
def placeN (B : Bk) (e : Nat) : Nat → Int32
  | 0 => 0
  | n + 1 => if borne B e n ≤ 0 then placeN B e n else nI (n + 1)
def ansPlace (B : Bk) (a : Int32) : Int32 := if inR a (nE B) = true then placeN B a.toNatClampNeg (nL B) else -1
def wst (B : Bk) : Nat → Nat
  | 0 => ordE B 0
  | p + 1 => if burd B (ordE B (p + 1)) ≤ burd B (wst B p) then wst B p else ordE B (p + 1)
def ansWorst (B : Bk) : Int32 := if nE B = 0 then -4 else nI (wst B (nE B - 1))
def accAns (B : Bk) (w : Int32) : Int32 := if w = 0 then sumI (lossIn B) (nE B) else if w = 1 then sumI (pinall B) (nC B) else if w = 2 then sumI (fun e => sumI (ded B e) (nC B)) (nE B) else if w = 3 then sumI (burd B) (nE B) else if w = 4 then sumI (binall B) (nL B) else if w = 5 then sumI (retn B) (nE B) else if w = 6 then sumI (fun c => B 3 c) (nC B) else if w = 7 then lprems B else if w = 8 then sumI (lossIn B) (nE B) - sumI (pinall B) (nC B) else -2
def ansResult (B : Bk) : Int32 := sumI (fun c => B 3 c) (nC B) - lprems B - sumI (retn B) (nE B) + 10000000
def ansRatio (B : Bk) : Int32 := if sumI (fun c => B 3 c) (nC B) = 0 then -4 else (FP.fdiv (FP.i2f (sumI (pinall B) (nC B))) (FP.i2f (sumI (fun c => B 3 c) (nC B)))).toInt32
def ansBal (B : Bk) : Int32 := if sumI (cpay B) (nK B) = sumI (pinall B) (nC B) then (if sumI (binall B) (nL B) + sumI (retn B) (nE B) = sumI (burd B) (nE B) then (if sumI (lossIn B) (nE B) < sumI (pinall B) (nC B) + sumI (fun e => sumI (ded B e) (nC B)) (nE B) then 0 else 1) else 0) else 0
def ansPaidIf (B : Bk) (a d : Int32) : Int32 := if inR a (nE B) = true then (if inb d 0 364 = true then sumI (pinall (setB B 13 a.toNatClampNeg d)) (nC B) else -2) else -1
def ansLeast (B : Bk) (a : Int32) : Int32 := if inR a (nC B) = true then mx 1 (mn 99999 (sumI (fun e => net B e a.toNatClampNeg) (nE B))) else -1
