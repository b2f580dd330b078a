/-! SUMS THAT ARE ONE -/
section IDN
variable {B : Bk}
theorem id_losses (hW : WF B) : sumI (lossIn B) (nE B) = sumI (lossF B) (nK B) := by
  have h8 := hW.e8
  show sumI (fun e => sumI (fun k => if B 16 k = nI e then lossF B k else 0) (nK B)) (nE B) = _
  rw [sumI_swap]
  refine sumI_congr (fun k hk => ?_)
  obtain ⟨⟨e, he, h16⟩, -, -⟩ := hW.cl k hk
  rw [sumI_one (k := e) he (fun i hi hne => if_neg (by rw [h16, nI_eq (by omega) (by omega)]; omega)), if_pos h16]
theorem id_loss1 (hW : WF B) {e : Nat} : sumI (lsum B e) (nC B) = lossIn B e := by
  have h6 := hW.c6
  show sumI (fun c => sumI (lsAt B e c) (nK B)) (nC B) = _
  rw [sumI_swap]
  refine sumI_congr (fun k hk => ?_)
  obtain ⟨-, ⟨c, hc, h17⟩, -⟩ := hW.cl k hk
  by_cases q : B 16 k = nI e
  · rw [sumI_one (k := c) hc (fun i hi hne => by
      unfold lsAt
      rw [if_neg (fun z => hne (by have := z.2; rw [h17, nI_eq (by omega) (by omega)] at this; exact this.symm))])]
    unfold lsAt
    rw [if_pos ⟨q, h17⟩, if_pos q]
  · rw [if_neg q, sumI_congr (g := fun _ => 0) (fun i _ => by unfold lsAt; rw [if_neg (fun z => q z.1)]), sumI_0]
theorem tele (x : Nat → Int32) (f : Nat → Int32) (h : ∀ p, x (p + 1) = x p - f p) : ∀ n, sumI f n = x 0 - x n := by
  intro n
  induction n with
  | zero => show (0 : Int32) = x 0 - x 0; rw [Int32.sub_self]
  | succ n ih =>
    show sumI f n + f n = x 0 - x (n + 1)
    rw [ih, h n, Int32.sub_eq_add_neg (x 0), Int32.sub_eq_add_neg (x 0), Int32.sub_eq_add_neg (x n), Int32.neg_add, Int32.sub_eq_add_neg (-x n), Int32.neg_neg, Int32.add_assoc]
theorem id_paid1 (c : Nat) : sumI (fun e => paid B e c) (nE B) = pinall B c := by
  rw [sum_ord]
  unfold pinall
  rw [show B 2 c = left B c 0 from rfl, ← tele (left B c) (fun p => mn (left B c p) (net B (ordE B p) c)) (fun p => rfl)]
  refine sumI_congr (fun p hp => ?_)
  show mn (net B (ordE B p) c) (left B c (pos B (ordE B p))) = _
  rw [(ordE_lt hp).2, mn_comm]
theorem id_paid : sumI (pall B) (nE B) = sumI (pinall B) (nC B) := by
  show sumI (fun e => sumI (paid B e) (nC B)) (nE B) = _
  rw [sumI_swap]
  exact sumI_congr (fun c _ => id_paid1 c)
theorem id_borne1 (l : Nat) : sumI (fun e => borne B e l) (nE B) = binall B l := by
  rw [sum_ord]
  unfold binall
  rw [show cap B l = capl B l 0 from rfl, ← tele (capl B l) (fun p => mn (capl B l p) (want B (ordE B p) l)) (fun p => rfl)]
  refine sumI_congr (fun p hp => ?_)
  show mn (want B (ordE B p) l) (capl B l (pos B (ordE B p))) = _
  rw [(ordE_lt hp).2, mn_comm]
theorem id_borne : sumI (fun e => sumI (borne B e) (nL B)) (nE B) = sumI (binall B) (nL B) := by
  rw [sumI_swap]
  exact sumI_congr (fun l _ => id_borne1 l)
theorem id_cost : sumI (fun l => B 8 l + rprem B l) (nL B) = lprems B := sumI_add
end IDN
