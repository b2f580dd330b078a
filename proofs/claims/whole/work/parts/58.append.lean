/-! THE TEXT: append -/
abbrev Tx : Type := Nat × (Nat → Int32)
def sh (m : Nat) : Int32 := if m = 0 then 24 else if m = 1 then 16 else if m = 2 then 8 else if m = 3 then 0 else -8
def byt (a : Int32) (m : Nat) : Int32 := (a.toUInt32 >>> ((sh m).toUInt32 &&& Int32.toUInt32 31)).toInt32 &&& (255 : Int32)
def okA (a : Int32) : Nat → Bool
  | 0 => true
  | m + 1 => okA a m && (decide (byt a m = 0) || inb (byt a m) 33 126)
def nz (a : Int32) : Nat → Nat
  | 0 => 0
  | m + 1 => nz a m + (if byt a m = 0 then 0 else 1)
def appS (x : Tx) (a : Int32) : Nat → Tx
  | 0 => x
  | m + 1 => if byt a m = 0 then appS x a m else ((appS x a m).1 + 1, fun i => if i = (appS x a m).1 then byt a m else (appS x a m).2 i)
def appA (x : Tx) (a : Int32) : Int32 × Tx := if okA a 4 = true then (if x.1 + nz a 4 ≤ 60 then (nI (x.1 + nz a 4), appS x a 4) else (-3, x)) else (-2, x)
def CT (x : Tx) (M : Mm) : Prop := x.1 ≤ 60 ∧ rd M 3 0 1 = nI x.1 ∧ ∀ i, i < x.1 → rd M 80 0 i = x.2 i
def MT (x : Tx) (M : Mm) : Prop := x.1 ≤ 60 ∧ rd M 7 0 7 = nI x.1 ∧ ∀ i, i < x.1 → rd M 166 0 i = x.2 i
theorem sh_lt {m : Nat} (h : m < 4) : ¬ sh m < 0 ∧ sh m + (-8 : Int32) = sh (m + 1) ∧ (sh (m + 1) + 8).toNatClampNeg < (sh m + 8).toNatClampNeg := by
  have : m = 0 ∨ m = 1 ∨ m = 2 ∨ m = 3 := by omega
  rcases this with rfl | rfl | rfl | rfl <;> decide
theorem sh_4 : sh 4 < 0 := by decide
theorem nz_le (a : Int32) (m : Nat) : nz a m ≤ m := by
  induction m with
  | zero => exact Nat.le_refl _
  | succ m ih =>
    show nz a m + _ ≤ m + 1
    split <;> omega
theorem nz_mono (a : Int32) {m n : Nat} (h : m ≤ n) : nz a m ≤ nz a n := by
  induction n with
  | zero => rw [show m = 0 by omega]; exact Nat.le_refl _
  | succ n ih =>
    by_cases q : m = n + 1
    · rw [q]; exact Nat.le_refl _
    · have := ih (by omega)
      show nz a m ≤ nz a n + _
      omega
theorem okA_4 {a : Int32} {m n : Nat} (h : m ≤ n) (hn : okA a n = true) : okA a m = true := by
  induction n with
  | zero => rw [show m = 0 by omega]; rfl
  | succ n ih =>
    by_cases q : m = n + 1
    · rw [q]; exact hn
    · exact ih (by omega) ((Bool.and_eq_true _ _).mp hn).1
theorem okA_s {a : Int32} {m : Nat} (h : okA a (m + 1) = true) : byt a m = 0 ∨ inb (byt a m) 33 126 = true := by
  have := ((Bool.and_eq_true _ _).mp h).2
  rw [Bool.or_eq_true] at this
  rcases this with z | z
  · exact Or.inl (of_decide_eq_true z)
  · exact Or.inr z
theorem okA_f {a : Int32} {m : Nat} (hm : m < 4) (h0 : ¬ byt a m = 0) (h : inb (byt a m) 33 126 = false) : ¬ okA a 4 = true := fun z => by
  have := okA_s (okA_4 (show m + 1 ≤ 4 by omega) z)
  rcases this with w | w
  · exact h0 w
  · rw [h] at w; exact absurd w (by decide)
theorem appS_1 {x : Tx} {a : Int32} (m : Nat) : (appS x a m).1 = x.1 + nz a m := by
  induction m with
  | zero => rfl
  | succ m ih =>
    show (if byt a m = 0 then appS x a m else _).1 = x.1 + (nz a m + _)
    by_cases q : byt a m = 0
    · rw [if_pos q, if_pos q]; exact ih
    · rw [if_neg q, if_neg q]
      show (appS x a m).1 + 1 = _
      rw [ih]; omega
theorem char_all : ∀ n : Fin 127, vp_nar .char ((nI n.val).toUInt32 % 65536).toInt32 = nI n.val := by decide +kernel
theorem char_id {b : Int32} (h : inb b 33 126 = true) : vp_nar .char (b.toUInt32 % 65536).toInt32 = b := by
  obtain ⟨h1, h2, h3⟩ := bd_nI (bd_wk (inb_t.mp h) (show (0 : Int) ≤ 33 by decide) (Int.le_refl _))
  rw [h1]
  exact char_all ⟨b.toNatClampNeg, by omega⟩
section APP
variable {M : Mm} {x : Tx}
theorem CT.kept {M2 : Mm} {R : Nat → Nat → Nat → Prop} (h : CT x M) (hf : Fg R M M2) (hr : ∀ t k j, (t = 3 ∧ j = 1) ∨ t = 80 → ¬ R t k j) : CT x M2 :=
  ⟨h.1, by rw [hf _ _ _ (hr _ _ _ (Or.inl ⟨rfl, rfl⟩))]; exact h.2.1, fun i hi => by rw [hf _ _ _ (hr _ _ _ (Or.inr rfl))]; exact h.2.2 i hi⟩
theorem MT.kept {M2 : Mm} {R : Nat → Nat → Nat → Prop} (h : MT x M) (hf : Fg R M M2) (hr : ∀ t k j, (t = 7 ∧ j = 7) ∨ t = 166 → ¬ R t k j) : MT x M2 :=
  ⟨h.1, by rw [hf _ _ _ (hr _ _ _ (Or.inl ⟨rfl, rfl⟩))]; exact h.2.1, fun i hi => by rw [hf _ _ _ (hr _ _ _ (Or.inr rfl))]; exact h.2.2 i hi⟩
def rT (t _k j : Nat) : Prop := (t = 3 ∧ j = 1) ∨ t = 80
def qT (t _k j : Nat) : Prop := (t = 7 ∧ j = 7) ∨ t = 166
theorem y_extend (hT : CT x M) (a : Int32) {P : Int32 → Mm → Prop} (h : ∀ M2, Fg rT M M2 → CT (appA x a).2 M2 → P (appA x a).1 M2) : wp_X3_extend a M P := by
  have hl := hT.1
  unfold appA at h
  unfold wp_X3_extend
  refine lq3_i (fun c s M' => M' = M ∧ ∃ m, m ≤ 4 ∧ s = sh m ∧ c = nI (nz a m) ∧ okA a m = true) (fun _ s _ => (s + 8).toNatClampNeg) ?_ _ _ _ ⟨rfl, 0, by omega, rfl, rfl, rfl⟩
  rintro c s M' ⟨rfl, m, hm, rfl, rfl, hok⟩ self hself
  have hz := nz_le a 4
  refine ⟨fun q => ?_, fun q => ?_⟩
  · have : m = 4 := by
      rcases Nat.lt_or_ge m 4 with z | z
      · exact absurd q (sh_lt z).1
      · omega
    subst this
    rw [if_pos hok] at h
    rw [hT.2.1, nI_add, show (60 : Int32) = nI 60 from rfl]
    refine cLe (by omega) (by omega) (fun q2 => ?_) (fun q2 => ?_)
    rotate_left
    · rw [if_neg (by omega)] at h; exact h _ Fg.rf hT
    rw [if_pos q2] at h
    refine lq2_i (fun s M1 => ∃ m, m ≤ 4 ∧ s = sh m ∧ Fg rT M' M1 ∧ CT (appS x a m) M1) (fun s _ => (s + 8).toNatClampNeg) ?_ _ _ ⟨0, by omega, rfl, Fg.rf, hT⟩
    rintro s M1 ⟨m, hm, rfl, hF, hC⟩ self2 hself2
    have e1 := appS_1 (x := x) (a := a) m
    refine ⟨fun q3 => ?_, fun q3 => ?_⟩
    · have : m = 4 := by
        rcases Nat.lt_or_ge m 4 with z | z
        · exact absurd q3 (sh_lt z).1
        · omega
      subst this
      rw [hC.2.1, e1]
      exact h _ hF hC
    · have hm4 : m < 4 := by
        rcases Nat.lt_or_ge m 4 with z | z
        · exact z
        · rw [show m = 4 by omega] at q3; exact absurd sh_4 q3
      obtain ⟨g1, g2, g3⟩ := sh_lt hm4
      rintro x13 hx13
      have hx13 : x13 = byt a m := hx13
      subst hx13
      unfold jn
      refine ⟨fun q4 => ?_, fun q4 => ?_⟩
      · rintro x17 rfl
        rw [g2]
        refine hself2 _ _ ⟨m + 1, by omega, rfl, hF, ?_⟩ g3
        have : appS x a (m + 1) = appS x a m := if_pos q4
        rw [this]
        exact hC
      · have hs : nz a (m + 1) = nz a m + 1 := by
          show nz a m + (if byt a m = 0 then 0 else 1) = _
          rw [if_neg q4]
        have hmo := nz_mono a (show m + 1 ≤ 4 by omega)
        have hin : inb (byt a m) 33 126 = true := by
          rcases okA_s (okA_4 (show m + 1 ≤ 4 by omega) hok) with z | z
          · exact absurd z q4
          · exact z
        rw [hC.2.1, e1, vpI (by omega), nI_clamp (by omega), char_id hin]
        refine ⟨by omega, ?_⟩
        rintro M20 rfl M21 rfl x17 rfl
        have e2 : rd M1 3 0 1 = nI (x.1 + nz a m) := by rw [hC.2.1, e1]
        rw [rdk e2 (by decide), mI6, g2]
        have ea : appS x a (m + 1) = ((appS x a m).1 + 1, fun i => if i = (appS x a m).1 then byt a m else (appS x a m).2 i) := if_neg q4
        refine hself2 _ _ ⟨m + 1, by omega, rfl, hF.tr ((Fg.w (Or.inr rfl)).tr (Fg.w (Or.inl ⟨rfl, rfl⟩))), ?_⟩ g3
        rw [ea, e1]
        refine ⟨by show x.1 + nz a m + 1 ≤ 60; omega, rd_wr_s, fun i hi => ?_⟩
        have hi : i < x.1 + nz a m + 1 := hi
        show rd _ 80 0 i = if i = x.1 + nz a m then byt a m else (appS x a m).2 i
        rw [rd_wr_n (by omega), rd_wr]
        by_cases w : i = x.1 + nz a m
        · rw [if_pos w, if_pos ⟨rfl, rfl, w⟩]
        · rw [if_neg w, if_neg (fun z => w z.2.2)]
          exact hC.2.2 i (by rw [e1]; omega)
  · have hm4 : m < 4 := by
      rcases Nat.lt_or_ge m 4 with z | z
      · exact z
      · rw [show m = 4 by omega] at q; exact absurd sh_4 q
    obtain ⟨g1, g2, g3⟩ := sh_lt hm4
    rintro x22 hx22
    have hx22 : x22 = byt a m := hx22
    subst hx22
    have fin : (byt a m = 0 ∨ inb (byt a m) 33 126 = true) → ((¬ byt a m = 0 → ∀ x29 : Int32, x29 = nI (nz a m) + 1 → ∀ x30 : Int32, x30 = sh m + (-8 : Int32) → self x29 x30 M') ∧ (byt a m = 0 → ∀ x29 : Int32, x29 = nI (nz a m) + 0 → ∀ x30 : Int32, x30 = sh m + (-8 : Int32) → self x29 x30 M')) := fun ho => by
      have ok1 : okA a (m + 1) = true := by
        show (okA a m && _) = true
        rw [hok]
        rcases ho with z | z
        · simp [z]
        · rw [z]; simp
      refine ⟨fun z => ?_, fun z => ?_⟩
      · rintro x29 rfl x30 rfl
        rw [g2, mI6]
        refine hself _ _ _ ⟨rfl, m + 1, by omega, rfl, ?_, ok1⟩ g3
        show _ = nI (nz a m + (if byt a m = 0 then 0 else 1))
        rw [if_neg z]
      · rintro x29 rfl x30 rfl
        rw [g2, show (0 : Int32) = nI 0 from rfl, nI_add]
        refine hself _ _ _ ⟨rfl, m + 1, by omega, rfl, ?_, ok1⟩ g3
        show _ = nI (nz a m + (if byt a m = 0 then 0 else 1))
        rw [if_pos z]
    unfold jn
    refine ⟨fun z => fin (Or.inl z), fun z => ?_⟩
    refine y_in (tsw (fun q5 => ?_) (fun q5 => ?_))
    · exact fin (Or.inr q5)
    · rw [if_neg (okA_f hm4 z q5)] at h
      exact h _ Fg.rf hT
theorem c_append (hT : CT x M) (a : Int32) {P : Int32 → Mm → Prop} (h : ∀ M2, Fg rT M M2 → CT (appA x a).2 M2 → P (appA x a).1 M2) : wp_X6_append a M P := by
  unfold wp_X6_append
  exact y_extend hT a h
theorem m_append (hT : MT x M) (a : Int32) {P : Int32 → Mm → Prop} (h : ∀ M2, Fg qT M M2 → MT (appA x a).2 M2 → P (appA x a).1 M2) : wp_X7_append a M P := by
  have hl := hT.1
  unfold appA at h
  unfold wp_X7_append
  refine lq3_i (fun c s M' => M' = M ∧ ∃ m, m ≤ 4 ∧ s = sh m ∧ c = nI (nz a m) ∧ okA a m = true) (fun _ s _ => (s + 8).toNatClampNeg) ?_ _ _ _ ⟨rfl, 0, by omega, rfl, rfl, rfl⟩
  rintro c s M' ⟨rfl, m, hm, rfl, rfl, hok⟩ self hself
  have hz := nz_le a 4
  refine ⟨fun q => ?_, fun q => ?_⟩
  · have : m = 4 := by
      rcases Nat.lt_or_ge m 4 with z | z
      · exact absurd q (sh_lt z).1
      · omega
    subst this
    rw [if_pos hok] at h
    rw [hT.2.1, nI_add, show (60 : Int32) = nI 60 from rfl]
    refine cLe (by omega) (by omega) (fun q2 => ?_) (fun q2 => ?_)
    rotate_left
    · rw [if_neg (by omega)] at h; exact h _ Fg.rf hT
    rw [if_pos q2] at h
    refine lq2_i (fun s M1 => ∃ m, m ≤ 4 ∧ s = sh m ∧ Fg qT M' M1 ∧ MT (appS x a m) M1) (fun s _ => (s + 8).toNatClampNeg) ?_ _ _ ⟨0, by omega, rfl, Fg.rf, hT⟩
    rintro s M1 ⟨m, hm, rfl, hF, hC⟩ self2 hself2
    have e1 := appS_1 (x := x) (a := a) m
    refine ⟨fun q3 => ?_, fun q3 => ?_⟩
    · have : m = 4 := by
        rcases Nat.lt_or_ge m 4 with z | z
        · exact absurd q3 (sh_lt z).1
        · omega
      subst this
      rw [hC.2.1, e1]
      exact h _ hF hC
    · have hm4 : m < 4 := by
        rcases Nat.lt_or_ge m 4 with z | z
        · exact z
        · rw [show m = 4 by omega] at q3; exact absurd sh_4 q3
      obtain ⟨g1, g2, g3⟩ := sh_lt hm4
      rintro x13 hx13
      have hx13 : x13 = byt a m := hx13
      subst hx13
      unfold jn
      refine ⟨fun q4 => ?_, fun q4 => ?_⟩
      rotate_left
      · rintro x17 rfl
        rw [g2]
        refine hself2 _ _ ⟨m + 1, by omega, rfl, hF, ?_⟩ g3
        have : appS x a (m + 1) = appS x a m := if_pos q4
        rw [this]
        exact hC
      · have hs : nz a (m + 1) = nz a m + 1 := by
          show nz a m + (if byt a m = 0 then 0 else 1) = _
          rw [if_neg q4]
        have hmo := nz_mono a (show m + 1 ≤ 4 by omega)
        rw [hC.2.1, e1, vpI (by omega), nI_clamp (by omega)]
        refine ⟨by omega, ?_⟩
        rintro M20 rfl M21 rfl x17 rfl
        have e2 : rd M1 7 0 7 = nI (x.1 + nz a m) := by rw [hC.2.1, e1]
        rw [rdk e2 (by decide), mI6, g2]
        have ea : appS x a (m + 1) = ((appS x a m).1 + 1, fun i => if i = (appS x a m).1 then byt a m else (appS x a m).2 i) := if_neg q4
        refine hself2 _ _ ⟨m + 1, by omega, rfl, hF.tr ((Fg.w (Or.inr rfl)).tr (Fg.w (Or.inl ⟨rfl, rfl⟩))), ?_⟩ g3
        rw [ea, e1]
        refine ⟨by show x.1 + nz a m + 1 ≤ 60; omega, rd_wr_s, fun i hi => ?_⟩
        have hi : i < x.1 + nz a m + 1 := hi
        show rd _ 166 0 i = if i = x.1 + nz a m then byt a m else (appS x a m).2 i
        rw [rd_wr_n (by omega), rd_wr]
        by_cases w : i = x.1 + nz a m
        · rw [if_pos w, if_pos ⟨rfl, rfl, w⟩]
        · rw [if_neg w, if_neg (fun z => w z.2.2)]
          exact hC.2.2 i (by rw [e1]; omega)
  · have hm4 : m < 4 := by
      rcases Nat.lt_or_ge m 4 with z | z
      · exact z
      · rw [show m = 4 by omega] at q; exact absurd sh_4 q
    obtain ⟨g1, g2, g3⟩ := sh_lt hm4
    rintro x22 hx22
    have hx22 : x22 = byt a m := hx22
    subst hx22
    have ok1 : (byt a m = 0 ∨ inb (byt a m) 33 126 = true) → okA a (m + 1) = true := fun ho => by
      show (okA a m && _) = true
      rw [hok]
      rcases ho with z | z
      · simp [z]
      · rw [z]; simp
    unfold jn
    refine ⟨fun z => ?_, fun z => ?_⟩
    · refine q_in (tsw (fun q5 => ?_) (fun q5 => ?_))
      · rintro x32 rfl x27 rfl
        rw [g2, mI6]
        refine hself _ _ _ ⟨rfl, m + 1, by omega, rfl, ?_, ok1 (Or.inr q5)⟩ g3
        show _ = nI (nz a m + (if byt a m = 0 then 0 else 1))
        rw [if_neg z]
      · rw [if_neg (okA_f hm4 z q5)] at h
        exact h _ Fg.rf hT
    · rintro x27 rfl
      rw [g2]
      refine hself _ _ _ ⟨rfl, m + 1, by omega, rfl, ?_, ok1 (Or.inl z)⟩ g3
      show _ = nI (nz a m + (if byt a m = 0 then 0 else 1))
      rw [if_pos z]
      rfl
end APP
