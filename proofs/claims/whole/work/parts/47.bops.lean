/-! THE STEPS on both sides -/
def insC (B : Bk) (a b c d : Int32) : Int32 × Bk := if inb a 1 99999 = true then (if inb b 1 99999 = true then (if inb c 0 99999 = true then (if inb d 0 2 = true then (if nC B < 6 then (nI (nC B), putC B (nC B) a b c d) else (-3, B)) else (-2, B)) else (-2, B)) else (-2, B)) else (-2, B)
def endL (B : Bk) : Int32 := if nL B = 0 then 0 else B 6 (nL B - 1) + B 7 (nL B - 1)
def insL (B : Bk) (a b c d : Int32) : Int32 × Bk := if inb a 0 999999 = true then (if inb b 1 99999 = true then (if inb c 0 99999 = true then (if inb d 0 3 = true then (if endL B ≤ a then (if nL B < 4 then (nI (nL B), putL B (nL B) a b c d) else (-3, B)) else (-5, B)) else (-2, B)) else (-2, B)) else (-2, B)) else (-2, B)
def insE (B : Bk) (a : Int32) : Int32 × Bk := if inb a 0 364 = true then (if nE B < 8 then (nI (nE B), putE B (nE B) a) else (-3, B)) else (-2, B)
def insK (B : Bk) (a b c : Int32) : Int32 × Bk := if inR a (nE B) = true then (if inR b (nC B) = true then (if inb c 1 99999 = true then (if nK B < 24 then (nI (nK B), putK B (nK B) a b c) else (-3, B)) else (-2, B)) else (-1, B)) else (-1, B)
def rmK (B : Bk) (a : Int32) : Int32 × Bk := if inR a (nK B) = true then (nI (nK B - 1), dropK B a.toNatClampNeg) else (-1, B)
def chDay (B : Bk) (a d : Int32) : Int32 × Bk := if inR a (nE B) = true then (if inb d 0 364 = true then (B 13 a.toNatClampNeg, setB B 13 a.toNatClampNeg d) else (-2, B)) else (-1, B)
def chRec (B : Bk) (a d : Int32) : Int32 × Bk := if inR a (nE B) = true then (if inb d 0 999999 = true then (B 14 a.toNatClampNeg, setB B 14 a.toNatClampNeg d) else (-2, B)) else (-1, B)
def chDed (B : Bk) (a d : Int32) : Int32 × Bk := if inR a 3 = true then (if inb d 0 99999 = true then (B 10 a.toNatClampNeg, setB B 10 a.toNatClampNeg d) else (-2, B)) else (-1, B)
def chRate (B : Bk) (d : Int32) : Int32 × Bk := if inb d 0 100 = true then (B 11 0, setB B 11 0 d) else (-2, B)
def rB (t k _j : Nat) : Prop := k = 0 ∧ (t = 0 ∨ 21 ≤ t ∧ t ≤ 38)
section BOP
variable {B : Bk} {M : Mm}
theorem us_put1 {n b c d f i : Nat} : usN (n + 1) b c d f i → usN n b c d f i ∨ ((1 ≤ f ∧ f ≤ 4) ∧ i = n) := by
  unfold usN
  omega
theorem us_put2 {n a c d f i : Nat} : usN a (n + 1) c d f i → usN a n c d f i ∨ ((6 ≤ f ∧ f ≤ 9) ∧ i = n) := by
  unfold usN
  omega
theorem us_put3 {n a b d f i : Nat} : usN a b (n + 1) d f i → usN a b n d f i ∨ ((f = 13 ∨ f = 14) ∧ i = n) := by
  unfold usN
  omega
theorem us_put4 {n a b c f i : Nat} : usN a b c (n + 1) f i → usN a b c n f i ∨ ((16 ≤ f ∧ f ≤ 18) ∧ i = n) := by
  unfold usN
  omega
theorem ag_putC {V V1 V2 V3 V4 V5 : Bk} {n : Nat} {a b c d : Int32} (hn : n = nC B) (h6 : n < 6) (h : Agr (us B) B V) (h1 : ∀ f i, lg f i → V1 f i = setB V 1 n a f i) (h2 : ∀ f i, lg f i → V2 f i = setB V1 2 n b f i) (h3 : ∀ f i, lg f i → V3 f i = setB V2 3 n c f i) (h4 : ∀ f i, lg f i → V4 f i = setB V3 4 n d f i) (h5 : ∀ f i, lg f i → V5 f i = setB V4 0 0 (nI (n + 1)) f i) : Agr (us (putC B n a b c d)) (putC B n a b c d) V5 := by
  refine (((((h.w h1).w h2).w h3).w h4).w h5).mo (fun f i _ hu => ?_)
  obtain ⟨e0, e1, e2, e3⟩ := putC_N (B := B) (n := n) (a := a) (b := b) (c := c) (d := d) (by omega)
  unfold us at hu ⊢
  rw [e0, e1, e2, e3] at hu
  rw [← hn]
  rcases us_put1 hu with hu | hu
  · exact Or.inl (Or.inl (Or.inl (Or.inl (Or.inl hu))))
  · clear h h1 h2 h3 e0 e1 e2 e3
    omega
theorem ag_putL {V V1 V2 V3 V4 V5 : Bk} {n : Nat} {a b c d : Int32} (hn : n = nL B) (h6 : n < 4) (h : Agr (us B) B V) (h1 : ∀ f i, lg f i → V1 f i = setB V 6 n a f i) (h2 : ∀ f i, lg f i → V2 f i = setB V1 7 n b f i) (h3 : ∀ f i, lg f i → V3 f i = setB V2 8 n c f i) (h4 : ∀ f i, lg f i → V4 f i = setB V3 9 n d f i) (h5 : ∀ f i, lg f i → V5 f i = setB V4 5 0 (nI (n + 1)) f i) : Agr (us (putL B n a b c d)) (putL B n a b c d) V5 := by
  refine (((((h.w h1).w h2).w h3).w h4).w h5).mo (fun f i _ hu => ?_)
  obtain ⟨e0, e1, e2, e3⟩ := putL_N (B := B) (n := n) (a := a) (b := b) (c := c) (d := d) (by omega)
  unfold us at hu ⊢
  rw [e0, e1, e2, e3] at hu
  rw [← hn]
  rcases us_put2 hu with hu | hu
  · exact Or.inl (Or.inl (Or.inl (Or.inl (Or.inl hu))))
  · clear h h1 h2 h3 e0 e1 e2 e3
    omega
theorem ag_putE {V V1 V2 V3 : Bk} {n : Nat} {a : Int32} (hn : n = nE B) (h6 : n < 8) (h : Agr (us B) B V) (h1 : ∀ f i, lg f i → V1 f i = setB V 13 n a f i) (h2 : ∀ f i, lg f i → V2 f i = setB V1 14 n 0 f i) (h3 : ∀ f i, lg f i → V3 f i = setB V2 12 0 (nI (n + 1)) f i) : Agr (us (putE B n a)) (putE B n a) V3 := by
  refine (((h.w h1).w h2).w h3).mo (fun f i _ hu => ?_)
  obtain ⟨e0, e1, e2, e3⟩ := putE_N (B := B) (n := n) (a := a) (by omega)
  unfold us at hu ⊢
  rw [e0, e1, e2, e3] at hu
  rw [← hn]
  rcases us_put3 hu with hu | hu
  · exact Or.inl (Or.inl (Or.inl hu))
  · clear h h1 h2 h3 e0 e1 e2 e3
    omega
theorem ag_putK {V V1 V2 V3 V4 : Bk} {n : Nat} {a b c : Int32} (hn : n = nK B) (h6 : n < 24) (h : Agr (us B) B V) (h1 : ∀ f i, lg f i → V1 f i = setB V 16 n a f i) (h2 : ∀ f i, lg f i → V2 f i = setB V1 17 n b f i) (h3 : ∀ f i, lg f i → V3 f i = setB V2 18 n c f i) (h4 : ∀ f i, lg f i → V4 f i = setB V3 15 0 (nI (n + 1)) f i) : Agr (us (putK B n a b c)) (putK B n a b c) V4 := by
  refine ((((h.w h1).w h2).w h3).w h4).mo (fun f i _ hu => ?_)
  obtain ⟨e0, e1, e2, e3⟩ := putK_N (B := B) (n := n) (a := a) (b := b) (c := c) (by omega)
  unfold us at hu ⊢
  rw [e0, e1, e2, e3] at hu
  rw [← hn]
  rcases us_put4 hu with hu | hu
  · exact Or.inl (Or.inl (Or.inl (Or.inl hu)))
  · clear h h1 h2 h3 e0 e1 e2 e3
    omega
theorem RC.ag (h : RC B M) : Agr (us B) B (vC 0 M) := h.2.ag
theorem RM.ag (h : RM B M) : Agr (us B) B (vM (rd M 160 0)) := h.2.ag
theorem y_insertCover (hR : RC B M) (a b c d : Int32) {P : Int32 → Mm → Prop} (h : ∀ M2, Fg rB M M2 → RC (insC B a b c d).2 M2 → P (insC B a b c d).1 M2) : wp_X0_insertCover 0 a b c d M P := by
  have hc6 := hR.1.c6; have hl4 := hR.1.l4; have he8 := hR.1.e8; have hk24 := hR.1.k24
  unfold insC at h
  unfold wp_X0_insertCover
  refine y_in (tst (fun q => ?_) (fun q => ?_))
  · rw [if_neg (by rw [show inb a 1 99999 = false from q]; decide)] at h; exact h _ Fg.rf hR
  rw [if_pos (show inb a 1 99999 = true from q)] at h
  refine y_in (tst (fun q2 => ?_) (fun q2 => ?_))
  · rw [if_neg (by rw [show inb b 1 99999 = false from q2]; decide)] at h; exact h _ Fg.rf hR
  rw [if_pos (show inb b 1 99999 = true from q2)] at h
  refine y_in (tst (fun q3 => ?_) (fun q3 => ?_))
  · rw [if_neg (by rw [show inb c 0 99999 = false from q3]; decide)] at h; exact h _ Fg.rf hR
  rw [if_pos (show inb c 0 99999 = true from q3)] at h
  refine y_in (tsw (fun q4 => ?_) (fun q4 => ?_))
  rotate_left
  · rw [if_neg (by rw [show inb d 0 2 = false from q4]; decide)] at h; exact h _ Fg.rf hR
  rw [if_pos (show inb d 0 2 = true from q4)] at h
  refine ⟨by decide, ?_⟩
  rw [hR.n0, show (6 : Int32) = nI 6 from rfl]
  refine cLt (by omega) (by omega) (fun q5 => ?_) (fun q5 => ?_)
  rotate_left
  · rw [if_neg (by omega)] at h; exact h _ Fg.rf hR
  rw [if_pos q5] at h
  rw [vpI (by omega), nI_clamp (by omega)]
  have e0 := hR.n0
  refine ⟨by omega, ?_⟩
  rintro M1 rfl
  have e1 := rdk (t' := 21) (k' := 0) (i := nC B) (v := a) e0 (by decide)
  rw [e1, vpI (by omega), nI_clamp (by omega)]
  refine ⟨by omega, ?_⟩
  rintro M1 rfl
  have e2 := rdk (t' := 22) (k' := 0) (i := nC B) (v := b) e1 (by decide)
  rw [e2, vpI (by omega), nI_clamp (by omega)]
  refine ⟨by omega, ?_⟩
  rintro M1 rfl
  have e3 := rdk (t' := 23) (k' := 0) (i := nC B) (v := c) e2 (by decide)
  rw [e3, vpI (by omega), nI_clamp (by omega)]
  refine ⟨by omega, ?_⟩
  rintro M1 rfl
  have e4 := rdk (t' := 24) (k' := 0) (i := nC B) (v := d) e3 (by decide)
  rw [e4]
  rintro M1 rfl
  rw [mI6, rd_wr_s, nI_m1 (by omega)]
  have hW := hR.1.putC rfl q5 (inb_t.mp q) (inb_t.mp q2) (inb_t.mp q3) (inb_t.mp q4)
  refine h _ (fun t k j hn => ?_) ⟨hW, (ag_putC rfl q5 hR.ag (vC_a (by decide) (by decide)) (vC_a (by decide) (by decide)) (vC_a (by decide) (by decide)) (vC_a (by decide) (by decide)) (vC_s (by decide))).bk hW⟩
  unfold rB at hn
  rw [rd_wr_n (by omega), rd_wr_n (by omega), rd_wr_n (by omega), rd_wr_n (by omega), rd_wr_n (by omega)]
theorem q_puts0 (hR : RM B M) {a b c d : Int32} (q5 : nC B < 6) {P : Int32 → Mm → Prop} (h : ∀ M2, Fr [160] M M2 → Agr (us (putC B (nC B) a b c d)) (putC B (nC B) a b c d) (vM (rd M2 160 0)) → P (nI (nC B)) M2) : wp_X7_puts (8 : Int32) (0 : Int32) a b c d M P := by
  unfold wp_X7_puts
  refine ⟨(vpI (a := 0) (by omega)).mpr (by omega), ?_⟩
  rintro x2 rfl
  have c0 : (0 : Int32).toNatClampNeg = 0 := rfl
  rw [c0, hR.n0, mI0, mI6, mI7, mI8, vpI (by omega), vpI (by omega), vpI (by omega), vpI (by omega), nI_clamp (by omega), nI_clamp (by omega), nI_clamp (by omega), nI_clamp (by omega)]
  have e0 := hR.n0
  refine ⟨by omega, ?_⟩
  rintro M1 rfl
  have e1 := rdj (k' := 0) (i := 8 + 4 * nC B) (v := a) e0 (by omega)
  refine ⟨by omega, ?_⟩
  rintro M1 rfl
  have e2 := rdj (k' := 0) (i := 8 + 4 * nC B + 1) (v := b) e1 (by omega)
  refine ⟨by omega, ?_⟩
  rintro M1 rfl
  have e3 := rdj (k' := 0) (i := 8 + 4 * nC B + 2) (v := c) e2 (by omega)
  refine ⟨by omega, ?_⟩
  rintro M1 rfl
  have e4 := rdj (k' := 0) (i := 8 + 4 * nC B + 3) (v := d) e3 (by omega)
  rw [e4]
  rintro M1 rfl
  rw [mI6, rd_wr_s, nI_m1 (by omega)]
  refine h _ (fun t k j hn => ?_) ?_
  · have : t ≠ 160 := fun z => hn (by rw [z]; decide)
    rw [rd_wr_n (by omega), rd_wr_n (by omega), rd_wr_n (by omega), rd_wr_n (by omega), rd_wr_n (by omega)]
  · rw [rd_ups, rd_ups, rd_ups, rd_ups, rd_ups]
    exact ag_putC rfl q5 hR.ag (vM_w (f := 1) rfl (by unfold lg; omega)) (vM_w (f := 2) rfl (by unfold lg; omega)) (vM_w (f := 3) rfl (by unfold lg; omega)) (vM_w (f := 4) rfl (by unfold lg; omega)) (vM_w (f := 0) rfl (by unfold lg; omega))
end BOP
