/-! BOTH SIDES TOGETHER -/
abbrev Dt : Type := Bk × Hs × (Bool × Bk) × Tx × Int32 × Ys
def ClI (D : Dt) (M : Mm) : Prop := RC D.1 M ∧ CH D.2.1 M ∧ CS D.2.2.1 M ∧ CT D.2.2.2.1 M ∧ rd M 6 0 7 = D.2.2.2.2.1 ∧ CY D.2.2.2.2.2 M
def MdI (D : Dt) (M : Mm) : Prop := RM D.1 M ∧ MH D.2.1 M ∧ MS D.2.2.1 M ∧ MT D.2.2.2.1 M ∧ rd M 7 0 9 = D.2.2.2.2.1 ∧ MY D.2.2.2.2.2 M
def isM (t _k _j : Nat) : Prop := t = 7 ∨ (160 ≤ t ∧ t ≤ 174)
def noM (t _k _j : Nat) : Prop := ¬ (t = 7 ∨ (160 ≤ t ∧ t ≤ 174))
def INV (D : Dt) (M : Mm) : Prop := ClI D M ∧ MdI D M
def ansCount (B : Bk) (x : Tx) (a : Int32) : Int32 := if a = 0 then B 0 0 else if a = 1 then B 5 0 else if a = 2 then B 12 0 else if a = 3 then B 15 0 else if a = 4 then nI x.1 else if a = 5 then B 11 0 else -2
section BTH
variable {D : Dt} {B B2 : Bk} {M M2 : Mm} {H H2 : Hs} {s s2 : Bool × Bk} {x x2 : Tx} {F F2 : Int32} {y y2 : Ys}
theorem CS.kept {R : Nat → Nat → Nat → Prop} (h : CS s M) (hf : Fg R M M2) (hr : ∀ t k j, (t = 6 ∧ j = 6) ∨ (k = 1 ∧ (t = 0 ∨ 21 ≤ t ∧ t ≤ 38)) → ¬ R t k j) : CS s M2 :=
  ⟨by rw [hf _ _ _ (hr _ _ _ (Or.inl ⟨rfl, rfl⟩))]; exact h.1, fun q => ⟨(h.2 q).1, (h.2 q).2.kept hf (fun t j z => hr _ _ _ (Or.inr ⟨rfl, z⟩))⟩⟩
theorem MS.kept {R : Nat → Nat → Nat → Prop} (h : MS s M) (hf : Fg R M M2) (hr : ∀ t k j, (t = 7 ∧ j = 5) ∨ t = 162 → ¬ R t k j) : MS s M2 :=
  ⟨by rw [hf _ _ _ (hr _ _ _ (Or.inl ⟨rfl, rfl⟩))]; exact h.1, fun q => ⟨(h.2 q).1, (h.2 q).2.cg (h.2 q).1 (fun i _ => hf _ _ _ (hr _ _ _ (Or.inr rfl)))⟩⟩
theorem ClI.kept {R : Nat → Nat → Nat → Prop} (h : ClI D M) (hf : Fg R M M2) (hr : ∀ t k j, t = 0 ∨ t = 1 ∨ t = 3 ∨ t = 6 ∨ (21 ≤ t ∧ t ≤ 38) ∨ t = 80 ∨ t = 100 ∨ t = 301 → ¬ R t k j) : ClI D M2 := by
  obtain ⟨h1, h2, h3, h4, h5, h6⟩ := h
  exact ⟨h1.kept hf (fun t j z => hr _ _ _ (by omega)), h2.kept hf (fun t k j z => hr _ _ _ (by omega)), h3.kept hf (fun t k j z => hr _ _ _ (by omega)), h4.kept hf (fun t k j z => hr _ _ _ (by omega)), by rw [hf _ _ _ (hr _ _ _ (by omega))]; exact h5, h6.kept hf (fun t k j z => hr _ _ _ (by omega))⟩
theorem MdI.kept {R : Nat → Nat → Nat → Prop} (h : MdI D M) (hf : Fg R M M2) (hr : ∀ t k j, t = 7 ∨ (160 ≤ t ∧ t ≤ 163) ∨ t = 166 ∨ t = 173 ∨ t = 174 → ¬ R t k j) : MdI D M2 := by
  obtain ⟨h1, h2, h3, h4, h5, h6⟩ := h
  exact ⟨h1.keptg hf (fun k j => hr _ _ _ (by omega)), h2.kept hf (fun t k j z => hr _ _ _ (by omega)), h3.kept hf (fun t k j z => hr _ _ _ (by omega)), h4.kept hf (fun t k j z => hr _ _ _ (by omega)), by rw [hf _ _ _ (hr _ _ _ (by omega))]; exact h5, h6.kept hf (fun t k j z => hr _ _ _ (by omega))⟩
theorem ClI.ch (h : ClI (B, H, s, x, F, y) M) (hf : Fg rW M M2) (hR : RC B2 M2) (hH : CH H2 M2) : ClI (B2, H2, s, x, F, y) M2 := by
  obtain ⟨h1, h2, h3, h4, h5, h6⟩ := h
  exact ⟨hR, hH, h3.kept hf (fun t k j z => by unfold rW; omega), h4.kept hf (fun t k j z => by unfold rW; omega), by rw [hf _ _ _ (by unfold rW; omega)]; exact h5, h6.kept hf (fun t k j z => by unfold rW; omega)⟩
theorem MdI.ch (h : MdI (B, H, s, x, F, y) M) (hf : Fg qW M M2) (hR : RM B2 M2) (hH : MH H2 M2) : MdI (B2, H2, s, x, F, y) M2 := by
  obtain ⟨h1, h2, h3, h4, h5, h6⟩ := h
  exact ⟨hR, hH, h3.kept hf (fun t k j z => by unfold qW; omega), h4.kept hf (fun t k j z => by unfold qW; omega), by rw [hf _ _ _ (by unfold qW; omega)]; exact h5, h6.kept hf (fun t k j z => by unfold qW; omega)⟩
theorem fm_g (h : Fm M M2) : Fg (fun t _ _ => t = 172) M M2 := fun t k j hn => h t k j (fun z => hn (by simpa using z))
theorem ClI.fm (h : ClI D M) (hf : Fm M M2) : ClI D M2 := h.kept (fm_g hf) (fun t k j z => by omega)
theorem MdI.fm (h : MdI D M) (hf : Fm M M2) : MdI D M2 := h.kept (fm_g hf) (fun t k j z => by omega)
theorem ClI.qy (h : ClI D M) (hf : Fg rY M M2) : ClI D M2 := h.kept hf (fun t k j z => by unfold rY; omega)
theorem MdI.qy (h : MdI D M) (hf : Fg rY M M2) : MdI D M2 := h.kept hf (fun t k j z => by unfold rY; omega)
theorem ClI.qw (h : ClI D M) (hf : Fg qW M M2) : ClI D M2 := h.kept hf (fun t k j z => by unfold qW; omega)
theorem MdI.rw (h : MdI D M) (hf : Fg rW M M2) : MdI D M2 := h.kept hf (fun t k j z => by unfold rW; omega)

theorem d_cover (h : INV (B, H, s, x, F, y) M) (a w : Int32) {P : Int32 → Int32 → Mm → Prop} (k : ∀ r M2, INV (B, H, s, x, F, y) M2 → P r r M2) : wp_X6_cover a w M (fun r M1 => wp_X7_cover a w M1 (fun r2 M2 => P r r2 M2)) := by
  exact c_cover h.1.1 a w (fun M2 f2 => m_cover (h.2.qy f2).1 a w (fun M3 f3 => k _ _ ⟨(h.1.qy f2).fm f3, (h.2.qy f2).fm f3⟩))

theorem d_layer (h : INV (B, H, s, x, F, y) M) (a w : Int32) {P : Int32 → Int32 → Mm → Prop} (k : ∀ r M2, INV (B, H, s, x, F, y) M2 → P r r M2) : wp_X6_layer a w M (fun r M1 => wp_X7_layer a w M1 (fun r2 M2 => P r r2 M2)) := by
  exact c_layer h.1.1 a w (fun M2 f2 => m_layer (h.2.qy f2).1 a w (fun M3 f3 => k _ _ ⟨(h.1.qy f2).fm f3, (h.2.qy f2).fm f3⟩))

theorem d_deductible (h : INV (B, H, s, x, F, y) M) (a : Int32) {P : Int32 → Int32 → Mm → Prop} (k : ∀ r M2, INV (B, H, s, x, F, y) M2 → P r r M2) : wp_X6_deductible a M (fun r M1 => wp_X7_deductible a M1 (fun r2 M2 => P r r2 M2)) := by
  exact c_deductible h.1.1 a (m_deductible h.2.1 a (fun M3 f3 => k _ _ ⟨h.1.fm f3, h.2.fm f3⟩))

theorem d_event (h : INV (B, H, s, x, F, y) M) (a w : Int32) {P : Int32 → Int32 → Mm → Prop} (k : ∀ r M2, INV (B, H, s, x, F, y) M2 → P r r M2) : wp_X6_event a w M (fun r M1 => wp_X7_event a w M1 (fun r2 M2 => P r r2 M2)) := by
  exact c_event h.1.1 a w (fun M2 f2 => m_event (h.2.qy f2).1 a w (fun M3 f3 => k _ _ ⟨(h.1.qy f2).fm f3, (h.2.qy f2).fm f3⟩))

theorem d_eventAt (h : INV (B, H, s, x, F, y) M) (a : Int32) {P : Int32 → Int32 → Mm → Prop} (k : ∀ r M2, INV (B, H, s, x, F, y) M2 → P r r M2) : wp_X6_eventAt a M (fun r M1 => wp_X7_eventAt a M1 (fun r2 M2 => P r r2 M2)) := by
  exact c_eventAt h.1.1 a (fun M2 f2 => m_eventAt (h.2.qy f2).1 a (fun M3 f3 => k _ _ ⟨(h.1.qy f2).fm f3, (h.2.qy f2).fm f3⟩))

theorem d_claim (h : INV (B, H, s, x, F, y) M) (a w : Int32) {P : Int32 → Int32 → Mm → Prop} (k : ∀ r M2, INV (B, H, s, x, F, y) M2 → P r r M2) : wp_X6_claim a w M (fun r M1 => wp_X7_claim a w M1 (fun r2 M2 => P r r2 M2)) := by
  exact c_claim h.1.1 a w (fun M2 f2 => m_claim (h.2.qy f2).1 a w (fun M3 f3 => k _ _ ⟨(h.1.qy f2).fm f3, (h.2.qy f2).fm f3⟩))

theorem d_gross (h : INV (B, H, s, x, F, y) M) (a b : Int32) {P : Int32 → Int32 → Mm → Prop} (k : ∀ r M2, INV (B, H, s, x, F, y) M2 → P r r M2) : wp_X6_gross a b M (fun r M1 => wp_X7_gross a b M1 (fun r2 M2 => P r r2 M2)) := by
  exact c_gross h.1.1 a b (fun M2 f2 => m_gross (h.2.qy f2).1 a b (fun M3 f3 => k _ _ ⟨(h.1.qy f2).fm f3, (h.2.qy f2).fm f3⟩))

theorem d_deducted (h : INV (B, H, s, x, F, y) M) (a b : Int32) {P : Int32 → Int32 → Mm → Prop} (k : ∀ r M2, INV (B, H, s, x, F, y) M2 → P r r M2) : wp_X6_deducted a b M (fun r M1 => wp_X7_deducted a b M1 (fun r2 M2 => P r r2 M2)) := by
  exact c_deducted h.1.1 a b (fun M2 f2 => m_deducted (h.2.qy f2).1 a b (fun M3 f3 => k _ _ ⟨(h.1.qy f2).fm f3, (h.2.qy f2).fm f3⟩))

theorem d_paid (h : INV (B, H, s, x, F, y) M) (a b : Int32) {P : Int32 → Int32 → Mm → Prop} (k : ∀ r M2, INV (B, H, s, x, F, y) M2 → P r r M2) : wp_X6_paid a b M (fun r M1 => wp_X7_paid a b M1 (fun r2 M2 => P r r2 M2)) := by
  exact c_paid h.1.1 a b (fun M2 f2 => m_paid (h.2.qy f2).1 a b (fun M3 f3 => k _ _ ⟨(h.1.qy f2).fm f3, (h.2.qy f2).fm f3⟩))

theorem d_leftBefore (h : INV (B, H, s, x, F, y) M) (a b : Int32) {P : Int32 → Int32 → Mm → Prop} (k : ∀ r M2, INV (B, H, s, x, F, y) M2 → P r r M2) : wp_X6_leftBefore a b M (fun r M1 => wp_X7_leftBefore a b M1 (fun r2 M2 => P r r2 M2)) := by
  exact c_leftBefore h.1.1 a b (fun M2 f2 => m_leftBefore (h.2.qy f2).1 a b (fun M3 f3 => k _ _ ⟨(h.1.qy f2).fm f3, (h.2.qy f2).fm f3⟩))

theorem d_borne (h : INV (B, H, s, x, F, y) M) (a b : Int32) {P : Int32 → Int32 → Mm → Prop} (k : ∀ r M2, INV (B, H, s, x, F, y) M2 → P r r M2) : wp_X6_borne a b M (fun r M1 => wp_X7_borne a b M1 (fun r2 M2 => P r r2 M2)) := by
  exact c_borne h.1.1 a b (fun M2 f2 => m_borne (h.2.qy f2).1 a b (fun M3 f3 => k _ _ ⟨(h.1.qy f2).fm f3, (h.2.qy f2).fm f3⟩))

theorem d_returned (h : INV (B, H, s, x, F, y) M) (a b : Int32) {P : Int32 → Int32 → Mm → Prop} (k : ∀ r M2, INV (B, H, s, x, F, y) M2 → P r r M2) : wp_X6_returned a b M (fun r M1 => wp_X7_returned a b M1 (fun r2 M2 => P r r2 M2)) := by
  exact c_returned h.1.1 a b (fun M2 f2 => m_returned (h.2.qy f2).1 a b (fun M3 f3 => k _ _ ⟨(h.1.qy f2).fm f3, (h.2.qy f2).fm f3⟩))

theorem d_place (h : INV (B, H, s, x, F, y) M) (a : Int32) {P : Int32 → Int32 → Mm → Prop} (k : ∀ r M2, INV (B, H, s, x, F, y) M2 → P r r M2) : wp_X6_place a M (fun r M1 => wp_X7_place a M1 (fun r2 M2 => P r r2 M2)) := by
  exact c_place h.1.1 a (fun M2 f2 => m_place (h.2.qy f2).1 a (fun M3 f3 => k _ _ ⟨(h.1.qy f2).fm f3, (h.2.qy f2).fm f3⟩))

theorem d_worst (h : INV (B, H, s, x, F, y) M) {P : Int32 → Int32 → Mm → Prop} (k : ∀ r M2, INV (B, H, s, x, F, y) M2 → P r r M2) : wp_X6_worst M (fun r M1 => wp_X7_worst M1 (fun r2 M2 => P r r2 M2)) := by
  exact c_worst h.1.1  (fun M2 f2 => m_worst (h.2.qy f2).1  (fun M3 f3 => k _ _ ⟨(h.1.qy f2).fm f3, (h.2.qy f2).fm f3⟩))

theorem d_account (h : INV (B, H, s, x, F, y) M) (w : Int32) {P : Int32 → Int32 → Mm → Prop} (k : ∀ r M2, INV (B, H, s, x, F, y) M2 → P r r M2) : wp_X6_account w M (fun r M1 => wp_X7_account w M1 (fun r2 M2 => P r r2 M2)) := by
  exact c_account h.1.1 w (fun M2 f2 => m_account (h.2.qy f2).1 w (fun M3 f3 => k _ _ ⟨(h.1.qy f2).fm f3, (h.2.qy f2).fm f3⟩))

theorem d_result (h : INV (B, H, s, x, F, y) M) {P : Int32 → Int32 → Mm → Prop} (k : ∀ r M2, INV (B, H, s, x, F, y) M2 → P r r M2) : wp_X6_result M (fun r M1 => wp_X7_result M1 (fun r2 M2 => P r r2 M2)) := by
  exact c_result h.1.1  (fun M2 f2 => m_result (h.2.qy f2).1  (fun M3 f3 => k _ _ ⟨(h.1.qy f2).fm f3, (h.2.qy f2).fm f3⟩))

theorem d_ratioBits (h : INV (B, H, s, x, F, y) M) {P : Int32 → Int32 → Mm → Prop} (k : ∀ r M2, INV (B, H, s, x, F, y) M2 → P r r M2) : wp_X6_ratioBits M (fun r M1 => wp_X7_ratioBits M1 (fun r2 M2 => P r r2 M2)) := by
  exact c_ratioBits h.1.1  (fun M2 f2 => m_ratioBits (h.2.qy f2).1  (fun M3 f3 => k _ _ ⟨(h.1.qy f2).fm f3, (h.2.qy f2).fm f3⟩))

theorem d_isBalanced (h : INV (B, H, s, x, F, y) M) {P : Int32 → Int32 → Mm → Prop} (k : ∀ r M2, INV (B, H, s, x, F, y) M2 → P r r M2) : wp_X6_isBalanced M (fun r M1 => wp_X7_isBalanced M1 (fun r2 M2 => P r r2 M2)) := by
  exact c_isBalanced h.1.1  (fun M2 f2 => m_isBalanced (h.2.qy f2).1  (fun M3 f3 => k _ _ ⟨(h.1.qy f2).fm f3, (h.2.qy f2).fm f3⟩))

theorem d_paidIf (h : INV (B, H, s, x, F, y) M) (a d : Int32) {P : Int32 → Int32 → Mm → Prop} (k : ∀ r M2, INV (B, H, s, x, F, y) M2 → P r r M2) : wp_X6_paidIf a d M (fun r M1 => wp_X7_paidIf a d M1 (fun r2 M2 => P r r2 M2)) := by
  exact c_paidIf h.1.1 a d (fun M2 f2 => m_paidIf (h.2.qy f2).1 a d (fun M3 f3 => k _ _ ⟨(h.1.qy f2).fm f3, (h.2.qy f2).fm f3⟩))

theorem d_leastLimit (h : INV (B, H, s, x, F, y) M) (a : Int32) {P : Int32 → Int32 → Mm → Prop} (k : ∀ r M2, INV (B, H, s, x, F, y) M2 → P r r M2) : wp_X6_leastLimit a M (fun r M1 => wp_X7_leastLimit a M1 (fun r2 M2 => P r r2 M2)) := by
  exact c_leastLimit h.1.1 a (fun M2 f2 => m_leastLimit (h.2.qy f2).1 a (fun M3 f3 => k _ _ ⟨(h.1.qy f2).fm f3, (h.2.qy f2).fm f3⟩))

theorem d_addCover (h : INV (B, H, s, x, F, y) M) (a b c d : Int32) {P : Int32 → Int32 → Mm → Prop} (k : ∀ r M2, INV ((insC B a b c d).2, updH (insC B a b c d).1 H B, s, x, F, y) M2 → P r r M2) : wp_X6_addCover a b c d M (fun r M1 => wp_X7_addCover a b c d M1 (fun r2 M2 => P r r2 M2)) := by
  exact c_addCover h.1.1 h.1.2.1 a b c d (fun M2 f2 g1 g2 => m_addCover (h.2.rw f2).1 (h.2.rw f2).2.1 a b c d (fun M3 f3 e1 e2 => k _ _ ⟨(h.1.ch f2 g1 g2).qw f3, (h.2.rw f2).ch f3 e1 e2⟩))

theorem d_addLayer (h : INV (B, H, s, x, F, y) M) (a b c d : Int32) {P : Int32 → Int32 → Mm → Prop} (k : ∀ r M2, INV ((insL B a b c d).2, updH (insL B a b c d).1 H B, s, x, F, y) M2 → P r r M2) : wp_X6_addLayer a b c d M (fun r M1 => wp_X7_addLayer a b c d M1 (fun r2 M2 => P r r2 M2)) := by
  exact c_addLayer h.1.1 h.1.2.1 a b c d (fun M2 f2 g1 g2 => m_addLayer (h.2.rw f2).1 (h.2.rw f2).2.1 a b c d (fun M3 f3 e1 e2 => k _ _ ⟨(h.1.ch f2 g1 g2).qw f3, (h.2.rw f2).ch f3 e1 e2⟩))

theorem d_addEvent (h : INV (B, H, s, x, F, y) M) (a : Int32) {P : Int32 → Int32 → Mm → Prop} (k : ∀ r M2, INV ((insE B a).2, updH (insE B a).1 H B, s, x, F, y) M2 → P r r M2) : wp_X6_addEvent a M (fun r M1 => wp_X7_addEvent a M1 (fun r2 M2 => P r r2 M2)) := by
  exact c_addEvent h.1.1 h.1.2.1 a (fun M2 f2 g1 g2 => m_addEvent (h.2.rw f2).1 (h.2.rw f2).2.1 a (fun M3 f3 e1 e2 => k _ _ ⟨(h.1.ch f2 g1 g2).qw f3, (h.2.rw f2).ch f3 e1 e2⟩))

theorem d_addClaim (h : INV (B, H, s, x, F, y) M) (a b c : Int32) {P : Int32 → Int32 → Mm → Prop} (k : ∀ r M2, INV ((insK B a b c).2, updH (insK B a b c).1 H B, s, x, F, y) M2 → P r r M2) : wp_X6_addClaim a b c M (fun r M1 => wp_X7_addClaim a b c M1 (fun r2 M2 => P r r2 M2)) := by
  exact c_addClaim h.1.1 h.1.2.1 a b c (fun M2 f2 g1 g2 => m_addClaim (h.2.rw f2).1 (h.2.rw f2).2.1 a b c (fun M3 f3 e1 e2 => k _ _ ⟨(h.1.ch f2 g1 g2).qw f3, (h.2.rw f2).ch f3 e1 e2⟩))

theorem d_removeClaim (h : INV (B, H, s, x, F, y) M) (a : Int32) {P : Int32 → Int32 → Mm → Prop} (k : ∀ r M2, INV ((rmK B a).2, updH (rmK B a).1 H B, s, x, F, y) M2 → P r r M2) : wp_X6_removeClaim a M (fun r M1 => wp_X7_removeClaim a M1 (fun r2 M2 => P r r2 M2)) := by
  exact c_removeClaim h.1.1 h.1.2.1 a (fun M2 f2 g1 g2 => m_removeClaim (h.2.rw f2).1 (h.2.rw f2).2.1 a (fun M3 f3 e1 e2 => k _ _ ⟨(h.1.ch f2 g1 g2).qw f3, (h.2.rw f2).ch f3 e1 e2⟩))

theorem d_setDay (h : INV (B, H, s, x, F, y) M) (a d : Int32) {P : Int32 → Int32 → Mm → Prop} (k : ∀ r M2, INV ((chDay B a d).2, updH (chDay B a d).1 H B, s, x, F, y) M2 → P r r M2) : wp_X6_setDay a d M (fun r M1 => wp_X7_setDay a d M1 (fun r2 M2 => P r r2 M2)) := by
  exact c_setDay h.1.1 h.1.2.1 a d (fun M2 f2 g1 g2 => m_setDay (h.2.rw f2).1 (h.2.rw f2).2.1 a d (fun M3 f3 e1 e2 => k _ _ ⟨(h.1.ch f2 g1 g2).qw f3, (h.2.rw f2).ch f3 e1 e2⟩))

theorem d_setDeductible (h : INV (B, H, s, x, F, y) M) (a d : Int32) {P : Int32 → Int32 → Mm → Prop} (k : ∀ r M2, INV ((chDed B a d).2, updH (chDed B a d).1 H B, s, x, F, y) M2 → P r r M2) : wp_X6_setDeductible a d M (fun r M1 => wp_X7_setDeductible a d M1 (fun r2 M2 => P r r2 M2)) := by
  exact c_setDeductible h.1.1 h.1.2.1 a d (fun M2 f2 g1 g2 => m_setDeductible (h.2.rw f2).1 (h.2.rw f2).2.1 a d (fun M3 f3 e1 e2 => k _ _ ⟨(h.1.ch f2 g1 g2).qw f3, (h.2.rw f2).ch f3 e1 e2⟩))

theorem d_setIndex (h : INV (B, H, s, x, F, y) M) (d : Int32) {P : Int32 → Int32 → Mm → Prop} (k : ∀ r M2, INV ((chRate B d).2, updH (chRate B d).1 H B, s, x, F, y) M2 → P r r M2) : wp_X6_setIndex d M (fun r M1 => wp_X7_setIndex d M1 (fun r2 M2 => P r r2 M2)) := by
  exact c_setIndex h.1.1 h.1.2.1 d (fun M2 f2 g1 g2 => m_setIndex (h.2.rw f2).1 (h.2.rw f2).2.1 d (fun M3 f3 e1 e2 => k _ _ ⟨(h.1.ch f2 g1 g2).qw f3, (h.2.rw f2).ch f3 e1 e2⟩))

theorem d_setRecovery (h : INV (B, H, s, x, F, y) M) (a d : Int32) {P : Int32 → Int32 → Mm → Prop} (k : ∀ r M2, INV ((chRec B a d).2, updH (chRec B a d).1 H B, s, x, F, y) M2 → P r r M2) : wp_X6_setRecovery a d M (fun r M1 => wp_X7_setRecovery a d M1 (fun r2 M2 => P r r2 M2)) := by
  exact c_setRecovery h.1.1 h.1.2.1 a d (fun M2 f2 g1 g2 => m_setRecovery (h.2.rw f2).1 (h.2.rw f2).2.1 a d (fun M3 f3 e1 e2 => k _ _ ⟨(h.1.ch f2 g1 g2).qw f3, (h.2.rw f2).ch f3 e1 e2⟩))

theorem d_use (h : INV (B, H, s, x, F, y) M) (a b : Int32) {P : Int32 → Int32 → Mm → Prop} (k : ∀ r M2, INV ((useA B y a b).2, updH (useA B y a b).1 H B, s, x, F, y) M2 → P r r M2) : wp_X6_use a b M (fun r M1 => wp_X7_use a b M1 (fun r2 M2 => P r r2 M2)) := by
  exact c_use h.1.1 h.1.2.1 h.1.2.2.2.2.2 a b (fun M2 f2 g1 g2 => m_use (h.2.rw f2).1 (h.2.rw f2).2.1 (h.2.rw f2).2.2.2.2.2 a b (fun M3 f3 e1 e2 => k _ _ ⟨(h.1.ch f2 g1 g2).qw f3, (h.2.rw f2).ch f3 e1 e2⟩))

theorem d_undo (h : INV (B, H, s, x, F, y) M) {P : Int32 → Int32 → Mm → Prop} (k : ∀ r M2, INV ((unD H B).2.1, (unD H B).2.2, s, x, F, y) M2 → P r r M2) : wp_X6_undo M (fun r M1 => wp_X7_undo M1 (fun r2 M2 => P r r2 M2)) := by
  exact c_undo h.1.1 h.1.2.1 (fun M2 f2 g1 g2 => m_undo (h.2.rw f2).1 (h.2.rw f2).2.1 (fun M3 f3 e1 e2 => k _ _ ⟨(h.1.ch f2 g1 g2).qw f3, (h.2.rw f2).ch f3 e1 e2⟩))

theorem d_restore (h : INV (B, H, s, x, F, y) M) {P : Int32 → Int32 → Mm → Prop} (k : ∀ r M2, INV ((reD s H B).2.1, (reD s H B).2.2, s, x, F, y) M2 → P r r M2) : wp_X6_restore M (fun r M1 => wp_X7_restore M1 (fun r2 M2 => P r r2 M2)) := by
  exact c_restore h.1.1 h.1.2.1 h.1.2.2.1 (fun M2 f2 g1 g2 => m_restore (h.2.rw f2).1 (h.2.rw f2).2.1 (h.2.rw f2).2.2.1 (fun M3 f3 e1 e2 => k _ _ ⟨(h.1.ch f2 g1 g2).qw f3, (h.2.rw f2).ch f3 e1 e2⟩))

theorem d_save (h : INV (B, H, s, x, F, y) M) {P : Int32 → Int32 → Mm → Prop} (k : ∀ r M2, INV (B, H, (true, B), x, F, y) M2 → P r r M2) : wp_X6_save M (fun r M1 => wp_X7_save M1 (fun r2 M2 => P r r2 M2)) := by
  obtain ⟨⟨h1, h2, h3, h4, h5, h6⟩, hM⟩ := h
  refine c_save h1 (fun M2 f2 g => ?_)
  have hM2 : MdI (B, H, s, x, F, y) M2 := hM.kept f2 (fun t k j z => by unfold rS; omega)
  have hC2 : ClI (B, H, (true, B), x, F, y) M2 := ⟨h1.kept f2 (fun t j z => by unfold rS; omega), h2.kept f2 (fun t k j z => by unfold rS; omega), g, h4.kept f2 (fun t k j z => by unfold rS; omega), by rw [f2 _ _ _ (by unfold rS; omega)]; exact h5, h6.kept f2 (fun t k j z => by unfold rS; omega)⟩
  obtain ⟨m1, m2, m3, m4, m5, m6⟩ := hM2
  refine m_save m1 (fun M3 f3 g3 => k _ _ ⟨hC2.kept f3 (fun t k j z => by unfold qS; omega), m1.keptg f3 (fun k j => by unfold qS; omega), m2.kept f3 (fun t k j z => by unfold qS; omega), g3, m4.kept f3 (fun t k j z => by unfold qS; omega), by rw [f3 _ _ _ (by unfold qS; omega)]; exact m5, m6.kept f3 (fun t k j z => by unfold qS; omega)⟩)

theorem d_append (h : INV (B, H, s, x, F, y) M) (a : Int32) {P : Int32 → Int32 → Mm → Prop} (k : ∀ r M2, INV (B, H, s, (appA x a).2, F, y) M2 → P r r M2) : wp_X6_append a M (fun r M1 => wp_X7_append a M1 (fun r2 M2 => P r r2 M2)) := by
  obtain ⟨⟨h1, h2, h3, h4, h5, h6⟩, hM⟩ := h
  refine c_append h4 a (fun M2 f2 g => ?_)
  have hM2 : MdI (B, H, s, x, F, y) M2 := hM.kept f2 (fun t k j z => by unfold rT; omega)
  have hC2 : ClI (B, H, s, (appA x a).2, F, y) M2 := ⟨h1.kept f2 (fun t j z => by unfold rT; omega), h2.kept f2 (fun t k j z => by unfold rT; omega), h3.kept f2 (fun t k j z => by unfold rT; omega), g, by rw [f2 _ _ _ (by unfold rT; omega)]; exact h5, h6.kept f2 (fun t k j z => by unfold rT; omega)⟩
  obtain ⟨m1, m2, m3, m4, m5, m6⟩ := hM2
  refine m_append m4 a (fun M3 f3 g3 => k _ _ ⟨hC2.kept f3 (fun t k j z => by unfold qT; omega), m1.keptg f3 (fun k j => by unfold qT; omega), m2.kept f3 (fun t k j z => by unfold qT; omega), m3.kept f3 (fun t k j z => by unfold qT; omega), g3, by rw [f3 _ _ _ (by unfold qT; omega)]; exact m5, m6.kept f3 (fun t k j z => by unfold qT; omega)⟩)

theorem d_file (h : INV (B, H, s, x, F, y) M) (a b c d : Int32) {P : Int32 → Int32 → Mm → Prop} (k : ∀ r M2, INV (B, H, s, x, F, (fileA B y a b c d).2) M2 → P r r M2) : wp_X6_file a b c d M (fun r M1 => wp_X7_file a b c d M1 (fun r2 M2 => P r r2 M2)) := by
  obtain ⟨⟨h1, h2, h3, h4, h5, h6⟩, hM⟩ := h
  refine c_file h1 h6 a b c d (fun M2 f2 g => ?_)
  have hM2 : MdI (B, H, s, x, F, y) M2 := hM.kept f2 (fun t k j z => by unfold rF; omega)
  have hC2 : ClI (B, H, s, x, F, (fileA B y a b c d).2) M2 := ⟨h1.kept f2 (fun t j z => by unfold rF; omega), h2.kept f2 (fun t k j z => by unfold rF; omega), h3.kept f2 (fun t k j z => by unfold rF; omega), h4.kept f2 (fun t k j z => by unfold rF; omega), by rw [f2 _ _ _ (by unfold rF; omega)]; exact h5, g⟩
  obtain ⟨m1, m2, m3, m4, m5, m6⟩ := hM2
  refine m_file m1 m6 a b c d (fun M3 f3 g3 => k _ _ ⟨hC2.kept f3 (fun t k j z => by unfold qF; omega), m1.keptg f3 (fun k j => by unfold qF; omega), m2.kept f3 (fun t k j z => by unfold qF; omega), m3.kept f3 (fun t k j z => by unfold qF; omega), m4.kept f3 (fun t k j z => by unfold qF; omega), by rw [f3 _ _ _ (by unfold qF; omega)]; exact m5, g3⟩)

theorem d_read (h : INV (B, H, s, x, F, y) M) {P : Int32 → Int32 → Mm → Prop} (k : ∀ r M2, INV ((readA x B H).2.1, (readA x B H).2.2, s, (0, x.2), (readA x B H).1.2, y) M2 → P r r M2) : wp_X6_read M (fun r M1 => wp_X7_read M1 (fun r2 M2 => P r r2 M2)) := by
  obtain ⟨⟨h1, h2, h3, h4, h5, h6⟩, hM⟩ := h
  refine c_read h1 h2 h4 (fun M2 f2 g1 g2 g3 g4 => ?_)
  have hM2 : MdI (B, H, s, x, F, y) M2 := hM.kept f2 (fun t k j z => by unfold rR rW rX; omega)
  have hC2 : ClI ((readA x B H).2.1, (readA x B H).2.2, s, (0, x.2), (readA x B H).1.2, y) M2 := ⟨g1, g2, h3.kept f2 (fun t k j z => by unfold rR rW rX; omega), g3, g4, h6.kept f2 (fun t k j z => by unfold rR rW rX; omega)⟩
  obtain ⟨m1, m2, m3, m4, m5, m6⟩ := hM2
  refine m_read m1 m2 m4 (fun M3 f3 e1 e2 e3 e4 => k _ _ ⟨hC2.kept f3 (fun t k j z => by unfold qR qW qE; omega), e1, e2, m3.kept f3 (fun t k j z => by unfold qR qW qE; omega), e3, e4, m6.kept f3 (fun t k j z => by unfold qR qW qE; omega)⟩)

theorem d_filed (h : INV (B, H, s, x, F, y) M) (a b : Int32) {P : Int32 → Int32 → Mm → Prop} (k : ∀ r M2, INV (B, H, s, x, F, y) M2 → P r r M2) : wp_X6_filed a b M (fun r M1 => wp_X7_filed a b M1 (fun r2 M2 => P r r2 M2)) := by
  exact c_filed h.1.2.2.2.2.2 a b (m_filed h.2.2.2.2.2.2 a b (k _ _ h))

theorem d_faultPosition (h : INV (B, H, s, x, F, y) M) {P : Int32 → Int32 → Mm → Prop} (k : ∀ r M2, INV (B, H, s, x, F, y) M2 → P r r M2) : wp_X6_faultPosition M (fun r M1 => wp_X7_faultPosition M1 (fun r2 M2 => P r r2 M2)) := by
  unfold wp_X6_faultPosition wp_X7_faultPosition
  show P (rd M 6 0 7) (rd M 7 0 9) M
  rw [h.1.2.2.2.2.1, h.2.2.2.2.2.1]
  exact k _ _ h

theorem d_count (h : INV (B, H, s, x, F, y) M) (a : Int32) {P : Int32 → Int32 → Mm → Prop} (k : ∀ r M2, INV (B, H, s, x, F, y) M2 → P r r M2) : wp_X6_count a M (fun r M1 => wp_X7_count a M1 (fun r2 M2 => P r r2 M2)) := by
  unfold wp_X6_count wp_X7_count
  have key : ∀ v w : Int32, v = w → P v w M := fun v w e => by subst e; exact k _ _ h
  refine ⟨fun z => ?_, fun z => ?_, fun z => ?_, fun z => ?_, fun z => ?_, fun z => ?_, fun n0 n1 n2 n3 n4 n5 => ?_⟩
  rotate_right
  · exact ⟨fun w => absurd w n0, fun w => absurd w n1, fun w => absurd w n2, fun w => absurd w n3, fun w => absurd w n4, fun w => absurd w n5, fun _ _ _ _ _ _ => key _ _ rfl⟩
  · exact ⟨fun _ => key _ _ (h.1.1.n0.trans h.2.1.n0.symm), fun w => absurd (z.symm.trans w) (by decide), fun w => absurd (z.symm.trans w) (by decide), fun w => absurd (z.symm.trans w) (by decide), fun w => absurd (z.symm.trans w) (by decide), fun w => absurd (z.symm.trans w) (by decide), fun n0 n1 n2 n3 n4 n5 => absurd z n0⟩
  · exact ⟨fun w => absurd (z.symm.trans w) (by decide), fun _ => key _ _ (h.1.1.n5.trans h.2.1.n1.symm), fun w => absurd (z.symm.trans w) (by decide), fun w => absurd (z.symm.trans w) (by decide), fun w => absurd (z.symm.trans w) (by decide), fun w => absurd (z.symm.trans w) (by decide), fun n0 n1 n2 n3 n4 n5 => absurd z n1⟩
  · exact ⟨fun w => absurd (z.symm.trans w) (by decide), fun w => absurd (z.symm.trans w) (by decide), fun _ => key _ _ (h.1.1.n12.trans h.2.1.n2.symm), fun w => absurd (z.symm.trans w) (by decide), fun w => absurd (z.symm.trans w) (by decide), fun w => absurd (z.symm.trans w) (by decide), fun n0 n1 n2 n3 n4 n5 => absurd z n2⟩
  · exact ⟨fun w => absurd (z.symm.trans w) (by decide), fun w => absurd (z.symm.trans w) (by decide), fun w => absurd (z.symm.trans w) (by decide), fun _ => key _ _ (h.1.1.n15.trans h.2.1.n3.symm), fun w => absurd (z.symm.trans w) (by decide), fun w => absurd (z.symm.trans w) (by decide), fun n0 n1 n2 n3 n4 n5 => absurd z n3⟩
  · exact ⟨fun w => absurd (z.symm.trans w) (by decide), fun w => absurd (z.symm.trans w) (by decide), fun w => absurd (z.symm.trans w) (by decide), fun w => absurd (z.symm.trans w) (by decide), fun _ => key _ _ (h.1.2.2.2.1.2.1.trans h.2.2.2.2.1.2.1.symm), fun w => absurd (z.symm.trans w) (by decide), fun n0 n1 n2 n3 n4 n5 => absurd z n4⟩
  · exact ⟨fun w => absurd (z.symm.trans w) (by decide), fun w => absurd (z.symm.trans w) (by decide), fun w => absurd (z.symm.trans w) (by decide), fun w => absurd (z.symm.trans w) (by decide), fun w => absurd (z.symm.trans w) (by decide), fun _ => key _ _ (h.1.1.n11.trans h.2.1.n4.symm), fun n0 n1 n2 n3 n4 n5 => absurd z n5⟩
end BTH
