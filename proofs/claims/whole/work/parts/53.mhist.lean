/-! THE MODEL: its history and changing calls -/
def MH (h : Hs) (M : Mm) : Prop := rd M 7 0 4 = nI h.1 ∧ h.1 ≤ 6 ∧ ∀ j, j < h.1 → WF (h.2 j) ∧ RowR (h.2 j) (fun i => rd M 161 0 (136 * j + i))
def qW (t _k j : Nat) : Prop := t = 160 ∨ t = 161 ∨ t = 163 ∨ t = 172 ∨ (t = 7 ∧ j = 4)
theorem ia160 : IA (160, 0) := ⟨mw160 0 (by decide), kt160⟩
theorem ia161 : IA (161, 0) := ⟨mw161 0 (by decide), kt161⟩
theorem ia162 : IA (162, 0) := ⟨mw162 0 (by decide), kt162⟩
theorem ia163 : IA (163, 0) := ⟨mw163 0 (by decide), kt163⟩
section MHI
variable {B : Bk} {M : Mm} {H : Hs}
theorem RowR.cg {r r' : Nat → Int32} (hW : WF B) (h : RowR B r) (he : ∀ i, i < 136 → r' i = r i) : RowR B r' := rowR_iff.mpr (fun f i u => by
  show r' (pl f i) = B f i
  rw [he _ (pl_lt (us_lg hW u))]
  exact rowR_iff.mp h f i u)
theorem MH.kept {M2 : Mm} {R : Nat → Nat → Nat → Prop} (h : MH H M) (hf : Fg R M M2) (hr : ∀ t k j, t = 161 ∨ (t = 7 ∧ j = 4) → ¬ R t k j) : MH H M2 := by
  obtain ⟨h1, h2, h3⟩ := h
  refine ⟨by rw [hf _ _ _ (hr _ _ _ (by omega))]; exact h1, h2, fun j hj => ⟨(h3 j hj).1, (h3 j hj).2.cg (h3 j hj).1 (fun i _ => hf _ _ _ (hr _ _ _ (by omega)))⟩⟩
theorem RM.keptg {M2 : Mm} {R : Nat → Nat → Nat → Prop} (h : RM B M) (hf : Fg R M M2) (hr : ∀ k j, ¬ R 160 k j) : RM B M2 := ⟨h.1, h.2.cg h.1 (fun i _ => hf _ _ _ (hr _ _))⟩
theorem q_keeps (hR : RM B M) {P : Mm → Prop} (h : ∀ M2, Fg (fun t _ _ => t = 163) M M2 → RowR B (rd M2 163 0) → P M2) : wp_X7_keeps M P := by
  unfold wp_X7_keeps
  refine q_copies (p1 := 0) (p2 := 0) ia160 ia163 (by rw [lt160]; omega) (by rw [lt163]; omega) (by rw [lt160]; omega) (by rw [lt163]; omega) (Or.inl (by decide)) (fun M2 c => ?_)
  refine h _ (fun t k j q => (c t k j).2 (fun z => q z.1)) (hR.2.cg hR.1 (fun i hi => ?_))
  rw [(c 163 0 i).1 (by omega)]
  congr 1
  omega
theorem q_push {B0 : Bk} {n : Nat} {G : Nat → Bk} (hn : n ≤ 5) (hG : ∀ j, j < n → WF (G j) ∧ RowR (G j) (fun i => rd M 161 0 (136 * j + i))) (h4 : rd M 7 0 4 = nI n) (hW : WF B0) (hk : RowR B0 (rd M 163 0)) {P : Mm → Prop} (h : ∀ M2, Fg (fun t _ j => t = 161 ∨ (t = 7 ∧ j = 4)) M M2 → MH (n + 1, fun j => if j = n then B0 else G j) M2 → P M2) : wp_X7_copies (163, 0) (0 : Int32) (161, 0) ((136 : Int32) * (rd M 7 0 4)) M (fun (M4 : Mm) => (∀ M5 : Mm, M5 = wr M4 7 0 4 ((rd M4 7 0 4) + (1 : Int32)) → P M5)) := by
  rw [h4, show (136 : Int32) = nI 136 from rfl, pk_mul]
  refine q_copies (p1 := 0) (p2 := 136 * n) ia163 ia161 (by rw [lt163]; omega) (by rw [lt161]; omega) (by rw [lt163]; omega) (by rw [lt161]; omega) (Or.inl (by decide)) (fun M2 c => ?_)
  rintro M5 rfl
  have g4 : rd M2 7 0 4 = nI n := by rw [(c 7 0 4).2 (by omega)]; exact h4
  rw [g4, mI6]
  refine h _ (fun t k j q => ?_) ⟨rd_wr_s, by show n + 1 ≤ 6; omega, fun j hj => ?_⟩
  · rw [rd_wr_n (by omega)]
    exact (c t k j).2 (fun z => q (Or.inl z.1))
  · have hj : j < n + 1 := hj
    show WF (if j = n then B0 else G j) ∧ RowR (if j = n then B0 else G j) _
    by_cases q3 : j = n
    · rw [if_pos q3]
      refine ⟨hW, hk.cg hW (fun i hi => ?_)⟩
      rw [rd_wr_n (by omega), (c 161 0 _).1 (by omega), q3]
      congr 1
      omega
    · rw [if_neg q3]
      have hg := hG j (by omega)
      refine ⟨hg.1, hg.2.cg hg.1 (fun i hi => ?_)⟩
      rw [rd_wr_n (by omega), (c 161 0 _).2 (by omega)]
theorem MH.cg {n : Nat} {G G' : Nat → Bk} (h : MH (n, G) M) (he : ∀ j, j < n → G' j = G j) : MH (n, G') M := by
  obtain ⟨h1, h2, h3⟩ := h
  refine ⟨h1, h2, fun j hj => ?_⟩
  show WF (G' j) ∧ RowR (G' j) _
  rw [he j hj]
  exact h3 j hj
theorem q_changes {B0 : Bk} (hH : MH H M) (hW : WF B0) (hk : RowR B0 (rd M 163 0)) {P : Mm → Prop} (h : ∀ M2, Fg (fun t _ j => t = 161 ∨ (t = 7 ∧ j = 4)) M M2 → MH (pushH H B0) M2 → P M2) : wp_X7_changes M P := by
  obtain ⟨h1, h2, h3⟩ := hH
  unfold wp_X7_changes
  unfold jn
  rw [h1, show (6 : Int32) = nI 6 from rfl]
  refine cNe (by omega) (by omega) (fun q => ?_) (fun q => ?_)
  · exact q_push (by omega) h3 h1 hW hk (fun M2 f2 hM => h _ f2 (by rw [pushH_1 (by omega)]; exact hM))
  · refine lq2_i (fun x M' => ∃ j, 1 ≤ j ∧ j ≤ 6 ∧ x = nI j ∧ ∀ t k i, (t = 161 ∧ k = 0 ∧ i < 136 * (j - 1) → rd M' t k i = rd M 161 0 (i + 136)) ∧ (¬ (t = 161 ∧ k = 0 ∧ i < 136 * (j - 1)) → rd M' t k i = rd M t k i)) (fun x _ => 6 - x.toNatClampNeg) ?_ _ _ ⟨1, by omega, by omega, rfl, fun t k i => ⟨fun z => by omega, fun _ => rfl⟩⟩
    rintro x M' ⟨j, hj1, hj, rfl, hV⟩ self hself
    refine cLe (by omega) (by omega) (fun q2 => ?_) (fun q2 => ?_)
    · have : j = 6 := by omega
      subst this
      rintro M12 rfl
      rw [(hV 7 0 4).2 (by omega), h1, q, nI_p (by omega) (by omega)]
      have hF : Fg (fun t _ i => t = 161 ∨ (t = 7 ∧ i = 4)) M (wr M' 7 0 4 (nI 5)) := fun t k i z => by
        rw [rd_wr_n (by omega)]
        exact (hV t k i).2 (by omega)
      refine q_push (n := 5) (G := fun j => H.2 (j + 1)) (by omega) (fun j hj => ?_) rd_wr_s hW (hk.cg hW (fun i hi => ?_)) (fun M2 f2 hM => h _ (hF.tr f2) ?_)
      · have hg := h3 (j + 1) (by omega)
        refine ⟨hg.1, hg.2.cg hg.1 (fun i hi => ?_)⟩
        rw [rd_wr_n (by omega), (hV 161 0 _).1 (by omega)]
        congr 1
        omega
      · exact hF _ _ _ (by omega)
      · rw [pushH_2 (by omega)]
        exact hM.cg (fun j hj => by
          by_cases w : j < 5
          · rw [if_pos w, if_neg (by omega)]
          · rw [if_neg w, if_pos (by omega)])
    · rw [show (136 : Int32) = nI 136 from rfl, nI_p (by omega) (by omega), pk_mul, pk_mul]
      refine q_copies ia161 ia161 (by rw [lt161]; omega) (by rw [lt161]; omega) (by rw [lt161]; omega) (by rw [lt161]; omega) (Or.inr (by omega)) (fun M2 c => ?_)
      rintro x14 rfl
      refine hself _ _ ⟨j + 1, by omega, by omega, mI6 j, fun t k i => ⟨fun z => ?_, fun z => ?_⟩⟩ ?_
      · obtain ⟨rfl, rfl, z3⟩ := z
        by_cases w : 136 * (j - 1) ≤ i
        · rw [(c 161 0 i).1 (by omega), (hV 161 0 _).2 (by omega)]
          congr 1
          omega
        · rw [(c 161 0 i).2 (by omega)]
          exact (hV 161 0 i).1 (by omega)
      · rw [(c t k i).2 (by omega)]
        exact (hV t k i).2 (by omega)
      · rw [mI6, nI_clamp (by omega), nI_clamp (by omega)]; omega
theorem q_made {B0 : Bk} (hR : RM B M) (hH : MH H M) (hW : WF B0) (hk : RowR B0 (rd M 163 0)) {r : Int32} {P : Int32 → Mm → Prop} (h : ∀ M2, Fg qW M M2 → RM B M2 → MH (updH r H B0) M2 → P r M2) : wp_X7_made r M P := by
  unfold wp_X7_made
  unfold jn
  unfold updH at h
  refine ⟨fun q => ?_, fun q => ?_⟩
  · rw [if_pos q] at h
    exact h _ Fg.rf hR hH
  · rw [if_neg q] at h
    exact q_changes hH hW hk (fun M2 f2 hM => h _ (f2.mo (fun t k j z => by unfold qW; omega)) (hR.keptg f2 (fun k j => by omega)) hM)
end MHI
