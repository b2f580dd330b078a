/-! THE CLASS reads its text -/
def sc (x : Tx) : (Bool × Nat) × Nat := scn x 62 0 0
def doE (x : Tx) (p : Nat) (B : Bk) : Int32 × Bk := if x.2 p = 101 then insE B (v0 x p) else if x.2 p = 99 then insK B (v0 x p) (v1 x p) (v2 x p) else chRec B (v0 x p) (v1 x p)
def run (x : Tx) (B : Bk) : Nat → (Bool × Nat) × Bk
  | 0 => ((false, 0), B)
  | i + 1 => if (run x B i).1.1 = true then run x B i else if (doE x (st x i) (run x B i).2).1 < 0 then ((true, st x i), B) else ((false, 0), (doE x (st x i) (run x B i).2).2)
def readA (x : Tx) (B : Bk) (H : Hs) : (Int32 × Int32) × (Bk × Hs) := if (sc x).1.1 = true then (if (run x B (sc x).2).1.1 = true then ((-5, nI (run x B (sc x).2).1.2), (B, H)) else ((nI (sc x).2, -4), ((run x B (sc x).2).2, pushH H B))) else ((-2, nI (sc x).1.2), (B, H))
def rX (t _k j : Nat) : Prop := (t = 3 ∧ (j = 2 ∨ j = 3)) ∨ t = 286 ∨ t = 85 ∨ t = 84
section CRD
variable {B : Bk} {M : Mm} {H : Hs} {x : Tx}
theorem SE.kept {p i : Nat} {M2 : Mm} {R : Nat → Nat → Nat → Prop} (h : SE x p i M) (hf : Fg R M M2) (hr : ∀ t k j, (t = 286 ∧ k = i) ∨ (t = 85 ∧ j = i) ∨ (t = 84 ∧ j = i) → ¬ R t k j) : SE x p i M2 := by
  obtain ⟨h1, h2, h3, h4, h5⟩ := h
  refine ⟨?_, ?_, ?_, fun z => ?_, fun z => ?_⟩
  · rw [hf _ _ _ (hr _ _ _ (by omega))]; exact h1
  · rw [hf _ _ _ (hr _ _ _ (by omega))]; exact h2
  · rw [hf _ _ _ (hr _ _ _ (by omega))]; exact h3
  · rw [hf _ _ _ (hr _ _ _ (by omega))]; exact h4 z
  · rw [hf _ _ _ (hr _ _ _ (by omega))]; exact h5 z
theorem bool_tt {b : Bool} {A C : Prop} (f : b = false → A) (g : b = true → C) : ((if b = true then (1 : Int32) else 0) = 0 → A) ∧ (¬ (if b = true then (1 : Int32) else 0) = 0 → C) := tst f g
theorem y_scan (hT : CT x M) {P : Int32 → Mm → Prop} (h : ∀ M2, Fg rX M M2 → CT x M2 → rd M2 3 0 2 = nI (sc x).1.2 → ((sc x).1.1 = true → rd M2 3 0 3 = nI (sc x).2 ∧ (sc x).2 ≤ 20 ∧ ∀ j, j < (sc x).2 → SE x (st x j) j M2) → P (if (sc x).1.1 = true then 1 else 0) M2) : wp_X3_scan M P := by
  have h60 := hT.1
  unfold wp_X3_scan
  rintro M1 rfl
  refine lq2_i (fun n M' => ∃ i f p, i ≤ 20 ∧ n = nI i ∧ p = st x i ∧ 62 ≤ f + p ∧ 3 * i ≤ p ∧ CP2 x p M' ∧ Fg rX M M' ∧ scn x f p i = sc x ∧ ∀ j, j < i → SE x (st x j) j M') (fun n _ => 21 - n.toNatClampNeg) ?_ _ _ ⟨0, 62, 0, by omega, rfl, rfl, by omega, by omega, ⟨hT.kept (R := fun t _ j => t = 3 ∧ j = 2) (Fg.w ⟨rfl, rfl⟩) (fun t k j z => by omega), rd_wr_s, by omega⟩, Fg.w (by unfold rX; omega), rfl, fun j hj => absurd hj (Nat.not_lt_zero _)⟩
  rintro n M' ⟨i, f, p, hi, rfl, hst, hf, h3, hC, hF, hs, hE⟩ self hself
  have hpl := hC.2.2
  obtain ⟨f, rfl⟩ : ∃ g, f = g + 1 := ⟨f - 1, by omega⟩
  have hs : (if (ent x p).1 = false then ((false, (ent x p).2), i) else if (ent x p).2 = x.1 then ((true, x.1), i + 1) else if is x (ent x p).2 59 = true then scn x f ((ent x p).2 + 1) (i + 1) else ((false, (ent x p).2), i)) = sc x := hs
  rw [show (20 : Int32) = nI 20 from rfl]
  refine cLe (by omega) (by omega) (fun q => ?_) (fun q => ?_)
  · have e := ent_end (x := x) (p := p) (by omega)
    rw [e, if_pos rfl] at hs
    have h := h _ hF hC.1 (by rw [← hs]; exact hC.2.1) (fun z => by rw [← hs] at z; exact absurd z Bool.false_ne_true)
    rw [← hs] at h
    exact h
  refine y_entry hC q (fun M2 f2 hC2 s2 => ?_)
  have hle := ent_le hpl
  have hF2 : Fg rX M M2 := hF.tr (f2.mo (fun t k j z => by unfold rE at z; unfold rX; omega))
  refine bool_tt (fun q2 => ?_) (fun q2 => ?_)
  · rw [if_pos q2] at hs
    have h := h _ hF2 hC2.1 (by rw [← hs]; exact hC2.2.1) (fun z => by rw [← hs] at z; exact absurd z Bool.false_ne_true)
    rw [← hs] at h
    exact h
  rw [if_neg (by rw [q2]; decide)] at hs
  have hl2 := hle.2 q2
  have hE2 : ∀ j, j < i + 1 → SE x (st x j) j M2 := fun j hj => by
    by_cases w : j = i
    · rw [w, ← hst]; exact s2 q2
    · exact (hE j (by omega)).kept f2 (fun t k j z => by unfold rE; omega)
  rw [hC2.2.1, hC2.1.2.1]
  have hle1 := hle.1
  refine cNe (by omega) (by omega) (fun q3 => ?_) (fun q3 => ?_)
  · rw [if_neg q3] at hs
    refine y_skip hC2 59 (fun c => ?_) (fun c => ?_)
    · rw [if_pos c] at hs
      refine ⟨fun _ => ?_, fun z => absurd z (by decide)⟩
      rintro x14 rfl
      have f3 : Fg (fun t _ j => t = 3 ∧ j = 2) M2 (wr M2 3 0 2 (nI ((ent x p).2 + 1))) := Fg.w ⟨rfl, rfl⟩
      refine hself _ _ ⟨i + 1, f, (ent x p).2 + 1, by omega, mI6 i, by rw [hst]; rfl, by omega, by omega, hC2.up (is_t.mp c).1, hF2.tr (f3.mo (fun t k j z => by unfold rX; omega)), hs, fun j hj => (hE2 j hj).kept f3 (fun t k j z => by omega)⟩ ?_
      rw [mI6, nI_clamp (by omega), nI_clamp (by omega)]; omega
    · rw [if_neg (by rw [c]; decide)] at hs
      refine ⟨fun z => absurd rfl z, fun _ => ?_⟩
      have h := h _ hF2 hC2.1 (by rw [← hs]; exact hC2.2.1) (fun z => by rw [← hs] at z; exact absurd z Bool.false_ne_true)
      rw [← hs] at h
      exact h
  · rw [if_pos q3] at hs
    rintro M15 rfl
    have f3 : Fg (fun t _ j => t = 3 ∧ j = 3) M2 (wr M2 3 0 3 (nI i + 1)) := Fg.w ⟨rfl, rfl⟩
    have h := h _ (hF2.tr (f3.mo (fun t k j z => by unfold rX; omega))) (hC2.1.kept f3 (fun t k j z => by omega)) (by rw [← hs, rdj hC2.2.1 (by omega), q3]) (fun _ => by
      rw [← hs]
      exact ⟨by rw [rd_wr_s]; exact mI6 i, by show i + 1 ≤ 20; omega, fun j hj => (hE2 j hj).kept f3 (fun t k j z => by omega)⟩)
    rw [← hs] at h
    exact h
theorem y_makeEntry (hR : RC B M) {p i : Nat} (hE : SE x p i M) (hi : i < 20) {P : Int32 → Mm → Prop} (h : ∀ M2, Fg rB M M2 → RC (doE x p B).2 M2 → P (doE x p B).1 M2) : wp_X6_makeEntry (nI i) M P := by
  unfold doE at h
  unfold wp_X6_makeEntry
  rw [vpI (by omega), nI_clamp (by omega)]
  refine ⟨hi, hi, ?_⟩
  rintro x3 rfl x4 rfl x5 rfl x6 rfl
  obtain ⟨h1, h2, h3, h4, h5⟩ := hE
  rw [h2, h3]
  refine ⟨fun q => ⟨fun q2 => ?_, fun q2 => ?_⟩, fun q => ?_⟩
  · rw [if_neg q, if_neg q2] at h
    rw [h4 q]
    exact y_changeRecovery hR _ _ h
  · rw [if_neg q, if_pos q2] at h
    rw [h4 q, h5 q2]
    exact y_insertClaim hR _ _ _ h
  · rw [if_pos q] at h
    exact y_insertEvent hR _ h
theorem run_stop {i n : Nat} (h : (run x B i).1.1 = true) (hn : i ≤ n) : run x B n = run x B i := by
  induction n with
  | zero => rw [show i = 0 by omega]
  | succ n ih =>
    by_cases q : i = n + 1
    · rw [q]
    · have e := ih (by omega)
      show (if (run x B n).1.1 = true then run x B n else _) = _
      rw [if_pos (by rw [e]; exact h), e]
theorem y_return (hW : WF B) (hH : CHm H B M) {P : Mm → Prop} (h : ∀ M2, Fg (rK 0) M M2 → RC B M2 → P M2) : wp_X1_returnToMark 0 M P := by
  obtain ⟨m, hm, hB⟩ := hH
  have hm7 := hm.1
  unfold wp_X1_returnToMark
  rw [hm.2.1, vpI (by omega), nI_clamp (by omega)]
  exact ⟨hm.1, by decide, y_copyFrom (by decide) (by omega) (by omega) (fun M2 f2 e2 => h _ f2 ⟨hW, bookR_of hW hB e2⟩)⟩
def rR (t k j : Nat) : Prop := rW t k j ∨ rX t k j ∨ (t = 3 ∧ j = 1) ∨ (t = 6 ∧ j = 7)
theorem c_read (hR : RC B M) (hH : CH H M) (hT : CT x M) {P : Int32 → Mm → Prop} (h : ∀ M2, Fg rR M M2 → RC (readA x B H).2.1 M2 → CH (readA x B H).2.2 M2 → CT (0, x.2) M2 → rd M2 6 0 7 = (readA x B H).1.2 → P (readA x B H).1.1 M2) : wp_X6_read M P := by
  unfold readA at h
  unfold wp_X6_read
  refine y_scan hT (fun M1 f1 hT1 g1 s1 => ?_)
  unfold wp_X3_clear
  rintro M3 rfl
  have f3 : Fg (fun t _ j => t = 3 ∧ j = 1) M1 (wr M1 3 0 1 0) := Fg.w ⟨rfl, rfl⟩
  have F3 : Fg rR M (wr M1 3 0 1 0) := (f1.mo (fun t k j z => Or.inr (Or.inl z))).tr (f3.mo (fun t k j z => Or.inr (Or.inr (Or.inl z))))
  have hR1 : RC B M1 := hR.kept f1 (fun t j z => by unfold rX; omega)
  have hH1 := hH.kept f1 (fun t k j z => by unfold rX; omega)
  have hR3 : RC B (wr M1 3 0 1 0) := hR1.kept f3 (fun t j z => by omega)
  have hH3 : CH H (wr M1 3 0 1 0) := hH1.kept f3 (fun t k j z => by omega)
  have t3 : rd (wr M1 3 0 1 0) 3 0 1 = 0 := rd_wr_s
  have g3 := rdj (k' := 0) (i := 1) (v := 0) g1 (by omega)
  have s3 : (sc x).1.1 = true → rd (wr M1 3 0 1 0) 3 0 3 = nI (sc x).2 ∧ (sc x).2 ≤ 20 ∧ ∀ j, j < (sc x).2 → SE x (st x j) j (wr M1 3 0 1 0) := fun z =>
    ⟨rdj (s1 z).1 (by omega), (s1 z).2.1, fun j hj => ((s1 z).2.2 j hj).kept f3 (fun t k j z => by omega)⟩
  generalize wr M1 3 0 1 0 = M3 at *
  refine tsw (fun q => ?_) (fun q => ?_)
  rotate_left
  · rw [if_neg (by rw [q]; decide)] at h
    rintro M21 rfl
    rw [g3]
    have f4 : Fg (fun t _ j => t = 6 ∧ j = 7) M3 (wr M3 6 0 7 (nI (sc x).1.2)) := Fg.w ⟨rfl, rfl⟩
    exact h _ (F3.tr (f4.mo (fun t k j z => Or.inr (Or.inr (Or.inr z))))) (hR3.kept f4 (fun t j z => by omega)) (hH3.kept f4 (fun t k j z => by omega)) ⟨by show 0 ≤ 60; omega, rdk t3 (by decide), fun i hi => absurd hi (Nat.not_lt_zero _)⟩ rd_wr_s
  rw [if_pos q] at h
  obtain ⟨n3, n20, hE3⟩ := s3 q
  refine y_mark hR3 hH3 (fun M5 f5 hR5 hH5 => ?_)
  have kW : ∀ t k j, t = 3 ∨ t = 6 ∨ t = 286 ∨ t = 84 ∨ t = 85 → ¬ rW t k j := fun t k j z => by unfold rW; omega
  have n5 : rd M5 3 0 3 = nI (sc x).2 := by rw [f5 _ _ _ (kW _ _ _ (by omega))]; exact n3
  have t5 : rd M5 3 0 1 = 0 := by rw [f5 _ _ _ (kW _ _ _ (by omega))]; exact t3
  have hE5 : ∀ j, j < (sc x).2 → SE x (st x j) j M5 := fun j hj => (hE3 j hj).kept f5 (fun t k j z => kW _ _ _ (by omega))
  have F5 : Fg rR M M5 := F3.tr (f5.mo (fun t k j z => Or.inl z))
  refine lq2_i (fun n M' => ∃ i, i ≤ (sc x).2 ∧ n = nI i ∧ (run x B i).1.1 = false ∧ RC (run x B i).2 M' ∧ Fg rB M5 M') (fun n _ => (sc x).2 - n.toNatClampNeg) ?_ _ _ ⟨0, by omega, rfl, rfl, hR5, Fg.rf⟩
  rintro n M' ⟨i, hi, rfl, hr, hRi, hF⟩ self hself
  have kB : ∀ t k j, t = 1 ∨ t = 3 ∨ t = 6 ∨ t = 286 ∨ t = 84 ∨ t = 85 → ¬ rB t k j := fun t k j z => by unfold rB; omega
  have hHi : CHm H B M' := hH5.kept hF (fun t k j z => by unfold rB; omega)
  have ni : rd M' 3 0 3 = nI (sc x).2 := by rw [hF _ _ _ (kB _ _ _ (by omega))]; exact n5
  have ti : rd M' 3 0 1 = 0 := by rw [hF _ _ _ (kB _ _ _ (by omega))]; exact t5
  have Fi : Fg rR M M' := F5.tr (hF.mo (fun t k j z => Or.inl (rB_rW z)))
  rw [ni]
  refine cLe (by omega) (by omega) (fun q2 => ?_) (fun q2 => ?_)
  · have : i = (sc x).2 := by omega
    rw [← this, if_neg (by rw [hr]; decide)] at h
    rintro M11 rfl
    have f6 : Fg (fun t _ j => t = 6 ∧ j = 7) M' (wr M' 6 0 7 (-4)) := Fg.w ⟨rfl, rfl⟩
    rw [rdk ni (by decide)]
    refine y_changed (hRi.kept f6 (fun t j z => by omega)) hR.1 (hHi.kept f6 (fun t k j z => by omega)) (fun M12 f12 hR12 hH12 => ?_)
    have e : updH (nI (sc x).2) H B = pushH H B := if_neg (by rw [show (0 : Int32) = nI 0 from rfl, i32_lt, nI_toInt (by omega), nI_toInt (by omega)]; omega)
    rw [e] at hH12
    rw [this] at h hR12
    refine h _ ((Fi.tr (f6.mo (fun t k j z => Or.inr (Or.inr (Or.inr z))))).tr (f12.mo (fun t k j z => Or.inl z))) hR12 hH12 ⟨by show 0 ≤ 60; omega, ?_, fun i hi => absurd hi (Nat.not_lt_zero _)⟩ ?_
    · rw [f12 _ _ _ (kW _ _ _ (by omega))]; exact rdk ti (by decide)
    · rw [f12 _ _ _ (kW _ _ _ (by omega))]; exact rd_wr_s
  · have hEi : SE x (st x i) i M' := (hE5 i q2).kept hF (fun t k j z => kB _ _ _ (by omega))
    refine y_makeEntry hRi hEi (by omega) (fun M14 f14 hR14 => ?_)
    have hrun : run x B (i + 1) = if (doE x (st x i) (run x B i).2).1 < 0 then ((true, st x i), B) else ((false, 0), (doE x (st x i) (run x B i).2).2) := if_neg (by rw [hr]; decide)
    refine ⟨fun q3 => ?_, fun q3 => ?_⟩
    · rintro x17 rfl
      rw [if_neg (Int32.not_lt.mpr q3)] at hrun
      refine hself _ _ ⟨i + 1, by omega, mI6 i, by rw [hrun], by rw [hrun]; exact hR14, hF.tr f14⟩ ?_
      rw [mI6, nI_clamp (by omega), nI_clamp (by omega)]; omega
    · rw [if_pos (Int32.not_le.mp q3)] at hrun
      have hs : run x B (sc x).2 = ((true, st x i), B) := by rw [run_stop (i := i + 1) (by rw [hrun]) (by omega), hrun]
      rw [hs, if_pos rfl] at h
      have h14 : CHm H B M14 := hHi.kept f14 (fun t k j z => by unfold rB; omega)
      refine y_return hR.1 h14 (fun M18 f18 hR18 => ?_)
      rw [vpI (by omega), nI_clamp (by omega)]
      refine ⟨by omega, ?_⟩
      rintro M20 rfl
      have kK : ∀ t k j, t = 1 ∨ t = 3 ∨ t = 6 ∨ t = 286 ∨ t = 84 ∨ t = 85 ∨ 2 ≤ k → ¬ rK 0 t k j := fun t k j z => by unfold rK; omega
      have s18 : rd M18 85 0 i = nI (st x i) := by rw [f18 _ _ _ (kK _ _ _ (by omega)), f14 _ _ _ (kB _ _ _ (by omega))]; exact hEi.1
      rw [s18]
      have f20 : Fg (fun t _ j => t = 6 ∧ j = 7) M18 (wr M18 6 0 7 (nI (st x i))) := Fg.w ⟨rfl, rfl⟩
      have hH18 : CHm H B M18 := h14.kept f18 (fun t k j z => kK _ _ _ (by omega))
      obtain ⟨m, hm, _⟩ := hH18.kept f20 (fun t k j z => by omega)
      refine h _ (((Fi.tr (f14.mo (fun t k j z => Or.inl (rB_rW z)))).tr (f18.mo (fun t k j z => Or.inl (by unfold rK at z; unfold rW; omega)))).tr (f20.mo (fun t k j z => Or.inr (Or.inr (Or.inr z))))) (hR18.kept f20 (fun t j z => by omega)) ⟨m, hm⟩ ⟨by show 0 ≤ 60; omega, rdk ?_ (by decide), fun i hi => absurd hi (Nat.not_lt_zero _)⟩ rd_wr_s
      rw [f18 _ _ _ (kK _ _ _ (by omega)), f14 _ _ _ (kB _ _ _ (by omega))]
      exact ti
end CRD
