section MRD4
variable {B : Bk} {M : Mm} {H : Hs} {x : Tx}
def qR (t k j : Nat) : Prop := qW t k j ∨ qE t k j ∨ (t = 7 ∧ (j = 7 ∨ j = 9))
def ps (x : Tx) : Nat → Nat
  | 0 => 0
  | i + 1 => (ent x (st x i)).2
theorem q_doE {p : Nat} (hR : RM B M) (hN : NM x p M) {r : Int32} (hr : r = x.2 p) {J : Int32 → Mm → Prop} (h : ∀ M2, Fr [160] M M2 → RM (doE x p B).2 M2 → J (doE x p B).1 M2) : ((¬ r = (101 : Int32) → ((¬ r = (99 : Int32) → (wp_X7_laysRecovery (rd M 171 0 0) (rd M 171 0 1) M (fun (r33 : Int32) (M32 : Mm) => J r33 M32))) ∧ (r = (99 : Int32) → (wp_X7_laysClaim (rd M 171 0 0) (rd M 171 0 1) (rd M 171 0 2) M (fun (r35 : Int32) (M34 : Mm) => J r35 M34))))) ∧ (r = (101 : Int32) → (wp_X7_laysEvent (rd M 171 0 0) M (fun (r37 : Int32) (M36 : Mm) => J r37 M36)))) := by
  subst hr
  obtain ⟨h1, h2, h3⟩ := hN
  unfold doE at h
  rw [h1]
  refine ⟨fun q => ⟨fun q2 => ?_, fun q2 => ?_⟩, fun q => ?_⟩
  · rw [if_neg q, if_neg q2] at h
    rw [h2 q]
    exact q_laysRecovery hR _ _ h
  · rw [if_neg q, if_pos q2] at h
    rw [h2 q, h3 q2]
    exact q_laysClaim hR _ _ _ h
  · rw [if_pos q] at h
    exact q_laysEvent hR _ h
theorem m_read (hR : RM B M) (hH : MH H M) (hT : MT x M) {P : Int32 → Mm → Prop} (h : ∀ M2, Fg qR M M2 → RM (readA x B H).2.1 M2 → MH (readA x B H).2.2 M2 → MT (0, x.2) M2 → rd M2 7 0 9 = (readA x B H).1.2 → P (readA x B H).1.1 M2) : wp_X7_read M P := by
  have h60 := hT.1
  unfold readA at h
  unfold wp_X7_read
  rintro M1 rfl
  have f1 : Fg (fun t _ j => t = 7 ∧ j = 9) M (wr M 7 0 9 (-4)) := Fg.w ⟨rfl, rfl⟩
  have g1 : rd (wr M 7 0 9 (-4)) 7 0 9 = -4 := rd_wr_s
  have hT1 := hT.kept f1 (fun t k j z => by omega)
  have hR1 := hR.keptg f1 (fun k j => by omega)
  have hH1 := hH.kept f1 (fun t k j z => by omega)
  have F1 : Fg qR M (wr M 7 0 9 (-4)) := f1.mo (fun t k j z => by unfold qR; omega)
  generalize wr M 7 0 9 (-4) = M1 at *
  refine q_faulty hT1 (fun M2 f2 hT2 g2 => ?_)
  have hR2 := hR1.keptg f2 (fun k j => by unfold qE; omega)
  have hH2 := hH1.kept f2 (fun t k j z => by unfold qE; omega)
  have F2 : Fg qR M M2 := F1.tr (f2.mo (fun t k j z => Or.inr (Or.inl z)))
  have y2 : rd M2 7 0 9 = -4 := by rw [f2 _ _ _ (by unfold qE; omega)]; exact g1
  by_cases q : (sc x).1.1 = true
  rotate_left
  · rw [if_neg q] at h ⊢
    refine ⟨fun z => absurd z (by decide), fun _ => ?_⟩
    rintro M40 rfl M41 rfl
    rw [g2]
    have f3 : Fg (fun t _ j => t = 7 ∧ (j = 7 ∨ j = 9)) M2 (wr (wr M2 7 0 9 (nI (sc x).1.2)) 7 0 7 0) := (Fg.w (by omega)).tr (Fg.w (by omega))
    exact h _ (F2.tr (f3.mo (fun t k j z => Or.inr (Or.inr z)))) (hR2.keptg f3 (fun k j => by omega)) (hH2.kept f3 (fun t k j z => by omega)) ⟨by show 0 ≤ 60; omega, rd_wr_s, fun i hi => absurd hi (Nat.not_lt_zero _)⟩ (rdj rd_wr_s (by omega))
  rw [if_pos q] at h ⊢
  refine ⟨fun _ => ?_, fun z => absurd rfl z⟩
  obtain ⟨⟨w1, w2, w3, w4⟩, w5⟩ := sc_ok q
  have w0 := w2 0 (by omega)
  have hN : (sc x).2 ≤ 21 := by
    have := w2 ((sc x).2 - 1) (by omega)
    omega
  refine q_keeps hR2 (fun M5 f5 k5 => ?_)
  rintro M6 rfl M7 rfl
  have f7 : Fg (fun t _ j => t = 7 ∧ (j = 8 ∨ j = 10)) M5 (wr (wr M5 7 0 8 0) 7 0 10 0) := (Fg.w (by omega)).tr (Fg.w (by omega))
  have hT5 := hT2.kept f5 (fun t k j z => by omega)
  have hS7 : MPs x (false, 0) (wr (wr M5 7 0 8 0) 7 0 10 0) := ⟨hT5.kept f7 (fun t k j z => by omega), rdj rd_wr_s (by omega), rd_wr_s, by show 0 ≤ x.1; omega⟩
  have hR7 := (hR2.keptg f5 (fun k j => by omega)).keptg f7 (fun k j => by omega)
  have hH7 := (hH2.kept f5 (fun t k j z => by omega)).kept f7 (fun t k j z => by omega)
  have k7 : RowR B (rd (wr (wr M5 7 0 8 0) 7 0 10 0) 163 0) := rowk hR.1 k5 f7 (fun j => by omega)
  have y7 : rd (wr (wr M5 7 0 8 0) 7 0 10 0) 7 0 9 = -4 := by rw [f7 _ _ _ (by omega), f5 _ _ _ (by omega)]; exact y2
  have F7 : Fg qR M (wr (wr M5 7 0 8 0) 7 0 10 0) := (F2.tr (f5.mo (fun t k j z => by unfold qR qW; omega))).tr (f7.mo (fun t k j z => by unfold qR qE; omega))
  generalize wr (wr M5 7 0 8 0) 7 0 10 0 = M7 at *
  refine lq2_i (fun n M' => ∃ i, i ≤ (sc x).2 ∧ n = nI i ∧ (run x B i).1.1 = false ∧ RM (run x B i).2 M' ∧ MPs x (false, ps x i) M' ∧ MH H M' ∧ RowR B (rd M' 163 0) ∧ rd M' 7 0 9 = -4 ∧ Fg qR M M') (fun n _ => (sc x).2 - n.toNatClampNeg) ?_ _ _ ⟨0, by omega, rfl, rfl, hR7, hS7, hH7, k7, y7, F7⟩
  rintro n M' ⟨i, hi, rfl, hr, hRi, hSi, hHi, ki, yi, Fi⟩ self hself
  have p1 : rd M' 7 0 8 = nI (ps x i) := hSi.2.1
  have p2 : rd M' 7 0 7 = nI x.1 := hSi.1.2.1
  have p3 : ps x i ≤ x.1 := hSi.2.2.2
  rw [p1, p2]
  have pend : ps x (sc x).2 = x.1 := by
    obtain ⟨m, hm⟩ : ∃ m, (sc x).2 = m + 1 := ⟨(sc x).2 - 1, by omega⟩
    rw [hm] at w4 ⊢
    exact w4
  have plt : i < (sc x).2 → ps x i < x.1 := fun hlt => by
    cases i with
    | zero => show 0 < x.1; have := (ent_le w0.2.1).2 w0.1; have := (ent_le w0.2.1).1; omega
    | succ i => exact w3 i (by omega)
  refine cLe (by omega) (by omega) (fun q2 => ?_) (fun q2 => ?_)
  · have : i = (sc x).2 := by
      rcases Nat.lt_or_ge i (sc x).2 with z | z
      · have := plt z; omega
      · omega
    subst this
    rw [if_neg (by rw [hr]; decide)] at h
    rintro M13 rfl
    have f3 : Fg (fun t _ j => t = 7 ∧ j = 7) M' (wr M' 7 0 7 0) := Fg.w ⟨rfl, rfl⟩
    refine q_changes (hHi.kept f3 (fun t k j z => by omega)) hR.1 (rowk hR.1 ki f3 (fun j => by omega)) (fun M14 f14 hM => ?_)
    refine h _ ((Fi.tr (f3.mo (fun t k j z => by unfold qR; omega))).tr (f14.mo (fun t k j z => by unfold qR qW; omega))) ((hRi.keptg f3 (fun k j => by omega)).keptg f14 (fun k j => by omega)) hM ⟨by show 0 ≤ 60; omega, ?_, fun i hi => absurd hi (Nat.not_lt_zero _)⟩ ?_
    · rw [f14 _ _ _ (by omega)]; exact rd_wr_s
    · rw [f14 _ _ _ (by omega)]; exact rdj yi (by omega)
  · have hlt : i < (sc x).2 := by
      rcases Nat.lt_or_ge i (sc x).2 with z | z
      · exact z
      · rw [show i = (sc x).2 by omega, pend] at q2; omega
    obtain ⟨u1, u2, u3⟩ := w2 i hlt
    have hrun : run x B (i + 1) = if (doE x (st x i) (run x B i).2).1 < 0 then ((true, st x i), B) else ((false, 0), (doE x (st x i) (run x B i).2).2) := if_neg (by rw [hr]; decide)
    have key : ∀ M15 : Mm, Fg (fun t _ j => t = 7 ∧ j = 8) M' M15 → MPs x (false, st x i) M15 → (∀ x18 : Int32, x18 = (rd M15 7 0 8) → (wp_X7_entry M15 (fun (r20 : Int32) (M19 : Mm) => (jn (fun (v21 : Int32) (M22 : Mm) => ((0 ≤ v21 → (∀ x26 : Int32, x26 = nI i + (1 : Int32) → self x26 M22)) ∧ (¬ 0 ≤ v21 → (wp_X7_copies (163, 0) (0 : Int32) (160, 0) (0 : Int32) M22 (fun (M27 : Mm) => (∀ M28 : Mm, M28 = wr M27 7 0 9 x18 → (∀ M29 : Mm, M29 = wr M28 7 0 7 (0 : Int32) → P (-5 : Int32) M29))))))) (fun J23 : Int32 → Mm → Prop => ((¬ r20 = (101 : Int32) → ((¬ r20 = (99 : Int32) → (wp_X7_laysRecovery (rd M19 171 0 0) (rd M19 171 0 1) M19 (fun (r33 : Int32) (M32 : Mm) => J23 r33 M32))) ∧ (r20 = (99 : Int32) → (wp_X7_laysClaim (rd M19 171 0 0) (rd M19 171 0 1) (rd M19 171 0 2) M19 (fun (r35 : Int32) (M34 : Mm) => J23 r35 M34))))) ∧ (r20 = (101 : Int32) → (wp_X7_laysEvent (rd M19 171 0 0) M19 (fun (r37 : Int32) (M36 : Mm) => J23 r37 M36))))))))) := by
      rintro M15 f15 hS15 x18 rfl
      have b15 : rd M15 7 0 8 = nI (st x i) := hS15.2.1
      rw [b15]
      have hR15 := hRi.keptg f15 (fun k j => by omega)
      refine q_entry hS15 (fun r M19 f19 hS19 n19 => ?_)
      obtain ⟨n1, n2⟩ := n19 u1
      have hR19 := hR15.keptg f19 (fun k j => by unfold qE; omega)
      unfold jn
      refine q_doE (J := fun (v21 : Int32) (M22 : Mm) => ((0 ≤ v21 → (∀ x26 : Int32, x26 = nI i + (1 : Int32) → self x26 M22)) ∧ (¬ 0 ≤ v21 → (wp_X7_copies (163, 0) (0 : Int32) (160, 0) (0 : Int32) M22 (fun (M27 : Mm) => (∀ M28 : Mm, M28 = wr M27 7 0 9 (nI (st x i)) → (∀ M29 : Mm, M29 = wr M28 7 0 7 (0 : Int32) → P (-5 : Int32) M29))))))) hR19 n2 n1 (fun M22 f22 hR22 => ?_)
      have f22 := fr160 f22
      have F22 : Fg qR M M22 := ((Fi.tr (f15.mo (fun t k j z => by unfold qR qE; omega))).tr (f19.mo (fun t k j z => Or.inr (Or.inl z)))).tr (f22.mo (fun t k j z => by unfold qR qW; omega))
      have hH22 : MH H M22 := ((hHi.kept f15 (fun t k j z => by omega)).kept f19 (fun t k j z => by unfold qE; omega)).kept f22 (fun t k j z => by omega)
      have k22 : RowR B (rd M22 163 0) := rowk hR.1 (rowk hR.1 (rowk hR.1 ki f15 (fun j => by omega)) f19 (fun j => by unfold qE; omega)) f22 (fun j => by omega)
      have y22 : rd M22 7 0 9 = -4 := by rw [f22 _ _ _ (by omega), f19 _ _ _ (by unfold qE; omega), f15 _ _ _ (by omega)]; exact yi
      have hS22 : MPs x (false, ps x (i + 1)) M22 := by
        rw [(entM_ent (x := x) _).1, u1] at hS19
        exact hS19.k f22 (fun t k j z => by omega)
      refine ⟨fun q3 => ?_, fun q3 => ?_⟩
      · rintro x26 rfl
        rw [if_neg (Int32.not_lt.mpr q3)] at hrun
        refine hself _ _ ⟨i + 1, by omega, mI6 i, by rw [hrun], by rw [hrun]; exact hR22, hS22, hH22, k22, y22, F22⟩ ?_
        rw [mI6, nI_clamp (by omega), nI_clamp (by omega)]; omega
      · rw [if_pos (Int32.not_le.mp q3)] at hrun
        have hs : run x B (sc x).2 = ((true, st x i), B) := by rw [run_stop (i := i + 1) (by rw [hrun]) (by omega), hrun]
        rw [hs, if_pos rfl] at h
        refine q_copies (p1 := 0) (p2 := 0) ia163 ia160 (by rw [lt163]; omega) (by rw [lt160]; omega) (by rw [lt163]; omega) (by rw [lt160]; omega) (Or.inl (by decide)) (fun M27 c => ?_)
        rintro M28 rfl M29 rfl
        have f27 : Fg (fun t _ _ => t = 160) M22 M27 := fun t k j z => (c t k j).2 (fun y => z y.1)
        have hR27 : RM B M27 := ⟨hR.1, k22.cg hR.1 (fun j hj => by
          rw [(c 160 0 j).1 (by omega)]
          congr 1
          omega)⟩
        have f3 : Fg (fun t _ j => t = 7 ∧ (j = 7 ∨ j = 9)) M27 (wr (wr M27 7 0 9 (nI (st x i))) 7 0 7 0) := (Fg.w (by omega)).tr (Fg.w (by omega))
        exact h _ ((F22.tr (f27.mo (fun t k j z => by unfold qR qW; omega))).tr (f3.mo (fun t k j z => Or.inr (Or.inr z)))) (hR27.keptg f3 (fun k j => by omega)) ((hH22.kept f27 (fun t k j z => by omega)).kept f3 (fun t k j z => by omega)) ⟨by show 0 ≤ 60; omega, rd_wr_s, fun i hi => absurd hi (Nat.not_lt_zero _)⟩ (rdj rd_wr_s (by omega))
    unfold jn at key ⊢
    rw [show (0 : Int32) = nI 0 from rfl] at key ⊢
    refine cLe (by omega) (by omega) (fun q4 => ?_) (fun q4 => ?_)
    · have : i = 0 := by omega
      subst this
      exact key _ Fg.rf hSi
    · rintro M39 rfl
      rw [mI6]
      refine key _ (Fg.w ⟨rfl, rfl⟩) ?_
      have e : ps x i + 1 = st x i := by
        cases i with
        | zero => omega
        | succ i => rfl
      rw [e]
      exact hSi.at u2
end MRD4
