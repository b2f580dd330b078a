/-! THE CLASS takes its text apart -/
def CP2 (x : Tx) (p : Nat) (M : Mm) : Prop := CT x M ∧ rd M 3 0 2 = nI p ∧ p ≤ x.1
section CSC
variable {M : Mm} {x : Tx} {p : Nat}
theorem y_skip (hT : CP2 x p M) (c : Int32) {P : Int32 → Mm → Prop} (h1 : is x p c = true → P 1 (wr M 3 0 2 (nI (p + 1)))) (h2 : is x p c = false → P 0 M) : wp_X3_skipSign c M P := by
  obtain ⟨⟨h6, hl, ht⟩, hp, hpl⟩ := hT
  unfold wp_X3_skipSign
  rw [hl, hp]
  refine cLe (by omega) (by omega) (fun q => h2 (is_f (by omega))) (fun q => ?_)
  rw [vpI (by omega), nI_clamp (by omega), ht p q, mI6]
  refine ⟨by omega, fun w => ?_, fun w => h2 (is_f (fun z => w z.2))⟩
  rintro M4 rfl
  exact h1 (is_t.mpr ⟨q, w⟩)
def rN (i c : Nat) (t k j : Nat) : Prop := (t = 3 ∧ j = 2) ∨ (t = 286 ∧ k = i ∧ j = c)
theorem CP2.up {q : Nat} (hT : CP2 x p M) (hq : q ≤ x.1) : CP2 x q (wr M 3 0 2 (nI q)) :=
  ⟨hT.1.kept (R := fun t _ j => t = 3 ∧ j = 2) (Fg.w ⟨rfl, rfl⟩) (fun t k j z => by omega), rd_wr_s, hq⟩
theorem y_number (hT : CP2 x p M) {i c : Nat} (hi : i < 20) (hc : c < 3) {P : Int32 → Mm → Prop} (h : ∀ M2, Fg (rN i c) M M2 → CP2 x (p + nd x p) M2 → rd M2 286 i c = vl x p (nd x p) → P (if nd x p = 0 then 0 else 1) M2) : wp_X3_scanNumber (286, i) (nI c) M P := by
  have h60 := hT.1.1
  unfold wp_X3_scanNumber
  refine lq3_i (fun v n M' => ∃ k, k ≤ 6 ∧ n = nI k ∧ v = vl x p k ∧ (∀ i, i < k → dg x (p + i) = true) ∧ Fg (fun t _ j => t = 3 ∧ j = 2) M M' ∧ CP2 x (p + k) M') (fun _ n _ => 6 - n.toNatClampNeg) ?_ _ _ _ ⟨0, by omega, rfl, rfl, fun i hi => absurd hi (Nat.not_lt_zero _), Fg.rf, hT⟩
  rintro v n M' ⟨k, hk, rfl, rfl, hd, hF, hC⟩ self hself
  have fin : nd x p = k → (IA ((286, i).1, (286, i).2) ∧ (vp_in (nI c) (lenT (286, i).1) ∧ (∀ M11 : Mm, M11 = wr M' (286, i).1 (286, i).2 (nI c).toNatClampNeg (vl x p k) → ((nI k ≤ 0 → P (0 : Int32) M11) ∧ (¬ nI k ≤ 0 → P (1 : Int32) M11))))) := fun e => by
    refine ⟨⟨mw286 i hi, kt286⟩, by show vp_in (nI c) (lenT 286); rw [lt286, vpI (by omega)]; exact hc, ?_⟩
    rintro M11 rfl
    rw [nI_clamp (by omega)]
    have hF2 : Fg (rN i c) M (wr M' 286 i c (vl x p k)) := (hF.mo (fun t k j z => Or.inl z)).tr (Fg.w (Or.inr ⟨rfl, rfl, rfl⟩))
    have hC2 : CP2 x (p + nd x p) (wr M' 286 i c (vl x p k)) := by
      rw [e]
      exact ⟨hC.1.kept (R := fun t _ _ => t = 286) (Fg.w rfl) (fun t k j z => by omega), rdk hC.2.1 (by decide), hC.2.2⟩
    have h := h _ hF2 hC2 (by rw [e]; exact rd_wr_s)
    rw [e] at h
    rw [show (0 : Int32) = nI 0 from rfl]
    refine cLe (by omega) (by omega) (fun q => ?_) (fun q => ?_)
    · rw [if_pos (by omega)] at h; exact h
    · rw [if_neg (by omega)] at h; exact h
  unfold jn
  rw [show (6 : Int32) = nI 6 from rfl]
  refine cLe (by omega) (by omega) (fun q => ?_) (fun q => ?_)
  · exact fin (by rw [show k = 6 by omega] at hd ⊢; exact rn_all hd 6 (by omega))
  rw [hC.1.2.1, hC.2.1]
  have hpl := hC.2.2
  refine cLe (by omega) (by omega) (fun q2 => ?_) (fun q2 => ?_)
  · refine fin (rn_stop hd ?_ 6 (by omega))
    unfold dg
    rw [show decide (p + k < x.1) = false from decide_eq_false (by omega)]
    rfl
  rw [vpI (by omega), nI_clamp (by omega), hC.1.2.2 _ q2]
  refine ⟨by omega, y_in (tst (fun q3 => ?_) (fun q3 => ?_))⟩
  · refine fin (rn_stop hd ?_ 6 (by omega))
    unfold dg
    rw [show inb (x.2 (p + k)) 48 57 = false from q3, Bool.and_false]
  · show vp_in (rd M' 3 0 2) 60 ∧ _
    rw [hC.2.1, vpI (by omega)]
    refine ⟨by omega, ?_⟩
    rintro x20 rfl x21 rfl M22 rfl
    rw [nI_clamp (by omega), hC.1.2.2 _ q2, mI6, mI6]
    refine hself _ _ _ ⟨k + 1, by omega, rfl, rfl, fun i hi => ?_, hF.tr (Fg.w ⟨rfl, rfl⟩), hC.up (by omega)⟩ ?_
    · by_cases w : i = k
      · rw [w]
        unfold dg
        rw [show decide (p + k < x.1) = true from decide_eq_true q2, show inb (x.2 (p + k)) 48 57 = true from q3]
        rfl
      · exact hd i (by omega)
    · rw [nI_clamp (by omega), nI_clamp (by omega)]; omega
/-- entry i, as it is laid down -/
def SE (x : Tx) (p i : Nat) (M : Mm) : Prop := rd M 85 0 i = nI p ∧ rd M 84 0 i = x.2 p ∧ rd M 286 i 0 = v0 x p ∧ (x.2 p ≠ 101 → rd M 286 i 1 = v1 x p) ∧ (x.2 p = 99 → rd M 286 i 2 = v2 x p)
def rE (i : Nat) (t k j : Nat) : Prop := (t = 3 ∧ j = 2) ∨ (t = 286 ∧ k = i) ∨ (t = 85 ∧ j = i) ∨ (t = 84 ∧ j = i)
theorem rN_rE {i c t k j : Nat} (h : rN i c t k j) : rE i t k j := by unfold rN at h; unfold rE; omega
theorem CP2.k {M2 : Mm} {R : Nat → Nat → Nat → Prop} (h : CP2 x p M) (hf : Fg R M M2) (hr : ∀ t k j, t = 3 ∨ t = 80 → ¬ R t k j) : CP2 x p M2 :=
  ⟨h.1.kept hf (fun t k j z => hr t k j (by omega)), by rw [hf _ _ _ (hr _ _ _ (Or.inl rfl))]; exact h.2.1, h.2.2⟩
theorem tst2 {n : Nat} {A C : Prop} (f : n = 0 → A) (g : ¬ n = 0 → C) : ((if n = 0 then (0 : Int32) else 1) = 0 → A) ∧ (¬ (if n = 0 then (0 : Int32) else 1) = 0 → C) := by
  by_cases q : n = 0
  · rw [if_pos q]; exact ⟨fun _ => f q, fun z => absurd rfl z⟩
  · rw [if_neg q]; exact ⟨fun z => absurd z (by decide), fun _ => g q⟩
theorem y_entry (hT : CP2 x p M) {i : Nat} (hi : i < 20) {P : Int32 → Mm → Prop} (h : ∀ M2, Fg (rE i) M M2 → CP2 x (ent x p).2 M2 → ((ent x p).1 = true → SE x p i M2) → P (if (ent x p).1 = true then 1 else 0) M2) : wp_X3_scanEntry (nI i) M P := by
  have h60 := hT.1.1
  have hpl := hT.2.2
  unfold ent at h
  unfold wp_X3_scanEntry
  rw [vpI (by omega), nI_clamp (by omega), hT.2.1]
  refine ⟨hi, ?_⟩
  rintro M2 rfl
  have f2 : Fg (rE i) M (wr M 85 0 i (nI p)) := Fg.w (by unfold rE; omega)
  have hT2 : CP2 x p (wr M 85 0 i (nI p)) := hT.k (R := fun t _ _ => t = 85) (Fg.w rfl) (fun t k j z => by omega)
  have s2 : rd (wr M 85 0 i (nI p)) 85 0 i = nI p := rd_wr_s
  generalize wr M 85 0 i (nI p) = M2 at *
  -- the numbers of an entry
  refine y_skip hT2 101 (fun a => ?_) (fun a => ?_)
  · rw [if_pos a] at h
    refine ⟨fun z => absurd z (by decide), fun _ => ?_⟩
    have h1 := is_t.mp a
    have hT3 := hT2.up (q := p + 1) (by omega)
    rintro M38 rfl
    have f4 : Fg (rE i) M2 (wr (wr M2 3 0 2 (nI (p + 1))) 84 0 i (vp_nar .char 101)) := (Fg.w (by unfold rE; omega)).tr (Fg.w (by unfold rE; omega))
    have hT4 : CP2 x (p + 1) (wr (wr M2 3 0 2 (nI (p + 1))) 84 0 i (vp_nar .char 101)) := hT3.k (R := fun t _ _ => t = 84) (Fg.w rfl) (fun t k j z => by omega)
    have s4 : rd (wr (wr M2 3 0 2 (nI (p + 1))) 84 0 i (vp_nar .char 101)) 84 0 i = x.2 p := by rw [rd_wr_s, h1.2]; exact char_all ⟨101, by omega⟩
    have s5 : rd (wr (wr M2 3 0 2 (nI (p + 1))) 84 0 i (vp_nar .char 101)) 85 0 i = nI p := rdk (rdk s2 (by decide)) (by decide)
    generalize wr (wr M2 3 0 2 (nI (p + 1))) 84 0 i (vp_nar .char 101) = M4 at *
    refine y_number hT4 hi (c := 0) (by omega) (fun M5 f5 hT5 g5 => ?_)
    have ff := ((f2.tr f4).tr (f5.mo (fun _ _ _ => rN_rE)))
    by_cases b : nd x (p + 1) = 0
    · rw [if_pos b] at h
      rw [if_pos b]
      refine ⟨by rfl, h _ ff ?_ (fun z => absurd z Bool.false_ne_true)⟩
      rw [b] at hT5; exact hT5
    · rw [if_neg b] at h
      rw [if_neg b]
      refine ⟨by rfl, h _ ff hT5 (fun _ => ⟨?_, ?_, g5, fun z => absurd h1.2 z, fun z => absurd (h1.2.symm.trans z) (by decide)⟩)⟩
      · rw [f5 _ _ _ (by unfold rN; omega)]; exact s5
      · rw [f5 _ _ _ (by unfold rN; omega)]; exact s4
  rw [if_neg (by rw [a]; decide)] at h
  refine ⟨fun _ => ?_, fun z => absurd rfl z⟩
  refine y_skip hT2 99 (fun a => ?_) (fun a => ?_)
  · rw [if_pos a] at h
    refine ⟨fun z => absurd z (by decide), fun _ => ?_⟩
    have h1 := is_t.mp a
    have hT3 := hT2.up (q := p + 1) (by omega)
    rintro M38 rfl
    have f4 : Fg (rE i) M2 (wr (wr M2 3 0 2 (nI (p + 1))) 84 0 i (vp_nar .char 99)) := (Fg.w (by unfold rE; omega)).tr (Fg.w (by unfold rE; omega))
    have hT4 : CP2 x (p + 1) (wr (wr M2 3 0 2 (nI (p + 1))) 84 0 i (vp_nar .char 99)) := hT3.k (R := fun t _ _ => t = 84) (Fg.w rfl) (fun t k j z => by omega)
    have s4 : rd (wr (wr M2 3 0 2 (nI (p + 1))) 84 0 i (vp_nar .char 99)) 84 0 i = x.2 p := by rw [rd_wr_s, h1.2]; exact char_all ⟨99, by omega⟩
    have s5 : rd (wr (wr M2 3 0 2 (nI (p + 1))) 84 0 i (vp_nar .char 99)) 85 0 i = nI p := rdk (rdk s2 (by decide)) (by decide)
    generalize wr (wr M2 3 0 2 (nI (p + 1))) 84 0 i (vp_nar .char 99) = M4 at *
    refine y_number hT4 hi (c := 0) (by omega) (fun M5 f5 hT5 g5 => ?_)
    have ff := ((f2.tr f4).tr (f5.mo (fun _ _ _ => rN_rE)))
    refine tst2 (fun b => ?_) (fun b => ?_)
    · rw [if_pos b] at h
      refine h _ ff ?_ (fun z => absurd z Bool.false_ne_true)
      rw [b] at hT5; exact hT5
    rw [if_neg b] at h
    have hT5 : CP2 x (e0 x p) M5 := hT5
    refine y_skip hT5 44 (fun c => ?_) (fun c => ?_)
    rotate_left
    · rw [if_neg (by rw [c]; decide)] at h
      exact ⟨fun _ => h _ ff hT5 (fun z => absurd z Bool.false_ne_true), fun z => absurd rfl z⟩
    rw [if_pos c] at h
    refine ⟨fun z => absurd z (by decide), fun _ => ?_⟩
    have hT6 := hT5.up (q := e0 x p + 1) (is_t.mp c).1
    have f6 : Fg (fun t _ j => t = 3 ∧ j = 2) M5 (wr M5 3 0 2 (nI (e0 x p + 1))) := Fg.w ⟨rfl, rfl⟩
    generalize wr M5 3 0 2 (nI (e0 x p + 1)) = M6 at *
    refine y_number hT6 hi (c := 1) (by omega) (fun M7 f7 hT7 g7 => ?_)
    have ff := (ff.tr (f6.mo (fun t k j z => Or.inl z))).tr (f7.mo (fun _ _ _ => rN_rE))
    refine tst2 (fun b => ?_) (fun b => ?_)
    · rw [if_pos b] at h
      refine h _ ff ?_ (fun z => absurd z Bool.false_ne_true)
      rw [b] at hT7; exact hT7
    rw [if_neg b] at h
    have hT7 : CP2 x (e1 x p) M7 := hT7
    refine y_skip hT7 44 (fun c => ?_) (fun c => ?_)
    rotate_left
    · rw [if_neg (by rw [c]; decide)] at h
      exact ⟨fun _ => h _ ff hT7 (fun z => absurd z Bool.false_ne_true), fun z => absurd rfl z⟩
    rw [if_pos c] at h
    refine ⟨fun z => absurd z (by decide), fun _ => ?_⟩
    have hT8 := hT7.up (q := e1 x p + 1) (is_t.mp c).1
    have f8 : Fg (fun t _ j => t = 3 ∧ j = 2) M7 (wr M7 3 0 2 (nI (e1 x p + 1))) := Fg.w ⟨rfl, rfl⟩
    generalize wr M7 3 0 2 (nI (e1 x p + 1)) = M8 at *
    refine y_number hT8 hi (c := 2) (by omega) (fun M9 f9 hT9 g9 => ?_)
    have ff := (ff.tr (f8.mo (fun t k j z => Or.inl z))).tr (f9.mo (fun _ _ _ => rN_rE))
    refine tst2 (fun b => ?_) (fun b => ?_)
    · rw [if_pos b] at h
      refine h _ ff ?_ (fun z => absurd z Bool.false_ne_true)
      rw [b] at hT9; exact hT9
    rw [if_neg b] at h
    have back : ∀ t k j v, rd M4 t k j = v → ¬ (t = 3 ∧ j = 2) → ¬ (t = 286) → rd M9 t k j = v := fun t k j v e n1 n2 => by
      rw [f9 _ _ _ (by unfold rN; omega), f8 _ _ _ (by omega), f7 _ _ _ (by unfold rN; omega), f6 _ _ _ (by omega), f5 _ _ _ (by unfold rN; omega)]; exact e
    refine h _ ff hT9 (fun _ => ⟨back _ _ _ _ s5 (by omega) (by omega), back _ _ _ _ s4 (by omega) (by omega), ?_, fun _ => ?_, fun _ => g9⟩)
    · rw [f9 _ _ _ (by unfold rN; omega), f8 _ _ _ (by omega), f7 _ _ _ (by unfold rN; omega), f6 _ _ _ (by omega)]; exact g5
    · rw [f9 _ _ _ (by unfold rN; omega), f8 _ _ _ (by omega)]; exact g7
  rw [if_neg (by rw [a]; decide)] at h
  refine ⟨fun _ => ?_, fun z => absurd rfl z⟩
  refine y_skip hT2 114 (fun a => ?_) (fun a => ?_)
  rotate_left
  · rw [if_neg (by rw [a]; decide)] at h
    exact ⟨fun _ => h _ f2 hT2 (fun z => absurd z Bool.false_ne_true), fun z => absurd rfl z⟩
  rw [if_pos a] at h
  refine ⟨fun z => absurd z (by decide), fun _ => ?_⟩
  have h1 := is_t.mp a
  have hT3 := hT2.up (q := p + 1) (by omega)
  rintro M38 rfl
  have f4 : Fg (rE i) M2 (wr (wr M2 3 0 2 (nI (p + 1))) 84 0 i (vp_nar .char 114)) := (Fg.w (by unfold rE; omega)).tr (Fg.w (by unfold rE; omega))
  have hT4 : CP2 x (p + 1) (wr (wr M2 3 0 2 (nI (p + 1))) 84 0 i (vp_nar .char 114)) := hT3.k (R := fun t _ _ => t = 84) (Fg.w rfl) (fun t k j z => by omega)
  have s4 : rd (wr (wr M2 3 0 2 (nI (p + 1))) 84 0 i (vp_nar .char 114)) 84 0 i = x.2 p := by rw [rd_wr_s, h1.2]; exact char_all ⟨114, by omega⟩
  have s5 : rd (wr (wr M2 3 0 2 (nI (p + 1))) 84 0 i (vp_nar .char 114)) 85 0 i = nI p := rdk (rdk s2 (by decide)) (by decide)
  generalize wr (wr M2 3 0 2 (nI (p + 1))) 84 0 i (vp_nar .char 114) = M4 at *
  refine y_number hT4 hi (c := 0) (by omega) (fun M5 f5 hT5 g5 => ?_)
  have ff := ((f2.tr f4).tr (f5.mo (fun _ _ _ => rN_rE)))
  refine tst2 (fun b => ?_) (fun b => ?_)
  · rw [if_pos b] at h
    refine h _ ff ?_ (fun z => absurd z Bool.false_ne_true)
    rw [b] at hT5; exact hT5
  rw [if_neg b] at h
  have hT5 : CP2 x (e0 x p) M5 := hT5
  refine y_skip hT5 61 (fun c => ?_) (fun c => ?_)
  rotate_left
  · rw [if_neg (by rw [c]; decide)] at h
    exact ⟨fun _ => h _ ff hT5 (fun z => absurd z Bool.false_ne_true), fun z => absurd rfl z⟩
  rw [if_pos c] at h
  refine ⟨fun z => absurd z (by decide), fun _ => ?_⟩
  have hT6 := hT5.up (q := e0 x p + 1) (is_t.mp c).1
  have f6 : Fg (fun t _ j => t = 3 ∧ j = 2) M5 (wr M5 3 0 2 (nI (e0 x p + 1))) := Fg.w ⟨rfl, rfl⟩
  generalize wr M5 3 0 2 (nI (e0 x p + 1)) = M6 at *
  refine y_number hT6 hi (c := 1) (by omega) (fun M7 f7 hT7 g7 => ?_)
  have ff := (ff.tr (f6.mo (fun t k j z => Or.inl z))).tr (f7.mo (fun _ _ _ => rN_rE))
  refine tst2 (fun b => ?_) (fun b => ?_)
  · rw [if_pos b] at h
    refine h _ ff ?_ (fun z => absurd z Bool.false_ne_true)
    rw [b] at hT7; exact hT7
  rw [if_neg b] at h
  have back : ∀ t k j v, rd M4 t k j = v → ¬ (t = 3 ∧ j = 2) → ¬ (t = 286) → rd M7 t k j = v := fun t k j v e n1 n2 => by
    rw [f7 _ _ _ (by unfold rN; omega), f6 _ _ _ (by omega), f5 _ _ _ (by unfold rN; omega)]; exact e
  refine h _ ff hT7 (fun _ => ⟨back _ _ _ _ s5 (by omega) (by omega), back _ _ _ _ s4 (by omega) (by omega), ?_, fun _ => g7, fun z => absurd (h1.2.symm.trans z) (by decide)⟩)
  rw [f7 _ _ _ (by unfold rN; omega), f6 _ _ _ (by omega)]; exact g5
end CSC
