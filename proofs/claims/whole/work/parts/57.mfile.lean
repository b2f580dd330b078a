/-! FILING in the model -/
section MFL
variable {B : Bk} {M : Mm} {y : Ys}
/-- the counting of a tray's filled places -/
theorem q_cnt {t : Nat} (ht : t < 3) (hY : MY y M) {P : Int32 → Mm → Prop} (h : P (nI (cntY y t)) M) : ∃ n, lq2 (fun self21 (x23 : Int32) (x24 : Int32) => (((4 : Int32) ≤ x24 → P x23 M) ∧ (¬ (4 : Int32) ≤ x24 → (vp_in (((4 : Int32) * nI t) + x24) 12 ∧ (jn (fun (v27 : Int32) => (∀ x30 : Int32, x30 = (x23 + v27) → (∀ x31 : Int32, x31 = x24 + (1 : Int32) → self21 x30 x31))) (fun J28 : Int32 → Prop => (((rd M 173 0 (((4 : Int32) * nI t) + x24).toNatClampNeg) ≤ 0 → J28 (0 : Int32)) ∧ (¬ (rd M 173 0 (((4 : Int32) * nI t) + x24).toNatClampNeg) ≤ 0 → J28 (1 : Int32))))))))) n (0 : Int32) (0 : Int32) := by
  refine lq2_i (fun s x => ∃ j, j ≤ 4 ∧ x = nI j ∧ s = nI (cnt (fun j => decide (y.1 (4 * t + j) ≠ 0)) j)) (fun _ x => 4 - x.toNatClampNeg) ?_ _ _ ⟨0, by omega, rfl, rfl⟩
  rintro s x ⟨j, hj, rfl, rfl⟩ self hself
  refine ⟨fun q => ?_, fun q => ?_⟩
  · rw [show (4 : Int32) = nI 4 from rfl, i32_le, nI_toInt (by omega), nI_toInt (by omega)] at q
    have : j = 4 := by omega
    subst this
    exact h
  · rw [show (4 : Int32) = nI 4 from rfl, i32_le, nI_toInt (by omega), nI_toInt (by omega)] at q
    rw [tI', vpI (by omega), nI_clamp (by omega)]
    obtain ⟨h2, h3, h4⟩ := hY (4 * t + j) (by omega)
    rw [h3]
    refine ⟨by omega, ?_⟩
    have step : ∀ v : Int32, v = (if decide (y.1 (4 * t + j) ≠ 0) = true then 1 else 0) → ∀ x30 : Int32, x30 = nI (cnt (fun j => decide (y.1 (4 * t + j) ≠ 0)) j) + v → ∀ x31 : Int32, x31 = nI j + 1 → self x30 x31 := by
      rintro v rfl x30 rfl x31 rfl
      refine hself _ _ ⟨j + 1, by omega, mI6 j, ?_⟩ ?_
      · show _ = nI (cnt (fun j => decide (y.1 (4 * t + j) ≠ 0)) j + (if decide (y.1 (4 * t + j) ≠ 0) = true then 1 else 0))
        split
        · exact mI6 _
        · rw [show (0 : Int32) = nI 0 from rfl, nI_add]
      · rw [mI6, nI_clamp (by omega), nI_clamp (by omega)]; omega
    unfold jn
    rw [show (0 : Int32) = nI 0 from rfl]
    refine cLe (by omega) (by omega) (fun w => step _ ?_) (fun w => step _ ?_)
    · rw [if_neg (by simp; omega)]; rfl
    · rw [if_pos (by simp; omega)]
theorem m_row {q : Nat} (hq : q < 12) {kd : Nat} (hkd : kd ≤ 2) (hY : MY y M) {f : Nat → Int32} {M2 : Mm} (h1 : ∀ j, (j < 4 → rd M2 174 0 (4 * q + j) = f j) ∧ ∀ i, ¬ (4 * q ≤ i ∧ i < 4 * q + 4) → rd M2 174 0 i = rd M 174 0 i) (h2 : rd M2 173 0 q = nI kd) (h3 : ∀ p, p ≠ q → rd M2 173 0 p = rd M 173 0 p) : MY (putY y q kd f) M2 :=
  my_put hY hkd h2 (fun j hj => (h1 j).1 hj) (fun p w => ⟨h3 p w, fun j hj => (h1 j).2 _ (by omega)⟩)
theorem m_file (hR : RM B M) (hY : MY y M) (a b k n : Int32) {P : Int32 → Mm → Prop} (h : ∀ M2, Fg qF M M2 → MY (fileA B y a b k n).2 M2 → P (fileA B y a b k n).1 M2) : wp_X7_file a b k n M P := by
  have hc6 := hR.1.c6; have hl4 := hR.1.l4; have he8 := hR.1.e8; have hk24 := hR.1.k24
  unfold fileA at h
  unfold wp_X7_file
  refine q_isPlace (tsw (fun q => ?_) (fun q => ?_))
  rotate_left
  · rw [if_neg (by rw [q]; decide)] at h; exact h _ Fg.rf hY
  rw [if_pos q] at h
  obtain ⟨t, p, ht, hp, rfl, rfl, e⟩ := plc_of q
  rw [e, nI_clamp (by omega)] at h
  refine q_in (tsw (fun qk => ?_) (fun qk => ?_))
  rotate_left
  · have qk : inb k 0 1 = false := qk
    rw [if_neg (by rintro rfl; exact absurd qk (by decide)), if_neg (by rintro rfl; exact absurd qk (by decide))] at h
    exact h _ Fg.rf hY
  have qk : inb k 0 1 = true := qk
  obtain ⟨k1, k2, k3⟩ := bd_nI (inb_t.mp qk)
  -- the copying, for either kind
  have copy : ∀ (kd base num : Nat) (f : Nat → Int32) (w : Int32), kd = k.toNatClampNeg → w = nI num → base + 4 * num + 4 ≤ 136 → (∀ j, j < 4 → rd M 160 0 (base + 4 * num + j) = f j) → (base = if k = 0 then 8 else 32) → (∀ M2, Fg qF M M2 → MY (putY y (4 * t + p) (kd + 1) f) M2 → P (nI (cntY (putY y (4 * t + p) (kd + 1) f) t)) M2) → (∀ x13 : Int32, x13 = (((4 : Int32) * nI t) + nI p) → (vp_in x13 12 ∧ (∀ M15 : Mm, M15 = wr M 173 0 x13.toNatClampNeg (k + (1 : Int32)) → (∃ n, lq2 (fun self16 (x18 : Int32) (M19 : Mm) => (((4 : Int32) ≤ x18 → (∃ n, lq2 (fun self21 (x23 : Int32) (x24 : Int32) => (((4 : Int32) ≤ x24 → P x23 M19) ∧ (¬ (4 : Int32) ≤ x24 → (vp_in (((4 : Int32) * nI t) + x24) 12 ∧ (jn (fun (v27 : Int32) => (∀ x30 : Int32, x30 = (x23 + v27) → (∀ x31 : Int32, x31 = x24 + (1 : Int32) → self21 x30 x31))) (fun J28 : Int32 → Prop => (((rd M19 173 0 (((4 : Int32) * nI t) + x24).toNatClampNeg) ≤ 0 → J28 (0 : Int32)) ∧ (¬ (rd M19 173 0 (((4 : Int32) * nI t) + x24).toNatClampNeg) ≤ 0 → J28 (1 : Int32))))))))) n (0 : Int32) (0 : Int32))) ∧ (¬ (4 : Int32) ≤ x18 → (jn (fun (v33 : Int32) => (vp_in ((v33 + ((4 : Int32) * w)) + x18) 136 ∧ (vp_in (((4 : Int32) * x13) + x18) 48 ∧ (∀ M38 : Mm, M38 = wr M19 174 0 (((4 : Int32) * x13) + x18).toNatClampNeg (rd M19 160 0 ((v33 + ((4 : Int32) * w)) + x18).toNatClampNeg) → (∀ x39 : Int32, x39 = x18 + (1 : Int32) → self16 x39 M38))))) (fun J34 : Int32 → Prop => ((¬ k = 0 → J34 (32 : Int32)) ∧ (k = 0 → J34 (8 : Int32)))))))) n (0 : Int32) M15)))) := by
    rintro kd base num f w hkd rfl hb hf hbase hfin x13 rfl
    have c1 : (1 : Int).toNat = 1 := rfl
    rw [tI', vpI (by omega), nI_clamp (by omega)]
    refine ⟨by omega, ?_⟩
    rintro M15 rfl
    refine lq2_i (fun x M' => ∃ j, j ≤ 4 ∧ x = nI j ∧ Fg qF M M' ∧ rd M' 173 0 (4 * t + p) = k + 1 ∧ (∀ p', p' ≠ 4 * t + p → rd M' 173 0 p' = rd M 173 0 p') ∧ ∀ i, (4 * (4 * t + p) ≤ i ∧ i < 4 * (4 * t + p) + j → rd M' 174 0 i = f (i - 4 * (4 * t + p))) ∧ (¬ (4 * (4 * t + p) ≤ i ∧ i < 4 * (4 * t + p) + j) → rd M' 174 0 i = rd M 174 0 i)) (fun x _ => 4 - x.toNatClampNeg) ?_ _ _ ⟨0, by omega, rfl, Fg.w (Or.inl rfl), rd_wr_s, fun p' w => rd_wr_n (by omega), fun i => ⟨fun z => by omega, fun _ => rd_wr_n (by omega)⟩⟩
    rintro x M' ⟨j, hj, rfl, hF, h1, h2, hV⟩ self hself
    refine ⟨fun q9 => ?_, fun q9 => ?_⟩
    · rw [show (4 : Int32) = nI 4 from rfl, i32_le, nI_toInt (by omega), nI_toInt (by omega)] at q9
      have : j = 4 := by omega
      subst this
      have hm : MY (putY y (4 * t + p) (kd + 1) f) M' := m_row (by omega) (by omega) hY (fun j => ⟨fun hj => by
        rw [(hV _).1 (by omega)]
        congr 1
        omega, fun i z => (hV i).2 z⟩) (by rw [h1, k1, mI6, hkd]) h2
      exact q_cnt ht hm (hfin _ hF hm)
    · rw [show (4 : Int32) = nI 4 from rfl, i32_le, nI_toInt (by omega), nI_toInt (by omega)] at q9
      have fin : ∀ v : Int32, v = nI base → (vp_in ((v + ((4 : Int32) * nI num)) + nI j) 136 ∧ (vp_in (((4 : Int32) * nI (4 * t + p)) + nI j) 48 ∧ (∀ M38 : Mm, M38 = wr M' 174 0 (((4 : Int32) * nI (4 * t + p)) + nI j).toNatClampNeg (rd M' 160 0 ((v + ((4 : Int32) * nI num)) + nI j).toNatClampNeg) → (∀ x39 : Int32, x39 = nI j + (1 : Int32) → self x39 M38)))) := by
        rintro v rfl
        rw [tI', show (4 : Int32) = nI 4 from rfl, pk_mul, nI_add, nI_add, vpI (by omega), vpI (by omega), nI_clamp (by omega), nI_clamp (by omega)]
        refine ⟨by omega, by omega, ?_⟩
        rintro M38 rfl x39 rfl
        have g : rd M' 160 0 (base + 4 * num + j) = f j := by rw [hF _ _ _ (by unfold qF; omega)]; exact hf j (by omega)
        rw [g]
        refine hself _ _ ⟨j + 1, by omega, mI6 j, hF.tr (Fg.w (Or.inr rfl)), rdk h1 (by decide), fun p' w => rdk (h2 p' w) (by decide), fun i => ?_⟩ ?_
        · by_cases z : i = 4 * (4 * t + p) + j
          · subst z
            rw [rd_wr_s]
            refine ⟨fun _ => ?_, fun z => by omega⟩
            congr 1
            omega
          · rw [rd_wr_n (by omega)]
            exact ⟨fun y => (hV i).1 (by omega), fun y => (hV i).2 (by omega)⟩
        · rw [mI6, nI_clamp (by omega), nI_clamp (by omega)]; omega
      unfold jn
      refine ⟨fun z => fin _ (by rw [hbase, if_neg z]; rfl), fun z => fin _ (by rw [hbase, if_pos z]; rfl)⟩
  unfold jn at copy ⊢
  by_cases z0 : k = 0
  · rw [if_pos z0] at h
    refine ⟨fun z => absurd z0 z, fun _ => ?_⟩
    refine q_isCover hR (tst (fun q1 => ?_) (fun q1 => ?_))
    · rw [if_neg (by rw [q1]; decide)] at h; exact h _ Fg.rf hY
    rw [if_pos q1] at h
    obtain ⟨c, hc, rfl⟩ := inR_nI q1
    rw [nI_clamp (by omega)] at h
    have kz : 0 = k.toNatClampNeg := by rw [z0]; rfl
    have cp := fun hh => copy 0 8 c (fun j => B (1 + j) c) (nI c) kz rfl (by omega) (fun j hj => by
      have : j = 0 ∨ j = 1 ∨ j = 2 ∨ j = 3 := by omega
      rcases this with rfl | rfl | rfl | rfl
      · exact hR.c1 hc
      · exact hR.c2 hc
      · exact hR.c3 hc
      · exact hR.c4 hc) (by rw [if_pos z0]) hh
    refine ⟨fun q2 => ?_, fun q2 => ⟨fun q3 => ?_, fun q3 => ?_⟩⟩
    · rw [if_pos (Or.inl q2)] at h; exact cp h
    · rw [if_pos (Or.inr (q3.trans z0))] at h; exact cp h
    · rw [if_neg (by rintro (z | z); exact q2 z; exact q3 (z.trans z0.symm))] at h; exact h _ Fg.rf hY
  · rw [if_neg z0] at h
    have z1 : k = 1 := by
      have h0 : ¬ k.toNatClampNeg = 0 := fun z => z0 (by rw [k1, z]; rfl)
      rw [k1, show k.toNatClampNeg = 1 by omega]
      rfl
    rw [if_pos z1] at h
    refine ⟨fun _ => ?_, fun z => absurd z z0⟩
    refine q_isLayer hR (tsw (fun q1 => ?_) (fun q1 => ?_))
    rotate_left
    · rw [if_neg (by rw [q1]; decide)] at h; exact h _ Fg.rf hY
    rw [if_pos q1] at h
    obtain ⟨c, hc, rfl⟩ := inR_nI q1
    rw [nI_clamp (by omega)] at h
    have kz : 1 = k.toNatClampNeg := by rw [z1]; rfl
    have cp := fun hh => copy 1 32 c (fun j => B (6 + j) c) (nI c) kz rfl (by omega) (fun j hj => by
      have : j = 0 ∨ j = 1 ∨ j = 2 ∨ j = 3 := by omega
      rcases this with rfl | rfl | rfl | rfl
      · exact hR.l6 hc
      · exact hR.l7 hc
      · exact hR.l8 hc
      · exact hR.l9 hc) (by rw [if_neg z0]) hh
    refine ⟨fun q2 => ?_, fun q2 => ⟨fun q3 => ?_, fun q3 => ?_⟩⟩
    · rw [if_pos (Or.inl q2)] at h; exact cp h
    · rw [if_pos (Or.inr (q3.trans z1))] at h; exact cp h
    · rw [if_neg (by rintro (z | z); exact q2 z; exact q3 (z.trans z1.symm))] at h; exact h _ Fg.rf hY
end MFL
