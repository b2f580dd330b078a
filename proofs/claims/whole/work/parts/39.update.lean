/-! THE DATA CHANGED IN ONE PLACE -/
section UPD
variable {B : Bk} {M : Mm}
theorem nC_set {f i : Nat} {v : Int32} (h : f ≠ 0) : nC (setB B f i v) = nC B := by unfold nC; rw [setB_f (fun z => h z.symm)]
theorem nL_set {f i : Nat} {v : Int32} (h : f ≠ 5) : nL (setB B f i v) = nL B := by unfold nL; rw [setB_f (fun z => h z.symm)]
theorem nE_set {f i : Nat} {v : Int32} (h : f ≠ 12) : nE (setB B f i v) = nE B := by unfold nE; rw [setB_f (fun z => h z.symm)]
theorem nK_set {f i : Nat} {v : Int32} (h : f ≠ 15) : nK (setB B f i v) = nK B := by unfold nK; rw [setB_f (fun z => h z.symm)]
theorem WF.set13 (h : WF B) {e : Nat} {v : Int32} (hv : bd v 0 364) : WF (setB B 13 e v) := by
  unfold WF
  rw [nC_set (by decide), nL_set (by decide), nE_set (by decide), nK_set (by decide)]
  refine ⟨h.1, h.2.1, h.2.2.1, h.2.2.2.1, h.rate, h.cov, h.lay, h.ded, fun e' he' => ⟨?_, (h.ev e' he').2⟩, h.cl⟩
  by_cases q : e' = e
  · subst q; rw [setB_s]; exact hv
  · rw [setB_i q]; exact (h.ev e' he').1
theorem WF.set14 (h : WF B) {e : Nat} {v : Int32} (hv : bd v 0 999999) : WF (setB B 14 e v) := by
  unfold WF
  rw [nC_set (by decide), nL_set (by decide), nE_set (by decide), nK_set (by decide)]
  refine ⟨h.1, h.2.1, h.2.2.1, h.2.2.2.1, h.rate, h.cov, h.lay, h.ded, fun e' he' => ⟨(h.ev e' he').1, ?_⟩, h.cl⟩
  by_cases q : e' = e
  · subst q; rw [setB_s]; exact hv
  · rw [setB_i q]; exact (h.ev e' he').2
theorem WF.set10 (h : WF B) {g : Nat} {v : Int32} (hv : bd v 0 99999) : WF (setB B 10 g v) := by
  unfold WF
  rw [nC_set (by decide), nL_set (by decide), nE_set (by decide), nK_set (by decide)]
  refine ⟨h.1, h.2.1, h.2.2.1, h.2.2.2.1, h.rate, h.cov, h.lay, fun g' hg' => ?_, h.ev, h.cl⟩
  by_cases q : g' = g
  · subst q; rw [setB_s]; exact hv
  · rw [setB_i q]; exact h.ded g' hg'
theorem WF.set11 (h : WF B) {v : Int32} (hv : bd v 0 100) : WF (setB B 11 0 v) := by
  unfold WF
  rw [nC_set (by decide), nL_set (by decide), nE_set (by decide), nK_set (by decide)]
  exact ⟨h.1, h.2.1, h.2.2.1, h.2.2.2.1, by rw [setB_s]; exact hv, h.cov, h.lay, h.ded, h.ev, h.cl⟩
/-- a row of the model's with one place written -/
def ups (r : Nat → Int32) (j : Nat) (v : Int32) : Nat → Int32 := fun i => if i = j then v else r i
theorem ups_s {r : Nat → Int32} {j : Nat} {v : Int32} : ups r j v j = v := if_pos rfl
theorem ups_n {r : Nat → Int32} {j i : Nat} {v : Int32} (h : i ≠ j) : ups r j v i = r i := if_neg h
theorem rd_ups {t k j : Nat} {v : Int32} : rd (wr M t k j v) t k = ups (rd M t k) j v := by
  funext i
  show (if t = t ∧ k = k ∧ i = j then v else rd M t k i) = if i = j then v else rd M t k i
  simp
theorem RowR.set13 {r : Nat → Int32} (hW : WF B) (h : RowR B r) {e : Nat} {v : Int32} (he : e < nE B) : RowR (setB B 13 e v) (ups r (48 + e) v) := by
  have h6 := hW.c6
  have h4 := hW.l4
  have h8 := hW.e8
  have h24 := hW.k24
  unfold RowR
  rw [nC_set (by decide), nL_set (by decide), nE_set (by decide), nK_set (by decide)]
  refine ⟨⟨?_, ?_, ?_, ?_, ?_⟩, fun g hg => ?_, fun c hc => ⟨?_, ?_, ?_, ?_⟩, fun l hl => ⟨?_, ?_, ?_, ?_⟩, fun e' he' => ⟨?_, ?_⟩, fun k hk => ⟨?_, ?_, ?_⟩⟩
  all_goals first
    | (rw [ups_n (by omega), setB_f (by decide)]; first | exact h.1.1 | exact h.1.2.1 | exact h.1.2.2.1 | exact h.1.2.2.2.1 | exact h.1.2.2.2.2 | exact h.2.1 _ hg | exact (h.2.2.1 _ hc).1 | exact (h.2.2.1 _ hc).2.1 | exact (h.2.2.1 _ hc).2.2.1 | exact (h.2.2.1 _ hc).2.2.2 | exact (h.2.2.2.1 _ hl).1 | exact (h.2.2.2.1 _ hl).2.1 | exact (h.2.2.2.1 _ hl).2.2.1 | exact (h.2.2.2.1 _ hl).2.2.2 | exact (h.2.2.2.2.1 _ he').2 | exact (h.2.2.2.2.2 _ hk).1 | exact (h.2.2.2.2.2 _ hk).2.1 | exact (h.2.2.2.2.2 _ hk).2.2)
    | skip
  by_cases q : e' = e
  · subst q; rw [ups_s, setB_s]
  · rw [ups_n (by omega), setB_i q]; exact (h.2.2.2.2.1 _ he').1
theorem RowR.set14 {r : Nat → Int32} (hW : WF B) (h : RowR B r) {e : Nat} {v : Int32} (he : e < nE B) : RowR (setB B 14 e v) (ups r (56 + e) v) := by
  have h6 := hW.c6
  have h4 := hW.l4
  have h8 := hW.e8
  have h24 := hW.k24
  unfold RowR
  rw [nC_set (by decide), nL_set (by decide), nE_set (by decide), nK_set (by decide)]
  refine ⟨⟨?_, ?_, ?_, ?_, ?_⟩, fun g hg => ?_, fun c hc => ⟨?_, ?_, ?_, ?_⟩, fun l hl => ⟨?_, ?_, ?_, ?_⟩, fun e' he' => ⟨?_, ?_⟩, fun k hk => ⟨?_, ?_, ?_⟩⟩
  all_goals first
    | (rw [ups_n (by omega), setB_f (by decide)]; first | exact h.1.1 | exact h.1.2.1 | exact h.1.2.2.1 | exact h.1.2.2.2.1 | exact h.1.2.2.2.2 | exact h.2.1 _ hg | exact (h.2.2.1 _ hc).1 | exact (h.2.2.1 _ hc).2.1 | exact (h.2.2.1 _ hc).2.2.1 | exact (h.2.2.1 _ hc).2.2.2 | exact (h.2.2.2.1 _ hl).1 | exact (h.2.2.2.1 _ hl).2.1 | exact (h.2.2.2.1 _ hl).2.2.1 | exact (h.2.2.2.1 _ hl).2.2.2 | exact (h.2.2.2.2.1 _ he').1 | exact (h.2.2.2.2.2 _ hk).1 | exact (h.2.2.2.2.2 _ hk).2.1 | exact (h.2.2.2.2.2 _ hk).2.2)
    | skip
  by_cases q : e' = e
  · subst q; rw [ups_s, setB_s]
  · rw [ups_n (by omega), setB_i q]; exact (h.2.2.2.2.1 _ he').2
theorem RowR.set10 {r : Nat → Int32} (hW : WF B) (h : RowR B r) {g : Nat} {v : Int32} (hg : g < 3) : RowR (setB B 10 g v) (ups r (5 + g) v) := by
  have h6 := hW.c6
  have h4 := hW.l4
  have h8 := hW.e8
  have h24 := hW.k24
  unfold RowR
  rw [nC_set (by decide), nL_set (by decide), nE_set (by decide), nK_set (by decide)]
  refine ⟨⟨?_, ?_, ?_, ?_, ?_⟩, fun g' hg' => ?_, fun c hc => ⟨?_, ?_, ?_, ?_⟩, fun l hl => ⟨?_, ?_, ?_, ?_⟩, fun e' he' => ⟨?_, ?_⟩, fun k hk => ⟨?_, ?_, ?_⟩⟩
  all_goals first
    | (rw [ups_n (by omega), setB_f (by decide)]; first | exact h.1.1 | exact h.1.2.1 | exact h.1.2.2.1 | exact h.1.2.2.2.1 | exact h.1.2.2.2.2 | exact (h.2.2.1 _ hc).1 | exact (h.2.2.1 _ hc).2.1 | exact (h.2.2.1 _ hc).2.2.1 | exact (h.2.2.1 _ hc).2.2.2 | exact (h.2.2.2.1 _ hl).1 | exact (h.2.2.2.1 _ hl).2.1 | exact (h.2.2.2.1 _ hl).2.2.1 | exact (h.2.2.2.1 _ hl).2.2.2 | exact (h.2.2.2.2.1 _ he').1 | exact (h.2.2.2.2.1 _ he').2 | exact (h.2.2.2.2.2 _ hk).1 | exact (h.2.2.2.2.2 _ hk).2.1 | exact (h.2.2.2.2.2 _ hk).2.2)
    | skip
  by_cases q : g' = g
  · subst q; rw [ups_s, setB_s]
  · rw [ups_n (by omega), setB_i q]; exact h.2.1 _ hg'
theorem RowR.set11 {r : Nat → Int32} (hW : WF B) (h : RowR B r) {v : Int32} : RowR (setB B 11 0 v) (ups r 4 v) := by
  have h6 := hW.c6
  have h4 := hW.l4
  have h8 := hW.e8
  have h24 := hW.k24
  unfold RowR
  rw [nC_set (by decide), nL_set (by decide), nE_set (by decide), nK_set (by decide)]
  refine ⟨⟨?_, ?_, ?_, ?_, ?_⟩, fun g' hg' => ?_, fun c hc => ⟨?_, ?_, ?_, ?_⟩, fun l hl => ⟨?_, ?_, ?_, ?_⟩, fun e' he' => ⟨?_, ?_⟩, fun k hk => ⟨?_, ?_, ?_⟩⟩
  all_goals first
    | (rw [ups_n (by omega), setB_f (by decide)]; first | exact h.1.1 | exact h.1.2.1 | exact h.1.2.2.1 | exact h.1.2.2.2.1 | exact h.2.1 _ hg' | exact (h.2.2.1 _ hc).1 | exact (h.2.2.1 _ hc).2.1 | exact (h.2.2.1 _ hc).2.2.1 | exact (h.2.2.1 _ hc).2.2.2 | exact (h.2.2.2.1 _ hl).1 | exact (h.2.2.2.1 _ hl).2.1 | exact (h.2.2.2.1 _ hl).2.2.1 | exact (h.2.2.2.1 _ hl).2.2.2 | exact (h.2.2.2.2.1 _ he').1 | exact (h.2.2.2.2.1 _ he').2 | exact (h.2.2.2.2.2 _ hk).1 | exact (h.2.2.2.2.2 _ hk).2.1 | exact (h.2.2.2.2.2 _ hk).2.2)
    | (rw [ups_s, setB_s])
theorem RM.set13 (h : RM B M) {e : Nat} {v : Int32} (he : e < nE B) (hv : bd v 0 364) : RM (setB B 13 e v) (wr M 160 0 (48 + e) v) := ⟨h.1.set13 hv, by rw [rd_ups]; exact h.2.set13 h.1 he⟩
theorem RM.set14 (h : RM B M) {e : Nat} {v : Int32} (he : e < nE B) (hv : bd v 0 999999) : RM (setB B 14 e v) (wr M 160 0 (56 + e) v) := ⟨h.1.set14 hv, by rw [rd_ups]; exact h.2.set14 h.1 he⟩
/-- a place written and put back -/
theorem fr_back {T : List Nat} {M M1 M2 : Mm} {t k j : Nat} {v : Int32} (ht : t ∉ T) (h1 : Fr T M M1) (h2 : Fr T (wr M1 t k j v) M2) : Fr T M (wr M2 t k j (rd M1 t k j)) := fun t' k' j' ht' => by
  rw [rd_wr]
  split
  · rename_i q
    obtain ⟨rfl, rfl, rfl⟩ := q
    exact h1 _ _ _ ht
  · rename_i q
    rw [h2 _ _ _ ht', rd_wr_n q]
    exact h1 _ _ _ ht'
theorem m_returned (hR : RM B M) (a b : Int32) {P : Int32 → Mm → Prop} (h : ∀ M2, Fm M M2 → P (ansReturned B a b) M2) : wp_X7_returned a b M P := by
  have hc6 := hR.1.c6; have hl4 := hR.1.l4; have he8 := hR.1.e8; have hk24 := hR.1.k24
  unfold ansReturned at h
  unfold wp_X7_returned
  refine q_isEvent hR (tst (fun q => ?_) (fun q => ?_))
  · rw [if_neg (by rw [q]; decide)] at h; exact h _ Fr.rf
  rw [if_pos q] at h
  rw [hR.n1]
  have e0 : (nI (nL B)).toInt = ((nL B + 1 : Nat) : Int) - 1 := by rw [nI_toInt (by omega)]; omega
  refine q_in ?_
  rw [e0]
  refine tsw (fun q2 => ?_) (fun q2 => ?_)
  rotate_left
  · rw [if_neg (by rw [show inR b (nL B + 1) = false from q2]; decide)] at h; exact h _ Fr.rf
  have q2 : inR b (nL B + 1) = true := q2
  rw [if_pos q2] at h
  obtain ⟨e, he, rfl⟩ := inR_nI q
  obtain ⟨l, hl, rfl⟩ := inR_nI q2
  rw [nI_clamp (by omega), nI_clamp (by omega)] at h
  have key2 : ∀ (v7 : Int32) (M8 : Mm), Fm M M8 → v7 = part B e l → (vp_in ((56 : Int32) + nI e) 136 ∧ (∀ x12 : Int32, x12 = (rd M8 160 0 ((56 : Int32) + nI e).toNatClampNeg) → (∀ M13 : Mm, M13 = wr M8 160 0 ((56 : Int32) + nI e).toNatClampNeg (0 : Int32) → (jn (fun (v14 : Int32) (M15 : Mm) => (∀ M18 : Mm, M18 = wr M15 160 0 ((56 : Int32) + nI e).toNatClampNeg x12 → P (v14 - v7) M18)) (fun J16 : Int32 → Mm → Prop => (((rd M13 160 0 1) ≤ nI l → (wp_X7_retainedOf (nI e) M13 (fun (r21 : Int32) (M20 : Mm) => J16 r21 M20))) ∧ (¬ (rd M13 160 0 1) ≤ nI l → (wp_X7_borneOf (nI e) (nI l) M13 (fun (r23 : Int32) (M22 : Mm) => J16 r23 M22))))))))) := by
    rintro v7 M8 h8 rfl
    have hR8 := hR.kept h8
    rw [mI4, vpI (by omega), nI_clamp (by omega)]
    refine ⟨by omega, ?_⟩
    rintro x12 rfl M13 rfl
    have hR13 := hR8.set14 (v := 0) he (bd_0 (by decide))
    have hn : nL (setB B 14 e 0) = nL B := nL_set (by decide)
    have hne : nE (setB B 14 e 0) = nE B := nE_set (by decide)
    have key3 : ∀ (v14 : Int32) (M15 : Mm), Fm (wr M8 160 0 (56 + e) 0) M15 → v14 = part (setB B 14 e 0) e l → ∀ M18 : Mm, M18 = wr M15 160 0 (56 + e) (rd M8 160 0 (56 + e)) → P (v14 - part B e l) M18 := by
      rintro v14 M15 h15 rfl M18 rfl
      exact h _ (fr_back (by decide) h8 h15)
    unfold jn
    rw [hR13.n1, hn]
    refine cLe (by omega) (by omega) (fun q3 => ?_) (fun q3 => ?_)
    · exact q_retainedOf hR13 (by omega) (fun M2 h2 => key3 _ _ h2 (by unfold part; rw [if_neg (by omega)]))
    · exact q_borneOf hR13 (by omega) (by omega) (fun M2 h2 => key3 _ _ h2 (by unfold part; rw [if_pos (by omega)]))
  unfold jn at key2 ⊢
  rw [hR.n1]
  refine cLe (by omega) (by omega) (fun q3 => ?_) (fun q3 => ?_)
  · exact q_retainedOf hR he (fun M2 h2 => key2 _ _ h2 (by unfold part; rw [if_neg (by omega)]))
  · exact q_borneOf hR he q3 (fun M2 h2 => key2 _ _ h2 (by unfold part; rw [if_pos (by omega)]))
theorem m_paidIf (hR : RM B M) (a d : Int32) {P : Int32 → Mm → Prop} (h : ∀ M2, Fm M M2 → P (ansPaidIf B a d) M2) : wp_X7_paidIf a d M P := by
  have hc6 := hR.1.c6; have hl4 := hR.1.l4; have he8 := hR.1.e8; have hk24 := hR.1.k24
  unfold ansPaidIf at h
  unfold wp_X7_paidIf
  refine q_isEvent hR (tsw (fun q => ?_) (fun q => ?_))
  rotate_left
  · rw [if_neg (by rw [q]; decide)] at h; exact h _ Fr.rf
  rw [if_pos q] at h
  refine q_in (tsw (fun q2 => ?_) (fun q2 => ?_))
  rotate_left
  · rw [if_neg (by rw [show inb d 0 364 = false from q2]; decide)] at h; exact h _ Fr.rf
  rw [if_pos (show inb d 0 364 = true from q2)] at h
  obtain ⟨e, he, rfl⟩ := inR_nI q
  rw [nI_clamp (by omega)] at h
  rw [mI3, vpI (by omega), nI_clamp (by omega)]
  refine ⟨by omega, ?_⟩
  rintro x8 rfl M9 rfl
  have hR9 := hR.set13 (v := d) he (inb_t.mp q2)
  refine q_allPaid hR9 (fun M10 h10 => ?_)
  rintro M12 rfl
  have := h _ (fr_back (by decide) Fr.rf h10)
  rw [nC_set (by decide)]
  exact this
theorem m_leastLimit (hR : RM B M) (a : Int32) {P : Int32 → Mm → Prop} (h : ∀ M2, Fm M M2 → P (ansLeast B a) M2) : wp_X7_leastLimit a M P := by
  have hc6 := hR.1.c6; have hl4 := hR.1.l4; have he8 := hR.1.e8; have hk24 := hR.1.k24
  unfold ansLeast at h
  unfold wp_X7_leastLimit
  refine q_isCover hR (tsw (fun q => ?_) (fun q => ?_))
  rotate_left
  · rw [if_neg (by rw [q]; decide)] at h; exact h _ Fr.rf
  rw [if_pos q] at h
  obtain ⟨c, hc, rfl⟩ := inR_nI q
  rw [nI_clamp (by omega)] at h
  have hb : ∀ e, bd (net B e c) 0 99999 := fun e => net_bd hR.1 e hc
  have hsum : ∀ j, j ≤ nE B → ∃ n : Nat, sumI (fun e => net B e c) j = nI n ∧ n ≤ 99999 * j := fun j hj => by
    have := bd_sum (f := fun e => net B e c) (n := j) (b := 99999) (fun i _ => hb i) (by omega)
    exact ⟨_, this.1, this.2⟩
  refine lq3_i (fun s x M' => ∃ j, j ≤ nE B ∧ x = nI j ∧ s = mn 99999 (sumI (fun e => net B e c) j) ∧ Fm M M') (fun _ x _ => nE B - x.toNatClampNeg) ?_ _ _ _ ⟨0, by omega, rfl, by show (0 : Int32) = mn 99999 0; unfold mn; decide, Fr.rf⟩
  rintro s x M' ⟨j, hj, hx, hs, hF⟩ self hself
  subst hx hs
  have hR' := hR.kept hF
  rw [hR'.n2]
  have c99 : (99999 : Int32).toInt = 99999 := rfl
  refine cLe (by omega) (by omega) (fun q => ?_) (fun q => ?_)
  · have : j = nE B := by omega
    subst this
    have e1 : mn 99999 (mn 99999 (sumI (fun e => net B e c) (nE B))) = mn 99999 (sumI (fun e => net B e c) (nE B)) := by
      rw [i32_eq, mn_toInt, mn_toInt]
      split <;> (try split) <;> (try omega)
    have h2 := h _ hF
    rw [← e1] at h2
    exact h2
  · refine q_netOf hR' j hc (fun M2 hF2 => ?_)
    rintro x12 hx12 x13 rfl
    refine hself _ _ _ ⟨j + 1, by omega, mI6 j, ?_, hF.tr hF2⟩ ?_
    · obtain ⟨n, hn, hnb⟩ := hsum j hj
      obtain ⟨a1, a2, a3⟩ := bd_nI (hb j)
      have hx12 : x12 = mn 99999 (sumI (fun e => net B e c) j) + mn (99999 - mn 99999 (mn 99999 (sumI (fun e => net B e c) j))) (net B j c) := hx12
      rw [hx12]
      show _ = mn 99999 (sumI (fun e => net B e c) j + net B j c)
      rw [hn, a1]
      generalize (net B j c).toNatClampNeg = y at *
      have f1 : ∀ u v : Nat, u < 2 ^ 31 → v < 2 ^ 31 → mn (nI u) (nI v) = nI (if v < u then v else u) := fun u v hu hv => by
        rw [i32_eq, mn_toInt, nI_toInt hu, nI_toInt hv]
        split
        · rename_i z; rw [if_pos (by omega), nI_toInt (by omega)]
        · rename_i z; rw [if_neg (by omega), nI_toInt (by omega)]
      rw [show (99999 : Int32) = nI 99999 from rfl, nI_add]
      have hm := f1 99999 n (by omega) (by omega)
      rw [f1 99999 (n + y) (by omega) (by omega)]
      by_cases q5 : n < 99999
      · rw [if_pos q5] at hm
        rw [hm, hm, pk_sub (by omega), f1 _ _ (by omega) (by omega), nI_add]
        congr 1
        split <;> split <;> omega
      · rw [if_neg q5] at hm
        have hm2 := f1 99999 99999 (by omega) (by omega)
        rw [if_neg (by omega)] at hm2
        rw [hm, hm2, pk_sub (by omega), f1 _ _ (by omega) (by omega), nI_add]
        congr 1
        split <;> split <;> omega
    · rw [mI6, nI_clamp (by omega), nI_clamp (by omega)]; omega
theorem left_le (hW : WF B) {c : Nat} (hc : c < nC B) : ∀ p, p ≤ nE B → (left B c p).toInt ≤ (B 2 c).toInt := by
  intro p
  induction p with
  | zero => intro _; exact Int.le_refl _
  | succ p ih =>
    intro hp
    have h1 := ih (by omega)
    have h2 := net_bd hW (ordE B p) hc
    have h3 := left_bd hW hc p (by omega)
    obtain ⟨a1, a2, a3⟩ := bd_nI h3
    obtain ⟨b1, b2, b3⟩ := bd_nI (bd_mn h3 h2).1
    have e1 := (i32_nn h3.1).2.2
    have e2 := (i32_nn (bd_mn h3 h2).1.1).2.2
    have e3 : (mn (left B c p) (net B (ordE B p) c)).toInt ≤ (left B c p).toInt := by rw [mn_toInt]; split <;> omega
    show (left B c p - mn (left B c p) (net B (ordE B p) c)).toInt ≤ _
    rw [b1]
    generalize hy : (mn (left B c p) (net B (ordE B p) c)).toNatClampNeg = y at *
    rw [a1, pk_sub (by omega), nI_toInt (by omega)]
    omega
theorem pinall_bd (hW : WF B) {c : Nat} (hc : c < nC B) : bd (pinall B c) 0 99999 := by
  have h1 := left_bd hW hc (nE B) (Nat.le_refl _)
  have h2 := left_le hW hc (nE B) (Nat.le_refl _)
  have h3 := (hW.cov c hc).2.1
  obtain ⟨a1, a2, a3⟩ := bd_nI h1
  obtain ⟨b1, b2, b3⟩ := bd_nI (bd_wk h3 (show (0 : Int) ≤ 1 by decide) (Int.le_refl _))
  have e1 := (i32_nn h1.1).2.2
  have e2 := (i32_nn (show 0 ≤ (B 2 c).toInt by have := h3.1; omega)).2.2
  unfold pinall
  rw [a1, b1, pk_sub (by omega)]
  exact nI_bd (by omega) (by decide)
theorem allp_bd (hW : WF B) : bd (sumI (pinall B) (nC B)) 0 599994 := by
  have h6 := hW.c6
  have h := bd_sum (f := pinall B) (n := nC B) (b := 99999) (fun i hi => pinall_bd hW hi) (by omega)
  rw [h.1]
  exact nI_bd (by have := h.2; omega) (by decide)
theorem prem_bd (hW : WF B) : bd (sumI (fun c => B 3 c) (nC B)) 0 599994 := by
  have h6 := hW.c6
  have h := bd_sum (f := fun c => B 3 c) (n := nC B) (b := 99999) (fun i hi => (hW.cov i hi).2.2.1) (by omega)
  rw [h.1]
  exact nI_bd (by have := h.2; omega) (by decide)
theorem prem_1 (hW : WF B) (h : ¬ sumI (fun c => B 3 c) (nC B) = 0) : bd (sumI (fun c => B 3 c) (nC B)) 1 599994 := by
  have h1 := prem_bd hW
  refine ⟨?_, h1.2⟩
  have h2 := h1.1
  have h3 : ¬ (sumI (fun c => B 3 c) (nC B)).toInt = 0 := fun z => h (i32_eq.mpr z)
  omega
theorem m_ratioBits (hR : RM B M) {P : Int32 → Mm → Prop} (h : ∀ M2, Fm M M2 → P (ansRatio B) M2) : wp_X7_ratioBits M P := by
  unfold ansRatio at h
  unfold wp_X7_ratioBits
  refine q_premC hR ⟨fun q => ?_, fun q => ?_⟩
  · rw [if_neg q] at h
    refine q_allPaid hR (fun M2 h2 => ?_)
    obtain ⟨f1, f2⟩ := fp_b (allp_bd hR.1) (prem_1 hR.1 q)
    refine ⟨f1, ?_⟩
    unfold wp_Jxf58ca_floatToIntBits_5c35a wp_Jxf58ca_isNaN_12338
    refine ⟨fun _ => ⟨fun z => absurd rfl z, fun _ => h _ h2⟩, fun z => absurd f2 z⟩
  · rw [if_pos q] at h; exact h _ Fr.rf
end UPD
