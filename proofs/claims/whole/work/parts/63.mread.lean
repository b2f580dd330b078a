/-! THE MODEL reads its text -/
def qE (t _k j : Nat) : Prop := (t = 7 ∧ (j = 8 ∨ j = 10)) ∨ t = 171
section MRD2
variable {B : Bk} {M : Mm} {H : Hs} {x : Tx}
theorem enA_ok {p : Nat} : enA x p = (decide (nd x (p + 1) = 0), e0 x p) := rfl
theorem entM_ent (p : Nat) : entM x p = (!(ent x p).1, (ent x p).2) ∧ ((ent x p).1 = true → (is x p 101 = false → is x p 99 = true → takeP x (enA x p) 44 = (false, e0 x p + 1) ∧ takeP x (enB x p 44) 44 = (false, e1 x p + 1)) ∧ (is x p 101 = false → is x p 99 = false → takeP x (enA x p) 61 = (false, e0 x p + 1))) := by
  have tb : ∀ (S : Sp) (c : Int32), S.1 = false → takeP x S c = if is x S.2 c = true then (false, S.2 + 1) else (true, S.2) := fun S c h => by unfold takeP; rw [if_neg (by rw [h]; decide)]
  have tt : ∀ (S : Sp) (c : Int32), S.1 = true → takeP x S c = S := fun S c h => by unfold takeP; rw [if_pos h]
  have nb1 : numP x (false, e0 x p + 1) = (decide (nd x (e0 x p + 1) = 0), e1 x p) := rfl
  have nb2 : numP x (false, e1 x p + 1) = (decide (nd x (e1 x p + 1) = 0), e2 x p) := rfl
  have z1 : nd x (e0 x p + 1) = 0 → e1 x p = e0 x p + 1 := fun z => by unfold e1; rw [z]
  have z2 : nd x (e1 x p + 1) = 0 → e2 x p = e1 x p + 1 := fun z => by unfold e2; rw [z]
  have nt : ∀ (S : Sp), S.1 = true → numP x S = S := fun S h => if_pos h
  unfold entM ent
  by_cases a : is x p 101 = true
  · rw [if_pos a, if_pos a, enA_ok]
    refine ⟨?_, fun _ => ⟨fun z => by rw [a] at z; exact absurd z (by decide), fun z => by rw [a] at z; exact absurd z (by decide)⟩⟩
    by_cases b : nd x (p + 1) = 0
    · rw [if_pos b, decide_eq_true b]
      unfold e0
      rw [b]
      rfl
    · rw [if_neg b, decide_eq_false b]; rfl
  rw [if_neg a, if_neg a]
  by_cases a9 : is x p 99 = true
  · rw [if_pos a9, if_pos a9]
    unfold enC enB
    rw [enA_ok]
    by_cases b : nd x (p + 1) = 0
    · rw [if_pos b, decide_eq_true b, tt _ _ rfl, nt _ rfl, tt _ _ rfl, nt _ rfl]
      refine ⟨?_, fun z => absurd z Bool.false_ne_true⟩
      unfold e0
      rw [b]
      rfl
    rw [if_neg b, decide_eq_false b, tb (false, e0 x p) 44 rfl]
    by_cases c : is x (e0 x p) 44 = true
    rotate_left
    · rw [if_neg c, if_neg c, nt _ rfl, tt _ _ rfl, nt _ rfl]
      exact ⟨rfl, fun z => absurd z Bool.false_ne_true⟩
    rw [if_pos c, if_pos c, nb1]
    by_cases b2 : nd x (e0 x p + 1) = 0
    · rw [if_pos b2, decide_eq_true b2, tt _ _ rfl, nt _ rfl, z1 b2]
      exact ⟨rfl, fun z => absurd z Bool.false_ne_true⟩
    rw [if_neg b2, decide_eq_false b2, tb (false, e1 x p) 44 rfl]
    by_cases c2 : is x (e1 x p) 44 = true
    rotate_left
    · rw [if_neg c2, if_neg c2, nt _ rfl]
      exact ⟨rfl, fun z => absurd z Bool.false_ne_true⟩
    rw [if_pos c2, if_pos c2, nb2]
    by_cases b3 : nd x (e1 x p + 1) = 0
    · rw [if_pos b3, decide_eq_true b3, z2 b3]
      exact ⟨rfl, fun z => absurd z Bool.false_ne_true⟩
    rw [if_neg b3, decide_eq_false b3]
    exact ⟨rfl, fun _ => ⟨fun _ _ => ⟨rfl, rfl⟩, fun _ z => by rw [a9] at z; exact absurd z (by decide)⟩⟩
  rw [if_neg a9, if_neg a9]
  by_cases a1 : is x p 114 = true
  rotate_left
  · rw [if_neg a1, if_neg a1]; exact ⟨rfl, fun z => absurd z Bool.false_ne_true⟩
  rw [if_pos a1, if_pos a1]
  unfold enB
  rw [enA_ok]
  by_cases b : nd x (p + 1) = 0
  · rw [if_pos b, decide_eq_true b, tt _ _ rfl, nt _ rfl]
    refine ⟨?_, fun z => absurd z Bool.false_ne_true⟩
    unfold e0
    rw [b]
    rfl
  rw [if_neg b, decide_eq_false b, tb (false, e0 x p) 61 rfl]
  by_cases c : is x (e0 x p) 61 = true
  rotate_left
  · rw [if_neg c, if_neg c, nt _ rfl]
    exact ⟨rfl, fun z => absurd z Bool.false_ne_true⟩
  rw [if_pos c, if_pos c, nb1]
  by_cases b2 : nd x (e0 x p + 1) = 0
  · rw [if_pos b2, decide_eq_true b2, z1 b2]
    exact ⟨rfl, fun z => absurd z Bool.false_ne_true⟩
  rw [if_neg b2, decide_eq_false b2]
  exact ⟨rfl, fun _ => ⟨fun _ z => absurd z a9, fun _ _ => rfl⟩⟩
/-- the numbers of an entry -/
def NM (x : Tx) (p : Nat) (M : Mm) : Prop := rd M 171 0 0 = v0 x p ∧ (x.2 p ≠ 101 → rd M 171 0 1 = v1 x p) ∧ (x.2 p = 99 → rd M 171 0 2 = v2 x p)
theorem q_entry {p : Nat} (hS : MPs x (false, p) M) {P : Int32 → Mm → Prop} (h : ∀ r M2, Fg qE M M2 → MPs x (entM x p) M2 → ((ent x p).1 = true → r = x.2 p ∧ NM x p M2) → P r M2) : wp_X7_entry M P := by
  have h6 := hS.1.1
  have hpl : p ≤ x.1 := hS.2.2.2
  obtain ⟨hent, hnum⟩ := entM_ent (x := x) p
  have pq : ∀ t k j, qP t k j → qE t k j := fun t k j z => Or.inl z
  unfold wp_X7_entry
  refine q_sign hS ?_
  have i1 : ∀ c : Int32, c ≠ -4 → (sgn x (false, p) = c ↔ is x p c = true) := fun c hc => by
    rw [sgn_is hc]; exact ⟨fun z => z.2, fun z => ⟨rfl, z⟩⟩
  have common : ∀ r : Int32, r = sgn x (false, p) → (is x p 101 = true ∨ is x p 99 = true ∨ is x p 114 = true) → (∀ M6 : Mm, M6 = wr M 7 0 8 ((rd M 7 0 8) + (1 : Int32)) → (wp_X7_number  M6 (fun (r8 : Int32) (M7 : Mm) => (∀ M9 : Mm, M9 = wr M7 171 0 0 r8 → ((¬ r = (101 : Int32) → (jn (fun (v11 : Int32) => (wp_X7_takes v11 M9 (fun (M14 : Mm) => (jn (fun (v15 : Int32) (M16 : Mm) => (∀ M19 : Mm, M19 = wr M16 171 0 1 v15 → ((¬ r = (114 : Int32) → (wp_X7_takes (44 : Int32) M19 (fun (M21 : Mm) => (jn (fun (v22 : Int32) (M23 : Mm) => (∀ M26 : Mm, M26 = wr M23 171 0 2 v22 → P r M26)) (fun J24 : Int32 → Mm → Prop => (((rd M21 7 0 10) = 0 → (wp_X7_number  M21 (fun (r29 : Int32) (M28 : Mm) => J24 r29 M28))) ∧ (¬ (rd M21 7 0 10) = 0 → J24 (0 : Int32) M21))))))) ∧ (r = (114 : Int32) → P r M19)))) (fun J17 : Int32 → Mm → Prop => (((rd M14 7 0 10) = 0 → (wp_X7_number  M14 (fun (r32 : Int32) (M31 : Mm) => J17 r32 M31))) ∧ (¬ (rd M14 7 0 10) = 0 → J17 (0 : Int32) M14))))))) (fun J12 : Int32 → Prop => ((¬ r = (99 : Int32) → J12 (61 : Int32)) ∧ (r = (99 : Int32) → J12 (44 : Int32)))))) ∧ (r = (101 : Int32) → P r M9)))))) := by
    intro r hr hor
    have hlt : p < x.1 := by
      rcases hor with z | z | z <;> exact (is_t.mp z).1
    have hr2 : r = x.2 p := by
      rw [hr]; unfold sgn; rw [if_neg Bool.false_ne_true]; exact if_pos hlt
    rintro M6 rfl
    have p1 : rd M 7 0 8 = nI p := hS.2.1
    rw [p1, mI6]
    have hS6 : MPs x (false, p + 1) (wr M 7 0 8 (nI (p + 1))) := hS.at hlt
    have f6 : Fg qE M (wr M 7 0 8 (nI (p + 1))) := Fg.w (Or.inl ⟨rfl, Or.inl rfl⟩)
    generalize wr M 7 0 8 (nI (p + 1)) = M6 at *
    refine q_number hS6 (fun M7 f7 hS7 => ?_)
    rintro M9 rfl
    have k171 : ∀ (M' : Mm) (j : Nat) (v : Int32), Fg (fun t _ i => t = 171 ∧ i = j) M' (wr M' 171 0 j v) := fun M' j v => Fg.w ⟨rfl, rfl⟩
    have hS9 : MPs x (enA x p) (wr M7 171 0 0 (numV x (false, p + 1))) := hS7.k (k171 M7 0 _) (fun t k j z => by omega)
    have f9 : Fg qE M (wr M7 171 0 0 (numV x (false, p + 1))) := (f6.tr (f7.mo pq)).tr ((k171 M7 0 _).mo (fun t k j z => Or.inr z.1))
    have n9 : rd (wr M7 171 0 0 (numV x (false, p + 1))) 171 0 0 = v0 x p := by rw [rd_wr_s]; rfl
    generalize wr M7 171 0 0 (numV x (false, p + 1)) = M9 at *
    have i101 : r = 101 ↔ is x p 101 = true := by rw [hr]; exact i1 101 (by decide)
    have i99 : r = 99 ↔ is x p 99 = true := by rw [hr]; exact i1 99 (by decide)
    have i114 : r = 114 ↔ is x p 114 = true := by rw [hr]; exact i1 114 (by decide)
    have h := h r
    refine ⟨fun q => ?_, fun q => ?_⟩
    rotate_left
    · have a := i101.mp q
      refine h _ f9 ?_ (fun _ => ⟨hr2, n9, fun z => absurd (is_t.mp a).2 z, fun z => absurd ((is_t.mp a).2.symm.trans z) (by decide)⟩)
      have : entM x p = enA x p := if_pos a
      rw [this]; exact hS9
    have a : is x p 101 = false := by rw [← Bool.not_eq_true]; exact fun z => q (i101.mpr z)
    unfold jn
    refine ⟨fun q9 => ?_, fun q9 => ?_⟩
    · -- r
      have b : is x p 99 = false := by rw [← Bool.not_eq_true]; exact fun z => q9 (i99.mpr z)
      have c : is x p 114 = true := by
        rcases hor with z | z | z
        · rw [a] at z; exact absurd z (by decide)
        · rw [b] at z; exact absurd z (by decide)
        · exact z
      have eM : entM x p = enB x p 61 := by
        unfold entM
        rw [if_neg (by rw [a]; decide), if_neg (by rw [b]; decide), if_pos c]
      refine q_takes hS9 (by decide) (fun M14 f14 hS14 => ?_)
      refine q_mnum hS14 (fun M16 f16 hS16 => ?_)
      rintro M19 rfl
      refine ⟨fun z => absurd (i114.mpr c) z, fun _ => ?_⟩
      refine h _ (((f9.tr (f14.mo pq)).tr (f16.mo pq)).tr ((k171 _ 1 _).mo (fun t k j z => Or.inr z.1))) ?_ (fun hok => ⟨hr2, ?_, fun _ => ?_, fun z => ?_⟩)
      · rw [eM]; exact hS16.k (k171 _ 1 _) (fun t k j z => by omega)
      · rw [rd_wr_n (by omega), f16 _ _ _ (by unfold qP; omega), f14 _ _ _ (by unfold qP; omega)]; exact n9
      · rw [rd_wr_s, (hnum hok).2 a b]; rfl
      · exact absurd (is_t.mpr ⟨hlt, z⟩) (by rw [b]; decide)
    · have b := i99.mp q9
      have eM : entM x p = enC x p := by
        unfold entM
        rw [if_neg (by rw [a]; decide), if_pos b]
      refine q_takes hS9 (by decide) (fun M14 f14 hS14 => ?_)
      refine q_mnum hS14 (fun M16 f16 hS16 => ?_)
      rintro M19 rfl
      have hS19 : MPs x (enB x p 44) (wr M16 171 0 1 (numV x (takeP x (enA x p) 44))) := hS16.k (k171 _ 1 _) (fun t k j z => by omega)
      have f19 : Fg qE M (wr M16 171 0 1 (numV x (takeP x (enA x p) 44))) := (((f9.tr (f14.mo pq)).tr (f16.mo pq)).tr ((k171 _ 1 _).mo (fun t k j z => Or.inr z.1)))
      have n19 : rd (wr M16 171 0 1 (numV x (takeP x (enA x p) 44))) 171 0 0 = v0 x p := by rw [rd_wr_n (by omega), f16 _ _ _ (by unfold qP; omega), f14 _ _ _ (by unfold qP; omega)]; exact n9
      have m19 : rd (wr M16 171 0 1 (numV x (takeP x (enA x p) 44))) 171 0 1 = numV x (takeP x (enA x p) 44) := rd_wr_s
      generalize wr M16 171 0 1 (numV x (takeP x (enA x p) 44)) = M19 at *
      refine ⟨fun _ => ?_, fun z => absurd (q9.symm.trans z) (by decide)⟩
      refine q_takes hS19 (by decide) (fun M21 f21 hS21 => ?_)
      refine q_mnum hS21 (fun M23 f23 hS23 => ?_)
      rintro M26 rfl
      refine h _ (((f19.tr (f21.mo pq)).tr (f23.mo pq)).tr ((k171 _ 2 _).mo (fun t k j z => Or.inr z.1))) ?_ (fun hok => ⟨hr2, ?_, fun _ => ?_, fun _ => ?_⟩)
      · rw [eM]; exact hS23.k (k171 _ 2 _) (fun t k j z => by omega)
      · rw [rd_wr_n (by omega), f23 _ _ _ (by unfold qP; omega), f21 _ _ _ (by unfold qP; omega)]; exact n19
      · rw [rd_wr_n (by omega), f23 _ _ _ (by unfold qP; omega), f21 _ _ _ (by unfold qP; omega), m19, ((hnum hok).1 a b).1]; rfl
      · rw [rd_wr_s, ((hnum hok).1 a b).2]; rfl
  unfold jn at common ⊢
  refine ⟨fun q => common _ rfl (Or.inl ((i1 101 (by decide)).mp q)), fun q => ⟨fun q2 => common _ rfl (Or.inr (Or.inl ((i1 99 (by decide)).mp q2))), fun q2 => ⟨fun q3 => common _ rfl (Or.inr (Or.inr ((i1 114 (by decide)).mp q3))), fun q3 => ?_⟩⟩⟩
  rintro M37 rfl
  have eM : entM x p = (true, p) := by
    unfold entM
    rw [if_neg (fun z => q ((i1 101 (by decide)).mpr z)), if_neg (fun z => q2 ((i1 99 (by decide)).mpr z)), if_neg (fun z => q3 ((i1 114 (by decide)).mpr z))]
  refine h _ _ (Fg.w (Or.inl ⟨rfl, Or.inr rfl⟩)) (by rw [eM]; exact mps_w hS rfl) (fun hok => ?_)
  rw [eM] at hent
  rw [hok] at hent
  exact absurd (congrArg Prod.fst hent) (show ¬ true = false by decide)
end MRD2
