/-! ===== shaped: the fewest strokes, the class's ===== -/
def S2 (a b : Int32) : Prop := ∃ z, ST a z ∧ ST z b
noncomputable def FS (a b : Int32) : Int32 := @ite _ (a = b) (Classical.propDecidable _) 0 (@ite _ (ST a b) (Classical.propDecidable _) 1 (@ite _ (S2 a b) (Classical.propDecidable _) 2 (-1)))
theorem S2_iff {a b : Int32} : S2 a b ↔ (ST (tn a) b ∨ ST (fl a) b ∨ ∃ x y w h, BX x y w h ∧ (ST (a &&& (bx x y w h ^^^ -1)) b ∨ ST (a ||| bx x y w h) b)) := by
  constructor
  · rintro ⟨z, rfl | rfl | ⟨x, y, w, h, hB, rfl | rfl⟩, q⟩
    · exact Or.inl q
    · exact Or.inr (Or.inl q)
    · exact Or.inr (Or.inr ⟨x, y, w, h, hB, Or.inl q⟩)
    · exact Or.inr (Or.inr ⟨x, y, w, h, hB, Or.inr q⟩)
  · rintro (q | q | ⟨x, y, w, h, hB, q | q⟩)
    · exact ⟨_, Or.inl rfl, q⟩
    · exact ⟨_, Or.inr (Or.inl rfl), q⟩
    · exact ⟨_, Or.inr (Or.inr ⟨x, y, w, h, hB, Or.inl rfl⟩), q⟩
    · exact ⟨_, Or.inr (Or.inr ⟨x, y, w, h, hB, Or.inr rfl⟩), q⟩
theorem five_sub {x : Nat} (h : x ≤ 5) : (5 : Int32) - nI x = nI (5 - x) := by rw [show (5 : Int32) = nI 5 from rfl, pk_sub h]
theorem c_bxl {a b : Int32} (ha : C25 a) (hb : C25 b) {y h : Nat} (hy : y < 5) (hh : 1 ≤ h) (h2 : y + h ≤ 5) : YN (f_X0_byBoxOfLines a b (nI y) (nI h) (tn (tn (tn b))) (fl b)) (∃ x, 0 ≤ x ∧ x < 5 ∧ ∃ w, 1 ≤ w ∧ w < 6 - x ∧ (ST (a &&& (bx x y w h ^^^ -1)) b ∨ ST (a ||| bx x y w h) b)) 1 0 := by
  unfold f_X0_byBoxOfLines f_X0_byBoxOfLines_J3
  refine yn_elim (lp_find (f := fun q => f_X0_byBoxOfLines_S3 a b (nI y) (nI h) (tn (tn (tn b))) (fl b) q) (n := 5) ?_ 5 0 rfl (fun x _ hx => ?_)) rfl rfl
  · show f_X0_byBoxOfLines_S3 _ _ _ _ _ _ (nI 5) = _
    unfold f_X0_byBoxOfLines_S3
    rw [if_pos gl_5]
  · show YN (f_X0_byBoxOfLines_S3 _ _ _ _ _ _ (nI x)) _ _ _
    unfold f_X0_byBoxOfLines_S3 f_X0_byBoxOfLines_J12
    rw [if_neg (ge_5 hx)]
    refine yn_elim (lp_find (f := fun q => f_X0_byBoxOfLines_S12 a b (nI y) (nI h) (tn (tn (tn b))) (fl b) (nI x) q) (n := 6 - x) ?_ (5 - x) 1 (by omega) (fun w h1 h3 => ?_)) rfl ?_
    · show f_X0_byBoxOfLines_S12 _ _ _ _ _ _ _ (nI (6 - x)) = _
      unfold f_X0_byBoxOfLines_S12
      rw [five_sub (by omega), if_pos (nI_lt (by omega) (by omega))]
    · show YN (f_X0_byBoxOfLines_S12 _ _ _ _ _ _ _ (nI w)) _ _ _
      unfold f_X0_byBoxOfLines_S12
      rw [five_sub (by omega), if_neg (nI_nlt (by omega) (by omega)), c_box hx hy h1 hh (by omega) h2, bnd_s]
      rcases c_one (a := a &&& (bx x y w h ^^^ -1)) (b := b) ha.clear hb with ⟨p, e⟩ | ⟨p, e⟩
      · rw [e, bnd_s, if_neg (show ¬ (1 : Int32) = 0 by decide)]
        exact Or.inl ⟨Or.inl p, rfl⟩
      · rw [e, bnd_s, if_pos (show (0 : Int32) = 0 from rfl)]
        rcases c_one (a := a ||| bx x y w h) (b := b) (ha.or (mk_C25 _)) hb with ⟨p', e'⟩ | ⟨p', e'⟩
        · rw [e', bnd_s, if_neg (show ¬ (1 : Int32) = 0 by decide)]
          exact Or.inl ⟨Or.inr p', rfl⟩
        · rw [e', bnd_s, if_pos (show (0 : Int32) = 0 from rfl), nm_s, nI_1]
          exact Or.inr ⟨fun z => z.elim p p', rfl⟩
    · show f_X0_byBoxOfLines_J72 _ _ _ _ _ _ (nI x) = _
      unfold f_X0_byBoxOfLines_J72
      rw [nm_s, nI_1]
theorem c_boxes {a b : Int32} (ha : C25 a) (hb : C25 b) : YN (f_X0_fewestStrokes_J66 a b (tn (tn (tn b))) (fl b) (0 : Int32)) (∃ x y w h, BX x y w h ∧ (ST (a &&& (bx x y w h ^^^ -1)) b ∨ ST (a ||| bx x y w h) b)) 2 (-1) := by
  refine YN.iff (P := ∃ y, 0 ≤ y ∧ y < 5 ∧ ∃ h, 1 ≤ h ∧ h < 6 - y ∧ ∃ x, 0 ≤ x ∧ x < 5 ∧ ∃ w, 1 ≤ w ∧ w < 6 - x ∧ (ST (a &&& (bx x y w h ^^^ -1)) b ∨ ST (a ||| bx x y w h) b)) ?_ ⟨fun ⟨y, _, g1, h, g2, g3, x, _, g4, w, g5, g6, q⟩ => ⟨x, y, w, h, ⟨g5, g2, by omega, by omega⟩, q⟩, fun ⟨x, y, w, h, ⟨g1, g2, g3, g4⟩, q⟩ => ⟨y, Nat.zero_le _, by omega, h, g2, by omega, x, Nat.zero_le _, by omega, w, g1, by omega, q⟩⟩
  unfold f_X0_fewestStrokes_J66
  refine yn_elim (lp_find (f := fun q => f_X0_fewestStrokes_S66 a b (tn (tn (tn b))) (fl b) q) (n := 5) ?_ 5 0 rfl (fun y _ hy => ?_)) rfl rfl
  · show f_X0_fewestStrokes_S66 _ _ _ _ (nI 5) = _
    unfold f_X0_fewestStrokes_S66
    rw [if_pos gl_5]
  · show YN (f_X0_fewestStrokes_S66 _ _ _ _ (nI y)) _ _ _
    unfold f_X0_fewestStrokes_S66 f_X0_fewestStrokes_J75
    rw [if_neg (ge_5 hy)]
    refine yn_elim (lp_find (f := fun q => f_X0_fewestStrokes_S75 a b (tn (tn (tn b))) (fl b) (nI y) q) (n := 6 - y) ?_ (5 - y) 1 (by omega) (fun h h1 h3 => ?_)) rfl ?_
    · show f_X0_fewestStrokes_S75 _ _ _ _ _ (nI (6 - y)) = _
      unfold f_X0_fewestStrokes_S75
      rw [five_sub (by omega), if_pos (nI_lt (by omega) (by omega))]
    · show YN (f_X0_fewestStrokes_S75 _ _ _ _ _ (nI h)) _ _ _
      unfold f_X0_fewestStrokes_S75
      rw [five_sub (by omega), if_neg (nI_nlt (by omega) (by omega))]
      rcases c_bxl ha hb (y := y) (h := h) hy h1 (by omega) with ⟨p, e⟩ | ⟨p, e⟩
      · rw [e, bnd_s, if_neg (show ¬ (1 : Int32) = 0 by decide)]
        exact Or.inl ⟨p, rfl⟩
      · rw [e, bnd_s, if_pos (show (0 : Int32) = 0 from rfl), nm_s, nI_1]
        exact Or.inr ⟨p, rfl⟩
    · show f_X0_fewestStrokes_J106 _ _ _ _ (nI y) = _
      unfold f_X0_fewestStrokes_J106
      rw [nm_s, nI_1]
theorem c_few {a b : Int32} (ha : C25 a) (hb : C25 b) : f_X0_fewestStrokes a b = some (FS a b) := by
  have d10 : ¬ (1 : Int32) = 0 := by decide
  have d00 : (0 : Int32) = 0 := rfl
  unfold f_X0_fewestStrokes FS
  by_cases e : a = b
  · rw [if_pos e, if_pos e]
  rw [if_neg e, if_neg e, c_turned, bnd_s, c_turned, bnd_s, c_turned, bnd_s, c_flipped, bnd_s]
  rcases c_one ha hb with ⟨p, e1⟩ | ⟨p, e1⟩
  · rw [e1, bnd_s, if_neg d10, if_pos p]
  rw [e1, bnd_s, if_pos d00, if_neg p, c_turned, bnd_s]
  rcases c_one (a := tn a) (mk_C25 _) hb with ⟨p1, e2⟩ | ⟨p1, e2⟩
  · rw [e2, bnd_s, if_neg d10, if_pos (S2_iff.mpr (Or.inl p1))]
  rw [e2, bnd_s, if_pos d00, c_flipped, bnd_s]
  rcases c_one (a := fl a) (mk_C25 _) hb with ⟨p2, e3⟩ | ⟨p2, e3⟩
  · rw [e3, bnd_s, if_neg d10, if_pos (S2_iff.mpr (Or.inr (Or.inl p2)))]
  rw [e3, bnd_s, if_pos d00]
  rcases c_boxes ha hb with ⟨p3, e4⟩ | ⟨p3, e4⟩
  · rw [e4, if_pos (S2_iff.mpr (Or.inr (Or.inr p3)))]
  · rw [e4, if_neg (fun z => (S2_iff.mp z).elim p1 (fun z => z.elim p2 p3))]
