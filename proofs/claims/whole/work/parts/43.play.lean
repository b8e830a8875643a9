/-! ===== playing ===== -/
def RP (ns : Nat) (pasted masks w0 c u w : Nat → Int32) : Prop := ShO ns c pasted masks u w ∧ ∀ i, (i < 8 ∨ 32 ≤ i) → w i = w0 i
theorem C25.clear {x y : Int32} (h : C25 x) : C25 (x &&& (y ^^^ -1)) := h.and'
theorem use_both {ns s : Nat} {pasted masks w0 c u w : Nat → Int32} (h6 : ns ≤ 6) (hs : s < ns) (hR : RP ns pasted masks w0 c u w) :
    ∃ (x : Int32) (c' u' w' : Nat → Int32), f_X4_useSheet c u (nI s) = some (x, c', u') ∧ RP ns pasted masks w0 c' u' w' ∧
      bnd (f_X8_of w (nI s) 3) (fun u11 => bnd (f_X8_sets w (nI s) 3 (u11 + 1)) (fun u12 => bnd (f_X8_of u12 (nI s) 3) (fun u13 => if (u13 - u13 / (10 : Int32) * (10 : Int32)) = 0 then bnd (f_X8_of u12 (nI s) 1) (fun u14 => bnd (f_X8_frays u14) (fun u15 => if 0 ≤ u15 then bnd (f_X8_of u12 (nI s) 1) (fun u7 => bnd (f_X8_sets u12 (nI s) 1 (u7 &&& (((1 : Int32) <<< (u15 &&& 31)) ^^^ (-1 : Int32)))) (fun u8 => some ((1 : Int32), u8))) else some ((0 : Int32), u12))) else some ((0 : Int32), u12)))) = some (x, w') := by
  obtain ⟨hS, hw⟩ := hR
  obtain ⟨q1, q2, q3, q4, q5, q6, q7⟩ := hS s hs
  have hS1 : ShO ns c pasted masks (upd u s (u s + 1)) (upd w (8 + 4 * s + 3) (u s + 1)) := fun t ht => by
    obtain ⟨p1, p2, p3, p4, p5, p6, p7⟩ := hS t ht
    by_cases e : t = s
    · subst e
      exact ⟨(upd_ne (by omega)).trans p1, (upd_ne (by omega)).trans p2, (upd_ne (by omega)).trans p3, (upd_same _ _ _).trans (upd_same _ _ _).symm, p5, p6, p7⟩
    · exact ⟨(upd_ne (by omega)).trans p1, (upd_ne (by omega)).trans p2, (upd_ne (by omega)).trans p3, (upd_ne (by omega)).trans (p4.trans (upd_ne e).symm), p5, p6, p7⟩
  have hw1 : ∀ i, (i < 8 ∨ 32 ≤ i) → upd w (8 + 4 * s + 3) (u s + 1) i = w0 i := fun i hi => (upd_ne (by omega)).trans (hw i hi)
  have eC : f_X4_useSheet c u (nI s) = if (u s + 1) - (u s + 1) / (10 : Int32) * (10 : Int32) = 0 then (if f_X0_frayCell (c s) = 0 then some ((0 : Int32), upd c s (c s &&& (f_X0_frayCell (c s) ^^^ (-1 : Int32))), upd u s (u s + 1)) else some ((1 : Int32), upd c s (c s &&& (f_X0_frayCell (c s) ^^^ (-1 : Int32))), upd u s (u s + 1))) else some ((0 : Int32), c, upd u s (u s + 1)) := by
    unfold f_X4_useSheet
    simp only [chk_n (show s < 6 by omega) (show 6 < 2 ^ 31 by decide), nm_s, nI_clamp (show s < 2 ^ 31 by omega), upd_same]
  rw [eC, m_of3 (by omega), bnd_s, q4, m_sets3 (by omega), bnd_s, m_of3 (by omega), bnd_s, upd_same]
  by_cases h10 : (u s + 1) - (u s + 1) / (10 : Int32) * (10 : Int32) = 0
  · rw [if_pos h10, if_pos h10, m_of1 (by omega), bnd_s, upd_ne (by omega), q2]
    rcases fray_rel q5 with ⟨f1, f2⟩ | ⟨cc, hcc, f1, f2, p⟩
    · rw [f1, f2, bnd_s, if_pos rfl, if_neg (by decide)]
      refine ⟨_, _, _, _, rfl, ⟨?_, hw1⟩, rfl⟩
      rw [show c s &&& ((0 : Int32) ^^^ -1) = c s from b_ext (fun i hi => by rw [b_and, bt_not 0 hi, b_0]; simp), show upd c s (c s) = c from fa_upd_same rfl]
      exact hS1
    · rw [f1, f2, bnd_s, if_neg (bit_ne0 hcc), if_pos (nI_pos' (by omega)), bnd_s, m_sets1 (by omega), bnd_s]
      refine ⟨_, _, _, _, rfl, ⟨?_, fun i hi => (upd_ne (by omega)).trans (hw1 i hi)⟩, rfl⟩
      exact hS1.put hs _ q5.clear
  · rw [if_neg h10, if_neg h10]
    exact ⟨_, _, _, _, rfl, ⟨hS1, hw1⟩, rfl⟩
theorem one_both {ns nl nf f l : Nat} {pasted masks w0 c u w rows : Nat → Int32} {a t k3 : Int32} (h6 : ns ≤ 6) (h12 : nf ≤ 12) (hf : f < nf) (hl : l < 4) (hF : FrO ns nl nf rows w0) (hR : RP ns pasted masks w0 c u w) :
    ∃ (x : Int32) (c' u' w' : Nat → Int32), (∀ y, f_X4_playFrames_S4 (nI nf) rows y (nI (4 * f + l)) c u = some (.inl (y + x, nI (4 * f + l + 1), c', u'))) ∧ (∀ y, f_X8_play_S56 a t k3 (nI f) y (nI l) w = some (.inl (y + x, nI (l + 1), w'))) ∧ RP ns pasted masks w0 c' u' w' := by
  have ew : w (912 + 4 * f + l) = rows (4 * f + l) := (hR.2 _ (by omega)).trans ((hF f hf).2 l hl)
  have eF : f_X8_inFrame w (nI f) (nI l) = some (rows (4 * f + l)) := by
    unfold f_X8_inFrame
    rw [show ((912 : Int32) + (4 : Int32) * nI f) + nI l = nI (912 + 4 * f + l) by rw [show (4 : Int32) = nI 4 from rfl, pk_mul, show (912 : Int32) = nI 912 from rfl, nI_add, nI_add], chk_n (by omega) (by decide), nI_clamp (by omega), ew]
  have e4 : nI nf * (4 : Int32) = nI (nf * 4) := by rw [show (4 : Int32) = nI 4 from rfl, pk_mul]
  rcases (hF f hf).1.1 l hl with e | ⟨_, s, hs, e⟩
  · refine ⟨0, c, u, w, fun y => ?_, fun y => ?_, hR⟩
    · unfold f_X4_playFrames_S4 f_X4_playFrames_J37
      rw [e4, if_neg (nI_ge (by omega) (by omega)), chk_n (by omega) (by decide), nI_clamp (by omega), if_pos e, nm_s, nI_1, Int32.add_zero]
    · unfold f_X8_play_S56 f_X8_play_J157
      rw [if_neg (ge_4 hl), eF, bnd_s, if_neg (by rw [show rows (4 * f + l) = -1 from e]; decide), nm_s, nI_1, Int32.add_zero]
  · obtain ⟨x, c', u', w', g1, g2, g3⟩ := use_both h6 hs hR
    refine ⟨x, c', u', w', fun y => ?_, fun y => ?_, g2⟩
    · unfold f_X4_playFrames_S4 f_X4_playFrames_J37
      rw [e4, if_neg (nI_ge (by omega) (by omega)), chk_n (by omega) (by decide), nI_clamp (by omega), if_neg (by rw [show rows (4 * f + l) = nI s from e]; exact nI_m1 (by omega)), chk_n (by omega) (by decide), show rows (4 * f + l) = nI s from e, g1, bnd_s, nm_s, nm_s, nI_1]
    · unfold f_X8_play_S56 f_X8_play_J123 f_X8_play_J157
      rw [if_neg (ge_4 hl), eF, bnd_s, show rows (4 * f + l) = nI s from e, if_pos (nI_pos' (by omega))]
      rw [m_of3 (by omega), bnd_s, m_sets3 (by omega), bnd_s, m_of3 (by omega), bnd_s] at g3 ⊢
      split at g3
      · rename_i h10
        rw [if_pos h10]
        rw [m_of1 (by omega), bnd_s] at g3 ⊢
        obtain ⟨r, er, -⟩ := m_frays (d := upd w (8 + 4 * s + 3) (w (8 + 4 * s + 3) + 1) (8 + 4 * s + 1))
        rw [er, bnd_s] at g3 ⊢
        by_cases hr : 0 ≤ r
        · rw [if_pos hr] at g3 ⊢
          rw [bnd_s, m_sets1 (by omega), bnd_s] at g3 ⊢
          cases g3
          rw [nm_s, nm_s, nI_1]
        · rw [if_neg hr] at g3 ⊢
          cases g3
          rw [nm_s, nI_1, Int32.add_zero]
      · rename_i h10
        rw [if_neg h10, if_neg (by decide)]
        cases g3
        rw [nm_s, nI_1, Int32.add_zero]
