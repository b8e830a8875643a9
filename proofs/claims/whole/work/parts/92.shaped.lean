/-! ===== shaped ===== -/
theorem nI_C25 {j : Nat} (hj : j < 33554432) : C25 (nI j) := fun i hi => by
  by_cases h : i < 32
  · rw [bt_nI j i h]
    exact Nat.testBit_lt_two_pow (Nat.lt_of_lt_of_le (show j < 2 ^ 25 from hj) (Nat.pow_le_pow_right (by decide) hi))
  · exact b_big (by omega)
theorem t_shaped : T_shaped Inv := by
  intro ls_hasImage tp_bytes tp_length tp_fault nw_sheets nw_cells nw_pasted nw_masks nw_uses nw_slots nw_slotK nw_slotX nw_slotY nw_setting nw_scenes nw_wishes nw_frames nw_frameRows nw_seen nw_seenRows nw_width nw_hands kp_sheets kp_cells kp_pasted kp_masks kp_uses kp_slots kp_slotK kp_slotX kp_slotY kp_setting kp_scenes kp_wishes kp_frames kp_frameRows kp_seen kp_seenRows kp_width kp_hands nr_size nr_rows kr_size kr_rows m_thrown m_world m_image m_hasImage m_tape m_taped m_faultAt m_rectangle m_hasRectangles hI a0 a1
  obtain ⟨ns, nl, nc, nf, nk, nr, ⟨b1, b2, b3, b4, b5, b6⟩, ⟨rfl, rfl, rfl, rfl, rfl, rfl⟩, ⟨w0, w1, w2, w3, w4, w5, w6, w7⟩, hwd, hSh, hSl, hIn, hSc, hFr, hSe, hRu⟩ := hI.1
  have hRc := hI.2.2.2
  rcases pk_ix a0 (n := ns) (by omega) with h | h | ⟨j, hj, rfl⟩
  · unfold f_X7_shaped f_X8_shaped
    rw [c_needSheet_no (by omega) (Or.inl h), m_noSheet_no b1 w0 (Or.inl h)]
    exact Or.inr (Or.inr ⟨_, _, rfl, rfl, rfl, hI⟩)
  · unfold f_X7_shaped f_X8_shaped
    rw [c_needSheet_no (by omega) (Or.inr h), m_noSheet_no b1 w0 (Or.inr h)]
    exact Or.inr (Or.inr ⟨_, _, rfl, rfl, rfl, hI⟩)
  · obtain ⟨q1, q2, q3, q4, q5, q6, q7⟩ := hSh j hj
    unfold f_X7_shaped f_X8_shaped
    rw [c_needSheet_yes (by omega) hj, m_noSheet_yes b1 w0 hj, xb_l, bnd_s, m_thr0, bnd_s, if_pos rfl, nm_s]
    dsimp only
    by_cases g1 : a1 < 0
    · rw [if_pos g1, wi_no (fun z => absurd (lt_i.mp g1) (Int.not_lt.mpr z.1)), if_pos (show (0 : Int32) = 0 from rfl)]
      unfold f_X8_shaped_J34
      rw [m_thr1, bnd_s, if_neg (show ¬ (1 : Int32) = 0 by decide)]
      exact Or.inr (Or.inl ⟨_, _, rfl, rfl, rfl, hI⟩)
    · by_cases g2 : a1 ≤ (33554431 : Int32)
      · rw [if_neg g1, if_pos g2, wi_yes ⟨Int.not_lt.mp (fun z => g1 (lt_i.mpr z)), le_i.mp g2⟩, if_neg (show ¬ (1 : Int32) = 0 by decide), chk_n (by omega) (by decide), nI_clamp (by omega)]
        obtain ⟨n, hn, rfl⟩ : ∃ n, n < 33554432 ∧ a1 = nI n := by
          rcases pk_ix a1 (n := 33554432) (by decide) with z | z | z
          · exact absurd z g1
          · refine absurd (le_i.mp g2) ?_
            have z' := le_i.mp z
            rw [show (nI 33554432).toInt = 33554432 from rfl] at z'
            rw [show (33554431 : Int32).toInt = 33554431 from rfl]
            omega
          · exact z
        obtain ⟨rect', e1, hR⟩ := m_rects hRc
        rw [c_few q5 (nI_C25 hn), bnd_s]
        unfold f_X8_shaped_J34
        rw [m_thr0, bnd_s, if_pos (show (0 : Int32) = 0 from rfl), e1, bnd_s, m_of1 (by omega), bnd_s, q2]
        dsimp only
        rw [m_few hR]
        exact Or.inl ⟨_, _, rfl, rfl, rfl, rfl, hI.1, hI.2.1, hI.2.2.1, Or.inr ⟨rfl, hR⟩⟩
      · rw [if_neg g1, if_neg g2, wi_no (fun z => g2 (le_i.mpr z.2)), if_pos (show (0 : Int32) = 0 from rfl)]
        unfold f_X8_shaped_J34
        rw [m_thr1, bnd_s, if_neg (show ¬ (1 : Int32) = 0 by decide)]
        exact Or.inr (Or.inl ⟨_, _, rfl, rfl, rfl, hI⟩)
theorem tt : TT Inv := tt_of t_shaped
