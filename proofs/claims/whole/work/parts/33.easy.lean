theorem t_fault : T_fault Inv := by
  intro ls_hasImage tp_bytes tp_length tp_fault nw_sheets nw_cells nw_pasted nw_masks nw_uses nw_slots nw_slotK nw_slotX nw_slotY nw_setting nw_scenes nw_wishes nw_frames nw_frameRows nw_seen nw_seenRows nw_width nw_hands kp_sheets kp_cells kp_pasted kp_masks kp_uses kp_slots kp_slotK kp_slotX kp_slotY kp_setting kp_scenes kp_wishes kp_frames kp_frameRows kp_seen kp_seenRows kp_width kp_hands nr_size nr_rows kr_size kr_rows m_thrown m_world m_image m_hasImage m_tape m_taped m_faultAt m_rectangle m_hasRectangles hI
  exact ⟨_, _, rfl, rfl, hI.2.2.1.1, hI⟩
theorem t_dark : T_dark Inv := by
  intro ls_hasImage tp_bytes tp_length tp_fault nw_sheets nw_cells nw_pasted nw_masks nw_uses nw_slots nw_slotK nw_slotX nw_slotY nw_setting nw_scenes nw_wishes nw_frames nw_frameRows nw_seen nw_seenRows nw_width nw_hands kp_sheets kp_cells kp_pasted kp_masks kp_uses kp_slots kp_slotK kp_slotX kp_slotY kp_setting kp_scenes kp_wishes kp_frames kp_frameRows kp_seen kp_seenRows kp_width kp_hands nr_size nr_rows kr_size kr_rows m_thrown m_world m_image m_hasImage m_tape m_taped m_faultAt m_rectangle m_hasRectangles hI a0
  obtain ⟨ns, nl, nc, nf, nk, nr, ⟨b1, b2, b3, b4, b5, b6⟩, ⟨rfl, rfl, rfl, rfl, rfl, rfl⟩, ⟨w0, w1, w2, w3, w4, w5, w6, w7⟩, hwd, hSh, hSl, hIn, hSc, hFr, hSe, hRu⟩ := hI.1
  unfold f_X7_dark f_X8_dark
  rcases pk_ix a0 (n := ns) (by omega) with h | h | ⟨j, hj, rfl⟩
  · rw [c_needSheet_no (by omega) (Or.inl h), m_noSheet_no b1 w0 (Or.inl h)]
    exact Or.inr ⟨_, _, rfl, rfl, rfl, hI⟩
  · rw [c_needSheet_no (by omega) (Or.inr h), m_noSheet_no b1 w0 (Or.inr h)]
    exact Or.inr ⟨_, _, rfl, rfl, rfl, hI⟩
  · rw [c_needSheet_yes (by omega) hj, m_noSheet_yes b1 w0 hj, xb_l, chk_n (by omega) (by decide), bnd_s, m_thr0, bnd_s, if_pos rfl, show (1 : Int32) = nI 1 from rfl, m_of (by omega) (by decide), bnd_s, nI_clamp (by omega)]
    exact Or.inl ⟨_, _, rfl, rfl, rfl, (hSh j hj).2.1.symm, hI⟩
theorem t_uses : T_uses Inv := by
  intro ls_hasImage tp_bytes tp_length tp_fault nw_sheets nw_cells nw_pasted nw_masks nw_uses nw_slots nw_slotK nw_slotX nw_slotY nw_setting nw_scenes nw_wishes nw_frames nw_frameRows nw_seen nw_seenRows nw_width nw_hands kp_sheets kp_cells kp_pasted kp_masks kp_uses kp_slots kp_slotK kp_slotX kp_slotY kp_setting kp_scenes kp_wishes kp_frames kp_frameRows kp_seen kp_seenRows kp_width kp_hands nr_size nr_rows kr_size kr_rows m_thrown m_world m_image m_hasImage m_tape m_taped m_faultAt m_rectangle m_hasRectangles hI a0
  obtain ⟨ns, nl, nc, nf, nk, nr, ⟨b1, b2, b3, b4, b5, b6⟩, ⟨rfl, rfl, rfl, rfl, rfl, rfl⟩, ⟨w0, w1, w2, w3, w4, w5, w6, w7⟩, hwd, hSh, hSl, hIn, hSc, hFr, hSe, hRu⟩ := hI.1
  unfold f_X7_uses f_X8_uses
  rcases pk_ix a0 (n := ns) (by omega) with h | h | ⟨j, hj, rfl⟩
  · rw [c_needSheet_no (by omega) (Or.inl h), m_noSheet_no b1 w0 (Or.inl h)]
    exact Or.inr ⟨_, _, rfl, rfl, rfl, hI⟩
  · rw [c_needSheet_no (by omega) (Or.inr h), m_noSheet_no b1 w0 (Or.inr h)]
    exact Or.inr ⟨_, _, rfl, rfl, rfl, hI⟩
  · rw [c_needSheet_yes (by omega) hj, m_noSheet_yes b1 w0 hj, xb_l, chk_n (by omega) (by decide), bnd_s, m_thr0, bnd_s, if_pos rfl, show (3 : Int32) = nI 3 from rfl, m_of (by omega) (by decide), bnd_s, nI_clamp (by omega)]
    exact Or.inl ⟨_, _, rfl, rfl, rfl, (hSh j hj).2.2.2.1.symm, hI⟩
theorem t_end : T_end Inv := by
  intro ls_hasImage tp_bytes tp_length tp_fault nw_sheets nw_cells nw_pasted nw_masks nw_uses nw_slots nw_slotK nw_slotX nw_slotY nw_setting nw_scenes nw_wishes nw_frames nw_frameRows nw_seen nw_seenRows nw_width nw_hands kp_sheets kp_cells kp_pasted kp_masks kp_uses kp_slots kp_slotK kp_slotX kp_slotY kp_setting kp_scenes kp_wishes kp_frames kp_frameRows kp_seen kp_seenRows kp_width kp_hands nr_size nr_rows kr_size kr_rows m_thrown m_world m_image m_hasImage m_tape m_taped m_faultAt m_rectangle m_hasRectangles hI a0
  obtain ⟨hS, hG, ⟨hf, n, hn, e1, e2, hb⟩, hR⟩ := hI
  refine ⟨_, _, rfl, rfl, ?_, ?_⟩
  · unfold f_X7_end f_X8_end
    rw [e1, e2]
    split
    · rfl
    · split <;> rfl
  · unfold f_X7_end f_X8_end
    rw [e1, e2]
    by_cases h1 : a0 < 0
    · rw [if_pos h1, if_pos h1]
      exact ⟨hS, hG, ⟨hf, n, hn, rfl, rfl, hb⟩, hR⟩
    · rw [if_neg h1, if_neg h1]
      by_cases h2 : a0 ≤ nI n
      · rw [if_pos h2, if_pos h2]
        obtain ⟨j, hj, rfl⟩ := nI_of h1
        have : j ≤ n := (nI_leI hj (by omega)).mp h2
        exact ⟨hS, hG, ⟨hf, j, by omega, rfl, rfl, fun i hi => hb i (by omega)⟩, hR⟩
      · rw [if_neg h2, if_neg h2]
        exact ⟨hS, hG, ⟨hf, n, hn, rfl, rfl, hb⟩, hR⟩
theorem t_lamp : T_lamp Inv := by
  intro ls_hasImage tp_bytes tp_length tp_fault nw_sheets nw_cells nw_pasted nw_masks nw_uses nw_slots nw_slotK nw_slotX nw_slotY nw_setting nw_scenes nw_wishes nw_frames nw_frameRows nw_seen nw_seenRows nw_width nw_hands kp_sheets kp_cells kp_pasted kp_masks kp_uses kp_slots kp_slotK kp_slotX kp_slotY kp_setting kp_scenes kp_wishes kp_frames kp_frameRows kp_seen kp_seenRows kp_width kp_hands nr_size nr_rows kr_size kr_rows m_thrown m_world m_image m_hasImage m_tape m_taped m_faultAt m_rectangle m_hasRectangles hI a0
  obtain ⟨ns, nl, nc, nf, nk, nr, ⟨b1, b2, b3, b4, b5, b6⟩, ⟨rfl, rfl, rfl, rfl, rfl, rfl⟩, ⟨w0, w1, w2, w3, w4, w5, w6, w7⟩, hwd, hSh, hSl, hIn, hSc, hFr, hSe, hRu⟩ := hI.1
  by_cases h : (0 : Int32) ≤ a0 ∧ a0 ≤ 1
  · refine Or.inl ⟨(nw_width, a0), (m_world 5, 0, upd m_world 5 a0), ?_, ?_, rfl, w5.symm, ⟨ns, nl, nc, nf, nk, nr, ⟨b1, b2, b3, b4, b5, b6⟩, ⟨rfl, rfl, rfl, rfl, rfl, rfl⟩, ⟨w0, w1, w2, w3, w4, rfl, w6, w7⟩, le01 h, hSh.fr b1 (fun i _ _ => by dsimp only; rw [upd_ne (by omega)]), hSl.fr b2 (fun i _ _ => by dsimp only; rw [upd_ne (by omega)]), hIn.fr (fun i _ _ => by dsimp only; rw [upd_ne (by omega)]), hSc.fr b3 (fun i _ _ => by dsimp only; rw [upd_ne (by omega)]), hFr.fr b4 (fun i _ _ => by dsimp only; rw [upd_ne (by omega)]), hSe.fr b5 (fun i _ _ => by dsimp only; rw [upd_ne (by omega)]), hRu.fr b6 (fun i _ _ => by dsimp only; rw [upd_ne (by omega)])⟩, hI.2⟩
    · unfold f_X7_lamp
      rw [if_neg (fun q => absurd (Int32.lt_of_lt_of_le q h.1) Int32.lt_irrefl), if_pos h.2]
    · unfold f_X8_lamp f_X8_lamp_J20
      rw [nm_s, m_within, if_pos h, if_neg (by decide), m_thr0, bnd_s, if_pos rfl, ck5, nm_s, ck5, nm_s, tn5]
  · refine Or.inr ⟨nw_width, (0, 1, m_world), ?_, ?_, rfl, hI⟩
    · unfold f_X7_lamp
      by_cases q : a0 < 0
      · rw [if_pos q]
      · rw [if_neg q, if_neg (fun z => h ⟨Int32.not_lt.mp q, z⟩)]
    · unfold f_X8_lamp f_X8_lamp_J20
      rw [nm_s, m_within, if_neg h, if_pos rfl, m_thr1, bnd_s, if_neg (by decide)]
theorem t_hands : T_hands Inv := by
  intro ls_hasImage tp_bytes tp_length tp_fault nw_sheets nw_cells nw_pasted nw_masks nw_uses nw_slots nw_slotK nw_slotX nw_slotY nw_setting nw_scenes nw_wishes nw_frames nw_frameRows nw_seen nw_seenRows nw_width nw_hands kp_sheets kp_cells kp_pasted kp_masks kp_uses kp_slots kp_slotK kp_slotX kp_slotY kp_setting kp_scenes kp_wishes kp_frames kp_frameRows kp_seen kp_seenRows kp_width kp_hands nr_size nr_rows kr_size kr_rows m_thrown m_world m_image m_hasImage m_tape m_taped m_faultAt m_rectangle m_hasRectangles hI a0
  obtain ⟨ns, nl, nc, nf, nk, nr, ⟨b1, b2, b3, b4, b5, b6⟩, ⟨rfl, rfl, rfl, rfl, rfl, rfl⟩, ⟨w0, w1, w2, w3, w4, w5, w6, w7⟩, hwd, hSh, hSl, hIn, hSc, hFr, hSe, hRu⟩ := hI.1
  by_cases h : (1 : Int32) ≤ a0 ∧ a0 ≤ 2
  · refine Or.inl ⟨(nw_hands, a0), (m_world 6, 0, upd m_world 6 a0), ?_, ?_, rfl, w6.symm, ⟨ns, nl, nc, nf, nk, nr, ⟨b1, b2, b3, b4, b5, b6⟩, ⟨rfl, rfl, rfl, rfl, rfl, rfl⟩, ⟨w0, w1, w2, w3, w4, w5, rfl, w7⟩, hwd, hSh.fr b1 (fun i _ _ => by dsimp only; rw [upd_ne (by omega)]), hSl.fr b2 (fun i _ _ => by dsimp only; rw [upd_ne (by omega)]), hIn.fr (fun i _ _ => by dsimp only; rw [upd_ne (by omega)]), hSc.fr b3 (fun i _ _ => by dsimp only; rw [upd_ne (by omega)]), hFr.fr b4 (fun i _ _ => by dsimp only; rw [upd_ne (by omega)]), hSe.fr b5 (fun i _ _ => by dsimp only; rw [upd_ne (by omega)]), hRu.fr b6 (fun i _ _ => by dsimp only; rw [upd_ne (by omega)])⟩, hI.2⟩
    · unfold f_X7_hands
      rw [if_neg (fun q => absurd (Int32.lt_of_lt_of_le q h.1) Int32.lt_irrefl), if_pos h.2]
    · unfold f_X8_hands f_X8_hands_J20
      rw [nm_s, m_within, if_pos h, if_neg (by decide), m_thr0, bnd_s, if_pos rfl, ck6, nm_s, ck6, nm_s, tn6]
  · refine Or.inr ⟨nw_hands, (0, 1, m_world), ?_, ?_, rfl, hI⟩
    · unfold f_X7_hands
      by_cases q : a0 < 1
      · rw [if_pos q]
      · rw [if_neg q, if_neg (fun z => h ⟨Int32.not_lt.mp q, z⟩)]
    · unfold f_X8_hands f_X8_hands_J20
      rw [nm_s, m_within, if_neg h, if_pos rfl, m_thr1, bnd_s, if_neg (by decide)]
theorem t_in : T_in Inv := by
  intro ls_hasImage tp_bytes tp_length tp_fault nw_sheets nw_cells nw_pasted nw_masks nw_uses nw_slots nw_slotK nw_slotX nw_slotY nw_setting nw_scenes nw_wishes nw_frames nw_frameRows nw_seen nw_seenRows nw_width nw_hands kp_sheets kp_cells kp_pasted kp_masks kp_uses kp_slots kp_slotK kp_slotX kp_slotY kp_setting kp_scenes kp_wishes kp_frames kp_frameRows kp_seen kp_seenRows kp_width kp_hands nr_size nr_rows kr_size kr_rows m_thrown m_world m_image m_hasImage m_tape m_taped m_faultAt m_rectangle m_hasRectangles hI a0
  obtain ⟨ns, nl, nc, nf, nk, nr, ⟨b1, b2, b3, b4, b5, b6⟩, ⟨rfl, rfl, rfl, rfl, rfl, rfl⟩, ⟨w0, w1, w2, w3, w4, w5, w6, w7⟩, hwd, hSh, hSl, hIn, hSc, hFr, hSe, hRu⟩ := hI.1
  unfold f_X7_in f_X8_in
  rcases pk_ix a0 (n := nl) (by omega) with h | h | ⟨j, hj, rfl⟩
  · rw [c_needSlot_no (by omega) (Or.inl h), m_noSlot_no (by omega) w1 (Or.inl h)]
    exact Or.inr ⟨_, _, rfl, rfl, rfl, hI⟩
  · rw [c_needSlot_no (by omega) (Or.inr h), m_noSlot_no (by omega) w1 (Or.inr h)]
    exact Or.inr ⟨_, _, rfl, rfl, rfl, hI⟩
  · rw [c_needSlot_yes (by omega) hj, m_noSlot_yes (by omega) w1 hj, xb_l, chk_n (by omega) (by decide), bnd_s, m_thr0, bnd_s, if_pos rfl, m_inSlot (by omega), bnd_s, nI_clamp (by omega)]
    exact Or.inl ⟨_, _, rfl, rfl, rfl, (hIn.2 j (by omega)).symm, hI⟩
theorem ShO.put {ns j : Nat} {a b c d w : Nat → Int32} (h : ShO ns a b c d w) (hj : j < ns) (v : Int32) (hv : C25 v) : ShO ns (upd a j v) b c d (upd w (8 + 4 * j + 1) v) := fun s hs => by
  obtain ⟨q1, q2, q3, q4, q5, q6, q7⟩ := h s hs
  by_cases e : s = j
  · subst e
    exact ⟨(upd_ne (by omega)).trans q1, (upd_same _ _ _).trans (upd_same _ _ _).symm, (upd_ne (by omega)).trans q3, (upd_ne (by omega)).trans q4, by rw [upd_same]; exact hv, q6, q7⟩
  · exact ⟨(upd_ne (by omega)).trans q1, (upd_ne (by omega)).trans (q2.trans (upd_ne e).symm), (upd_ne (by omega)).trans q3, (upd_ne (by omega)).trans q4, by rw [upd_ne e]; exact q5, q6, q7⟩
theorem t_paste : T_paste Inv := by
  intro ls_hasImage tp_bytes tp_length tp_fault nw_sheets nw_cells nw_pasted nw_masks nw_uses nw_slots nw_slotK nw_slotX nw_slotY nw_setting nw_scenes nw_wishes nw_frames nw_frameRows nw_seen nw_seenRows nw_width nw_hands kp_sheets kp_cells kp_pasted kp_masks kp_uses kp_slots kp_slotK kp_slotX kp_slotY kp_setting kp_scenes kp_wishes kp_frames kp_frameRows kp_seen kp_seenRows kp_width kp_hands nr_size nr_rows kr_size kr_rows m_thrown m_world m_image m_hasImage m_tape m_taped m_faultAt m_rectangle m_hasRectangles hI a0
  obtain ⟨ns, nl, nc, nf, nk, nr, ⟨b1, b2, b3, b4, b5, b6⟩, ⟨rfl, rfl, rfl, rfl, rfl, rfl⟩, ⟨w0, w1, w2, w3, w4, w5, w6, w7⟩, hwd, hSh, hSl, hIn, hSc, hFr, hSe, hRu⟩ := hI.1
  rcases pk_ix a0 (n := ns) (by omega) with h | h | ⟨j, hj, rfl⟩
  · unfold f_X7_paste f_X8_paste
    rw [c_needSheet_no (by omega) (Or.inl h), m_noSheet_no b1 w0 (Or.inl h)]
    exact Or.inr ⟨_, _, rfl, rfl, rfl, hI⟩
  · unfold f_X7_paste f_X8_paste
    rw [c_needSheet_no (by omega) (Or.inr h), m_noSheet_no b1 w0 (Or.inr h)]
    exact Or.inr ⟨_, _, rfl, rfl, rfl, hI⟩
  · obtain ⟨q1, q2, q3, q4, q5, q6, q7⟩ := hSh j hj
    refine Or.inl ⟨(f_J6_bitCount_0f7a4 (nw_cells j ^^^ nw_pasted j), upd nw_cells j (nw_pasted j)), (f_J6_bitCount_0f7a4 (nw_cells j ^^^ nw_pasted j), 0, upd m_world (8 + 4 * j + 1) (nw_pasted j)), ?_, ?_, rfl, rfl, ⟨ns, nl, nc, nf, nk, nr, ⟨b1, b2, b3, b4, b5, b6⟩, ⟨rfl, rfl, rfl, rfl, rfl, rfl⟩, ?_, hwd, hSh.put hj _ q6, hSl.fr b2 (fun i _ _ => upd_ne (by omega)), hIn.fr (fun i _ _ => upd_ne (by omega)), hSc.fr b3 (fun i _ _ => upd_ne (by omega)), hFr.fr b4 (fun i _ _ => upd_ne (by omega)), hSe.fr b5 (fun i _ _ => upd_ne (by omega)), hRu.fr b6 (fun i _ _ => upd_ne (by omega))⟩, hI.2⟩
    · unfold f_X7_paste
      rw [c_needSheet_yes (by omega) hj, xb_l, chk_n (by omega) (by decide), chk_n (by omega) (by decide), nm_s, chk_n (by omega) (by decide), chk_n (by omega) (by decide), nm_s, nI_clamp (by omega)]
    · unfold f_X8_paste
      rw [m_noSheet_yes b1 w0 hj, bnd_s, m_thr0, bnd_s, if_pos rfl, show (1 : Int32) = nI 1 from rfl, show (2 : Int32) = nI 2 from rfl, m_of (by omega) (by decide), bnd_s, m_of (by omega) (by decide), bnd_s, nm_s, bnd_s, m_sets (by omega) (by decide), bnd_s, q2, q3]
    · dsimp only; rw [upd_ne (by omega), upd_ne (by omega), upd_ne (by omega), upd_ne (by omega), upd_ne (by omega), upd_ne (by omega), upd_ne (by omega), upd_ne (by omega)]
      exact ⟨w0, w1, w2, w3, w4, w5, w6, w7⟩
