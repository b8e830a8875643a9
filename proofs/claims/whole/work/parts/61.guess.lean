theorem t_together : T_together Inv := by
  intro ls_hasImage tp_bytes tp_length tp_fault nw_sheets nw_cells nw_pasted nw_masks nw_uses nw_slots nw_slotK nw_slotX nw_slotY nw_setting nw_scenes nw_wishes nw_frames nw_frameRows nw_seen nw_seenRows nw_width nw_hands kp_sheets kp_cells kp_pasted kp_masks kp_uses kp_slots kp_slotK kp_slotX kp_slotY kp_setting kp_scenes kp_wishes kp_frames kp_frameRows kp_seen kp_seenRows kp_width kp_hands sg_full sg_half sg_covered sg_deepest sg_two sg_one sg_missed se_trial se_viewScenes se_views se_first se_firstSheets se_fewest se_perfect se_always nr_size nr_rows nr_slotOfSheet kr_size kr_rows m_thrown m_world m_image m_hasImage m_tape m_taped m_faultAt m_rectangle m_hasRectangles m_made m_setting m_best m_fewest m_bestMany m_wrongs hI a0
  obtain ⟨ns, nl, nc, nf, nk, nr, ⟨b1, b2, b3, b4, b5, b6⟩, ⟨rfl, rfl, rfl, rfl, rfl, rfl⟩, ⟨w0, w1, w2, w3, w4, w5, w6, w7⟩, hwd, hSh, hSl, hIn, hSc, hFr, hSe, hRu⟩ := hI.1
  by_cases h3 : a0 = -1 ∨ ∃ l, l < nl ∧ a0 = nI l
  · obtain ⟨o, eo, ho⟩ := c_overSeen (cells := nw_cells) (masks := nw_masks) (full := sg_full) (half := sg_half) (two := sg_two) (one := sg_one) (missed := sg_missed) (always := se_always) (cv := sg_covered) (dp := sg_deepest) (trial := se_trial) (vs := se_viewScenes) (first := se_first) (sos := nr_slotOfSheet) (views := se_views) (fsh := se_firstSheets) (few := se_fewest) (perf := se_perfect) b1 b2 b6 b3 b5 hSl hRu hSc hSe hwd
    obtain ⟨v, ev, p1, p2, p3⟩ := m_seesAll (made := m_made) (st := m_setting) (wrongs := m_wrongs) (best := m_best) (few := m_fewest) (many := m_bestMany) w0 w1 w4 w5 w7 b1 b2 b6 b3 b5 hSh hSl hRu hSc hSe hwd
    have hfound := Zs_found (W := fun m => Sk (VS nw_cells nw_masks nw_slotK nw_slotX nw_slotY nw_width nw_seenRows) (uS m_world nw_seenRows) (stm ns nl m) nk) (C := fun m => cnt4 (stm ns nl m) 4) (okm_zero (K := nw_slotK) hRu b1 b2 b6) (by have := Sk_le (VS nw_cells nw_masks nw_slotK nw_slotX nw_slotY nw_width nw_seenRows) (uS m_world nw_seenRows) (stm ns nl 0) nk; omega) (nst ns nl - 1)
    rw [show nst ns nl - 1 + 1 = nst ns nl by have := nst_pos ns nl; omega] at hfound
    rcases h3 with rfl | ⟨l, hl, rfl⟩
    · refine Or.inl ⟨(o.2.2.2.2.2.2.2.2.2.2.2.2.1, o), (v.2.2.2.1, 0, v), ?_, ?_, rfl, ho.1.trans p1.symm, hI⟩
      · unfold f_X7_together f_X7_together_J10
        rw [if_pos rfl, eo, bnd_s, if_pos rfl]
      · unfold f_X8_together f_X8_together_J23 f_X8_together_J24
        rw [if_pos rfl, m_thr0, bnd_s, if_pos rfl, ev, bnd_s, if_pos rfl]
    · refine Or.inl ⟨(o.2.2.2.2.2.2.2.2.2.2.1 l, o), (v.2.1 l, 0, v), ?_, ?_, rfl, (ho.2.2.1 hfound l (by omega)).trans (p2 l (by omega)).symm, hI⟩
      · unfold f_X7_together f_X7_together_J10
        rw [if_neg (nI_m1 (by omega)), c_needSlot_yes (by omega) hl, xb_l, eo, bnd_s, if_neg (nI_m1 (by omega)), chk_n (by omega) (by decide), nI_clamp (by omega)]
      · unfold f_X8_together f_X8_together_J23 f_X8_together_J24
        rw [if_neg (nI_m1 (by omega)), m_noSlot_yes (by omega) w1 hl, bnd_s, if_pos rfl, m_thr0, bnd_s, if_pos rfl, ev, bnd_s, if_neg (nI_m1 (by omega)), chk_n (by omega) (by decide), nI_clamp (by omega)]
  · have z : ¬ a0 = -1 := fun q => h3 (Or.inl q)
    have key : f_X7_needSlot (nI nl) a0 = some (.inr (2, ())) ∧ f_X8_noSlot m_world a0 = some 1 := by
      rcases pk_ix a0 (n := nl) (by omega) with h | h | ⟨l, hl, rfl⟩
      · exact ⟨c_needSlot_no (by omega) (Or.inl h), m_noSlot_no (by omega) w1 (Or.inl h)⟩
      · exact ⟨c_needSlot_no (by omega) (Or.inr h), m_noSlot_no (by omega) w1 (Or.inr h)⟩
      · exact absurd (Or.inr ⟨l, hl, rfl⟩) h3
    unfold f_X7_together f_X8_together f_X8_together_J24
    rw [if_neg z, if_neg z, key.1, key.2, xb_r, bnd_s, if_neg (by decide), m_thr1, bnd_s, if_neg (by decide)]
    exact Or.inr ⟨_, _, rfl, rfl, rfl, hI⟩
theorem pfs_Z {ok : Nat → Bool} {W : Nat → Nat} {C : Nat → Int32} {N : Nat} (hf : (Zs ok W C N).2.2 ≠ 0) : pfs ok W N = 0 ↔ (Zs ok W C N).1 ≠ 0 := by
  obtain ⟨b1, _, b3, b4⟩ := Zs_bc (ok := ok) (W := W) (C := C) N
  obtain ⟨c1, c2⟩ := b3 hf
  constructor
  · intro h e
    have := fb_ct_zero.mp h ((Zs ok W C N).2.2 - 1) (by omega)
    rw [c1, c2, decide_eq_true e] at this
    cases this
  · intro h
    refine fb_ct_zero.mpr (fun k hk => ?_)
    cases e : ok k with
    | false => rfl
    | true =>
      have := b4 k hk e
      rw [decide_eq_false (by omega)]; rfl
theorem m_count0 {w st made wrongs : Nat → Int32} {a t best few many : Int32} {ok : Nat → Bool} {W : Nat → Nat} {ns nl : Nat} (w0 : w 0 = nI ns) (w1 : w 1 = nI nl) (h6 : ns ≤ 6) (h4 : nl ≤ 4) (hW : ∀ k, W k < 1000) (hw : ∀ k, k < nst ns nl → wrongs k = if ok k = true then nI (W k) else -1) :
    lp (fun q => f_X8_guess_S65 w a t made st best few many wrongs q.1 q.2) ((0 : Int32), (0 : Int32)) = some (nI (pfs ok W (nst ns nl))) := by
  have hN := nst_le (nl := nl) h6
  refine lp_run' (fun k => (nI (pfs ok W k), nI k)) (nst ns nl) rfl (fun k hk => ?_) ?_
  · show f_X8_guess_S65 w a t made st best few many wrongs (nI (pfs ok W k)) (nI k) = some (.inl (nI (pfs ok W k + (if ok k && decide (W k = 0) then 1 else 0)), nI (k + 1)))
    have hWk := hW k
    unfold f_X8_guess_S65 f_X8_guess_J88
    rw [m_settings w0 w1 h6 h4, bnd_s, if_neg (nI_ge hk (by omega)), chk_n (by omega) (by decide), nI_clamp (by omega), hw k hk]
    cases e : ok k with
    | false => rw [if_neg (show ¬ (false = true) by decide), if_neg (by decide), nm_s, nm_s, nI_1, Int32.add_zero]; rfl
    | true =>
      rw [if_pos rfl]
      by_cases z : W k = 0
      · rw [if_pos (by rw [z]; rfl), nm_s, nm_s, nI_1, nI_1, decide_eq_true z]; rfl
      · rw [if_neg (nI_ne0 (by omega) (by omega)), nm_s, nm_s, nI_1, Int32.add_zero, decide_eq_false z]; rfl
  · show f_X8_guess_S65 w a t made st best few many wrongs (nI (pfs ok W (nst ns nl))) (nI (nst ns nl)) = _
    unfold f_X8_guess_S65
    rw [m_settings w0 w1 h6 h4, bnd_s, if_pos (Int32.le_refl _)]
theorem t_guess : T_guess Inv := by
  intro ls_hasImage tp_bytes tp_length tp_fault nw_sheets nw_cells nw_pasted nw_masks nw_uses nw_slots nw_slotK nw_slotX nw_slotY nw_setting nw_scenes nw_wishes nw_frames nw_frameRows nw_seen nw_seenRows nw_width nw_hands kp_sheets kp_cells kp_pasted kp_masks kp_uses kp_slots kp_slotK kp_slotX kp_slotY kp_setting kp_scenes kp_wishes kp_frames kp_frameRows kp_seen kp_seenRows kp_width kp_hands sg_full sg_half sg_covered sg_deepest sg_two sg_one sg_missed se_trial se_viewScenes se_views se_first se_firstSheets se_fewest se_perfect se_always nr_size nr_rows nr_slotOfSheet kr_size kr_rows m_thrown m_world m_image m_hasImage m_tape m_taped m_faultAt m_rectangle m_hasRectangles m_made m_setting m_best m_fewest m_bestMany m_wrongs hI a0
  obtain ⟨ns, nl, nc, nf, nk, nr, ⟨b1, b2, b3, b4, b5, b6⟩, ⟨rfl, rfl, rfl, rfl, rfl, rfl⟩, ⟨w0, w1, w2, w3, w4, w5, w6, w7⟩, hwd, hSh, hSl, hIn, hSc, hFr, hSe, hRu⟩ := hI.1
  by_cases h3 : a0 = -1 ∨ ∃ l, l < nl ∧ a0 = nI l
  · obtain ⟨o, eo, ho⟩ := c_overSeen (cells := nw_cells) (masks := nw_masks) (full := sg_full) (half := sg_half) (two := sg_two) (one := sg_one) (missed := sg_missed) (always := se_always) (cv := sg_covered) (dp := sg_deepest) (trial := se_trial) (vs := se_viewScenes) (first := se_first) (sos := nr_slotOfSheet) (views := se_views) (fsh := se_firstSheets) (few := se_fewest) (perf := se_perfect) b1 b2 b6 b3 b5 hSl hRu hSc hSe hwd
    obtain ⟨v, ev, p1, p2, p3⟩ := m_seesAll (made := m_made) (st := m_setting) (wrongs := m_wrongs) (best := m_best) (few := m_fewest) (many := m_bestMany) w0 w1 w4 w5 w7 b1 b2 b6 b3 b5 hSh hSl hRu hSc hSe hwd
    have hWb : ∀ k, Sk (VS nw_cells nw_masks nw_slotK nw_slotX nw_slotY nw_width nw_seenRows) (uS m_world nw_seenRows) (stm ns nl k) nk < 1000 := fun k => by have := Sk_le (VS nw_cells nw_masks nw_slotK nw_slotX nw_slotY nw_width nw_seenRows) (uS m_world nw_seenRows) (stm ns nl k) nk; omega
    have hfound := Zs_found (W := fun m => Sk (VS nw_cells nw_masks nw_slotK nw_slotX nw_slotY nw_width nw_seenRows) (uS m_world nw_seenRows) (stm ns nl m) nk) (C := fun m => cnt4 (stm ns nl m) 4) (okm_zero (K := nw_slotK) hRu b1 b2 b6) (by have := hWb 0; omega) (nst ns nl - 1)
    rw [show nst ns nl - 1 + 1 = nst ns nl by have := nst_pos ns nl; omega] at hfound
    have hN := nst_le (nl := nl) b1
    have hpf : pfs (okm nr_rows nw_slotK ns nl nr) (fun m => Sk (VS nw_cells nw_masks nw_slotK nw_slotX nw_slotY nw_width nw_seenRows) (uS m_world nw_seenRows) (stm ns nl m) nk) (nst ns nl) ≤ nst ns nl := fb_ct_le _ _
    have hz := pfs_Z hfound
    have hfw := Zs_le (ok := okm nr_rows nw_slotK ns nl nr) (W := fun m => Sk (VS nw_cells nw_masks nw_slotK nw_slotX nw_slotY nw_width nw_seenRows) (uS m_world nw_seenRows) (stm ns nl m) nk) (C := fun m => cnt4 (stm ns nl m) 4) (fun k => by have := hWb k; omega) (nst ns nl)
    obtain ⟨r1, r2, r3, r4, _⟩ := ho
    rcases h3 with rfl | ⟨l, hl, rfl⟩
    · refine Or.inl ⟨(o.2.2.2.2.2.2.2.2.2.2.2.2.2.1, o), (nI (pfs (okm nr_rows nw_slotK ns nl nr) (fun m => Sk (VS nw_cells nw_masks nw_slotK nw_slotX nw_slotY nw_width nw_seenRows) (uS m_world nw_seenRows) (stm ns nl m) nk) (nst ns nl)), 0, v), ?_, ?_, rfl, r4, hI⟩
      · unfold f_X7_guess f_X7_guess_J10
        rw [if_pos rfl, eo, bnd_s, if_pos rfl]
      · unfold f_X8_guess f_X8_guess_J23 f_X8_guess_J24 f_X8_guess_J65 f_X8_guess_J96
        rw [if_pos rfl, m_thr0, bnd_s, if_pos rfl, ev, bnd_s, if_pos rfl, m_count0 w0 w1 b1 b2 hWb p3, bnd_s]
    · by_cases z : pfs (okm nr_rows nw_slotK ns nl nr) (fun m => Sk (VS nw_cells nw_masks nw_slotK nw_slotX nw_slotY nw_width nw_seenRows) (uS m_world nw_seenRows) (stm ns nl m) nk) (nst ns nl) = 0
      · have z2 := hz.mp z
        refine Or.inl ⟨(-2, o), (-2, 0, v), ?_, ?_, rfl, rfl, hI⟩
        · unfold f_X7_guess f_X7_guess_J10
          rw [if_neg (nI_m1 (by omega)), c_needSlot_yes (by omega) hl, xb_l, eo, bnd_s, if_neg (nI_m1 (by omega)), if_pos (by rw [r4, z]; rfl)]
        · unfold f_X8_guess f_X8_guess_J23 f_X8_guess_J24
          rw [if_neg (nI_m1 (by omega)), m_noSlot_yes (by omega) w1 hl, bnd_s, if_pos rfl, m_thr0, bnd_s, if_pos rfl, ev, bnd_s, if_neg (nI_m1 (by omega)), if_neg (by rw [p1]; exact nI_nle (by omega) (by omega))]
      · have z2 : (Zs (okm nr_rows nw_slotK ns nl nr) (fun m => Sk (VS nw_cells nw_masks nw_slotK nw_slotX nw_slotY nw_width nw_seenRows) (uS m_world nw_seenRows) (stm ns nl m) nk) (fun m => cnt4 (stm ns nl m) 4) (nst ns nl)).1 = 0 := by
          rcases Nat.eq_zero_or_pos (Zs (okm nr_rows nw_slotK ns nl nr) (fun m => Sk (VS nw_cells nw_masks nw_slotK nw_slotX nw_slotY nw_width nw_seenRows) (uS m_world nw_seenRows) (stm ns nl m) nk) (fun m => cnt4 (stm ns nl m) 4) (nst ns nl)).1 with q | q
          · exact q
          · exact absurd (hz.mpr (by omega)) z
        refine Or.inl ⟨(o.2.2.2.2.2.2.2.2.2.2.1 l, o), (v.2.1 l, 0, v), ?_, ?_, rfl, (r3 hfound l (by omega)).trans (p2 l (by omega)).symm, hI⟩
        · unfold f_X7_guess f_X7_guess_J10
          rw [if_neg (nI_m1 (by omega)), c_needSlot_yes (by omega) hl, xb_l, eo, bnd_s, if_neg (nI_m1 (by omega)), if_neg (by rw [r4]; exact nI_ne0 (by omega) (by omega)), chk_n (by omega) (by decide), nI_clamp (by omega)]
        · unfold f_X8_guess f_X8_guess_J23 f_X8_guess_J24
          rw [if_neg (nI_m1 (by omega)), m_noSlot_yes (by omega) w1 hl, bnd_s, if_pos rfl, m_thr0, bnd_s, if_pos rfl, ev, bnd_s, if_neg (nI_m1 (by omega)), if_pos (by rw [p1, z2]; decide), chk_n (by omega) (by decide), nI_clamp (by omega)]
  · have z : ¬ a0 = -1 := fun q => h3 (Or.inl q)
    have key : f_X7_needSlot (nI nl) a0 = some (.inr (2, ())) ∧ f_X8_noSlot m_world a0 = some 1 := by
      rcases pk_ix a0 (n := nl) (by omega) with h | h | ⟨l, hl, rfl⟩
      · exact ⟨c_needSlot_no (by omega) (Or.inl h), m_noSlot_no (by omega) w1 (Or.inl h)⟩
      · exact ⟨c_needSlot_no (by omega) (Or.inr h), m_noSlot_no (by omega) w1 (Or.inr h)⟩
      · exact absurd (Or.inr ⟨l, hl, rfl⟩) h3
    unfold f_X7_guess f_X8_guess f_X8_guess_J24
    rw [if_neg z, if_neg z, key.1, key.2, xb_r, bnd_s, if_neg (by decide), m_thr1, bnd_s, if_neg (by decide)]
    exact Or.inr ⟨_, _, rfl, rfl, rfl, hI⟩
