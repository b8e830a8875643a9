/-! ===== seats, helps ===== -/
noncomputable def sbits (N : Nat → Nat) : Nat → Int32
  | 0 => 0
  | t + 1 => if N t = 0 then sbits N t ||| ((1 : Int32) <<< (((nI t - 3) + (3 : Int32)) &&& 31)) else sbits N t
theorem seat_end : ∀ t, t < 8 → ((3 : Int32) < nI t - 3 ↔ 7 ≤ t) := by decide +kernel
theorem seat_nx (t : Nat) : nI t - 3 + 1 = nI (t + 1) - 3 := by
  rw [nI_succ]
  simp only [Int32.sub_eq_add_neg]
  ac_rfl
theorem or0 (x : Int32) : x ||| 0 = x := b_ext (fun i _ => by rw [b_or, b_0, Bool.or_false])
theorem t_seats : T_seats Inv := by
  intro ls_hasImage tp_bytes tp_length tp_fault nw_sheets nw_cells nw_pasted nw_masks nw_uses nw_slots nw_slotK nw_slotX nw_slotY nw_setting nw_scenes nw_wishes nw_frames nw_frameRows nw_seen nw_seenRows nw_width nw_hands kp_sheets kp_cells kp_pasted kp_masks kp_uses kp_slots kp_slotK kp_slotX kp_slotY kp_setting kp_scenes kp_wishes kp_frames kp_frameRows kp_seen kp_seenRows kp_width kp_hands sg_full sg_half sg_covered sg_deepest sg_two sg_one sg_missed nr_size nr_rows kr_size kr_rows m_thrown m_world m_image m_hasImage m_tape m_taped m_faultAt m_rectangle m_hasRectangles m_made m_setting hI a0 a1
  obtain ⟨ns, nl, nc, nf, nk, nr, ⟨b1, b2, b3, b4, b5, b6⟩, ⟨rfl, rfl, rfl, rfl, rfl, rfl⟩, ⟨w0, w1, w2, w3, w4, w5, w6, w7⟩, hwd, hSh, hSl, hIn, hSc, hFr, hSe, hRu⟩ := hI.1
  by_cases hv : (∃ j, j < nc ∧ a0 = nI j) ∧ ∃ i, i < 3 ∧ a1 = nI i
  · obtain ⟨⟨j, hj, rfl⟩, i, hi, rfl⟩ := hv
    have hw : View (nI i) 0 := ⟨⟨i, hi, rfl⟩, 3, by decide, rfl⟩
    have hnl : f_X8_noLight (nI i) = 0 := by
      rcases (show i = 0 ∨ i = 1 ∨ i = 2 by omega) with rfl | rfl | rfl <;> rfl
    have hU := TU_of hSc hj
    obtain ⟨u3, e3, g3⟩ := m_takes (w := m_world) (st := m_setting)
    have g3' : ∀ l, l < 4 → u3 l = nw_setting l := fun l hl => (g3 l hl).trans (hIn.2 l hl)
    have hC : OK (lp (fun q => f_X7_seats_S17 (nI ns) nw_cells nw_masks (nI nl) nw_slotK nw_slotX nw_slotY nw_setting (nI nc) nw_wishes nw_width (nI j) (nI i) q.1 q.2.1 q.2.2.1 q.2.2.2.1 q.2.2.2.2.1 q.2.2.2.2.2.1 q.2.2.2.2.2.2.1 q.2.2.2.2.2.2.2.1 q.2.2.2.2.2.2.2.2) ((0 : Int32), (-3 : Int32), sg_full, sg_half, sg_covered, sg_deepest, sg_two, sg_one, sg_missed)) (fun r => r.1 = sbits (fun t => nW (VV nw_cells nw_masks nw_slotK nw_slotX nw_slotY nw_width i (nI t - 3)) nw_setting (fun p => (m_world (48 + 144 * j + p)).toNatClampNeg)) 7) := by
      refine ok_lp (fun t s => s.1 = sbits (fun t => nW (VV nw_cells nw_masks nw_slotK nw_slotX nw_slotY nw_width i (nI t - 3)) nw_setting (fun p => (m_world (48 + 144 * j + p)).toNatClampNeg)) t ∧ s.2.1 = nI t - 3) 7 (fun t s ht hJ => Or.inl ?_) (fun s hJ => ?_) ⟨rfl, rfl⟩
      · obtain ⟨q1, q2⟩ := hJ
        obtain ⟨u1, e1, h1⟩ := c_look0 (full := s.2.2.1) (half := s.2.2.2.1) (cells := nw_cells) (masks := nw_masks) (cv := s.2.2.2.2.1) (dp := s.2.2.2.2.2.1) b1 b2 hSl hwd hi ht rfl
        obtain ⟨u2, e2, h2, hM⟩ := c_misses0 (two := s.2.2.2.2.2.2.1) (one := s.2.2.2.2.2.2.2.1) (missed := s.2.2.2.2.2.2.2.2) b1 (show j < 6 by omega) hIn.1 h1 (VV_le _ _ _ _ _ _ _ _) hU
        unfold f_X7_seats_S17 f_X7_seats_J62
        rw [q1, q2, if_neg (mt (seat_end t (by omega)).mp (by omega)), e1, bnd_s, e2, bnd_s, h2, seat_nx]
        have hle := nW_le (VV nw_cells nw_masks nw_slotK nw_slotX nw_slotY nw_width i (nI t - 3)) nw_setting (fun p => (m_world (48 + 144 * j + p)).toNatClampNeg)
        by_cases z : nW (VV nw_cells nw_masks nw_slotK nw_slotX nw_slotY nw_width i (nI t - 3)) nw_setting (fun p => (m_world (48 + 144 * j + p)).toNatClampNeg) = 0
        · rw [if_pos (by rw [z]; rfl), nm_s, nm_s]
          refine ⟨_, rfl, ?_, rfl⟩
          show _ = if _ = 0 then _ else _
          rw [if_pos z]
        · rw [if_neg (nI_ne0 (by omega) (by omega)), nm_s]
          refine ⟨_, rfl, ?_, rfl⟩
          show _ = if _ = 0 then _ else _
          rw [if_neg z]
      · obtain ⟨q1, q2⟩ := hJ
        unfold f_X7_seats_S17
        rw [q2, if_pos ((seat_end 7 (by decide)).mpr (by decide))]
        exact ⟨_, rfl, q1⟩
    have hm : OK (lp (fun q => f_X8_seats_S45 m_world (nI j) (nI i) 0 u3 q.1 q.2.1 q.2.2) ((0 : Int32), (-3 : Int32), m_made)) (fun r => r.1 = sbits (fun t => nW (VV nw_cells nw_masks nw_slotK nw_slotX nw_slotY nw_width i (nI t - 3)) nw_setting (fun p => (m_world (48 + 144 * j + p)).toNatClampNeg)) 7) := by
      refine ok_lp (fun t s => s.1 = sbits (fun t => nW (VV nw_cells nw_masks nw_slotK nw_slotX nw_slotY nw_width i (nI t - 3)) nw_setting (fun p => (m_world (48 + 144 * j + p)).toNatClampNeg)) t ∧ s.2.1 = nI t - 3) 7 (fun t s ht hJ => Or.inl ?_) (fun s hJ => ?_) ⟨rfl, rfl⟩
      · obtain ⟨q1, q2⟩ := hJ
        obtain ⟨u4, e4, h4⟩ := m_lays (made := s.2.2) b1 b2 w0 w1 hSh hSl w5 hwd hi ht rfl
        unfold f_X8_seats_S45 f_X8_seats_J77
        rw [q1, q2, if_neg (mt (seat_end t (by omega)).mp (by omega)), e4, bnd_s, m_wrongNow w1 b1 b2 (show j < 6 by omega) (hIn.1.cong g3') (fun l s p hl hs hp _ => h4 l hl s hs p hp) (VV_le _ _ _ _ _ _ _ _) hU, bnd_s, nW_cong g3', nm_s, nm_s, nm_s, nm_s, seat_nx]
        have hle := nW_le (VV nw_cells nw_masks nw_slotK nw_slotX nw_slotY nw_width i (nI t - 3)) nw_setting (fun p => (m_world (48 + 144 * j + p)).toNatClampNeg)
        by_cases z : nW (VV nw_cells nw_masks nw_slotK nw_slotX nw_slotY nw_width i (nI t - 3)) nw_setting (fun p => (m_world (48 + 144 * j + p)).toNatClampNeg) = 0
        · rw [if_pos (by rw [z]; rfl)]
          refine ⟨_, rfl, ?_, rfl⟩
          show _ = if _ = 0 then _ else _
          rw [if_pos z]
        · rw [if_neg (nI_ne0 (by omega) (by omega)), or0]
          refine ⟨_, rfl, ?_, rfl⟩
          show _ = if _ = 0 then _ else _
          rw [if_neg z]
      · obtain ⟨q1, q2⟩ := hJ
        unfold f_X8_seats_S45
        rw [q2, if_pos ((seat_end 7 (by decide)).mpr (by decide))]
        exact ⟨_, rfl, q1⟩
    obtain ⟨r1, f1, p1⟩ := hC
    obtain ⟨r2, f2, p2⟩ := hm
    refine Or.inl ⟨(r1.1, r1.2.1, r1.2.2.1, r1.2.2.2.1, r1.2.2.2.2.1, r1.2.2.2.2.2.1, r1.2.2.2.2.2.2.1, r1.2.2.2.2.2.2.2), (r2.1, 0, r2.2, u3), ?_, ?_, rfl, p1.trans p2.symm, hI⟩
    · unfold f_X7_seats f_X7_seats_J17 f_X7_seats_J68
      rw [c_needScene_yes (by omega) hj, xb_l, (view_yes hw).1, xb_l, f1, bnd_s]
    · unfold f_X8_seats f_X8_seats_J26 f_X8_seats_J45 f_X8_seats_J85
      rw [m_noScene_yes b3 w2 hj, bnd_s, if_pos rfl, nm_s, hnl, if_pos rfl, m_thr0, bnd_s, if_pos rfl, e3, bnd_s, f2, bnd_s]
  · have key : f_X7_seats (nI ns) nw_cells nw_masks (nI nl) nw_slotK nw_slotX nw_slotY nw_setting (nI nc) nw_wishes nw_width sg_full sg_half sg_covered sg_deepest sg_two sg_one sg_missed a0 a1 = some (.inr (2, (sg_full, sg_half, sg_covered, sg_deepest, sg_two, sg_one, sg_missed))) ∧ f_X8_seats m_thrown m_world m_made m_setting a0 a1 = f_X8_seats_J21 m_world a0 a1 0 m_made m_setting := by
      unfold f_X7_seats f_X8_seats
      rcases pk_ix a0 (n := nc) (by omega) with h | h | ⟨j, hj, rfl⟩
      · rw [c_needScene_no (by omega) (Or.inl h), m_noScene_no b3 w2 (Or.inl h)]; exact ⟨rfl, rfl⟩
      · rw [c_needScene_no (by omega) (Or.inr h), m_noScene_no b3 w2 (Or.inr h)]; exact ⟨rfl, rfl⟩
      · have hn : ¬ View a1 0 := fun q => hv ⟨⟨j, hj, rfl⟩, q.1⟩
        have hnl : f_X8_noLight a1 = 1 := by
          have hno : ¬ ((0 : Int32).toInt ≤ a1.toInt ∧ a1.toInt ≤ (2 : Int32).toInt) := fun q => by
            have z0 : (0 : Int32).toInt = 0 := rfl
            have z2 : (2 : Int32).toInt = 2 := rfl
            exact hv ⟨⟨j, hj, rfl⟩, a1.toInt.toNat, by omega, by rw [eq_i, nI_toInt (by omega)]; omega⟩
          unfold f_X8_noLight
          rw [nm_s, wi_no hno]
          rfl
        rw [c_needScene_yes (by omega) hj, m_noScene_yes b3 w2 hj, xb_l, (view_no hn).1, bnd_s, if_pos rfl, nm_s, hnl]; exact ⟨rfl, rfl⟩
    rw [key.1, key.2]
    unfold f_X8_seats_J21 f_X8_seats_J26
    rw [m_thr1, bnd_s, if_neg (by decide)]
    exact Or.inr ⟨_, _, rfl, rfl, rfl, hI⟩
theorem c_tryPut {f tr : Nat → Int32} {l : Nat} {x : Int32} (hl : l < 4) : OK (f_X2_tryPut f tr (nI l) x) (fun u => ∀ k, k < 4 → u k = putF f l x k) := by
  unfold f_X2_tryPut
  rw [gd_eq (by decide), nm_s]
  refine ok_bnd (c_set hl) (fun u hu => ⟨_, rfl, fun k hk => ?_⟩)
  rw [hu k hk]
  have ec : ∀ k, k < 4 → va_cpy f tr ((0 : Int32)).toNatClampNeg ((0 : Int32)).toNatClampNeg ((4 : Int32)).toNatClampNeg k = f k := fun k hk => cp0 f tr 4 k hk
  unfold putF
  rw [ec k hk]
theorem put_off {f : Nat → Int32} {l : Nat} : ∀ k, k < 4 → upd f l (-1) k = putF f l (-1) k := fun k hk => by
  unfold putF
  rw [upd_at]
  by_cases e : k = l
  · rw [if_pos e, if_pos e]
  · rw [if_neg e, if_neg e]
    by_cases q : f k = -1
    · rw [if_pos q]; exact q
    · rw [if_neg q]
theorem c_slotOf0 {f : Nat → Int32} {ns nl s : Nat} (hf : Set4 ns nl f) (hs : s < 100) : f_X4_slotOf f 4 (0 : Int32) (nI s) = some (sof f (nI s)) := by
  have h := c_slotOf (pa := f) (pn := 4) (a := 0) (x := nI s) (by decide) (by decide)
  obtain ⟨r, er, hr⟩ := h
  have hr' : SL f (nI s) r := by
    have : (fun l => f (0 + l)) = f := by funext l; rw [Nat.zero_add]
    rw [this] at hr
    exact hr
  have er' : f_X4_slotOf f 4 (0 : Int32) (nI s) = some r := er
  rw [er', sof_at hf.2 (nI_m1 (by omega)) hr']
theorem t_helps : T_helps Inv := by
  intro ls_hasImage tp_bytes tp_length tp_fault nw_sheets nw_cells nw_pasted nw_masks nw_uses nw_slots nw_slotK nw_slotX nw_slotY nw_setting nw_scenes nw_wishes nw_frames nw_frameRows nw_seen nw_seenRows nw_width nw_hands kp_sheets kp_cells kp_pasted kp_masks kp_uses kp_slots kp_slotK kp_slotX kp_slotY kp_setting kp_scenes kp_wishes kp_frames kp_frameRows kp_seen kp_seenRows kp_width kp_hands sg_full sg_half sg_covered sg_deepest sg_two sg_one sg_missed se_trial nr_size nr_rows kr_size kr_rows m_thrown m_world m_image m_hasImage m_tape m_taped m_faultAt m_rectangle m_hasRectangles m_made m_setting hI a0 a1 a2 a3
  obtain ⟨ns, nl, nc, nf, nk, nr, ⟨b1, b2, b3, b4, b5, b6⟩, ⟨rfl, rfl, rfl, rfl, rfl, rfl⟩, ⟨w0, w1, w2, w3, w4, w5, w6, w7⟩, hwd, hSh, hSl, hIn, hSc, hFr, hSe, hRu⟩ := hI.1
  by_cases hv : (∃ s, s < ns ∧ a0 = nI s) ∧ (∃ j, j < nc ∧ a1 = nI j) ∧ View a2 a3
  · obtain ⟨⟨s, hs, rfl⟩, ⟨j, hj, rfl⟩, hw⟩ := hv
    have hw' := hw
    obtain ⟨⟨i, hi, rfl⟩, t, ht, rfl⟩ := hw'
    have eC : f_X4_slotOf nw_setting 4 (0 : Int32) (nI s) = some (sof nw_setting (nI s)) := c_slotOf0 hIn.1 (by omega)
    have eM : f_X8_slotOf m_world (nI s) = some (sof nw_setting (nI s)) := m_slotOf w1 b2 hIn.2 hIn.1 (nI_m1 (by omega))
    rcases sof_in hIn.1 (nI_m1 (n := s) (by omega)) with z | ⟨l, l4', ln, z, fz⟩
    · refine Or.inr (Or.inl ⟨(sg_full, sg_half, sg_covered, sg_deepest, sg_two, sg_one, sg_missed, se_trial), (0, 2, m_made, m_setting), ?_, ?_, rfl, hI⟩)
      · unfold f_X7_helps
        rw [c_needSheet_yes (by omega) hs, xb_l, c_needScene_yes (by omega) hj, xb_l, (view_yes hw).1, xb_l, eC, bnd_s, if_pos z]
      · unfold f_X8_helps f_X8_helps_J37 f_X8_helps_J58
        rw [m_noSheet_yes b1 w0 hs, bnd_s, if_pos rfl, m_noScene_yes b3 w2 hj, bnd_s, if_pos rfl, nm_s, (view_yes hw).2, if_pos rfl, m_thr0, bnd_s, if_pos rfl, eM, bnd_s, z, if_neg (by decide), m_thr1, bnd_s, if_neg (by decide)]
    · have hU := TU_of hSc hj
      have hput : Set4 ns nl (putF nw_setting l (-1)) := putF_set hIn.1 ln (Or.inl rfl) (by omega)
      obtain ⟨u1, e1, h1⟩ := c_look0 (full := sg_full) (half := sg_half) (cells := nw_cells) (masks := nw_masks) (cv := sg_covered) (dp := sg_deepest) b1 b2 hSl hwd hi ht rfl
      obtain ⟨u5, e5, h5⟩ := c_tryPut (f := nw_setting) (tr := se_trial) (x := -1) l4'
      obtain ⟨u6, e6, h6, _⟩ := c_misses0 (two := sg_two) (one := sg_one) (missed := sg_missed) b1 (show j < 6 by omega) (hput.cong h5) h1 (VV_le _ _ _ _ _ _ _ _) hU
      obtain ⟨u2, e2, h2, hM⟩ := c_misses0 (two := u6.2.1) (one := u6.2.2.1) (missed := u6.2.2.2) b1 (show j < 6 by omega) hIn.1 h1 (VV_le _ _ _ _ _ _ _ _) hU
      obtain ⟨u3, e3, g3⟩ := m_takes (w := m_world) (st := m_setting)
      have g3' : ∀ l, l < 4 → u3 l = nw_setting l := fun l hl => (g3 l hl).trans (hIn.2 l hl)
      obtain ⟨u4, e4, h4⟩ := m_lays (made := m_made) b1 b2 w0 w1 hSh hSl w5 hwd hi ht rfl
      have g5 : ∀ k, k < 4 → upd u3 l (-1) k = putF nw_setting l (-1) k := fun k hk => by
        rw [← put_off k hk, upd_at, upd_at, g3' k hk]
      refine Or.inl ⟨(nI (nW (VV nw_cells nw_masks nw_slotK nw_slotX nw_slotY nw_width i (nI t - 3)) (putF nw_setting l (-1)) (fun p => (m_world (48 + 144 * j + p)).toNatClampNeg)) - nI (nW (VV nw_cells nw_masks nw_slotK nw_slotX nw_slotY nw_width i (nI t - 3)) nw_setting (fun p => (m_world (48 + 144 * j + p)).toNatClampNeg)), u1.1, u1.2.1, u1.2.2.1, u1.2.2.2, u2.2.1, u2.2.2.1, u2.2.2.2, u5), (nI (nW (VV nw_cells nw_masks nw_slotK nw_slotX nw_slotY nw_width i (nI t - 3)) (putF nw_setting l (-1)) (fun p => (m_world (48 + 144 * j + p)).toNatClampNeg)) - nI (nW (VV nw_cells nw_masks nw_slotK nw_slotX nw_slotY nw_width i (nI t - 3)) nw_setting (fun p => (m_world (48 + 144 * j + p)).toNatClampNeg)), 0, u4, upd u3 l (-1)), ?_, ?_, rfl, rfl, hI⟩
      · unfold f_X7_helps f_X2_missesWithout
        rw [c_needSheet_yes (by omega) hs, xb_l, c_needScene_yes (by omega) hj, xb_l, (view_yes hw).1, xb_l, eC, bnd_s, z, if_neg (nI_m1 (by omega)), e1, bnd_s, e5, bnd_s, e6, bnd_s, bnd_s, e2, bnd_s, h2, h6, nW_cong h5]
      · unfold f_X8_helps f_X8_helps_J37 f_X8_helps_J58
        rw [m_noSheet_yes b1 w0 hs, bnd_s, if_pos rfl, m_noScene_yes b3 w2 hj, bnd_s, if_pos rfl, nm_s, (view_yes hw).2, if_pos rfl, m_thr0, bnd_s, if_pos rfl, eM, bnd_s, z, if_pos (nI_pos' (by omega)), m_thr0, bnd_s, if_pos rfl, e3, bnd_s, e4, bnd_s, m_wrongNow w1 b1 b2 (show j < 6 by omega) (hIn.1.cong g3') (fun l s p hl hs hp _ => h4 l hl s hs p hp) (VV_le _ _ _ _ _ _ _ _) hU, bnd_s, bnd_s, chk_n l4' (by decide), nm_s, nI_clamp (by omega), m_wrongNow w1 b1 b2 (show j < 6 by omega) (hput.cong g5) (fun l s p hl hs hp _ => h4 l hl s hs p hp) (VV_le _ _ _ _ _ _ _ _) hU, bnd_s, nW_cong g3', nW_cong g5]
  · have key : f_X7_helps (nI ns) nw_cells nw_masks (nI nl) nw_slotK nw_slotX nw_slotY nw_setting (nI nc) nw_wishes nw_width sg_full sg_half sg_covered sg_deepest sg_two sg_one sg_missed se_trial a0 a1 a2 a3 = some (.inr (2, (sg_full, sg_half, sg_covered, sg_deepest, sg_two, sg_one, sg_missed, se_trial))) ∧ f_X8_helps m_thrown m_world m_made m_setting a0 a1 a2 a3 = f_X8_helps_J32 m_world a0 a1 a2 a3 0 m_made m_setting := by
      unfold f_X7_helps f_X8_helps
      rcases pk_ix a0 (n := ns) (by omega) with h | h | ⟨s, hs, rfl⟩
      · rw [c_needSheet_no (by omega) (Or.inl h), m_noSheet_no b1 w0 (Or.inl h)]; exact ⟨rfl, rfl⟩
      · rw [c_needSheet_no (by omega) (Or.inr h), m_noSheet_no b1 w0 (Or.inr h)]; exact ⟨rfl, rfl⟩
      · rw [c_needSheet_yes (by omega) hs, m_noSheet_yes b1 w0 hs, xb_l, bnd_s, if_pos rfl]
        rcases pk_ix a1 (n := nc) (by omega) with h | h | ⟨j, hj, rfl⟩
        · rw [c_needScene_no (by omega) (Or.inl h), m_noScene_no b3 w2 (Or.inl h)]; exact ⟨rfl, rfl⟩
        · rw [c_needScene_no (by omega) (Or.inr h), m_noScene_no b3 w2 (Or.inr h)]; exact ⟨rfl, rfl⟩
        · have hn : ¬ View a2 a3 := fun q => hv ⟨⟨s, hs, rfl⟩, ⟨j, hj, rfl⟩, q⟩
          rw [c_needScene_yes (by omega) hj, m_noScene_yes b3 w2 hj, xb_l, (view_no hn).1, bnd_s, if_pos rfl, nm_s, (view_no hn).2]; exact ⟨rfl, rfl⟩
    rw [key.1, key.2]
    unfold f_X8_helps_J32 f_X8_helps_J37
    rw [m_thr1, bnd_s, if_neg (by decide)]
    exact Or.inr (Or.inr ⟨_, _, rfl, rfl, rfl, hI⟩)
