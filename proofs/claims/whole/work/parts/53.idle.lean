/-! ===== unlike, idle ===== -/
def nD (V : Nat → Nat → Nat → Nat) (f g : Nat → Int32) : Nat := fb_ct (fun p => decide (SN V f p ≠ SN V g p)) 144
theorem nD_cong {V : Nat → Nat → Nat → Nat} {f g f' g' : Nat → Int32} (h : ∀ l, l < 4 → f l = f' l) (h' : ∀ l, l < 4 → g l = g' l) : nD V f g = nD V f' g' := fb_ct_cong (fun p _ => by rw [SN_cong h, SN_cong h'])
theorem c_remember {two one tb ob : Nat → Int64} : OK (f_X3_remember two one tb ob) (fun u => ∀ q, q < 3 → u.1 q = two q ∧ u.2 q = one q) := by
  unfold f_X3_remember f_X3_remember_J2
  refine ok_bnd (P := fun u => ∀ q, q < 3 → u.1 q = two q ∧ u.2 q = one q) ?_ (fun z hz => ⟨_, rfl, hz⟩)
  refine ok_lp (fun k s => s.1 = nI k ∧ ∀ q, q < k → s.2.1 q = two q ∧ s.2.2 q = one q) 3 (fun k s hk hJ => Or.inl ?_) (fun s hJ => ?_) ⟨rfl, fun q hq => absurd hq (Nat.not_lt_zero q)⟩
  · obtain ⟨e, h1⟩ := hJ
    unfold f_X3_remember_S2
    rw [e, if_neg (ge_3 hk), chk_n hk (by decide), chk_n hk (by decide), nm_s, nI_clamp (by omega), chk_n hk (by decide), chk_n hk (by decide), nm_s, nm_s, nI_1]
    refine ⟨_, rfl, rfl, fun q hq => ?_⟩
    show vp_updL _ _ _ _ = _ ∧ vp_updL _ _ _ _ = _
    rw [updL_at, updL_at]
    by_cases y : q = k
    · subst y; rw [if_pos rfl, if_pos rfl]; exact ⟨rfl, rfl⟩
    · rw [if_neg y, if_neg y]; exact h1 q (by omega)
  · obtain ⟨e, h1⟩ := hJ
    unfold f_X3_remember_S2
    rw [e, if_pos gl_3]
    exact ⟨_, rfl, h1⟩
theorem Two.of {V : Nat → Nat → Nat → Nat} {f : Nat → Int32} {two one tb ob : Nat → Int64} (h : Two V f two one) (e : ∀ q, q < 3 → tb q = two q ∧ ob q = one q) : Two V f tb ob := ⟨fun p hp => by rw [(e (p / 48) (by omega)).1, (e (p / 48) (by omega)).2]; exact h.1 p hp, fun q hq i hi => by rw [(e q hq).1, (e q hq).2]; exact h.2 q hq i hi⟩
theorem c_others {V : Nat → Nat → Nat → Nat} {f g : Nat → Int32} {two one tb ob : Nat → Int64} (h : Two V f tb ob) (hg : Two V g two one) : f_X3_othersThanRemembered two one tb ob = some (nI (nD V f g)) := by
  unfold f_X3_othersThanRemembered f_X3_othersThanRemembered_J4 f_X3_othersThanRemembered_J48
  have hb : ∀ p, p < 144 → bl ((tb (p / 48) ^^^ two (p / 48)) ||| (ob (p / 48) ^^^ one (p / 48))) (p % 48) = decide (SN V f p ≠ SN V g p) := fun p hp => by
    rw [bl_or, bl_xor, bl_xor, (h.1 p hp).1, (h.1 p hp).2, (hg.1 p hp).1, (hg.1 p hp).2]
    have h1 := SN_le V f p
    have h2 := SN_le V g p
    rcases (show SN V f p = 0 ∨ SN V f p = 1 ∨ SN V f p = 2 by omega) with z | z | z <;> rcases (show SN V g p = 0 ∨ SN V g p = 1 ∨ SN V g p = 2 by omega) with y | y | y <;> rw [y, z] <;> rfl
  have hh : ∀ q, q < 3 → ∀ i, 48 ≤ i → bl ((tb q ^^^ two q) ||| (ob q ^^^ one q)) i = false := fun q hq i hi => by
    rw [bl_or, bl_xor, bl_xor, (h.2 q hq i hi).1, (h.2 q hq i hi).2, (hg.2 q hq i hi).1, (hg.2 q hq i hi).2]; rfl
  have ct := part_ct (x := fun q => (tb q ^^^ two q) ||| (ob q ^^^ one q)) (P := fun p => decide (SN V f p ≠ SN V g p)) hb hh
  refine (bnd_eq (lp_run' (fun k => (nI (fb_ct (fun p => decide (SN V f p ≠ SN V g p)) (48 * k)), nI k)) (r := nI (nD V f g)) 3 rfl (fun k hk => ?_) rfl)).trans rfl
  show f_X3_othersThanRemembered_S4 two one tb ob (nI (fb_ct (fun p => decide (SN V f p ≠ SN V g p)) (48 * k))) (nI k) = _
  unfold f_X3_othersThanRemembered_S4
  have ctk := ct k hk
  rw [if_neg (ge_3 hk), chk_n hk (by decide), chk_n hk (by decide), chk_n hk (by decide), chk_n hk (by decide), nm_s, nI_clamp (by omega), nm_s, nm_s, nI_1, ctk, nI_add, part_run _ k hk]
theorem m_keeps {w made f had : Nat → Int32} {V : Nat → Nat → Nat → Nat} {ns nl : Nat} (w1 : w 1 = nI nl) (h6 : ns ≤ 6) (h4 : nl ≤ 4) (hf : Set4 ns nl f) (hM : ∀ l s p, l < nl → s < ns → p < 144 → f l = nI s → made (864 * l + 144 * s + p) = nI (V l s p)) (h2 : ∀ l s p, V l s p ≤ 2) : OK (f_X8_keeps w made f had) (fun u => ∀ p, p < 144 → u p = nI (SN V f p)) := by
  unfold f_X8_keeps f_X8_keeps_J2
  refine ok_bnd (P := fun u => ∀ p, p < 144 → u p = nI (SN V f p)) ?_ (fun z hz => ⟨_, rfl, hz⟩)
  refine ok_lp (fun k s => s.1 = nI k ∧ ∀ p, p < k → s.2 p = nI (SN V f p)) 144 (fun k s hk hJ => Or.inl ?_) (fun s hJ => ?_) ⟨rfl, fun q hq => absurd hq (Nat.not_lt_zero q)⟩
  · obtain ⟨e, h1⟩ := hJ
    unfold f_X8_keeps_S2
    rw [e, if_neg (ge_144 hk), m_shadeNow w1 h6 h4 hf hk (fun l s hl hs e => hM l s k hl hs hk e) h2, bnd_s, chk_n hk (by decide), nm_s, nI_clamp (by omega), nm_s, nI_1]
    refine ⟨_, rfl, rfl, fun p hp => ?_⟩
    show upd _ _ _ _ = _
    rcases Nat.lt_succ_iff_lt_or_eq.mp hp with z | rfl
    · rw [upd_ne (by omega)]; exact h1 p z
    · exact upd_same _ _ _
  · obtain ⟨e, h1⟩ := hJ
    unfold f_X8_keeps_S2
    rw [e, if_pos gl_144]
    exact ⟨_, rfl, h1⟩
theorem m_others {w made f g had : Nat → Int32} {V : Nat → Nat → Nat → Nat} {ns nl : Nat} (w1 : w 1 = nI nl) (h6 : ns ≤ 6) (h4 : nl ≤ 4) (hg : Set4 ns nl g) (hM : ∀ l s p, l < nl → s < ns → p < 144 → g l = nI s → made (864 * l + 144 * s + p) = nI (V l s p)) (h2 : ∀ l s p, V l s p ≤ 2) (hh : ∀ p, p < 144 → had p = nI (SN V f p)) : f_X8_others w made g had = some (nI (nD V f g)) := by
  unfold f_X8_others f_X8_others_J4
  refine (bnd_eq (lp_run' (fun k => (nI (fb_ct (fun p => decide (SN V f p ≠ SN V g p)) k), nI k)) (r := nI (nD V f g)) 144 rfl (fun k hk => ?_) ?_)).trans rfl
  · show f_X8_others_S4 w made g had (nI (fb_ct (fun p => decide (SN V f p ≠ SN V g p)) k)) (nI k) = some (.inl (nI (fb_ct (fun p => decide (SN V f p ≠ SN V g p)) k + (if decide (SN V f k ≠ SN V g k) then 1 else 0)), nI (k + 1)))
    have q1 := SN_le V f k
    have q2 := SN_le V g k
    unfold f_X8_others_S4 f_X8_others_J31
    rw [if_neg (ge_144 hk), chk_n hk (by decide), m_shadeNow w1 h6 h4 hg hk (fun l s hl hs e => hM l s k hl hs hk e) h2, bnd_s, nI_clamp (by omega), hh k hk]
    by_cases z : SN V f k = SN V g k
    · rw [if_pos (by rw [z]), nm_s, nm_s, nI_1, Int32.add_zero, decide_eq_false (fun q => q z)]; rfl
    · rw [if_neg (mt (nI_eq (by omega) (by omega)).mp z), nm_s, nm_s, nI_1, nI_1, decide_eq_true z]; rfl
  · show f_X8_others_S4 w made g had (nI (fb_ct (fun p => decide (SN V f p ≠ SN V g p)) 144)) (nI 144) = _
    unfold f_X8_others_S4
    rw [if_pos gl_144]
    rfl
theorem t_unlike : T_unlike Inv := by
  intro ls_hasImage tp_bytes tp_length tp_fault nw_sheets nw_cells nw_pasted nw_masks nw_uses nw_slots nw_slotK nw_slotX nw_slotY nw_setting nw_scenes nw_wishes nw_frames nw_frameRows nw_seen nw_seenRows nw_width nw_hands kp_sheets kp_cells kp_pasted kp_masks kp_uses kp_slots kp_slotK kp_slotX kp_slotY kp_setting kp_scenes kp_wishes kp_frames kp_frameRows kp_seen kp_seenRows kp_width kp_hands sg_full sg_half sg_covered sg_deepest sg_two sg_one sg_twoBefore sg_oneBefore nr_size nr_rows kr_size kr_rows m_thrown m_world m_image m_hasImage m_tape m_taped m_faultAt m_rectangle m_hasRectangles m_made m_setting m_had hI a0 a1 a2 a3
  obtain ⟨ns, nl, nc, nf, nk, nr, ⟨b1, b2, b3, b4, b5, b6⟩, ⟨rfl, rfl, rfl, rfl, rfl, rfl⟩, ⟨w0, w1, w2, w3, w4, w5, w6, w7⟩, hwd, hSh, hSl, hIn, hSc, hFr, hSe, hRu⟩ := hI.1
  by_cases hv : (∃ j, j < nf ∧ a0 = nI j) ∧ (∃ k, k < nf ∧ a1 = nI k) ∧ View a2 a3
  · obtain ⟨⟨j, hj, rfl⟩, ⟨k, hk, rfl⟩, hw⟩ := hv
    have hw' := hw
    obtain ⟨⟨i, hi, rfl⟩, t, ht, rfl⟩ := hw'
    obtain ⟨u1, e1, h1⟩ := c_look0 (full := sg_full) (half := sg_half) (cells := nw_cells) (masks := nw_masks) (cv := sg_covered) (dp := sg_deepest) b1 b2 hSl hwd hi ht rfl
    obtain ⟨u2, e2, h2⟩ := c_shine0 (two := sg_two) (one := sg_one) (pa := nw_frameRows) (pn := 48) (fr := 4 * j) b1 (hFr j hj).1 (by omega) (by decide) (fun l hl => rfl) h1 (VV_le _ _ _ _ _ _ _ _)
    obtain ⟨u3, e3, h3⟩ := c_remember (two := u2.1) (one := u2.2) (tb := sg_twoBefore) (ob := sg_oneBefore)
    obtain ⟨u4, e4, h4⟩ := c_shine0 (two := u2.1) (one := u2.2) (pa := nw_frameRows) (pn := 48) (fr := 4 * k) b1 (hFr k hk).1 (by omega) (by decide) (fun l hl => rfl) h1 (VV_le _ _ _ _ _ _ _ _)
    have e5 := c_others (h2.of h3) h4
    obtain ⟨v1, d1, g1⟩ := m_lays (made := m_made) b1 b2 w0 w1 hSh hSl w5 hwd hi ht rfl
    obtain ⟨v2, d2, g2⟩ := m_takesFrame (w := m_world) (st := m_setting) (f := j) (by omega)
    have g2' : ∀ l, l < 4 → v2 l = nw_frameRows (4 * j + l) := fun l hl => (g2 l hl).trans ((hFr j hj).2 l hl)
    obtain ⟨v3, d3, g3⟩ := m_keeps (had := m_had) w1 b1 b2 ((hFr j hj).1.cong g2') (fun l s p hl hs hp _ => g1 l hl s hs p hp) (VV_le _ _ _ _ _ _ _ _)
    obtain ⟨v4, d4, g4⟩ := m_takesFrame (w := m_world) (st := v2) (f := k) (by omega)
    have g4' : ∀ l, l < 4 → v4 l = nw_frameRows (4 * k + l) := fun l hl => (g4 l hl).trans ((hFr k hk).2 l hl)
    have d5 := m_others w1 b1 b2 ((hFr k hk).1.cong g4') (fun l s p hl hs hp _ => g1 l hl s hs p hp) (VV_le _ _ _ _ _ _ _ _) g3
    have m4 : ∀ n, nI n * (4 : Int32) = nI (4 * n) := fun n => by rw [show (4 : Int32) = nI 4 from rfl, pk_mul, Nat.mul_comm]
    refine Or.inl ⟨(nI (nD (VV nw_cells nw_masks nw_slotK nw_slotX nw_slotY nw_width i (nI t - 3)) (fun l => nw_frameRows (4 * j + l)) (fun l => nw_frameRows (4 * k + l))), u1.1, u1.2.1, u1.2.2.1, u1.2.2.2, u4.1, u4.2, u3.1, u3.2), (nI (nD (VV nw_cells nw_masks nw_slotK nw_slotX nw_slotY nw_width i (nI t - 3)) v2 v4), 0, v1, v4, v3), ?_, ?_, rfl, congrArg nI (nD_cong (fun l hl => (g2' l hl).symm) (fun l hl => (g4' l hl).symm)), hI⟩
    · unfold f_X7_unlike
      rw [c_needFrame_yes (by omega) hj, xb_l, c_needFrame_yes (by omega) hk, xb_l, (view_yes hw).1, xb_l, e1, bnd_s, m4, m4, e2, bnd_s, e3, bnd_s, e4, bnd_s, e5, bnd_s]
    · unfold f_X8_unlike f_X8_unlike_J37
      rw [m_noFrame_yes b4 w3 hj, bnd_s, if_pos rfl, m_noFrame_yes b4 w3 hk, bnd_s, if_pos rfl, nm_s, (view_yes hw).2, if_pos rfl, m_thr0, bnd_s, if_pos rfl, d1, bnd_s, d2, bnd_s, d3, bnd_s, d4, bnd_s, d5, bnd_s]
  · have key : f_X7_unlike (nI ns) nw_cells nw_masks (nI nl) nw_slotK nw_slotX nw_slotY (nI nf) nw_frameRows nw_width sg_full sg_half sg_covered sg_deepest sg_two sg_one sg_twoBefore sg_oneBefore a0 a1 a2 a3 = some (.inr (2, (sg_full, sg_half, sg_covered, sg_deepest, sg_two, sg_one, sg_twoBefore, sg_oneBefore))) ∧ f_X8_unlike m_thrown m_world m_made m_setting m_had a0 a1 a2 a3 = f_X8_unlike_J32 m_world a0 a1 a2 a3 0 m_made m_setting m_had := by
      unfold f_X7_unlike f_X8_unlike
      rcases pk_ix a0 (n := nf) (by omega) with h | h | ⟨s, hs, rfl⟩
      · rw [c_needFrame_no (by omega) (Or.inl h), m_noFrame_no b4 w3 (Or.inl h)]; exact ⟨rfl, rfl⟩
      · rw [c_needFrame_no (by omega) (Or.inr h), m_noFrame_no b4 w3 (Or.inr h)]; exact ⟨rfl, rfl⟩
      · rw [c_needFrame_yes (by omega) hs, m_noFrame_yes b4 w3 hs, xb_l, bnd_s, if_pos rfl]
        rcases pk_ix a1 (n := nf) (by omega) with h | h | ⟨j, hj, rfl⟩
        · rw [c_needFrame_no (by omega) (Or.inl h), m_noFrame_no b4 w3 (Or.inl h)]; exact ⟨rfl, rfl⟩
        · rw [c_needFrame_no (by omega) (Or.inr h), m_noFrame_no b4 w3 (Or.inr h)]; exact ⟨rfl, rfl⟩
        · have hn : ¬ View a2 a3 := fun q => hv ⟨⟨s, hs, rfl⟩, ⟨j, hj, rfl⟩, q⟩
          rw [c_needFrame_yes (by omega) hj, m_noFrame_yes b4 w3 hj, xb_l, (view_no hn).1, bnd_s, if_pos rfl, nm_s, (view_no hn).2]; exact ⟨rfl, rfl⟩
    rw [key.1, key.2]
    unfold f_X8_unlike_J32 f_X8_unlike_J37
    rw [m_thr1, bnd_s, if_neg (by decide)]
    exact Or.inr ⟨_, _, rfl, rfl, rfl, hI⟩
noncomputable def ibits (N : Nat → Nat) (f : Nat → Int32) : Nat → Int32
  | 0 => 0
  | l + 1 => if f l = -1 then ibits N f l else if N l = 0 then ibits N f l ||| ((1 : Int32) <<< (f l &&& 31)) else ibits N f l
theorem ibits_tail {N : Nat → Nat} {f : Nat → Int32} {ns nl : Nat} (hf : Set4 ns nl f) (h4 : nl ≤ 4) : ibits N f 4 = ibits N f nl := by
  have h : ∀ d, nl + d ≤ 4 → ibits N f (nl + d) = ibits N f nl := by
    intro d
    induction d with
    | zero => intro _; rfl
    | succ d ih =>
      intro hd
      show (if f (nl + d) = -1 then ibits N f (nl + d) else _) = _
      rcases hf.1 (nl + d) (by omega) with e | ⟨e, _⟩
      · rw [if_pos e]; exact ih (by omega)
      · omega
  have := h (4 - nl) (by omega)
  rwa [show nl + (4 - nl) = 4 by omega] at this
theorem t_idle : T_idle Inv := by
  intro ls_hasImage tp_bytes tp_length tp_fault nw_sheets nw_cells nw_pasted nw_masks nw_uses nw_slots nw_slotK nw_slotX nw_slotY nw_setting nw_scenes nw_wishes nw_frames nw_frameRows nw_seen nw_seenRows nw_width nw_hands kp_sheets kp_cells kp_pasted kp_masks kp_uses kp_slots kp_slotK kp_slotX kp_slotY kp_setting kp_scenes kp_wishes kp_frames kp_frameRows kp_seen kp_seenRows kp_width kp_hands sg_full sg_half sg_covered sg_deepest sg_two sg_one sg_twoBefore sg_oneBefore se_trial nr_size nr_rows kr_size kr_rows m_thrown m_world m_image m_hasImage m_tape m_taped m_faultAt m_rectangle m_hasRectangles m_made m_setting m_had hI a0 a1
  obtain ⟨ns, nl, nc, nf, nk, nr, ⟨b1, b2, b3, b4, b5, b6⟩, ⟨rfl, rfl, rfl, rfl, rfl, rfl⟩, ⟨w0, w1, w2, w3, w4, w5, w6, w7⟩, hwd, hSh, hSl, hIn, hSc, hFr, hSe, hRu⟩ := hI.1
  by_cases hw : View a0 a1
  · have hw' := hw
    obtain ⟨⟨i, hi, rfl⟩, t, ht, rfl⟩ := hw'
    obtain ⟨u1, e1, h1⟩ := c_look0 (full := sg_full) (half := sg_half) (cells := nw_cells) (masks := nw_masks) (cv := sg_covered) (dp := sg_deepest) b1 b2 hSl hwd hi ht rfl
    obtain ⟨u2, e2, h2⟩ := c_shine0 (two := sg_two) (one := sg_one) (pa := nw_setting) (pn := 4) (fr := 0) b1 hIn.1 (by decide) (by decide) (fun l hl => by rw [Nat.zero_add]) h1 (VV_le _ _ _ _ _ _ _ _)
    have e2' : f_X3_shine u1.1 u1.2.1 sg_two sg_one nw_setting 4 (0 : Int32) (0 : Int32) = some u2 := e2
    obtain ⟨u3, e3, h3⟩ := c_remember (two := u2.1) (one := u2.2) (tb := sg_twoBefore) (ob := sg_oneBefore)
    have hC : OK (lp (fun q => f_X2_useless_S27 nw_setting u1.1 u1.2.1 u3.1 u3.2 q.1 q.2.1 q.2.2.1 q.2.2.2.1 q.2.2.2.2) ((0 : Int32), (0 : Int32), u2.1, u2.2, se_trial)) (fun r => r.1 = ibits (fun l => nD (VV nw_cells nw_masks nw_slotK nw_slotX nw_slotY nw_width i (nI t - 3)) nw_setting (putF nw_setting l (-1))) nw_setting 4) := by
      refine ok_lp (fun l s => s.1 = ibits (fun l => nD (VV nw_cells nw_masks nw_slotK nw_slotX nw_slotY nw_width i (nI t - 3)) nw_setting (putF nw_setting l (-1))) nw_setting l ∧ s.2.1 = nI l) 4 (fun l s hl hJ => Or.inl ?_) (fun s hJ => ?_) ⟨rfl, rfl⟩
      · obtain ⟨q1, q2⟩ := hJ
        unfold f_X2_useless_S27 f_X2_useless_J85
        rw [q1, q2, if_neg (ge_4 hl), chk_n hl (by decide), nm_s, nI_clamp (by omega)]
        by_cases z : nw_setting l = -1
        · rw [if_pos z, nm_s, nI_1]
          refine ⟨_, rfl, ?_, rfl⟩
          show _ = if _ then _ else _
          rw [if_pos z]
        · have hln : l < nl := (hIn.1.1 l hl).elim (fun q => absurd q z) (fun q => q.1)
          have hput : Set4 ns nl (putF nw_setting l (-1)) := putF_set hIn.1 hln (Or.inl rfl) (by omega)
          obtain ⟨v1, d1, g1⟩ := c_tryPut (f := nw_setting) (tr := s.2.2.2.2) (x := -1) hl
          obtain ⟨v2, d2, g2⟩ := c_shine0 (two := s.2.2.1) (one := s.2.2.2.1) (pa := v1) (pn := 4) (fr := 0) b1 (hput.cong g1) (by decide) (by decide) (fun l hl => by rw [Nat.zero_add]) h1 (VV_le _ _ _ _ _ _ _ _)
          have d2' : f_X3_shine u1.1 u1.2.1 s.2.2.1 s.2.2.2.1 v1 4 (0 : Int32) (0 : Int32) = some v2 := d2
          have d3 := c_others (h2.of h3) g2
          rw [nD_cong (fun _ _ => rfl) g1] at d3
          have hle : nD (VV nw_cells nw_masks nw_slotK nw_slotX nw_slotY nw_width i (nI t - 3)) nw_setting (putF nw_setting l (-1)) ≤ 144 := fb_ct_le _ _
          rw [if_neg z, d1, bnd_s, d2', bnd_s, d3, bnd_s, nm_s, nm_s, nm_s, nI_1]
          by_cases y : nD (VV nw_cells nw_masks nw_slotK nw_slotX nw_slotY nw_width i (nI t - 3)) nw_setting (putF nw_setting l (-1)) = 0
          · rw [if_pos (by rw [y]; rfl)]
            refine ⟨_, rfl, ?_, rfl⟩
            show _ = if _ then _ else if _ then _ else _
            rw [if_neg z, if_pos y]
          · rw [if_neg (nI_ne0 (by omega) (by omega))]
            refine ⟨_, rfl, ?_, rfl⟩
            show _ = if _ then _ else if _ then _ else _
            rw [if_neg z, if_neg y]
      · obtain ⟨q1, q2⟩ := hJ
        unfold f_X2_useless_S27
        rw [q2, if_pos gl_4]
        exact ⟨_, rfl, q1⟩
    obtain ⟨m1, k1, j1⟩ := m_lays (made := m_made) b1 b2 w0 w1 hSh hSl w5 hwd hi ht rfl
    have hm : OK (lp (fun q => f_X8_idle_S32 m_world (nI i) (nI t - 3) 0 m1 q.1 q.2.1 q.2.2.1 q.2.2.2) ((0 : Int32), (0 : Int32), m_setting, m_had)) (fun r => r.1 = ibits (fun l => nD (VV nw_cells nw_masks nw_slotK nw_slotX nw_slotY nw_width i (nI t - 3)) nw_setting (putF nw_setting l (-1))) nw_setting nl) := by
      refine ok_lp (fun l s => s.1 = ibits (fun l => nD (VV nw_cells nw_masks nw_slotK nw_slotX nw_slotY nw_width i (nI t - 3)) nw_setting (putF nw_setting l (-1))) nw_setting l ∧ s.2.1 = nI l) nl (fun l s hln hJ => Or.inl ?_) (fun s hJ => ?_) ⟨rfl, rfl⟩
      · obtain ⟨q1, q2⟩ := hJ
        have hl : l < 4 := by omega
        unfold f_X8_idle_S32 f_X8_idle_J89 f_X8_idle_J91
        rw [q1, q2, m_slots, bnd_s, w1, if_neg (nI_ge hln (by omega)), m_inSlot hl, bnd_s, hIn.2 l hl]
        by_cases z : nw_setting l = -1
        · rw [if_neg (by rw [z]; decide), nm_s, nI_1]
          refine ⟨_, rfl, ?_, rfl⟩
          show _ = if _ then _ else _
          rw [if_pos z]
        · have hput : Set4 ns nl (putF nw_setting l (-1)) := putF_set hIn.1 hln (Or.inl rfl) (by omega)
          have hpos : 0 ≤ nw_setting l := by
            rcases hIn.1.1 l hl with q | ⟨_, s0, hs0, q⟩
            · exact absurd q z
            · rw [q]; exact nI_pos' (by omega)
          obtain ⟨v1, d1, g1⟩ := m_takes (w := m_world) (st := s.2.2.1)
          have g1' : ∀ l, l < 4 → v1 l = nw_setting l := fun l hl => (g1 l hl).trans (hIn.2 l hl)
          obtain ⟨v2, d2, g2⟩ := m_keeps (had := s.2.2.2) w1 b1 b2 (hIn.1.cong g1') (fun l s p hl hs hp _ => j1 l hl s hs p hp) (VV_le _ _ _ _ _ _ _ _)
          have g5 : ∀ k, k < 4 → upd v1 l (-1) k = putF nw_setting l (-1) k := fun k hk => by
            rw [← put_off k hk, upd_at, upd_at, g1' k hk]
          have d3 := m_others w1 b1 b2 (hput.cong g5) (fun l s p hl hs hp _ => j1 l hl s hs p hp) (VV_le _ _ _ _ _ _ _ _) g2
          rw [nD_cong g1' g5] at d3
          have hle : nD (VV nw_cells nw_masks nw_slotK nw_slotX nw_slotY nw_width i (nI t - 3)) nw_setting (putF nw_setting l (-1)) ≤ 144 := fb_ct_le _ _
          rw [if_pos hpos, d1, bnd_s, d2, bnd_s, chk_n hl (by decide), nm_s, nI_clamp (by omega), d3, bnd_s, bnd_s, nm_s, nm_s, nm_s, nm_s, nI_1]
          by_cases y : nD (VV nw_cells nw_masks nw_slotK nw_slotX nw_slotY nw_width i (nI t - 3)) nw_setting (putF nw_setting l (-1)) = 0
          · rw [if_pos (by rw [y]; rfl)]
            refine ⟨_, rfl, ?_, rfl⟩
            show _ = if _ then _ else if _ then _ else _
            rw [if_neg z, if_pos y]
          · rw [if_neg (nI_ne0 (by omega) (by omega)), or0]
            refine ⟨_, rfl, ?_, rfl⟩
            show _ = if _ then _ else if _ then _ else _
            rw [if_neg z, if_neg y]
      · obtain ⟨q1, q2⟩ := hJ
        unfold f_X8_idle_S32
        rw [q2, m_slots, bnd_s, w1, if_pos (Int32.le_refl _)]
        exact ⟨_, rfl, q1⟩
    obtain ⟨r1, f1, p1⟩ := hC
    obtain ⟨r2, f2, p2⟩ := hm
    refine Or.inl ⟨(r1.1, u1.1, u1.2.1, u1.2.2.1, u1.2.2.2, r1.2.1, r1.2.2.1, u3.1, u3.2, r1.2.2.2), (r2.1, 0, m1, r2.2.1, r2.2.2), ?_, ?_, rfl, p1.trans ((ibits_tail hIn.1 b2).trans p2.symm), hI⟩
    · unfold f_X7_idle f_X2_useless f_X2_useless_J27 f_X2_useless_J91
      rw [(view_yes hw).1, xb_l, e1, bnd_s, e2', bnd_s, e3, bnd_s, f1, bnd_s, bnd_s]
    · unfold f_X8_idle f_X8_idle_J32 f_X8_idle_J97
      rw [nm_s, (view_yes hw).2, m_thr0, bnd_s, if_pos rfl, k1, bnd_s, f2, bnd_s]
  · refine Or.inr ⟨(sg_full, sg_half, sg_covered, sg_deepest, sg_two, sg_one, sg_twoBefore, sg_oneBefore, se_trial), (0, 1, m_made, m_setting, m_had), ?_, ?_, rfl, hI⟩
    · unfold f_X7_idle
      rw [(view_no hw).1]
      rfl
    · unfold f_X8_idle
      rw [nm_s, (view_no hw).2, m_thr1, bnd_s, if_neg (by decide)]
