/-! ===== feed ===== -/
noncomputable def fx (a : Int32) (j : Nat) : Int32 := (a >>> (nI (24 - 8 * j) &&& 31)) &&& 255
theorem add_st {a : Int32} {b : Nat → Int32} {sh m : Nat} (hm : m < 400) (hs : sh < 100) : f_X5_add_S3 a (nI sh) b (nI m) = some (.inl (nI sh + (-8 : Int32), upd b m ((a >>> (nI sh &&& 31)) &&& 255), nI (m + 1))) := by
  unfold f_X5_add_S3
  rw [if_neg (nI_pos (by omega)), if_neg (show ¬ (400 : Int32) ≤ nI m from nI_ge (b := 400) hm (by decide)), chk_n hm (by decide), nm_s, nI_clamp (by omega), nm_s, nI_1, nm_s]
theorem c_add {bytes : Nat → Int32} {a : Int32} {n : Nat} (hn : n + 4 ≤ 400) : OK (f_X5_add bytes (nI n) a) (fun u => u.2 = nI (n + 4) ∧ (∀ i, i < n → u.1 i = bytes i) ∧ ∀ j, j < 4 → u.1 (n + j) = fx a j) := by
  have m8 : ∀ s, nI (s + 8) + (-8 : Int32) = nI s := fun s => by rw [← nI_add, Int32.add_assoc, show nI 8 + (-8 : Int32) = 0 from rfl, Int32.add_zero]
  have st : ∀ s m b, m < 400 → s < 50 → f_X5_add_S3 a (nI (s + 8)) b (nI m) = some (.inl (nI s, upd b m ((a >>> (nI (s + 8) &&& 31)) &&& 255), nI (m + 1))) := fun s m b hm hs => by rw [add_st hm (by omega), m8]
  have e : lp (fun q => f_X5_add_S3 a q.1 q.2.1 q.2.2) ((24 : Int32), bytes, nI n) = some (upd (upd (upd (upd bytes n (fx a 0)) (n + 1) (fx a 1)) (n + 2) (fx a 2)) (n + 3) (fx a 3), nI (n + 4)) :=
    lp_go (st 16 n bytes (by omega) (by decide)) (lp_go (st 8 (n + 1) _ (by omega) (by decide)) (lp_go (st 0 (n + 2) _ (by omega) (by decide)) (lp_go (add_st (sh := 0) (m := n + 3) (by omega) (by decide)) (lp_exit (by show f_X5_add_S3 a (nI 0 + (-8)) _ _ = _; unfold f_X5_add_S3; rw [if_pos (by decide)]; rfl)))))
  unfold f_X5_add f_X5_add_J3 f_X5_add_J49
  rw [e, bnd_s]
  refine ⟨_, rfl, rfl, fun i hi => ?_, fun j hj => ?_⟩
  · show upd _ _ _ _ = _
    rw [upd_ne (by omega), upd_ne (by omega), upd_ne (by omega), upd_ne (by omega)]
  · show upd _ _ _ _ = _
    rcases (show j = 0 ∨ j = 1 ∨ j = 2 ∨ j = 3 by omega) with rfl | rfl | rfl | rfl
    · rw [upd_ne (by omega), upd_ne (by omega), upd_ne (by omega)]; exact upd_same _ _ _
    · rw [upd_ne (by omega), upd_ne (by omega), upd_same]
    · rw [upd_ne (by omega), upd_same]
    · rw [upd_same]
theorem m_feed {a0 a1 a2 a3 a4 t : Int32} {A tape : Nat → Int32} {n : Nat} (hn : n + 20 ≤ 400) : OK (lp (fun q => f_X8_feed_S60 a0 a1 a2 a3 a4 t (nI n) A q.1 q.2) ((0 : Int32), tape)) (fun u => (∀ i, i < n → u i = tape i) ∧ ∀ k, k < 20 → u (n + k) = (A (k / 4) >>> (nI (24 - 8 * (k % 4)) &&& 31)).toInt8.toInt32) := by
  refine ok_lp (fun k s => s.1 = nI k ∧ (∀ i, i < n → s.2 i = tape i) ∧ ∀ j, j < k → s.2 (n + j) = (A (j / 4) >>> (nI (24 - 8 * (j % 4)) &&& 31)).toInt8.toInt32) 20 (fun k s hk hJ => Or.inl ?_) (fun s hJ => ?_) ⟨rfl, fun _ _ => rfl, fun j hj => absurd hj (Nat.not_lt_zero j)⟩
  · obtain ⟨e, q1, q2⟩ := hJ
    have d4 : nI k / (4 : Int32) = nI (k / 4) := pk_div (d := 4) (by omega) (by decide) (by decide)
    have r4 : nI k - nI k / (4 : Int32) * (4 : Int32) = nI (k % 4) := pk_rem (d := 4) (by omega) (by decide) (by decide)
    have s4 : (24 : Int32) - (8 : Int32) * nI (k % 4) = nI (24 - 8 * (k % 4)) := by
      rw [show (8 : Int32) = nI 8 from rfl, pk_mul, show (24 : Int32) = nI 24 from rfl, pk_sub (by omega)]
    unfold f_X8_feed_S60
    rw [e, if_neg (ge_20 hk), r4, d4, s4, chk_n (by omega) (by decide), nI_add, chk_n (by omega) (by decide), nm_s, nI_clamp (by omega), nI_clamp (by omega), nm_s, nI_1, pk_vb]
    refine ⟨_, rfl, rfl, fun i hi => ?_, fun j hj => ?_⟩
    · show upd _ _ _ _ = _
      rw [upd_ne (by omega)]; exact q1 i hi
    · show upd _ _ _ _ = _
      rcases Nat.lt_succ_iff_lt_or_eq.mp hj with z | rfl
      · rw [upd_ne (by omega)]; exact q2 j z
      · rw [upd_same]
  · obtain ⟨e, q1, q2⟩ := hJ
    unfold f_X8_feed_S60
    rw [e, if_pos gl_20]
    exact ⟨_, rfl, q1, q2⟩
theorem byte_of (y : Int32) : ∃ b, b < 256 ∧ y &&& 255 = nI b ∧ y.toInt8.toInt32 = (nI b).toInt8.toInt32 := by
  obtain ⟨b, hb, e⟩ := pk_andE y (m := 255) 8 (by decide)
  exact ⟨b, hb, e, by rw [← e, fa_byte_low]⟩
theorem t_feed : T_feed Inv := by
  intro ls_hasImage tp_bytes tp_length tp_fault nw_sheets nw_cells nw_pasted nw_masks nw_uses nw_slots nw_slotK nw_slotX nw_slotY nw_setting nw_scenes nw_wishes nw_frames nw_frameRows nw_seen nw_seenRows nw_width nw_hands kp_sheets kp_cells kp_pasted kp_masks kp_uses kp_slots kp_slotK kp_slotX kp_slotY kp_setting kp_scenes kp_wishes kp_frames kp_frameRows kp_seen kp_seenRows kp_width kp_hands nr_size nr_rows kr_size kr_rows m_thrown m_world m_image m_hasImage m_tape m_taped m_faultAt m_five m_rectangle m_hasRectangles hI a0 a1 a2 a3 a4
  obtain ⟨hS, hG, ⟨hf, n, hn, rfl, rfl, hb⟩, hR⟩ := hI
  by_cases h : n ≤ 380
  · have c0 : nI n ≤ (380 : Int32) := nI_le (b := 380) h (by decide)
    have c1 : nI n + (20 : Int32) ≤ (400 : Int32) := by
      rw [show nI n + (20 : Int32) = nI (n + 20) from nI_add n 20]; exact nI_le (b := 400) (by omega) (by decide)
    obtain ⟨⟨d1, l1⟩, e1, rfl, p1, q1⟩ := c_add (bytes := tp_bytes) (a := a0) (n := n) (by omega)
    obtain ⟨⟨d2, l2⟩, e2, rfl, p2, q2⟩ := c_add (bytes := d1) (a := a1) (n := n + 4) (by omega)
    obtain ⟨⟨d3, l3⟩, e3, rfl, p3, q3⟩ := c_add (bytes := d2) (a := a2) (n := n + 4 + 4) (by omega)
    obtain ⟨⟨d4, l4⟩, e4, rfl, p4, q4⟩ := c_add (bytes := d3) (a := a3) (n := n + 4 + 4 + 4) (by omega)
    obtain ⟨⟨d5, l5⟩, e5, rfl, p5, q5⟩ := c_add (bytes := d4) (a := a4) (n := n + 4 + 4 + 4 + 4) (by omega)
    dsimp only at p1 p2 p3 p4 p5 q1 q2 q3 q4 q5
    obtain ⟨u, eu, g1, g2⟩ := m_feed (a0 := a0) (a1 := a1) (a2 := a2) (a3 := a3) (a4 := a4) (t := 0) (A := upd (upd (upd (upd (upd m_five 0 a0) 1 a1) 2 a2) 3 a3) 4 a4) (tape := m_tape) (n := n) (by omega)
    refine ⟨(nI (n + 4 + 4 + 4 + 4 + 4), d5, nI (n + 4 + 4 + 4 + 4 + 4)), (nI (n + 20), 0, u, nI (n + 20), upd (upd (upd (upd (upd m_five 0 a0) 1 a1) 2 a2) 3 a3) 4 a4), ?_, ?_, rfl, hS, hG, ⟨hf, n + 20, by omega, rfl, rfl, fun i hi => ?_⟩, hR⟩
    · unfold f_X7_feed
      rw [if_pos c0, e1, bnd_s, e2, bnd_s, e3, bnd_s, e4, bnd_s, e5, bnd_s]
    · unfold f_X8_feed f_X8_feed_J60 f_X8_feed_J106
      rw [if_pos c1, chk_eq (vp_dec0 (by decide)), nm_s, chk_eq (vp_dec0 (by decide)), nm_s, chk_eq (vp_dec0 (by decide)), nm_s, chk_eq (vp_dec0 (by decide)), nm_s, chk_eq (vp_dec0 (by decide)), nm_s]
      show bnd (lp (fun q => f_X8_feed_S60 a0 a1 a2 a3 a4 0 (nI n) (upd (upd (upd (upd (upd m_five 0 a0) 1 a1) 2 a2) 3 a3) 4 a4) q.1 q.2) (0, m_tape)) _ = _
      rw [eu, bnd_s, nm_s, show nI n + (20 : Int32) = nI (n + 20) from nI_add n 20]
      rfl
    · dsimp only
      by_cases hi2 : i < n
      · obtain ⟨b, z1, z2, z3⟩ := hb i hi2
        refine ⟨b, z1, ?_, ?_⟩
        · rw [p5 i (by omega), p4 i (by omega), p3 i (by omega), p2 i (by omega), p1 i hi2]; exact z2
        · rw [g1 i hi2]; exact z3
      · obtain ⟨k, rfl⟩ : ∃ k, i = n + k := ⟨i - n, by omega⟩
        rw [g2 k (by omega)]
        have key : d5 (n + k) = fx (upd (upd (upd (upd (upd m_five 0 a0) 1 a1) 2 a2) 3 a3) 4 a4 (k / 4)) (k % 4) := by
          rcases (show k < 4 ∨ (4 ≤ k ∧ k < 8) ∨ (8 ≤ k ∧ k < 12) ∨ (12 ≤ k ∧ k < 16) ∨ (16 ≤ k ∧ k < 20) by omega) with z | z | z | z | z
          · rw [p5 _ (by omega), p4 _ (by omega), p3 _ (by omega), p2 _ (by omega), q1 k z, show k / 4 = 0 by omega, show k % 4 = k by omega, upd_ne (by omega), upd_ne (by omega), upd_ne (by omega), upd_ne (by omega), upd_same]
          · rw [p5 _ (by omega), p4 _ (by omega), p3 _ (by omega), show n + k = n + 4 + (k - 4) by omega, q2 _ (by omega), show k / 4 = 1 by omega, show k % 4 = k - 4 by omega, upd_ne (by omega), upd_ne (by omega), upd_ne (by omega), upd_same]
          · rw [p5 _ (by omega), p4 _ (by omega), show n + k = n + 4 + 4 + (k - 8) by omega, q3 _ (by omega), show k / 4 = 2 by omega, show k % 4 = k - 8 by omega, upd_ne (by omega), upd_ne (by omega), upd_same]
          · rw [p5 _ (by omega), show n + k = n + 4 + 4 + 4 + (k - 12) by omega, q4 _ (by omega), show k / 4 = 3 by omega, show k % 4 = k - 12 by omega, upd_ne (by omega), upd_same]
          · rw [show n + k = n + 4 + 4 + 4 + 4 + (k - 16) by omega, q5 _ (by omega), show k / 4 = 4 by omega, show k % 4 = k - 16 by omega, upd_same]
        rw [key]
        exact byte_of _
  · have c0 : ¬ nI n ≤ (380 : Int32) := nI_ge (a := 380) (b := n) (by omega) (by omega)
    have c1 : ¬ nI n + (20 : Int32) ≤ (400 : Int32) := by
      rw [show nI n + (20 : Int32) = nI (n + 20) from nI_add n 20]; exact nI_ge (a := 400) (by omega) (by omega)
    refine ⟨(-1, tp_bytes, nI n), (-1, 0, m_tape, nI n, m_five), ?_, ?_, rfl, hS, hG, ⟨hf, n, hn, rfl, rfl, hb⟩, hR⟩
    · unfold f_X7_feed
      rw [if_neg c0]
    · unfold f_X8_feed
      rw [if_neg c1]
/-! ===== told ===== -/
theorem c_wish {wishes : Nat → Int64} {c p v : Nat} (hc : c < 6) (hp : p < 144) (hv : v < 4) (hb : ∀ u, u < 3 → bl (wishes (9 * c + 3 * u + p / 48)) (p % 48) = decide (u = v)) : f_X4_wish wishes (nI c) (nI p) = some (nI v) := by
  unfold f_X4_wish f_X4_wish_J14
  have e0 : nI c * (3 : Int32) * (3 : Int32) + nI p / (48 : Int32) = nI (9 * c + p / 48) := by
    rw [show (3 : Int32) = nI 3 from rfl, pk_mul, pk_mul, show nI p / (48 : Int32) = nI (p / 48) from pk_div (d := 48) (by omega) (by decide) (by decide), nI_add]
    congr 1; omega
  have e1 : nI p - nI p / (48 : Int32) * (48 : Int32) = nI (p % 48) := pk_rem (d := 48) (by omega) (by decide) (by decide)
  rw [nm_s, e0]
  have h : OK (lp (fun q => f_X4_wish_S14 wishes (nI c) (nI p) (nI (9 * c + p / 48)) q) (0 : Int32)) (Sum.elim (fun z => z = nI v) (fun _ => v = 3)) := by
    refine ok_lp (fun k s => s = nI k ∧ ∀ u, u < k → u ≠ v) 3 (fun k s hk hJ => ?_) (fun s hJ => ?_) ⟨rfl, fun l hl => absurd hl (Nat.not_lt_zero l)⟩
    · obtain ⟨rfl, hno⟩ := hJ
      unfold f_X4_wish_S14
      rw [if_neg (ge_3 hk), show nI (9 * c + p / 48) + nI k * (3 : Int32) = nI (9 * c + 3 * k + p / 48) by rw [show (3 : Int32) = nI 3 from rfl, pk_mul, nI_add]; congr 1; omega, chk_n (by omega) (by decide), nI_clamp (by omega), e1]
      by_cases q : k = v
      · rw [if_neg (by rw [bl_test _ (by omega), hb k hk, decide_eq_true q]; decide)]
        exact Or.inr ⟨_, rfl, by show nI k = nI v; rw [q]⟩
      · rw [if_pos (by rw [bl_test _ (by omega), hb k hk, decide_eq_false q]), nm_s, nI_1]
        refine Or.inl ⟨_, rfl, rfl, fun u hu => ?_⟩
        rcases Nat.lt_succ_iff_lt_or_eq.mp hu with z | rfl
        · exact hno u z
        · exact q
    · obtain ⟨rfl, hno⟩ := hJ
      unfold f_X4_wish_S14
      rw [if_pos gl_3]
      refine ⟨_, rfl, ?_⟩
      show v = 3
      have := hno 0 (by decide)
      have := hno 1 (by decide)
      have := hno 2 (by decide)
      omega
  obtain ⟨r, er, hr⟩ := h
  rw [er, bnd_s]
  cases r with
  | inl z => exact congrArg some hr
  | inr z =>
    have : v = 3 := hr
    subst this
    rfl
theorem t_told : T_told Inv := by
  intro ls_hasImage tp_bytes tp_length tp_fault nw_sheets nw_cells nw_pasted nw_masks nw_uses nw_slots nw_slotK nw_slotX nw_slotY nw_setting nw_scenes nw_wishes nw_frames nw_frameRows nw_seen nw_seenRows nw_width nw_hands kp_sheets kp_cells kp_pasted kp_masks kp_uses kp_slots kp_slotK kp_slotX kp_slotY kp_setting kp_scenes kp_wishes kp_frames kp_frameRows kp_seen kp_seenRows kp_width kp_hands nr_size nr_rows kr_size kr_rows m_thrown m_world m_image m_hasImage m_tape m_taped m_faultAt m_rectangle m_hasRectangles hI a0 a1
  obtain ⟨ns, nl, nc, nf, nk, nr, ⟨b1, b2, b3, b4, b5, b6⟩, ⟨rfl, rfl, rfl, rfl, rfl, rfl⟩, ⟨w0, w1, w2, w3, w4, w5, w6, w7⟩, hwd, hSh, hSl, hIn, hSc, hFr, hSe, hRu⟩ := hI.1
  by_cases hv : (∃ j, j < nc ∧ a0 = nI j) ∧ ∃ p, p < 144 ∧ a1 = nI p
  · obtain ⟨⟨j, hj, rfl⟩, p, hp, rfl⟩ := hv
    obtain ⟨v, hv, e, hb⟩ := hSc.1 j hj p hp
    refine Or.inl ⟨nI v, (nI v, 0), ?_, ?_, rfl, rfl, hI⟩
    · unfold f_X7_told
      rw [c_needScene_yes (by omega) hj, xb_l, c_needSpot_yes hp, xb_l, c_wish (by omega) hp hv hb, bnd_s]
    · unfold f_X8_told f_X8_told_J26
      rw [m_noScene_yes b3 w2 hj, bnd_s, if_pos rfl, nm_s, m_noSpot_yes hp, if_pos rfl, m_thr0, bnd_s, if_pos rfl, show ((48 : Int32) + (144 : Int32) * nI j) + nI p = nI (48 + 144 * j + p) by rw [show (144 : Int32) = nI 144 from rfl, pk_mul, show (48 : Int32) = nI 48 from rfl, nI_add, nI_add], chk_n (by omega) (by decide), nI_clamp (by omega), e]
  · have key : f_X7_told (nI nc) nw_wishes a0 a1 = some (.inr (2, ())) ∧ f_X8_told m_thrown m_world a0 a1 = f_X8_told_J21 m_world a0 a1 0 := by
      unfold f_X7_told f_X8_told
      rcases pk_ix a0 (n := nc) (by omega) with h | h | ⟨j, hj, rfl⟩
      · rw [c_needScene_no (by omega) (Or.inl h), m_noScene_no b3 w2 (Or.inl h)]; exact ⟨rfl, rfl⟩
      · rw [c_needScene_no (by omega) (Or.inr h), m_noScene_no b3 w2 (Or.inr h)]; exact ⟨rfl, rfl⟩
      · rw [c_needScene_yes (by omega) hj, m_noScene_yes b3 w2 hj, xb_l, bnd_s, if_pos rfl]
        rcases pk_ix a1 (n := 144) (by omega) with h | h | ⟨p, hp, rfl⟩
        · rw [c_needSpot_no (Or.inl h), m_noSpot_no (Or.inl h)]; exact ⟨rfl, rfl⟩
        · rw [c_needSpot_no (Or.inr h), m_noSpot_no (Or.inr h)]; exact ⟨rfl, rfl⟩
        · exact absurd ⟨⟨j, hj, rfl⟩, p, hp, rfl⟩ hv
    rw [key.1, key.2]
    unfold f_X8_told_J21 f_X8_told_J26
    rw [m_thr1, bnd_s, if_neg (by decide)]
    exact Or.inr ⟨_, _, rfl, rfl, rfl, hI⟩
