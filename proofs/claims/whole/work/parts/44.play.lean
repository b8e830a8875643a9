/-! ===== playing: frames, times ===== -/
theorem frame_both {ns nl nf f : Nat} {pasted masks w0 c u w rows : Nat → Int32} {a t k3 : Int32} (h6 : ns ≤ 6) (h12 : nf ≤ 12) (hf : f < nf) (hF : FrO ns nl nf rows w0) (hR : RP ns pasted masks w0 c u w) :
    ∃ (x : Int32) (c' u' w' : Nat → Int32), (∀ y r, lp (fun q => f_X4_playFrames_S4 (nI nf) rows q.1 q.2.1 q.2.2.1 q.2.2.2) (y + x, nI (4 * (f + 1)), c', u') = some r → lp (fun q => f_X4_playFrames_S4 (nI nf) rows q.1 q.2.1 q.2.2.1 q.2.2.2) (y, nI (4 * f), c, u) = some r) ∧ (∀ y, lp (fun q => f_X8_play_S56 a t k3 (nI f) q.1 q.2.1 q.2.2) (y, 0, w) = some (y + x, w')) ∧ RP ns pasted masks w0 c' u' w' := by
  obtain ⟨x0, c0, u0, v0, g0, m0, R0⟩ := one_both (a := a) (t := t) (k3 := k3) (l := 0) h6 h12 hf (by decide) hF hR
  obtain ⟨x1, c1, u1, v1, g1, m1, R1⟩ := one_both (a := a) (t := t) (k3 := k3) (l := 1) h6 h12 hf (by decide) hF R0
  obtain ⟨x2, c2, u2, v2, g2, m2, R2⟩ := one_both (a := a) (t := t) (k3 := k3) (l := 2) h6 h12 hf (by decide) hF R1
  obtain ⟨x3, c3, u3, v3, g3, m3, R3⟩ := one_both (a := a) (t := t) (k3 := k3) (l := 3) h6 h12 hf (by decide) hF R2
  have ea : ∀ y, y + x0 + x1 + x2 + x3 = y + (x0 + x1 + x2 + x3) := fun y => by simp only [Int32.add_assoc]
  refine ⟨x0 + x1 + x2 + x3, c3, u3, v3, fun y r h => ?_, fun y => ?_, R3⟩
  · refine lp_go (g0 y) (lp_go (g1 _) (lp_go (g2 _) (lp_go (g3 _) ?_)))
    rw [ea y]
    exact h
  · refine lp_go (m0 y) (lp_go (m1 _) (lp_go (m2 _) (lp_go (m3 _) ?_)))
    rw [ea y]
    refine lp_exit ?_
    show f_X8_play_S56 a t k3 (nI f) _ (nI 4) _ = _
    unfold f_X8_play_S56
    rw [if_pos gl_4]
theorem frames_both {ns nl nf : Nat} {pasted masks w0 rows : Nat → Int32} {a t k3 : Int32} (h6 : ns ≤ 6) (h12 : nf ≤ 12) (hF : FrO ns nl nf rows w0) (w3 : w0 3 = nI nf) : ∀ d f (c u w : Nat → Int32), f + d = nf → RP ns pasted masks w0 c u w →
    ∃ (x : Int32) (c' u' w' : Nat → Int32), (∀ y, lp (fun q => f_X4_playFrames_S4 (nI nf) rows q.1 q.2.1 q.2.2.1 q.2.2.2) (y, nI (4 * f), c, u) = some (y + x, c', u')) ∧ (∀ y, lp (fun q => f_X8_play_S42 a t k3 q.1 q.2.1 q.2.2) (y, nI f, w) = some (y + x, w')) ∧ RP ns pasted masks w0 c' u' w' := by
  have e4 : nI nf * (4 : Int32) = nI (4 * nf) := by rw [show (4 : Int32) = nI 4 from rfl, pk_mul, Nat.mul_comm]
  intro d
  induction d with
  | zero =>
    intro f c u w hd hR
    obtain rfl : f = nf := by omega
    refine ⟨0, c, u, w, fun y => lp_exit ?_, fun y => lp_exit ?_, hR⟩
    · show f_X4_playFrames_S4 (nI f) rows y (nI (4 * f)) c u = _
      unfold f_X4_playFrames_S4
      rw [e4, if_pos (Int32.le_refl _), Int32.add_zero]
    · show f_X8_play_S42 a t k3 y (nI f) w = _
      unfold f_X8_play_S42
      rw [ck3, tn3, hR.2 3 (by omega), w3, if_pos (Int32.le_refl _), Int32.add_zero]
  | succ d ih =>
    intro f c u w hd hR
    obtain ⟨x0, c0, u0, v0, g0, m0, R0⟩ := frame_both (a := a) (t := t) (k3 := k3) h6 h12 (show f < nf by omega) hF hR
    obtain ⟨x1, c1, u1, v1, g1, m1, R1⟩ := ih (f + 1) c0 u0 v0 (by omega) R0
    refine ⟨x0 + x1, c1, u1, v1, fun y => ?_, fun y => ?_, R1⟩
    · refine g0 y _ ?_
      rw [g1, Int32.add_assoc]
    · refine lp_go (s' := (y + x0, nI (f + 1), v0)) ?_ ?_
      · show f_X8_play_S42 a t k3 y (nI f) w = _
        unfold f_X8_play_S42 f_X8_play_J56 f_X8_play_J163
        rw [ck3, tn3, hR.2 3 (by omega), w3, if_neg (nI_ge (by omega) (by omega)), m0, bnd_s, nm_s, nI_1]
      · rw [m1, Int32.add_assoc]
theorem times_both {ns nl nf T : Nat} {pasted masks w0 rows : Nat → Int32} {t : Int32} (h6 : ns ≤ 6) (h12 : nf ≤ 12) (hT : T ≤ 50) (hF : FrO ns nl nf rows w0) (w3 : w0 3 = nI nf) : ∀ d k (c u w : Nat → Int32), k + d = T → RP ns pasted masks w0 c u w →
    ∃ (x : Int32) (c' u' w' : Nat → Int32), (∀ y, lp (fun q => f_X7_play_S26 (nI nf) rows (nI T) q.1 q.2.1 q.2.2.1 q.2.2.2) (y, nI k, c, u) = some (y + x, c', u')) ∧ (∀ y, lp (fun q => f_X8_play_S34 (nI T) t q.1 q.2.1 q.2.2) (y, nI k, w) = some (y + x, w')) ∧ RP ns pasted masks w0 c' u' w' := by
  intro d
  induction d with
  | zero =>
    intro k c u w hd hR
    obtain rfl : k = T := by omega
    refine ⟨0, c, u, w, fun y => lp_exit ?_, fun y => lp_exit ?_, hR⟩
    · show f_X7_play_S26 (nI nf) rows (nI k) y (nI k) c u = _
      unfold f_X7_play_S26
      rw [if_pos (Int32.le_refl _), Int32.add_zero]
    · show f_X8_play_S34 (nI k) t y (nI k) w = _
      unfold f_X8_play_S34
      rw [if_pos (Int32.le_refl _), Int32.add_zero]
  | succ d ih =>
    intro k c u w hd hR
    obtain ⟨x0, c0, u0, v0, g0, m0, R0⟩ := frames_both (a := nI T) (t := t) (k3 := nI k) h6 h12 hF w3 nf 0 c u w (by omega) hR
    obtain ⟨x1, c1, u1, v1, g1, m1, R1⟩ := ih (k + 1) c0 u0 v0 (by omega) R0
    refine ⟨x0 + x1, c1, u1, v1, fun y => ?_, fun y => ?_, R1⟩
    · refine lp_go (s' := (y + x0, nI (k + 1), c0, u0)) ?_ ?_
      · show f_X7_play_S26 (nI nf) rows (nI T) y (nI k) c u = _
        unfold f_X7_play_S26 f_X4_playFrames f_X4_playFrames_J4 f_X4_playFrames_J43
        rw [if_neg (nI_ge (by omega) (by omega))]
        have g := g0 0
        rw [show nI (4 * 0) = (0 : Int32) from rfl, Int32.zero_add] at g
        rw [g, bnd_s, bnd_s, nm_s, nm_s, nI_1]
      · rw [g1, Int32.add_assoc]
    · refine lp_go (s' := (y + x0, nI (k + 1), v0)) ?_ ?_
      · show f_X8_play_S34 (nI T) t y (nI k) w = _
        unfold f_X8_play_S34 f_X8_play_J42 f_X8_play_J169
        rw [if_neg (nI_ge (by omega) (by omega))]
        have g := m0 y
        rw [show nI 0 = (0 : Int32) from rfl] at g
        rw [g, bnd_s, nm_s, nI_1]
      · rw [m1, Int32.add_assoc]
theorem t_play : T_play Inv := by
  intro ls_hasImage tp_bytes tp_length tp_fault nw_sheets nw_cells nw_pasted nw_masks nw_uses nw_slots nw_slotK nw_slotX nw_slotY nw_setting nw_scenes nw_wishes nw_frames nw_frameRows nw_seen nw_seenRows nw_width nw_hands kp_sheets kp_cells kp_pasted kp_masks kp_uses kp_slots kp_slotK kp_slotX kp_slotY kp_setting kp_scenes kp_wishes kp_frames kp_frameRows kp_seen kp_seenRows kp_width kp_hands nr_size nr_rows kr_size kr_rows m_thrown m_world m_image m_hasImage m_tape m_taped m_faultAt m_rectangle m_hasRectangles hI a0
  obtain ⟨ns, nl, nc, nf, nk, nr, ⟨b1, b2, b3, b4, b5, b6⟩, ⟨rfl, rfl, rfl, rfl, rfl, rfl⟩, ⟨w0, w1, w2, w3, w4, w5, w6, w7⟩, hwd, hSh, hSl, hIn, hSc, hFr, hSe, hRu⟩ := hI.1
  by_cases h : (1 : Int32).toInt ≤ a0.toInt ∧ a0.toInt ≤ (50 : Int32).toInt
  · have z1 : (1 : Int32).toInt = 1 := rfl
    have z50 : (50 : Int32).toInt = 50 := rfl
    obtain ⟨T, hT, rfl⟩ : ∃ T, T ≤ 50 ∧ a0 = nI T := ⟨a0.toInt.toNat, by omega, by rw [eq_i, nI_toInt (by omega)]; omega⟩
    obtain ⟨x, c', u', w', g, m, R⟩ := times_both (t := 0) b1 b4 hT hFr w3 T 0 nw_cells nw_uses m_world (by omega) ⟨hSh, fun _ _ => rfl⟩
    refine Or.inl ⟨(x, c', u'), (x, 0, w'), ?_, ?_, rfl, rfl, ⟨ns, nl, nc, nf, nk, nr, ⟨b1, b2, b3, b4, b5, b6⟩, ⟨rfl, rfl, rfl, rfl, rfl, rfl⟩, ?_, hwd, R.1, hSl.fr b2 (fun i _ _ => R.2 i (by omega)), hIn.fr (fun i _ _ => R.2 i (by omega)), hSc.fr b3 (fun i _ _ => R.2 i (by omega)), hFr.fr b4 (fun i _ _ => R.2 i (by omega)), hSe.fr b5 (fun i _ _ => R.2 i (by omega)), hRu.fr b6 (fun i _ _ => R.2 i (by omega))⟩, hI.2⟩
    · unfold f_X7_play f_X7_play_J26 f_X7_play_J47
      have g := g 0
      rw [show nI 0 = (0 : Int32) from rfl, Int32.zero_add] at g
      rw [if_neg (by rw [lt_i]; omega), if_pos (by rw [le_i]; omega), g, bnd_s]
    · unfold f_X8_play f_X8_play_J21 f_X8_play_J34 f_X8_play_J175
      have m := m 0
      rw [show nI 0 = (0 : Int32) from rfl, Int32.zero_add] at m
      rw [nm_s, wi_yes h, if_neg (by decide), m_thr0, bnd_s, if_pos rfl, m, bnd_s]
    · dsimp only
      rw [R.2 0 (by omega), R.2 1 (by omega), R.2 2 (by omega), R.2 3 (by omega), R.2 4 (by omega), R.2 5 (by omega), R.2 6 (by omega), R.2 7 (by omega)]
      exact ⟨w0, w1, w2, w3, w4, w5, w6, w7⟩
  · refine Or.inr ⟨(nw_cells, nw_uses), (0, 1, m_world), ?_, ?_, rfl, hI⟩
    · unfold f_X7_play
      by_cases q : a0 < 1
      · rw [if_pos q]
      · rw [if_neg q, if_neg (fun z => h ⟨le_i.mp (Int32.not_lt.mp q), le_i.mp z⟩)]
    · unfold f_X8_play f_X8_play_J21
      rw [nm_s, wi_no h, if_pos rfl, m_thr1, bnd_s, if_neg (by decide)]
