/-! ===== rules ===== -/
theorem c_learn1 {fd rows : Nat → Int32} {t n : Nat} {sz : Int32} (hn : n < 20) : OK (lp (fun q => f_X1_learn_S12 fd (nI t) sz (nI n) q.1 q.2) ((0 : Int32), rows)) (fun r => (∀ i, i < 3 * n → r i = rows i) ∧ ∀ j, j < 3 → r (3 * n + j) = fd (5 * n + j)) := by
  refine ok_lp (fun k s => s.1 = nI k ∧ (∀ i, i < 3 * n → s.2 i = rows i) ∧ ∀ j, j < k → s.2 (3 * n + j) = fd (5 * n + j)) 3 (fun k s hk hJ => Or.inl ?_) (fun s hJ => ?_) ⟨rfl, fun _ _ => rfl, fun j hj => absurd hj (Nat.not_lt_zero j)⟩
  · obtain ⟨q1, q2, q3⟩ := hJ
    unfold f_X1_learn_S12
    rw [q1, if_neg (show ¬ (3 : Int32) ≤ nI k from nI_ge (b := 3) hk (by decide)), show nI n * (5 : Int32) + nI k = nI (5 * n + k) by rw [show (5 : Int32) = nI 5 from rfl, pk_mul, nI_add, Nat.mul_comm], show nI n * (3 : Int32) + nI k = nI (3 * n + k) by rw [show (3 : Int32) = nI 3 from rfl, pk_mul, nI_add, Nat.mul_comm], chk_n (by omega) (by decide), chk_n (by omega) (by decide), nm_s, nm_s, nI_clamp (by omega), nI_clamp (by omega), nI_1]
    refine ⟨_, rfl, rfl, fun i hi => ?_, fun j hj => ?_⟩
    · dsimp only; rw [upd_ne (by omega)]; exact q2 i hi
    · dsimp only
      by_cases e : j = k
      · rw [e, upd_same]
      · rw [upd_ne (by omega)]; exact q3 j (by omega)
  · obtain ⟨q1, q2, q3⟩ := hJ
    unfold f_X1_learn_S12
    rw [q1, if_pos (show (3 : Int32) ≤ nI 3 by decide)]
    exact ⟨_, rfl, q2, q3⟩
theorem c_learn {fd rows : Nat → Int32} {t : Nat} {sz : Int32} (ht : t ≤ 20) : ∃ rows', f_X1_learn fd (nI t) sz rows = some (nI t, rows') ∧ ∀ n j, n < t → j < 3 → rows' (3 * n + j) = fd (5 * n + j) := by
  have H : OK (lp (fun q => f_X1_learn_S2 fd (nI t) sz q.1 q.2) ((0 : Int32), rows)) (fun r => ∀ n j, n < t → j < 3 → r (3 * n + j) = fd (5 * n + j)) := by
    refine ok_lp (fun k s => s.1 = nI k ∧ ∀ n j, n < k → j < 3 → s.2 (3 * n + j) = fd (5 * n + j)) t (fun k s hk hJ => Or.inl ?_) (fun s hJ => ?_) ⟨rfl, fun n j hn => absurd hn (Nat.not_lt_zero n)⟩
    · obtain ⟨q1, q2⟩ := hJ
      unfold f_X1_learn_S2 f_X1_learn_J12
      obtain ⟨r, er, h1, h2⟩ := c_learn1 (fd := fd) (rows := s.2) (t := t) (n := k) (sz := sz) (by omega)
      rw [q1, if_neg (nI_ge hk (by omega)), er, bnd_s]
      unfold f_X1_learn_J43
      rw [nm_s, nI_1]
      refine ⟨_, rfl, rfl, fun n j hn hj => ?_⟩
      dsimp only
      by_cases e : n = k
      · rw [e]; exact h2 j hj
      · rw [h1 _ (by omega)]; exact q2 n j (by omega) hj
    · obtain ⟨q1, q2⟩ := hJ
      unfold f_X1_learn_S2
      rw [q1, if_pos (Int32.le_refl _)]
      exact ⟨_, rfl, q2⟩
  obtain ⟨r, er, hr⟩ := H
  unfold f_X1_learn f_X1_learn_J2
  rw [er, bnd_s]
  exact ⟨r, rfl, hr⟩
theorem aps2 : ∀ (l : List (Nat × Nat × Nat × Nat × Nat)) (n : Nat) (s : (Nat → Int32) × Int32), (∀ k, k < 1038 + 3 * n → (aps 2 n l s).1 k = s.1 k) ∧ ∀ i r, l[i]? = some r → (aps 2 n l s).1 (1038 + 3 * (n + i)) = nI r.1 ∧ (aps 2 n l s).1 (1038 + 3 * (n + i) + 1) = nI r.2.1 ∧ (aps 2 n l s).1 (1038 + 3 * (n + i) + 2) = nI r.2.2.1 := by
  intro l
  induction l with
  | nil => intro n s; exact ⟨fun _ _ => rfl, fun i r hr => by cases hr⟩
  | cons r l ih =>
    intro n s
    obtain ⟨h1, h2⟩ := ih (n + 1) (w3 n r s.1, s.2)
    have e : aps 2 n (r :: l) s = aps 2 (n + 1) l (w3 n r s.1, s.2) := rfl
    rw [e]
    refine ⟨fun k hk => ?_, fun i q hq => ?_⟩
    · rw [h1 k (by omega)]
      show w3 n r s.1 k = _
      unfold w3
      rw [upd_ne (by omega), upd_ne (by omega), upd_ne (by omega)]
    · cases i with
      | zero =>
        obtain rfl : r = q := Option.some.inj hq
        show (aps 2 (n + 1) l (w3 n r s.1, s.2)).1 (1038 + 3 * n) = nI r.1 ∧ (aps 2 (n + 1) l (w3 n r s.1, s.2)).1 (1038 + 3 * n + 1) = nI r.2.1 ∧ (aps 2 (n + 1) l (w3 n r s.1, s.2)).1 (1038 + 3 * n + 2) = nI r.2.2.1
        rw [h1 (1038 + 3 * n) (by omega), h1 (1038 + 3 * n + 1) (by omega), h1 (1038 + 3 * n + 2) (by omega)]
        show w3 n r s.1 _ = _ ∧ w3 n r s.1 _ = _ ∧ w3 n r s.1 _ = _
        unfold w3
        refine ⟨?_, ?_, ?_⟩
        · rw [upd_ne (by omega), upd_ne (by omega), upd_same]
        · rw [upd_ne (by omega), upd_same]
        · rw [upd_same]
      | succ i =>
        have := h2 i q hq
        rw [show n + 1 + i = n + (i + 1) by omega] at this
        exact this
theorem m_rcopy {wd tape : Nat → Int32} {t : Nat} {c1 c2 c3 c4 c5 c6 c7 c8 c9 c10 c11 : Int32} (ht : t ≤ 20) : lp (fun q => f_X8_rules_S39 tape (nI t) c1 c2 c3 c4 c5 c6 c7 c8 c9 c10 c11 q.1 q.2) ((0 : Int32), wd) = some (fun k => if 978 ≤ k ∧ k < 978 + 3 * t then wd (k + 60) else wd k) := by
  have H : OK (lp (fun q => f_X8_rules_S39 tape (nI t) c1 c2 c3 c4 c5 c6 c7 c8 c9 c10 c11 q.1 q.2) ((0 : Int32), wd)) (fun r => r = fun k => if 978 ≤ k ∧ k < 978 + 3 * t then wd (k + 60) else wd k) := by
    have e3 : (3 : Int32) * nI t = nI (3 * t) := by rw [show (3 : Int32) = nI 3 from rfl, pk_mul]
    refine ok_lp (fun n s => s = (nI n, fun k => if 978 ≤ k ∧ k < 978 + n then wd (k + 60) else wd k)) (3 * t) (fun n s hn hJ => ?_) (fun s hJ => ?_) ?_
    · subst hJ
      refine Or.inl ⟨_, ?_, rfl⟩
      show f_X8_rules_S39 tape (nI t) c1 c2 c3 c4 c5 c6 c7 c8 c9 c10 c11 (nI n) (fun k => if 978 ≤ k ∧ k < 978 + n then wd (k + 60) else wd k) = _
      unfold f_X8_rules_S39
      rw [e3, if_neg (nI_ge hn (by omega)), show (1038 : Int32) + nI n = nI (1038 + n) from nI_add 1038 n, show (978 : Int32) + nI n = nI (978 + n) from nI_add 978 n, chk_n (by omega) (by decide), chk_n (by omega) (by decide), nm_s, nm_s, nI_c (by omega), nI_c (by omega), nI_1]
      congr 3
      funext i
      dsimp only
      rw [upd_at, if_neg (show ¬ (978 ≤ 1038 + n ∧ 1038 + n < 978 + n) by omega)]
      by_cases q : i = 978 + n
      · rw [if_pos q, if_pos (by omega), show i + 60 = 1038 + n by omega]
      · rw [if_neg q]
        by_cases q2 : 978 ≤ i ∧ i < 978 + n
        · rw [if_pos q2, if_pos (by omega)]
        · rw [if_neg q2, if_neg (by omega)]
    · subst hJ
      refine ⟨_, ?_, rfl⟩
      show f_X8_rules_S39 tape (nI t) c1 c2 c3 c4 c5 c6 c7 c8 c9 c10 c11 (nI (3 * t)) _ = _
      unfold f_X8_rules_S39
      rw [e3, if_pos (Int32.le_refl _)]
    · refine Prod.ext rfl ?_
      funext i
      show wd i = if 978 ≤ i ∧ i < 978 + 0 then wd (i + 60) else wd i
      rw [if_neg (by omega)]
  obtain ⟨r, er, hr⟩ := H
  rw [er, hr]
theorem t_rules : T_rules Inv := by
  intro ls_hasImage tp_bytes tp_length tp_fault tp_found tp_commands tp_at tp_size tp_grammar tp_sheets tp_slots nw_sheets nw_cells nw_pasted nw_masks nw_uses nw_slots nw_slotK nw_slotX nw_slotY nw_setting nw_scenes nw_wishes nw_frames nw_frameRows nw_seen nw_seenRows nw_width nw_hands kp_sheets kp_cells kp_pasted kp_masks kp_uses kp_slots kp_slotK kp_slotX kp_slotY kp_setting kp_scenes kp_wishes kp_frames kp_frameRows kp_seen kp_seenRows kp_width kp_hands nr_size nr_rows kr_size kr_rows m_thrown m_world m_image m_hasImage m_tape m_taped m_point m_end m_begin m_faultAt m_px m_py m_pw m_ph m_drawn m_rectangle m_hasRectangles hI
  obtain ⟨ns, nl, nc, nf, nk, nr, ⟨b1, b2, b3, b4, b5, b6⟩, ⟨rfl, rfl, rfl, rfl, rfl, rfl⟩, ⟨w0, w1, w2, w3, w4, w5, w6, w7⟩, hwd, hSh, hSl, hIn, hSc, hFr, hSe, hRu⟩ := hI.1
  obtain ⟨hSt, hIm, ⟨hT1, n, hn, hl, ht, hb⟩, hRc⟩ := hI
  subst hT1 hl ht
  have hTB := TB_of hn hb
  unfold f_X7_rules f_X8_rules f_X5_useUp f_X8_usesTape
  simp only [nm_s]
  obtain ⟨fd', cm, a, ec, hc⟩ := c_text (fd := tp_found) (g := 2) (sh := nI ns) (sl := nI nl) (c1 := tp_fault) (c2 := tp_commands) (c3 := tp_at) (c4 := tp_size) (c5 := tp_grammar) (c6 := tp_sheets) (c7 := tp_slots) hTB (by decide)
  obtain ⟨wd', pt, bg', px', py', pw', ph', d', em, hlo, hm⟩ := m_reads (g := 2) (bg := m_begin) (fa := tp_fault) (px := m_px) (py := m_py) (pw := m_pw) (ph := m_ph) (d := m_drawn) hTB (by decide) w0 w1
  have hlen := rdA_len (B := fun i => (tp_bytes i).toNatClampNeg) (N := n) (g := 2) (sh := nI ns) (sl := nI nl)
  have hRV := rdA_RV (B := fun i => (tp_bytes i).toNatClampNeg) (N := n) (g := 2) (ns := ns) (nl := nl) (by decide) b1 b2
  rw [show nI 2 = (2 : Int32) from rfl] at ec em
  rw [ec, em, bnd_s]
  dsimp only
  by_cases e : (rdA (fun i => (tp_bytes i).toNatClampNeg) n 2 (nI ns) (nI nl)).1 = true
  · obtain ⟨rfl, hw⟩ := hc e
    have hap := hm e
    rw [if_pos e, if_pos e, if_pos e, xb_l]
    dsimp only
    generalize (rdA (fun i => (tp_bytes i).toNatClampNeg) n 2 (nI ns) (nI nl)).2.2 = l at hlen hRV hw hap ⊢
    obtain ⟨rows', e1, hr⟩ := c_learn (fd := fd') (rows := nr_rows) (sz := nI nr) hlen
    obtain ⟨_, h2⟩ := aps2 l 0 (m_world, m_drawn)
    rw [← hap] at h2
    rw [e1, bnd_s, if_pos (show (0 : Int32) ≤ nI l.length from nI_le (a := 0) (Nat.zero_le _) (by omega))]
    unfold f_X8_rules_J20
    rw [m_thr0, bnd_s, if_pos rfl, chk_eq (vp_dec0 (by decide)), nm_s]
    unfold f_X8_rules_J39
    rw [m_rcopy hlen, bnd_s, show ((7 : Int32)).toNatClampNeg = 7 from rfl]
    unfold f_X8_rules_J72
    have lo : ∀ k, k < 978 → k ≠ 7 → (fun k => if 978 ≤ k ∧ k < 978 + 3 * l.length then upd wd' 7 (nI l.length) (k + 60) else upd wd' 7 (nI l.length) k) k = m_world k := fun k hk h7 => by
      dsimp only
      rw [if_neg (by omega), upd_ne h7]
      exact hlo k (by omega)
    refine Or.inl ⟨_, _, rfl, rfl, rfl, rfl, ⟨ns, nl, nc, nf, nk, l.length, ⟨b1, b2, b3, b4, b5, hlen⟩, ⟨rfl, rfl, rfl, rfl, rfl, rfl⟩, ⟨(lo 0 (by omega) (by omega)).trans w0, (lo 1 (by omega) (by omega)).trans w1, (lo 2 (by omega) (by omega)).trans w2, (lo 3 (by omega) (by omega)).trans w3, (lo 4 (by omega) (by omega)).trans w4, (lo 5 (by omega) (by omega)).trans w5, (lo 6 (by omega) (by omega)).trans w6, ?_⟩, hwd, hSh.fr b1 (fun i _ _ => lo i (by omega) (by omega)), hSl.fr b2 (fun i _ _ => lo i (by omega) (by omega)), hIn.fr (fun i _ _ => lo i (by omega) (by omega)), hSc.fr b3 (fun i _ _ => lo i (by omega) (by omega)), hFr.fr b4 (fun i _ _ => lo i (by omega) (by omega)), hSe.fr b5 (fun i _ _ => lo i (by omega) (by omega)), ?_⟩, hIm, TpO.used _ _ _, hRc⟩
    · show (if 978 ≤ 7 ∧ 7 < 978 + 3 * l.length then upd wd' 7 (nI l.length) (7 + 60) else upd wd' 7 (nI l.length) 7) = nI l.length
      rw [if_neg (by omega), upd_same]
    · intro r hr'
      obtain ⟨q, hq⟩ : ∃ q, l[r]? = some q := ⟨_, List.getElem?_eq_getElem hr'⟩
      obtain ⟨v1, v2, _⟩ := hRV q (List.mem_of_getElem? hq)
      obtain ⟨v3, v4, v5⟩ := v2 rfl
      obtain ⟨k1, k2⟩ := hw r q hq
      obtain ⟨k3, k4, _⟩ := k2.elim (fun z => absurd z.1 (by decide)) id
      obtain ⟨g1, g2, g3⟩ := h2 r q hq
      rw [Nat.zero_add] at g1 g2 g3
      have r0 := hr r 0 hr' (by decide)
      have r1 := hr r 1 hr' (by decide)
      have r2 := hr r 2 hr' (by decide)
      refine ⟨⟨q.1, q.2.1, q.2.2.1, r0.trans k1, r1.trans k3, r2.trans k4, v1, v3, v4, v5⟩, fun j hj => ?_⟩
      show (if 978 ≤ 978 + 3 * r + j ∧ 978 + 3 * r + j < 978 + 3 * l.length then upd wd' 7 (nI l.length) (978 + 3 * r + j + 60) else upd wd' 7 (nI l.length) (978 + 3 * r + j)) = rows' (3 * r + j)
      rw [if_pos (by omega), upd_ne (by omega), hr r j hr' hj]
      rcases (show j = 0 ∨ j = 1 ∨ j = 2 by omega) with rfl | rfl | rfl
      · rw [show 978 + 3 * r + 0 + 60 = 1038 + 3 * r by omega]; exact g1.trans k1.symm
      · rw [show 978 + 3 * r + 1 + 60 = 1038 + 3 * r + 1 by omega]; exact g2.trans k3.symm
      · rw [show 978 + 3 * r + 2 + 60 = 1038 + 3 * r + 2 by omega]; exact g3.trans k4.symm
  · rw [if_neg e, if_neg e, if_neg e, xb_r, if_neg (show ¬ (0 : Int32) ≤ -1 by decide)]
    unfold f_X8_rules_J20
    rw [m_thr1, bnd_s, if_neg (show ¬ (1 : Int32) = 0 by decide)]
    exact Or.inr ⟨_, _, rfl, rfl, rfl, St_lo hSt hlo, hIm, TpO.used _ _ _, hRc⟩
