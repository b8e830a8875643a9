/-! ===== settings and frames ===== -/
theorem va_cpy_at {α : Type} (f g : Nat → α) (a b n k : Nat) : va_cpy f g a b n k = if b ≤ k ∧ k < b + n then f (a + (k - b)) else g k := by
  first | rfl | (unfold va_cpy; split <;> split <;> first | rfl | (exfalso; omega) | (congr 1; omega))
theorem t_frame : T_frame Inv := by
  intro ls_hasImage tp_bytes tp_length tp_fault nw_sheets nw_cells nw_pasted nw_masks nw_uses nw_slots nw_slotK nw_slotX nw_slotY nw_setting nw_scenes nw_wishes nw_frames nw_frameRows nw_seen nw_seenRows nw_width nw_hands kp_sheets kp_cells kp_pasted kp_masks kp_uses kp_slots kp_slotK kp_slotX kp_slotY kp_setting kp_scenes kp_wishes kp_frames kp_frameRows kp_seen kp_seenRows kp_width kp_hands nr_size nr_rows kr_size kr_rows m_thrown m_world m_image m_hasImage m_tape m_taped m_faultAt m_rectangle m_hasRectangles hI
  obtain ⟨ns, nl, nc, nf, nk, nr, ⟨b1, b2, b3, b4, b5, b6⟩, ⟨rfl, rfl, rfl, rfl, rfl, rfl⟩, ⟨w0, w1, w2, w3, w4, w5, w6, w7⟩, hwd, hSh, hSl, hIn, hSc, hFr, hSe, hRu⟩ := hI.1
  by_cases h : nf < 12
  · have hl : OK (lp (fun q => f_X8_frame_S33 0 q.1 q.2) ((0 : Int32), m_world)) (fun u => (∀ l, l < 4 → u (912 + 4 * nf + l) = nw_setting l) ∧ ∀ i, (i < 912 + 4 * nf ∨ 912 + 4 * nf + 4 ≤ i) → u i = m_world i) := by
      refine ok_lp (fun k s => s.1 = nI k ∧ (∀ l, l < k → s.2 (912 + 4 * nf + l) = nw_setting l) ∧ ∀ i, (i < 912 + 4 * nf ∨ 912 + 4 * nf + k ≤ i) → s.2 i = m_world i) 4 (fun k s hk hJ => Or.inl ?_) (fun s hJ => ?_) ⟨rfl, fun l hl => absurd hl (Nat.not_lt_zero l), fun _ _ => rfl⟩
      · obtain ⟨e, h1, h2⟩ := hJ
        unfold f_X8_frame_S33
        have e3 : s.2 3 = nI nf := by rw [h2 3 (by omega)]; exact w3
        rw [e, if_neg (ge_4 hk), ck3, tn3, e3, m_inSlot hk, bnd_s, h2 (44 + k) (by omega), hIn.2 k hk, show ((912 : Int32) + (4 : Int32) * nI nf) + nI k = nI (912 + 4 * nf + k) by rw [show (4 : Int32) = nI 4 from rfl, pk_mul, show (912 : Int32) = nI 912 from rfl, nI_add, nI_add], chk_n (by omega) (by decide), nI_clamp (by omega)]
        refine ⟨_, rfl, nI_1 k, fun l hl => ?_, fun i hi => ?_⟩
        · show upd s.2 _ _ _ = _
          rcases Nat.lt_succ_iff_lt_or_eq.mp hl with z | rfl
          · rw [upd_ne (by omega)]; exact h1 l z
          · rw [upd_same]
        · show upd s.2 _ _ _ = _
          rw [upd_ne (by omega)]; exact h2 i (by omega)
      · obtain ⟨e, h1, h2⟩ := hJ
        unfold f_X8_frame_S33
        rw [e]
        exact ⟨_, rfl, h1, h2⟩
    obtain ⟨u, eu, hu1, hu2⟩ := hl
    have u3 : u 3 = nI nf := by rw [hu2 3 (by omega)]; exact w3
    refine Or.inl ⟨(nI nf, nI (nf + 1), va_cpy nw_setting nw_frameRows 0 (4 * nf) 4), (nI nf, 0, upd u 3 (nI (nf + 1))), ?_, ?_, rfl, rfl, ⟨ns, nl, nc, nf + 1, nk, nr, ⟨b1, b2, b3, by omega, b5, b6⟩, ⟨rfl, rfl, rfl, rfl, rfl, rfl⟩, ?_, hwd, hSh.fr b1 (fun i _ _ => ?_), hSl.fr b2 (fun i _ _ => ?_), hIn.fr (fun i _ _ => ?_), hSc.fr b3 (fun i _ _ => ?_), ?_, hSe.fr b5 (fun i _ _ => ?_), hRu.fr b6 (fun i _ _ => ?_)⟩, hI.2⟩
    · unfold f_X7_frame f_X4_addFrame
      rw [if_pos (lt_12 h), show nI nf * (4 : Int32) = nI (4 * nf) by rw [show (4 : Int32) = nI 4 from rfl, pk_mul, Nat.mul_comm], show cpOK (0 : Int32) (nI (4 * nf)) (4 : Int32) 4 48 = true by
        unfold cpOK
        refine decide_eq_true ⟨by decide, nI_pos (by omega), by decide, by decide, ?_⟩
        rw [nI_clamp (by omega), tn4]
        omega]
      show bnd (some ((nI nf + 1) - 1, nI nf + 1, va_cpy nw_setting nw_frameRows 0 (nI (4 * nf)).toNatClampNeg 4)) _ = _
      rw [bnd_s, nI_clamp (by omega), nI_1, nI_pred]
    · unfold f_X8_frame f_X8_frame_J22 f_X8_frame_J33 f_X8_frame_J68
      rw [ck3, tn3, w3, if_neg (mt (eq_12 (by omega)).mp (by omega)), m_thr0, bnd_s, if_pos rfl, eu, bnd_s, ck3, ck3, nm_s, ck3, upd_same, u3, nI_1, nI_pred]
    · dsimp only
      rw [upd_ne (by decide), upd_ne (by decide), upd_ne (by decide), upd_same, upd_ne (by decide), upd_ne (by decide), upd_ne (by decide), upd_ne (by decide), hu2 0 (by omega), hu2 1 (by omega), hu2 2 (by omega), hu2 4 (by omega), hu2 5 (by omega), hu2 6 (by omega), hu2 7 (by omega)]
      exact ⟨w0, w1, w2, rfl, w4, w5, w6, w7⟩
    · dsimp only; rw [upd_ne (by omega)]; exact hu2 i (by omega)
    · dsimp only; rw [upd_ne (by omega)]; exact hu2 i (by omega)
    · dsimp only; rw [upd_ne (by omega)]; exact hu2 i (by omega)
    · dsimp only; rw [upd_ne (by omega)]; exact hu2 i (by omega)
    · intro f hf
      dsimp only
      by_cases e : f = nf
      · subst e
        refine ⟨hIn.1.cong (fun l hl => ?_), fun l hl => ?_⟩
        · rw [va_cpy_at, if_pos (by omega)]; congr 1; omega
        · rw [upd_ne (by omega), hu1 l hl, va_cpy_at, if_pos (by omega)]; congr 1; omega
      · obtain ⟨q1, q2⟩ := hFr f (by omega)
        refine ⟨q1.cong (fun l hl => ?_), fun l hl => ?_⟩
        · rw [va_cpy_at, if_neg (by omega)]
        · rw [upd_ne (by omega), hu2 _ (by omega), va_cpy_at, if_neg (by omega)]; exact q2 l hl
    · dsimp only; rw [upd_ne (by omega)]; exact hu2 i (by omega)
    · dsimp only; rw [upd_ne (by omega)]; exact hu2 i (by omega)
  · obtain rfl : nf = 12 := by omega
    refine Or.inr ⟨(nI 12, nw_frameRows), (0, 1, m_world), ?_, ?_, rfl, hI⟩
    · unfold f_X7_frame
      rw [if_neg (show ¬ nI 12 < 12 by decide)]
    · unfold f_X8_frame f_X8_frame_J22
      rw [ck3, tn3, w3, if_pos (show nI 12 = 12 from rfl), m_thr1, bnd_s, if_neg (by decide)]
theorem t_take : T_take Inv := by
  intro ls_hasImage tp_bytes tp_length tp_fault nw_sheets nw_cells nw_pasted nw_masks nw_uses nw_slots nw_slotK nw_slotX nw_slotY nw_setting nw_scenes nw_wishes nw_frames nw_frameRows nw_seen nw_seenRows nw_width nw_hands kp_sheets kp_cells kp_pasted kp_masks kp_uses kp_slots kp_slotK kp_slotX kp_slotY kp_setting kp_scenes kp_wishes kp_frames kp_frameRows kp_seen kp_seenRows kp_width kp_hands nr_size nr_rows kr_size kr_rows m_thrown m_world m_image m_hasImage m_tape m_taped m_faultAt m_rectangle m_hasRectangles m_setting m_place hI a0
  obtain ⟨ns, nl, nc, nf, nk, nr, ⟨b1, b2, b3, b4, b5, b6⟩, ⟨rfl, rfl, rfl, rfl, rfl, rfl⟩, ⟨w0, w1, w2, w3, w4, w5, w6, w7⟩, hwd, hSh, hSl, hIn, hSc, hFr, hSe, hRu⟩ := hI.1
  rcases pk_ix a0 (n := nf) (by omega) with h | h | ⟨j, hj, rfl⟩
  · unfold f_X7_take f_X8_take
    rw [c_needFrame_no (by omega) (Or.inl h), m_noFrame_no b4 w3 (Or.inl h)]
    exact Or.inr ⟨_, _, rfl, rfl, rfl, hI⟩
  · unfold f_X7_take f_X8_take
    rw [c_needFrame_no (by omega) (Or.inr h), m_noFrame_no b4 w3 (Or.inr h)]
    exact Or.inr ⟨_, _, rfl, rfl, rfl, hI⟩
  obtain ⟨fj, ej⟩ := hFr j hj
  obtain ⟨u1, e1, h1⟩ := m_takes (w := m_world) (st := m_setting)
  have h1' : ∀ l, l < 4 → u1 l = nw_setting l := fun l hl => (h1 l hl).trans (hIn.2 l hl)
  obtain ⟨u2, e2, h2⟩ := m_places (pl := m_place) w1 b2 (hIn.1.cong h1')
  obtain ⟨u3, e3, h3⟩ := m_takesFrame (w := m_world) (st := u1) (f := j) (by omega)
  have h3' : ∀ l, l < 4 → u3 l = nw_frameRows (4 * j + l) := fun l hl => (h3 l hl).trans (ej l hl)
  have hl : OK (lp (fun q => f_X8_take_S35 (nI j) 0 u3 u2 q.1 q.2) ((0 : Int32), m_world)) (fun u => (∀ l, l < 4 → u (44 + l) = u3 l) ∧ ∀ i, (i < 44 ∨ 48 ≤ i) → u i = m_world i) := by
    refine ok_lp (fun k s => s.1 = nI k ∧ (∀ l, l < k → s.2 (44 + l) = u3 l) ∧ ∀ i, (i < 44 ∨ 44 + k ≤ i) → s.2 i = m_world i) 4 (fun k s hk hJ => Or.inl ?_) (fun s hJ => ?_) ⟨rfl, fun l hl => absurd hl (Nat.not_lt_zero l), fun _ _ => rfl⟩
    · obtain ⟨e, q1, q2⟩ := hJ
      unfold f_X8_take_S35
      rw [e, if_neg (ge_4 hk), chk_n (by omega) (by decide), show (44 : Int32) + nI k = nI (44 + k) from nI_add 44 k, chk_n (by omega) (by decide), nI_clamp (by omega), nI_clamp (by omega)]
      refine ⟨_, rfl, nI_1 k, fun l hl => ?_, fun i hi => ?_⟩
      · show upd s.2 _ _ _ = _
        rcases Nat.lt_succ_iff_lt_or_eq.mp hl with z | rfl
        · rw [upd_ne (by omega)]; exact q1 l z
        · rw [upd_same]
      · show upd s.2 _ _ _ = _
        rw [upd_ne (by omega)]; exact q2 i (by omega)
    · obtain ⟨e, q1, q2⟩ := hJ
      unfold f_X8_take_S35
      rw [e]
      exact ⟨_, rfl, q1, q2⟩
  obtain ⟨u, eu, hu1, hu2⟩ := hl
  have em : f_X8_moved u u3 u2 = some (mvs u1 u3 ns) := m_moved (by rw [hu2 0 (by omega)]; exact w0) b1 (by rw [hu2 1 (by omega)]; exact w1) b2 (fj.cong h3') h2
  have ec : mvs u1 u3 ns = mvs nw_setting (fun l => nw_frameRows (4 * j + l)) 6 := by rw [mvs_cong h1' h3', show (6 : Nat) = ns + (6 - ns) by omega, mvs_ext (nl := nl) (nl' := nl) hIn.1 fj _ (by omega)]
  have hcp : ∀ l, l < 4 → va_cpy nw_frameRows nw_setting (4 * j) 0 4 l = nw_frameRows (4 * j + l) := fun l hl => by
    rw [va_cpy_at, if_pos (by omega)]; congr 1
  refine Or.inl ⟨(mvs nw_setting (fun l => nw_frameRows (4 * j + l)) 6, va_cpy nw_frameRows nw_setting (4 * j) 0 4), (mvs u1 u3 ns, 0, u, u3, u2), ?_, ?_, rfl, ec.symm, ⟨ns, nl, nc, nf, nk, nr, ⟨b1, b2, b3, b4, b5, b6⟩, ⟨rfl, rfl, rfl, rfl, rfl, rfl⟩, ?_, hwd, hSh.fr b1 (fun i _ _ => hu2 i (by omega)), hSl.fr b2 (fun i _ _ => hu2 i (by omega)), ⟨fj.cong hcp, fun l hl => ?_⟩, hSc.fr b3 (fun i _ _ => hu2 i (by omega)), hFr.fr b4 (fun i _ _ => hu2 i (by omega)), hSe.fr b5 (fun i _ _ => hu2 i (by omega)), hRu.fr b6 (fun i _ _ => hu2 i (by omega))⟩, hI.2⟩
  · unfold f_X7_take
    have hmb := c_movesBetween (pa := nw_setting) (pb := nw_frameRows) (pn := 4) (qn := 48) (a := 0) (b := 4 * j) (ns := ns) (nl := nl) (by omega) (by omega) (by omega) (by omega) (hIn.1.cong (fun l hl => by rw [Nat.zero_add])) fj
    rw [c_needFrame_yes (by omega) hj, xb_l, nm_s, show nI j * (4 : Int32) = nI (4 * j) by rw [show (4 : Int32) = nI 4 from rfl, pk_mul, Nat.mul_comm], show (0 : Int32) = nI 0 from rfl, hmb, bnd_s, show cpOK (nI (4 * j)) (nI 0) (4 : Int32) 48 4 = true by
        unfold cpOK
        refine decide_eq_true ⟨nI_pos (by omega), by decide, by decide, ?_, by decide⟩
        rw [nI_clamp (by omega), tn4]
        omega]
    show some (Sum.inl (mvs (fun l => nw_setting (0 + l)) _ 6, va_cpy nw_frameRows nw_setting (nI (4 * j)).toNatClampNeg 0 4)) = _
    rw [nI_clamp (by omega), mvs_cong (f' := nw_setting) (g' := fun l => nw_frameRows (4 * j + l)) (fun l _ => by rw [Nat.zero_add]) (fun _ _ => rfl)]
  · unfold f_X8_take f_X8_take_J35 f_X8_take_J61
    rw [m_noFrame_yes b4 w3 hj, bnd_s, m_thr0, bnd_s, if_pos rfl, e1, bnd_s, e2, bnd_s, e3, bnd_s, eu, bnd_s, em, bnd_s]
  · dsimp only
    rw [hu2 0 (by omega), hu2 1 (by omega), hu2 2 (by omega), hu2 3 (by omega), hu2 4 (by omega), hu2 5 (by omega), hu2 6 (by omega), hu2 7 (by omega)]
    exact ⟨w0, w1, w2, w3, w4, w5, w6, w7⟩
  · dsimp only
    rw [hu1 l hl, hcp l hl]; exact h3' l hl
/-! ===== images ===== -/
theorem cp0 {α : Type} (f g : Nat → α) (n k : Nat) (h : k < n) : va_cpy f g 0 0 n k = f k := by rw [va_cpy_at, if_pos (by omega)]; congr 1; omega
theorem St.cong {sheets : Int32} {cells pasted masks uses cells' pasted' masks' uses' : Nat → Int32} {slots : Int32} {slotK slotX slotY setting slotK' slotX' slotY' setting' : Nat → Int32} {scenes : Int32} {wishes wishes' : Nat → Int64} {frames : Int32} {frameRows frameRows' : Nat → Int32} {seen : Int32} {seenRows seenRows' : Nat → Int32} {width hands rsize : Int32} {rrows rrows' w w' : Nat → Int32}
    (h : St sheets cells pasted masks uses slots slotK slotX slotY setting scenes wishes frames frameRows seen seenRows width hands rsize rrows w)
    (e1 : ∀ s, s < 6 → cells' s = cells s) (e2 : ∀ s, s < 6 → pasted' s = pasted s) (e3 : ∀ s, s < 6 → masks' s = masks s) (e4 : ∀ s, s < 6 → uses' s = uses s)
    (e5 : ∀ s, s < 4 → slotK' s = slotK s) (e6 : ∀ s, s < 4 → slotX' s = slotX s) (e7 : ∀ s, s < 4 → slotY' s = slotY s) (e8 : ∀ s, s < 4 → setting' s = setting s) (e9 : ∀ s, s < 54 → wishes' s = wishes s)
    (e10 : ∀ s, s < 48 → frameRows' s = frameRows s) (e11 : ∀ s, s < 18 → seenRows' s = seenRows s) (e12 : ∀ s, s < 60 → rrows' s = rrows s) (ew : ∀ i, i < 1038 → w' i = w i) :
    St sheets cells' pasted' masks' uses' slots slotK' slotX' slotY' setting' scenes wishes' frames frameRows' seen seenRows' width hands rsize rrows' w' := by
  obtain ⟨ns, nl, nc, nf, nk, nr, ⟨b1, b2, b3, b4, b5, b6⟩, hE, ⟨w0, w1, w2, w3, w4, w5, w6, w7⟩, hwd, hSh, hSl, hIn, hSc, hFr, hSe, hRu⟩ := h
  refine ⟨ns, nl, nc, nf, nk, nr, ⟨b1, b2, b3, b4, b5, b6⟩, hE, ?_, hwd, fun s hs => ?_, fun s hs => ?_, ⟨hIn.1.cong e8, fun l hl => ?_⟩, ⟨fun c hc p hp => ?_, fun c hc q hq => ?_⟩, fun f hf => ⟨(hFr f hf).1.cong (fun l hl => e10 _ (by omega)), fun l hl => ?_⟩, fun k hk => ⟨?_, ?_, ?_, fun j hj => ?_⟩, fun r hr => ⟨?_, fun j hj => ?_⟩⟩
  · rw [ew 0 (by omega), ew 1 (by omega), ew 2 (by omega), ew 3 (by omega), ew 4 (by omega), ew 5 (by omega), ew 6 (by omega), ew 7 (by omega)]
    exact ⟨w0, w1, w2, w3, w4, w5, w6, w7⟩
  · rw [ew _ (by omega), ew (8 + 4 * s + 1) (by omega), ew (8 + 4 * s + 2) (by omega), ew (8 + 4 * s + 3) (by omega), e1 s (by omega), e2 s (by omega), e3 s (by omega), e4 s (by omega)]
    exact hSh s hs
  · rw [ew _ (by omega), ew (32 + 3 * s + 1) (by omega), ew (32 + 3 * s + 2) (by omega), e5 s (by omega), e6 s (by omega), e7 s (by omega)]
    exact hSl s hs
  · rw [ew _ (by omega), e8 l hl]; exact hIn.2 l hl
  · obtain ⟨v, hv, e, hu⟩ := hSc.1 c hc p hp
    refine ⟨v, hv, by rw [ew _ (by omega)]; exact e, fun u hu3 => ?_⟩
    rw [e9 _ (by omega)]; exact hu u hu3
  · rw [e9 _ (by omega)]; exact hSc.2 c hc q hq
  · rw [ew _ (by omega), e10 _ (by omega)]; exact (hFr f hf).2 l hl
  · rw [e11 _ (by omega)]; exact (hSe k hk).1
  · rw [e11 _ (by omega)]; exact (hSe k hk).2.1
  · rw [e11 _ (by omega)]; exact (hSe k hk).2.2.1
  · rw [ew _ (by omega), e11 _ (by omega)]; exact (hSe k hk).2.2.2 j hj
  · rw [e12 (3 * r) (by omega), e12 (3 * r + 1) (by omega), e12 (3 * r + 2) (by omega)]; exact (hRu r hr).1
  · rw [ew _ (by omega), e12 _ (by omega)]; exact (hRu r hr).2 j hj
theorem m_image_lp {w im : Nat → Int32} {t h : Int32} : OK (lp (fun q => f_X8_image_S7 w t h q.1 q.2) ((0 : Int32), im)) (fun u => ∀ i, i < 1038 → u i = w i) := by
  refine ok_lp (fun k s => s.1 = nI k ∧ ∀ i, i < k → s.2 i = w i) 1038 (fun k s hk hJ => Or.inl ?_) (fun s hJ => ?_) ⟨rfl, fun l hl => absurd hl (Nat.not_lt_zero l)⟩
  · obtain ⟨e, q⟩ := hJ
    unfold f_X8_image_S7
    rw [e, if_neg (show ¬ (1038 : Int32) ≤ nI k from nI_ge (b := 1038) hk (by decide)), chk_n (by omega) (by decide), chk_n (by omega) (by decide), nI_clamp (by omega)]
    refine ⟨_, rfl, nI_1 k, fun l hl => ?_⟩
    show upd s.2 _ _ _ = _
    rcases Nat.lt_succ_iff_lt_or_eq.mp hl with z | rfl
    · rw [upd_ne (by omega)]; exact q l z
    · rw [upd_same]
  · obtain ⟨e, q⟩ := hJ
    unfold f_X8_image_S7
    rw [e, if_pos (show (1038 : Int32) ≤ nI 1038 from Int32.le_refl _)]
    exact ⟨_, rfl, q⟩
theorem m_back_lp {w im : Nat → Int32} {t h : Int32} : OK (lp (fun q => f_X8_back_S16 im h t q.1 q.2) ((0 : Int32), w)) (fun u => ∀ i, i < 1038 → u i = im i) := by
  refine ok_lp (fun k s => s.1 = nI k ∧ ∀ i, i < k → s.2 i = im i) 1038 (fun k s hk hJ => Or.inl ?_) (fun s hJ => ?_) ⟨rfl, fun l hl => absurd hl (Nat.not_lt_zero l)⟩
  · obtain ⟨e, q⟩ := hJ
    unfold f_X8_back_S16
    rw [e, if_neg (show ¬ (1038 : Int32) ≤ nI k from nI_ge (b := 1038) hk (by decide)), chk_n (by omega) (by decide), chk_n (by omega) (by decide), nI_clamp (by omega)]
    refine ⟨_, rfl, nI_1 k, fun l hl => ?_⟩
    show upd s.2 _ _ _ = _
    rcases Nat.lt_succ_iff_lt_or_eq.mp hl with z | rfl
    · rw [upd_ne (by omega)]; exact q l z
    · rw [upd_same]
  · obtain ⟨e, q⟩ := hJ
    unfold f_X8_back_S16
    rw [e, if_pos (show (1038 : Int32) ≤ nI 1038 from Int32.le_refl _)]
    exact ⟨_, rfl, q⟩
theorem t_image : T_image Inv := by
  intro ls_hasImage tp_bytes tp_length tp_fault nw_sheets nw_cells nw_pasted nw_masks nw_uses nw_slots nw_slotK nw_slotX nw_slotY nw_setting nw_scenes nw_wishes nw_frames nw_frameRows nw_seen nw_seenRows nw_width nw_hands kp_sheets kp_cells kp_pasted kp_masks kp_uses kp_slots kp_slotK kp_slotX kp_slotY kp_setting kp_scenes kp_wishes kp_frames kp_frameRows kp_seen kp_seenRows kp_width kp_hands nr_size nr_rows kr_size kr_rows m_thrown m_world m_image m_hasImage m_tape m_taped m_faultAt m_rectangle m_hasRectangles hI
  obtain ⟨hS, hG, hR⟩ := hI
  obtain ⟨u, eu, hu⟩ := m_image_lp (w := m_world) (im := m_image) (t := 0) (h := m_hasImage)
  have h9 := hS.cong (cp0 nw_cells kp_cells 6) (cp0 nw_pasted kp_pasted 6) (cp0 nw_masks kp_masks 6) (cp0 nw_uses kp_uses 6) (cp0 nw_slotK kp_slotK 4) (cp0 nw_slotX kp_slotX 4) (cp0 nw_slotY kp_slotY 4) (cp0 nw_setting kp_setting 4) (cp0 nw_wishes kp_wishes 54) (cp0 nw_frameRows kp_frameRows 48) (cp0 nw_seenRows kp_seenRows 18) (cp0 nr_rows kr_rows 60) hu
  refine ⟨(1, nw_sheets, va_cpy nw_cells kp_cells 0 0 6, va_cpy nw_pasted kp_pasted 0 0 6, va_cpy nw_masks kp_masks 0 0 6, va_cpy nw_uses kp_uses 0 0 6, nw_slots, va_cpy nw_slotK kp_slotK 0 0 4, va_cpy nw_slotX kp_slotX 0 0 4, va_cpy nw_slotY kp_slotY 0 0 4, va_cpy nw_setting kp_setting 0 0 4, nw_scenes, va_cpy nw_wishes kp_wishes 0 0 54, nw_frames, va_cpy nw_frameRows kp_frameRows 0 0 48, nw_seen, va_cpy nw_seenRows kp_seenRows 0 0 18, nw_width, nw_hands, nr_size, va_cpy nr_rows kr_rows 0 0 60), (0, u, 1), rfl, ?_, hS, ⟨rfl, Or.inr rfl, fun _ => h9⟩, hR⟩
  unfold f_X8_image f_X8_image_J7
  rw [eu]; rfl
theorem t_back : T_back Inv := by
  intro ls_hasImage tp_bytes tp_length tp_fault nw_sheets nw_cells nw_pasted nw_masks nw_uses nw_slots nw_slotK nw_slotX nw_slotY nw_setting nw_scenes nw_wishes nw_frames nw_frameRows nw_seen nw_seenRows nw_width nw_hands kp_sheets kp_cells kp_pasted kp_masks kp_uses kp_slots kp_slotK kp_slotX kp_slotY kp_setting kp_scenes kp_wishes kp_frames kp_frameRows kp_seen kp_seenRows kp_width kp_hands nr_size nr_rows kr_size kr_rows m_thrown m_world m_image m_hasImage m_tape m_taped m_faultAt m_rectangle m_hasRectangles hI
  obtain ⟨hS, ⟨h1, h2, h3⟩, hR⟩ := hI
  subst h1
  by_cases h : ls_hasImage = 0
  · refine ⟨_, (0, 0, m_world), by unfold f_X7_back; rw [if_pos h], by unfold f_X8_back; rw [if_pos h], rfl, hS, ⟨rfl, h2, h3⟩, hR⟩
  · obtain ⟨u, eu, hu⟩ := m_back_lp (w := m_world) (im := m_image) (t := 0) (h := ls_hasImage)
    have h9 := (h3 h).cong (cp0 kp_cells nw_cells 6) (cp0 kp_pasted nw_pasted 6) (cp0 kp_masks nw_masks 6) (cp0 kp_uses nw_uses 6) (cp0 kp_slotK nw_slotK 4) (cp0 kp_slotX nw_slotX 4) (cp0 kp_slotY nw_slotY 4) (cp0 kp_setting nw_setting 4) (cp0 kp_wishes nw_wishes 54) (cp0 kp_frameRows nw_frameRows 48) (cp0 kp_seenRows nw_seenRows 18) (cp0 kr_rows nr_rows 60) hu
    refine ⟨(1, kp_sheets, va_cpy kp_cells nw_cells 0 0 6, va_cpy kp_pasted nw_pasted 0 0 6, va_cpy kp_masks nw_masks 0 0 6, va_cpy kp_uses nw_uses 0 0 6, kp_slots, va_cpy kp_slotK nw_slotK 0 0 4, va_cpy kp_slotX nw_slotX 0 0 4, va_cpy kp_slotY nw_slotY 0 0 4, va_cpy kp_setting nw_setting 0 0 4, kp_scenes, va_cpy kp_wishes nw_wishes 0 0 54, kp_frames, va_cpy kp_frameRows nw_frameRows 0 0 48, kp_seen, va_cpy kp_seenRows nw_seenRows 0 0 18, kp_width, kp_hands, kr_size, va_cpy kr_rows nr_rows 0 0 60), (1, 0, u), ?_, ?_, rfl, h9, ⟨rfl, h2, h3⟩, hR⟩
    · unfold f_X7_back; rw [if_neg h]; rfl
    · unfold f_X8_back f_X8_back_J16; rw [if_neg h, eu]; rfl
