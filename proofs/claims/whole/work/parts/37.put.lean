/-! ===== seen, told, put ===== -/
theorem t_seen : T_seen Inv := by
  intro ls_hasImage tp_bytes tp_length tp_fault nw_sheets nw_cells nw_pasted nw_masks nw_uses nw_slots nw_slotK nw_slotX nw_slotY nw_setting nw_scenes nw_wishes nw_frames nw_frameRows nw_seen nw_seenRows nw_width nw_hands kp_sheets kp_cells kp_pasted kp_masks kp_uses kp_slots kp_slotK kp_slotX kp_slotY kp_setting kp_scenes kp_wishes kp_frames kp_frameRows kp_seen kp_seenRows kp_width kp_hands nr_size nr_rows kr_size kr_rows m_thrown m_world m_image m_hasImage m_tape m_taped m_faultAt m_rectangle m_hasRectangles hI a0 a1 a2
  obtain ⟨ns, nl, nc, nf, nk, nr, ⟨b1, b2, b3, b4, b5, b6⟩, ⟨rfl, rfl, rfl, rfl, rfl, rfl⟩, ⟨w0, w1, w2, w3, w4, w5, w6, w7⟩, hwd, hSh, hSl, hIn, hSc, hFr, hSe, hRu⟩ := hI.1
  by_cases hv : (¬ a0 < 0 ∧ ¬ nI nc ≤ a0) ∧ View a1 a2
  · obtain ⟨⟨p1, p2⟩, hv⟩ := hv
    obtain ⟨j, hj, rfl⟩ : ∃ j, j < nc ∧ a0 = nI j := by
      rcases pk_ix a0 (n := nc) (by omega) with h | h | h
      · exact absurd h p1
      · exact absurd h p2
      · exact h
    have ec : f_X7_seen (nI nc) (nI nk) nw_seenRows (nI j) a1 a2 = if nI nk < (6 : Int32) then bnd (f_X4_addSeen (nI nk) nw_seenRows (nI j) a1 a2) (fun u3 => some (.inl (u3.1, u3.2.1, u3.2.2))) else some (.inr (3, (nI nk, nw_seenRows))) := by
      unfold f_X7_seen
      rw [c_needScene_yes (by omega) hj, xb_l, (view_yes hv).1, xb_l]
    have em : f_X8_seen m_thrown m_world (nI j) a1 a2 = f_X8_seen_J28 (nI j) a1 a2 0 0 m_world := by
      unfold f_X8_seen
      rw [m_noScene_yes b3 w2 hj, bnd_s, if_pos rfl, nm_s, (view_yes hv).2, if_pos rfl]
    rw [ec, em]
    unfold f_X8_seen_J28
    rw [m_thr0, bnd_s, if_pos rfl, ck4, tn4, w4]
    by_cases h6 : nk < 6
    · rw [if_pos (lt_6 h6), if_neg (mt (eq_6 (by omega)).mp (by omega))]
      have ea : f_X4_addSeen (nI nk) nw_seenRows (nI j) a1 a2 = some (nI (nk + 1), nI (nk + 1), upd (upd (upd nw_seenRows (3 * nk) (nI j)) (3 * nk + 1) a1) (3 * nk + 2) a2) := by
        unfold f_X4_addSeen
        rw [show nI nk * (3 : Int32) = nI (3 * nk) by rw [show (3 : Int32) = nI 3 from rfl, pk_mul, Nat.mul_comm], chk_n (by omega) (by decide), nm_s, nI_clamp (by omega), show nI (3 * nk) + 1 = nI (3 * nk + 1) from nI_1 _, chk_n (by omega) (by decide), nm_s, nI_clamp (by omega), show nI (3 * nk) + 2 = nI (3 * nk + 2) from nI_add _ 2, chk_n (by omega) (by decide), nm_s, nI_clamp (by omega), nm_s, nI_1]
      have eb : f_X8_seen_J52 (nI j) a1 a2 0 0 m_world = some (nI (nk + 1), 0, upd (upd (upd (upd m_world (960 + 3 * nk) (nI j)) (960 + 3 * nk + 1) a1) (960 + 3 * nk + 2) a2) 4 (nI (nk + 1))) := by
        unfold f_X8_seen_J52
        rw [m_thr0, bnd_s, if_pos rfl, ck4, tn4, w4, nm_s, show (960 : Int32) + (3 : Int32) * nI nk = nI (960 + 3 * nk) by rw [show (3 : Int32) = nI 3 from rfl, pk_mul, show (960 : Int32) = nI 960 from rfl, nI_add], chk_n (by omega) (by decide), nm_s, nI_clamp (by omega), nI_1, chk_n (by omega) (by decide), nm_s, nI_clamp (by omega), show nI (960 + 3 * nk) + 2 = nI (960 + 3 * nk + 2) from nI_add _ 2, chk_n (by omega) (by decide), nm_s, nI_clamp (by omega), ck4, ck4, nm_s, ck4, upd_same, upd_ne (by omega), upd_ne (by omega), upd_ne (by omega), w4, nI_1]
      rw [ea, bnd_s, eb]
      refine Or.inl ⟨_, _, rfl, rfl, rfl, rfl, ⟨ns, nl, nc, nf, nk + 1, nr, ⟨b1, b2, b3, b4, by omega, b6⟩, ⟨rfl, rfl, rfl, rfl, rfl, rfl⟩, ?_, hwd, hSh.fr b1 (fun i _ _ => by dsimp only; rw [upd_ne (by omega), upd_ne (by omega), upd_ne (by omega), upd_ne (by omega)]), hSl.fr b2 (fun i _ _ => by dsimp only; rw [upd_ne (by omega), upd_ne (by omega), upd_ne (by omega), upd_ne (by omega)]), hIn.fr (fun i _ _ => by dsimp only; rw [upd_ne (by omega), upd_ne (by omega), upd_ne (by omega), upd_ne (by omega)]), hSc.fr b3 (fun i _ _ => by dsimp only; rw [upd_ne (by omega), upd_ne (by omega), upd_ne (by omega), upd_ne (by omega)]), hFr.fr b4 (fun i _ _ => by dsimp only; rw [upd_ne (by omega), upd_ne (by omega), upd_ne (by omega), upd_ne (by omega)]), ?_, hRu.fr b6 (fun i _ _ => by dsimp only; rw [upd_ne (by omega), upd_ne (by omega), upd_ne (by omega), upd_ne (by omega)])⟩, hI.2⟩
      · refine ⟨?_, ?_, ?_, ?_, by dsimp only; rw [upd_same], ?_, ?_, ?_⟩ <;> (dsimp only; rw [upd_ne (by omega), upd_ne (by omega), upd_ne (by omega), upd_ne (by omega)]; assumption)
      · intro k hk
        dsimp only
        by_cases e : k = nk
        · subst e
          have f0 : upd (upd (upd nw_seenRows (3 * k) (nI j)) (3 * k + 1) a1) (3 * k + 2) a2 (3 * k) = nI j := by rw [upd_ne (by omega), upd_ne (by omega), upd_same]
          have f1 : upd (upd (upd nw_seenRows (3 * k) (nI j)) (3 * k + 1) a1) (3 * k + 2) a2 (3 * k + 1) = a1 := by rw [upd_ne (by omega), upd_same]
          have f2 : upd (upd (upd nw_seenRows (3 * k) (nI j)) (3 * k + 1) a1) (3 * k + 2) a2 (3 * k + 2) = a2 := upd_same _ _ _
          refine ⟨⟨j, hj, f0⟩, by rw [f1]; exact hv.1, by rw [f2]; exact hv.2, fun i hi => ?_⟩
          rcases (show i = 0 ∨ i = 1 ∨ i = 2 by omega) with rfl | rfl | rfl
          · rw [show 3 * k + 0 = 3 * k from rfl, f0, upd_ne (by omega), upd_ne (by omega), upd_ne (by omega), upd_at, if_pos (by omega)]
          · rw [f1, upd_ne (by omega), upd_ne (by omega), upd_same]
          · rw [f2, upd_ne (by omega), upd_same]
        · obtain ⟨g1, g2, g3, g4⟩ := hSe k (by omega)
          have ez : ∀ i, i < 3 → upd (upd (upd nw_seenRows (3 * nk) (nI j)) (3 * nk + 1) a1) (3 * nk + 2) a2 (3 * k + i) = nw_seenRows (3 * k + i) := fun i hi => by rw [upd_ne (by omega), upd_ne (by omega), upd_ne (by omega)]
          refine ⟨by rw [show upd (upd (upd nw_seenRows (3 * nk) (nI j)) (3 * nk + 1) a1) (3 * nk + 2) a2 (3 * k) = nw_seenRows (3 * k) from ez 0 (by decide)]; exact g1, by rw [ez 1 (by decide)]; exact g2, by rw [ez 2 (by decide)]; exact g3, fun i hi => ?_⟩
          rw [ez i hi, upd_ne (by omega), upd_ne (by omega), upd_ne (by omega), upd_ne (by omega)]
          exact g4 i hi
    · obtain rfl : nk = 6 := by omega
      unfold f_X8_seen_J52
      rw [if_neg (show ¬ nI 6 < 6 by decide), if_pos (show nI 6 = 6 from rfl), m_thr1, bnd_s, if_neg (by decide)]
      exact Or.inr (Or.inr ⟨_, _, rfl, rfl, rfl, hI⟩)
  · have key : f_X7_seen (nI nc) (nI nk) nw_seenRows a0 a1 a2 = some (.inr (2, (nI nk, nw_seenRows))) ∧ f_X8_seen m_thrown m_world a0 a1 a2 = f_X8_seen_J23 a0 a1 a2 0 m_world := by
      unfold f_X7_seen f_X8_seen
      rcases pk_ix a0 (n := nc) (by omega) with h | h | ⟨j, hj, rfl⟩
      · rw [c_needScene_no (by omega) (Or.inl h), m_noScene_no b3 w2 (Or.inl h)]; exact ⟨rfl, rfl⟩
      · rw [c_needScene_no (by omega) (Or.inr h), m_noScene_no b3 w2 (Or.inr h)]; exact ⟨rfl, rfl⟩
      · have hn : ¬ View a1 a2 := fun q => hv ⟨⟨nI_pos (by omega), nI_ge hj (by omega)⟩, q⟩
        rw [c_needScene_yes (by omega) hj, m_noScene_yes b3 w2 hj, xb_l, (view_no hn).1, bnd_s, if_pos rfl, nm_s, (view_no hn).2]; exact ⟨rfl, rfl⟩
    rw [key.1, key.2]
    unfold f_X8_seen_J23 f_X8_seen_J28
    rw [m_thr1, bnd_s, if_neg (by decide)]
    exact Or.inr (Or.inl ⟨_, _, rfl, rfl, rfl, hI⟩)
/-! what a setting is once a sheet is put -/
def putF (f : Nat → Int32) (l : Nat) (x : Int32) : Nat → Int32 := fun k => if k = l then x else if f k = x then -1 else f k
theorem c_set {f : Nat → Int32} {l : Nat} {x : Int32} (hl : l < 4) : OK (f_X4_set f 4 (nI l) x) (fun u => ∀ k, k < 4 → u k = putF f l x k) := by
  unfold f_X4_set f_X4_set_J2
  refine ok_bnd (P := fun u => ∀ k, k < 4 → u k = if f k = x then -1 else f k) (ok_lp (fun n s => s.1 = nI n ∧ (∀ k, k < n → s.2 k = if f k = x then -1 else f k) ∧ ∀ k, n ≤ k → s.2 k = f k) 4 (fun n s hn hJ => Or.inl ?_) (fun s hJ => ?_) ⟨rfl, fun l hl => absurd hl (Nat.not_lt_zero l), fun _ _ => rfl⟩) (fun z hz => ?_)
  · obtain ⟨e, q1, q2⟩ := hJ
    unfold f_X4_set_S2 f_X4_set_J18
    rw [e, if_neg (ge_4 hn), chk_n hn (by decide), nI_clamp (by omega), q2 n (Nat.le_refl _)]
    by_cases q : f n = x
    · rw [if_pos q, chk_n hn (by decide)]
      refine ⟨_, rfl, nI_1 n, fun k hk => ?_, fun k hk => ?_⟩
      · show upd s.2 _ _ _ = _
        rcases Nat.lt_succ_iff_lt_or_eq.mp hk with z | rfl
        · rw [upd_ne (by omega)]; exact q1 k z
        · rw [upd_same, if_pos q]
      · show upd s.2 _ _ _ = _
        rw [upd_ne (by omega)]; exact q2 k (by omega)
    · rw [if_neg q]
      refine ⟨_, rfl, nI_1 n, fun k hk => ?_, fun k hk => q2 k (by omega)⟩
      show s.2 k = _
      rcases Nat.lt_succ_iff_lt_or_eq.mp hk with z | rfl
      · exact q1 k z
      · rw [if_neg q]; exact q2 k (Nat.le_refl _)
  · obtain ⟨e, q1, q2⟩ := hJ
    unfold f_X4_set_S2
    rw [e]
    exact ⟨_, rfl, q1⟩
  · unfold f_X4_set_J24
    rw [chk_n hl (by decide), nm_s, nI_clamp (by omega)]
    refine ⟨_, rfl, fun k hk => ?_⟩
    unfold putF
    rw [upd_at]
    by_cases e : k = l
    · rw [if_pos e, if_pos e]
    · rw [if_neg e, if_neg e]; exact hz k hk
theorem putF_set {ns nl l : Nat} {f : Nat → Int32} {x : Int32} (h : Set4 ns nl f) (hl : l < nl) (hx : x = -1 ∨ ∃ s, s < ns ∧ x = nI s) (hn : ns < 100) : Set4 ns nl (putF f l x) := by
  have hx1 : ∀ k, k ≠ l → putF f l x k ≠ x ∨ x = -1 := fun k hk => by
    unfold putF
    rw [if_neg hk]
    by_cases q : f k = x
    · rw [if_pos q]
      rcases hx with e | ⟨s, hs, e⟩
      · exact Or.inr e
      · exact Or.inl (fun z => nI_m1 (n := s) (by omega) (e.symm.trans z.symm))
    · rw [if_neg q]; exact Or.inl q
  refine ⟨fun k hk => ?_, fun a b ha hb e ne => ?_⟩
  · unfold putF
    by_cases e : k = l
    · rw [if_pos e, e]
      rcases hx with q | q
      · exact Or.inl q
      · exact Or.inr ⟨hl, q⟩
    · rw [if_neg e]
      by_cases q : f k = x
      · rw [if_pos q]; exact Or.inl rfl
      · rw [if_neg q]; exact h.1 k hk
  · by_cases ea : a = l
    · by_cases eb : b = l
      · rw [ea, eb]
      · exfalso
        have q1 : putF f l x a = x := by unfold putF; rw [if_pos ea]
        rcases hx1 b eb with z | z
        · exact z (e.symm.trans q1)
        · exact ne (q1.trans z)
    · by_cases eb : b = l
      · exfalso
        have q1 : putF f l x b = x := by unfold putF; rw [if_pos eb]
        rcases hx1 a ea with z | z
        · exact z (e.trans q1)
        · exact ne (e.trans (q1.trans z))
      · unfold putF at e ne
        rw [if_neg ea] at e ne
        rw [if_neg eb] at e
        by_cases qa : f a = x
        · rw [if_pos qa] at ne; exact absurd rfl ne
        · rw [if_neg qa] at e ne
          by_cases qb : f b = x
          · rw [if_pos qb] at e; exact absurd e ne
          · rw [if_neg qb] at e
            exact h.2 a b ha hb e ne
theorem m_slotOf {w f : Nat → Int32} {x : Int32} {ns nl : Nat} (h1 : w 1 = nI nl) (h4 : nl ≤ 4) (hw : ∀ l, l < 4 → w (44 + l) = f l) (hf : Set4 ns nl f) (hx : x ≠ -1) : f_X8_slotOf w x = some (sof f x) := by
  refine OK.eq (OK.mono (P := SL f x) ?_ (fun a h => sof_at hf.2 hx h))
  unfold f_X8_slotOf f_X8_slotOf_J2
  refine ok_bnd (P := Sum.elim (fun z => ∃ l, l < 4 ∧ z = nI l ∧ f l = x) (fun _ => ∀ l, l < 4 → f l ≠ x)) (ok_lp (fun k s => s = nI k ∧ ∀ l, l < k → f l ≠ x) nl (fun k s hk hI => ?_) (fun s hI => ?_) ⟨rfl, fun l hl => absurd hl (Nat.not_lt_zero l)⟩) (fun z hz => ?_)
  · obtain ⟨rfl, h⟩ := hI
    unfold f_X8_slotOf_S2
    rw [m_slots, bnd_s, h1, if_neg (nI_ge hk (by omega)), m_inSlot (by omega), bnd_s, hw k (by omega)]
    by_cases q : f k = x
    · rw [if_pos q]
      exact Or.inr ⟨_, rfl, k, by omega, rfl, q⟩
    · rw [if_neg q]
      exact Or.inl ⟨_, rfl, nI_1 k, fun l hl => by
        rcases Nat.lt_succ_iff_lt_or_eq.mp hl with z | rfl
        · exact h l z
        · exact q⟩
  · obtain ⟨rfl, h⟩ := hI
    unfold f_X8_slotOf_S2
    rw [m_slots, bnd_s, h1, if_pos (Int32.le_refl _)]
    refine ⟨_, rfl, fun l hl => ?_⟩
    by_cases z : l < nl
    · exact h l z
    · rcases hf.1 l hl with q | ⟨q, _⟩
      · rw [q]; exact hx.symm
      · exact absurd q z
  · cases z with
    | inl z => exact ⟨_, rfl, Or.inr hz⟩
    | inr z => exact ⟨_, rfl, Or.inl ⟨rfl, hz⟩⟩
/-- the model's putting, as the class's: the one slot where the sheet stands is emptied, then the slot takes it -/
theorem m_put {w f : Nat → Int32} {x t : Int32} {ns nl l : Nat} (h1 : w 1 = nI nl) (h4 : nl ≤ 4) (hw : ∀ l, l < 4 → w (44 + l) = f l) (hf : Set4 ns nl f) (hl : l < nl) :
    OK (f_X8_put_J32 (nI l) x 0 t w) (fun v => v.1 = f l ∧ v.2.1 = t ∧ (∀ k, k < 4 → v.2.2 (44 + k) = putF f l x k) ∧ ∀ i, (i < 44 ∨ 48 ≤ i) → v.2.2 i = w i) := by
  have last : ∀ g : Nat → Int32, f_X8_put_J74 (nI l) x (f l) t g = some (f l, t, upd g (44 + l) x) := fun g => by
    unfold f_X8_put_J74
    rw [show (44 : Int32) + nI l = nI (44 + l) from nI_add 44 l, chk_n (by omega) (by decide), nm_s, nI_clamp (by omega)]
  unfold f_X8_put_J32
  rw [m_thr0, bnd_s, if_pos rfl, m_inSlot (by omega), bnd_s, hw l (by omega)]
  by_cases hx : x = -1
  · rw [if_pos hx, last]
    refine ⟨_, rfl, rfl, rfl, fun k hk => ?_, fun i hi => ?_⟩
    · show upd w (44 + l) x (44 + k) = _
      unfold putF
      by_cases e : k = l
      · rw [if_pos e, e, upd_same]
      · rw [if_neg e, upd_ne (by omega), hw k hk]
        by_cases q : f k = x
        · rw [if_pos q, q, hx]
        · rw [if_neg q]
    · show upd w (44 + l) x i = _
      rw [upd_ne (by omega)]
  · rw [if_neg hx, m_slotOf h1 h4 hw hf hx, bnd_s, bnd_s]
    rcases sof_SL f x with ⟨e, hno⟩ | ⟨j, hj, e, hyes⟩
    · rw [e, if_pos (by decide), last]
      refine ⟨_, rfl, rfl, rfl, fun k hk => ?_, fun i hi => ?_⟩
      · show upd w (44 + l) x (44 + k) = _
        unfold putF
        by_cases e : k = l
        · rw [if_pos e, e, upd_same]
        · rw [if_neg e, upd_ne (by omega), hw k hk, if_neg (hno k hk)]
      · show upd w (44 + l) x i = _
        rw [upd_ne (by omega)]
    · rw [e, if_neg (nI_pos (by omega)), show (44 : Int32) + nI j = nI (44 + j) from nI_add 44 j, chk_n (by omega) (by decide), nm_s, nI_clamp (by omega), last]
      refine ⟨_, rfl, rfl, rfl, fun k hk => ?_, fun i hi => ?_⟩
      · show upd (upd w (44 + j) (-1)) (44 + l) x (44 + k) = _
        unfold putF
        by_cases e : k = l
        · rw [if_pos e, e, upd_same]
        · rw [if_neg e, upd_ne (by omega)]
          by_cases q : k = j
          · rw [q, upd_same, if_pos hyes]
          · rw [upd_ne (by omega), hw k hk, if_neg (fun z => q (hf.2 k j hk hj (z.trans hyes.symm) (by rw [z]; exact hx)))]
      · show upd (upd w (44 + j) (-1)) (44 + l) x i = _
        rw [upd_ne (by omega), upd_ne (by omega)]
theorem t_put : T_put Inv := by
  intro ls_hasImage tp_bytes tp_length tp_fault nw_sheets nw_cells nw_pasted nw_masks nw_uses nw_slots nw_slotK nw_slotX nw_slotY nw_setting nw_scenes nw_wishes nw_frames nw_frameRows nw_seen nw_seenRows nw_width nw_hands kp_sheets kp_cells kp_pasted kp_masks kp_uses kp_slots kp_slotK kp_slotX kp_slotY kp_setting kp_scenes kp_wishes kp_frames kp_frameRows kp_seen kp_seenRows kp_width kp_hands nr_size nr_rows kr_size kr_rows m_thrown m_world m_image m_hasImage m_tape m_taped m_faultAt m_rectangle m_hasRectangles hI a0 a1
  obtain ⟨ns, nl, nc, nf, nk, nr, ⟨b1, b2, b3, b4, b5, b6⟩, ⟨rfl, rfl, rfl, rfl, rfl, rfl⟩, ⟨w0, w1, w2, w3, w4, w5, w6, w7⟩, hwd, hSh, hSl, hIn, hSc, hFr, hSe, hRu⟩ := hI.1
  suffices H : (f_X7_put (nI ns) (nI nl) nw_setting a0 a1 = some (.inr (2, nw_setting)) ∧ f_X8_put m_thrown m_world a0 a1 = f_X8_put_J27 a0 a1 0 m_world) ∨ ∃ l, l < nl ∧ (a1 = -1 ∨ ∃ s, s < ns ∧ a1 = nI s) ∧ a0 = nI l ∧ f_X7_put (nI ns) (nI nl) nw_setting a0 a1 = f_X7_put_J15 (nI ns) (nI nl) a0 a1 nw_setting ∧ f_X8_put m_thrown m_world a0 a1 = f_X8_put_J31 a0 a1 0 m_world by
    rcases H with ⟨e1, e2⟩ | ⟨l, hl, hx, rfl, e1, e2⟩
    · refine Or.inr ⟨nw_setting, (0, 1, m_world), e1, ?_, rfl, hI⟩
      rw [e2]
      unfold f_X8_put_J27 f_X8_put_J32
      rw [m_thr1, bnd_s, if_neg (by decide)]
    · obtain ⟨u, eu, hu⟩ := c_set (f := nw_setting) (l := l) (x := a1) (by omega)
      obtain ⟨v, ev, v1, v2, v3, v4⟩ := m_put (t := 0) (x := a1) w1 b2 hIn.2 hIn.1 hl
      refine Or.inl ⟨(nw_setting l, u), v, ?_, ?_, v2, v1.symm, ⟨ns, nl, nc, nf, nk, nr, ⟨b1, b2, b3, b4, b5, b6⟩, ⟨rfl, rfl, rfl, rfl, rfl, rfl⟩, ?_, hwd, hSh.fr b1 (fun i _ _ => v4 i (by omega)), hSl.fr b2 (fun i _ _ => v4 i (by omega)), ⟨(putF_set hIn.1 hl hx (by omega)).cong hu, fun k hk => (v3 k hk).trans (hu k hk).symm⟩, hSc.fr b3 (fun i _ _ => v4 i (by omega)), hFr.fr b4 (fun i _ _ => v4 i (by omega)), hSe.fr b5 (fun i _ _ => v4 i (by omega)), hRu.fr b6 (fun i _ _ => v4 i (by omega))⟩, hI.2⟩
      · rw [e1]
        unfold f_X7_put_J15
        rw [chk_n (by omega) (by decide), nm_s, eu, bnd_s, nI_clamp (by omega)]
      · rw [e2]
        unfold f_X8_put_J31
        exact ev
      · rw [v4 0 (by omega), v4 1 (by omega), v4 2 (by omega), v4 3 (by omega), v4 4 (by omega), v4 5 (by omega), v4 6 (by omega), v4 7 (by omega)]
        exact ⟨w0, w1, w2, w3, w4, w5, w6, w7⟩
  rcases pk_ix a0 (n := nl) (by omega) with h | h | ⟨l, hl, e0⟩
  · exact Or.inl ⟨by unfold f_X7_put; rw [c_needSlot_no (by omega) (Or.inl h)]; rfl, by unfold f_X8_put; rw [m_noSlot_no (by omega) w1 (Or.inl h)]; rfl⟩
  · exact Or.inl ⟨by unfold f_X7_put; rw [c_needSlot_no (by omega) (Or.inr h)]; rfl, by unfold f_X8_put; rw [m_noSlot_no (by omega) w1 (Or.inr h)]; rfl⟩
  by_cases hm : a1 = -1
  · exact Or.inr ⟨l, hl, Or.inl hm, e0, by unfold f_X7_put; rw [e0, c_needSlot_yes (by omega) hl, xb_l, if_pos hm], by unfold f_X8_put; rw [e0, m_noSlot_yes (by omega) w1 hl, bnd_s, if_pos rfl, if_pos hm]⟩
  rcases pk_ix a1 (n := ns) (by omega) with h | h | ⟨s, hs, e1⟩
  · exact Or.inl ⟨by unfold f_X7_put; rw [e0, c_needSlot_yes (by omega) hl, xb_l, if_neg hm, c_needSheet_no (by omega) (Or.inl h)]; rfl, by unfold f_X8_put; rw [e0, m_noSlot_yes (by omega) w1 hl, bnd_s, if_pos rfl, if_neg hm, m_noSheet_no b1 w0 (Or.inl h)]; rfl⟩
  · exact Or.inl ⟨by unfold f_X7_put; rw [e0, c_needSlot_yes (by omega) hl, xb_l, if_neg hm, c_needSheet_no (by omega) (Or.inr h)]; rfl, by unfold f_X8_put; rw [e0, m_noSlot_yes (by omega) w1 hl, bnd_s, if_pos rfl, if_neg hm, m_noSheet_no b1 w0 (Or.inr h)]; rfl⟩
  · exact Or.inr ⟨l, hl, Or.inr ⟨s, hs, e1⟩, e0, by unfold f_X7_put; rw [e0, c_needSlot_yes (by omega) hl, xb_l, if_neg hm, e1, c_needSheet_yes (by omega) hs, xb_l], by unfold f_X8_put; rw [e0, m_noSlot_yes (by omega) w1 hl, bnd_s, if_pos rfl, if_neg hm, e1, m_noSheet_yes b1 w0 hs, bnd_s, if_pos rfl]⟩
