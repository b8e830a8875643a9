/-! ===== seen, told, put ===== -/
theorem t_seen : T_seen Inv := by
  intro ls_hasImage tp_bytes tp_length tp_fault nw_sheets nw_cells nw_pasted nw_masks nw_uses nw_slots nw_slotK nw_slotX nw_slotY nw_setting nw_scenes nw_wishes nw_frames nw_frameRows nw_seen nw_seenRows nw_width nw_hands kp_sheets kp_cells kp_pasted kp_masks kp_uses kp_slots kp_slotK kp_slotX kp_slotY kp_setting kp_scenes kp_wishes kp_frames kp_frameRows kp_seen kp_seenRows kp_width kp_hands nr_size nr_rows kr_size kr_rows m_thrown m_world m_image m_hasImage m_tape m_taped m_faultAt m_rectangle m_hasRectangles hI a0 a1 a2
  obtain ⟨ns, nl, nc, nf, nk, nr, ⟨b1, b2, b3, b4, b5, b6⟩, ⟨rfl, rfl, rfl, rfl, rfl, rfl⟩, ⟨w0, w1, w2, w3, w4, w5, w6, w7⟩, hwd, hSh, hSl, hIn, hSc, hFr, hSe, hRu⟩ := hI.1
  by_cases hv : (¬ a0 < 0 ∧ ¬ nI nc ≤ a0) ∧ View a1 a2
  · obtain ⟨⟨p1, p2⟩, hv⟩ := hv
    obtain ⟨j, hj, rfl⟩ : ∃ j, j < nc ∧ a0 = nI j := by
      rcases pk_ix a0 (n := nc) (by omega) with h | h | h
      · exact absurd h p1
      · exact absurd h p2
      · exact h
    have ec : f_X7_seen (nI nc) (nI nk) nw_seenRows (nI j) a1 a2 = if nI nk < (6 : Int32) then bnd (f_X4_addSeen (nI nk) nw_seenRows (nI j) a1 a2) (fun u3 => some (.inl (u3.1, u3.2.1, u3.2.2))) else some (.inr (3, (nI nk, nw_seenRows))) := by
      unfold f_X7_seen
      rw [c_needScene_yes (by omega) hj, xb_l, (view_yes hv).1, xb_l]
    have em : f_X8_seen m_thrown m_world (nI j) a1 a2 = f_X8_seen_J28 (nI j) a1 a2 0 0 m_world := by
      unfold f_X8_seen
      rw [m_noScene_yes b3 w2 hj, bnd_s, if_pos rfl, nm_s, (view_yes hv).2, if_pos rfl]
    rw [ec, em]
    unfold f_X8_seen_J28
    rw [m_thr0, bnd_s, if_pos rfl, ck4, tn4, w4]
    by_cases h6 : nk < 6
    · rw [if_pos (lt_6 h6), if_neg (mt (eq_6 (by omega)).mp (by omega))]
      have ea : f_X4_addSeen (nI nk) nw_seenRows (nI j) a1 a2 = some (nI (nk + 1), nI (nk + 1), upd (upd (upd nw_seenRows (3 * nk) (nI j)) (3 * nk + 1) a1) (3 * nk + 2) a2) := by
        unfold f_X4_addSeen
        rw [show nI nk * (3 : Int32) = nI (3 * nk) by rw [show (3 : Int32) = nI 3 from rfl, pk_mul, Nat.mul_comm], chk_n (by omega) (by decide), nm_s, nI_clamp (by omega), show nI (3 * nk) + 1 = nI (3 * nk + 1) from nI_1 _, chk_n (by omega) (by decide), nm_s, nI_clamp (by omega), show nI (3 * nk) + 2 = nI (3 * nk + 2) from nI_add _ 2, chk_n (by omega) (by decide), nm_s, nI_clamp (by omega), nm_s, nI_1]
      have eb : f_X8_seen_J52 (nI j) a1 a2 0 0 m_world = some (nI (nk + 1), 0, upd (upd (upd (upd m_world (960 + 3 * nk) (nI j)) (960 + 3 * nk + 1) a1) (960 + 3 * nk + 2) a2) 4 (nI (nk + 1))) := by
        unfold f_X8_seen_J52
        rw [m_thr0, bnd_s, if_pos rfl, ck4, tn4, w4, nm_s, show (960 : Int32) + (3 : Int32) * nI nk = nI (960 + 3 * nk) by rw [show (3 : Int32) = nI 3 from rfl, pk_mul, show (960 : Int32) = nI 960 from rfl, nI_add], chk_n (by omega) (by decide), nm_s, nI_clamp (by omega), nI_1, chk_n (by omega) (by decide), nm_s, nI_clamp (by omega), show nI (960 + 3 * nk) + 2 = nI (960 + 3 * nk + 2) from nI_add _ 2, chk_n (by omega) (by decide), nm_s, nI_clamp (by omega), ck4, ck4, nm_s, ck4, upd_same, upd_ne (by omega), upd_ne (by omega), upd_ne (by omega), w4, nI_1]
      rw [ea, bnd_s, eb]
      refine Or.inl ⟨_, _, rfl, rfl, rfl, rfl, ⟨ns, nl, nc, nf, nk + 1, nr, ⟨b1, b2, b3, b4, by omega, b6⟩, ⟨rfl, rfl, rfl, rfl, rfl, rfl⟩, ?_, hwd, hSh.fr b1 (fun i _ _ => by dsimp only; rw [upd_ne (by omega), upd_ne (by omega), upd_ne (by omega), upd_ne (by omega)]), hSl.fr b2 (fun i _ _ => by dsimp only; rw [upd_ne (by omega), upd_ne (by omega), upd_ne (by omega), upd_ne (by omega)]), hIn.fr (fun i _ _ => by dsimp only; rw [upd_ne (by omega), upd_ne (by omega), upd_ne (by omega), upd_ne (by omega)]), hSc.fr b3 (fun i _ _ => by dsimp only; rw [upd_ne (by omega), upd_ne (by omega), upd_ne (by omega), upd_ne (by omega)]), hFr.fr b4 (fun i _ _ => by dsimp only; rw [upd_ne (by omega), upd_ne (by omega), upd_ne (by omega), upd_ne (by omega)]), ?_, hRu.fr b6 (fun i _ _ => by dsimp only; rw [upd_ne (by omega), upd_ne (by omega), upd_ne (by omega), upd_ne (by omega)])⟩, hI.2⟩
      · refine ⟨?_, ?_, ?_, ?_, by dsimp only; rw [upd_same], ?_, ?_, ?_⟩ <;> (dsimp only; rw [upd_ne (by omega), upd_ne (by omega), upd_ne (by omega), upd_ne (by omega)]; assumption)
      · intro k hk
        dsimp only
        by_cases e : k = nk
        · subst e
          have f0 : upd (upd (upd nw_seenRows (3 * k) (nI j)) (3 * k + 1) a1) (3 * k + 2) a2 (3 * k) = nI j := by rw [upd_ne (by omega), upd_ne (by omega), upd_same]
          have f1 : upd (upd (upd nw_seenRows (3 * k) (nI j)) (3 * k + 1) a1) (3 * k + 2) a2 (3 * k + 1) = a1 := by rw [upd_ne (by omega), upd_same]
          have f2 : upd (upd (upd nw_seenRows (3 * k) (nI j)) (3 * k + 1) a1) (3 * k + 2) a2 (3 * k + 2) = a2 := upd_same _ _ _
          refine ⟨⟨j, hj, f0⟩, by rw [f1]; exact hv.1, by rw [f2]; exact hv.2, fun i hi => ?_⟩
          rcases (show i = 0 ∨ i = 1 ∨ i = 2 by omega) with rfl | rfl | rfl
          · rw [Nat.add_zero, Nat.add_zero, f0, upd_ne (by omega), upd_ne (by omega), upd_ne (by omega), upd_same]
          · rw [f1, upd_ne (by omega), upd_ne (by omega), upd_same]
          · rw [f2, upd_ne (by omega), upd_same]
        · obtain ⟨g1, g2, g3, g4⟩ := hSe k (by omega)
          have ez : ∀ i, i < 3 → upd (upd (upd nw_seenRows (3 * nk) (nI j)) (3 * nk + 1) a1) (3 * nk + 2) a2 (3 * k + i) = nw_seenRows (3 * k + i) := fun i hi => by rw [upd_ne (by omega), upd_ne (by omega), upd_ne (by omega)]
          refine ⟨by have := ez 0 (by decide); rw [Nat.add_zero] at this; rw [this]; exact g1, by rw [ez 1 (by decide)]; exact g2, by rw [ez 2 (by decide)]; exact g3, fun i hi => ?_⟩
          rw [ez i hi, upd_ne (by omega), upd_ne (by omega), upd_ne (by omega), upd_ne (by omega)]
          exact g4 i hi
    · obtain rfl : nk = 6 := by omega
      unfold f_X8_seen_J52
      rw [if_neg (show ¬ nI 6 < 6 by decide), if_pos (show nI 6 = 6 from rfl), m_thr1, bnd_s, if_neg (by decide)]
      exact Or.inr (Or.inr ⟨_, _, rfl, rfl, rfl, hI⟩)
  · have key : f_X7_seen (nI nc) (nI nk) nw_seenRows a0 a1 a2 = some (.inr (2, (nI nk, nw_seenRows))) ∧ f_X8_seen m_thrown m_world a0 a1 a2 = f_X8_seen_J23 a0 a1 a2 0 m_world := by
      unfold f_X7_seen f_X8_seen
      rcases pk_ix a0 (n := nc) (by omega) with h | h | ⟨j, hj, rfl⟩
      · rw [c_needScene_no (by omega) (Or.inl h), m_noScene_no b3 w2 (Or.inl h)]; exact ⟨rfl, rfl⟩
      · rw [c_needScene_no (by omega) (Or.inr h), m_noScene_no b3 w2 (Or.inr h)]; exact ⟨rfl, rfl⟩
      · have hn : ¬ View a1 a2 := fun q => hv ⟨⟨nI_pos (by omega), nI_ge hj (by omega)⟩, q⟩
        rw [c_needScene_yes (by omega) hj, m_noScene_yes b3 w2 hj, xb_l, (view_no hn).1, bnd_s, if_pos rfl, nm_s, (view_no hn).2]; exact ⟨rfl, rfl⟩
    rw [key.1, key.2]
    unfold f_X8_seen_J23 f_X8_seen_J28
    rw [m_thr1, bnd_s, if_neg (by decide)]
    exact Or.inr (Or.inl ⟨_, _, rfl, rfl, rfl, hI⟩)
/-! what a setting is once a sheet is put -/
def putF (f : Nat → Int32) (l : Nat) (x : Int32) : Nat → Int32 := fun k => if k = l then x else if f k = x then -1 else f k
theorem c_set {f : Nat → Int32} {l : Nat} {x : Int32} (hl : l < 4) : OK (f_X4_set f 4 (nI l) x) (fun u => ∀ k, k < 4 → u k = putF f l x k) := by
  unfold f_X4_set f_X4_set_J2
  refine ok_bnd (P := fun u => ∀ k, k < 4 → u k = if f k = x then -1 else f k) (ok_lp (fun n s => s.1 = nI n ∧ (∀ k, k < n → s.2 k = if f k = x then -1 else f k) ∧ ∀ k, n ≤ k → s.2 k = f k) 4 (fun n s hn hJ => Or.inl ?_) (fun s hJ => ?_) ⟨rfl, fun l hl => absurd hl (Nat.not_lt_zero l), fun _ _ => rfl⟩) (fun z hz => ?_)
  · obtain ⟨e, q1, q2⟩ := hJ
    unfold f_X4_set_S2 f_X4_set_J18
    rw [e, if_neg (ge_4 hn), chk_n hn (by decide), nI_clamp (by omega), q2 n (Nat.le_refl _)]
    by_cases q : f n = x
    · rw [if_pos q, chk_n hn (by decide)]
      refine ⟨_, rfl, nI_1 n, fun k hk => ?_, fun k hk => ?_⟩
      · show upd s.2 _ _ _ = _
        rcases Nat.lt_succ_iff_lt_or_eq.mp hk with z | rfl
        · rw [upd_ne (by omega)]; exact q1 k z
        · rw [upd_same, if_pos q]
      · show upd s.2 _ _ _ = _
        rw [upd_ne (by omega)]; exact q2 k (by omega)
    · rw [if_neg q]
      refine ⟨_, rfl, nI_1 n, fun k hk => ?_, fun k hk => q2 k (by omega)⟩
      show s.2 k = _
      rcases Nat.lt_succ_iff_lt_or_eq.mp hk with z | rfl
      · exact q1 k z
      · rw [if_neg q]; exact q2 k (Nat.le_refl _)
  · obtain ⟨e, q1, q2⟩ := hJ
    unfold f_X4_set_S2
    rw [e]
    exact ⟨_, rfl, q1⟩
  · unfold f_X4_set_J24
    rw [chk_n hl (by decide), nm_s, nI_clamp (by omega)]
    refine ⟨_, rfl, fun k hk => ?_⟩
    unfold putF
    rw [upd_at]
    by_cases e : k = l
    · rw [if_pos e, if_pos e]
    · rw [if_neg e, if_neg e]; exact hz k hk
theorem putF_set {ns nl l : Nat} {f : Nat → Int32} {x : Int32} (h : Set4 ns nl f) (hl : l < nl) (hx : x = -1 ∨ ∃ s, s < ns ∧ x = nI s) (hn : ns < 100) : Set4 ns nl (putF f l x) := by
  have hx1 : ∀ k, k ≠ l → putF f l x k ≠ x ∨ x = -1 := fun k hk => by
    unfold putF
    rw [if_neg hk]
    by_cases q : f k = x
    · rw [if_pos q]
      rcases hx with e | ⟨s, hs, e⟩
      · exact Or.inr e
      · exact Or.inl (fun z => nI_m1 (n := s) (by omega) (e.symm.trans z.symm))
    · rw [if_neg q]; exact Or.inl q
  refine ⟨fun k hk => ?_, fun a b ha hb e ne => ?_⟩
  · unfold putF
    by_cases e : k = l
    · rw [if_pos e, e]
      rcases hx with q | q
      · exact Or.inl q
      · exact Or.inr ⟨hl, q⟩
    · rw [if_neg e]
      by_cases q : f k = x
      · rw [if_pos q]; exact Or.inl rfl
      · rw [if_neg q]; exact h.1 k hk
  · by_cases ea : a = l
    · by_cases eb : b = l
      · rw [ea, eb]
      · exfalso
        have q1 : putF f l x a = x := by unfold putF; rw [if_pos ea]
        rcases hx1 b eb with z | z
        · exact z (e.symm.trans q1)
        · exact ne (q1.trans z)
    · by_cases eb : b = l
      · exfalso
        have q1 : putF f l x b = x := by unfold putF; rw [if_pos eb]
        rcases hx1 a ea with z | z
        · exact z (e.trans q1)
        · exact ne (e.trans (q1.trans z))
      · unfold putF at e ne
        rw [if_neg ea] at e ne
        rw [if_neg eb] at e
        by_cases qa : f a = x
        · rw [if_pos qa] at ne; exact absurd rfl ne
        · rw [if_neg qa] at e ne
          by_cases qb : f b = x
          · rw [if_pos qb] at e; exact absurd e ne
          · rw [if_neg qb] at e
            exact h.2 a b ha hb e ne
