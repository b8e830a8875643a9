/-! ===== scene: the model, the operation ===== -/
theorem aps1 : ∀ (l : List (Nat × Nat × Nat × Nat × Nat)) (n : Nat) (s : (Nat → Int32) × Int32) (V : Nat → Nat), (∀ p, p < 144 → s.1 (1038 + p) = nI (V p)) → ∀ p, p < 144 → (aps 1 n l s).1 (1038 + p) = nI (lm l p (V p)) := by
  intro l
  induction l with
  | nil => intro n s V h; exact h
  | cons r l ih =>
    intro n s V h
    refine ih (n + 1) (mw r s.1, s.2) (fun p => if in12 r.2.1 r.2.2.1 r.2.2.2.1 r.2.2.2.2 p = true then r.1 else V p) (fun p hp => ?_)
    show (if 1038 ≤ 1038 + p ∧ 1038 + p < 1182 ∧ in12 r.2.1 r.2.2.1 r.2.2.2.1 r.2.2.2.2 (1038 + p - 1038) = true then nI r.1 else s.1 (1038 + p)) = nI (if in12 r.2.1 r.2.2.1 r.2.2.2.1 r.2.2.2.2 p = true then r.1 else V p)
    rw [Nat.add_sub_cancel_left]
    by_cases q : in12 r.2.1 r.2.2.1 r.2.2.2.1 r.2.2.2.2 p = true
    · rw [if_pos ⟨by omega, by omega, q⟩, if_pos q]
    · rw [if_neg (fun z => q z.2.2), if_neg q]; exact h p hp
theorem m_zero {wd tape : Nat → Int32} {c1 c2 c3 c4 c5 c6 c7 c8 c9 c10 c11 : Int32} : lp (fun q => f_X8_scene_S6 tape c1 c2 c3 c4 c5 c6 c7 c8 c9 c10 c11 q.1 q.2) ((0 : Int32), wd) = some (fun k => if 1038 ≤ k ∧ k < 1038 + 144 then 0 else wd k) := by
  have H : OK (lp (fun q => f_X8_scene_S6 tape c1 c2 c3 c4 c5 c6 c7 c8 c9 c10 c11 q.1 q.2) ((0 : Int32), wd)) (fun r => r = fun k => if 1038 ≤ k ∧ k < 1038 + 144 then 0 else wd k) := by
    refine ok_lp (fun n s => s = (nI n, fun k => if 1038 ≤ k ∧ k < 1038 + n then 0 else wd k)) 144 (fun n s hn hJ => ?_) (fun s hJ => ?_) ?_
    · subst hJ
      refine Or.inl ⟨_, ?_, rfl⟩
      show f_X8_scene_S6 tape c1 c2 c3 c4 c5 c6 c7 c8 c9 c10 c11 (nI n) (fun k => if 1038 ≤ k ∧ k < 1038 + n then 0 else wd k) = _
      unfold f_X8_scene_S6
      rw [if_neg (show ¬ (144 : Int32) ≤ nI n from nI_ge (b := 144) hn (by decide)), show (1038 : Int32) + nI n = nI (1038 + n) from nI_add 1038 n, chk_n (by omega) (by decide), nm_s, nm_s, nI_c (by omega), nI_1]
      congr 3
      funext i
      rw [upd_at]
      by_cases q : i = 1038 + n
      · rw [if_pos q, if_pos (by omega)]
      · rw [if_neg q]
        by_cases q2 : 1038 ≤ i ∧ i < 1038 + n
        · rw [if_pos q2, if_pos (by omega)]
        · rw [if_neg q2, if_neg (by omega)]
    · subst hJ
      refine ⟨_, ?_, rfl⟩
      show f_X8_scene_S6 tape c1 c2 c3 c4 c5 c6 c7 c8 c9 c10 c11 (nI 144) _ = _
      unfold f_X8_scene_S6
      rw [if_pos (show (144 : Int32) ≤ nI 144 by decide)]
    · refine Prod.ext rfl ?_
      funext i
      show wd i = if 1038 ≤ i ∧ i < 1038 + 0 then 0 else wd i
      rw [if_neg (by omega)]
  obtain ⟨r, er, hr⟩ := H
  rw [er, hr]
theorem m_scopy {wd tape : Nat → Int32} {b : Nat} {c1 c2 c3 c4 c5 c6 c7 c8 c9 c10 c11 : Int32} (hb : b + 144 ≤ 1038) : lp (fun q => f_X8_scene_S93 tape (nI b) c1 c2 c3 c4 c5 c6 c7 c8 c9 c10 c11 q.1 q.2) ((0 : Int32), wd) = some (fun k => if b ≤ k ∧ k < b + 144 then wd (1038 + (k - b)) else wd k) := by
  have H : OK (lp (fun q => f_X8_scene_S93 tape (nI b) c1 c2 c3 c4 c5 c6 c7 c8 c9 c10 c11 q.1 q.2) ((0 : Int32), wd)) (fun r => r = fun k => if b ≤ k ∧ k < b + 144 then wd (1038 + (k - b)) else wd k) := by
    refine ok_lp (fun n s => s = (nI n, fun k => if b ≤ k ∧ k < b + n then wd (1038 + (k - b)) else wd k)) 144 (fun n s hn hJ => ?_) (fun s hJ => ?_) ?_
    · subst hJ
      refine Or.inl ⟨_, ?_, rfl⟩
      show f_X8_scene_S93 tape (nI b) c1 c2 c3 c4 c5 c6 c7 c8 c9 c10 c11 (nI n) (fun k => if b ≤ k ∧ k < b + n then wd (1038 + (k - b)) else wd k) = _
      unfold f_X8_scene_S93
      rw [if_neg (show ¬ (144 : Int32) ≤ nI n from nI_ge (b := 144) hn (by decide)), show (1038 : Int32) + nI n = nI (1038 + n) from nI_add 1038 n, nI_add, chk_n (by omega) (by decide), chk_n (by omega) (by decide), nm_s, nm_s, nI_c (by omega), nI_c (by omega), nI_1]
      congr 3
      funext i
      dsimp only
      rw [upd_at, if_neg (show ¬ (b ≤ 1038 + n ∧ 1038 + n < b + n) by omega)]
      by_cases q : i = b + n
      · rw [if_pos q, if_pos (by omega), show i - b = n by omega]
      · rw [if_neg q]
        by_cases q2 : b ≤ i ∧ i < b + n
        · rw [if_pos q2, if_pos (by omega)]
        · rw [if_neg q2, if_neg (by omega)]
    · subst hJ
      refine ⟨_, ?_, rfl⟩
      show f_X8_scene_S93 tape (nI b) c1 c2 c3 c4 c5 c6 c7 c8 c9 c10 c11 (nI 144) _ = _
      unfold f_X8_scene_S93
      rw [if_pos (show (144 : Int32) ≤ nI 144 by decide)]
    · refine Prod.ext rfl ?_
      funext i
      show wd i = if b ≤ i ∧ i < b + 0 then wd (1038 + (i - b)) else wd i
      rw [if_neg (by omega)]
  obtain ⟨r, er, hr⟩ := H
  rw [er, hr]
theorem t_scene : T_scene Inv := by
  intro ls_hasImage tp_bytes tp_length tp_fault tp_found tp_commands tp_at tp_size tp_grammar tp_sheets tp_slots nw_sheets nw_cells nw_pasted nw_masks nw_uses nw_slots nw_slotK nw_slotX nw_slotY nw_setting nw_scenes nw_wishes nw_frames nw_frameRows nw_seen nw_seenRows nw_width nw_hands kp_sheets kp_cells kp_pasted kp_masks kp_uses kp_slots kp_slotK kp_slotX kp_slotY kp_setting kp_scenes kp_wishes kp_frames kp_frameRows kp_seen kp_seenRows kp_width kp_hands nr_size nr_rows kr_size kr_rows m_thrown m_world m_image m_hasImage m_tape m_taped m_point m_end m_begin m_faultAt m_px m_py m_pw m_ph m_drawn m_rectangle m_hasRectangles hI
  obtain ⟨ns, nl, nc, nf, nk, nr, ⟨b1, b2, b3, b4, b5, b6⟩, ⟨rfl, rfl, rfl, rfl, rfl, rfl⟩, ⟨w0, w1, w2, w3, w4, w5, w6, w7⟩, hwd, hSh, hSl, hIn, hSc, hFr, hSe, hRu⟩ := hI.1
  obtain ⟨hSt, hIm, ⟨hT1, n, hn, hl, ht, hb⟩, hRc⟩ := hI
  subst hT1 hl ht
  have hTB := TB_of hn hb
  unfold f_X7_scene f_X8_scene f_X5_useUp f_X8_usesTape
  simp only [nm_s]
  unfold f_X8_scene_J6 f_X8_scene_J30
  rw [m_zero, bnd_s]
  have z0 : ∀ k, k < 1038 → (fun k => if 1038 ≤ k ∧ k < 1038 + 144 then 0 else m_world k) k = m_world k := fun k hk => if_neg (by omega)
  have zp : ∀ p, p < 144 → (fun k => if 1038 ≤ k ∧ k < 1038 + 144 then 0 else m_world k) (1038 + p) = nI 0 := fun p hp => if_pos (by omega)
  generalize (fun k => if 1038 ≤ k ∧ k < 1038 + 144 then 0 else m_world k) = wz at z0 zp ⊢
  obtain ⟨fd', cm, a, ec, hc⟩ := c_text (fd := tp_found) (g := 1) (sh := nI ns) (sl := nI nl) (c1 := tp_fault) (c2 := tp_commands) (c3 := tp_at) (c4 := tp_size) (c5 := tp_grammar) (c6 := tp_sheets) (c7 := tp_slots) hTB (by decide)
  obtain ⟨wd', pt, bg', px', py', pw', ph', d', em, hlo', hm⟩ := m_reads (wd := wz) (g := 1) (bg := m_begin) (fa := tp_fault) (px := m_px) (py := m_py) (pw := m_pw) (ph := m_ph) (d := m_drawn) hTB (by decide) ((z0 0 (by decide)).trans w0) ((z0 1 (by decide)).trans w1)
  have hlo : ∀ i, i < 1038 → wd' i = m_world i := fun i hi => (hlo' i hi).trans (z0 i hi)
  have hlen := rdA_len (B := fun i => (tp_bytes i).toNatClampNeg) (N := n) (g := 1) (sh := nI ns) (sl := nI nl)
  have hRV := rdA_RV (B := fun i => (tp_bytes i).toNatClampNeg) (N := n) (g := 1) (ns := ns) (nl := nl) (by decide) b1 b2
  rw [show nI 1 = (1 : Int32) from rfl] at ec em
  rw [ec, em, bnd_s]
  dsimp only
  unfold f_X8_scene_J44
  by_cases e : (rdA (fun i => (tp_bytes i).toNatClampNeg) n 1 (nI ns) (nI nl)).1 = true
  · obtain ⟨rfl, hw⟩ := hc e
    have hap := hm e
    rw [if_pos e, if_pos e, if_pos e, xb_l]
    dsimp only
    generalize (rdA (fun i => (tp_bytes i).toNatClampNeg) n 1 (nI ns) (nI nl)).2.2 = l at hlen hRV hw hap ⊢
    have h2 := aps1 l 0 (wz, m_drawn) (fun _ => 0) zp
    rw [← hap] at h2
    have e2 : wd' 2 = nI nc := (hlo 2 (by decide)).trans w2
    rw [if_pos (show (0 : Int32) ≤ nI l.length from nI_le (a := 0) (Nat.zero_le _) (by omega)), m_thr0, bnd_s, if_pos rfl, chk_eq (vp_dec0 (by decide)), show ((2 : Int32)).toNatClampNeg = 2 from rfl, e2]
    unfold f_X8_scene_J68
    by_cases z : nc = 6
    · subst z
      rw [if_pos (show nI 6 = 6 from rfl), m_thr1, bnd_s, if_neg (show ¬ (1 : Int32) = 0 by decide), if_neg (show ¬ nI 6 < 6 by decide)]
      exact Or.inr (Or.inr ⟨_, _, rfl, rfl, rfl, St_lo hSt hlo, hIm, TpO.used _ _ _, hRc⟩)
    · obtain ⟨W', e1, hW⟩ := c_addScene (fd := fd') (W := nw_wishes) (nc := nc) (by omega) hlen hw hRV
      rw [if_neg (show ¬ nI nc = 6 from mt (nI_eq (b := 6) (by omega) (by decide)).mp z), m_thr0, bnd_s, if_pos rfl, chk_eq (vp_dec0 (by decide)), nm_s, show ((2 : Int32)).toNatClampNeg = 2 from rfl, e2, show (48 : Int32) + (144 : Int32) * nI nc = nI (48 + 144 * nc) by rw [show (144 : Int32) = nI 144 from rfl, pk_mul, show (48 : Int32) = nI 48 from rfl, nI_add], if_pos (show nI nc < 6 from nI_lt (b := 6) (by omega) (by decide)), e1, bnd_s]
      unfold f_X8_scene_J93
      rw [m_scopy (by omega), bnd_s]
      unfold f_X8_scene_J124
      rw [chk_eq (vp_dec0 (by decide)), chk_eq (vp_dec0 (by decide)), nm_s, chk_eq (vp_dec0 (by decide)), show ((2 : Int32)).toNatClampNeg = 2 from rfl, upd_same]
      dsimp only
      rw [if_neg (show ¬ (48 + 144 * nc ≤ 2 ∧ 2 < 48 + 144 * nc + 144) by omega), e2, nI_1, show nI (nc + 1) - (1 : Int32) = nI nc from pk_sub (a := nc + 1) (b := 1) (by omega)]
      have lo : ∀ k, k < 1038 → k ≠ 2 → ¬ (48 + 144 * nc ≤ k ∧ k < 48 + 144 * nc + 144) → upd (fun k => if 48 + 144 * nc ≤ k ∧ k < 48 + 144 * nc + 144 then wd' (1038 + (k - (48 + 144 * nc))) else wd' k) 2 (nI (nc + 1)) k = m_world k := fun k hk h2 h3 => by
        rw [upd_ne h2, if_neg h3]
        exact hlo k hk
      refine Or.inl ⟨_, _, rfl, rfl, rfl, rfl, ⟨ns, nl, nc + 1, nf, nk, nr, ⟨b1, b2, by omega, b4, b5, b6⟩, ⟨rfl, rfl, rfl, rfl, rfl, rfl⟩, ⟨(lo 0 (by omega) (by omega) (by omega)).trans w0, (lo 1 (by omega) (by omega) (by omega)).trans w1, upd_same (fun k => if 48 + 144 * nc ≤ k ∧ k < 48 + 144 * nc + 144 then wd' (1038 + (k - (48 + 144 * nc))) else wd' k) 2 (nI (nc + 1)), (lo 3 (by omega) (by omega) (by omega)).trans w3, (lo 4 (by omega) (by omega) (by omega)).trans w4, (lo 5 (by omega) (by omega) (by omega)).trans w5, (lo 6 (by omega) (by omega) (by omega)).trans w6, (lo 7 (by omega) (by omega) (by omega)).trans w7⟩, hwd, hSh.fr b1 (fun i _ _ => lo i (by omega) (by omega) (by omega)), hSl.fr b2 (fun i _ _ => lo i (by omega) (by omega) (by omega)), hIn.fr (fun i _ _ => lo i (by omega) (by omega) (by omega)), ?_, hFr.fr b4 (fun i _ _ => lo i (by omega) (by omega) (by omega)), (hSe.mono (by omega)).fr b5 (fun i _ _ => lo i (by omega) (by omega) (by omega)), hRu.fr b6 (fun i _ _ => lo i (by omega) (by omega) (by omega))⟩, hIm, TpO.used _ _ _, hRc⟩
      refine ⟨fun c hc' p hp => ?_, fun c hc' q hq i hi => ?_⟩
      · dsimp only
        by_cases q : c = nc
        · subst q
          refine ⟨lm l p 0, lm_lt l p 0 hRV (by decide), ?_, fun u hu => hW.1 p hp u hu⟩
          rw [upd_ne (by omega), if_pos (by omega), show 48 + 144 * c + p - (48 + 144 * c) = p by omega]
          exact h2 p hp
        · obtain ⟨v, hv, g1, g2⟩ := hSc.1 c (by omega) p hp
          refine ⟨v, hv, ?_, fun u hu => ?_⟩
          · rw [lo _ (by omega) (by omega) (by omega)]; exact g1
          · rw [hW.2.2 _ (by omega)]; exact g2 u hu
      · dsimp only
        by_cases q' : c = nc
        · subst q'
          exact hW.2.1 q hq i hi
        · rw [hW.2.2 _ (by omega)]; exact hSc.2 c (by omega) q hq i hi
  · rw [if_neg e, if_neg e, if_neg e, xb_r, if_neg (show ¬ (0 : Int32) ≤ -1 by decide), m_thr1, bnd_s, if_neg (show ¬ (1 : Int32) = 0 by decide)]
    exact Or.inr (Or.inl ⟨_, _, rfl, rfl, rfl, St_lo hSt hlo, hIm, TpO.used _ _ _, hRc⟩)
