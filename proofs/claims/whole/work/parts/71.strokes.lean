/-! ===== strokes, sheet ===== -/
theorem sd_C25 {r : Nat × Nat × Nat × Nat × Nat} {d : Int32} (h : C25 d) : C25 (sd r d) := by
  unfold sd
  split
  · exact mk_C25 _
  · split
    · exact mk_C25 _
    · split
      · exact h.clear
      · exact h.or (mk_C25 _)
theorem sds_C25 : ∀ (l : List (Nat × Nat × Nat × Nat × Nat)) (d : Int32), C25 d → C25 (sds l d) := by
  intro l
  induction l with
  | nil => intro d h; exact h
  | cons r l ih => intro d h; exact ih _ (sd_C25 h)
theorem TB_of {bytes tape : Nat → Int32} {n : Nat} (hn : n ≤ 400) (h : ∀ i, i < n → ∃ b, b < 256 ∧ bytes i = nI b ∧ tape i = (nI b).toInt8.toInt32) : TB bytes tape (fun i => (bytes i).toNatClampNeg) n := ⟨hn, fun i hi => by
  obtain ⟨b, h1, h2, h3⟩ := h i hi
  have e : (bytes i).toNatClampNeg = b := by rw [h2, nI_clamp (by omega)]
  dsimp only
  rw [e]
  exact ⟨h1, h2, h3⟩⟩
theorem TpO.used (bytes tape : Nat → Int32) (f : Int32) : TpO bytes 0 f tape 0 f := ⟨rfl, 0, Nat.zero_le _, rfl, rfl, fun i hi => absurd hi (Nat.not_lt_zero i)⟩
theorem St_lo {a1 a2 a3 a4 a5 a6 a7 a8 a9 a10 a11 a12 a13 a14 a15 a16 a17 a18 a19 a20 : _} {w w' : Nat → Int32} (h : St a1 a2 a3 a4 a5 a6 a7 a8 a9 a10 a11 a12 a13 a14 a15 a16 a17 a18 a19 a20 w) (e : ∀ i, i < 1038 → w' i = w i) : St a1 a2 a3 a4 a5 a6 a7 a8 a9 a10 a11 a12 a13 a14 a15 a16 a17 a18 a19 a20 w' := by
  obtain ⟨ns, nl, nc, nf, nk, nr, ⟨b1, b2, b3, b4, b5, b6⟩, hR, ⟨w0, w1, w2, w3, w4, w5, w6, w7⟩, hwd, hSh, hSl, hIn, hSc, hFr, hSe, hRu⟩ := h
  exact ⟨ns, nl, nc, nf, nk, nr, ⟨b1, b2, b3, b4, b5, b6⟩, hR, ⟨(e 0 (by decide)).trans w0, (e 1 (by decide)).trans w1, (e 2 (by decide)).trans w2, (e 3 (by decide)).trans w3, (e 4 (by decide)).trans w4, (e 5 (by decide)).trans w5, (e 6 (by decide)).trans w6, (e 7 (by decide)).trans w7⟩, hwd, hSh.fr b1 (fun i _ _ => e i (by omega)), hSl.fr b2 (fun i _ _ => e i (by omega)), hIn.fr (fun i _ _ => e i (by omega)), hSc.fr b3 (fun i _ _ => e i (by omega)), hFr.fr b4 (fun i _ _ => e i (by omega)), hSe.fr b5 (fun i _ _ => e i (by omega)), hRu.fr b6 (fun i _ _ => e i (by omega))⟩
theorem c_text {bytes tape fd : Nat → Int32} {B : Nat → Nat} {N g : Nat} {sh sl c1 c2 c3 c4 c5 c6 c7 : Int32} (h : TB bytes tape B N) (hg : g < 3) : ∃ fd' cm a, f_X7_readText bytes c1 fd c2 c3 c4 c5 c6 c7 sh sl (nI g) (nI N) = (if (rdA B N g sh sl).1 = true then some (.inl (-1, fd', cm, a, nI N, nI g, sh, sl)) else some (.inr (0, (nI (rdA B N g sh sl).2.1, fd', cm, a, nI N, nI g, sh, sl)))) ∧ ((rdA B N g sh sl).1 = true → cm = nI (rdA B N g sh sl).2.2.length ∧ ∀ i r, (rdA B N g sh sl).2.2[i]? = some r → RW g fd' i r) := by
  obtain ⟨fd', cm, a, e1, e3, e2⟩ := c_parse (fd := fd) (sh := sh) (sl := sl) h hg
  refine ⟨fd', cm, a, ?_, e2⟩
  unfold f_X7_readText f_X5_open
  rw [nm_s]
  dsimp only
  rw [e1, bnd_s]
  dsimp only
  cases e : (rdA B N g sh sl).1 with
  | true => rw [if_neg (show ¬ b2 true = 0 by decide), if_pos rfl]
  | false => rw [if_pos (show b2 false = 0 from rfl), if_neg (by decide), e3 e]
theorem c_strokedA {fd : Nat → Int32} {ns nl : Nat} {l : List (Nat × Nat × Nat × Nat × Nat)} {d : Int32} (hl : l.length ≤ 20) (hw : ∀ i r, l[i]? = some r → RW 0 fd i r) (hv : ∀ r, r ∈ l → RV 0 ns nl r) : f_X5_stroked fd (nI l.length) d = some (sds l d) := by
  unfold f_X5_stroked f_X5_stroked_J4
  rw [show lp (fun q => f_X5_stroked_S4 fd (nI l.length) d q.1 q.2) (d, (0 : Int32)) = some (sds l d) from c_stroked l 0 l.length d d (Nat.zero_add _) hl (fun i r hr => by rw [Nat.zero_add]; exact hw i r hr) hv, bnd_s]
  rfl
theorem ShO.put2 {ns j : Nat} {a b c d w : Nat → Int32} (h : ShO ns a b c d w) (hj : j < ns) (v : Int32) (hv : C25 v) : ShO ns (upd a j v) (upd b j v) c d (upd (upd w (8 + 4 * j + 1) v) (8 + 4 * j + 2) v) := fun s hs => by
  obtain ⟨q1, q2, q3, q4, q5, q6, q7⟩ := h s hs
  by_cases e : s = j
  · subst e
    refine ⟨?_, ?_, ?_, ?_, by rw [upd_same]; exact hv, by rw [upd_same]; exact hv, q7⟩
    · rw [upd_ne (by omega), upd_ne (by omega)]; exact q1
    · rw [upd_ne (by omega), upd_same, upd_same]
    · rw [upd_same, upd_same]
    · rw [upd_ne (by omega), upd_ne (by omega)]; exact q4
  · refine ⟨?_, ?_, ?_, ?_, by rw [upd_ne e]; exact q5, by rw [upd_ne e]; exact q6, q7⟩
    · rw [upd_ne (by omega), upd_ne (by omega)]; exact q1
    · rw [upd_ne (by omega), upd_ne (by omega), upd_ne e]; exact q2
    · rw [upd_ne (by omega), upd_ne (by omega), upd_ne e]; exact q3
    · rw [upd_ne (by omega), upd_ne (by omega)]; exact q4
theorem t_strokes : T_strokes Inv := by
  intro ls_hasImage tp_bytes tp_length tp_fault tp_found tp_commands tp_at tp_size tp_grammar tp_sheets tp_slots nw_sheets nw_cells nw_pasted nw_masks nw_uses nw_slots nw_slotK nw_slotX nw_slotY nw_setting nw_scenes nw_wishes nw_frames nw_frameRows nw_seen nw_seenRows nw_width nw_hands kp_sheets kp_cells kp_pasted kp_masks kp_uses kp_slots kp_slotK kp_slotX kp_slotY kp_setting kp_scenes kp_wishes kp_frames kp_frameRows kp_seen kp_seenRows kp_width kp_hands nr_size nr_rows kr_size kr_rows m_thrown m_world m_image m_hasImage m_tape m_taped m_point m_end m_begin m_faultAt m_px m_py m_pw m_ph m_drawn m_rectangle m_hasRectangles hI a0
  obtain ⟨ns, nl, nc, nf, nk, nr, ⟨b1, b2, b3, b4, b5, b6⟩, ⟨rfl, rfl, rfl, rfl, rfl, rfl⟩, ⟨w0, w1, w2, w3, w4, w5, w6, w7⟩, hwd, hSh, hSl, hIn, hSc, hFr, hSe, hRu⟩ := hI.1
  obtain ⟨hSt, hIm, ⟨hT1, n, hn, hl, ht, hb⟩, hRc⟩ := hI
  subst hT1 hl ht
  have hTB := TB_of hn hb
  unfold f_X7_strokes f_X8_strokes f_X5_useUp f_X8_usesTape
  simp only [nm_s]
  rcases pk_ix a0 (n := ns) (by omega) with h | h | ⟨j, hj, rfl⟩
  · rw [c_needSheet_no (by omega) (Or.inl h), xb_r, m_noSheet_no b1 w0 (Or.inl h), bnd_s, m_thr1, bnd_s, if_neg (by decide)]
    exact Or.inr (Or.inr (Or.inr ⟨_, _, rfl, rfl, rfl, hSt, hIm, TpO.used _ _ _, hRc⟩))
  · rw [c_needSheet_no (by omega) (Or.inr h), xb_r, m_noSheet_no b1 w0 (Or.inr h), bnd_s, m_thr1, bnd_s, if_neg (by decide)]
    exact Or.inr (Or.inr (Or.inr ⟨_, _, rfl, rfl, rfl, hSt, hIm, TpO.used _ _ _, hRc⟩))
  · obtain ⟨q1, q2, q3, q4, q5, q6, q7⟩ := hSh j hj
    obtain ⟨fd', cm, a, ec, hc⟩ := c_text (fd := tp_found) (g := 0) (sh := nI ns) (sl := nI nl) (c1 := tp_fault) (c2 := tp_commands) (c3 := tp_at) (c4 := tp_size) (c5 := tp_grammar) (c6 := tp_sheets) (c7 := tp_slots) hTB (by decide)
    obtain ⟨wd', pt, bg', px', py', pw', ph', d', em, hlo, hm⟩ := m_reads (g := 0) (bg := m_begin) (fa := tp_fault) (px := m_px) (py := m_py) (pw := m_pw) (ph := m_ph) (d := nw_cells j) hTB (by decide) w0 w1
    have hlen := rdA_len (B := fun i => (tp_bytes i).toNatClampNeg) (N := n) (g := 0) (sh := nI ns) (sl := nI nl)
    have hRV := rdA_RV (B := fun i => (tp_bytes i).toNatClampNeg) (N := n) (g := 0) (ns := ns) (nl := nl) (by decide) b1 b2
    rw [show nI 0 = (0 : Int32) from rfl] at ec em
    rw [c_needSheet_yes (by omega) hj, xb_l, ec, m_noSheet_yes b1 w0 hj, bnd_s, m_thr0, bnd_s, if_pos rfl, m_of1 (by omega), bnd_s, q2, em, bnd_s]
    dsimp only
    by_cases e : (rdA (fun i => (tp_bytes i).toNatClampNeg) n 0 (nI ns) (nI nl)).1 = true
    · obtain ⟨rfl, hw⟩ := hc e
      obtain ⟨rfl, rfl⟩ := Prod.mk.inj ((hm e).trans (aps0 _ _ _))
      have hC := sds_C25 (rdA (fun i => (tp_bytes i).toNatClampNeg) n 0 (nI ns) (nI nl)).2.2 _ q5
      rw [if_pos e, if_pos e, if_pos e, xb_l]
      dsimp only
      rw [chk_n (by omega) (by decide), nI_clamp (by omega), c_strokedA hlen hw hRV, bnd_s, c_fallen hC, bnd_s, if_pos (show (0 : Int32) ≤ nI (rdA (fun i => (tp_bytes i).toNatClampNeg) n 0 (nI ns) (nI nl)).2.2.length from nI_le (a := 0) (Nat.zero_le _) (by omega))]
      unfold f_X8_strokes_J45
      rw [m_thr0, bnd_s, if_pos rfl, m_looseOf hC, bnd_s]
      unfold f_X8_strokes_J68
      by_cases z : fal (sds (rdA (fun i => (tp_bytes i).toNatClampNeg) n 0 (nI ns) (nI nl)).2.2 (nw_cells j)) = 0
      · rw [if_pos z, if_pos z, chk_n (by omega) (by decide), chk_n (by omega) (by decide), chk_n (by omega) (by decide), m_thr0, bnd_s, if_pos rfl, m_sets1 (by omega), bnd_s, m_sets2 (by omega), bnd_s, Int32.xor_comm (nw_cells j)]
        refine Or.inl ⟨_, _, rfl, rfl, rfl, rfl, ⟨ns, nl, nc, nf, nk, nr, ⟨b1, b2, b3, b4, b5, b6⟩, ⟨rfl, rfl, rfl, rfl, rfl, rfl⟩, ?_, hwd, hSh.put2 hj _ hC, hSl.fr b2 (fun i _ _ => by dsimp only; rw [upd_ne (by omega), upd_ne (by omega)]), hIn.fr (fun i _ _ => by dsimp only; rw [upd_ne (by omega), upd_ne (by omega)]), hSc.fr b3 (fun i _ _ => by dsimp only; rw [upd_ne (by omega), upd_ne (by omega)]), hFr.fr b4 (fun i _ _ => by dsimp only; rw [upd_ne (by omega), upd_ne (by omega)]), hSe.fr b5 (fun i _ _ => by dsimp only; rw [upd_ne (by omega), upd_ne (by omega)]), hRu.fr b6 (fun i _ _ => by dsimp only; rw [upd_ne (by omega), upd_ne (by omega)])⟩, hIm, TpO.used _ _ _, hRc⟩
        dsimp only
        repeat rw [upd_ne (by omega)]
        exact ⟨w0, w1, w2, w3, w4, w5, w6, w7⟩
      · rw [if_neg z, if_neg z, m_thr1, bnd_s, if_neg (by decide)]
        exact Or.inr (Or.inr (Or.inl ⟨_, _, rfl, rfl, rfl, hSt, hIm, TpO.used _ _ _, hRc⟩))
    · rw [if_neg e, if_neg e, if_neg e, xb_r, if_neg (show ¬ (0 : Int32) ≤ -1 by decide)]
      unfold f_X8_strokes_J45
      rw [m_thr1, bnd_s, if_neg (by decide)]
      exact Or.inr (Or.inl ⟨_, _, rfl, rfl, rfl, St_lo hSt hlo, hIm, TpO.used _ _ _, hRc⟩)
theorem ShO.add {ns : Nat} {a b c d w : Nat → Int32} (h : ShO ns a b c d w) (hn : ns < 6) {m x : Int32} (v : Int32) (hv : C25 v) (hm : ∃ k, k < 8 ∧ m = nI k) : ShO (ns + 1) (upd a ns v) (upd b ns v) (upd c ns m) (upd d ns 0) (upd (upd (upd (upd (upd w (8 + 4 * ns + 0) m) (8 + 4 * ns + 1) v) (8 + 4 * ns + 2) v) (8 + 4 * ns + 3) 0) 0 x) := fun s hs => by
  by_cases e : s = ns
  · subst e
    refine ⟨?_, ?_, ?_, ?_, by rw [upd_same]; exact hv, by rw [upd_same]; exact hv, by rw [upd_same]; exact hm⟩
    · rw [upd_ne (by omega), upd_ne (by omega), upd_ne (by omega), upd_ne (by omega), Nat.add_zero, upd_same, upd_same]
    · rw [upd_ne (by omega), upd_ne (by omega), upd_ne (by omega), upd_same, upd_same]
    · rw [upd_ne (by omega), upd_ne (by omega), upd_same, upd_same]
    · rw [upd_ne (by omega), upd_same, upd_same]
  · obtain ⟨q1, q2, q3, q4, q5, q6, q7⟩ := h s (by omega)
    refine ⟨?_, ?_, ?_, ?_, by rw [upd_ne e]; exact q5, by rw [upd_ne e]; exact q6, by rw [upd_ne e]; exact q7⟩
    · rw [upd_ne (by omega), upd_ne (by omega), upd_ne (by omega), upd_ne (by omega), upd_ne (by omega), upd_ne e]; exact q1
    · rw [upd_ne (by omega), upd_ne (by omega), upd_ne (by omega), upd_ne (by omega), upd_ne (by omega), upd_ne e]; exact q2
    · rw [upd_ne (by omega), upd_ne (by omega), upd_ne (by omega), upd_ne (by omega), upd_ne (by omega), upd_ne e]; exact q3
    · rw [upd_ne (by omega), upd_ne (by omega), upd_ne (by omega), upd_ne (by omega), upd_ne (by omega), upd_ne e]; exact q4
theorem within7 (a : Int32) : (f_X8_within a 1 7 = 0 ∧ (a < 1 ∨ (¬ a < 1 ∧ ¬ a ≤ 7))) ∨ (f_X8_within a 1 7 = 1 ∧ ¬ a < 1 ∧ a ≤ 7 ∧ ∃ k, k < 8 ∧ a = nI k) := by
  unfold f_X8_within
  by_cases h1 : a < 1
  · rw [if_pos h1]; exact Or.inl ⟨rfl, Or.inl h1⟩
  · rw [if_neg h1]
    have g1 : ¬ a.toInt < 1 := fun z => h1 (lt_i.mpr z)
    by_cases h2 : (7 : Int32) < a
    · rw [if_pos h2]
      have g2 : (7 : Int) < a.toInt := lt_i.mp h2
      exact Or.inl ⟨rfl, Or.inr ⟨h1, fun z => by have g3 : a.toInt ≤ 7 := le_i.mp z; omega⟩⟩
    · rw [if_neg h2]
      have g2 : ¬ (7 : Int) < a.toInt := fun z => h2 (lt_i.mpr z)
      refine Or.inr ⟨rfl, h1, le_i.mpr (by show a.toInt ≤ 7; omega), a.toInt.toNat, by omega, ?_⟩
      rw [eq_i, nI_toInt (by omega)]
      omega
theorem t_sheet : T_sheet Inv := by
  intro ls_hasImage tp_bytes tp_length tp_fault tp_found tp_commands tp_at tp_size tp_grammar tp_sheets tp_slots nw_sheets nw_cells nw_pasted nw_masks nw_uses nw_slots nw_slotK nw_slotX nw_slotY nw_setting nw_scenes nw_wishes nw_frames nw_frameRows nw_seen nw_seenRows nw_width nw_hands kp_sheets kp_cells kp_pasted kp_masks kp_uses kp_slots kp_slotK kp_slotX kp_slotY kp_setting kp_scenes kp_wishes kp_frames kp_frameRows kp_seen kp_seenRows kp_width kp_hands nr_size nr_rows kr_size kr_rows m_thrown m_world m_image m_hasImage m_tape m_taped m_point m_end m_begin m_faultAt m_px m_py m_pw m_ph m_drawn m_rectangle m_hasRectangles hI a0
  obtain ⟨ns, nl, nc, nf, nk, nr, ⟨b1, b2, b3, b4, b5, b6⟩, ⟨rfl, rfl, rfl, rfl, rfl, rfl⟩, ⟨w0, w1, w2, w3, w4, w5, w6, w7⟩, hwd, hSh, hSl, hIn, hSc, hFr, hSe, hRu⟩ := hI.1
  obtain ⟨hSt, hIm, ⟨hT1, n, hn, hl, ht, hb⟩, hRc⟩ := hI
  subst hT1 hl ht
  have hTB := TB_of hn hb
  unfold f_X7_sheet f_X8_sheet f_X5_useUp f_X8_usesTape
  simp only [nm_s]
  rcases within7 a0 with ⟨e0, ho⟩ | ⟨e0, h1, h7, hk⟩
  · rw [e0, if_pos rfl]
    unfold f_X8_sheet_J25
    rw [if_neg (show ¬ (1 : Int32) = 0 by decide)]
    unfold f_X8_sheet_J35
    rw [if_neg (show ¬ (1 : Int32) = 0 by decide)]
    unfold f_X8_sheet_J48 f_X8_sheet_J53
    rw [m_thr1, bnd_s, if_neg (show ¬ (1 : Int32) = 0 by decide)]
    rcases ho with h | ⟨h, h'⟩
    · rw [if_pos h]
      exact Or.inr (Or.inl ⟨_, _, rfl, rfl, rfl, hSt, hIm, TpO.used _ _ _, hRc⟩)
    · rw [if_neg h, if_neg h']
      exact Or.inr (Or.inl ⟨_, _, rfl, rfl, rfl, hSt, hIm, TpO.used _ _ _, hRc⟩)
  · obtain ⟨fd', cm, a, ec, hc⟩ := c_text (fd := tp_found) (g := 0) (sh := nI ns) (sl := nI nl) (c1 := tp_fault) (c2 := tp_commands) (c3 := tp_at) (c4 := tp_size) (c5 := tp_grammar) (c6 := tp_sheets) (c7 := tp_slots) hTB (by decide)
    obtain ⟨wd', pt, bg', px', py', pw', ph', d', em, hlo, hm⟩ := m_reads (g := 0) (bg := m_begin) (fa := tp_fault) (px := m_px) (py := m_py) (pw := m_pw) (ph := m_ph) (d := 33554431) hTB (by decide) w0 w1
    have hlen := rdA_len (B := fun i => (tp_bytes i).toNatClampNeg) (N := n) (g := 0) (sh := nI ns) (sl := nI nl)
    have hRV := rdA_RV (B := fun i => (tp_bytes i).toNatClampNeg) (N := n) (g := 0) (ns := ns) (nl := nl) (by decide) b1 b2
    rw [show nI 0 = (0 : Int32) from rfl] at ec em
    rw [e0, if_neg (show ¬ (1 : Int32) = 0 by decide), if_neg h1, if_pos h7, ec]
    unfold f_X8_sheet_J25
    rw [if_pos rfl]
    unfold f_X8_sheet_J35
    rw [if_pos rfl, em, bnd_s]
    dsimp only
    by_cases e : (rdA (fun i => (tp_bytes i).toNatClampNeg) n 0 (nI ns) (nI nl)).1 = true
    · obtain ⟨rfl, hw⟩ := hc e
      obtain ⟨rfl, rfl⟩ := Prod.mk.inj ((hm e).trans (aps0 _ _ _))
      have hC := sds_C25 (rdA (fun i => (tp_bytes i).toNatClampNeg) n 0 (nI ns) (nI nl)).2.2 _ C25.all
      rw [if_pos e, if_pos e, if_pos e, xb_l]
      dsimp only
      rw [if_pos (show (0 : Int32) ≤ nI (rdA (fun i => (tp_bytes i).toNatClampNeg) n 0 (nI ns) (nI nl)).2.2.length from nI_le (a := 0) (Nat.zero_le _) (by omega))]
      unfold f_X8_sheet_J53
      rw [m_thr0, bnd_s, if_pos rfl, m_sheets, w0, bnd_s]
      unfold f_X8_sheet_J75
      by_cases z : ns = 6
      · subst z
        rw [if_pos (show nI 6 = 6 from rfl), m_thr1, bnd_s, if_neg (show ¬ (1 : Int32) = 0 by decide), if_neg (show ¬ nI 6 < 6 by decide)]
        exact Or.inr (Or.inr ⟨_, _, rfl, rfl, rfl, hSt, hIm, TpO.used _ _ _, hRc⟩)
      · rw [if_neg (show ¬ nI ns = 6 from mt (nI_eq (b := 6) (by omega) (by decide)).mp z), m_thr0, bnd_s, if_pos rfl, m_sheets, w0, bnd_s, m_sets0 (by omega), bnd_s, m_sets1 (by omega), bnd_s, m_sets2 (by omega), bnd_s, m_sets3 (by omega), bnd_s, if_pos (show nI ns < 6 from nI_lt (b := 6) (by omega) (by decide)), c_strokedA hlen hw hRV, bnd_s]
        unfold f_X4_addSheet
        rw [chk_n (by omega) (by decide), nm_s, chk_n (by omega) (by decide), nm_s, chk_n (by omega) (by decide), nm_s, chk_n (by omega) (by decide), nm_s, nm_s, bnd_s, nI_clamp (by omega), nI_1, show nI (ns + 1) - (1 : Int32) = nI ns from pk_sub (a := ns + 1) (b := 1) (by omega), show ((0 : Int32)).toNatClampNeg = 0 from rfl]
        refine Or.inl ⟨_, _, rfl, rfl, rfl, rfl, ⟨ns + 1, nl, nc, nf, nk, nr, ⟨by omega, b2, b3, b4, b5, b6⟩, ⟨rfl, rfl, rfl, rfl, rfl, rfl⟩, ?_, hwd, hSh.add (by omega) _ hC hk, hSl.fr b2 (fun i _ _ => by dsimp only; rw [upd_ne (by omega), upd_ne (by omega), upd_ne (by omega), upd_ne (by omega), upd_ne (by omega)]), (hIn.mono (by omega) (by omega)).fr (fun i _ _ => by dsimp only; rw [upd_ne (by omega), upd_ne (by omega), upd_ne (by omega), upd_ne (by omega), upd_ne (by omega)]), hSc.fr b3 (fun i _ _ => by dsimp only; rw [upd_ne (by omega), upd_ne (by omega), upd_ne (by omega), upd_ne (by omega), upd_ne (by omega)]), (hFr.mono (by omega) (by omega)).fr b4 (fun i _ _ => by dsimp only; rw [upd_ne (by omega), upd_ne (by omega), upd_ne (by omega), upd_ne (by omega), upd_ne (by omega)]), hSe.fr b5 (fun i _ _ => by dsimp only; rw [upd_ne (by omega), upd_ne (by omega), upd_ne (by omega), upd_ne (by omega), upd_ne (by omega)]), (hRu.mono (by omega) (by omega)).fr b6 (fun i _ _ => by dsimp only; rw [upd_ne (by omega), upd_ne (by omega), upd_ne (by omega), upd_ne (by omega), upd_ne (by omega)])⟩, hIm, TpO.used _ _ _, hRc⟩
        dsimp only
        rw [upd_same]
        repeat rw [upd_ne (by omega)]
        exact ⟨by rw [w0, nI_1], w1, w2, w3, w4, w5, w6, w7⟩
    · rw [if_neg e, if_neg e, if_neg e, xb_r, if_neg (show ¬ (0 : Int32) ≤ -1 by decide)]
      unfold f_X8_sheet_J48 f_X8_sheet_J53
      rw [m_thr1, bnd_s, if_neg (show ¬ (1 : Int32) = 0 by decide)]
      exact Or.inr (Or.inl ⟨_, _, rfl, rfl, rfl, St_lo hSt hlo, hIm, TpO.used _ _ _, hRc⟩)
