/-! ===== slots, what is set, counts ===== -/
theorem Set4.nn {ns nl : Nat} {f : Nat → Int32} (h : Set4 ns nl f) (hn : ns < 100) {l : Nat} (hl : l < 4) : f l < 0 ↔ f l = -1 := by
  rcases h.1 l hl with e | ⟨_, s, hs, e⟩
  · rw [e]; decide
  · rw [e]
    exact ⟨fun q => absurd q (nI_pos (by omega)), fun q => absurd q (nI_m1 (by omega))⟩
def cnt4 (f : Nat → Int32) : Nat → Int32
  | 0 => 0
  | n + 1 => cnt4 f n + (if f n = -1 then 0 else 1)
theorem c_sheetsIn (f : Nat → Int32) : f_X4_sheetsIn f 4 = some (cnt4 f 4) := by
  unfold f_X4_sheetsIn f_X4_sheetsIn_J4
  refine (bnd_eq (lp_run' (fun k => (cnt4 f k, nI k)) (r := cnt4 f 4) 4 rfl (fun k hk => ?_) rfl)).trans rfl
  show f_X4_sheetsIn_S4 f 4 (cnt4 f k) (nI k) = _
  unfold f_X4_sheetsIn_S4
  rw [if_neg (ge_4 hk), chk_n hk (by decide), nI_clamp (by omega)]
  by_cases q : f k = -1
  · rw [if_pos q]
    show some (Sum.inl (cnt4 f k, nI k + 1)) = some (Sum.inl (cnt4 f k + _, nI (k + 1)))
    rw [if_pos q, nI_1, Int32.add_zero]
  · rw [if_neg q]
    show some (Sum.inl (cnt4 f k + 1, nI k + 1)) = some (Sum.inl (cnt4 f k + _, nI (k + 1)))
    rw [if_neg q, nI_1]
theorem cnt4_ext {ns nl : Nat} {f : Nat → Int32} (h : Set4 ns nl f) : ∀ d, nl + d ≤ 4 → cnt4 f (nl + d) = cnt4 f nl := by
  intro d
  induction d with
  | zero => intro _; rfl
  | succ d ih =>
    intro hd
    show cnt4 f (nl + d) + (if f (nl + d) = -1 then 0 else 1) = _
    rcases h.1 (nl + d) (by omega) with e | ⟨e, _⟩
    · rw [if_pos e, ih (by omega)]; exact Int32.add_zero _
    · omega
theorem cnt4_cong {f g : Nat → Int32} (h : ∀ l, l < 4 → f l = g l) : ∀ n, n ≤ 4 → cnt4 f n = cnt4 g n := by
  intro n
  induction n with
  | zero => intro _; rfl
  | succ n ih =>
    intro hn
    show cnt4 f n + _ = cnt4 g n + _
    rw [ih (by omega), h n (by omega)]
theorem m_many {w f : Nat → Int32} {ns nl : Nat} (h1 : w 1 = nI nl) (h4 : nl ≤ 4) (hn : ns < 100) (hf : Set4 ns nl f) : f_X8_many w f = some (cnt4 f 4) := by
  rw [show (4 : Nat) = nl + (4 - nl) by omega, cnt4_ext hf _ (by omega)]
  unfold f_X8_many f_X8_many_J4
  refine (bnd_eq (lp_run' (fun k => (cnt4 f k, nI k)) (r := cnt4 f nl) nl rfl (fun k hk => ?_) ?_)).trans rfl
  · show f_X8_many_S4 w f (cnt4 f k) (nI k) = _
    unfold f_X8_many_S4
    rw [m_slots, bnd_s, h1, if_neg (nI_ge hk (by omega)), chk_n (by omega) (by decide), nI_clamp (by omega)]
    by_cases q : f k = -1
    · rw [if_pos ((hf.nn hn (by omega)).mpr q)]
      show some (Sum.inl (cnt4 f k + 0, nI k + 1)) = some (Sum.inl (cnt4 f k + _, nI (k + 1)))
      rw [if_pos q, nI_1]
    · rw [if_neg (mt (hf.nn hn (by omega)).mp q)]
      show some (Sum.inl (cnt4 f k + 1, nI k + 1)) = some (Sum.inl (cnt4 f k + _, nI (k + 1)))
      rw [if_neg q, nI_1]
  · show f_X8_many_S4 w f (cnt4 f nl) (nI nl) = _
    unfold f_X8_many_S4
    rw [m_slots, bnd_s, h1, if_pos (Int32.le_refl _)]
noncomputable def dks (cells : Nat → Int32) : Nat → Int32
  | 0 => 0
  | n + 1 => dks cells n + f_J6_bitCount_0f7a4 (cells n)
theorem c_darkCells {cells : Nat → Int32} {ns : Nat} (h : ns ≤ 6) : f_X4_darkCells (nI ns) cells = some (dks cells ns) := by
  unfold f_X4_darkCells f_X4_darkCells_J4
  refine (bnd_eq (lp_run' (fun k => (dks cells k, nI k)) (r := dks cells ns) ns rfl (fun k hk => ?_) ?_)).trans rfl
  · show f_X4_darkCells_S4 (nI ns) cells (dks cells k) (nI k) = _
    unfold f_X4_darkCells_S4
    rw [if_neg (nI_ge hk (by omega)), chk_n (by omega) (by decide), nI_clamp (by omega), nm_s, nm_s, nm_s, nI_1]
    rfl
  · show f_X4_darkCells_S4 (nI ns) cells (dks cells ns) (nI ns) = _
    unfold f_X4_darkCells_S4
    rw [if_pos (Int32.le_refl _)]
theorem m_dark {w st : Nat → Int32} {cells pasted masks uses : Nat → Int32} {a t : Int32} {ns : Nat} (h : ns ≤ 6) (h0 : w 0 = nI ns) (hS : ShO ns cells pasted masks uses w) : lp (fun q => f_X8_count_S121 w a t st q.1 q.2) ((0 : Int32), (0 : Int32)) = some (dks cells ns) := by
  refine lp_run' (fun k => (dks cells k, nI k)) (r := dks cells ns) ns rfl (fun k hk => ?_) ?_
  · show f_X8_count_S121 w a t st (dks cells k) (nI k) = _
    unfold f_X8_count_S121
    rw [m_sheets, bnd_s, h0, if_neg (nI_ge hk (by omega)), show (1 : Int32) = nI 1 from rfl, m_of (by omega) (by decide), bnd_s, nm_s, nm_s, nm_s, nI_add, (hS k hk).2.1]
    rfl
  · show f_X8_count_S121 w a t st (dks cells ns) (nI ns) = _
    unfold f_X8_count_S121
    rw [m_sheets, bnd_s, h0, if_pos (Int32.le_refl _)]
theorem t_count : T_count Inv := by
  intro ls_hasImage tp_bytes tp_length tp_fault nw_sheets nw_cells nw_pasted nw_masks nw_uses nw_slots nw_slotK nw_slotX nw_slotY nw_setting nw_scenes nw_wishes nw_frames nw_frameRows nw_seen nw_seenRows nw_width nw_hands kp_sheets kp_cells kp_pasted kp_masks kp_uses kp_slots kp_slotK kp_slotX kp_slotY kp_setting kp_scenes kp_wishes kp_frames kp_frameRows kp_seen kp_seenRows kp_width kp_hands nr_size nr_rows kr_size kr_rows m_thrown m_world m_image m_hasImage m_tape m_taped m_faultAt m_rectangle m_hasRectangles m_setting hI a0
  obtain ⟨ns, nl, nc, nf, nk, nr, ⟨b1, b2, b3, b4, b5, b6⟩, ⟨rfl, rfl, rfl, rfl, rfl, rfl⟩, ⟨w0, w1, w2, w3, w4, w5, w6, w7⟩, hwd, hSh, hSl, hIn, hSc, hFr, hSe, hRu⟩ := hI.1
  unfold f_X7_count f_X8_count
  by_cases c0 : a0 = 0
  · rw [if_pos c0, if_pos c0, m_sheets, bnd_s, w0]; exact ⟨_, _, rfl, rfl, rfl, hI⟩
  rw [if_neg c0, if_neg c0]
  by_cases c1 : a0 = 1
  · rw [if_pos c1, if_pos c1, m_slots, bnd_s, w1]; exact ⟨_, _, rfl, rfl, rfl, hI⟩
  rw [if_neg c1, if_neg c1]
  by_cases c2 : a0 = 2
  · rw [if_pos c2, if_pos c2, ck2, tn2, w2]; exact ⟨_, _, rfl, rfl, rfl, hI⟩
  rw [if_neg c2, if_neg c2]
  by_cases c3 : a0 = 3
  · rw [if_pos c3, if_pos c3, ck3, tn3, w3]; exact ⟨_, _, rfl, rfl, rfl, hI⟩
  rw [if_neg c3, if_neg c3]
  by_cases c4 : a0 = 4
  · rw [if_pos c4, if_pos c4, ck4, tn4, w4]; exact ⟨_, _, rfl, rfl, rfl, hI⟩
  rw [if_neg c4, if_neg c4]
  by_cases c5 : a0 = 5
  · rw [if_pos c5, if_pos c5, ck5, tn5, w5]; exact ⟨_, _, rfl, rfl, rfl, hI⟩
  rw [if_neg c5, if_neg c5]
  by_cases c6 : a0 = 6
  · rw [if_pos c6, if_pos c6, ck6, tn6, w6]; exact ⟨_, _, rfl, rfl, rfl, hI⟩
  rw [if_neg c6, if_neg c6]
  by_cases c7 : a0 = 7
  · obtain ⟨u1, e1, h1⟩ := m_takes (w := m_world) (st := m_setting)
    have h1' : ∀ l, l < 4 → u1 l = nw_setting l := fun l hl => (h1 l hl).trans (hIn.2 l hl)
    rw [if_pos c7, if_pos c7, c_sheetsIn, e1, bnd_s, bnd_s, m_many w1 b2 (by omega) (hIn.1.cong h1'), bnd_s, cnt4_cong h1' 4 (by decide)]; exact ⟨_, _, rfl, rfl, rfl, hI⟩
  rw [if_neg c7, if_neg c7]
  by_cases c8 : a0 = 8
  · unfold f_X8_count_J121 f_X8_count_J147
    rw [if_pos c8, if_pos c8, c_darkCells b1, bnd_s, m_dark b1 w0 hSh, bnd_s]; exact ⟨_, _, rfl, rfl, rfl, hI⟩
  rw [if_neg c8, if_neg c8]
  by_cases c9 : a0 = 9
  · rw [if_pos c9, if_pos c9, ck7, tn7, w7]; exact ⟨_, _, rfl, rfl, rfl, hI⟩
  rw [if_neg c9, if_neg c9]
  exact ⟨_, _, rfl, rfl, rfl, hI⟩
theorem t_slot : T_slot Inv := by
  intro ls_hasImage tp_bytes tp_length tp_fault nw_sheets nw_cells nw_pasted nw_masks nw_uses nw_slots nw_slotK nw_slotX nw_slotY nw_setting nw_scenes nw_wishes nw_frames nw_frameRows nw_seen nw_seenRows nw_width nw_hands kp_sheets kp_cells kp_pasted kp_masks kp_uses kp_slots kp_slotK kp_slotX kp_slotY kp_setting kp_scenes kp_wishes kp_frames kp_frameRows kp_seen kp_seenRows kp_width kp_hands nr_size nr_rows kr_size kr_rows m_thrown m_world m_image m_hasImage m_tape m_taped m_faultAt m_rectangle m_hasRectangles hI a0 a1 a2
  obtain ⟨ns, nl, nc, nf, nk, nr, ⟨b1, b2, b3, b4, b5, b6⟩, ⟨rfl, rfl, rfl, rfl, rfl, rfl⟩, ⟨w0, w1, w2, w3, w4, w5, w6, w7⟩, hwd, hSh, hSl, hIn, hSc, hFr, hSe, hRu⟩ := hI.1
  have z1 : (1 : Int32).toInt = 1 := rfl
  have z3 : (3 : Int32).toInt = 3 := rfl
  have z12 : (12 : Int32).toInt = 12 := rfl
  have zm : (-12 : Int32).toInt = -12 := rfl
  by_cases h : (1 ≤ a0.toInt ∧ a0.toInt ≤ 3) ∧ (-12 ≤ a1.toInt ∧ a1.toInt ≤ 12) ∧ (-12 ≤ a2.toInt ∧ a2.toInt ≤ 12)
  · obtain ⟨q1, q2, q3⟩ := h
    have ec : f_X7_slot (nI nl) nw_slotK nw_slotX nw_slotY a0 a1 a2 = if nI nl < (4 : Int32) then bnd (f_X4_addSlot (nI nl) nw_slotK nw_slotX nw_slotY a0 a1 a2) (fun u1 => some (.inl (u1.1, u1.2.1, u1.2.2.1, u1.2.2.2.1, u1.2.2.2.2))) else some (.inr (3, (nI nl, nw_slotK, nw_slotX, nw_slotY))) := by
      unfold f_X7_slot
      rw [if_neg (by rw [lt_i]; omega), if_neg (by rw [lt_i]; omega), if_neg (by rw [lt_i]; omega), if_neg (by rw [lt_i]; omega), if_neg (by rw [lt_i]; omega), if_pos (by rw [le_i]; omega)]
    have em : f_X8_slot m_thrown m_world a0 a1 a2 = f_X8_slot_J42 a0 a1 a2 0 0 m_world := by
      unfold f_X8_slot
      rw [nm_s, wi_yes (by omega), if_neg (by decide), nm_s, wi_yes (by omega), if_neg (by decide), nm_s, wi_yes (by omega), if_neg (by decide)]
    rw [ec, em]
    unfold f_X8_slot_J42
    rw [m_thr0, bnd_s, if_pos rfl, m_slots, bnd_s, w1]
    by_cases h4 : nl < 4
    · rw [if_pos (lt_4 h4), if_neg (mt (eq_4 (by omega)).mp (by omega))]
      have ea : f_X4_addSlot (nI nl) nw_slotK nw_slotX nw_slotY a0 a1 a2 = some (nI nl, nI (nl + 1), upd nw_slotK nl a0, upd nw_slotX nl a1, upd nw_slotY nl a2) := by
        unfold f_X4_addSlot
        rw [chk_n h4 (by decide), nm_s, chk_n h4 (by decide), nm_s, chk_n h4 (by decide), nm_s, nm_s, nI_clamp (by omega), nI_1, nI_pred]
      have eb : f_X8_slot_J63 a0 a1 a2 0 0 m_world = some (nI nl, 0, upd (upd (upd (upd m_world (32 + 3 * nl) a0) (32 + 3 * nl + 1) a1) (32 + 3 * nl + 2) a2) 1 (nI (nl + 1))) := by
        unfold f_X8_slot_J63
        rw [m_thr0, bnd_s, if_pos rfl, m_slots, bnd_s, w1, nm_s, show (32 : Int32) + (3 : Int32) * nI nl = nI (32 + 3 * nl) by rw [show (3 : Int32) = nI 3 from rfl, pk_mul, show (32 : Int32) = nI 32 from rfl, nI_add], chk_n (by omega) (by decide), nm_s, nI_clamp (by omega), nI_1, chk_n (by omega) (by decide), nm_s, nI_clamp (by omega), show nI (32 + 3 * nl) + 2 = nI (32 + 3 * nl + 2) from nI_add _ 2, chk_n (by omega) (by decide), nm_s, nI_clamp (by omega), ck1, ck1, nm_s, tn1, m_slots, bnd_s, upd_same, upd_ne (by omega), upd_ne (by omega), upd_ne (by omega), w1, nI_1, nI_pred]
      rw [ea, bnd_s, eb]
      refine Or.inl ⟨_, _, rfl, rfl, rfl, rfl, ⟨ns, nl + 1, nc, nf, nk, nr, ⟨b1, by omega, b3, b4, b5, b6⟩, ⟨rfl, rfl, rfl, rfl, rfl, rfl⟩, ?_, hwd, hSh.fr b1 (fun i _ _ => by dsimp only; rw [upd_ne (by omega), upd_ne (by omega), upd_ne (by omega), upd_ne (by omega)]), ?_, (hIn.fr (fun i _ _ => by dsimp only; rw [upd_ne (by omega), upd_ne (by omega), upd_ne (by omega), upd_ne (by omega)])).mono (by omega) (by omega), hSc.fr b3 (fun i _ _ => by dsimp only; rw [upd_ne (by omega), upd_ne (by omega), upd_ne (by omega), upd_ne (by omega)]), (hFr.fr b4 (fun i _ _ => by dsimp only; rw [upd_ne (by omega), upd_ne (by omega), upd_ne (by omega), upd_ne (by omega)])).mono (by omega) (by omega), hSe.fr b5 (fun i _ _ => by dsimp only; rw [upd_ne (by omega), upd_ne (by omega), upd_ne (by omega), upd_ne (by omega)]), (hRu.fr b6 (fun i _ _ => by dsimp only; rw [upd_ne (by omega), upd_ne (by omega), upd_ne (by omega), upd_ne (by omega)])).mono (by omega) (by omega)⟩, hI.2⟩
      · refine ⟨?_, by dsimp only; rw [upd_same], ?_, ?_, ?_, ?_, ?_, ?_⟩ <;> (dsimp only; rw [upd_ne (by omega), upd_ne (by omega), upd_ne (by omega), upd_ne (by omega)]; assumption)
      · intro l hl
        dsimp only
        by_cases e : l = nl
        · subst e
          have hk : ∃ k, k < 3 ∧ a0 = nI (k + 1) := ⟨a0.toInt.toNat - 1, by omega, by rw [eq_i, nI_toInt (by omega)]; omega⟩
          rw [upd_same, upd_same, upd_same, upd_ne (show 32 + 3 * l ≠ 1 by omega), upd_ne (show 32 + 3 * l ≠ 32 + 3 * l + 2 by omega), upd_ne (show 32 + 3 * l ≠ 32 + 3 * l + 1 by omega), upd_same, upd_ne (show 32 + 3 * l + 1 ≠ 1 by omega), upd_ne (show 32 + 3 * l + 1 ≠ 32 + 3 * l + 2 by omega), upd_same, upd_ne (show 32 + 3 * l + 2 ≠ 1 by omega), upd_same]
          exact ⟨rfl, rfl, rfl, hk, q2, q3⟩
        · obtain ⟨g1, g2, g3, g4⟩ := hSl l (by omega)
          rw [upd_ne e, upd_ne e, upd_ne e]
          refine ⟨?_, ?_, ?_, g4⟩
          · rw [upd_ne (by omega), upd_ne (by omega), upd_ne (by omega), upd_ne (by omega)]; exact g1
          · rw [upd_ne (by omega), upd_ne (by omega), upd_ne (by omega), upd_ne (by omega)]; exact g2
          · rw [upd_ne (by omega), upd_ne (by omega), upd_ne (by omega), upd_ne (by omega)]; exact g3
    · obtain rfl : nl = 4 := by omega
      unfold f_X8_slot_J63
      rw [if_neg (show ¬ nI 4 < 4 by decide), if_pos (show nI 4 = 4 from rfl), m_thr1, bnd_s, if_neg (by decide)]
      exact Or.inr (Or.inr ⟨_, _, rfl, rfl, rfl, hI⟩)
  · have ec : f_X7_slot (nI nl) nw_slotK nw_slotX nw_slotY a0 a1 a2 = some (.inr (0, (nI nl, nw_slotK, nw_slotX, nw_slotY))) := by
      unfold f_X7_slot
      simp only [lt_i, le_i, z1, z3, z12, zm]
      split
      · rfl
      · split
        · rfl
        · split
          · rfl
          · split
            · rfl
            · split
              · rfl
              · rw [if_neg (by omega)]
    have em : f_X8_slot m_thrown m_world a0 a1 a2 = f_X8_slot_J37 a0 a1 a2 0 m_world := by
      unfold f_X8_slot
      simp only [nm_s, m_within, le_i, z1, z3, z12, zm]
      by_cases p1 : 1 ≤ a0.toInt ∧ a0.toInt ≤ 3
      · rw [if_pos p1, if_neg (by decide)]
        by_cases p2 : -12 ≤ a1.toInt ∧ a1.toInt ≤ 12
        · rw [if_pos p2, if_neg (by decide), if_neg (show ¬ (-12 ≤ a2.toInt ∧ a2.toInt ≤ 12) by omega), if_pos rfl]
        · rw [if_neg p2, if_pos rfl]
      · rw [if_neg p1, if_pos rfl]
    rw [ec, em]
    unfold f_X8_slot_J37 f_X8_slot_J42
    rw [m_thr1, bnd_s, if_neg (by decide)]
    exact Or.inr (Or.inl ⟨_, _, rfl, rfl, rfl, hI⟩)
