/-! ===== the lowest bit; holes; what frays ===== -/
theorem b_neg (x : Int32) (i : Nat) : bt (-x) i = (bt x i ^^ (decide (i < 32) && decide (∃ j, j < i ∧ bt x j = true))) := by
  unfold bt
  rw [Int32.toBitVec_neg, BitVec.getLsbD_neg]
theorem low_bit (x : Int32) {i : Nat} (hi : i < 32) : bt (x &&& -x) i = true ↔ (bt x i = true ∧ ∀ j, j < i → bt x j = false) := by
  rw [b_and, b_neg, decide_eq_true hi, Bool.true_and, Bool.and_eq_true]
  constructor
  · rintro ⟨h1, h2⟩
    refine ⟨h1, fun j hj => ?_⟩
    rw [h1] at h2
    cases z : bt x j with
    | false => rfl
    | true =>
      rw [decide_eq_true ⟨j, hj, z⟩] at h2
      cases h2
  · rintro ⟨h1, h2⟩
    refine ⟨h1, ?_⟩
    rw [h1, decide_eq_false (fun ⟨j, hj, z⟩ => by rw [h2 j hj] at z; cases z)]
    rfl
theorem has_bit {x : Int32} (h : C25 x) (ne : x ≠ 0) : ∃ m, m < 25 ∧ bt x m = true ∧ ∀ j, j < m → bt x j = false := by
  by_cases q : ∃ i, i < 25 ∧ bt x i = true
  · obtain ⟨m, hm, p, f⟩ := fb_first (p := fun i => bt x i = true) q
    exact ⟨m, hm, p, fun j hj => by
      cases z : bt x j with
      | false => rfl
      | true => exact absurd z (f j hj)⟩
  · exfalso
    refine ne (C25.ext h C25.zero (fun i hi => ?_))
    rw [b_0]
    cases z : bt x i with
    | false => rfl
    | true => exact absurd ⟨i, hi, z⟩ q
theorem low_at {x : Int32} {m : Nat} (hm : m < 25) (p : bt x m = true) (f : ∀ j, j < m → bt x j = false) : x &&& -x = (1 : Int32) <<< (nI m &&& 31) := by
  refine b_ext (fun i hi => ?_)
  rw [bt_bit (by omega) hi]
  by_cases e : i = m
  · subst e
    rw [decide_eq_true rfl]
    exact (low_bit x hi).mpr ⟨p, f⟩
  · rw [decide_eq_false e]
    cases z : bt (x &&& -x) i with
    | false => rfl
    | true =>
      exfalso
      obtain ⟨h1, h2⟩ := (low_bit x hi).mp z
      rcases Nat.lt_or_gt_of_ne e with q | q
      · rw [f i q] at h1; cases h1
      · rw [h2 m q] at p; cases p
theorem itF_up {cells x : Int32} (h : sub x cells) : ∀ n, sub x (itF cells n x) := by
  intro n
  induction n with
  | zero => exact sub.rfl' x
  | succ n ih => exact ih.trans (Fj_up (itF_in h n))
theorem jn_has (start cells : Int32) : sub (start &&& cells) (jn start cells) := itF_up (sub_and start cells) 25
theorem cn_rem {x y : Int32} (hx : C25 x) {m : Nat} (hm : m < 25) (p : bt x m = true) (q : bt y m = true) : cn (x &&& (y ^^^ -1)) < cn x := by
  refine cn_lt hx (fun i hi h => by rw [b_and, Bool.and_eq_true] at h; exact h.1) (fun e => ?_)
  have := congrArg (fun z => bt z m) e
  dsimp only at this
  rw [b_and, bt_not y (by omega), p, q] at this
  cases this
/-- one round of the counting of parts -/
noncomputable def hol (x : Int32) : Int32 := x &&& (jn (x &&& -x) x ^^^ -1)
theorem hol_lt {x : Int32} (h : C25 x) (ne : x ≠ 0) : cn (hol x) < cn x := by
  obtain ⟨m, hm, p, f⟩ := has_bit h ne
  refine cn_rem h hm p (jn_has _ _ m (by omega) ?_)
  rw [b_and, (low_bit x (i := m) (by omega)).mpr ⟨p, f⟩, p]
  rfl
theorem holes_both {w : Nat → Int32} {a t : Int32} : ∀ n k (x : Int32), C25 x → cn x ≤ n → n + k ≤ 25 → ∃ r, lp (fun q => f_X0_partsOf_S6 a q.1 q.2.1 q.2.2) (x, nI k, nI k) = some r ∧ lp (fun q => f_X8_holes_S34 w a t q.1 q.2) (x, nI k) = some r := by
  intro n
  induction n with
  | zero =>
    intro k x hx hn hk
    have e0 : x = 0 := by
      by_cases z : x = 0
      · exact z
      · have := hol_lt hx z
        omega
    subst e0
    refine ⟨nI k, lp_exit ?_, lp_exit ?_⟩
    · show f_X0_partsOf_S6 a 0 (nI k) (nI k) = _
      unfold f_X0_partsOf_S6
      by_cases q : (25 : Int32) ≤ nI k
      · rw [if_pos q]
      · rw [if_neg q, if_pos rfl]
    · show f_X8_holes_S34 w a t 0 (nI k) = _
      unfold f_X8_holes_S34
      rw [if_pos rfl]
  | succ n ih =>
    intro k x hx hn hk
    by_cases z : x = 0
    · subst z
      refine ⟨nI k, lp_exit ?_, lp_exit ?_⟩
      · show f_X0_partsOf_S6 a 0 (nI k) (nI k) = _
        unfold f_X0_partsOf_S6
        by_cases q : (25 : Int32) ≤ nI k
        · rw [if_pos q]
        · rw [if_neg q, if_pos rfl]
      · show f_X8_holes_S34 w a t 0 (nI k) = _
        unfold f_X8_holes_S34
        rw [if_pos rfl]
    · obtain ⟨r, h1, h2⟩ := ih (k + 1) (hol x) hx.and' (by have := hol_lt hx z; omega) (by omega)
      refine ⟨r, lp_go ?_ h1, lp_go ?_ h2⟩
      · show f_X0_partsOf_S6 a x (nI k) (nI k) = _
        unfold f_X0_partsOf_S6
        rw [if_neg (ge_25 (by omega)), if_neg z, c_joined hx, bnd_s, nm_s, nm_s, nm_s, nI_1]
        rfl
      · show f_X8_holes_S34 w a t x (nI k) = _
        unfold f_X8_holes_S34
        rw [if_neg z, m_hanging hx, bnd_s, nm_s, nm_s, nI_1]
        rfl
theorem t_holes : T_holes Inv := by
  intro ls_hasImage tp_bytes tp_length tp_fault nw_sheets nw_cells nw_pasted nw_masks nw_uses nw_slots nw_slotK nw_slotX nw_slotY nw_setting nw_scenes nw_wishes nw_frames nw_frameRows nw_seen nw_seenRows nw_width nw_hands kp_sheets kp_cells kp_pasted kp_masks kp_uses kp_slots kp_slotK kp_slotX kp_slotY kp_setting kp_scenes kp_wishes kp_frames kp_frameRows kp_seen kp_seenRows kp_width kp_hands nr_size nr_rows kr_size kr_rows m_thrown m_world m_image m_hasImage m_tape m_taped m_faultAt m_rectangle m_hasRectangles hI a0
  obtain ⟨ns, nl, nc, nf, nk, nr, ⟨b1, b2, b3, b4, b5, b6⟩, ⟨rfl, rfl, rfl, rfl, rfl, rfl⟩, ⟨w0, w1, w2, w3, w4, w5, w6, w7⟩, hwd, hSh, hSl, hIn, hSc, hFr, hSe, hRu⟩ := hI.1
  rcases pk_ix a0 (n := ns) (by omega) with h | h | ⟨j, hj, rfl⟩
  · unfold f_X7_holes f_X8_holes
    rw [c_needSheet_no (by omega) (Or.inl h), m_noSheet_no b1 w0 (Or.inl h)]
    exact Or.inr ⟨_, _, rfl, rfl, rfl, hI⟩
  · unfold f_X7_holes f_X8_holes
    rw [c_needSheet_no (by omega) (Or.inr h), m_noSheet_no b1 w0 (Or.inr h)]
    exact Or.inr ⟨_, _, rfl, rfl, rfl, hI⟩
  · obtain ⟨q1, q2, q3, q4, q5, q6, q7⟩ := hSh j hj
    have ec : (33554431 : Int32) &&& (nw_cells j ^^^ -1) = (nw_cells j ^^^ -1) &&& 33554431 := b_ext (fun i _ => by rw [b_and, b_and, Bool.and_comm])
    obtain ⟨r, h1, h2⟩ := holes_both (w := m_world) (a := (nw_cells j ^^^ -1) &&& 33554431) (t := 0) 25 0 ((nw_cells j ^^^ -1) &&& 33554431) C25.all.and (cn_le _) (by decide)
    obtain ⟨r', h1', h2'⟩ := holes_both (w := m_world) (a := nI j) (t := 0) 25 0 ((nw_cells j ^^^ -1) &&& 33554431) C25.all.and (cn_le _) (by decide)
    have er : r = r' := by
      have e9 : (fun q : Int32 × Int32 × Int32 => f_X0_partsOf_S6 ((nw_cells j ^^^ -1) &&& 33554431) q.1 q.2.1 q.2.2) = fun q => f_X0_partsOf_S6 (nI j) q.1 q.2.1 q.2.2 := rfl
      rw [e9, h1'] at h1
      exact (Option.some.inj h1).symm
    refine Or.inl ⟨r, (r, 0), ?_, ?_, rfl, rfl, hI⟩
    · unfold f_X7_holes f_X0_partsOf f_X0_partsOf_J6
      rw [c_needSheet_yes (by omega) hj, xb_l, chk_n (by omega) (by decide), nI_clamp (by omega), ec, show (0 : Int32) = nI 0 from rfl, h1]
      rfl
    · unfold f_X8_holes f_X8_holes_J34
      rw [m_noSheet_yes b1 w0 hj, bnd_s, m_thr0, bnd_s, if_pos rfl, show (1 : Int32) = nI 1 from rfl, m_of (by omega) (by decide), bnd_s, nm_s, q2]
      show bnd (lp (fun q => f_X8_holes_S34 m_world (nI j) 0 q.1 q.2) ((nw_cells j ^^^ -1) &&& 33554431, nI 0)) _ = _
      rw [h2', bnd_s, er]
      rfl
