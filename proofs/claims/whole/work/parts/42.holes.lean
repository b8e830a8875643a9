/-! ===== the lowest bit; holes; what frays ===== -/
theorem b_neg (x : Int32) (i : Nat) : bt (-x) i = (bt x i ^^ (decide (i < 32) && decide (∃ j, j < i ∧ bt x j = true))) := by
  unfold bt
  rw [Int32.toBitVec_neg, BitVec.getLsbD_neg]
theorem low_bit (x : Int32) {i : Nat} (hi : i < 32) : bt (x &&& -x) i = true ↔ (bt x i = true ∧ ∀ j, j < i → bt x j = false) := by
  rw [b_and, b_neg, decide_eq_true hi, Bool.true_and, Bool.and_eq_true]
  constructor
  · rintro ⟨h1, h2⟩
    refine ⟨h1, fun j hj => ?_⟩
    rw [h1] at h2
    cases z : bt x j with
    | false => rfl
    | true =>
      rw [decide_eq_true ⟨j, hj, z⟩] at h2
      cases h2
  · rintro ⟨h1, h2⟩
    refine ⟨h1, ?_⟩
    rw [h1, decide_eq_false (fun ⟨j, hj, z⟩ => by rw [h2 j hj] at z; cases z)]
    rfl
theorem has_bit {x : Int32} (h : C25 x) (ne : x ≠ 0) : ∃ m, m < 25 ∧ bt x m = true ∧ ∀ j, j < m → bt x j = false := by
  by_cases q : ∃ i, i < 25 ∧ bt x i = true
  · obtain ⟨m, hm, p, f⟩ := fb_first (p := fun i => bt x i = true) q
    exact ⟨m, hm, p, fun j hj => by
      cases z : bt x j with
      | false => rfl
      | true => exact absurd z (f j hj)⟩
  · exfalso
    refine ne (C25.ext h C25.zero (fun i hi => ?_))
    rw [b_0]
    cases z : bt x i with
    | false => rfl
    | true => exact absurd ⟨i, hi, z⟩ q
theorem low_at {x : Int32} {m : Nat} (hm : m < 25) (p : bt x m = true) (f : ∀ j, j < m → bt x j = false) : x &&& -x = (1 : Int32) <<< (nI m &&& 31) := by
  refine b_ext (fun i hi => ?_)
  rw [bt_bit (by omega) hi]
  by_cases e : i = m
  · subst e
    rw [decide_eq_true rfl]
    exact (low_bit x hi).mpr ⟨p, f⟩
  · rw [decide_eq_false e]
    cases z : bt (x &&& -x) i with
    | false => rfl
    | true =>
      exfalso
      obtain ⟨h1, h2⟩ := (low_bit x hi).mp z
      rcases Nat.lt_or_gt_of_ne e with q | q
      · rw [f i q] at h1; cases h1
      · rw [h2 m q] at p; cases p
theorem itF_up {cells x : Int32} (h : sub x cells) : ∀ n, sub x (itF cells n x) := by
  intro n
  induction n with
  | zero => exact sub.rfl' x
  | succ n ih => exact ih.trans (Fj_up (itF_in h n))
theorem jn_has (start cells : Int32) : sub (start &&& cells) (jn start cells) := itF_up (sub_and start cells) 25
theorem cn_rem {x y : Int32} (hx : C25 x) {m : Nat} (hm : m < 25) (p : bt x m = true) (q : bt y m = true) : cn (x &&& (y ^^^ -1)) < cn x := by
  refine cn_lt hx (fun i hi h => by rw [b_and, Bool.and_eq_true] at h; exact h.1) (fun e => ?_)
  have := congrArg (fun z => bt z m) e
  rw [b_and, bt_not y (by omega), p, q] at this
  cases this
/-- one round of the counting of parts -/
noncomputable def hol (x : Int32) : Int32 := x &&& (jn (x &&& -x) x ^^^ -1)
theorem hol_lt {x : Int32} (h : C25 x) (ne : x ≠ 0) : cn (hol x) < cn x := by
  obtain ⟨m, hm, p, f⟩ := has_bit h ne
  refine cn_rem h hm p (jn_has _ _ m (by omega) ?_)
  rw [b_and, (low_bit x (i := m) (by omega)).mpr ⟨p, f⟩, p]
  rfl
theorem holes_both {w : Nat → Int32} {a t : Int32} : ∀ n k (x : Int32), C25 x → cn x ≤ n → n + k ≤ 25 → ∃ r, lp (fun q => f_X0_partsOf_S6 a q.1 q.2.1 q.2.2) (x, nI k, nI k) = some r ∧ lp (fun q => f_X8_holes_S34 w a t q.1 q.2) (x, nI k) = some r := by
  intro n
  induction n with
  | zero =>
    intro k x hx hn hk
    have e0 : x = 0 := by
      by_cases z : x = 0
      · exact z
      · have := hol_lt hx z
        omega
    subst e0
    refine ⟨nI k, lp_exit ?_, lp_exit ?_⟩
    · show f_X0_partsOf_S6 a 0 (nI k) (nI k) = _
      unfold f_X0_partsOf_S6
      by_cases q : (25 : Int32) ≤ nI k
      · rw [if_pos q]
      · rw [if_neg q, if_pos rfl]
    · show f_X8_holes_S34 w a t 0 (nI k) = _
      unfold f_X8_holes_S34
      rw [if_pos rfl]
  | succ n ih =>
    intro k x hx hn hk
    by_cases z : x = 0
    · subst z
      refine ⟨nI k, lp_exit ?_, lp_exit ?_⟩
      · show f_X0_partsOf_S6 a 0 (nI k) (nI k) = _
        unfold f_X0_partsOf_S6
        by_cases q : (25 : Int32) ≤ nI k
        · rw [if_pos q]
        · rw [if_neg q, if_pos rfl]
      · show f_X8_holes_S34 w a t 0 (nI k) = _
        unfold f_X8_holes_S34
        rw [if_pos rfl]
    · obtain ⟨r, h1, h2⟩ := ih (k + 1) (hol x) hx.and' (by have := hol_lt hx z; omega) (by omega)
      refine ⟨r, lp_go ?_ h1, lp_go ?_ h2⟩
      · show f_X0_partsOf_S6 a x (nI k) (nI k) = _
        unfold f_X0_partsOf_S6
        rw [if_neg (ge_25 (by omega)), if_neg z, c_joined hx, bnd_s, nm_s, nm_s, nm_s, nI_1]
        rfl
      · show f_X8_holes_S34 w a t x (nI k) = _
        unfold f_X8_holes_S34
        rw [if_neg z, m_hanging hx, bnd_s, nm_s, nm_s, nI_1]
        rfl
theorem t_holes : T_holes Inv := by
  intro ls_hasImage tp_bytes tp_length tp_fault nw_sheets nw_cells nw_pasted nw_masks nw_uses nw_slots nw_slotK nw_slotX nw_slotY nw_setting nw_scenes nw_wishes nw_frames nw_frameRows nw_seen nw_seenRows nw_width nw_hands kp_sheets kp_cells kp_pasted kp_masks kp_uses kp_slots kp_slotK kp_slotX kp_slotY kp_setting kp_scenes kp_wishes kp_frames kp_frameRows kp_seen kp_seenRows kp_width kp_hands nr_size nr_rows kr_size kr_rows m_thrown m_world m_image m_hasImage m_tape m_taped m_faultAt m_rectangle m_hasRectangles hI a0
  obtain ⟨ns, nl, nc, nf, nk, nr, ⟨b1, b2, b3, b4, b5, b6⟩, ⟨rfl, rfl, rfl, rfl, rfl, rfl⟩, ⟨w0, w1, w2, w3, w4, w5, w6, w7⟩, hwd, hSh, hSl, hIn, hSc, hFr, hSe, hRu⟩ := hI.1
  rcases pk_ix a0 (n := ns) (by omega) with h | h | ⟨j, hj, rfl⟩
  · unfold f_X7_holes f_X8_holes
    rw [c_needSheet_no (by omega) (Or.inl h), m_noSheet_no b1 w0 (Or.inl h)]
    exact Or.inr ⟨_, _, rfl, rfl, rfl, hI⟩
  · unfold f_X7_holes f_X8_holes
    rw [c_needSheet_no (by omega) (Or.inr h), m_noSheet_no b1 w0 (Or.inr h)]
    exact Or.inr ⟨_, _, rfl, rfl, rfl, hI⟩
  · obtain ⟨q1, q2, q3, q4, q5, q6, q7⟩ := hSh j hj
    have ec : (33554431 : Int32) &&& (nw_cells j ^^^ -1) = (nw_cells j ^^^ -1) &&& 33554431 := b_ext (fun i _ => by rw [b_and, b_and, Bool.and_comm])
    obtain ⟨r, h1, h2⟩ := holes_both (w := m_world) (a := (nw_cells j ^^^ -1) &&& 33554431) (t := 0) 25 0 ((nw_cells j ^^^ -1) &&& 33554431) C25.all.and (cn_le _) (by decide)
    obtain ⟨r', h1', h2'⟩ := holes_both (w := m_world) (a := nI j) (t := 0) 25 0 ((nw_cells j ^^^ -1) &&& 33554431) C25.all.and (cn_le _) (by decide)
    have er : r = r' := by
      have e9 : (fun q : Int32 × Int32 × Int32 => f_X0_partsOf_S6 ((nw_cells j ^^^ -1) &&& 33554431) q.1 q.2.1 q.2.2) = fun q => f_X0_partsOf_S6 (nI j) q.1 q.2.1 q.2.2 := rfl
      rw [e9, h1'] at h1
      exact (Option.some.inj h1).symm
    refine Or.inl ⟨r, (r, 0), ?_, ?_, rfl, rfl, hI⟩
    · unfold f_X7_holes f_X0_partsOf f_X0_partsOf_J6
      rw [c_needSheet_yes (by omega) hj, xb_l, chk_n (by omega) (by decide), nI_clamp (by omega), ec, show (0 : Int32) = nI 0 from rfl, h1]
      rfl
    · unfold f_X8_holes f_X8_holes_J34
      rw [m_noSheet_yes b1 w0 hj, bnd_s, m_thr0, bnd_s, if_pos rfl, show (1 : Int32) = nI 1 from rfl, m_of (by omega) (by decide), bnd_s, nm_s, q2]
      show bnd (lp (fun q => f_X8_holes_S34 m_world (nI j) 0 q.1 q.2) ((nw_cells j ^^^ -1) &&& 33554431, nI 0)) _ = _
      rw [h2', bnd_s, er]
      rfl
/-! a cell that frays: dark, and a cell beside it is not -/
def FR (d : Int32) (i : Nat) : Prop := bt d i = true ∧ ∃ w, w < 4 ∧ nbr i w < 25 ∧ bt d (nbr i w) = false
theorem FR_worn {d : Int32} {i : Nat} (hi : i < 25) : bt (d &&& f_X0_beside ((33554431 : Int32) &&& (d ^^^ -1))) i = true ↔ FR d i := by
  rw [b_and, Bool.and_eq_true, bt_beside (C25.all.and') hi]
  unfold FR adj
  constructor
  · rintro ⟨h1, w, hw, h2, h3⟩
    refine ⟨h1, w, hw, h2, ?_⟩
    rw [b_and, bt_not d (by omega), Bool.and_eq_true] at h3
    cases z : bt d (nbr i w) with
    | false => rfl
    | true => rw [z] at h3; cases h3.2
  · rintro ⟨h1, w, hw, h2, h3⟩
    refine ⟨h1, w, hw, h2, ?_⟩
    rw [b_and, bt_not d (by omega), bt_all _ (by omega), h3, decide_eq_true h2]
    rfl
theorem m_frays {d : Int32} : OK (f_X8_frays d) (fun r => (r = -1 ∧ ∀ c, c < 25 → ¬ FR d c) ∨ ∃ c, c < 25 ∧ r = nI c ∧ FR d c ∧ ∀ j, j < c → ¬ FR d j) := by
  unfold f_X8_frays f_X8_frays_J2
  refine ok_bnd (P := Sum.elim (fun r => ∃ c, c < 25 ∧ r = nI c ∧ FR d c ∧ ∀ j, j < c → ¬ FR d j) (fun _ => ∀ c, c < 25 → ¬ FR d c)) (ok_lp (fun k s => s = nI k ∧ ∀ j, j < k → ¬ FR d j) 25 (fun k s hk hJ => ?_) (fun s hJ => ?_) ⟨rfl, fun l hl => absurd hl (Nat.not_lt_zero l)⟩) (fun z hz => ?_)
  · obtain ⟨rfl, hno⟩ := hJ
    have inner : OK (lp (fun q => f_X8_frays_S10 d (nI k) q) (0 : Int32)) (Sum.elim (fun _ => FR d k) (fun _ => ¬ FR d k)) := by
      by_cases hd : bt d k = true
      · refine ok_lp (fun n t => t = nI n ∧ ∀ w, w < n → ¬ (nbr k w < 25 ∧ bt d (nbr k w) = false)) 4 (fun n t hn hT => ?_) (fun t hT => ?_) ⟨rfl, fun l hl => absurd hl (Nat.not_lt_zero l)⟩
        · obtain ⟨rfl, hw⟩ := hT
          unfold f_X8_frays_S10
          rw [if_neg (ge_4 hn), nm_s, m_has d (by omega), if_pos hd, if_neg (by decide), nm_s, m_beside k hk n hn]
          by_cases h25 : nbr k n < 25
          · rw [if_pos h25, if_neg (nI_pos (by omega)), nm_s, m_has d (by omega)]
            by_cases hb : bt d (nbr k n) = true
            · rw [if_pos hb, if_neg (by decide)]
              refine Or.inl ⟨_, rfl, nI_1 n, fun w hw2 => ?_⟩
              rcases Nat.lt_succ_iff_lt_or_eq.mp hw2 with z | rfl
              · exact hw w z
              · intro q; rw [hb] at q; cases q.2
            · rw [if_neg hb, if_pos rfl]
              refine Or.inr ⟨_, rfl, hd, n, hn, h25, ?_⟩
              cases z : bt d (nbr k n) with
              | false => rfl
              | true => exact absurd z hb
          · rw [if_neg h25, if_pos (by decide)]
            refine Or.inl ⟨_, rfl, nI_1 n, fun w hw2 => ?_⟩
            rcases Nat.lt_succ_iff_lt_or_eq.mp hw2 with z | rfl
            · exact hw w z
            · intro q; exact h25 q.1
        · obtain ⟨rfl, hw⟩ := hT
          refine ⟨_, rfl, fun q => ?_⟩
          obtain ⟨_, w, hw4, q2, q3⟩ := q
          exact hw w hw4 ⟨q2, q3⟩
      · refine ⟨Sum.inr (), lp_exit ?_, fun q => hd q.1⟩
        show f_X8_frays_S10 d (nI k) 0 = _
        unfold f_X8_frays_S10
        rw [if_neg (by decide), nm_s, m_has d (by omega), if_neg hd, if_pos rfl]
    unfold f_X8_frays_S2 f_X8_frays_J10
    rw [if_neg (ge_25 hk)]
    obtain ⟨z, ez, hz⟩ := inner
    rw [ez, bnd_s]
    cases z with
    | inl z => exact Or.inr ⟨_, rfl, k, hk, rfl, hz, hno⟩
    | inr z =>
      refine Or.inl ⟨_, rfl, nI_1 k, fun j hj => ?_⟩
      rcases Nat.lt_succ_iff_lt_or_eq.mp hj with y | rfl
      · exact hno j y
      · exact hz
  · obtain ⟨rfl, hno⟩ := hJ
    exact ⟨_, rfl, hno⟩
  · cases z with
    | inl z => exact ⟨_, rfl, Or.inr hz⟩
    | inr z => exact ⟨_, rfl, Or.inl ⟨rfl, hz⟩⟩
theorem fray_rel {d : Int32} (h : C25 d) : (f_X8_frays d = some (-1) ∧ f_X0_frayCell d = 0) ∨ ∃ c, c < 25 ∧ f_X8_frays d = some (nI c) ∧ f_X0_frayCell d = (1 : Int32) <<< (nI c &&& 31) ∧ bt d c = true := by
  obtain ⟨r, er, hr⟩ := m_frays (d := d)
  unfold f_X0_frayCell
  rw [nm_s, nm_s]
  rcases hr with ⟨rfl, hno⟩ | ⟨c, hc, rfl, hF, hno⟩
  · refine Or.inl ⟨er, ?_⟩
    have e0 : d &&& f_X0_beside ((33554431 : Int32) &&& (d ^^^ -1)) = 0 := C25.ext h.and' C25.zero (fun i hi => by
      rw [b_0]
      cases z : bt (d &&& f_X0_beside ((33554431 : Int32) &&& (d ^^^ -1))) i with
      | false => rfl
      | true => exact absurd ((FR_worn hi).mp z) (hno i hi))
    rw [e0]
    decide
  · refine Or.inr ⟨c, hc, er, low_at hc ((FR_worn hc).mpr hF) (fun j hj => ?_), hF.1⟩
    cases z : bt (d &&& f_X0_beside ((33554431 : Int32) &&& (d ^^^ -1))) j with
    | false => rfl
    | true => exact absurd ((FR_worn (by omega)).mp z) (hno j hj)
theorem bit_ne0 {c : Nat} (hc : c < 25) : ¬ (1 : Int32) <<< (nI c &&& 31) = 0 := fun e => by
  have := congrArg (fun z => bt z c) e
  rw [bt_bit (by omega) (by omega), b_0, decide_eq_true rfl] at this
  cases this
theorem lasts_both {w : Nat → Int32} {a b t : Int32} : ∀ n k (x : Int32), C25 x → cn x ≤ n → n + k ≤ 25 → ∃ r, OK (lp (fun q => f_X0_fraysTillFallen_S4 a q.1 q.2) (x, nI k)) (fun z => Sum.elim id (fun _ => -1) z = r) ∧ OK (lp (fun q => f_X8_lasts_S29 w b t q.1 q.2) (x, nI k)) (fun z => Sum.elim (fun _ => -1) id z = r) := by
  intro n
  induction n with
  | zero =>
    intro k x hx hn hk
    have ez : ¬ fal x = 0 ∨ f_X0_frayCell x = 0 ∧ f_X8_frays x = some (-1) := by
      by_cases q : fal x = 0
      · refine Or.inr ?_
        rcases fray_rel hx with ⟨h1, h2⟩ | ⟨c, hc, _, _, p⟩
        · exact ⟨h2, h1⟩
        · exfalso
          have := cn_rem (x := x) (y := x) hx hc p p
          omega
      · exact Or.inl q
    rcases ez with q | ⟨q1, q2⟩
    · refine ⟨nI k, ⟨Sum.inl (nI k), lp_exit ?_, rfl⟩, ⟨Sum.inr (nI k), lp_exit ?_, rfl⟩⟩
      · show f_X0_fraysTillFallen_S4 a x (nI k) = _
        unfold f_X0_fraysTillFallen_S4
        rw [if_neg (show ¬ (25 : Int32) < nI k from nI_nlt (b := k) (a := 25) (by omega) (by decide)), c_fallen hx, bnd_s, if_neg q]
      · show f_X8_lasts_S29 w b t x (nI k) = _
        unfold f_X8_lasts_S29
        rw [m_looseOf hx, bnd_s, if_neg q]
    · by_cases q : fal x = 0
      · refine ⟨-1, ⟨Sum.inr (Sum.inl ()), lp_exit ?_, rfl⟩, ⟨Sum.inl (), lp_exit ?_, rfl⟩⟩
        · show f_X0_fraysTillFallen_S4 a x (nI k) = _
          unfold f_X0_fraysTillFallen_S4
          rw [if_neg (show ¬ (25 : Int32) < nI k from nI_nlt (b := k) (a := 25) (by omega) (by decide)), c_fallen hx, bnd_s, if_pos q, nm_s, q1, if_pos rfl]
        · show f_X8_lasts_S29 w b t x (nI k) = _
          unfold f_X8_lasts_S29
          rw [m_looseOf hx, bnd_s, if_pos q, q2, bnd_s, if_neg (by decide)]
      · refine ⟨nI k, ⟨Sum.inl (nI k), lp_exit ?_, rfl⟩, ⟨Sum.inr (nI k), lp_exit ?_, rfl⟩⟩
        · show f_X0_fraysTillFallen_S4 a x (nI k) = _
          unfold f_X0_fraysTillFallen_S4
          rw [if_neg (show ¬ (25 : Int32) < nI k from nI_nlt (b := k) (a := 25) (by omega) (by decide)), c_fallen hx, bnd_s, if_neg q]
        · show f_X8_lasts_S29 w b t x (nI k) = _
          unfold f_X8_lasts_S29
          rw [m_looseOf hx, bnd_s, if_neg q]
  | succ n ih =>
    intro k x hx hn hk
    by_cases q : fal x = 0
    · rcases fray_rel hx with ⟨q2, q1⟩ | ⟨c, hc, q2, q1, p⟩
      · refine ⟨-1, ⟨Sum.inr (Sum.inl ()), lp_exit ?_, rfl⟩, ⟨Sum.inl (), lp_exit ?_, rfl⟩⟩
        · show f_X0_fraysTillFallen_S4 a x (nI k) = _
          unfold f_X0_fraysTillFallen_S4
          rw [if_neg (show ¬ (25 : Int32) < nI k from nI_nlt (b := k) (a := 25) (by omega) (by decide)), c_fallen hx, bnd_s, if_pos q, nm_s, q1, if_pos rfl]
        · show f_X8_lasts_S29 w b t x (nI k) = _
          unfold f_X8_lasts_S29
          rw [m_looseOf hx, bnd_s, if_pos q, q2, bnd_s, if_neg (by decide)]
      · have hlt := cn_rem (x := x) (y := (1 : Int32) <<< (nI c &&& 31)) hx hc p (by rw [bt_bit (by omega) (by omega), decide_eq_true rfl])
        obtain ⟨r, ⟨z1, e1, h1⟩, ⟨z2, e2, h2⟩⟩ := ih (k + 1) (x &&& ((1 : Int32) <<< (nI c &&& 31) ^^^ -1)) hx.and' (by omega) (by omega)
        refine ⟨r, ⟨z1, lp_go ?_ e1, h1⟩, ⟨z2, lp_go ?_ e2, h2⟩⟩
        · show f_X0_fraysTillFallen_S4 a x (nI k) = _
          unfold f_X0_fraysTillFallen_S4
          rw [if_neg (show ¬ (25 : Int32) < nI k from nI_nlt (b := k) (a := 25) (by omega) (by decide)), c_fallen hx, bnd_s, if_pos q, nm_s, q1, if_neg (bit_ne0 hc), nm_s, nm_s, nI_1]
        · show f_X8_lasts_S29 w b t x (nI k) = _
          unfold f_X8_lasts_S29
          rw [m_looseOf hx, bnd_s, if_pos q, q2, bnd_s, if_pos (nI_pos' (by omega)), nm_s, nm_s, nI_1]
    · refine ⟨nI k, ⟨Sum.inl (nI k), lp_exit ?_, rfl⟩, ⟨Sum.inr (nI k), lp_exit ?_, rfl⟩⟩
      · show f_X0_fraysTillFallen_S4 a x (nI k) = _
        unfold f_X0_fraysTillFallen_S4
        rw [if_neg (show ¬ (25 : Int32) < nI k from nI_nlt (b := k) (a := 25) (by omega) (by decide)), c_fallen hx, bnd_s, if_neg q]
      · show f_X8_lasts_S29 w b t x (nI k) = _
        unfold f_X8_lasts_S29
        rw [m_looseOf hx, bnd_s, if_neg q]
theorem t_lasts : T_lasts Inv := by
  intro ls_hasImage tp_bytes tp_length tp_fault nw_sheets nw_cells nw_pasted nw_masks nw_uses nw_slots nw_slotK nw_slotX nw_slotY nw_setting nw_scenes nw_wishes nw_frames nw_frameRows nw_seen nw_seenRows nw_width nw_hands kp_sheets kp_cells kp_pasted kp_masks kp_uses kp_slots kp_slotK kp_slotX kp_slotY kp_setting kp_scenes kp_wishes kp_frames kp_frameRows kp_seen kp_seenRows kp_width kp_hands nr_size nr_rows kr_size kr_rows m_thrown m_world m_image m_hasImage m_tape m_taped m_faultAt m_rectangle m_hasRectangles hI a0
  obtain ⟨ns, nl, nc, nf, nk, nr, ⟨b1, b2, b3, b4, b5, b6⟩, ⟨rfl, rfl, rfl, rfl, rfl, rfl⟩, ⟨w0, w1, w2, w3, w4, w5, w6, w7⟩, hwd, hSh, hSl, hIn, hSc, hFr, hSe, hRu⟩ := hI.1
  rcases pk_ix a0 (n := ns) (by omega) with h | h | ⟨j, hj, rfl⟩
  · unfold f_X7_lasts f_X8_lasts
    rw [c_needSheet_no (by omega) (Or.inl h), m_noSheet_no b1 w0 (Or.inl h)]
    exact Or.inr ⟨_, _, rfl, rfl, rfl, hI⟩
  · unfold f_X7_lasts f_X8_lasts
    rw [c_needSheet_no (by omega) (Or.inr h), m_noSheet_no b1 w0 (Or.inr h)]
    exact Or.inr ⟨_, _, rfl, rfl, rfl, hI⟩
  · obtain ⟨q1, q2, q3, q4, q5, q6, q7⟩ := hSh j hj
    obtain ⟨r, ⟨z1, e1, h1⟩, ⟨z2, e2, h2⟩⟩ := lasts_both (w := m_world) (a := nw_cells j) (b := nI j) (t := 0) 25 0 (nw_cells j) q5 (cn_le _) (by decide)
    refine Or.inl ⟨r, (r, 0), ?_, ?_, rfl, rfl, hI⟩
    · unfold f_X7_lasts f_X0_fraysTillFallen f_X0_fraysTillFallen_J4
      rw [c_needSheet_yes (by omega) hj, xb_l, chk_n (by omega) (by decide), nI_clamp (by omega), show (0 : Int32) = nI 0 from rfl, e1, bnd_s]
      rcases z1 with z | z | z <;> (rw [← h1]; rfl)
    · unfold f_X8_lasts f_X8_lasts_J29
      rw [m_noSheet_yes b1 w0 hj, bnd_s, m_thr0, bnd_s, if_pos rfl, show (1 : Int32) = nI 1 from rfl, m_of (by omega) (by decide), bnd_s, q2]
      show bnd (lp (fun q => f_X8_lasts_S29 m_world (nI j) 0 q.1 q.2) (nw_cells j, nI 0)) _ = _
      rw [e2, bnd_s]
      rcases z2 with z | z <;> (rw [← h2]; rfl)
