/-! ===== what hangs together ===== -/
noncomputable def Fj (cells x : Int32) : Int32 := (x ||| f_X0_beside x) &&& cells
noncomputable def itF (cells : Int32) : Nat → Int32 → Int32
  | 0, x => x
  | n + 1, x => Fj cells (itF cells n x)
theorem C25.Fj {cells : Int32} (h : C25 cells) (x : Int32) : C25 (Fj cells x) := h.and
def sub (x y : Int32) : Prop := ∀ i, i < 32 → bt x i = true → bt y i = true
theorem sub.eq {x y : Int32} (h : sub x y) (g : sub y x) : x = y := b_ext (fun i hi => by
  cases q : bt x i with
  | true => rw [h i hi q]
  | false =>
    cases z : bt y i with
    | true => rw [g i hi z] at q; cases q
    | false => rfl)
theorem sub.rfl' (x : Int32) : sub x x := fun _ _ h => h
theorem sub.trans {x y z : Int32} (h : sub x y) (g : sub y z) : sub x z := fun i hi q => g i hi (h i hi q)
theorem sub_and (x y : Int32) : sub (x &&& y) y := fun i _ h => by rw [b_and, Bool.and_eq_true] at h; exact h.2
theorem Fj_up {cells x : Int32} (h : sub x cells) : sub x (Fj cells x) := fun i hi q => by unfold Fj; rw [b_and, b_or, q, h i hi q]; rfl
theorem Fj_in (cells x : Int32) : sub (Fj cells x) cells := sub_and _ _
noncomputable def cn (x : Int32) : Nat := fb_ct (bt x) 25
theorem cn_le (x : Int32) : cn x ≤ 25 := fb_ct_le _ _
theorem ct_lt {p q : Nat → Bool} (h : ∀ k, p k = true → q k = true) : ∀ {n i : Nat}, i < n → p i = false → q i = true → fb_ct p n < fb_ct q n := by
  intro n
  induction n with
  | zero => intro i hi; exact absurd hi (Nat.not_lt_zero i)
  | succ n ih =>
    intro i hi hp hq
    rw [fb_ct_succ, fb_ct_succ]
    by_cases e : i = n
    · subst e
      have := fb_ct_sub (p := p) (q := q) (n := i) (fun k _ => h k)
      rw [hp, hq]
      simp
      omega
    · have := ih (i := i) (by omega) hp hq
      have : (if p n then 1 else 0) ≤ (if q n then 1 else 0 : Nat) := by
        cases z : p n with
        | true => rw [h n z]; exact Nat.le_refl _
        | false => simp
      omega
theorem cn_lt {x y : Int32} (hy : C25 y) (h : sub x y) (ne : x ≠ y) : cn x < cn y := by
  have hx : ∀ k, bt x k = true → bt y k = true := fun k q => by
    by_cases z : k < 32
    · exact h k z q
    · rw [b_big (by omega)] at q; cases q
  by_cases q : ∃ i, i < 25 ∧ bt x i = false ∧ bt y i = true
  · obtain ⟨i, hi, h1, h2⟩ := q
    exact ct_lt hx hi h1 h2
  · exfalso
    refine ne (sub.eq h (fun i hi z => ?_))
    by_cases k : i < 25
    · cases v : bt x i with
      | true => rfl
      | false => exact absurd ⟨i, k, v, z⟩ q
    · rw [hy i (by omega)] at z; cases z
theorem itF_in {cells x : Int32} (h : sub x cells) : ∀ n, sub (itF cells n x) cells := fun n => by
  cases n with
  | zero => exact h
  | succ n => exact Fj_in _ _
theorem itF_fix {cells x : Int32} {n : Nat} (h : Fj cells (itF cells n x) = itF cells n x) : ∀ d, itF cells (n + d) x = itF cells n x := by
  intro d
  induction d with
  | zero => rfl
  | succ d ih =>
    show Fj cells (itF cells (n + d) x) = _
    rw [ih, h]
theorem Fj_0 (cells : Int32) : Fj cells 0 = 0 := by
  unfold Fj
  have e : f_X0_beside 0 = 0 := by unfold f_X0_beside; rw [nm_s]; decide
  rw [e]
  exact b_ext (fun i hi => by rw [b_and, b_or, b_0]; rfl)
theorem itF_some {cells x : Int32} (hc : C25 cells) (h : sub x cells) : ∃ k, k < 25 ∧ Fj cells (itF cells k x) = itF cells k x := by
  by_cases q : ∃ k, k < 25 ∧ Fj cells (itF cells k x) = itF cells k x
  · exact q
  · exfalso
    have n0 : x ≠ 0 := fun e => q ⟨0, by decide, by show Fj cells x = x; rw [e]; exact Fj_0 _⟩
    have c25 : ∀ n, C25 (itF cells n x) := fun n => by
      intro i hi
      cases z : bt (itF cells n x) i with
      | false => rfl
      | true =>
        by_cases w : i < 32
        · rw [← hc i hi]; exact (itF_in h n i w z).symm
        · rw [b_big (by omega)] at z; cases z
    have key : ∀ k, k ≤ 25 → k + 1 ≤ cn (itF cells k x) := by
      intro k
      induction k with
      | zero =>
        intro _
        have : cn 0 < cn x := cn_lt (c25 0) (fun i _ z => by rw [b_0] at z; cases z) n0.symm
        show 1 ≤ cn x
        omega
      | succ k ih =>
        intro hk
        have h1 := ih (by omega)
        have : cn (itF cells k x) < cn (itF cells (k + 1) x) := cn_lt (c25 (k + 1)) (Fj_up (itF_in h k)) (fun e => q ⟨k, by omega, e.symm⟩)
        omega
    have := key 25 (Nat.le_refl _)
    have := cn_le (itF cells 25 x)
    omega
/-- what of the cells hangs together with the start -/
noncomputable def jn (start cells : Int32) : Int32 := itF cells 25 (start &&& cells)
theorem jn_fix {start cells : Int32} (hc : C25 cells) : Fj cells (jn start cells) = jn start cells := by
  obtain ⟨k, hk, e⟩ := itF_some hc (sub_and start cells)
  unfold jn
  rw [show 25 = k + (25 - k) by omega, itF_fix e, e]
theorem first_fix {cells x : Int32} (hc : C25 cells) (h : sub x cells) : ∃ k, k < 25 ∧ Fj cells (itF cells k x) = itF cells k x ∧ (∀ j, j < k → Fj cells (itF cells j x) ≠ itF cells j x) ∧ itF cells k x = itF cells 25 x := by
  obtain ⟨k, hk, e⟩ := itF_some hc h
  obtain ⟨i, hi, p, q⟩ := fb_first (p := fun k => Fj cells (itF cells k x) = itF cells k x) ⟨k, hk, e⟩
  refine ⟨i, hi, p, q, ?_⟩
  have := itF_fix p (25 - i)
  rw [show i + (25 - i) = 25 by omega] at this
  exact this.symm
theorem c_joined {start cells : Int32} (hc : C25 cells) : f_X0_joined start cells = some (jn start cells) := by
  unfold f_X0_joined f_X0_joined_J6
  rw [nm_s]
  obtain ⟨k, hk, e, hno, e25⟩ := first_fix hc (sub_and start cells)
  refine (bnd_eq (lp_run' (fun n => (itF cells n (start &&& cells), nI n)) (r := Sum.inl (itF cells k (start &&& cells))) k rfl (fun n hn => ?_) ?_)).trans (congrArg some e25)
  · show f_X0_joined_S6 start cells (itF cells n (start &&& cells)) (nI n) = _
    unfold f_X0_joined_S6
    rw [if_neg (ge_25 (by omega)), nm_s, nm_s, if_neg (show ¬ (itF cells n (start &&& cells) ||| f_X0_beside (itF cells n (start &&& cells))) &&& cells = itF cells n (start &&& cells) from hno n hn), nm_s, nI_1]
    rfl
  · show f_X0_joined_S6 start cells (itF cells k (start &&& cells)) (nI k) = _
    unfold f_X0_joined_S6
    rw [if_neg (ge_25 hk), nm_s, nm_s, if_pos (show (itF cells k (start &&& cells) ||| f_X0_beside (itF cells k (start &&& cells))) &&& cells = itF cells k (start &&& cells) from e)]
theorem m_hang1 {cells was : Int32} (hc : C25 cells) (hw : sub was cells) {a1 : Int32} : OK (lp (fun q => f_X8_hanging_S16 cells a1 was q.1 q.2) (was, (0 : Int32))) (fun r => r = Fj cells was) := by
  have cw : C25 was := fun i hi => by
    cases z : bt was i with
    | false => rfl
    | true =>
      by_cases w : i < 32
      · rw [← hc i hi]; exact (hw i w z).symm
      · rw [b_big (by omega)] at z; cases z
  refine OK.mono (P := fun r => ∀ o, o < 32 → (bt r o = true ↔ (bt was o = true ∨ (bt cells o = true ∧ ∃ c, c < 25 ∧ bt was c = true ∧ ∃ w, w < 4 ∧ nbr c w = o)))) ?_ (fun r hr => ?_)
  · refine ok_lp (fun k s => s.2 = nI k ∧ ∀ o, o < 32 → (bt s.1 o = true ↔ (bt was o = true ∨ (bt cells o = true ∧ ∃ c, c < k ∧ bt was c = true ∧ ∃ w, w < 4 ∧ nbr c w = o)))) 25 (fun k s hk hJ => Or.inl ?_) (fun s hJ => ?_) ⟨rfl, fun o ho => ⟨fun q => Or.inl q, fun q => q.elim id (fun ⟨_, c, hc0, _⟩ => absurd hc0 (Nat.not_lt_zero c))⟩⟩
    · obtain ⟨e, hb⟩ := hJ
      unfold f_X8_hanging_S16 f_X8_hanging_J26
      rw [e, if_neg (ge_25 hk)]
      have inner : OK (lp (fun q => f_X8_hanging_S26 cells a1 was (nI k) q.1 q.2) (s.1, (0 : Int32))) (fun r => ∀ o, o < 32 → (bt r o = true ↔ (bt s.1 o = true ∨ (bt cells o = true ∧ bt was k = true ∧ ∃ w, w < 4 ∧ nbr k w = o)))) := by
        by_cases hk1 : bt was k = true
        · refine ok_lp (fun n t => t.2 = nI n ∧ ∀ o, o < 32 → (bt t.1 o = true ↔ (bt s.1 o = true ∨ (bt cells o = true ∧ bt was k = true ∧ ∃ w, w < n ∧ nbr k w = o)))) 4 (fun n t hn hT => Or.inl ?_) (fun t hT => ?_) ⟨rfl, fun o ho => ⟨fun q => Or.inl q, fun q => q.elim id (fun ⟨_, _, c, hc0, _⟩ => absurd hc0 (Nat.not_lt_zero c))⟩⟩
          · obtain ⟨e2, hb2⟩ := hT
            unfold f_X8_hanging_S26
            rw [e2, if_neg (ge_4 hn), nm_s, m_has was (by omega), if_pos hk1, if_neg (by decide), nm_s, m_beside k hk n hn]
            have fall : (¬ (nbr k n < 25 ∧ bt cells (nbr k n) = true)) → ∀ o, o < 32 → (bt t.1 o = true ↔ (bt s.1 o = true ∨ (bt cells o = true ∧ bt was k = true ∧ ∃ w, w < n + 1 ∧ nbr k w = o))) := by
              intro hn2 o ho
              rw [hb2 o ho]
              constructor
              · rintro (q | ⟨q1, q2, w, hw, q3⟩)
                · exact Or.inl q
                · exact Or.inr ⟨q1, q2, w, by omega, q3⟩
              · rintro (q | ⟨q1, q2, w, hw, q3⟩)
                · exact Or.inl q
                · by_cases z : w = n
                  · exfalso
                    subst z
                    refine hn2 ⟨?_, by rw [q3]; exact q1⟩
                    rw [q3]
                    by_cases y : o < 25
                    · exact y
                    · rw [hc o (by omega)] at q1; cases q1
                  · exact Or.inr ⟨q1, q2, w, by omega, q3⟩
            by_cases h25 : nbr k n < 25
            · rw [if_pos h25, if_neg (nI_pos (by omega)), nm_s, m_has cells (by omega)]
              by_cases hcell : bt cells (nbr k n) = true
              · rw [if_pos hcell, if_neg (by decide)]
                unfold f_X8_hanging_J73
                rw [nm_s, nm_s, nI_1]
                refine ⟨_, rfl, rfl, fun o ho => ?_⟩
                show bt (t.1 ||| _) o = true ↔ _
                rw [b_or, bt_bit (by omega) ho, Bool.or_eq_true, hb2 o ho, decide_eq_true_eq]
                constructor
                · rintro ((q | ⟨q1, q2, w, hw, q3⟩) | q)
                  · exact Or.inl q
                  · exact Or.inr ⟨q1, q2, w, by omega, q3⟩
                  · exact Or.inr ⟨by rw [q]; exact hcell, hk1, n, by omega, q.symm⟩
                · rintro (q | ⟨q1, q2, w, hw, q3⟩)
                  · exact Or.inl (Or.inl q)
                  · by_cases z : w = n
                    · subst z
                      exact Or.inr q3.symm
                    · exact Or.inl (Or.inr ⟨q1, q2, w, by omega, q3⟩)
              · rw [if_neg hcell, if_pos rfl]
                unfold f_X8_hanging_J72 f_X8_hanging_J73
                rw [nm_s, nm_s, nI_1]
                refine ⟨_, rfl, rfl, ?_⟩
                show ∀ o, o < 32 → (bt (t.1 ||| 0) o = true ↔ _)
                rw [show t.1 ||| 0 = t.1 from b_ext (fun i _ => by rw [b_or, b_0, Bool.or_false])]
                exact fall (fun q => hcell q.2)
            · rw [if_neg h25, if_pos (by decide)]
              unfold f_X8_hanging_J72 f_X8_hanging_J73
              rw [nm_s, nm_s, nI_1]
              refine ⟨_, rfl, rfl, ?_⟩
              show ∀ o, o < 32 → (bt (t.1 ||| 0) o = true ↔ _)
              rw [show t.1 ||| 0 = t.1 from b_ext (fun i _ => by rw [b_or, b_0, Bool.or_false])]
              exact fall (fun q => h25 q.1)
          · obtain ⟨e2, hb2⟩ := hT
            unfold f_X8_hanging_S26
            rw [e2]
            exact ⟨_, rfl, hb2⟩
        · refine ⟨s.1, lp_exit ?_, fun o ho => ⟨fun q => Or.inl q, fun q => q.elim id (fun ⟨_, q, _⟩ => absurd q hk1)⟩⟩
          show f_X8_hanging_S26 cells a1 was (nI k) s.1 0 = _
          unfold f_X8_hanging_S26
          rw [if_neg (by decide), nm_s, m_has was (by omega), if_neg hk1, if_pos rfl]
      obtain ⟨r, er, hr⟩ := inner
      rw [er, bnd_s]
      unfold f_X8_hanging_J81
      rw [nm_s, nI_1]
      refine ⟨_, rfl, rfl, fun o ho => ?_⟩
      show bt r o = true ↔ _
      rw [hr o ho, hb o ho]
      constructor
      · rintro ((q | ⟨q1, c, hc0, q2, q3⟩) | ⟨q1, q2, q3⟩)
        · exact Or.inl q
        · exact Or.inr ⟨q1, c, by omega, q2, q3⟩
        · exact Or.inr ⟨q1, k, by omega, q2, q3⟩
      · rintro (q | ⟨q1, c, hc0, q2, q3⟩)
        · exact Or.inl (Or.inl q)
        · by_cases z : c = k
          · subst z
            exact Or.inr ⟨q1, q2, q3⟩
          · exact Or.inl (Or.inr ⟨q1, c, by omega, q2, q3⟩)
    · obtain ⟨e, hb⟩ := hJ
      unfold f_X8_hanging_S16
      rw [e]
      exact ⟨_, rfl, hb⟩
  · refine b_ext (fun o ho => ?_)
    have h2 : bt (Fj cells was) o = true ↔ (bt was o = true ∨ (bt cells o = true ∧ ∃ c, c < 25 ∧ bt was c = true ∧ ∃ w, w < 4 ∧ nbr c w = o)) := by
      unfold Fj
      rw [b_and, b_or, Bool.and_eq_true, Bool.or_eq_true]
      constructor
      · rintro ⟨q | q, qc⟩
        · exact Or.inl q
        · refine Or.inr ⟨qc, ?_⟩
          have o25 : o < 25 := by
            by_cases y : o < 25
            · exact y
            · rw [hc o (by omega)] at qc; cases qc
          obtain ⟨w, hw4, h25, hb⟩ := (bt_beside cw o25).mp q
          exact ⟨nbr o w, h25, hb, (nbr_sym (nbr o w) h25 o o25).mpr ⟨w, hw4, rfl⟩⟩
      · rintro (q | ⟨qc, c, hc0, q2, q3⟩)
        · exact ⟨Or.inl q, hw o ho q⟩
        · have o25 : o < 25 := by
            by_cases y : o < 25
            · exact y
            · rw [hc o (by omega)] at qc; cases qc
          obtain ⟨w, hw4, e⟩ := (nbr_sym c hc0 o o25).mp q3
          exact ⟨Or.inr ((bt_beside cw o25).mpr ⟨w, hw4, by rw [e]; exact hc0, by rw [e]; exact q2⟩), qc⟩
    cases z : bt (Fj cells was) o with
    | true => exact (hr o ho).mpr (h2.mp z)
    | false =>
      cases y : bt r o with
      | false => rfl
      | true => rw [h2.mpr ((hr o ho).mp y)] at z; cases z
theorem m_hanging {start cells : Int32} (hc : C25 cells) : f_X8_hanging cells start = some (jn start cells) := by
  unfold f_X8_hanging f_X8_hanging_J6
  rw [nm_s, show cells &&& start = start &&& cells from b_ext (fun i _ => by rw [b_and, b_and, Bool.and_comm])]
  have hs := sub_and start cells
  obtain ⟨k, hk, e, hno, e25⟩ := first_fix hc hs
  have step : ∀ x y, sub x cells → x ≠ y → f_X8_hanging_S6 cells start x y = some (.inl (Fj cells x, x)) := fun x y hx ne => by
    unfold f_X8_hanging_S6 f_X8_hanging_J16
    rw [if_neg ne, (m_hang1 (a1 := start) hc hx).eq, bnd_s]
    rfl
  have from1 : lp (fun q => f_X8_hanging_S6 cells start q.1 q.2) (itF cells 1 (start &&& cells), itF cells 0 (start &&& cells)) = some (itF cells k (start &&& cells)) := by
    refine lp_run' (fun n => (itF cells (n + 1) (start &&& cells), itF cells n (start &&& cells))) k rfl (fun n hn => ?_) ?_
    · exact step _ _ (itF_in hs (n + 1)) (hno n hn)
    · show f_X8_hanging_S6 cells start (itF cells (k + 1) (start &&& cells)) (itF cells k (start &&& cells)) = _
      unfold f_X8_hanging_S6
      rw [if_pos (show itF cells (k + 1) (start &&& cells) = itF cells k (start &&& cells) from e)]
      exact congrArg (fun z => some (Sum.inr z)) e
  have all : lp (fun q => f_X8_hanging_S6 cells start q.1 q.2) (start &&& cells, 0) = some (itF cells k (start &&& cells)) := by
    by_cases z : start &&& cells = 0
    · have k0 : itF cells k (start &&& cells) = 0 := by
        rw [e25, show 25 = 0 + 25 from rfl, itF_fix (n := 0) (by show Fj cells (start &&& cells) = start &&& cells; rw [z]; exact Fj_0 _)]
        exact z
      refine lp_exit ?_
      show f_X8_hanging_S6 cells start (start &&& cells) 0 = _
      unfold f_X8_hanging_S6
      rw [if_pos z, k0, z]
    · exact lp_go (step _ _ hs z) from1
  rw [all, bnd_s, e25]
  rfl
theorem m_edge : f_X8_edge = some 33080895 := by
  unfold f_X8_edge f_X8_edge_J4
  have tab : ∃ E : Nat → Int32, E 0 = 0 ∧ E 25 = 33080895 ∧ ∀ c, c < 25 → itr (fun q => f_X8_edge_S12 (nI c) q.1 q.2) 6 (E c, 0) = some (E (c + 1)) := by
    refine ⟨fun c => nI (((List.range c).filter (fun j => decide (j < 5 ∨ 20 ≤ j ∨ j % 5 = 0 ∨ j % 5 = 4))).foldl (fun a j => a + 2 ^ j) 0), rfl, by decide +kernel, ?_⟩
    decide +kernel
  obtain ⟨E, e0, e25, hE⟩ := tab
  refine (bnd_eq (lp_run' (fun c => (E c, nI c)) (r := E 25) 25 (by rw [e0]; rfl) (fun c hc => ?_) ?_)).trans (congrArg some e25)
  · show f_X8_edge_S4 (E c) (nI c) = _
    unfold f_X8_edge_S4 f_X8_edge_J12
    rw [if_neg (ge_25 hc), lp_of (hE c hc), bnd_s]
    unfold f_X8_edge_J41
    rw [nm_s, nI_1]
  · show f_X8_edge_S4 (E 25) (nI 25) = _
    unfold f_X8_edge_S4
    rw [if_pos gl_25]
/-- what falls -/
noncomputable def fal (d : Int32) : Int32 := d &&& (jn 33080895 d ^^^ -1)
theorem c_fallen {d : Int32} (h : C25 d) : f_X0_fallen d = some (fal d) := by unfold f_X0_fallen; rw [c_joined h]; rfl
theorem m_looseOf {d : Int32} (h : C25 d) : f_X8_looseOf d = some (fal d) := by unfold f_X8_looseOf; rw [m_edge, bnd_s, m_hanging h]; rfl
theorem t_loose : T_loose Inv := by
  intro ls_hasImage tp_bytes tp_length tp_fault nw_sheets nw_cells nw_pasted nw_masks nw_uses nw_slots nw_slotK nw_slotX nw_slotY nw_setting nw_scenes nw_wishes nw_frames nw_frameRows nw_seen nw_seenRows nw_width nw_hands kp_sheets kp_cells kp_pasted kp_masks kp_uses kp_slots kp_slotK kp_slotX kp_slotY kp_setting kp_scenes kp_wishes kp_frames kp_frameRows kp_seen kp_seenRows kp_width kp_hands nr_size nr_rows kr_size kr_rows m_thrown m_world m_image m_hasImage m_tape m_taped m_faultAt m_rectangle m_hasRectangles hI a0
  obtain ⟨ns, nl, nc, nf, nk, nr, ⟨b1, b2, b3, b4, b5, b6⟩, ⟨rfl, rfl, rfl, rfl, rfl, rfl⟩, ⟨w0, w1, w2, w3, w4, w5, w6, w7⟩, hwd, hSh, hSl, hIn, hSc, hFr, hSe, hRu⟩ := hI.1
  unfold f_X7_loose f_X8_loose
  rcases pk_ix a0 (n := ns) (by omega) with h | h | ⟨j, hj, rfl⟩
  · rw [c_needSheet_no (by omega) (Or.inl h), m_noSheet_no b1 w0 (Or.inl h)]
    exact Or.inr ⟨_, _, rfl, rfl, rfl, hI⟩
  · rw [c_needSheet_no (by omega) (Or.inr h), m_noSheet_no b1 w0 (Or.inr h)]
    exact Or.inr ⟨_, _, rfl, rfl, rfl, hI⟩
  · obtain ⟨q1, q2, q3, q4, q5, q6, q7⟩ := hSh j hj
    rw [c_needSheet_yes (by omega) hj, m_noSheet_yes b1 w0 hj, xb_l, chk_n (by omega) (by decide), bnd_s, m_thr0, bnd_s, if_pos rfl, show (1 : Int32) = nI 1 from rfl, m_of (by omega) (by decide), bnd_s, nI_clamp (by omega), q2, c_fallen q5, m_looseOf q5, bnd_s, bnd_s]
    exact Or.inl ⟨_, _, rfl, rfl, rfl, rfl, hI⟩
