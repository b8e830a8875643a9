/-! ===== the model's search ===== -/
def RM (ok : Nat → Bool) (W : Nat → Nat) (C : Nat → Int32) (m : Nat) (best few many : Int32) : Prop := ((Zs ok W C m).2.2 = 0 → best = -1) ∧ ((Zs ok W C m).2.2 ≠ 0 → best = nI ((Zs ok W C m).2.2 - 1) ∧ few = nI (Zs ok W C m).1 ∧ many = (Zs ok W C m).2.1)
theorem Zs_bc {ok : Nat → Bool} {W : Nat → Nat} {C : Nat → Int32} : ∀ m, (Zs ok W C m).2.2 ≤ m ∧ ((Zs ok W C m).2.2 = 0 → (Zs ok W C m).1 = 1000000) ∧ ((Zs ok W C m).2.2 ≠ 0 → ok ((Zs ok W C m).2.2 - 1) = true ∧ W ((Zs ok W C m).2.2 - 1) = (Zs ok W C m).1) ∧ ∀ k, k < m → ok k = true → (Zs ok W C m).1 ≤ W k := by
  intro m
  induction m with
  | zero => exact ⟨Nat.le_refl _, fun _ => rfl, fun h => absurd rfl h, fun k hk => absurd hk (Nat.not_lt_zero k)⟩
  | succ m ih =>
    obtain ⟨i1, i2, i3, i4⟩ := ih
    have e : Zs ok W C (m + 1) = if ok m = true ∧ (W m < (Zs ok W C m).1 ∨ (W m = (Zs ok W C m).1 ∧ C m < (Zs ok W C m).2.1)) then (W m, C m, m + 1) else Zs ok W C m := rfl
    rw [e]
    by_cases h : ok m = true ∧ (W m < (Zs ok W C m).1 ∨ (W m = (Zs ok W C m).1 ∧ C m < (Zs ok W C m).2.1))
    · rw [if_pos h]
      refine ⟨Nat.le_refl _, fun q => absurd q (by show ¬ m + 1 = 0; omega), fun _ => ⟨h.1, rfl⟩, fun k hk ho => ?_⟩
      show W m ≤ W k
      rcases Nat.lt_succ_iff_lt_or_eq.mp hk with z | rfl
      · have := i4 k z ho
        rcases h.2 with q | ⟨q, _⟩ <;> omega
      · exact Nat.le_refl _
    · rw [if_neg h]
      refine ⟨by omega, i2, i3, fun k hk ho => ?_⟩
      rcases Nat.lt_succ_iff_lt_or_eq.mp hk with z | rfl
      · exact i4 k z ho
      · rcases Nat.lt_or_ge (W k) (Zs ok W C k).1 with q | q
        · exact absurd ⟨ho, Or.inl q⟩ h
        · exact q
theorem Zs_found {ok : Nat → Bool} {W : Nat → Nat} {C : Nat → Int32} (h0 : ok 0 = true) (hw : W 0 < 1000000) : ∀ m, (Zs ok W C (m + 1)).2.2 ≠ 0 := by
  intro m
  induction m with
  | zero =>
    have e : Zs ok W C (0 + 1) = if ok 0 = true ∧ (W 0 < (Zs ok W C 0).1 ∨ (W 0 = (Zs ok W C 0).1 ∧ C 0 < (Zs ok W C 0).2.1)) then (W 0, C 0, 0 + 1) else Zs ok W C 0 := rfl
    rw [e, if_pos (show ok 0 = true ∧ (W 0 < (Zs ok W C 0).1 ∨ (W 0 = (Zs ok W C 0).1 ∧ C 0 < (Zs ok W C 0).2.1)) from ⟨h0, Or.inl hw⟩)]
    show ¬ 0 + 1 = 0
    decide
  | succ m ih =>
    show (if _ then _ else _ : Nat × Int32 × Nat).2.2 ≠ 0
    split
    · show ¬ m + 1 + 1 = 0; omega
    · exact ih
theorem RM.skip {ok : Nat → Bool} {W : Nat → Nat} {C : Nat → Int32} {m : Nat} {best few many : Int32} (h : RM ok W C m best few many) (e : ok m = false) : RM ok W C (m + 1) best few many := by
  unfold RM
  rw [Zs_skip e]
  exact h
theorem m_tries {ok : Nat → Bool} {W : Nat → Nat} {C : Nat → Int32} {w f : Nat → Int32} {m : Nat} {best few many first : Int32} (hok : ok m = true) (hw : ∀ k, W k < 1000000) (hC : f_X8_many w f = some (C m)) (hm : m < 1000000) (hR : RM ok W C m best few many) (hf : first = if 0 ≤ best then 0 else 1) :
    ∃ o, f_X8_tries w f best few many (nI m) (nI (W m)) first = some o ∧ RM ok W C (m + 1) o.1 o.2.1 o.2.2 := by
  obtain ⟨b1, b2, b3, b4⟩ := Zs_bc (ok := ok) (W := W) (C := C) m
  have hle := Zs_le (ok := ok) (C := C) hw m
  have hwm := hw m
  have e : Zs ok W C (m + 1) = if ok m = true ∧ (W m < (Zs ok W C m).1 ∨ (W m = (Zs ok W C m).1 ∧ C m < (Zs ok W C m).2.1)) then (W m, C m, m + 1) else Zs ok W C m := rfl
  have take : Zs ok W C (m + 1) = (W m, C m, m + 1) → RM ok W C (m + 1) (nI m) (nI (W m)) (C m) := fun ez => by
    unfold RM
    rw [ez]
    exact ⟨fun q => absurd q (by show ¬ m + 1 = 0; omega), fun _ => ⟨rfl, rfl, rfl⟩⟩
  have stay : Zs ok W C (m + 1) = Zs ok W C m → RM ok W C (m + 1) best few many := fun ez => by
    unfold RM
    rw [ez]
    exact hR
  unfold f_X8_tries f_X8_tries_J32
  rw [hC, bnd_s, bnd_s]
  by_cases z : (Zs ok W C m).2.2 = 0
  · have eb := hR.1 z
    have hf1 : first = 1 := by rw [hf, eb]; rfl
    rw [hf1, if_neg (by decide)]
    refine ⟨_, rfl, take ?_⟩
    rw [e, if_pos ⟨hok, Or.inl (by rw [b2 z]; exact hwm)⟩]
  · obtain ⟨eb, ef, em⟩ := hR.2 z
    have hf0 : first = 0 := by rw [hf, if_pos (show (0 : Int32) ≤ best by rw [eb]; exact nI_pos' (by omega))]
    rw [hf0, if_pos rfl, ef, em]
    by_cases a1 : (Zs ok W C m).1 < W m
    · rw [if_pos (nI_lt a1 (by omega))]
      refine ⟨_, rfl, ?_⟩
      have := stay (by rw [e, if_neg]; rintro ⟨_, q | ⟨q, _⟩⟩ <;> omega)
      rw [ef, em] at this
      exact this
    · rw [if_neg (nI_nlt (by omega) (by omega))]
      by_cases a2 : W m = (Zs ok W C m).1
      · rw [if_pos (by rw [a2])]
        by_cases a3 : C m < (Zs ok W C m).2.1
        · rw [if_pos a3]
          refine ⟨_, rfl, take ?_⟩
          rw [e, if_pos ⟨hok, Or.inr ⟨a2, a3⟩⟩]
        · rw [if_neg a3]
          refine ⟨_, rfl, ?_⟩
          have := stay (by rw [e, if_neg]; rintro ⟨_, q | ⟨_, q⟩⟩; omega; exact a3 q)
          rw [ef, em] at this
          exact this
      · rw [if_neg (mt (nI_eq (by omega) (by omega)).mp a2)]
        refine ⟨_, rfl, take ?_⟩
        rw [e, if_pos ⟨hok, Or.inl (by omega)⟩]
theorem okm_nod {rows K : Nat → Int32} {ns nl nr m : Nat} (h : okm rows K ns nl nr m = true) : nod (stm ns nl m) = true := by
  unfold okm at h
  rw [Bool.and_eq_true] at h
  exact h.1
theorem m_manyAt {w f : Nat → Int32} {ns nl m : Nat} (w1 : w 1 = nI nl) (h6 : ns ≤ 6) (h4 : nl ≤ 4) (hn : nod (stm ns nl m) = true) (hf : ∀ l, l < 4 → f l = stm ns nl m l) : f_X8_many w f = some (cnt4 (stm ns nl m) 4) := by
  rw [m_many w1 h4 (by omega) ((stm_set h6 hn).cong hf), cnt4_cong hf 4 (by decide)]
theorem m_findsBest {w made st rows K X Y : Nat → Int32} {wishes : Nat → Int64} {V : Nat → Nat → Nat → Nat} {u : Nat → Nat} {ns nl nr c : Nat} {best few many : Int32} (w0 : w 0 = nI ns) (w1 : w 1 = nI nl) (w7 : w 7 = nI nr) (h6 : ns ≤ 6) (h4 : nl ≤ 4) (h20 : nr ≤ 20) (hc : c < 6) (hS : SlO nl K X Y w) (hR : RuO ns nl nr rows w)
    (hM : ∀ l, l < nl → ∀ s, s < ns → ∀ p, p < 144 → made (864 * l + 144 * s + p) = nI (V l s p)) (h2 : ∀ l s p, V l s p ≤ 2) (hU : TU w wishes c u) :
    OK (f_X8_findsBest w made st best few many (nI c)) (fun r => r.2.2.1 = nI (Zs (okm rows K ns nl nr) (fun m => Sk (fun _ => V) (fun _ => u) (stm ns nl m) 1) (fun m => cnt4 (stm ns nl m) 4) (nst ns nl)).1 ∧ ∀ l, l < 4 → r.1 l = stm ns nl ((Zs (okm rows K ns nl nr) (fun m => Sk (fun _ => V) (fun _ => u) (stm ns nl m) 1) (fun m => cnt4 (stm ns nl m) 4) (nst ns nl)).2.2 - 1) l) := by
  have hN := nst_le (nl := nl) h6
  have hNp := nst_pos ns nl
  have hw : ∀ m, Sk (fun _ => V) (fun _ => u) (stm ns nl m) 1 < 1000000 := fun m => by have := Sk_le (fun _ => V) (fun _ => u) (stm ns nl m) 1; omega
  have eW : ∀ m, Sk (fun _ => V) (fun _ => u) (stm ns nl m) 1 = nW V (stm ns nl m) u := fun m => by unfold Sk; rw [fb_sm_succ]; exact Nat.zero_add _
  unfold f_X8_findsBest f_X8_findsBest_J7
  refine ok_bnd (P := fun z => RM (okm rows K ns nl nr) (fun m => Sk (fun _ => V) (fun _ => u) (stm ns nl m) 1) (fun m => cnt4 (stm ns nl m) 4) (nst ns nl) z.2.1 z.2.2.1 z.2.2.2) ?_ (fun z hz => ?_)
  · refine ok_lp (fun m s => s.1 = nI m ∧ RM (okm rows K ns nl nr) (fun m => Sk (fun _ => V) (fun _ => u) (stm ns nl m) 1) (fun m => cnt4 (stm ns nl m) 4) m s.2.2.1 s.2.2.2.1 s.2.2.2.2) (nst ns nl) (fun m s hm hJ => Or.inl ?_) (fun s hJ => ?_) ⟨rfl, fun _ => rfl, fun h => absurd rfl h⟩
    · obtain ⟨e, hRM⟩ := hJ
      obtain ⟨o, eo, o1, o2⟩ := m_opens (st := s.2.1) (rows := rows) (K := K) w0 w1 w7 h6 h4 h20 hS hR (show m < 1000000 by omega)
      unfold f_X8_findsBest_S7 f_X8_findsBest_J42 f_X8_findsBest_J45
      rw [m_settings w0 w1 h6 h4, bnd_s, e, if_neg (nI_ge hm (by omega)), eo, bnd_s, o1]
      cases hok : okm rows K ns nl nr m with
      | false =>
        rw [if_pos (show b2 false = 0 from rfl), nm_s, nI_1]
        exact ⟨_, rfl, rfl, hRM.skip hok⟩
      | true =>
        have hn := okm_nod hok
        obtain ⟨q, eq, hq⟩ := m_tries (w := w) (f := o.2) hok hw (m_manyAt w1 h6 h4 hn o2) (show m < 1000000 by omega) hRM rfl
        rw [if_neg (show ¬ b2 true = 0 by decide), m_wrongNow w1 h6 h4 hc ((stm_set h6 hn).cong o2) (fun l s p hl hs hp _ => hM l hl s hs p hp) h2 hU, bnd_s, nW_cong o2, ← eW]
        by_cases b0 : 0 ≤ s.2.2.1
        · rw [if_pos b0] at eq
          rw [if_pos b0, eq, bnd_s, nm_s, nI_1]
          exact ⟨_, rfl, rfl, hq⟩
        · rw [if_neg b0] at eq
          rw [if_neg b0, eq, bnd_s, nm_s, nI_1]
          exact ⟨_, rfl, rfl, hq⟩
    · obtain ⟨e, hRM⟩ := hJ
      unfold f_X8_findsBest_S7
      rw [m_settings w0 w1 h6 h4, bnd_s, e, if_pos (Int32.le_refl _)]
      exact ⟨_, rfl, hRM⟩
  · have hfound := Zs_found (W := fun m => Sk (fun _ => V) (fun _ => u) (stm ns nl m) 1) (C := fun m => cnt4 (stm ns nl m) 4) (okm_zero (K := K) hR h6 h4 h20) (hw 0) (nst ns nl - 1)
    rw [show nst ns nl - 1 + 1 = nst ns nl by omega] at hfound
    have hb := (Zs_bc (ok := okm rows K ns nl nr) (W := fun m => Sk (fun _ => V) (fun _ => u) (stm ns nl m) 1) (C := fun m => cnt4 (stm ns nl m) 4) (nst ns nl)).1
    obtain ⟨e1, e2, e3⟩ := hz.2 hfound
    unfold f_X8_findsBest_J51
    obtain ⟨o, eo, o1, o2⟩ := m_opens (st := z.1) (rows := rows) (K := K) w0 w1 w7 h6 h4 h20 hS hR (show (Zs (okm rows K ns nl nr) (fun m => Sk (fun _ => V) (fun _ => u) (stm ns nl m) 1) (fun m => cnt4 (stm ns nl m) 4) (nst ns nl)).2.2 - 1 < 1000000 by omega)
    rw [e1, eo, bnd_s]
    exact ⟨_, rfl, e2, o2⟩
/-! ===== best, bound ===== -/
theorem c_over {cells masks K X Y w : Nat → Int32} {rows : Nat → Int32} {wishes full half two one missed always : Nat → Int64} {cv dp trial vs first sos : Nat → Int32} {W seat views fsh few perf : Int32} {u : Nat → Nat} {ns nl nr c light t : Nat} (h6 : ns ≤ 6) (h4 : nl ≤ 4) (h20 : nr ≤ 20) (hc : c < 6) (hS : SlO nl K X Y w) (hR : RuO ns nl nr rows w) (hW : W = 0 ∨ W = 1) (hL : light < 3) (ht : t < 7) (hseat : seat = nI t - 3) (hU : TU w wishes c u) :
    OK (f_X2_over (nI ns) cells masks (nI nl) K X Y wishes W full half cv dp two one missed trial vs views first fsh few perf always (nI nr) rows sos (nI c) (nI light) seat) (fun o => RS (okm rows K ns nl nr) (fun m => Sk (fun _ => VV cells masks K X Y W light seat) (fun _ => u) (stm ns nl m) 1) (fun m => cnt4 (stm ns nl m) 4) (fun m p => wrb (VV cells masks K X Y W light seat) (stm ns nl m) u p) (stm ns nl) 1 (nst ns nl) o.2.2.2.2.2.2.2.2.2.2.1 o.2.2.2.2.2.2.2.2.2.2.2.1 o.2.2.2.2.2.2.2.2.2.2.2.2.1 o.2.2.2.2.2.2.2.2.2.2.2.2.2.1 o.2.2.2.2.2.2.2.2.2.2.2.2.2.2.1) := by
  obtain ⟨l1, e1, g1⟩ := c_look0 (full := full) (half := half) (cells := cells) (masks := masks) (cv := cv) (dp := dp) h6 h4 hS hW hL ht hseat
  have hWH := c_weighs (rows := rows) (K := K) (wishes := wishes) (full := l1.1) (half := l1.2.1) (vs := upd vs ((0 : Int32)).toNatClampNeg (nI c)) (nv := 1) (cc := fun _ => c) (V := fun _ => VV cells masks K X Y W light seat) (u := fun _ => u) h6 h4 h20 (by decide) hR (fun k hk => by
    obtain rfl : k = 0 := by omega
    refine ⟨upd_same _ _ _, hc, hU, fun l hl s hs => ?_⟩
    rw [Nat.mul_zero, Nat.zero_add]
    exact g1 l hl s hs) (fun k => VV_le _ _ _ _ _ _ _ _)
  obtain ⟨o, eo, ho⟩ := c_search (two := two) (one := one) (missed := missed) (always := always) (trial := trial) (first := first) (sos := sos) (fsh := fsh) (few := few) (perf := perf) h6 h4 hWH
  unfold f_X2_over
  have eo' : f_X2_searchAll (nI ns) (nI nl) K wishes l1.1 l1.2.1 two one missed trial (upd vs ((0 : Int32)).toNatClampNeg (nI c)) (1 : Int32) first fsh few perf always (nI nr) rows sos = some o := eo
  rw [chk_eq (vp_dec0 (by decide)), nm_s, e1, bnd_s, eo', bnd_s]
  exact ⟨_, rfl, ho⟩
theorem t_best : T_best Inv := by
  intro ls_hasImage tp_bytes tp_length tp_fault nw_sheets nw_cells nw_pasted nw_masks nw_uses nw_slots nw_slotK nw_slotX nw_slotY nw_setting nw_scenes nw_wishes nw_frames nw_frameRows nw_seen nw_seenRows nw_width nw_hands kp_sheets kp_cells kp_pasted kp_masks kp_uses kp_slots kp_slotK kp_slotX kp_slotY kp_setting kp_scenes kp_wishes kp_frames kp_frameRows kp_seen kp_seenRows kp_width kp_hands sg_full sg_half sg_covered sg_deepest sg_two sg_one sg_missed se_trial se_viewScenes se_views se_first se_firstSheets se_fewest se_perfect se_always nr_size nr_rows nr_slotOfSheet kr_size kr_rows m_thrown m_world m_image m_hasImage m_tape m_taped m_faultAt m_rectangle m_hasRectangles m_made m_setting m_best m_fewest m_bestMany hI a0 a1 a2 a3
  obtain ⟨ns, nl, nc, nf, nk, nr, ⟨b1, b2, b3, b4, b5, b6⟩, ⟨rfl, rfl, rfl, rfl, rfl, rfl⟩, ⟨w0, w1, w2, w3, w4, w5, w6, w7⟩, hwd, hSh, hSl, hIn, hSc, hFr, hSe, hRu⟩ := hI.1
  by_cases hv : (∃ j, j < nc ∧ a0 = nI j) ∧ View a1 a2 ∧ (a3 = -1 ∨ ∃ l, l < nl ∧ a3 = nI l)
  · obtain ⟨⟨j, hj, rfl⟩, hw, h3⟩ := hv
    have hw' := hw
    obtain ⟨⟨i, hi, rfl⟩, t, ht, rfl⟩ := hw'
    have hU := TU_of hSc hj
    obtain ⟨o, eo, ho⟩ := c_over (cells := nw_cells) (masks := nw_masks) (full := sg_full) (half := sg_half) (two := sg_two) (one := sg_one) (missed := sg_missed) (always := se_always) (cv := sg_covered) (dp := sg_deepest) (trial := se_trial) (vs := se_viewScenes) (first := se_first) (sos := nr_slotOfSheet) (views := se_views) (fsh := se_firstSheets) (few := se_fewest) (perf := se_perfect) b1 b2 b6 (show j < 6 by omega) hSl hRu hwd hi ht rfl hU
    obtain ⟨m1, k1, j1⟩ := m_lays (made := m_made) b1 b2 w0 w1 hSh hSl w5 hwd hi ht rfl
    obtain ⟨v, ev, p1, p2⟩ := m_findsBest (st := m_setting) (best := m_best) (few := m_fewest) (many := m_bestMany) w0 w1 w7 b1 b2 b6 (show j < 6 by omega) hSl hRu j1 (VV_le _ _ _ _ _ _ _ _) hU
    have hfound := Zs_found (W := fun m => Sk (fun _ => (VV nw_cells nw_masks nw_slotK nw_slotX nw_slotY nw_width i (nI t - 3))) (fun _ => (fun p => (m_world (48 + 144 * j + p)).toNatClampNeg)) (stm ns nl m) 1) (C := fun m => cnt4 (stm ns nl m) 4) (okm_zero (K := nw_slotK) hRu b1 b2 b6) (by have := Sk_le (fun _ => (VV nw_cells nw_masks nw_slotK nw_slotX nw_slotY nw_width i (nI t - 3))) (fun _ => (fun p => (m_world (48 + 144 * j + p)).toNatClampNeg)) (stm ns nl 0) 1; omega) (nst ns nl - 1)
    rw [show nst ns nl - 1 + 1 = nst ns nl by have := nst_pos ns nl; omega] at hfound
    rcases h3 with rfl | ⟨l, hl, rfl⟩
    · refine Or.inl ⟨(o.2.2.2.2.2.2.2.2.2.2.2.2.1, o), (v.2.2.1, 0, m1, v.1, v.2.1, v.2.2.1, v.2.2.2), ?_, ?_, rfl, ho.1.trans p1.symm, hI⟩
      · unfold f_X7_best f_X7_best_J23
        rw [c_needScene_yes (by omega) hj, xb_l, (view_yes hw).1, xb_l, if_pos rfl, eo, bnd_s, if_pos rfl]
      · unfold f_X8_best f_X8_best_J42 f_X8_best_J43
        rw [m_noScene_yes b3 w2 hj, bnd_s, if_pos rfl, nm_s, (view_yes hw).2, if_pos rfl, if_pos rfl, m_thr0, bnd_s, if_pos rfl, k1, bnd_s, ev, bnd_s, if_pos rfl]
    · refine Or.inl ⟨(o.2.2.2.2.2.2.2.2.2.2.1 l, o), (v.1 l, 0, m1, v.1, v.2.1, v.2.2.1, v.2.2.2), ?_, ?_, rfl, (ho.2.2.1 hfound l (by omega)).trans (p2 l (by omega)).symm, hI⟩
      · unfold f_X7_best f_X7_best_J23
        rw [c_needScene_yes (by omega) hj, xb_l, (view_yes hw).1, xb_l, if_neg (nI_m1 (by omega)), c_needSlot_yes (by omega) hl, xb_l, eo, bnd_s, if_neg (nI_m1 (by omega)), chk_n (by omega) (by decide), nI_clamp (by omega)]
      · unfold f_X8_best f_X8_best_J42 f_X8_best_J43
        rw [m_noScene_yes b3 w2 hj, bnd_s, if_pos rfl, nm_s, (view_yes hw).2, if_pos rfl, if_neg (nI_m1 (by omega)), m_noSlot_yes (by omega) w1 hl, bnd_s, if_pos rfl, m_thr0, bnd_s, if_pos rfl, k1, bnd_s, ev, bnd_s, if_neg (nI_m1 (by omega)), chk_n (by omega) (by decide), nI_clamp (by omega)]
  · have key : f_X7_best (nI ns) nw_cells nw_masks (nI nl) nw_slotK nw_slotX nw_slotY (nI nc) nw_wishes nw_width sg_full sg_half sg_covered sg_deepest sg_two sg_one sg_missed se_trial se_viewScenes se_views se_first se_firstSheets se_fewest se_perfect se_always (nI nr) nr_rows nr_slotOfSheet a0 a1 a2 a3 = some (.inr (2, (sg_full, sg_half, sg_covered, sg_deepest, sg_two, sg_one, sg_missed, se_trial, se_viewScenes, se_views, se_first, se_firstSheets, se_fewest, se_perfect, se_always, nr_slotOfSheet))) ∧ f_X8_best m_thrown m_world m_made m_setting m_best m_fewest m_bestMany a0 a1 a2 a3 = f_X8_best_J38 m_world a0 a1 a2 a3 0 m_made m_setting m_best m_fewest m_bestMany := by
      unfold f_X7_best f_X8_best
      rcases pk_ix a0 (n := nc) (by omega) with h | h | ⟨j, hj, rfl⟩
      · rw [c_needScene_no (by omega) (Or.inl h), m_noScene_no b3 w2 (Or.inl h)]; exact ⟨rfl, rfl⟩
      · rw [c_needScene_no (by omega) (Or.inr h), m_noScene_no b3 w2 (Or.inr h)]; exact ⟨rfl, rfl⟩
      · rw [c_needScene_yes (by omega) hj, m_noScene_yes b3 w2 hj, xb_l, bnd_s, if_pos rfl, nm_s]
        by_cases hw : View a1 a2
        · rw [(view_yes hw).1, (view_yes hw).2, xb_l, if_pos rfl]
          by_cases z : a3 = -1
          · exact absurd ⟨⟨j, hj, rfl⟩, hw, Or.inl z⟩ hv
          · rw [if_neg z, if_neg z]
            rcases pk_ix a3 (n := nl) (by omega) with h | h | ⟨l, hl, rfl⟩
            · rw [c_needSlot_no (by omega) (Or.inl h), m_noSlot_no (by omega) w1 (Or.inl h)]; exact ⟨rfl, rfl⟩
            · rw [c_needSlot_no (by omega) (Or.inr h), m_noSlot_no (by omega) w1 (Or.inr h)]; exact ⟨rfl, rfl⟩
            · exact absurd ⟨⟨j, hj, rfl⟩, hw, Or.inr ⟨l, hl, rfl⟩⟩ hv
        · rw [(view_no hw).1, (view_no hw).2]; exact ⟨rfl, rfl⟩
    rw [key.1, key.2]
    unfold f_X8_best_J38 f_X8_best_J43
    rw [m_thr1, bnd_s, if_neg (by decide)]
    exact Or.inr ⟨_, _, rfl, rfl, rfl, hI⟩
theorem c_alwaysMissed {always : Nat → Int64} {P : Nat → Bool} (h : ∀ p, p < 144 → bl (always (p / 48)) (p % 48) = P p) (hh : ∀ q, q < 3 → ∀ i, 48 ≤ i → bl (always q) i = false) : f_X2_alwaysMissed always = some (nI (fb_ct P 144)) := by
  unfold f_X2_alwaysMissed f_X2_alwaysMissed_J4 f_X2_alwaysMissed_J27
  have ct := part_ct h hh
  refine (bnd_eq (lp_run' (fun k => (nI (fb_ct P (48 * k)), nI k)) (r := nI (fb_ct P 144)) 3 rfl (fun k hk => ?_) rfl)).trans rfl
  show f_X2_alwaysMissed_S4 always (nI (fb_ct P (48 * k))) (nI k) = _
  unfold f_X2_alwaysMissed_S4
  rw [if_neg (ge_3 hk), chk_n hk (by decide), nm_s, nI_clamp (by omega), nm_s, nm_s, nI_1, ct k hk, nI_add, part_run _ k hk]
theorem nar_b2 (g : Bool) : vp_nar .boolean (b2 g) = b2 g := by cases g <;> rfl
theorem m_bound {w made st alw rows K X Y : Nat → Int32} {wishes : Nat → Int64} {V : Nat → Nat → Nat → Nat} {u : Nat → Nat} {ns nl nr c : Nat} {a1 a2 t : Int32} (w0 : w 0 = nI ns) (w1 : w 1 = nI nl) (w7 : w 7 = nI nr) (h6 : ns ≤ 6) (h4 : nl ≤ 4) (h20 : nr ≤ 20) (hc : c < 6) (hS : SlO nl K X Y w) (hR : RuO ns nl nr rows w)
    (hM : ∀ l, l < nl → ∀ s, s < ns → ∀ p, p < 144 → made (864 * l + 144 * s + p) = nI (V l s p)) (h2 : ∀ l s p, V l s p ≤ 2) (hU : TU w wishes c u) :
    OK (f_X8_bound_J46 w (nI c) a1 a2 (0 : Int32) t made st alw) (fun v => v.1 = nI (fb_ct (fun p => als (okm rows K ns nl nr) (fun m p => wrb V (stm ns nl m) u p) (nst ns nl) p) 144) ∧ v.2.1 = t) := by
  have hN := nst_le (nl := nl) h6
  have hm1 : OK (lp (fun q => f_X8_bound_S46 w (nI c) a1 a2 t made st q.1 q.2) ((0 : Int32), alw)) (fun r => ∀ p, p < 144 → r p = b2 true) := by
    refine ok_lp (fun k s => s.1 = nI k ∧ ∀ p, p < k → s.2 p = b2 true) 144 (fun k s hk hJ => Or.inl ?_) (fun s hJ => ?_) ⟨rfl, fun p hp => absurd hp (Nat.not_lt_zero p)⟩
    · obtain ⟨e, h1⟩ := hJ
      unfold f_X8_bound_S46
      rw [e, if_neg (ge_144 hk), chk_n hk (by decide), nm_s, nI_clamp (by omega), nm_s, nI_1, show vp_nar .boolean (1 : Int32) = b2 true from rfl]
      refine ⟨_, rfl, rfl, fun p hp => ?_⟩
      show upd _ _ _ _ = _
      rcases Nat.lt_succ_iff_lt_or_eq.mp hp with z | rfl
      · rw [upd_ne (by omega)]; exact h1 p z
      · exact upd_same _ _ _
    · obtain ⟨e, h1⟩ := hJ
      unfold f_X8_bound_S46
      rw [e, if_pos gl_144]
      exact ⟨_, rfl, h1⟩
  obtain ⟨al, ea, ha⟩ := hm1
  have hm2 : OK (lp (fun q => f_X8_bound_S71 w (nI c) a1 a2 t made q.1 q.2.1 q.2.2) ((0 : Int32), st, al)) (fun r => ∀ p, p < 144 → r.2 p = b2 (als (okm rows K ns nl nr) (fun m p => wrb V (stm ns nl m) u p) (nst ns nl) p)) := by
    refine ok_lp (fun m s => s.1 = nI m ∧ ∀ p, p < 144 → s.2.2 p = b2 (als (okm rows K ns nl nr) (fun m p => wrb V (stm ns nl m) u p) m p)) (nst ns nl) (fun m s hm hJ => Or.inl ?_) (fun s hJ => ?_) ⟨rfl, ha⟩
    · obtain ⟨e, h1⟩ := hJ
      obtain ⟨q, eq, q1, q2⟩ := m_opens (st := s.2.1) (rows := rows) (K := K) w0 w1 w7 h6 h4 h20 hS hR (show m < 1000000 by omega)
      unfold f_X8_bound_S71
      rw [m_settings w0 w1 h6 h4, bnd_s, e, if_neg (nI_ge hm (by omega)), eq, bnd_s, q1]
      cases hok : okm rows K ns nl nr m with
      | false =>
        unfold f_X8_bound_J138
        rw [if_pos (show b2 false = 0 from rfl), nm_s, nI_1]
        refine ⟨_, rfl, rfl, fun p hp => ?_⟩
        rw [als_skip hok]
        exact h1 p hp
      | true =>
        have hn := okm_nod hok
        have hset := (stm_set h6 hn).cong q2
        rw [if_neg (show ¬ b2 true = 0 by decide)]
        unfold f_X8_bound_J92
        have inner : OK (lp (fun y => f_X8_bound_S92 w (nI c) a1 a2 t made (nI m) q.2 y.1 y.2) ((0 : Int32), s.2.2)) (fun r => ∀ p, p < 144 → r p = b2 (als (okm rows K ns nl nr) (fun m p => wrb V (stm ns nl m) u p) m p && wrb V (stm ns nl m) u p)) := by
          refine ok_lp (fun k y => y.1 = nI k ∧ (∀ p, p < k → y.2 p = b2 (als (okm rows K ns nl nr) (fun m p => wrb V (stm ns nl m) u p) m p && wrb V (stm ns nl m) u p)) ∧ ∀ p, k ≤ p → y.2 p = s.2.2 p) 144 (fun k y hk hJ => Or.inl ?_) (fun y hJ => ?_) ⟨rfl, fun p hp => absurd hp (Nat.not_lt_zero p), fun _ _ => rfl⟩
          · obtain ⟨e, g1, g2⟩ := hJ
            have put : ∀ x : Int32, ∀ g : Bool, x = b2 g → g = (als (okm rows K ns nl nr) (fun m p => wrb V (stm ns nl m) u p) m k && wrb V (stm ns nl m) u k) → ∃ s', f_X8_bound_J131 w (nI c) a1 a2 t made (nI m) q.2 (nI k) (nI k) x y.2 = some (.inl s') ∧ s'.1 = nI (k + 1) ∧ (∀ p, p < k + 1 → s'.2 p = b2 (als (okm rows K ns nl nr) (fun m p => wrb V (stm ns nl m) u p) m p && wrb V (stm ns nl m) u p)) ∧ ∀ p, k + 1 ≤ p → s'.2 p = s.2.2 p := fun x g ex eg => by
              unfold f_X8_bound_J131
              rw [chk_n hk (by decide), nm_s, nI_clamp (by omega), nm_s, nI_1, ex, nar_b2]
              refine ⟨_, rfl, rfl, fun p hp => ?_, fun p hp => ?_⟩
              · show upd _ _ _ _ = _
                rcases Nat.lt_succ_iff_lt_or_eq.mp hp with z | rfl
                · rw [upd_ne (by omega)]; exact g1 p z
                · rw [upd_same, eg]
              · show upd _ _ _ _ = _
                rw [upd_ne (by omega)]; exact g2 p (by omega)
            have ew : wrb V q.2 u k = wrb V (stm ns nl m) u k := by unfold wrb; rw [SN_cong q2]
            unfold f_X8_bound_S92 f_X8_bound_J130
            rw [e, if_neg (ge_144 hk), chk_n hk (by decide), nI_clamp (by omega), g2 k (Nat.le_refl _), h1 k hk]
            cases hal : als (okm rows K ns nl nr) (fun m p => wrb V (stm ns nl m) u p) m k with
            | false =>
              rw [if_pos (show b2 false = 0 from rfl)]
              exact put 0 false rfl (by rw [hal]; rfl)
            | true =>
              rw [if_neg (show ¬ b2 true = 0 by decide), m_isWrong w1 h6 h4 (hc) hset hk (fun l s hl hs _ => hM l hl s hs k hk) h2 hU, bnd_s, ew]
              cases hwr : wrb V (stm ns nl m) u k with
              | false =>
                rw [if_pos (show b2 false = 0 from rfl)]
                exact put 0 false rfl (by rw [hal, hwr]; rfl)
              | true =>
                rw [if_neg (show ¬ b2 true = 0 by decide)]
                exact put 1 true rfl (by rw [hal, hwr]; rfl)
          · obtain ⟨e, g1, g2⟩ := hJ
            unfold f_X8_bound_S92
            rw [e, if_pos gl_144]
            exact ⟨_, rfl, g1⟩
        obtain ⟨y, ey, hy⟩ := inner
        rw [ey, bnd_s]
        unfold f_X8_bound_J138
        rw [nm_s, nI_1]
        refine ⟨_, rfl, rfl, fun p hp => ?_⟩
        show y p = b2 (_ && (!okm rows K ns nl nr m || _))
        rw [hok]
        exact hy p hp
    · obtain ⟨e, h1⟩ := hJ
      unfold f_X8_bound_S71
      rw [m_settings w0 w1 h6 h4, bnd_s, e, if_pos (Int32.le_refl _)]
      exact ⟨_, rfl, h1⟩
  obtain ⟨r, er, hr⟩ := hm2
  have hm3 : lp (fun q => f_X8_bound_S150 w (nI c) a1 a2 t made r.1 r.2 q.1 q.2) ((0 : Int32), (0 : Int32)) = some (nI (fb_ct (fun p => als (okm rows K ns nl nr) (fun m p => wrb V (stm ns nl m) u p) (nst ns nl) p) 144)) := by
    refine lp_run' (fun k => (nI (fb_ct (fun p => als (okm rows K ns nl nr) (fun m p => wrb V (stm ns nl m) u p) (nst ns nl) p) k), nI k)) 144 rfl (fun k hk => ?_) ?_
    · show f_X8_bound_S150 w (nI c) a1 a2 t made r.1 r.2 (nI (fb_ct (fun p => als (okm rows K ns nl nr) (fun m p => wrb V (stm ns nl m) u p) (nst ns nl) p) k)) (nI k) = some (.inl (nI (fb_ct (fun p => als (okm rows K ns nl nr) (fun m p => wrb V (stm ns nl m) u p) (nst ns nl) p) k + (if als (okm rows K ns nl nr) (fun m p => wrb V (stm ns nl m) u p) (nst ns nl) k then 1 else 0)), nI (k + 1)))
      unfold f_X8_bound_S150 f_X8_bound_J175
      rw [if_neg (ge_144 hk), chk_n hk (by decide), nI_clamp (by omega), hr k hk]
      cases als (okm rows K ns nl nr) (fun m p => wrb V (stm ns nl m) u p) (nst ns nl) k with
      | false => rw [if_pos (show b2 false = 0 from rfl), nm_s, nm_s, nI_1, Int32.add_zero]; rfl
      | true => rw [if_neg (show ¬ b2 true = 0 by decide), nm_s, nm_s, nI_1, nI_1]; rfl
    · show f_X8_bound_S150 w (nI c) a1 a2 t made r.1 r.2 (nI (fb_ct (fun p => als (okm rows K ns nl nr) (fun m p => wrb V (stm ns nl m) u p) (nst ns nl) p) 144)) (nI 144) = _
      unfold f_X8_bound_S150
      rw [if_pos gl_144]
  unfold f_X8_bound_J46 f_X8_bound_J68 f_X8_bound_J71 f_X8_bound_J144 f_X8_bound_J150 f_X8_bound_J184
  rw [ea, bnd_s, er, bnd_s, hm3, bnd_s]
  exact ⟨_, rfl, rfl, rfl⟩
theorem t_bound : T_bound Inv := by
  intro ls_hasImage tp_bytes tp_length tp_fault nw_sheets nw_cells nw_pasted nw_masks nw_uses nw_slots nw_slotK nw_slotX nw_slotY nw_setting nw_scenes nw_wishes nw_frames nw_frameRows nw_seen nw_seenRows nw_width nw_hands kp_sheets kp_cells kp_pasted kp_masks kp_uses kp_slots kp_slotK kp_slotX kp_slotY kp_setting kp_scenes kp_wishes kp_frames kp_frameRows kp_seen kp_seenRows kp_width kp_hands sg_full sg_half sg_covered sg_deepest sg_two sg_one sg_missed se_trial se_viewScenes se_views se_first se_firstSheets se_fewest se_perfect se_always nr_size nr_rows nr_slotOfSheet kr_size kr_rows m_thrown m_world m_image m_hasImage m_tape m_taped m_faultAt m_rectangle m_hasRectangles m_made m_setting m_always hI a0 a1 a2
  obtain ⟨ns, nl, nc, nf, nk, nr, ⟨b1, b2, b3, b4, b5, b6⟩, ⟨rfl, rfl, rfl, rfl, rfl, rfl⟩, ⟨w0, w1, w2, w3, w4, w5, w6, w7⟩, hwd, hSh, hSl, hIn, hSc, hFr, hSe, hRu⟩ := hI.1
  by_cases hv : (∃ j, j < nc ∧ a0 = nI j) ∧ View a1 a2
  · obtain ⟨⟨j, hj, rfl⟩, hw⟩ := hv
    have hw' := hw
    obtain ⟨⟨i, hi, rfl⟩, t, ht, rfl⟩ := hw'
    have hU := TU_of hSc hj
    have hN := nst_le (nl := nl) b1
    obtain ⟨o, eo, ho⟩ := c_over (cells := nw_cells) (masks := nw_masks) (full := sg_full) (half := sg_half) (two := sg_two) (one := sg_one) (missed := sg_missed) (always := se_always) (cv := sg_covered) (dp := sg_deepest) (trial := se_trial) (vs := se_viewScenes) (first := se_first) (sos := nr_slotOfSheet) (views := se_views) (fsh := se_firstSheets) (few := se_fewest) (perf := se_perfect) b1 b2 b6 (show j < 6 by omega) hSl hRu hwd hi ht rfl hU
    have ec := c_alwaysMissed (ho.2.2.2.2.1 (by decide)) ho.2.2.2.2.2
    obtain ⟨m1, k1, j1⟩ := m_lays (made := m_made) b1 b2 w0 w1 hSh hSl w5 hwd hi ht rfl
    obtain ⟨v, ev, v1, v2⟩ := m_bound (st := m_setting) (alw := m_always) (a1 := nI i) (a2 := nI t - 3) (t := 0) w0 w1 w7 b1 b2 b6 (show j < 6 by omega) hSl hRu j1 (VV_le _ _ _ _ _ _ _ _) hU
    refine Or.inl ⟨(nI (fb_ct (fun p => als (okm nr_rows nw_slotK ns nl nr) (fun m p => wrb (VV nw_cells nw_masks nw_slotK nw_slotX nw_slotY nw_width i (nI t - 3)) (stm ns nl m) (fun p => (m_world (48 + 144 * j + p)).toNatClampNeg) p) (nst ns nl) p) 144), o), v, ?_, ?_, v2, v1.symm, hI⟩
    · unfold f_X7_bound
      rw [c_needScene_yes (by omega) hj, xb_l, (view_yes hw).1, xb_l, eo, bnd_s, ec, bnd_s]
    · unfold f_X8_bound f_X8_bound_J28
      rw [m_noScene_yes b3 w2 hj, bnd_s, if_pos rfl, nm_s, (view_yes hw).2, if_pos rfl, m_thr0, bnd_s, if_pos rfl, k1, bnd_s, ev]
  · have key : f_X7_bound (nI ns) nw_cells nw_masks (nI nl) nw_slotK nw_slotX nw_slotY (nI nc) nw_wishes nw_width sg_full sg_half sg_covered sg_deepest sg_two sg_one sg_missed se_trial se_viewScenes se_views se_first se_firstSheets se_fewest se_perfect se_always (nI nr) nr_rows nr_slotOfSheet a0 a1 a2 = some (.inr (2, (sg_full, sg_half, sg_covered, sg_deepest, sg_two, sg_one, sg_missed, se_trial, se_viewScenes, se_views, se_first, se_firstSheets, se_fewest, se_perfect, se_always, nr_slotOfSheet))) ∧ f_X8_bound m_thrown m_world m_made m_setting m_always a0 a1 a2 = f_X8_bound_J23 m_world a0 a1 a2 0 m_made m_setting m_always := by
      unfold f_X7_bound f_X8_bound
      rcases pk_ix a0 (n := nc) (by omega) with h | h | ⟨j, hj, rfl⟩
      · rw [c_needScene_no (by omega) (Or.inl h), m_noScene_no b3 w2 (Or.inl h)]; exact ⟨rfl, rfl⟩
      · rw [c_needScene_no (by omega) (Or.inr h), m_noScene_no b3 w2 (Or.inr h)]; exact ⟨rfl, rfl⟩
      · have hn : ¬ View a1 a2 := fun q => hv ⟨⟨j, hj, rfl⟩, q⟩
        rw [c_needScene_yes (by omega) hj, m_noScene_yes b3 w2 hj, xb_l, (view_no hn).1, bnd_s, if_pos rfl, nm_s, (view_no hn).2]; exact ⟨rfl, rfl⟩
    rw [key.1, key.2]
    unfold f_X8_bound_J23 f_X8_bound_J28
    rw [m_thr1, bnd_s, if_neg (by decide)]
    exact Or.inr ⟨_, _, rfl, rfl, rfl, hI⟩
