/-! ===== order ===== -/
theorem UB_1 : ∀ i, i < 8 → UB 1 i = U0 i := by decide +kernel
theorem m_orders {w st pl od sm bo ap' rows : Nat → Int32} {ns nl n : Nat} (h0 : w 0 = nI ns) (h6 : ns ≤ 6) (h1 : w 1 = nI nl) (h4 : nl ≤ 4) (h3 : w 3 = nI n) (hF : FrO ns nl n rows w) (hn : n ≤ 8) (hn1 : 1 ≤ n) : ∃ a b c' d bo' e, f_X8_orders w st pl od sm bo ap' = some (nI (LL (cst rows) n U0 0), a, b, c', d, bo', e) ∧ ∀ j, j < n → bo' j = nI (git (cst rows) n j (U0, 0)).2 := by
  obtain ⟨r, er, hr⟩ := m_costs (st := st) (pl := pl) (ap' := ap') (od := od) (sm := sm) (bo := bo) h0 h6 h1 h4 hF (by omega) rfl hn
  have hU : ∀ i, i < n → UB 1 i = U0 i := fun i hi => UB_1 i (by omega)
  have hle := LL_le (n := n) (cst_le rows) U0 0
  obtain ⟨bst', od', sm', bo', g1, g2, g3⟩ := dfs (w := w) (st := r.1) (pl := r.2.1) (cst_le rows) hr hn (n - 1) 1 (by omega) (Nat.le_refl _) (fun _ => 0) (fun _ => 0) 1 (none, fun _ => 0) (-1) (upd (upd od 0 0) 1 (-1)) (upd sm 0 0) bo (fun i hi => by
    obtain rfl : i = 0 := by omega
    exact ⟨by rw [upd_ne (by omega), upd_same]; rfl, by omega, by rw [upd_same]; rfl, by omega⟩) (by decide) (by
    rw [cnf_cong n hU]
    obtain ⟨n', rfl⟩ : ∃ n', n = n' + 1 := ⟨n - 1, by omega⟩
    rw [cnf_U0]; omega) (fun _ => upd_same _ _ _) ⟨fun _ => rfl, fun b hb => by cases hb⟩
  rw [up2_n rfl, Nat.zero_add, LL_cong hU] at g1
  obtain ⟨k1, _, k3⟩ := g1.2 _ rfl
  have fin := g3 (bst', od', sm', bo') (lp_exit (show f_X8_orders_S78 w (nI n) r.1 r.2.1 r.2.2 bst' (bk 1 1 (fun _ => 0)) (nI (1 - 1)) od' sm' bo' = _ by unfold f_X8_orders_S78; rw [if_pos (show nI (1 - 1) ≤ 0 by decide)]))
  unfold f_X8_orders
  rw [chk_eq (vp_dec0 (by decide)), nm_s, show ((3 : Int32)).toNatClampNeg = 3 from rfl, h3]
  unfold f_X8_orders_J9
  rw [er, bnd_s]
  unfold f_X8_orders_J50
  rw [chk_eq (vp_dec0 (by decide)), nm_s, chk_eq (vp_dec0 (by decide)), nm_s, chk_eq (vp_dec0 (by decide)), nm_s, show ((0 : Int32)).toNatClampNeg = 0 from rfl, show ((1 : Int32)).toNatClampNeg = 1 from rfl]
  unfold f_X8_orders_J78 f_X8_orders_J322
  rw [show lp (fun q => f_X8_orders_S78 w (nI n) r.1 r.2.1 r.2.2 q.1 q.2.1 q.2.2.1 q.2.2.2.1 q.2.2.2.2.1 q.2.2.2.2.2) ((-1 : Int32), (1 : Int32), (1 : Int32), upd (upd od 0 0) 1 (-1), upd sm 0 0, bo) = some (bst', od', sm', bo') from fin, bnd_s, k1]
  refine ⟨_, _, _, _, _, _, rfl, fun j hj => ?_⟩
  dsimp only
  rw [k3 j hj]
  show nI (if j < 1 then 0 else (git (cst rows) n (j - 1 + 1) (UB 1, 0)).2) = _
  by_cases z : j < 1
  · obtain rfl : j = 0 := by omega
    rw [if_pos z]; rfl
  · rw [if_neg z, show j - 1 + 1 = j by omega, (git_cong j (UB 1) U0 0 hU).1]
theorem t_order : T_order Inv := by
  intro ls_hasImage tp_bytes tp_length tp_fault nw_sheets nw_cells nw_pasted nw_masks nw_uses nw_slots nw_slotK nw_slotX nw_slotY nw_setting nw_scenes nw_wishes nw_frames nw_frameRows nw_seen nw_seenRows nw_width nw_hands kp_sheets kp_cells kp_pasted kp_masks kp_uses kp_slots kp_slotK kp_slotX kp_slotY kp_setting kp_scenes kp_wishes kp_frames kp_frameRows kp_seen kp_seenRows kp_width kp_hands tr_left tr_costs tr_frames nr_size nr_rows kr_size kr_rows m_thrown m_world m_image m_hasImage m_tape m_taped m_faultAt m_rectangle m_hasRectangles m_setting m_place m_order m_sum m_bestOrder m_apart hI a0
  obtain ⟨ns, nl, nc, nf, nk, nr, ⟨b1, b2, b3, b4, b5, b6⟩, ⟨rfl, rfl, rfl, rfl, rfl, rfl⟩, ⟨w0, w1, w2, w3, w4, w5, w6, w7⟩, hwd, hSh, hSl, hIn, hSc, hFr, hSe, hRu⟩ := hI.1
  have hF8 : ∀ f, f < nf → Set4 ns nl (fun l => nw_frameRows (4 * f + l)) := fun f hf => (hFr f hf).1
  unfold f_X7_order f_X8_order
  by_cases h0 : (-1 : Int32) ≤ a0
  · rw [if_pos h0, if_pos h0]
    unfold f_X8_order_J16
    rw [m_thr0, bnd_s, if_pos rfl, chk_eq (vp_dec0 (by decide)), nm_s, show ((3 : Int32)).toNatClampNeg = 3 from rfl, w3]
    by_cases h8 : nf ≤ 8
    · rw [if_pos (show nI nf ≤ 8 from nI_le (b := 8) h8 (by decide)), if_pos (show nI nf ≤ 8 from nI_le (b := 8) h8 (by decide))]
      obtain ⟨left', costs', ep, hT, hz, hco⟩ := c_plan (left := tr_left) (costs := tr_costs) (tf := tr_frames) h8 hF8
      by_cases n0 : nf = 0
      · subst n0
        rw [if_pos (show nI 0 = 0 from rfl)]
        by_cases e1 : a0 = -1
        · subst e1
          rw [if_pos (show (-1 : Int32) < nI 0 by decide), ep, bnd_s, if_pos rfl, if_pos rfl]
          unfold f_X6_length
          rw [chk_eq (vp_dec0 (by decide)), bnd_s]
          exact Or.inl ⟨_, _, rfl, rfl, rfl, hz rfl, hI⟩
        · rw [if_neg e1, if_neg (show ¬ a0 < nI 0 from fun z => e1 (by
            rw [lt_i] at z; rw [le_i] at h0; rw [eq_i]
            have z' : a0.toInt < 0 := z
            have h0' : (-1 : Int) ≤ a0.toInt := h0
            show a0.toInt = -1
            omega))]
          exact Or.inl ⟨_, _, rfl, rfl, rfl, rfl, hI⟩
      · rw [if_neg (show ¬ nI nf = 0 from mt (nI_eq (b := 0) (by omega) (by decide)).mp n0)]
        obtain ⟨a, b, c', d, bo', e, eo, hbo⟩ := m_orders (st := m_setting) (pl := m_place) (od := m_order) (sm := m_sum) (bo := m_bestOrder) (ap' := m_apart) w0 b1 w1 b2 w3 hFr h8 (by omega)
        rw [eo, bnd_s]
        by_cases e1 : a0 = -1
        · subst e1
          rw [if_pos (show (-1 : Int32) < nI nf by rw [lt_i, nI_toInt (by omega)]; show (-1 : Int) < nf; omega), ep, bnd_s, if_pos rfl, if_pos rfl]
          unfold f_X6_length
          rw [chk_eq (vp_dec0 (by decide)), bnd_s]
          refine Or.inl ⟨_, _, rfl, rfl, rfl, ?_, hI⟩
          show left' 0 = nI (LL (cst nw_frameRows) nf U0 0)
          have hp : 0 < 2 ^ (nf - 1) := Nat.two_pow_pos _
          have := hT 0 (Nat.le_refl _) hp 0 (by omega)
          rw [Nat.mul_zero, Nat.zero_add] at this
          rw [this, LL_cong (U' := U0) (fun i _ => by
            show (decide (i = 0) || decide (0 / 2 ^ (i - 1) % 2 = 1)) = decide (i = 0)
            rw [Nat.zero_div, decide_eq_false (show ¬ 0 % 2 = 1 by decide), Bool.or_false])]
        · rw [if_neg e1]
          rcases pk_ix a0 (n := nf) (by omega) with h | h | ⟨j, hj, rfl⟩
          · exfalso
            apply e1
            rw [lt_i] at h; rw [le_i] at h0; rw [eq_i]
            have z' : a0.toInt < 0 := h
            have h0' : (-1 : Int) ≤ a0.toInt := h0
            show a0.toInt = -1
            omega
          · rw [if_neg (show ¬ a0 < nI nf from by rw [lt_i]; rw [le_i] at h; omega), if_pos h]
            exact Or.inl ⟨_, _, rfl, rfl, rfl, rfl, hI⟩
          · rw [if_pos (nI_lt hj (by omega)), ep, bnd_s, if_neg e1, c_stop (cst_le _) hco h8 hj hT, bnd_s, if_neg (nI_ge hj (by omega)), chk_n (by omega) (by decide), nI_clamp (by omega)]
            dsimp only
            rw [hbo j hj]
            exact Or.inl ⟨_, _, rfl, rfl, rfl, rfl, hI⟩
    · rw [if_neg (show ¬ nI nf ≤ 8 from nI_ge (a := 8) (by omega) (by omega)), if_neg (show ¬ nI nf ≤ 8 from nI_ge (a := 8) (by omega) (by omega))]
      exact Or.inl ⟨_, _, rfl, rfl, rfl, rfl, hI⟩
  · rw [if_neg h0, if_neg h0]
    unfold f_X8_order_J16
    rw [m_thr1, bnd_s, if_neg (by decide)]
    exact Or.inr ⟨_, _, rfl, rfl, rfl, hI⟩
