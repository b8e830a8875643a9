/-! ===== all that was seen together ===== -/
def cS (rows : Nat → Int32) (k : Nat) : Nat := (rows (3 * k)).toNatClampNeg
def lS (rows : Nat → Int32) (k : Nat) : Nat := (rows (3 * k + 1)).toNatClampNeg
def VS (cells masks K X Y : Nat → Int32) (W : Int32) (rows : Nat → Int32) (k : Nat) : Nat → Nat → Nat → Nat := VV cells masks K X Y W (lS rows k) (rows (3 * k + 2))
def uS (w rows : Nat → Int32) (k p : Nat) : Nat := (w (48 + 144 * cS rows k + p)).toNatClampNeg
theorem VS_le (cells masks K X Y : Nat → Int32) (W : Int32) (rows : Nat → Int32) (k l s p : Nat) : VS cells masks K X Y W rows k l s p ≤ 2 := VV_le _ _ _ _ _ _ _ _ _ _ _
theorem seen_at {rows w : Nat → Int32} {nc nk k : Nat} (h : SeO nc nk rows w) (hc : nc ≤ 6) (hk : k < nk) : ∃ t, cS rows k < nc ∧ rows (3 * k) = nI (cS rows k) ∧ lS rows k < 3 ∧ rows (3 * k + 1) = nI (lS rows k) ∧ t < 7 ∧ rows (3 * k + 2) = nI t - 3 := by
  obtain ⟨⟨c, h1, e1⟩, ⟨i, h2, e2⟩, ⟨t, h3, e3⟩, _⟩ := h k hk
  have q1 : cS rows k = c := by unfold cS; rw [e1, nI_clamp (by omega)]
  have q2 : lS rows k = i := by unfold lS; rw [e2, nI_clamp (by omega)]
  exact ⟨t, by omega, by rw [q1]; exact e1, by omega, by rw [q2]; exact e2, h3, e3⟩
theorem c_overSeen {cells masks K X Y w srows : Nat → Int32} {rows : Nat → Int32} {wishes full half two one missed always : Nat → Int64} {cv dp trial vs first sos : Nat → Int32} {W views fsh few perf : Int32} {ns nl nr nc nk : Nat} (h6 : ns ≤ 6) (h4 : nl ≤ 4) (h20 : nr ≤ 20) (hc6 : nc ≤ 6) (hk6 : nk ≤ 6) (hS : SlO nl K X Y w) (hR : RuO ns nl nr rows w) (hSc : ScO nc wishes w) (hSe : SeO nc nk srows w) (hW : W = 0 ∨ W = 1) :
    OK (f_X2_overSeen (nI ns) cells masks (nI nl) K X Y wishes (nI nk) srows W full half cv dp two one missed trial vs views first fsh few perf always (nI nr) rows sos) (fun o => RS (okm rows K ns nl nr) (fun m => Sk (VS cells masks K X Y W srows) (uS w srows) (stm ns nl m) nk) (fun m => cnt4 (stm ns nl m) 4) (fun m p => wrb (VS cells masks K X Y W srows 0) (stm ns nl m) (uS w srows 0) p) (stm ns nl) nk (nst ns nl) o.2.2.2.2.2.2.2.2.2.2.1 o.2.2.2.2.2.2.2.2.2.2.2.1 o.2.2.2.2.2.2.2.2.2.2.2.2.1 o.2.2.2.2.2.2.2.2.2.2.2.2.2.1 o.2.2.2.2.2.2.2.2.2.2.2.2.2.2.1) := by
  unfold f_X2_overSeen f_X2_overSeen_J13
  refine ok_bnd (P := fun z => ∀ k, k < nk → z.2.2.2.2 k = nI (cS srows k) ∧ ∀ l, l < nl → ∀ s, s < ns → FH z.1 z.2.1 (72 * k + 18 * l + 3 * s) (VS cells masks K X Y W srows k l s)) ?_ (fun z hz => ?_)
  · refine ok_lp (fun k s => s.1 = nI k ∧ ∀ j, j < k → s.2.2.2.2.2 j = nI (cS srows j) ∧ ∀ l, l < nl → ∀ s', s' < ns → FH s.2.1 s.2.2.1 (72 * j + 18 * l + 3 * s') (VS cells masks K X Y W srows j l s')) nk (fun k s hk hJ => Or.inl ?_) (fun s hJ => ?_) ⟨rfl, fun j hj => absurd hj (Nat.not_lt_zero j)⟩
    · obtain ⟨e, h1⟩ := hJ
      obtain ⟨t, c1, c2, c3, c4, c5, c6⟩ := seen_at hSe hc6 hk
      obtain ⟨o, eo, g1, g2⟩ := c_look (full := s.2.1) (half := s.2.2.1) (cells := cells) (masks := masks) (cv := s.2.2.2.1) (dp := s.2.2.2.2.1) (v := k) h6 h4 (by omega) hS hW c3 c5 c6
      unfold f_X2_overSeen_S13
      rw [e, if_neg (nI_ge hk (by omega)), show nI k * (3 : Int32) = nI (3 * k) by rw [show (3 : Int32) = nI 3 from rfl, pk_mul, Nat.mul_comm], nm_s, chk_n (by omega) (by decide), chk_n (by omega) (by decide), nm_s, nI_clamp (by omega), nI_clamp (by omega), nI_1, chk_n (by omega) (by decide), nI_clamp (by omega), show nI (3 * k) + (2 : Int32) = nI (3 * k + 2) from nI_add _ 2, chk_n (by omega) (by decide), nI_clamp (by omega), c4, eo, bnd_s, nm_s, nI_1]
      refine ⟨_, rfl, rfl, fun j hj => ?_⟩
      rcases Nat.lt_succ_iff_lt_or_eq.mp hj with z | rfl
      · refine ⟨(upd_ne (by omega)).trans (h1 j z).1, fun l hl s' hs' => ((h1 j z).2 l hl s' hs').keep (fun q hq => g2 _ (by omega))⟩
      · exact ⟨(upd_same _ _ _).trans c2, g1⟩
    · obtain ⟨e, h1⟩ := hJ
      unfold f_X2_overSeen_S13
      rw [e, if_pos (Int32.le_refl _)]
      exact ⟨_, rfl, h1⟩
  · have hWH := c_weighs (rows := rows) (K := K) (wishes := wishes) (full := z.1) (half := z.2.1) (vs := z.2.2.2.2) (nv := nk) (cc := cS srows) (V := VS cells masks K X Y W srows) (u := uS w srows) h6 h4 h20 hk6 hR (fun k hk => by
      obtain ⟨t, c1, c2, c3, c4, c5, c6⟩ := seen_at hSe hc6 hk
      exact ⟨(hz k hk).1, by omega, TU_of hSc c1, (hz k hk).2⟩) (VS_le _ _ _ _ _ _ _)
    obtain ⟨o, eo, ho⟩ := c_search (two := two) (one := one) (missed := missed) (always := always) (trial := trial) (first := first) (sos := sos) (fsh := fsh) (few := few) (perf := perf) h6 h4 hWH
    unfold f_X2_overSeen_J76
    rw [eo, bnd_s]
    exact ⟨_, rfl, ho⟩
theorem m_seesAll {w made st wrongs cells pasted masks uses rows srows K X Y : Nat → Int32} {wishes : Nat → Int64} {W : Int32} {ns nl nr nc nk : Nat} {best few many : Int32} (w0 : w 0 = nI ns) (w1 : w 1 = nI nl) (w4 : w 4 = nI nk) (w5 : w 5 = W) (w7 : w 7 = nI nr) (h6 : ns ≤ 6) (h4 : nl ≤ 4) (h20 : nr ≤ 20) (hc6 : nc ≤ 6) (hk6 : nk ≤ 6) (hSh : ShO ns cells pasted masks uses w) (hS : SlO nl K X Y w) (hR : RuO ns nl nr rows w) (hSc : ScO nc wishes w) (hSe : SeO nc nk srows w) (hW : W = 0 ∨ W = 1) :
    OK (f_X8_seesAll w made st best few many wrongs) (fun r => r.2.2.2.1 = nI (Zs (okm rows K ns nl nr) (fun m => Sk (VS cells masks K X Y W srows) (uS w srows) (stm ns nl m) nk) (fun m => cnt4 (stm ns nl m) 4) (nst ns nl)).1 ∧ (∀ l, l < 4 → r.2.1 l = stm ns nl ((Zs (okm rows K ns nl nr) (fun m => Sk (VS cells masks K X Y W srows) (uS w srows) (stm ns nl m) nk) (fun m => cnt4 (stm ns nl m) 4) (nst ns nl)).2.2 - 1) l) ∧ ∀ k, k < nst ns nl → r.2.2.2.2.2 k = if okm rows K ns nl nr k = true then nI (Sk (VS cells masks K X Y W srows) (uS w srows) (stm ns nl k) nk) else -1) := by
  have hN := nst_le (nl := nl) h6
  have hNp := nst_pos ns nl
  have hSb : ∀ m n, n ≤ nk → Sk (VS cells masks K X Y W srows) (uS w srows) (stm ns nl m) n ≤ 864 := fun m n hn => by have := Sk_le (VS cells masks K X Y W srows) (uS w srows) (stm ns nl m) n; omega
  have hw : ∀ m, Sk (VS cells masks K X Y W srows) (uS w srows) (stm ns nl m) nk < 1000000 := fun m => by have := hSb m nk (Nat.le_refl _); omega
  unfold f_X8_seesAll f_X8_seesAll_J2
  refine ok_bnd (P := fun z => ∀ k, k < nst ns nl → z.2 k = if okm rows K ns nl nr k = true then nI 0 else -1) ?_ (fun z hz => ?_)
  · refine ok_lp (fun m s => s.1 = nI m ∧ ∀ k, k < m → s.2.2 k = if okm rows K ns nl nr k = true then nI 0 else -1) (nst ns nl) (fun m s hm hJ => Or.inl ?_) (fun s hJ => ?_) ⟨rfl, fun k hk => absurd hk (Nat.not_lt_zero k)⟩
    · obtain ⟨e, h1⟩ := hJ
      obtain ⟨o, eo, o1, o2⟩ := m_opens (st := s.2.1) (rows := rows) (K := K) w0 w1 w7 h6 h4 h20 hS hR (show m < 1000000 by omega)
      unfold f_X8_seesAll_S2 f_X8_seesAll_J28
      rw [m_settings w0 w1 h6 h4, bnd_s, e, if_neg (nI_ge hm (by omega)), eo, bnd_s, o1]
      cases hok : okm rows K ns nl nr m with
      | false =>
        rw [if_pos (show b2 false = 0 from rfl), chk_n (by omega) (by decide), nm_s, nI_clamp (by omega), nm_s, nI_1]
        refine ⟨_, rfl, rfl, fun k hk => ?_⟩
        show upd _ _ _ _ = _
        rcases Nat.lt_succ_iff_lt_or_eq.mp hk with z | rfl
        · rw [upd_ne (by omega)]; exact h1 k z
        · rw [upd_same, hok]; rfl
      | true =>
        rw [if_neg (show ¬ b2 true = 0 by decide), chk_n (by omega) (by decide), nm_s, nI_clamp (by omega), nm_s, nI_1]
        refine ⟨_, rfl, rfl, fun k hk => ?_⟩
        show upd _ _ _ _ = _
        rcases Nat.lt_succ_iff_lt_or_eq.mp hk with z | rfl
        · rw [upd_ne (by omega)]; exact h1 k z
        · rw [upd_same, hok]; rfl
    · obtain ⟨e, h1⟩ := hJ
      unfold f_X8_seesAll_S2
      rw [m_settings w0 w1 h6 h4, bnd_s, e, if_pos (Int32.le_refl _)]
      exact ⟨_, rfl, h1⟩
  · unfold f_X8_seesAll_J35 f_X8_seesAll_J37
    refine ok_bnd (P := fun y => ∀ k, k < nst ns nl → y.2.2 k = if okm rows K ns nl nr k = true then nI (Sk (VS cells masks K X Y W srows) (uS w srows) (stm ns nl k) nk) else -1) ?_ (fun y hy => ?_)
    · refine ok_lp (fun n s => s.1 = nI n ∧ ∀ k, k < nst ns nl → s.2.2.2 k = if okm rows K ns nl nr k = true then nI (Sk (VS cells masks K X Y W srows) (uS w srows) (stm ns nl k) n) else -1) nk (fun n s hn hJ => Or.inl ?_) (fun s hJ => ?_) ⟨rfl, hz⟩
      · obtain ⟨e, h1⟩ := hJ
        obtain ⟨t, c1, c2, c3, c4, c5, c6⟩ := seen_at hSe hc6 hn
        obtain ⟨_, _, _, sw⟩ := hSe n hn
        obtain ⟨m1, k1, j1⟩ := m_lays (made := s.2.1) h6 h4 w0 w1 hSh hS w5 hW c3 c5 c6
        have hU := TU_of hSc c1
        unfold f_X8_seesAll_S37
        rw [ck4, tn4, w4, e, if_neg (nI_ge hn (by omega)), show (960 : Int32) + (3 : Int32) * nI n = nI (960 + 3 * n) by rw [show (3 : Int32) = nI 3 from rfl, pk_mul, show (960 : Int32) = nI 960 from rfl, nI_add], nm_s, nI_1, chk_n (by omega) (by decide), nI_clamp (by omega), show nI (960 + 3 * n) + (2 : Int32) = nI (960 + 3 * n + 2) from nI_add _ 2, chk_n (by omega) (by decide), nI_clamp (by omega), sw 1 (by decide), sw 2 (by decide), c4, k1, bnd_s]
        unfold f_X8_seesAll_J77
        have inner : OK (lp (fun q => f_X8_seesAll_S77 w best few many (nI n) (nI (960 + 3 * n)) m1 q.1 q.2.1 q.2.2) ((0 : Int32), s.2.2.1, s.2.2.2)) (fun r => ∀ k, k < nst ns nl → r.2 k = if okm rows K ns nl nr k = true then nI (Sk (VS cells masks K X Y W srows) (uS w srows) (stm ns nl k) (n + 1)) else -1) := by
          refine ok_lp (fun m r => r.1 = nI m ∧ (∀ k, k < m → r.2.2 k = if okm rows K ns nl nr k = true then nI (Sk (VS cells masks K X Y W srows) (uS w srows) (stm ns nl k) (n + 1)) else -1) ∧ ∀ k, m ≤ k → r.2.2 k = s.2.2.2 k) (nst ns nl) (fun m r hm hJ => Or.inl ?_) (fun r hJ => ?_) ⟨rfl, fun k hk => absurd hk (Nat.not_lt_zero k), fun _ _ => rfl⟩
          · obtain ⟨e, g1, g2⟩ := hJ
            have cur := (g2 m (Nat.le_refl _)).trans (h1 m hm)
            obtain ⟨o, eo, o1, o2⟩ := m_opens (st := r.2.1) (rows := rows) (K := K) w0 w1 w7 h6 h4 h20 hS hR (show m < 1000000 by omega)
            unfold f_X8_seesAll_S77 f_X8_seesAll_J121
            rw [m_settings w0 w1 h6 h4, bnd_s, e, if_neg (nI_ge hm (by omega)), chk_n (by omega) (by decide), nI_clamp (by omega), cur]
            cases hok : okm rows K ns nl nr m with
            | false =>
              rw [if_neg (show ¬ (false = true) by decide), if_pos (by decide), nm_s, nI_1]
              refine ⟨_, rfl, rfl, fun k hk => ?_, fun k hk => g2 k (by omega)⟩
              rcases Nat.lt_succ_iff_lt_or_eq.mp hk with z | rfl
              · exact g1 k z
              · rw [hok]
                rw [hok] at cur
                exact cur
            | true =>
              have hn' := okm_nod hok
              have hb := hSb m n (by omega)
              have e3 : w (960 + 3 * n) = nI (cS srows n) := (sw 0 (by decide)).trans c2
              rw [if_pos rfl, if_neg (nI_pos (by omega)), eo, bnd_s, o1, hok, if_neg (show ¬ b2 true = 0 by decide), chk_n (by omega) (by decide), chk_n (by omega) (by decide), nI_clamp (by omega), e3, m_wrongNow w1 h6 h4 (by omega) ((stm_set h6 hn').cong o2) (fun l s p hl hs hp _ => j1 l hl s hs p hp) (VV_le _ _ _ _ _ _ _ _) hU, bnd_s, nW_cong o2, chk_n (by omega) (by decide), nm_s, nm_s, nI_add, nI_1]
              refine ⟨_, rfl, rfl, fun k hk => ?_, fun k hk => ?_⟩
              · show upd _ _ _ _ = _
                rcases Nat.lt_succ_iff_lt_or_eq.mp hk with z | rfl
                · rw [upd_ne (by omega)]; exact g1 k z
                · rw [upd_same, hok]; rfl
              · show upd _ _ _ _ = _
                rw [upd_ne (by omega)]; exact g2 k (by omega)
          · obtain ⟨e, g1, g2⟩ := hJ
            unfold f_X8_seesAll_S77
            rw [m_settings w0 w1 h6 h4, bnd_s, e, if_pos (Int32.le_refl _)]
            exact ⟨_, rfl, g1⟩
        obtain ⟨r, er, hr⟩ := inner
        rw [er, bnd_s]
        unfold f_X8_seesAll_J127
        rw [nm_s, nI_1]
        exact ⟨_, rfl, rfl, hr⟩
      · obtain ⟨e, h1⟩ := hJ
        unfold f_X8_seesAll_S37
        rw [ck4, tn4, w4, e, if_pos (Int32.le_refl _)]
        exact ⟨_, rfl, h1⟩
    · unfold f_X8_seesAll_J133 f_X8_seesAll_J140
      refine ok_bnd (P := fun z => RM (okm rows K ns nl nr) (fun m => Sk (VS cells masks K X Y W srows) (uS w srows) (stm ns nl m) nk) (fun m => cnt4 (stm ns nl m) 4) (nst ns nl) z.2.1 z.2.2.1 z.2.2.2) ?_ (fun z hz => ?_)
      · refine ok_lp (fun m s => s.1 = nI m ∧ RM (okm rows K ns nl nr) (fun m => Sk (VS cells masks K X Y W srows) (uS w srows) (stm ns nl m) nk) (fun m => cnt4 (stm ns nl m) 4) m s.2.2.1 s.2.2.2.1 s.2.2.2.2) (nst ns nl) (fun m s hm hJ => Or.inl ?_) (fun s hJ => ?_) ⟨rfl, fun _ => rfl, fun h => absurd rfl h⟩
        · obtain ⟨e, hRM⟩ := hJ
          obtain ⟨o, eo, o1, o2⟩ := m_opens (st := s.2.1) (rows := rows) (K := K) w0 w1 w7 h6 h4 h20 hS hR (show m < 1000000 by omega)
          unfold f_X8_seesAll_S140 f_X8_seesAll_J185 f_X8_seesAll_J188
          rw [m_settings w0 w1 h6 h4, bnd_s, e, if_neg (nI_ge hm (by omega)), chk_n (by omega) (by decide), nI_clamp (by omega), hy m hm]
          cases hok : okm rows K ns nl nr m with
          | false =>
            rw [if_neg (show ¬ (false = true) by decide), if_pos (by decide), nm_s, nI_1]
            exact ⟨_, rfl, rfl, hRM.skip hok⟩
          | true =>
            have hn := okm_nod hok
            have hb := hSb m nk (Nat.le_refl _)
            obtain ⟨q, eq, hq⟩ := m_tries (w := w) (f := o.2) hok hw (m_manyAt w1 h6 h4 hn o2) (show m < 1000000 by omega) hRM rfl
            rw [if_pos rfl, if_neg (nI_pos (by omega)), eo, bnd_s, o1, hok, if_neg (show ¬ b2 true = 0 by decide), chk_n (by omega) (by decide)]
            by_cases b0 : 0 ≤ s.2.2.1
            · rw [if_pos b0] at eq
              rw [if_pos b0, eq, bnd_s, nm_s, nI_1]
              exact ⟨_, rfl, rfl, hq⟩
            · rw [if_neg b0] at eq
              rw [if_neg b0, eq, bnd_s, nm_s, nI_1]
              exact ⟨_, rfl, rfl, hq⟩
        · obtain ⟨e, hRM⟩ := hJ
          unfold f_X8_seesAll_S140
          rw [m_settings w0 w1 h6 h4, bnd_s, e, if_pos (Int32.le_refl _)]
          exact ⟨_, rfl, hRM⟩
      · have hfound := Zs_found (W := fun m => Sk (VS cells masks K X Y W srows) (uS w srows) (stm ns nl m) nk) (C := fun m => cnt4 (stm ns nl m) 4) (okm_zero (K := K) hR h6 h4 h20) (hw 0) (nst ns nl - 1)
        rw [show nst ns nl - 1 + 1 = nst ns nl by omega] at hfound
        have hb := (Zs_bc (ok := okm rows K ns nl nr) (W := fun m => Sk (VS cells masks K X Y W srows) (uS w srows) (stm ns nl m) nk) (C := fun m => cnt4 (stm ns nl m) 4) (nst ns nl)).1
        obtain ⟨e1, e2, e3⟩ := hz.2 hfound
        unfold f_X8_seesAll_J194
        obtain ⟨o, eo, o1, o2⟩ := m_opens (st := z.1) (rows := rows) (K := K) w0 w1 w7 h6 h4 h20 hS hR (show (Zs (okm rows K ns nl nr) (fun m => Sk (VS cells masks K X Y W srows) (uS w srows) (stm ns nl m) nk) (fun m => cnt4 (stm ns nl m) 4) (nst ns nl)).2.2 - 1 < 1000000 by omega)
        rw [e1, eo, bnd_s]
        exact ⟨_, rfl, e2, o2, hy⟩
