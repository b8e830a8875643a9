/-! ===== the operations that look ===== -/
theorem Set4.at6 {ns nl : Nat} {f : Nat → Int32} (h : Set4 ns nl f) (hn : ns ≤ 6) {l s : Nat} (hl : l < 4) (hs : s < 6) (e : f l = nI s) : l < nl ∧ s < ns := by
  rcases h.1 l hl with z | ⟨z, s', hs', e'⟩
  · exact absurd (e.symm.trans z) (nI_m1 (by omega))
  · have := (nI_eq (a := s) (b := s') (by omega) (by omega)).mp (e.symm.trans e')
    exact ⟨z, by omega⟩
theorem Set4.six {ns nl : Nat} {f : Nat → Int32} (h : Set4 ns nl f) (hn : ns ≤ 6) : ∀ l, l < 4 → f l = -1 ∨ ∃ s, s < 6 ∧ f l = nI s := fun l hl => (h.1 l hl).imp id (fun ⟨_, s, hs, e⟩ => ⟨s, by omega, e⟩)
theorem c_look0 {cells masks K X Y w cv dp : Nat → Int32} {W seat : Int32} {full half : Nat → Int64} {ns nl light t : Nat} (h6 : ns ≤ 6) (h4 : nl ≤ 4) (hS : SlO nl K X Y w) (hW : W = 0 ∨ W = 1) (hL : light < 3) (ht : t < 7) (hseat : seat = nI t - 3) :
    OK (f_X3_look (nI ns) cells masks (nI nl) K X Y W full half cv dp (0 : Int32) (nI light) seat) (fun u => ∀ l, l < nl → ∀ s, s < ns → FH u.1 u.2.1 (18 * l + 3 * s) (VV cells masks K X Y W light seat l s)) := by
  have h := c_look (full := full) (half := half) (cells := cells) (masks := masks) (cv := cv) (dp := dp) (v := 0) h6 h4 (by decide) hS hW hL ht hseat
  refine OK.mono h (fun u hu l hl s hs => ?_)
  have := hu.1 l hl s hs
  rwa [Nat.mul_zero, Nat.zero_add] at this
theorem c_shine0 {full half two one : Nat → Int64} {pa f : Nat → Int32} {pn fr ns nl : Nat} {V : Nat → Nat → Nat → Nat} (h6 : ns ≤ 6) (hf : Set4 ns nl f) (hfr : fr + 4 ≤ pn) (hpn : pn < 1000) (hpa : ∀ l, l < 4 → pa (fr + l) = f l)
    (hT : ∀ l, l < nl → ∀ s, s < ns → FH full half (18 * l + 3 * s) (V l s)) (h2 : ∀ l s p, V l s p ≤ 2) : OK (f_X3_shine full half two one pa pn (0 : Int32) (nI fr)) (fun u => Two V f u.1 u.2) :=
  c_shine (v := 0) (by decide) hfr hpn hpa (hf.six h6) (fun l s hl hs e => by rw [Nat.mul_zero, Nat.zero_add]; exact hT l (hf.at6 h6 hl hs e).1 s (hf.at6 h6 hl hs e).2) h2
theorem c_misses0 {wishes full half two one missed : Nat → Int64} {pa w : Nat → Int32} {c ns nl : Nat} {V : Nat → Nat → Nat → Nat} {u : Nat → Nat} (h6 : ns ≤ 6) (hc : c < 6) (hf : Set4 ns nl pa)
    (hT : ∀ l, l < nl → ∀ s, s < ns → FH full half (18 * l + 3 * s) (V l s)) (h2 : ∀ l s p, V l s p ≤ 2) (hU : TU w wishes c u) : OK (f_X3_misses wishes full half two one missed pa 4 (0 : Int32) (nI c)) (fun r => r.1 = nI (nW V pa u) ∧ Miss V pa u r.2.2.2) :=
  c_misses (v := 0) (by decide) hc (hf.six h6) (fun l s hl hs e => by rw [Nat.mul_zero, Nat.zero_add]; exact hT l (hf.at6 h6 hl hs e).1 s (hf.at6 h6 hl hs e).2) h2 hU
theorem t_shade : T_shade Inv := by
  intro ls_hasImage tp_bytes tp_length tp_fault nw_sheets nw_cells nw_pasted nw_masks nw_uses nw_slots nw_slotK nw_slotX nw_slotY nw_setting nw_scenes nw_wishes nw_frames nw_frameRows nw_seen nw_seenRows nw_width nw_hands kp_sheets kp_cells kp_pasted kp_masks kp_uses kp_slots kp_slotK kp_slotX kp_slotY kp_setting kp_scenes kp_wishes kp_frames kp_frameRows kp_seen kp_seenRows kp_width kp_hands sg_full sg_half sg_covered sg_deepest sg_two sg_one nr_size nr_rows kr_size kr_rows m_thrown m_world m_image m_hasImage m_tape m_taped m_faultAt m_rectangle m_hasRectangles m_made m_setting hI a0 a1 a2
  obtain ⟨ns, nl, nc, nf, nk, nr, ⟨b1, b2, b3, b4, b5, b6⟩, ⟨rfl, rfl, rfl, rfl, rfl, rfl⟩, ⟨w0, w1, w2, w3, w4, w5, w6, w7⟩, hwd, hSh, hSl, hIn, hSc, hFr, hSe, hRu⟩ := hI.1
  by_cases hv : (∃ p, p < 144 ∧ a0 = nI p) ∧ View a1 a2
  · obtain ⟨⟨p, hp, rfl⟩, hw⟩ := hv
    have hw' := hw
    obtain ⟨⟨i, hi, rfl⟩, t, ht, rfl⟩ := hw'
    obtain ⟨u1, e1, h1⟩ := c_look0 (full := sg_full) (half := sg_half) (cells := nw_cells) (masks := nw_masks) (cv := sg_covered) (dp := sg_deepest) b1 b2 hSl hwd hi ht rfl
    obtain ⟨u2, e2, h2⟩ := c_shine0 (two := sg_two) (one := sg_one) (pa := nw_setting) (pn := 4) (fr := 0) b1 hIn.1 (by decide) (by decide) (fun l hl => by rw [Nat.zero_add]) h1 (VV_le _ _ _ _ _ _ _ _)
    obtain ⟨u3, e3, h3⟩ := m_takes (w := m_world) (st := m_setting)
    have h3' : ∀ l, l < 4 → u3 l = nw_setting l := fun l hl => (h3 l hl).trans (hIn.2 l hl)
    obtain ⟨u4, e4, h4⟩ := m_lays (made := m_made) b1 b2 w0 w1 hSh hSl w5 hwd hi ht rfl
    have e2' : f_X3_shine u1.1 u1.2.1 sg_two sg_one nw_setting 4 (0 : Int32) (0 : Int32) = some u2 := e2
    unfold f_X7_shade f_X8_shade f_X8_shade_J27
    rw [c_needSpot_yes hp, xb_l, (view_yes hw).1, xb_l, e1, bnd_s, e2', bnd_s, c_shadeOf h2 hp, bnd_s, m_noSpot_yes hp, nm_s, if_pos rfl, nm_s, (view_yes hw).2, if_pos rfl, m_thr0, bnd_s, if_pos rfl, e3, bnd_s, e4, bnd_s, m_shadeNow w1 b1 b2 (hIn.1.cong h3') hp (fun l s hl hs _ => h4 l hl s hs p hp) (VV_le _ _ _ _ _ _ _ _), bnd_s, SN_cong h3']
    exact Or.inl ⟨_, _, rfl, rfl, rfl, rfl, hI⟩
  · have key : f_X7_shade (nI ns) nw_cells nw_masks (nI nl) nw_slotK nw_slotX nw_slotY nw_setting nw_width sg_full sg_half sg_covered sg_deepest sg_two sg_one a0 a1 a2 = some (.inr (2, (sg_full, sg_half, sg_covered, sg_deepest, sg_two, sg_one))) ∧ f_X8_shade m_thrown m_world m_made m_setting a0 a1 a2 = f_X8_shade_J22 m_world a0 a1 a2 0 m_made m_setting := by
      unfold f_X7_shade f_X8_shade
      rcases pk_ix a0 (n := 144) (by omega) with h | h | ⟨p, hp, rfl⟩
      · rw [c_needSpot_no (Or.inl h), nm_s, m_noSpot_no (Or.inl h)]; exact ⟨rfl, rfl⟩
      · rw [c_needSpot_no (Or.inr h), nm_s, m_noSpot_no (Or.inr h)]; exact ⟨rfl, rfl⟩
      · have hn : ¬ View a1 a2 := fun q => hv ⟨⟨p, hp, rfl⟩, q⟩
        rw [c_needSpot_yes hp, xb_l, (view_no hn).1, nm_s, m_noSpot_yes hp, if_pos rfl, nm_s, (view_no hn).2]; exact ⟨rfl, rfl⟩
    rw [key.1, key.2]
    unfold f_X8_shade_J22 f_X8_shade_J27
    rw [m_thr1, bnd_s, if_neg (by decide)]
    exact Or.inr ⟨_, _, rfl, rfl, rfl, hI⟩
theorem m_shadesCt {w made f : Nat → Int32} {V : Nat → Nat → Nat → Nat} {ns nl c : Nat} {a1 a2 t : Int32} (w1 : w 1 = nI nl) (h6 : ns ≤ 6) (h4 : nl ≤ 4) (hf : Set4 ns nl f) (hc : c < 3) (hM : ∀ l s p, l < nl → s < ns → p < 144 → f l = nI s → made (864 * l + 144 * s + p) = nI (V l s p)) (h2 : ∀ l s p, V l s p ≤ 2) : lp (fun q => f_X8_shades_S59 w (nI c) a1 a2 t made f q.1 q.2) ((0 : Int32), (0 : Int32)) = some (nI (fb_ct (fun p => decide (SN V f p = c)) 144)) := by
  refine lp_run' (fun k => (nI (fb_ct (fun p => decide (SN V f p = c)) k), nI k)) 144 rfl (fun k hk => ?_) ?_
  · show f_X8_shades_S59 w (nI c) a1 a2 t made f (nI (fb_ct (fun p => decide (SN V f p = c)) k)) (nI k) = some (.inl (nI (fb_ct (fun p => decide (SN V f p = c)) k + (if decide (SN V f k = c) then 1 else 0)), nI (k + 1)))
    have := SN_le V f k
    unfold f_X8_shades_S59 f_X8_shades_J84
    rw [if_neg (ge_144 hk), m_shadeNow w1 h6 h4 hf hk (fun l s hl hs e => hM l s k hl hs hk e) h2, bnd_s]
    by_cases z : SN V f k = c
    · rw [if_pos (by rw [z]), nm_s, nm_s, nI_1, nI_1, decide_eq_true z]; rfl
    · rw [if_neg (mt (nI_eq (by omega) (by omega)).mp z), nm_s, nm_s, nI_1, Int32.add_zero, decide_eq_false z]; rfl
  · show f_X8_shades_S59 w (nI c) a1 a2 t made f (nI (fb_ct (fun p => decide (SN V f p = c)) 144)) (nI 144) = _
    unfold f_X8_shades_S59
    rw [if_pos gl_144]
theorem t_shades : T_shades Inv := by
  intro ls_hasImage tp_bytes tp_length tp_fault nw_sheets nw_cells nw_pasted nw_masks nw_uses nw_slots nw_slotK nw_slotX nw_slotY nw_setting nw_scenes nw_wishes nw_frames nw_frameRows nw_seen nw_seenRows nw_width nw_hands kp_sheets kp_cells kp_pasted kp_masks kp_uses kp_slots kp_slotK kp_slotX kp_slotY kp_setting kp_scenes kp_wishes kp_frames kp_frameRows kp_seen kp_seenRows kp_width kp_hands sg_full sg_half sg_covered sg_deepest sg_two sg_one nr_size nr_rows kr_size kr_rows m_thrown m_world m_image m_hasImage m_tape m_taped m_faultAt m_rectangle m_hasRectangles m_made m_setting hI a0 a1 a2
  obtain ⟨ns, nl, nc, nf, nk, nr, ⟨b1, b2, b3, b4, b5, b6⟩, ⟨rfl, rfl, rfl, rfl, rfl, rfl⟩, ⟨w0, w1, w2, w3, w4, w5, w6, w7⟩, hwd, hSh, hSl, hIn, hSc, hFr, hSe, hRu⟩ := hI.1
  have z0 : (0 : Int32).toInt = 0 := rfl
  have z2 : (2 : Int32).toInt = 2 := rfl
  by_cases hw : View a1 a2
  · by_cases hc : ∃ c, c < 3 ∧ a0 = nI c
    · obtain ⟨c, hc, rfl⟩ := hc
      have hw' := hw
      obtain ⟨⟨i, hi, rfl⟩, t, ht, rfl⟩ := hw'
      obtain ⟨u1, e1, h1⟩ := c_look0 (full := sg_full) (half := sg_half) (cells := nw_cells) (masks := nw_masks) (cv := sg_covered) (dp := sg_deepest) b1 b2 hSl hwd hi ht rfl
      obtain ⟨u2, e2, h2⟩ := c_shine0 (two := sg_two) (one := sg_one) (pa := nw_setting) (pn := 4) (fr := 0) b1 hIn.1 (by decide) (by decide) (fun l hl => by rw [Nat.zero_add]) h1 (VV_le _ _ _ _ _ _ _ _)
      obtain ⟨u3, e3, h3⟩ := m_takes (w := m_world) (st := m_setting)
      have h3' : ∀ l, l < 4 → u3 l = nw_setting l := fun l hl => (h3 l hl).trans (hIn.2 l hl)
      obtain ⟨u4, e4, h4⟩ := m_lays (made := m_made) b1 b2 w0 w1 hSh hSl w5 hwd hi ht rfl
      have e2' : f_X3_shine u1.1 u1.2.1 sg_two sg_one nw_setting 4 (0 : Int32) (0 : Int32) = some u2 := e2
      have ect : fb_ct (fun p => decide (SN (VV nw_cells nw_masks nw_slotK nw_slotX nw_slotY nw_width i (nI t - 3)) u3 p = c)) 144 = fb_ct (fun p => decide (SN (VV nw_cells nw_masks nw_slotK nw_slotX nw_slotY nw_width i (nI t - 3)) nw_setting p = c)) 144 := fb_ct_cong (fun p _ => by rw [SN_cong h3'])
      unfold f_X7_shades f_X8_shades f_X8_shades_J34 f_X8_shades_J59
      rw [(view_yes hw).1, xb_l, if_neg (nI_pos (by omega)), if_pos (le_2 (by omega)), e1, bnd_s, e2', bnd_s, c_spotsOf h2 hc, bnd_s, nm_s, (view_yes hw).2, m_thr0, bnd_s, if_pos rfl, nm_s, wi_yes (by rw [nI_toInt (by omega), z0, z2]; omega), if_neg (by decide), m_thr0, bnd_s, if_pos rfl, e3, bnd_s, e4, bnd_s, m_shadesCt w1 b1 b2 (hIn.1.cong h3') hc (fun l s p hl hs hp _ => h4 l hl s hs p hp) (VV_le _ _ _ _ _ _ _ _), bnd_s, ect]
      exact Or.inl ⟨_, _, rfl, rfl, rfl, rfl, hI⟩
    · have hr : ¬ ((0 : Int32).toInt ≤ a0.toInt ∧ a0.toInt ≤ (2 : Int32).toInt) := fun q => hc ⟨a0.toInt.toNat, by omega, by rw [eq_i, nI_toInt (by omega)]; omega⟩
      refine Or.inr (Or.inl ⟨(sg_full, sg_half, sg_covered, sg_deepest, sg_two, sg_one), (0, 2, m_made, m_setting), ?_, ?_, rfl, hI⟩)
      · unfold f_X7_shades
        rw [(view_yes hw).1, xb_l]
        by_cases q : a0 < 0
        · rw [if_pos q]
        · rw [if_neg q, if_neg (fun z => hr ⟨le_i.mp (Int32.not_lt.mp q), le_i.mp z⟩)]
      · unfold f_X8_shades f_X8_shades_J34
        rw [nm_s, (view_yes hw).2, m_thr0, bnd_s, if_pos rfl, nm_s, wi_no hr, if_pos rfl, m_thr1, bnd_s, if_neg (by decide)]
  · refine Or.inr (Or.inr ⟨(sg_full, sg_half, sg_covered, sg_deepest, sg_two, sg_one), (0, 1, m_made, m_setting), ?_, ?_, rfl, hI⟩)
    · unfold f_X7_shades
      rw [(view_no hw).1]
      rfl
    · unfold f_X8_shades
      rw [nm_s, (view_no hw).2, m_thr1, bnd_s, if_neg (by decide)]
/-- the n-th that is so, or none -/
def Nth (P : Nat → Bool) (n : Nat) (r : Int32) : Prop := (∃ p, p < 144 ∧ r = nI p ∧ P p = true ∧ fb_ct P p = n) ∨ (r = -1 ∧ fb_ct P 144 ≤ n)
theorem Nth.one {P : Nat → Bool} {n : Nat} {r q : Int32} (h : Nth P n r) (g : Nth P n q) : r = q := by
  have big : ∀ p, p < 144 → P p = true → fb_ct P p = n → ¬ fb_ct P 144 ≤ n := fun p hp hP e hle => by
    have h1 := fb_ct_mono P (show p + 1 ≤ 144 by omega)
    rw [fb_ct_succ, hP, if_pos rfl] at h1
    omega
  rcases h with ⟨p, hp, rfl, h1, h2⟩ | ⟨rfl, h1⟩
  · rcases g with ⟨k, hk, rfl, g1, g2⟩ | ⟨rfl, g1⟩
    · rw [fb_ct_kth_one h1 g1 (h2.trans g2.symm)]
    · exact absurd g1 (big p hp h1 h2)
  · rcases g with ⟨k, hk, rfl, g1, g2⟩ | ⟨rfl, g1⟩
    · exact absurd h1 (big k hk g1 g2)
    · rfl
theorem c_missAt {missed : Nat → Int64} {V : Nat → Nat → Nat → Nat} {f : Nat → Int32} {u : Nat → Nat} {n : Nat} (h : Miss V f u missed) (hn : n < 2 ^ 31) : OK (f_X3_missAt missed (nI n)) (Nth (wrb V f u) n) := by
  unfold f_X3_missAt f_X3_missAt_J4
  refine ok_bnd (P := Sum.elim (fun z => ∃ p, p < 144 ∧ z = nI p ∧ wrb V f u p = true ∧ fb_ct (wrb V f u) p = n) (fun _ => fb_ct (wrb V f u) 144 ≤ n)) ?_ (fun z hz => ?_)
  · refine ok_lp (fun k s => fb_ct (wrb V f u) k ≤ n ∧ s = (nI (n - fb_ct (wrb V f u) k), nI k)) 144 (fun k s hk hJ => ?_) (fun s hJ => ?_) ⟨Nat.zero_le _, rfl⟩
    · obtain ⟨hle, rfl⟩ := hJ
      show (∃ s', f_X3_missAt_S4 missed (nI n) (nI (n - fb_ct (wrb V f u) k)) (nI k) = some (.inl s') ∧ _) ∨ ∃ r, f_X3_missAt_S4 missed (nI n) (nI (n - fb_ct (wrb V f u) k)) (nI k) = some (.inr r) ∧ _
      unfold f_X3_missAt_S4 f_X3_missAt_J41
      rw [if_neg (ge_144 hk), show nI k - nI k / (48 : Int32) * (48 : Int32) = nI (k % 48) from pk_rem (d := 48) (by omega) (by decide) (by decide), show nI k / (48 : Int32) = nI (k / 48) from pk_div (d := 48) (by omega) (by decide) (by decide), chk_n (by omega) (by decide), nI_clamp (by omega)]
      have hb := h.1 k hk
      cases z : wrb V f u k with
      | false =>
        rw [if_pos (by rw [bl_test _ (by omega), hb, z]), nm_s, nI_1]
        refine Or.inl ⟨_, rfl, ?_⟩
        rw [fb_ct_succ, z]
        exact ⟨hle, rfl⟩
      | true =>
        rw [if_neg (by rw [bl_test _ (by omega), hb, z]; decide)]
        by_cases q : fb_ct (wrb V f u) k = n
        · rw [if_pos (by rw [q, Nat.sub_self]; rfl)]
          exact Or.inr ⟨_, rfl, k, hk, rfl, z, q⟩
        · rw [if_neg (nI_ne0 (by omega) (by omega)), nm_s, nm_s, nI_1]
          refine Or.inl ⟨_, rfl, ?_⟩
          rw [fb_ct_succ, z, if_pos rfl]
          refine ⟨by omega, ?_⟩
          rw [show n - fb_ct (wrb V f u) k = (n - (fb_ct (wrb V f u) k + 1)) + 1 by omega, pk_m1]
    · obtain ⟨hle, rfl⟩ := hJ
      show ∃ r, f_X3_missAt_S4 missed (nI n) (nI (n - fb_ct (wrb V f u) 144)) (nI 144) = some (.inr r) ∧ _
      unfold f_X3_missAt_S4
      rw [if_pos gl_144]
      exact ⟨_, rfl, hle⟩
  · cases z with
    | inl z => exact ⟨_, rfl, Or.inl hz⟩
    | inr z => exact ⟨_, rfl, Or.inr ⟨rfl, hz⟩⟩
theorem m_nth {w made f : Nat → Int32} {wishes : Nat → Int64} {V : Nat → Nat → Nat → Nat} {u : Nat → Nat} {ns nl c n : Nat} {a1 a2 t : Int32} (hn : n < 2 ^ 31) (w1 : w 1 = nI nl) (h6 : ns ≤ 6) (h4 : nl ≤ 4) (hc : c < 6) (hf : Set4 ns nl f) (hM : ∀ l s p, l < nl → s < ns → p < 144 → f l = nI s → made (864 * l + 144 * s + p) = nI (V l s p)) (h2 : ∀ l s p, V l s p ≤ 2) (hU : TU w wishes c u) :
    OK (f_X8_wrong_J84 w (nI c) a1 a2 (nI n) (0 : Int32) (0 : Int32) t made f) (fun v => Nth (wrb V f u) n v.1 ∧ v.2 = (t, made, f)) := by
  unfold f_X8_wrong_J84
  refine ok_bnd (P := Sum.elim (fun z => ∃ p, p < 144 ∧ z = nI p ∧ wrb V f u p = true ∧ fb_ct (wrb V f u) p = n) (fun _ => fb_ct (wrb V f u) 144 ≤ n)) ?_ (fun z hz => ?_)
  · refine ok_lp (fun k s => fb_ct (wrb V f u) k ≤ n ∧ s = (nI (fb_ct (wrb V f u) k), nI k)) 144 (fun k s hk hJ => ?_) (fun s hJ => ?_) ⟨Nat.zero_le _, rfl⟩
    · obtain ⟨hle, rfl⟩ := hJ
      have hle2 := fb_ct_le (wrb V f u) k
      show (∃ s', f_X8_wrong_S84 w (nI c) a1 a2 (nI n) t made f (nI (fb_ct (wrb V f u) k)) (nI k) = some (.inl s') ∧ _) ∨ ∃ r, f_X8_wrong_S84 w (nI c) a1 a2 (nI n) t made f (nI (fb_ct (wrb V f u) k)) (nI k) = some (.inr r) ∧ _
      unfold f_X8_wrong_S84 f_X8_wrong_J118
      rw [if_neg (ge_144 hk), m_isWrong w1 h6 h4 hc hf hk (fun l s hl hs e => hM l s k hl hs hk e) h2 hU, bnd_s]
      cases z : wrb V f u k with
      | false =>
        rw [if_pos (show b2 false = 0 from rfl), nm_s, nI_1]
        refine Or.inl ⟨_, rfl, ?_⟩
        rw [fb_ct_succ, z]
        exact ⟨hle, rfl⟩
      | true =>
        rw [if_neg (show ¬ b2 true = 0 by decide)]
        by_cases q : fb_ct (wrb V f u) k = n
        · rw [if_pos (by rw [q])]
          exact Or.inr ⟨_, rfl, k, hk, rfl, z, q⟩
        · rw [if_neg (mt (nI_eq (by omega) (by omega)).mp q), nm_s, nm_s, nI_1, nI_1]
          refine Or.inl ⟨_, rfl, ?_⟩
          rw [fb_ct_succ, z, if_pos rfl]
          exact ⟨by omega, rfl⟩
    · obtain ⟨hle, rfl⟩ := hJ
      show ∃ r, f_X8_wrong_S84 w (nI c) a1 a2 (nI n) t made f (nI (fb_ct (wrb V f u) 144)) (nI 144) = some (.inr r) ∧ _
      unfold f_X8_wrong_S84
      rw [if_pos gl_144]
      exact ⟨_, rfl, hle⟩
  · cases z with
    | inl z => exact ⟨_, rfl, Or.inl hz, rfl⟩
    | inr z => exact ⟨_, rfl, Or.inr ⟨rfl, hz⟩, rfl⟩
theorem t_wrong : T_wrong Inv := by
  intro ls_hasImage tp_bytes tp_length tp_fault nw_sheets nw_cells nw_pasted nw_masks nw_uses nw_slots nw_slotK nw_slotX nw_slotY nw_setting nw_scenes nw_wishes nw_frames nw_frameRows nw_seen nw_seenRows nw_width nw_hands kp_sheets kp_cells kp_pasted kp_masks kp_uses kp_slots kp_slotK kp_slotX kp_slotY kp_setting kp_scenes kp_wishes kp_frames kp_frameRows kp_seen kp_seenRows kp_width kp_hands sg_full sg_half sg_covered sg_deepest sg_two sg_one sg_missed nr_size nr_rows kr_size kr_rows m_thrown m_world m_image m_hasImage m_tape m_taped m_faultAt m_rectangle m_hasRectangles m_made m_setting hI a0 a1 a2 a3
  obtain ⟨ns, nl, nc, nf, nk, nr, ⟨b1, b2, b3, b4, b5, b6⟩, ⟨rfl, rfl, rfl, rfl, rfl, rfl⟩, ⟨w0, w1, w2, w3, w4, w5, w6, w7⟩, hwd, hSh, hSl, hIn, hSc, hFr, hSe, hRu⟩ := hI.1
  have zm : (-1 : Int32).toInt = -1 := rfl
  by_cases hv : (∃ j, j < nc ∧ a0 = nI j) ∧ View a1 a2
  · obtain ⟨⟨j, hj, rfl⟩, hw⟩ := hv
    have hw' := hw
    obtain ⟨⟨i, hi, rfl⟩, t, ht, rfl⟩ := hw'
    by_cases h3 : (-1 : Int32) ≤ a3
    · obtain ⟨u1, e1, h1⟩ := c_look0 (full := sg_full) (half := sg_half) (cells := nw_cells) (masks := nw_masks) (cv := sg_covered) (dp := sg_deepest) b1 b2 hSl hwd hi ht rfl
      have hU := TU_of hSc hj
      obtain ⟨u2, e2, h2, hM⟩ := c_misses0 (two := sg_two) (one := sg_one) (missed := sg_missed) b1 (show j < 6 by omega) hIn.1 h1 (VV_le _ _ _ _ _ _ _ _) hU
      obtain ⟨u3, e3, g3⟩ := m_takes (w := m_world) (st := m_setting)
      have g3' : ∀ l, l < 4 → u3 l = nw_setting l := fun l hl => (g3 l hl).trans (hIn.2 l hl)
      obtain ⟨u4, e4, h4⟩ := m_lays (made := m_made) b1 b2 w0 w1 hSh hSl w5 hwd hi ht rfl
      have hb : ∀ r, f_X8_wrong_J47 m_world (nI j) (nI i) (nI t - 3) a3 0 0 m_made m_setting = r → f_X8_wrong m_thrown m_world m_made m_setting (nI j) (nI i) (nI t - 3) a3 = r := fun r hr => by
        unfold f_X8_wrong f_X8_wrong_J28
        rw [m_noScene_yes b3 w2 hj, bnd_s, if_pos rfl, nm_s, (view_yes hw).2, if_pos rfl, m_thr0, bnd_s, if_pos rfl, if_pos h3, hr]
      by_cases h5 : a3 = -1
      · refine Or.inl ⟨(nI (nW (VV nw_cells nw_masks nw_slotK nw_slotX nw_slotY nw_width i (nI t - 3)) nw_setting (fun p => (m_world (48 + 144 * j + p)).toNatClampNeg)), u1.1, u1.2.1, u1.2.2.1, u1.2.2.2, u2.2.1, u2.2.2.1, u2.2.2.2), (nI (nW (VV nw_cells nw_masks nw_slotK nw_slotX nw_slotY nw_width i (nI t - 3)) nw_setting (fun p => (m_world (48 + 144 * j + p)).toNatClampNeg)), 0, u4, u3), ?_, hb _ ?_, rfl, rfl, hI⟩
        · unfold f_X7_wrong
          rw [c_needScene_yes (by omega) hj, xb_l, (view_yes hw).1, xb_l, if_pos h3, e1, bnd_s, e2, bnd_s, if_pos h5, h2]
        · unfold f_X8_wrong_J47
          rw [m_thr0, bnd_s, if_pos rfl, e3, bnd_s, e4, bnd_s, if_pos h5, m_wrongNow w1 b1 b2 (show j < 6 by omega) (hIn.1.cong g3') (fun l s p hl hs hp _ => h4 l hl s hs p hp) (VV_le _ _ _ _ _ _ _ _) hU, bnd_s, nW_cong g3']
      · have h6 := le_i.mp h3
        rw [zm] at h6
        have h7 : a3.toInt ≠ -1 := fun q => h5 (by rw [eq_i, zm]; exact q)
        have hr := fb_rng a3
        obtain ⟨n, hn, rfl⟩ : ∃ n : Nat, n < 2 ^ 31 ∧ a3 = nI n := ⟨a3.toInt.toNat, by omega, by rw [eq_i, nI_toInt (by omega)]; omega⟩
        obtain ⟨r1, f1, n1⟩ := c_missAt hM hn
        obtain ⟨r2, f2, n2, e5⟩ := m_nth (a1 := nI i) (a2 := nI t - 3) (t := 0) hn w1 b1 b2 (show j < 6 by omega) (hIn.1.cong g3') (fun l s p hl hs hp _ => h4 l hl s hs p hp) (VV_le _ _ _ _ _ _ _ _) hU
        have ew : wrb (VV nw_cells nw_masks nw_slotK nw_slotX nw_slotY nw_width i (nI t - 3)) u3 (fun p => (m_world (48 + 144 * j + p)).toNatClampNeg) = wrb (VV nw_cells nw_masks nw_slotK nw_slotX nw_slotY nw_width i (nI t - 3)) nw_setting (fun p => (m_world (48 + 144 * j + p)).toNatClampNeg) := by
          funext p; unfold wrb; rw [SN_cong g3']
        rw [ew] at n2
        have er : r1 = r2.1 := n1.one n2
        refine Or.inl ⟨(r1, u1.1, u1.2.1, u1.2.2.1, u1.2.2.2, u2.2.1, u2.2.2.1, u2.2.2.2), (r2.1, 0, u4, u3), ?_, hb _ ?_, rfl, er, hI⟩
        · unfold f_X7_wrong
          rw [c_needScene_yes (by omega) hj, xb_l, (view_yes hw).1, xb_l, if_pos h3, e1, bnd_s, e2, bnd_s, if_neg h5, f1, bnd_s]
        · unfold f_X8_wrong_J47
          rw [m_thr0, bnd_s, if_pos rfl, e3, bnd_s, e4, bnd_s, if_neg h5, f2]
          exact congrArg some (Prod.ext rfl e5)
    · refine Or.inr (Or.inl ⟨(sg_full, sg_half, sg_covered, sg_deepest, sg_two, sg_one, sg_missed), (0, 2, m_made, m_setting), ?_, ?_, rfl, hI⟩)
      · unfold f_X7_wrong
        rw [c_needScene_yes (by omega) hj, xb_l, (view_yes hw).1, xb_l, if_neg h3]
      · unfold f_X8_wrong f_X8_wrong_J28 f_X8_wrong_J47
        rw [m_noScene_yes b3 w2 hj, bnd_s, if_pos rfl, nm_s, (view_yes hw).2, if_pos rfl, m_thr0, bnd_s, if_pos rfl, if_neg h3, m_thr1, bnd_s, if_neg (by decide)]
  · have key : f_X7_wrong (nI ns) nw_cells nw_masks (nI nl) nw_slotK nw_slotX nw_slotY nw_setting (nI nc) nw_wishes nw_width sg_full sg_half sg_covered sg_deepest sg_two sg_one sg_missed a0 a1 a2 a3 = some (.inr (2, (sg_full, sg_half, sg_covered, sg_deepest, sg_two, sg_one, sg_missed))) ∧ f_X8_wrong m_thrown m_world m_made m_setting a0 a1 a2 a3 = f_X8_wrong_J23 m_world a0 a1 a2 a3 0 m_made m_setting := by
      unfold f_X7_wrong f_X8_wrong
      rcases pk_ix a0 (n := nc) (by omega) with h | h | ⟨j, hj, rfl⟩
      · rw [c_needScene_no (by omega) (Or.inl h), m_noScene_no b3 w2 (Or.inl h)]; exact ⟨rfl, rfl⟩
      · rw [c_needScene_no (by omega) (Or.inr h), m_noScene_no b3 w2 (Or.inr h)]; exact ⟨rfl, rfl⟩
      · have hn : ¬ View a1 a2 := fun q => hv ⟨⟨j, hj, rfl⟩, q⟩
        rw [c_needScene_yes (by omega) hj, m_noScene_yes b3 w2 hj, xb_l, (view_no hn).1, bnd_s, if_pos rfl, nm_s, (view_no hn).2]; exact ⟨rfl, rfl⟩
    rw [key.1, key.2]
    unfold f_X8_wrong_J23 f_X8_wrong_J28
    rw [m_thr1, bnd_s, if_neg (by decide)]
    exact Or.inr (Or.inr ⟨_, _, rfl, rfl, rfl, hI⟩)
