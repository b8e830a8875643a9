/-! ===== the next step ===== -/
def stg (V : Nat → Nat → Nat → Nat) (u : Nat → Nat) (rows K : Nat → Int32) (nr : Nat) (f : Nat → Int32) (q : Nat × Int32) (l : Nat) (x : Int32) : Nat × Int32 := if perm rows K (putF f l x) nr = 0 then q else if q.1 ≤ nW V (putF f l x) u then q else (nW V (putF f l x) u, (((10 : Int32) * nI l) + x) + 1)
def inn (V : Nat → Nat → Nat → Nat) (u : Nat → Nat) (rows K : Nat → Int32) (nr : Nat) (f : Nat → Int32) (l : Nat) : Nat → Nat × Int32 → Nat × Int32
  | 0, q => q
  | j + 1, q => stg V u rows K nr f (inn V u rows K nr f l j q) l (nI j - 1)
def outr (V : Nat → Nat → Nat → Nat) (u : Nat → Nat) (rows K : Nat → Int32) (nr : Nat) (f : Nat → Int32) (ns : Nat) : Nat → Nat × Int32
  | 0 => (nW V f u, -1)
  | l + 1 => inn V u rows K nr f l (ns + 1) (outr V u rows K nr f ns l)
theorem stg_le {V : Nat → Nat → Nat → Nat} {u : Nat → Nat} {rows K f : Nat → Int32} {nr l : Nat} {q : Nat × Int32} {x : Int32} (h : q.1 ≤ 144) : (stg V u rows K nr f q l x).1 ≤ 144 := by
  unfold stg
  split
  · exact h
  · split
    · exact h
    · exact nW_le _ _ _
theorem inn_le {V : Nat → Nat → Nat → Nat} {u : Nat → Nat} {rows K f : Nat → Int32} {nr l : Nat} {q : Nat × Int32} (h : q.1 ≤ 144) : ∀ j, (inn V u rows K nr f l j q).1 ≤ 144 := by
  intro j
  induction j with
  | zero => exact h
  | succ j ih => exact stg_le ih
theorem outr_le {V : Nat → Nat → Nat → Nat} {u : Nat → Nat} {rows K f : Nat → Int32} {nr ns : Nat} : ∀ l, (outr V u rows K nr f ns l).1 ≤ 144 := by
  intro l
  induction l with
  | zero => exact nW_le _ _ _
  | succ l ih => exact inn_le ih _
theorem sh_end {ns j : Nat} (h : ns < 100) (hj : j < 100) : nI ns ≤ nI j - 1 ↔ ns + 1 ≤ j := by
  rw [le_i, show (nI j - 1).toInt = (j : Int) - 1 from pk_sub_toInt (b := 1) (by omega) (by decide), nI_toInt (by omega)]
  omega
theorem sh_nx (j : Nat) : nI j - 1 + 1 = nI (j + 1) - 1 := by rw [Int32.sub_add_cancel, nI_pred]
theorem sh_x {ns j : Nat} (hj : j < ns + 1) : nI j - 1 = -1 ∨ ∃ s, s < ns ∧ nI j - 1 = nI s := by
  cases j with
  | zero => exact Or.inl rfl
  | succ j => exact Or.inr ⟨j, by omega, nI_pred j⟩
theorem c_stepIn {cells K f w : Nat → Int32} {rows : Nat → Int32} {wishes full half : Nat → Int64} {V : Nat → Nat → Nat → Nat} {u : Nat → Nat} {ns nl nr l c : Nat} (h6 : ns ≤ 6) (h4 : nl ≤ 4) (h20 : nr ≤ 20) (hl : l < nl) (hc : c < 6) (hf : Set4 ns nl f) (hR : RuO ns nl nr rows w)
    (hT : ∀ l, l < nl → ∀ s, s < ns → FH full half (18 * l + 3 * s) (V l s)) (h2 : ∀ l s p, V l s p ≤ 2) (hU : TU w wishes c u) {q : Nat × Int32} (hq : q.1 ≤ 144) {two one missed : Nat → Int64} {tr sos : Nat → Int32} :
    OK (lp (fun q => f_X2_oneBetter_S37 (nI ns) (nI nl) K f wishes full half (nI nr) rows (nI c) (nI l) q.1 q.2.1 q.2.2.1 q.2.2.2.1 q.2.2.2.2.1 q.2.2.2.2.2.1 q.2.2.2.2.2.2.1 q.2.2.2.2.2.2.2) (nI q.1, q.2, (-1 : Int32), two, one, missed, tr, sos)) (fun r => r.1 = nI (inn V u rows K nr f l (ns + 1) q).1 ∧ r.2.1 = (inn V u rows K nr f l (ns + 1) q).2) := by
  refine ok_lp (fun j s => s.1 = nI (inn V u rows K nr f l j q).1 ∧ s.2.1 = (inn V u rows K nr f l j q).2 ∧ s.2.2.1 = nI j - 1) (ns + 1) (fun j s hj hJ => Or.inl ?_) (fun s hJ => ?_) ⟨rfl, rfl, rfl⟩
  · obtain ⟨q1, q2, q3⟩ := hJ
    have hput : Set4 ns nl (putF f l (nI j - 1)) := putF_set hf hl (sh_x hj) (by omega)
    obtain ⟨v1, d1, g1⟩ := c_tryPut (f := f) (tr := s.2.2.2.2.2.2.1) (x := nI j - 1) (show l < 4 by omega)
    obtain ⟨v2, d2, g2⟩ := c_permit (sos := s.2.2.2.2.2.2.2) (K := K) (hput.cong g1) h6 h4 hR h20
    rw [perm_cong g1] at g2
    obtain ⟨v3, d3, g3, _⟩ := c_misses0 (two := s.2.2.2.1) (one := s.2.2.2.2.1) (missed := s.2.2.2.2.2.1) h6 hc (hput.cong g1) hT h2 hU
    rw [nW_cong g1] at g3
    have hle := nW_le V (putF f l (nI j - 1)) u
    have hle2 := inn_le (V := V) (u := u) (rows := rows) (K := K) (f := f) (nr := nr) (l := l) hq j
    unfold f_X2_oneBetter_S37 f_X2_oneBetter_J119
    rw [q1, q2, q3, if_neg (mt (sh_end (by omega) (by omega)).mp (by omega)), d1, bnd_s, d2, bnd_s, g2, d3, bnd_s, g3, sh_nx]
    show ∃ s' : Int32 × Int32 × Int32 × (Nat → Int64) × (Nat → Int64) × (Nat → Int64) × (Nat → Int32) × (Nat → Int32), _ = some (Sum.inl s') ∧ s'.1 = nI (stg V u rows K nr f (inn V u rows K nr f l j q) l (nI j - 1)).1 ∧ s'.2.1 = (stg V u rows K nr f (inn V u rows K nr f l j q) l (nI j - 1)).2 ∧ _
    unfold stg
    by_cases z : perm rows K (putF f l (nI j - 1)) nr = 0
    · rw [if_pos z, if_pos z, nm_s]
      exact ⟨_, rfl, rfl, rfl, rfl⟩
    · rw [if_neg z, if_neg z]
      by_cases y : (inn V u rows K nr f l j q).1 ≤ nW V (putF f l (nI j - 1)) u
      · rw [if_pos (nI_le y (by omega)), if_pos y, nm_s]
        exact ⟨_, rfl, rfl, rfl, rfl⟩
      · rw [if_neg (mt (nI_leI (by omega) (by omega)).mp y), if_neg y, nm_s, nm_s]
        exact ⟨_, rfl, rfl, rfl, rfl⟩
  · obtain ⟨q1, q2, q3⟩ := hJ
    unfold f_X2_oneBetter_S37
    rw [q3, if_pos ((sh_end (by omega) (by omega)).mpr (by omega))]
    exact ⟨_, rfl, q1, q2⟩
theorem putM {ns nl l s : Nat} {f f' : Nat → Int32} (hf : Set4 ns nl f) (h : ∀ k, k < 4 → f' k = f k) (hs : s < 100) (hn : ns < 100) (hl : l < 4) :
    (sof f (nI s) = -1 → ∀ k, k < 4 → upd f' l (nI s) k = putF f l (nI s) k) ∧ (∀ a, a < 4 → f a = nI s → ∀ k, k < 4 → upd (upd f' a (-1)) l (nI s) k = putF f l (nI s) k) := by
  refine ⟨fun e k hk => ?_, fun a ha e k hk => ?_⟩
  · unfold putF
    rw [upd_at]
    by_cases z : k = l
    · rw [if_pos z, if_pos z]
    · rw [if_neg z, if_neg z, h k hk]
      rw [if_neg]
      intro q
      rcases sof_SL f (nI s) with ⟨_, w⟩ | ⟨b, hb, w, _⟩
      · exact w k hk q
      · exact nI_m1 (n := b) (by omega) (w.symm.trans e)
  · unfold putF
    rw [upd_at, upd_at]
    by_cases z : k = l
    · rw [if_pos z, if_pos z]
    · rw [if_neg z, if_neg z]
      by_cases y : k = a
      · subst y
        rw [if_pos rfl, if_pos e]
      · rw [if_neg y, h k hk, if_neg]
        intro q
        exact y (hf.2 k a hk ha (q.trans e.symm) (by rw [q]; exact nI_m1 (by omega)))
theorem m_stepIn {K X Y f w made st : Nat → Int32} {rows : Nat → Int32} {wishes : Nat → Int64} {V : Nat → Nat → Nat → Nat} {u : Nat → Nat} {ns nl nr l c : Nat} {a1 a2 t : Int32} (h6 : ns ≤ 6) (h4 : nl ≤ 4) (h20 : nr ≤ 20) (w0 : w 0 = nI ns) (w1 : w 1 = nI nl) (w7 : w 7 = nI nr) (hS : SlO nl K X Y w) (hl : l < nl) (hc : c < 6) (hf : InO ns nl f w) (hR : RuO ns nl nr rows w)
    (hM : ∀ l, l < nl → ∀ s, s < ns → ∀ p, p < 144 → made (864 * l + 144 * s + p) = nI (V l s p)) (h2 : ∀ l s p, V l s p ≤ 2) (hU : TU w wishes c u) {q : Nat × Int32} (hq : q.1 ≤ 144) :
    OK (lp (fun q => f_X8_step_S72 w (nI c) a1 a2 t made (nI l) q.1 q.2.1 q.2.2.1 q.2.2.2) (nI q.1, q.2, (-1 : Int32), st)) (fun r => r.1 = nI (inn V u rows K nr f l (ns + 1) q).1 ∧ r.2.1 = (inn V u rows K nr f l (ns + 1) q).2) := by
  refine ok_lp (fun j s => s.1 = nI (inn V u rows K nr f l j q).1 ∧ s.2.1 = (inn V u rows K nr f l j q).2 ∧ s.2.2.1 = nI j - 1) (ns + 1) (fun j s hj hJ => Or.inl ?_) (fun s hJ => ?_) ⟨rfl, rfl, rfl⟩
  · obtain ⟨q1, q2, q3⟩ := hJ
    have hl4 : l < 4 := by omega
    have hput : Set4 ns nl (putF f l (nI j - 1)) := putF_set hf.1 hl (sh_x hj) (by omega)
    obtain ⟨v1, d1, g1⟩ := m_takes (w := w) (st := s.2.2.2)
    have g1' : ∀ k, k < 4 → v1 k = f k := fun k hk => (g1 k hk).trans (hf.2 k hk)
    have hle := nW_le V (putF f l (nI j - 1)) u
    have hle2 := inn_le (V := V) (u := u) (rows := rows) (K := K) (f := f) (nr := nr) (l := l) hq j
    have tail : ∀ g : Nat → Int32, (∀ k, k < 4 → upd g l (nI j - 1) k = putF f l (nI j - 1) k) → ∃ s', f_X8_step_J111 w (nI c) a1 a2 t made (nI l) (nI (inn V u rows K nr f l j q).1) (inn V u rows K nr f l j q).2 (nI j - 1) g = some (.inl s') ∧ s'.1 = nI (stg V u rows K nr f (inn V u rows K nr f l j q) l (nI j - 1)).1 ∧ s'.2.1 = (stg V u rows K nr f (inn V u rows K nr f l j q) l (nI j - 1)).2 ∧ s'.2.2.1 = nI (j + 1) - 1 := by
      intro g hg
      unfold f_X8_step_J111 f_X8_step_J159
      rw [chk_n hl4 (by decide), nm_s, nI_clamp (by omega), m_isAllowed (hput.cong hg) h6 h4 w1 w7 hS hR h20, bnd_s, perm_cong hg, m_wrongNow w1 h6 h4 hc (hput.cong hg) (fun l s p hl hs hp _ => hM l hl s hs p hp) h2 hU, bnd_s, bnd_s, nW_cong hg, sh_nx]
      unfold stg
      by_cases z : perm rows K (putF f l (nI j - 1)) nr = 0
      · rw [if_pos z, if_pos z, nm_s]
        exact ⟨_, rfl, rfl, rfl, rfl⟩
      · rw [if_neg z, if_neg z]
        by_cases y : (inn V u rows K nr f l j q).1 ≤ nW V (putF f l (nI j - 1)) u
        · rw [if_neg (nI_nlt y (by omega)), if_pos y, nm_s]
          exact ⟨_, rfl, rfl, rfl, rfl⟩
        · rw [if_pos (nI_lt (by omega) (by omega)), if_neg y, nm_s, nm_s]
          exact ⟨_, rfl, rfl, rfl, rfl⟩
    unfold f_X8_step_S72
    rw [q1, q2, q3, m_sheets, bnd_s, w0, if_neg (mt (sh_end (by omega) (by omega)).mp (by omega)), d1, bnd_s]
    rcases sh_x hj with z | ⟨s0, hs0, z⟩
    · rw [if_pos (by rw [z]; decide)]
      refine tail v1 (fun k hk => ?_)
      rw [z, ← put_off k hk, upd_at, upd_at, g1' k hk]
    · have pm := putM (l := l) hf.1 g1' (show s0 < 100 by omega) (by omega) hl4
      rw [if_neg (by rw [z]; exact nI_pos (by omega)), show f_X8_slotNow w v1 (nI j - 1) = some (sof f (nI s0)) by rw [z, m_slotNow w1 h4 (hf.1.cong g1') (nI_m1 (by omega)), sof_cong g1'], bnd_s, bnd_s]
      rcases sof_in hf.1 (nI_m1 (n := s0) (by omega)) with y | ⟨a, a4, an, y, fa⟩
      · rw [if_pos (by rw [y]; decide)]
        refine tail v1 (fun k hk => ?_)
        rw [z]
        exact pm.1 y k hk
      · rw [y, if_neg (nI_pos (by omega)), chk_n a4 (by decide), nm_s, nI_clamp (by omega)]
        refine tail _ (fun k hk => ?_)
        rw [z]
        exact pm.2 a a4 fa k hk
  · obtain ⟨q1, q2, q3⟩ := hJ
    unfold f_X8_step_S72
    rw [q3, m_sheets, bnd_s, w0, if_pos ((sh_end (by omega) (by omega)).mpr (by omega))]
    exact ⟨_, rfl, q1, q2⟩
theorem t_step : T_step Inv := by
  intro ls_hasImage tp_bytes tp_length tp_fault nw_sheets nw_cells nw_pasted nw_masks nw_uses nw_slots nw_slotK nw_slotX nw_slotY nw_setting nw_scenes nw_wishes nw_frames nw_frameRows nw_seen nw_seenRows nw_width nw_hands kp_sheets kp_cells kp_pasted kp_masks kp_uses kp_slots kp_slotK kp_slotX kp_slotY kp_setting kp_scenes kp_wishes kp_frames kp_frameRows kp_seen kp_seenRows kp_width kp_hands sg_full sg_half sg_covered sg_deepest sg_two sg_one sg_missed se_trial nr_size nr_rows nr_slotOfSheet kr_size kr_rows m_thrown m_world m_image m_hasImage m_tape m_taped m_faultAt m_rectangle m_hasRectangles m_made m_setting hI a0 a1 a2
  obtain ⟨ns, nl, nc, nf, nk, nr, ⟨b1, b2, b3, b4, b5, b6⟩, ⟨rfl, rfl, rfl, rfl, rfl, rfl⟩, ⟨w0, w1, w2, w3, w4, w5, w6, w7⟩, hwd, hSh, hSl, hIn, hSc, hFr, hSe, hRu⟩ := hI.1
  by_cases hv : (∃ j, j < nc ∧ a0 = nI j) ∧ View a1 a2
  · obtain ⟨⟨j, hj, rfl⟩, hw⟩ := hv
    have hw' := hw
    obtain ⟨⟨i, hi, rfl⟩, t, ht, rfl⟩ := hw'
    have hU := TU_of hSc hj
    obtain ⟨u1, e1, h1⟩ := c_look0 (full := sg_full) (half := sg_half) (cells := nw_cells) (masks := nw_masks) (cv := sg_covered) (dp := sg_deepest) b1 b2 hSl hwd hi ht rfl
    obtain ⟨u2, e2, h2, _⟩ := c_misses0 (two := sg_two) (one := sg_one) (missed := sg_missed) b1 (show j < 6 by omega) hIn.1 h1 (VV_le _ _ _ _ _ _ _ _) hU
    have hC : OK (lp (fun q => f_X2_oneBetter_S22 (nI ns) (nI nl) nw_slotK nw_setting nw_wishes u1.1 u1.2.1 (nI nr) nr_rows (nI j) q.1 q.2.1 q.2.2.1 q.2.2.2.1 q.2.2.2.2.1 q.2.2.2.2.2.1 q.2.2.2.2.2.2.1 q.2.2.2.2.2.2.2) (u2.1, (-1 : Int32), (0 : Int32), u2.2.1, u2.2.2.1, u2.2.2.2, se_trial, nr_slotOfSheet)) (fun r => r.1 = (outr (VV nw_cells nw_masks nw_slotK nw_slotX nw_slotY nw_width i (nI t - 3)) (fun p => (m_world (48 + 144 * j + p)).toNatClampNeg) nr_rows nw_slotK nr nw_setting ns nl).2) := by
      refine ok_lp (fun l s => s.1 = nI (outr (VV nw_cells nw_masks nw_slotK nw_slotX nw_slotY nw_width i (nI t - 3)) (fun p => (m_world (48 + 144 * j + p)).toNatClampNeg) nr_rows nw_slotK nr nw_setting ns l).1 ∧ s.2.1 = (outr (VV nw_cells nw_masks nw_slotK nw_slotX nw_slotY nw_width i (nI t - 3)) (fun p => (m_world (48 + 144 * j + p)).toNatClampNeg) nr_rows nw_slotK nr nw_setting ns l).2 ∧ s.2.2.1 = nI l) nl (fun l s hl hJ => Or.inl ?_) (fun s hJ => ?_) ⟨h2, rfl, rfl⟩
      · obtain ⟨q1, q2, q3⟩ := hJ
        unfold f_X2_oneBetter_S22 f_X2_oneBetter_J37
        rw [q1, q2, q3, if_neg (nI_ge hl (by omega))]
        obtain ⟨r, er, r1, r2⟩ := c_stepIn (cells := nw_cells) (K := nw_slotK) (q := outr (VV nw_cells nw_masks nw_slotK nw_slotX nw_slotY nw_width i (nI t - 3)) (fun p => (m_world (48 + 144 * j + p)).toNatClampNeg) nr_rows nw_slotK nr nw_setting ns l) (two := s.2.2.2.1) (one := s.2.2.2.2.1) (missed := s.2.2.2.2.2.1) (tr := s.2.2.2.2.2.2.1) (sos := s.2.2.2.2.2.2.2) b1 b2 b6 hl (show j < 6 by omega) hIn.1 hRu h1 (VV_le _ _ _ _ _ _ _ _) hU (outr_le l)
        rw [er, bnd_s]
        unfold f_X2_oneBetter_J125
        rw [nm_s, nI_1]
        exact ⟨_, rfl, r1, r2, rfl⟩
      · obtain ⟨q1, q2, q3⟩ := hJ
        unfold f_X2_oneBetter_S22
        rw [q3, if_pos (Int32.le_refl _)]
        exact ⟨_, rfl, q2⟩
    obtain ⟨m1, k1, j1⟩ := m_lays (made := m_made) b1 b2 w0 w1 hSh hSl w5 hwd hi ht rfl
    obtain ⟨u3, e3, g3⟩ := m_takes (w := m_world) (st := m_setting)
    have g3' : ∀ l, l < 4 → u3 l = nw_setting l := fun l hl => (g3 l hl).trans (hIn.2 l hl)
    have hm : OK (lp (fun q => f_X8_step_S60 m_world (nI j) (nI i) (nI t - 3) 0 m1 q.1 q.2.1 q.2.2.1 q.2.2.2) (nI (nW (VV nw_cells nw_masks nw_slotK nw_slotX nw_slotY nw_width i (nI t - 3)) nw_setting (fun p => (m_world (48 + 144 * j + p)).toNatClampNeg)), (-1 : Int32), (0 : Int32), u3)) (fun r => r.1 = (outr (VV nw_cells nw_masks nw_slotK nw_slotX nw_slotY nw_width i (nI t - 3)) (fun p => (m_world (48 + 144 * j + p)).toNatClampNeg) nr_rows nw_slotK nr nw_setting ns nl).2) := by
      refine ok_lp (fun l s => s.1 = nI (outr (VV nw_cells nw_masks nw_slotK nw_slotX nw_slotY nw_width i (nI t - 3)) (fun p => (m_world (48 + 144 * j + p)).toNatClampNeg) nr_rows nw_slotK nr nw_setting ns l).1 ∧ s.2.1 = (outr (VV nw_cells nw_masks nw_slotK nw_slotX nw_slotY nw_width i (nI t - 3)) (fun p => (m_world (48 + 144 * j + p)).toNatClampNeg) nr_rows nw_slotK nr nw_setting ns l).2 ∧ s.2.2.1 = nI l) nl (fun l s hl hJ => Or.inl ?_) (fun s hJ => ?_) ⟨rfl, rfl, rfl⟩
      · obtain ⟨q1, q2, q3⟩ := hJ
        unfold f_X8_step_S60 f_X8_step_J72
        rw [q1, q2, q3, m_slots, bnd_s, w1, if_neg (nI_ge hl (by omega))]
        obtain ⟨r, er, r1, r2⟩ := m_stepIn (a1 := nI i) (a2 := nI t - 3) (t := 0) (st := s.2.2.2) (q := outr (VV nw_cells nw_masks nw_slotK nw_slotX nw_slotY nw_width i (nI t - 3)) (fun p => (m_world (48 + 144 * j + p)).toNatClampNeg) nr_rows nw_slotK nr nw_setting ns l) b1 b2 b6 w0 w1 w7 hSl hl (show j < 6 by omega) hIn hRu j1 (VV_le _ _ _ _ _ _ _ _) hU (outr_le l)
        rw [er, bnd_s]
        unfold f_X8_step_J165
        rw [nm_s, nI_1]
        exact ⟨_, rfl, r1, r2, rfl⟩
      · obtain ⟨q1, q2, q3⟩ := hJ
        unfold f_X8_step_S60
        rw [q3, m_slots, bnd_s, w1, if_pos (Int32.le_refl _)]
        exact ⟨_, rfl, q2⟩
    obtain ⟨r1, f1, p1⟩ := hC
    obtain ⟨r2, f2, p2⟩ := hm
    refine Or.inl ⟨(r1.1, u1.1, u1.2.1, u1.2.2.1, u1.2.2.2, r1.2.1, r1.2.2.1, r1.2.2.2.1, r1.2.2.2.2.1, r1.2.2.2.2.2), (r2.1, 0, m1, r2.2), ?_, ?_, rfl, p1.trans p2.symm, hI⟩
    · unfold f_X7_step f_X2_oneBetter f_X2_oneBetter_J22 f_X2_oneBetter_J131
      rw [c_needScene_yes (by omega) hj, xb_l, (view_yes hw).1, xb_l, e1, bnd_s, e2, bnd_s, f1, bnd_s, bnd_s]
    · unfold f_X8_step f_X8_step_J28 f_X8_step_J60 f_X8_step_J171
      rw [m_noScene_yes b3 w2 hj, bnd_s, if_pos rfl, nm_s, (view_yes hw).2, if_pos rfl, m_thr0, bnd_s, if_pos rfl, k1, bnd_s, e3, bnd_s, m_wrongNow w1 b1 b2 (show j < 6 by omega) (hIn.1.cong g3') (fun l s p hl hs hp _ => j1 l hl s hs p hp) (VV_le _ _ _ _ _ _ _ _) hU, bnd_s, nW_cong g3', f2, bnd_s]
  · have key : f_X7_step (nI ns) nw_cells nw_masks (nI nl) nw_slotK nw_slotX nw_slotY nw_setting (nI nc) nw_wishes nw_width sg_full sg_half sg_covered sg_deepest sg_two sg_one sg_missed se_trial (nI nr) nr_rows nr_slotOfSheet a0 a1 a2 = some (.inr (2, (sg_full, sg_half, sg_covered, sg_deepest, sg_two, sg_one, sg_missed, se_trial, nr_slotOfSheet))) ∧ f_X8_step m_thrown m_world m_made m_setting a0 a1 a2 = f_X8_step_J23 m_world a0 a1 a2 0 m_made m_setting := by
      unfold f_X7_step f_X8_step
      rcases pk_ix a0 (n := nc) (by omega) with h | h | ⟨j, hj, rfl⟩
      · rw [c_needScene_no (by omega) (Or.inl h), m_noScene_no b3 w2 (Or.inl h)]; exact ⟨rfl, rfl⟩
      · rw [c_needScene_no (by omega) (Or.inr h), m_noScene_no b3 w2 (Or.inr h)]; exact ⟨rfl, rfl⟩
      · have hn : ¬ View a1 a2 := fun q => hv ⟨⟨j, hj, rfl⟩, q⟩
        rw [c_needScene_yes (by omega) hj, m_noScene_yes b3 w2 hj, xb_l, (view_no hn).1, bnd_s, if_pos rfl, nm_s, (view_no hn).2]; exact ⟨rfl, rfl⟩
    rw [key.1, key.2]
    unfold f_X8_step_J23 f_X8_step_J28
    rw [m_thr1, bnd_s, if_neg (by decide)]
    exact Or.inr ⟨_, _, rfl, rfl, rfl, hI⟩
