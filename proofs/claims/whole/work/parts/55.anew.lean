/-! ===== cutting anew ===== -/
theorem c_cast0 {K X Y : Nat → Int32} {W seat cells : Int32} {full half : Nat → Int64} {cv dp : Nat → Int32} {l s kk F : Nat} (hl : l < 4) (hs : s < 6) (hK : K l = nI kk) (hk : 1 ≤ kk ∧ kk ≤ 3) (hF : W * (K l - 1) = nI F) (hF3 : F < 3)
    (hx : -18 ≤ (X l + seat * (K l - 1)).toInt ∧ (X l + seat * (K l - 1)).toInt ≤ 18) (hy : -12 ≤ (Y l).toInt ∧ (Y l).toInt ≤ 12) :
    OK (f_X3_cast K X Y W full half cv dp (0 : Int32) (nI l) (nI s) seat cells) (fun u => FH u.1 u.2.1 (18 * l + 3 * s) (fun p => shd cells kk F (ix (X l + seat * (K l - 1)) (p % 12)) (ix (Y l) (p / 12))) ∧ ∀ q, (q < 18 * l + 3 * s ∨ 18 * l + 3 * s + 3 ≤ q) → u.1 q = full q ∧ u.2.1 q = half q) := by
  have h := c_cast (full := full) (half := half) (cells := cells) (cv := cv) (dp := dp) (v := 0) (l := l) (s := s) (by decide) hl hs hK hk hF hF3 hx hy
  refine OK.mono h (fun u hu => ?_)
  rwa [Nat.mul_zero, Nat.zero_add] at hu
noncomputable def abits (N : Int32 → Nat) (x : Int32) : Nat → Int32
  | 0 => 0
  | c + 1 => if N x ≤ N (x ^^^ ((1 : Int32) <<< (nI c &&& 31))) then abits N x c else abits N x c ||| ((1 : Int32) <<< (nI c &&& 31))
theorem bit_C25 {c : Nat} (hc : c < 25) : C25 ((1 : Int32) <<< (nI c &&& 31)) := fun i hi => by
  by_cases h : i < 32
  · rw [bt_bit (by omega) h]; exact decide_eq_false (by omega)
  · exact b_big (by omega)
theorem FH.keep {f h f' h' : Nat → Int64} {a : Nat} {V : Nat → Nat} (hf : FH f h a V) (hq : ∀ q, q < 3 → f' (a + q) = f (a + q) ∧ h' (a + q) = h (a + q)) : FH f' h' a V := ⟨fun p hp => by rw [(hq (p / 48) (by omega)).1, (hq (p / 48) (by omega)).2]; exact hf.1 p hp, fun q hq3 i hi => by rw [(hq q hq3).1, (hq q hq3).2]; exact hf.2 q hq3 i hi⟩
theorem VV_other {cells masks K X Y : Nat → Int32} {W seat x : Int32} {light s l' s' : Nat} (h : s' ≠ s) : VV (upd cells s x) masks K X Y W light seat l' s' = VV cells masks K X Y W light seat l' s' := by
  funext p
  unfold VV
  rw [upd_ne h]
/-- what the class holds of the shadows that are used, but for those of slot l -/
def HO (f : Nat → Int32) (l : Nat) (V : Nat → Nat → Nat → Nat) (full half : Nat → Int64) : Prop := ∀ l' s', l' < 4 → s' < 6 → f l' = nI s' → l' ≠ l → FH full half (18 * l' + 3 * s') (V l' s')
theorem c_anewOne {cells masks K X Y w f : Nat → Int32} {W : Int32} {wishes full half two one missed : Nat → Int64} {cv dp : Nat → Int32} {u : Nat → Nat} {ns nl light t l s c : Nat} {x : Int32} (h6 : ns ≤ 6) (h4 : nl ≤ 4) (hf : Set4 ns nl f) (hl : l < nl) (hs : s < ns) (e : f l = nI s) (hc : c < 6) (hS : SlO nl K X Y w) (hW : W = 0 ∨ W = 1) (ht : t < 7) (lit : bt (masks s) light = true) (hU : TU w wishes c u)
    (hO : HO f l (VV cells masks K X Y W light (nI t - 3)) full half) :
    ∃ v r, f_X3_cast K X Y W full half cv dp (0 : Int32) (nI l) (nI s) (nI t - 3) x = some v ∧ f_X3_misses wishes v.1 v.2.1 two one missed f 4 (0 : Int32) (nI c) = some r ∧ r.1 = nI (nW (VV (upd cells s x) masks K X Y W light (nI t - 3)) f u) ∧ HO f l (VV cells masks K X Y W light (nI t - 3)) v.1 v.2.1 := by
  obtain ⟨kk, F, eK, hk, eF, hF, hx, hy⟩ := slot_facts hS hl hW ht
  obtain ⟨v, ev, h1, h2⟩ := c_cast0 (full := full) (half := half) (cells := x) (cv := cv) (dp := dp) (l := l) (s := s) (show l < 4 by omega) (by omega) eK hk eF hF hx hy
  have hO' : HO f l (VV cells masks K X Y W light (nI t - 3)) v.1 v.2.1 := fun l' s' hl' hs' e' ne => by
    refine (hO l' s' hl' hs' e' ne).keep (fun q hq => h2 _ ?_)
    omega
  have hT : ∀ l' s', l' < 4 → s' < 6 → f l' = nI s' → FH v.1 v.2.1 (72 * 0 + 18 * l' + 3 * s') (VV (upd cells s x) masks K X Y W light (nI t - 3) l' s') := fun l' s' hl' hs' e' => by
    rw [Nat.mul_zero, Nat.zero_add]
    by_cases z : l' = l
    · subst z
      have es : s' = s := (nI_eq (by omega) (by omega)).mp (e'.symm.trans e)
      subst es
      have eV : VV (upd cells s' x) masks K X Y W light (nI t - 3) l' s' = fun p => shd x kk F (ix (X l' + (nI t - 3) * (K l' - 1)) (p % 12)) (ix (Y l') (p / 12)) := by
        funext p
        unfold VV
        rw [upd_same, if_pos lit, eF, eK, nI_clamp (by omega), nI_clamp (by omega)]
      rw [eV]
      exact h1
    · have ne : s' ≠ s := fun q => z (hf.2 l' l hl' (by omega) (by rw [e', e, q]) (by rw [e']; exact nI_m1 (by omega)))
      rw [VV_other ne]
      exact hO' l' s' hl' hs' e' z
  obtain ⟨r, er, h3, _⟩ := c_misses (two := two) (one := one) (missed := missed) (v := 0) (by decide) hc (hf.six h6) hT (VV_le _ _ _ _ _ _ _ _) hU
  exact ⟨v, r, ev, er, h3, hO'⟩
theorem bit_cases (x : Int32) {c : Nat} (hc : c < 25) : (x &&& ((1 : Int32) <<< (nI c &&& 31)) = 0 ∧ x ||| ((1 : Int32) <<< (nI c &&& 31)) = x ^^^ ((1 : Int32) <<< (nI c &&& 31)) ∧ x &&& (((1 : Int32) <<< (nI c &&& 31)) ^^^ -1) = x) ∨ (x &&& ((1 : Int32) <<< (nI c &&& 31)) ≠ 0 ∧ x ||| ((1 : Int32) <<< (nI c &&& 31)) = x ∧ x &&& (((1 : Int32) <<< (nI c &&& 31)) ^^^ -1) = x ^^^ ((1 : Int32) <<< (nI c &&& 31))) := by
  cases h : bt x c with
  | false =>
    refine Or.inl ⟨b_ext (fun i hi => ?_), b_ext (fun i hi => ?_), b_ext (fun i hi => ?_)⟩
    · rw [b_and, bt_bit (by omega) hi, b_0]
      by_cases e : i = c
      · rw [e, h]; rfl
      · rw [decide_eq_false e, Bool.and_false]
    · rw [b_or, b_xor, bt_bit (by omega) hi]
      by_cases e : i = c
      · rw [e, h, decide_eq_true rfl]; rfl
      · rw [decide_eq_false e, Bool.or_false, Bool.xor_false]
    · rw [b_and, bt_not _ hi, bt_bit (by omega) hi]
      by_cases e : i = c
      · rw [e, h]; rfl
      · rw [decide_eq_false e]; simp
  | true =>
    refine Or.inr ⟨fun q => ?_, b_ext (fun i hi => ?_), b_ext (fun i hi => ?_)⟩
    · have := congrArg (fun z => bt z c) q
      simp only [b_and, bt_bit (c := c) (i := c) (by omega) (by omega), b_0, h] at this
      simp at this
    · rw [b_or, bt_bit (by omega) hi]
      by_cases e : i = c
      · rw [e, h]; rfl
      · rw [decide_eq_false e, Bool.or_false]
    · rw [b_and, bt_not _ hi, b_xor, bt_bit (by omega) hi]
      by_cases e : i = c
      · rw [e, h, decide_eq_true rfl]; rfl
      · rw [decide_eq_false e]; simp
theorem t_anew : T_anew Inv := by
  intro ls_hasImage tp_bytes tp_length tp_fault nw_sheets nw_cells nw_pasted nw_masks nw_uses nw_slots nw_slotK nw_slotX nw_slotY nw_setting nw_scenes nw_wishes nw_frames nw_frameRows nw_seen nw_seenRows nw_width nw_hands kp_sheets kp_cells kp_pasted kp_masks kp_uses kp_slots kp_slotK kp_slotX kp_slotY kp_setting kp_scenes kp_wishes kp_frames kp_frameRows kp_seen kp_seenRows kp_width kp_hands sg_full sg_half sg_covered sg_deepest sg_two sg_one sg_missed nr_size nr_rows kr_size kr_rows m_thrown m_world m_image m_hasImage m_tape m_taped m_faultAt m_rectangle m_hasRectangles m_made m_setting hI a0 a1 a2 a3
  obtain ⟨ns, nl, nc, nf, nk, nr, ⟨b1, b2, b3, b4, b5, b6⟩, ⟨rfl, rfl, rfl, rfl, rfl, rfl⟩, ⟨w0, w1, w2, w3, w4, w5, w6, w7⟩, hwd, hSh, hSl, hIn, hSc, hFr, hSe, hRu⟩ := hI.1
  by_cases hv : (∃ s, s < ns ∧ a0 = nI s) ∧ (∃ j, j < nc ∧ a1 = nI j) ∧ View a2 a3
  · obtain ⟨⟨s, hs, rfl⟩, ⟨j, hj, rfl⟩, hw⟩ := hv
    have hw' := hw
    obtain ⟨⟨i, hi, rfl⟩, t, ht, rfl⟩ := hw'
    have eC : f_X4_slotOf nw_setting 4 (0 : Int32) (nI s) = some (sof nw_setting (nI s)) := c_slotOf0 hIn.1 (by omega)
    have eM : f_X8_slotOf m_world (nI s) = some (sof nw_setting (nI s)) := m_slotOf w1 b2 hIn.2 hIn.1 (nI_m1 (by omega))
    obtain ⟨q1, q2, q3, q4, q5, q6, q7⟩ := hSh s hs
    have hm37 : ∀ r, f_X8_anew_J37 (nI s) (nI j) (nI i) (nI t - 3) 0 0 m_world m_made m_setting = r → f_X8_anew m_thrown m_world m_made m_setting (nI s) (nI j) (nI i) (nI t - 3) = r := fun r hr => by
      unfold f_X8_anew
      rw [m_noSheet_yes b1 w0 hs, bnd_s, if_pos rfl, m_noScene_yes b3 w2 hj, bnd_s, if_pos rfl, nm_s, (view_yes hw).2, if_pos rfl, hr]
    have thr : f_X8_anew_J76 (nI s) (nI j) (nI i) (nI t - 3) 0 m_world m_made m_setting = some (0, 2, m_world, m_made, m_setting) := by
      unfold f_X8_anew_J76 f_X8_anew_J81
      rw [m_thr1, bnd_s, if_neg (by decide)]
    have bad : (¬ nw_width = 0 ∨ sof nw_setting (nI s) = -1 ∨ ¬ bt (nw_masks s) i = true) → f_X7_anew (nI ns) nw_cells nw_masks (nI nl) nw_slotK nw_slotX nw_slotY nw_setting (nI nc) nw_wishes nw_width sg_full sg_half sg_covered sg_deepest sg_two sg_one sg_missed (nI s) (nI j) (nI i) (nI t - 3) = some (.inr (1, (sg_full, sg_half, sg_covered, sg_deepest, sg_two, sg_one, sg_missed))) ∧ f_X8_anew m_thrown m_world m_made m_setting (nI s) (nI j) (nI i) (nI t - 3) = some (0, 2, m_world, m_made, m_setting) := fun hb => by
      refine ⟨?_, hm37 _ ?_⟩
      · unfold f_X7_anew
        rw [c_needSheet_yes (by omega) hs, xb_l, c_needScene_yes (by omega) hj, xb_l, (view_yes hw).1, xb_l, eC, bnd_s, c_keepsOff (by omega) (by omega), bnd_s]
        by_cases z0 : nw_width = 0
        · rw [if_pos z0]
          by_cases z1 : sof nw_setting (nI s) = -1
          · rw [if_pos z1]
          · rw [if_neg z1]
            have z2 : ¬ bt (nw_masks s) i = true := hb.elim (fun q => absurd z0 q) (fun q => q.elim (fun q => absurd q z1) id)
            rw [if_neg z2, if_pos rfl]
        · rw [if_neg z0]
      · unfold f_X8_anew_J37
        rw [m_thr0, bnd_s, if_pos rfl, ck5, tn5, w5, thr]
        by_cases z0 : nw_width = 0
        · rw [if_neg (by rw [z0]; decide), eM, bnd_s]
          by_cases z1 : sof nw_setting (nI s) = -1
          · rw [if_pos (by rw [z1]; decide)]
          · have z2 : ¬ bt (nw_masks s) i = true := hb.elim (fun q => absurd z0 q) (fun q => q.elim (fun q => absurd q z1) id)
            rcases sof_in hIn.1 (nI_m1 (n := s) (by omega)) with z | ⟨l, l4', ln, z, fz⟩
            · exact absurd z z1
            · rw [z, if_neg (nI_pos (by omega)), m_of0 (by omega), bnd_s, nm_s, show m_world (8 + 4 * s + 0) = nw_masks s from q1, m_has _ (by omega), if_neg z2, if_pos rfl]
        · rw [if_pos (hwd.elim (fun q => absurd q z0) id)]
    by_cases good : nw_width = 0 ∧ ¬ sof nw_setting (nI s) = -1 ∧ bt (nw_masks s) i = true
    · obtain ⟨g0, g1, lit⟩ := good
      rcases sof_in hIn.1 (nI_m1 (n := s) (by omega)) with z | ⟨l, l4', ln, z, fz⟩
      · exact absurd z g1
      have hU := TU_of hSc hj
      obtain ⟨u1, e1, h1⟩ := c_look0 (full := sg_full) (half := sg_half) (cells := nw_cells) (masks := nw_masks) (cv := sg_covered) (dp := sg_deepest) b1 b2 hSl hwd hi ht rfl
      have hO1 : HO nw_setting l (VV nw_cells nw_masks nw_slotK nw_slotX nw_slotY nw_width i (nI t - 3)) u1.1 u1.2.1 := fun l' s' hl' hs' e' _ => h1 l' (hIn.1.at6 b1 hl' hs' e').1 s' (hIn.1.at6 b1 hl' hs' e').2
      have same : upd nw_cells s (nw_cells s) = nw_cells := fa_upd_same rfl
      have hC : OK (lp (fun q => f_X7_anew_S87 (nI ns) nw_cells nw_masks (nI nl) nw_slotK nw_slotX nw_slotY nw_setting (nI nc) nw_wishes nw_width (nI s) (nI j) (nI i) (nI t - 3) (nI l) q.1 q.2.1 q.2.2.1 q.2.2.2.1 q.2.2.2.2.1 q.2.2.2.2.2.1 q.2.2.2.2.2.2.1 q.2.2.2.2.2.2.2.1 q.2.2.2.2.2.2.2.2) ((0 : Int32), (0 : Int32), u1.1, u1.2.1, u1.2.2.1, u1.2.2.2, sg_two, sg_one, sg_missed)) (fun r => r.1 = abits (fun x => nW (VV (upd nw_cells s x) nw_masks nw_slotK nw_slotX nw_slotY nw_width i (nI t - 3)) nw_setting (fun p => (m_world (48 + 144 * j + p)).toNatClampNeg)) (nw_cells s) 25) := by
        refine ok_lp (fun c r => r.1 = abits (fun x => nW (VV (upd nw_cells s x) nw_masks nw_slotK nw_slotX nw_slotY nw_width i (nI t - 3)) nw_setting (fun p => (m_world (48 + 144 * j + p)).toNatClampNeg)) (nw_cells s) c ∧ r.2.1 = nI c ∧ HO nw_setting l (VV nw_cells nw_masks nw_slotK nw_slotX nw_slotY nw_width i (nI t - 3)) r.2.2.1 r.2.2.2.1) 25 (fun c r hc hJ => Or.inl ?_) (fun r hJ => ?_) ⟨rfl, rfl, hO1⟩
        · obtain ⟨k1, k2, k3⟩ := hJ
          obtain ⟨v, m, d1, d2, d3, d4⟩ := c_anewOne (cv := r.2.2.2.2.1) (dp := r.2.2.2.2.2.1) (two := r.2.2.2.2.2.2.1) (one := r.2.2.2.2.2.2.2.1) (missed := r.2.2.2.2.2.2.2.2) (x := nw_cells s ||| ((1 : Int32) <<< (nI c &&& 31))) b1 b2 hIn.1 ln hs fz (show j < 6 by omega) hSl hwd ht lit hU k3
          obtain ⟨v', m', d1', d2', d3', d4'⟩ := c_anewOne (cv := v.2.2.1) (dp := v.2.2.2) (two := m.2.1) (one := m.2.2.1) (missed := m.2.2.2) (x := nw_cells s &&& (((1 : Int32) <<< (nI c &&& 31)) ^^^ -1)) b1 b2 hIn.1 ln hs fz (show j < 6 by omega) hSl hwd ht lit hU d4
          have le1 := nW_le (VV (upd nw_cells s (nw_cells s)) nw_masks nw_slotK nw_slotX nw_slotY nw_width i (nI t - 3)) nw_setting (fun p => (m_world (48 + 144 * j + p)).toNatClampNeg)
          have le2 := nW_le (VV (upd nw_cells s (nw_cells s ^^^ ((1 : Int32) <<< (nI c &&& 31)))) nw_masks nw_slotK nw_slotX nw_slotY nw_width i (nI t - 3)) nw_setting (fun p => (m_world (48 + 144 * j + p)).toNatClampNeg)
          have one : f_X7_otherAnew nw_cells nw_slotK nw_slotX nw_slotY nw_setting nw_wishes nw_width r.2.2.1 r.2.2.2.1 r.2.2.2.2.1 r.2.2.2.2.2.1 r.2.2.2.2.2.2.1 r.2.2.2.2.2.2.2.1 r.2.2.2.2.2.2.2.2 (nI l) (nI j) (nI t - 3) ((1 : Int32) <<< (nI c &&& 31)) = some (if nW (VV (upd nw_cells s (nw_cells s)) nw_masks nw_slotK nw_slotX nw_slotY nw_width i (nI t - 3)) nw_setting (fun p => (m_world (48 + 144 * j + p)).toNatClampNeg) ≤ nW (VV (upd nw_cells s (nw_cells s ^^^ ((1 : Int32) <<< (nI c &&& 31)))) nw_masks nw_slotK nw_slotX nw_slotY nw_width i (nI t - 3)) nw_setting (fun p => (m_world (48 + 144 * j + p)).toNatClampNeg) then 0 else 1, v'.1, v'.2.1, v'.2.2.1, v'.2.2.2, m'.2.1, m'.2.2.1, m'.2.2.2) := by
            unfold f_X7_otherAnew f_X7_otherAnew_J118
            rw [chk_n l4' (by decide), nI_clamp (by omega), fz, chk_n (by omega) (by decide), nm_s, nI_clamp (by omega), chk_n l4' (by decide), d1, bnd_s, d2, bnd_s, chk_n l4' (by decide), d1', bnd_s, d2', bnd_s, d3, d3']
            rcases bit_cases (nw_cells s) hc with ⟨y1, y2, y3⟩ | ⟨y1, y2, y3⟩
            · rw [if_pos y1, if_pos rfl, y2, y3]
              by_cases le : nW (VV (upd nw_cells s (nw_cells s)) nw_masks nw_slotK nw_slotX nw_slotY nw_width i (nI t - 3)) nw_setting (fun p => (m_world (48 + 144 * j + p)).toNatClampNeg) ≤ nW (VV (upd nw_cells s (nw_cells s ^^^ ((1 : Int32) <<< (nI c &&& 31)))) nw_masks nw_slotK nw_slotX nw_slotY nw_width i (nI t - 3)) nw_setting (fun p => (m_world (48 + 144 * j + p)).toNatClampNeg)
              · rw [if_pos (nI_le le (by omega)), if_pos le]
              · rw [if_neg (mt (nI_leI (by omega) (by omega)).mp le), if_neg le]
            · rw [if_neg y1, if_neg (by decide), y2, y3]
              by_cases le : nW (VV (upd nw_cells s (nw_cells s)) nw_masks nw_slotK nw_slotX nw_slotY nw_width i (nI t - 3)) nw_setting (fun p => (m_world (48 + 144 * j + p)).toNatClampNeg) ≤ nW (VV (upd nw_cells s (nw_cells s ^^^ ((1 : Int32) <<< (nI c &&& 31)))) nw_masks nw_slotK nw_slotX nw_slotY nw_width i (nI t - 3)) nw_setting (fun p => (m_world (48 + 144 * j + p)).toNatClampNeg)
              · rw [if_pos (nI_le le (by omega)), if_pos le]
              · rw [if_neg (mt (nI_leI (by omega) (by omega)).mp le), if_neg le]
          unfold f_X7_anew_S87 f_X7_anew_J119
          rw [k1, k2, if_neg (ge_25 hc), one, bnd_s, nm_s, nm_s, nm_s, nI_1]
          by_cases le : nW (VV (upd nw_cells s (nw_cells s)) nw_masks nw_slotK nw_slotX nw_slotY nw_width i (nI t - 3)) nw_setting (fun p => (m_world (48 + 144 * j + p)).toNatClampNeg) ≤ nW (VV (upd nw_cells s (nw_cells s ^^^ ((1 : Int32) <<< (nI c &&& 31)))) nw_masks nw_slotK nw_slotX nw_slotY nw_width i (nI t - 3)) nw_setting (fun p => (m_world (48 + 144 * j + p)).toNatClampNeg)
          · rw [if_pos le, if_pos rfl]
            refine ⟨_, rfl, ?_, rfl, d4'⟩
            show _ = if _ then _ else _
            rw [if_pos le]
          · rw [if_neg le, if_neg (show ¬ (1 : Int32) = 0 by decide)]
            refine ⟨_, rfl, ?_, rfl, d4'⟩
            show _ = if _ then _ else _
            rw [if_neg le]
        · obtain ⟨k1, k2, k3⟩ := hJ
          unfold f_X7_anew_S87
          rw [k2, if_pos gl_25]
          exact ⟨_, rfl, k1⟩
      obtain ⟨m1, n1, j1⟩ := m_lays (made := m_made) b1 b2 w0 w1 hSh hSl w5 hwd hi ht rfl
      obtain ⟨u3, e3, g3⟩ := m_takes (w := m_world) (st := m_setting)
      have g3' : ∀ l, l < 4 → u3 l = nw_setting l := fun l hl => (g3 l hl).trans (hIn.2 l hl)
      have hm : OK (lp (fun q => f_X8_anew_S122 (nI s) (nI j) (nI i) (nI t - 3) (nw_cells s) (nI l) 0 u3 q.1 q.2.1 q.2.2.1 q.2.2.2) ((0 : Int32), (0 : Int32), m_world, m1)) (fun r => r.1 = abits (fun x => nW (VV (upd nw_cells s x) nw_masks nw_slotK nw_slotX nw_slotY nw_width i (nI t - 3)) nw_setting (fun p => (m_world (48 + 144 * j + p)).toNatClampNeg)) (nw_cells s) 25 ∧ r.2.1 = m_world) := by
        refine ok_lp (fun c r => r.1 = abits (fun x => nW (VV (upd nw_cells s x) nw_masks nw_slotK nw_slotX nw_slotY nw_width i (nI t - 3)) nw_setting (fun p => (m_world (48 + 144 * j + p)).toNatClampNeg)) (nw_cells s) c ∧ r.2.1 = nI c ∧ r.2.2.1 = m_world ∧ ∀ l, l < nl → ∀ s, s < ns → ∀ p, p < 144 → r.2.2.2 (864 * l + 144 * s + p) = nI ((VV nw_cells nw_masks nw_slotK nw_slotX nw_slotY nw_width i (nI t - 3)) l s p)) 25 (fun c r hc hJ => Or.inl ?_) (fun r hJ => ?_) ⟨rfl, rfl, rfl, j1⟩
        · obtain ⟨k1, k2, k3, k4⟩ := hJ
          have hx : C25 (nw_cells s ^^^ ((1 : Int32) <<< (nI c &&& 31))) := q5.xor (bit_C25 hc)
          have hSh' := hSh.put hs _ hx
          have hSl' : SlO nl nw_slotK nw_slotX nw_slotY (upd m_world (8 + 4 * s + 1) (nw_cells s ^^^ ((1 : Int32) <<< (nI c &&& 31)))) := hSl.fr b2 (fun i _ _ => upd_ne (by omega))
          have hU' : TU (upd m_world (8 + 4 * s + 1) (nw_cells s ^^^ ((1 : Int32) <<< (nI c &&& 31)))) nw_wishes j (fun p => (m_world (48 + 144 * j + p)).toNatClampNeg) := ⟨fun p hp => by rw [upd_ne (by omega)]; exact hU.1 p hp, hU.2⟩
          obtain ⟨x1, d1, p1, p2⟩ := m_laysOne (made := r.2.2.2) b1 b2 ln hs hSh' hSl' (by rw [upd_ne (by omega)]; exact w5) hwd hi ht rfl
          obtain ⟨x2, d2, p3, p4⟩ := m_laysOne (made := x1) b1 b2 ln hs hSh hSl w5 hwd hi ht rfl
          have mk : ∀ l' s' p, l' < nl → s' < ns → p < 144 → u3 l' = nI s' → x1 (864 * l' + 144 * s' + p) = nI (VV (upd nw_cells s (nw_cells s ^^^ ((1 : Int32) <<< (nI c &&& 31)))) nw_masks nw_slotK nw_slotX nw_slotY nw_width i (nI t - 3) l' s' p) := fun l' s' p hl' hs' hp e' => by
            rw [g3' l' (by omega)] at e'
            by_cases y : l' = l
            · subst y
              have es : s' = s := (nI_eq (by omega) (by omega)).mp (e'.symm.trans fz)
              subst es
              exact p1 p hp
            · have ne : s' ≠ s := fun q => y (hIn.1.2 l' l (by omega) (by omega) (by rw [e', fz, q]) (by rw [e']; exact nI_m1 (by omega)))
              rw [p2 _ (by omega), VV_other ne]
              exact k4 l' hl' s' hs' p hp
          have back : upd (upd m_world (8 + 4 * s + 1) (nw_cells s ^^^ ((1 : Int32) <<< (nI c &&& 31)))) (8 + 4 * s + 1) (nw_cells s) = m_world := by
            rw [fa_upd_twice]; exact fa_upd_same q2
          have le1 := nW_le (VV nw_cells nw_masks nw_slotK nw_slotX nw_slotY nw_width i (nI t - 3)) nw_setting (fun p => (m_world (48 + 144 * j + p)).toNatClampNeg)
          have le2 := nW_le (VV (upd nw_cells s (nw_cells s ^^^ ((1 : Int32) <<< (nI c &&& 31)))) nw_masks nw_slotK nw_slotX nw_slotY nw_width i (nI t - 3)) nw_setting (fun p => (m_world (48 + 144 * j + p)).toNatClampNeg)
          unfold f_X8_anew_S122 f_X8_anew_J179
          rw [k1, k2, k3, if_neg (ge_25 hc), m_wrongNow w1 b1 b2 (show j < 6 by omega) (hIn.1.cong g3') (fun l s p hl hs hp _ => k4 l hl s hs p hp) (VV_le _ _ _ _ _ _ _ _) hU, bnd_s, m_sets1 (by omega), bnd_s, d1, bnd_s, m_wrongNow (by rw [upd_ne (by omega)]; exact w1) b1 b2 (show j < 6 by omega) (hIn.1.cong g3') mk (VV_le _ _ _ _ _ _ _ _) hU', bnd_s, nW_cong g3', nW_cong g3', nm_s, nm_s, m_sets1 (by omega), bnd_s, bnd_s, back, d2, bnd_s, bnd_s, nm_s, nm_s, nI_1]
          have k4' : ∀ l', l' < nl → ∀ s', s' < ns → ∀ p, p < 144 → x2 (864 * l' + 144 * s' + p) = nI ((VV nw_cells nw_masks nw_slotK nw_slotX nw_slotY nw_width i (nI t - 3)) l' s' p) := fun l' hl' s' hs' p hp => by
            by_cases y : l' = l ∧ s' = s
            · obtain ⟨rfl, rfl⟩ := y
              exact p3 p hp
            · rw [p4 _ (by omega), p2 _ (by omega)]
              exact k4 l' hl' s' hs' p hp
          by_cases le : nW (VV nw_cells nw_masks nw_slotK nw_slotX nw_slotY nw_width i (nI t - 3)) nw_setting (fun p => (m_world (48 + 144 * j + p)).toNatClampNeg) ≤ nW (VV (upd nw_cells s (nw_cells s ^^^ ((1 : Int32) <<< (nI c &&& 31)))) nw_masks nw_slotK nw_slotX nw_slotY nw_width i (nI t - 3)) nw_setting (fun p => (m_world (48 + 144 * j + p)).toNatClampNeg)
          · rw [if_pos (nI_le le (by omega)), or0]
            refine ⟨_, rfl, ?_, rfl, rfl, k4'⟩
            show _ = if _ then _ else _
            rw [if_pos (by show nW (VV (upd nw_cells s (nw_cells s)) _ _ _ _ _ _ _) _ _ ≤ _; rw [same]; exact le)]
          · rw [if_neg (mt (nI_leI (by omega) (by omega)).mp le)]
            refine ⟨_, rfl, ?_, rfl, rfl, k4'⟩
            show _ = if _ then _ else _
            rw [if_neg (by show ¬ nW (VV (upd nw_cells s (nw_cells s)) _ _ _ _ _ _ _) _ _ ≤ _; rw [same]; exact le)]
        · obtain ⟨k1, k2, k3, k4⟩ := hJ
          unfold f_X8_anew_S122
          rw [k2, if_pos gl_25]
          exact ⟨_, rfl, k1, k3⟩
      obtain ⟨r1, f1, p1⟩ := hC
      obtain ⟨r2, f2, p2, p3⟩ := hm
      refine Or.inl ⟨(r1.1, r1.2.1, r1.2.2.1, r1.2.2.2.1, r1.2.2.2.2.1, r1.2.2.2.2.2.1, r1.2.2.2.2.2.2.1, r1.2.2.2.2.2.2.2), (r2.1, 0, m_world, r2.2.2, u3), ?_, hm37 _ ?_, rfl, p1.trans p2.symm, hI⟩
      · unfold f_X7_anew f_X7_anew_J87 f_X7_anew_J125
        rw [c_needSheet_yes (by omega) hs, xb_l, c_needScene_yes (by omega) hj, xb_l, (view_yes hw).1, xb_l, eC, bnd_s, if_pos g0, if_neg g1, c_keepsOff (by omega) (by omega), bnd_s, if_pos lit, if_neg (by decide), e1, bnd_s, z, f1, bnd_s]
      · unfold f_X8_anew_J37 f_X8_anew_J81 f_X8_anew_J122 f_X8_anew_J206
        rw [m_thr0, bnd_s, if_pos rfl, ck5, tn5, w5, if_neg (by rw [g0]; decide), eM, bnd_s, z, if_neg (nI_pos (by omega)), m_of0 (by omega), bnd_s, nm_s, show m_world (8 + 4 * s + 0) = nw_masks s from q1, m_has _ (by omega), if_pos lit, if_neg (by decide), m_thr0, bnd_s, if_pos rfl, e3, bnd_s, n1, bnd_s, m_of1 (by omega), bnd_s, bnd_s, q2, f2, bnd_s, p3]
    · have hb := bad (by
        by_cases z0 : nw_width = 0
        · by_cases z1 : sof nw_setting (nI s) = -1
          · exact Or.inr (Or.inl z1)
          · exact Or.inr (Or.inr (fun q => good ⟨z0, z1, q⟩))
        · exact Or.inl z0)
      exact Or.inr (Or.inl ⟨_, _, hb.1, hb.2, rfl, hI⟩)
  · have key : f_X7_anew (nI ns) nw_cells nw_masks (nI nl) nw_slotK nw_slotX nw_slotY nw_setting (nI nc) nw_wishes nw_width sg_full sg_half sg_covered sg_deepest sg_two sg_one sg_missed a0 a1 a2 a3 = some (.inr (2, (sg_full, sg_half, sg_covered, sg_deepest, sg_two, sg_one, sg_missed))) ∧ f_X8_anew m_thrown m_world m_made m_setting a0 a1 a2 a3 = f_X8_anew_J32 a0 a1 a2 a3 0 m_world m_made m_setting := by
      unfold f_X7_anew f_X8_anew
      rcases pk_ix a0 (n := ns) (by omega) with h | h | ⟨s, hs, rfl⟩
      · rw [c_needSheet_no (by omega) (Or.inl h), m_noSheet_no b1 w0 (Or.inl h)]; exact ⟨rfl, rfl⟩
      · rw [c_needSheet_no (by omega) (Or.inr h), m_noSheet_no b1 w0 (Or.inr h)]; exact ⟨rfl, rfl⟩
      · rw [c_needSheet_yes (by omega) hs, m_noSheet_yes b1 w0 hs, xb_l, bnd_s, if_pos rfl]
        rcases pk_ix a1 (n := nc) (by omega) with h | h | ⟨j, hj, rfl⟩
        · rw [c_needScene_no (by omega) (Or.inl h), m_noScene_no b3 w2 (Or.inl h)]; exact ⟨rfl, rfl⟩
        · rw [c_needScene_no (by omega) (Or.inr h), m_noScene_no b3 w2 (Or.inr h)]; exact ⟨rfl, rfl⟩
        · have hn : ¬ View a2 a3 := fun q => hv ⟨⟨s, hs, rfl⟩, ⟨j, hj, rfl⟩, q⟩
          rw [c_needScene_yes (by omega) hj, m_noScene_yes b3 w2 hj, xb_l, (view_no hn).1, bnd_s, if_pos rfl, nm_s, (view_no hn).2]; exact ⟨rfl, rfl⟩
    rw [key.1, key.2]
    unfold f_X8_anew_J32 f_X8_anew_J37
    rw [m_thr1, bnd_s, if_neg (by decide)]
    exact Or.inr (Or.inr ⟨_, _, rfl, rfl, rfl, hI⟩)
