/-! ===== what the rules allow ===== -/
def krule (rows K f : Nat → Int32) (r : Nat) : Int32 :=
  if rows (3 * r) = 0 then (if sof f (rows (3 * r + 1)) = rows (3 * r + 2) then 0 else 1)
  else if rows (3 * r) = 1 then (if sof f (rows (3 * r + 1)) = -1 then (if sof f (rows (3 * r + 2)) = -1 then 1 else 0) else (if sof f (rows (3 * r + 2)) = -1 then 0 else 1))
  else if sof f (rows (3 * r + 1)) = -1 then 1 else if sof f (rows (3 * r + 2)) = -1 then 1
  else if rows (3 * r) = 2 then 0
  else if K (sof f (rows (3 * r + 1))).toNatClampNeg ≤ K (sof f (rows (3 * r + 2))).toNatClampNeg then 0 else 1
theorem krule01 (rows K f : Nat → Int32) (r : Nat) : krule rows K f r = 0 ∨ krule rows K f r = 1 := by
  unfold krule
  repeat' split
  all_goals first | exact Or.inl rfl | exact Or.inr rfl
def perm (rows K f : Nat → Int32) : Nat → Int32
  | 0 => 1
  | n + 1 => if perm rows K f n = 0 then 0 else krule rows K f n
theorem perm01 (rows K f : Nat → Int32) (n : Nat) : perm rows K f n = 0 ∨ perm rows K f n = 1 := by
  cases n with
  | zero => exact Or.inr rfl
  | succ n =>
    show (if perm rows K f n = 0 then 0 else krule rows K f n) = 0 ∨ (if perm rows K f n = 0 then 0 else krule rows K f n) = 1
    split
    · exact Or.inl rfl
    · exact krule01 _ _ _ _
theorem perm_down {rows K f : Nat → Int32} {n : Nat} (h : perm rows K f n = 0) : ∀ d, perm rows K f (n + d) = 0 := by
  intro d
  induction d with
  | zero => exact h
  | succ d ih =>
    show (if perm rows K f (n + d) = 0 then 0 else _) = (0 : Int32)
    rw [if_pos ih]
theorem perm_to {rows K f : Nat → Int32} {n m : Nat} (h : perm rows K f n = 0) (hm : n ≤ m) : perm rows K f m = 0 := by
  have := perm_down h (m - n)
  rwa [show n + (m - n) = m by omega] at this
theorem sof_in {ns nl : Nat} {f : Nat → Int32} (hf : Set4 ns nl f) {x : Int32} (hx : x ≠ -1) : sof f x = -1 ∨ ∃ l, l < 4 ∧ l < nl ∧ sof f x = nI l ∧ f l = x := by
  rcases sof_SL f x with ⟨e, _⟩ | ⟨l, hl, e, ex⟩
  · exact Or.inl e
  · rcases hf.1 l hl with z | ⟨z, _⟩
    · exact absurd (ex.symm.trans z) hx
    · exact Or.inr ⟨l, hl, z, e, ex⟩
theorem c_permits {rows sos K f w : Nat → Int32} {ns nl nr r : Nat} (hf : Set4 ns nl f) (h6 : ns ≤ 6) (h4 : nl ≤ 4) (hR : RuO ns nl nr rows w) (hr : r < nr) (h20 : nr ≤ 20) (hs : ∀ s, s < 6 → sos s = sof f (nI s)) : f_X1_permits rows sos K 4 (nI r * (3 : Int32)) = some (krule rows K f r) := by
  obtain ⟨d, a, b, e0, e1, e2, hd, ha, hb0, hb1⟩ := (hR r hr).1
  have er : nI r * (3 : Int32) = nI (3 * r) := by rw [show (3 : Int32) = nI 3 from rfl, pk_mul, Nat.mul_comm]
  have e3 : nI (3 * r) + (2 : Int32) = nI (3 * r + 2) := nI_add _ 2
  unfold f_X1_permits krule
  rw [er, chk_n (by omega) (by decide), nm_s, nI_clamp (by omega), nI_1, chk_n (by omega) (by decide), nI_clamp (by omega), e1, chk_n (by omega) (by decide), nI_clamp (by omega), nm_s, hs a (by omega), e3, e0, e2]
  rcases (show d = 0 ∨ d ≠ 0 by omega) with rfl | hd0
  · rw [if_pos (show nI 0 = (0 : Int32) from rfl), if_pos (show nI 0 = (0 : Int32) from rfl), chk_n (by omega) (by decide), nI_clamp (by omega), e2]
    split <;> rfl
  · have hb := hb1 hd0
    rw [if_neg (nI_ne0 (by omega) (by omega)), if_neg (nI_ne0 (by omega) (by omega)), chk_n (by omega) (by decide), nI_clamp (by omega), e2, chk_n (by omega) (by decide), nI_clamp (by omega), nm_s, hs b (by omega)]
    by_cases h1 : d = 1
    · subst h1
      unfold f_X1_permits_J76 f_X1_permits_J87
      rw [if_pos (show nI 1 = (1 : Int32) from rfl), if_pos (show nI 1 = (1 : Int32) from rfl)]
      by_cases qa : sof f (nI a) = -1
      · rw [if_pos qa, if_pos qa]
        by_cases qb : sof f (nI b) = -1
        · rw [if_pos qb, if_pos qb, if_pos rfl]
        · rw [if_neg qb, if_neg qb, if_neg (by decide)]
      · rw [if_neg qa, if_neg qa]
        by_cases qb : sof f (nI b) = -1
        · rw [if_pos qb, if_pos qb, if_neg (by decide)]
        · rw [if_neg qb, if_neg qb, if_pos rfl]
    · rw [if_neg (mt (eq_1 (by omega)).mp h1), if_neg (mt (eq_1 (by omega)).mp h1)]
      rcases sof_in hf (nI_m1 (n := a) (by omega)) with qa | ⟨la, la4, lan, qa, fa⟩
      · rw [if_pos qa, if_pos qa]
      · have na : ¬ sof f (nI a) = -1 := by rw [qa]; exact nI_m1 (by omega)
        rw [if_neg na, if_neg na]
        rcases sof_in hf (nI_m1 (n := b) (by omega)) with qb | ⟨lb, lb4, lbn, qb, fb⟩
        · rw [if_pos qb, if_pos qb]
        · have nb : ¬ sof f (nI b) = -1 := by rw [qb]; exact nI_m1 (by omega)
          rw [if_neg nb, if_neg nb]
          by_cases h2 : d = 2
          · subst h2
            rw [if_pos (show nI 2 = (2 : Int32) from rfl), if_pos (show nI 2 = (2 : Int32) from rfl)]
          · rw [if_neg (mt (eq_2 (by omega)).mp h2), if_neg (mt (eq_2 (by omega)).mp h2), qa, qb, chk_n la4 (by decide), chk_n lb4 (by decide)]
            split <;> rfl
theorem c_fill {nr : Int32} {rows K f sos : Nat → Int32} {ns nl : Nat} (hf : Set4 ns nl f) (h6 : ns ≤ 6) : OK (lp (fun q => f_X1_permit_S32 nr rows f 4 K 4 q.1 q.2) ((0 : Int32), sos)) (fun u => (∀ s, s < 6 → sos s = -1) → ∀ s, s < 6 → u s = sof f (nI s)) := by
  refine OK.mono (P := fun u => (∀ s, s < 6 → sos s = -1) → ∀ s, s < 6 → SL f (nI s) (u s)) ?_ (fun u hu h s hs => sof_at hf.2 (nI_m1 (by omega)) (hu h s hs))
  refine ok_lp (fun k t => t.1 = nI k ∧ ((∀ s, s < 6 → sos s = -1) → ∀ s, s < 6 → (t.2 s = -1 ∧ ∀ l, l < k → f l ≠ nI s) ∨ ∃ l, l < k ∧ t.2 s = nI l ∧ f l = nI s)) 4 (fun k t hk hJ => Or.inl ?_) (fun t hJ => ?_) ⟨rfl, fun h s hs => Or.inl ⟨h s hs, fun l hl => absurd hl (Nat.not_lt_zero l)⟩⟩
  · obtain ⟨e, hb⟩ := hJ
    unfold f_X1_permit_S32 f_X1_permit_J53
    rw [e, if_neg (ge_4 hk), chk_n hk (by decide), nI_clamp (by omega)]
    rcases hf.1 k hk with z | ⟨zl, s0, hs0, z⟩
    · rw [if_pos z, nm_s, nI_1]
      refine ⟨_, rfl, rfl, fun h s hs => ?_⟩
      rcases hb h s hs with ⟨q1, q2⟩ | ⟨l, hl, q1, q2⟩
      · refine Or.inl ⟨q1, fun l hl => ?_⟩
        rcases Nat.lt_succ_iff_lt_or_eq.mp hl with y | rfl
        · exact q2 l y
        · rw [z]; exact (nI_m1 (by omega)).symm
      · exact Or.inr ⟨l, by omega, q1, q2⟩
    · rw [if_neg (by rw [z]; exact nI_m1 (by omega)), chk_n hk (by decide), z, chk_n (by omega) (by decide), nm_s, nI_clamp (by omega), nm_s, nI_1]
      refine ⟨_, rfl, rfl, fun h s hs => ?_⟩
      show (upd t.2 s0 (nI k) s = -1 ∧ _) ∨ ∃ l, l < k + 1 ∧ upd t.2 s0 (nI k) s = nI l ∧ _
      by_cases e2 : s = s0
      · subst e2
        rw [upd_same]
        exact Or.inr ⟨k, by omega, rfl, z⟩
      · rw [upd_ne e2]
        rcases hb h s hs with ⟨q1, q2⟩ | ⟨l, hl, q1, q2⟩
        · refine Or.inl ⟨q1, fun l hl => ?_⟩
          rcases Nat.lt_succ_iff_lt_or_eq.mp hl with y | rfl
          · exact q2 l y
          · rw [z]; exact fun q => e2 ((nI_eq (by omega) (by omega)).mp q).symm
        · exact Or.inr ⟨l, by omega, q1, q2⟩
  · obtain ⟨e, hb⟩ := hJ
    unfold f_X1_permit_S32
    rw [e, if_pos gl_4]
    exact ⟨_, rfl, hb⟩
theorem c_clear {nr : Int32} {rows K f sos : Nat → Int32} : OK (lp (fun q => f_X1_permit_S11 nr rows f 4 K 4 q.1 q.2) ((0 : Int32), sos)) (fun u => ∀ s, s < 6 → u s = -1) := by
  refine ok_lp (fun k t => t.1 = nI k ∧ ∀ s, s < k → t.2 s = -1) 6 (fun k t hk hJ => Or.inl ?_) (fun t hJ => ?_) ⟨rfl, fun l hl => absurd hl (Nat.not_lt_zero l)⟩
  · obtain ⟨e, hb⟩ := hJ
    unfold f_X1_permit_S11
    rw [e, if_neg (ge_6 hk), chk_n hk (by decide), nm_s, nI_clamp (by omega), nm_s, nI_1]
    refine ⟨_, rfl, rfl, fun s hs => ?_⟩
    show upd t.2 k (-1) s = -1
    rcases Nat.lt_succ_iff_lt_or_eq.mp hs with y | rfl
    · rw [upd_ne (by omega)]; exact hb s y
    · exact upd_same _ _ _
  · obtain ⟨e, hb⟩ := hJ
    unfold f_X1_permit_S11
    rw [e, if_pos gl_6]
    exact ⟨_, rfl, hb⟩
theorem c_permit {rows sos K f w : Nat → Int32} {ns nl nr : Nat} (hf : Set4 ns nl f) (h6 : ns ≤ 6) (h4 : nl ≤ 4) (hR : RuO ns nl nr rows w) (h20 : nr ≤ 20) : OK (f_X1_permit (nI nr) rows sos f 4 K 4) (fun u => u.1 = perm rows K f nr) := by
  unfold f_X1_permit
  by_cases h0 : nr = 0
  · subst h0
    rw [if_pos (show nI 0 = (0 : Int32) from rfl)]
    exact ⟨_, rfl, rfl⟩
  · rw [if_neg (nI_ne0 (by omega) (by omega))]
    unfold f_X1_permit_J11
    refine ok_bnd c_clear (fun s1 h1 => ?_)
    unfold f_X1_permit_J30 f_X1_permit_J32
    refine ok_bnd (c_fill hf h6) (fun s2 h2 => ?_)
    have h2 := h2 h1
    unfold f_X1_permit_J59 f_X1_permit_J61
    refine ok_bnd (P := Sum.elim (fun _ => perm rows K f nr = 0) (fun _ => perm rows K f nr = 1)) ?_ (fun z hz => ?_)
    · refine ok_lp (fun k s => s = nI k ∧ perm rows K f k = 1) nr (fun k s hk hJ => ?_) (fun s hJ => ?_) ⟨rfl, rfl⟩
      · obtain ⟨rfl, hp⟩ := hJ
        unfold f_X1_permit_S61
        rw [if_neg (nI_ge hk (by omega)), c_permits hf h6 h4 hR hk h20 h2, bnd_s]
        have e : perm rows K f (k + 1) = krule rows K f k := by
          show (if perm rows K f k = 0 then 0 else krule rows K f k) = _
          rw [if_neg (by rw [hp]; decide)]
        by_cases q : krule rows K f k = 0
        · rw [if_pos q]
          exact Or.inr ⟨_, rfl, perm_to (n := k + 1) (e.trans q) (by omega)⟩
        · rw [if_neg q, nm_s, nI_1]
          refine Or.inl ⟨_, rfl, rfl, e.trans ?_⟩
          rcases krule01 rows K f k with z | z
          · exact absurd z q
          · exact z
      · obtain ⟨rfl, hp⟩ := hJ
        unfold f_X1_permit_S61
        rw [if_pos (Int32.le_refl _)]
        exact ⟨_, rfl, hp⟩
    · cases z with
      | inl z => exact ⟨_, rfl, Eq.symm hz⟩
      | inr z => exact ⟨_, rfl, Eq.symm hz⟩
theorem m_keepsRule {rows K X Y f w : Nat → Int32} {ns nl nr r : Nat} (hf : Set4 ns nl f) (h6 : ns ≤ 6) (h4 : nl ≤ 4) (w1 : w 1 = nI nl) (hS : SlO nl K X Y w) (hR : RuO ns nl nr rows w) (hr : r < nr) (h20 : nr ≤ 20) : f_X8_keepsRule w f (nI r) = some (krule rows K f r) := by
  obtain ⟨⟨d, a, b, e0, e1, e2, hd, ha, hb0, hb1⟩, hw⟩ := hR r hr
  have er : (978 : Int32) + (3 : Int32) * nI r = nI (978 + 3 * r) := by rw [show (3 : Int32) = nI 3 from rfl, pk_mul, show (978 : Int32) = nI 978 from rfl, nI_add]
  have e3 : nI (978 + 3 * r) + (2 : Int32) = nI (978 + 3 * r + 2) := nI_add _ 2
  have g0 : w (978 + 3 * r) = nI d := (hw 0 (by decide)).trans e0
  have g1 : w (978 + 3 * r + 1) = nI a := (hw 1 (by decide)).trans e1
  have g2 : w (978 + 3 * r + 2) = nI b := (hw 2 (by decide)).trans e2
  have lg : ∀ l, l < nl → f_X8_largeOf w (nI l) = some (K l) := fun l hl => by
    unfold f_X8_largeOf
    rw [show (32 : Int32) + (3 : Int32) * nI l = nI (32 + 3 * l) by rw [show (3 : Int32) = nI 3 from rfl, pk_mul, show (32 : Int32) = nI 32 from rfl, nI_add], chk_n (by omega) (by decide), nI_clamp (by omega), (hS l hl).1]
  have neg : ∀ x : Int32, (x = -1 ∨ ∃ l, l < 4 ∧ x = nI l) → (x < 0 ↔ x = -1) := fun x hx => by
    rcases hx with rfl | ⟨l, hl, rfl⟩
    · decide
    · exact ⟨fun q => absurd q (nI_pos (by omega)), fun q => absurd q (nI_m1 (by omega))⟩
  unfold f_X8_keepsRule krule
  rw [er, chk_n (by omega) (by decide), nm_s, nI_clamp (by omega), nI_1, chk_n (by omega) (by decide), nI_clamp (by omega), g1, m_slotNow w1 h4 hf (nI_m1 (by omega)), bnd_s, e3, chk_n (by omega) (by decide), nI_clamp (by omega), nm_s, g0, g2, e0, e1, e2]
  rcases (show d = 0 ∨ d ≠ 0 by omega) with rfl | hd0
  · rw [if_pos (show nI 0 = (0 : Int32) from rfl), if_pos (show nI 0 = (0 : Int32) from rfl)]
    split <;> rfl
  · have hb := hb1 hd0
    rw [if_neg (nI_ne0 (by omega) (by omega)), if_neg (nI_ne0 (by omega) (by omega)), m_slotNow w1 h4 hf (nI_m1 (by omega)), bnd_s]
    have na := neg (sof f (nI a)) ((sof_in hf (nI_m1 (n := a) (by omega))).imp id (fun ⟨l, h1, _, h2, _⟩ => ⟨l, h1, h2⟩))
    have nb := neg (sof f (nI b)) ((sof_in hf (nI_m1 (n := b) (by omega))).imp id (fun ⟨l, h1, _, h2, _⟩ => ⟨l, h1, h2⟩))
    by_cases h1 : d = 1
    · subst h1
      unfold f_X8_keepsRule_J86 f_X8_keepsRule_J96
      rw [if_pos (show nI 1 = (1 : Int32) from rfl), if_pos (show nI 1 = (1 : Int32) from rfl)]
      by_cases qa : sof f (nI a) = -1
      · rw [if_pos (na.mpr qa), if_pos qa]
        by_cases qb : sof f (nI b) = -1
        · rw [if_pos (nb.mpr qb), if_pos qb, if_pos rfl]
        · rw [if_neg (mt nb.mp qb), if_neg qb, if_neg (by decide)]
      · rw [if_neg (mt na.mp qa), if_neg qa]
        by_cases qb : sof f (nI b) = -1
        · rw [if_pos (nb.mpr qb), if_pos qb, if_neg (by decide)]
        · rw [if_neg (mt nb.mp qb), if_neg qb, if_pos rfl]
    · rw [if_neg (mt (eq_1 (by omega)).mp h1), if_neg (mt (eq_1 (by omega)).mp h1)]
      by_cases qa : sof f (nI a) = -1
      · rw [if_pos (na.mpr qa), if_pos qa]
      · rw [if_neg (mt na.mp qa), if_neg qa]
        by_cases qb : sof f (nI b) = -1
        · rw [if_pos (nb.mpr qb), if_pos qb]
        · rw [if_neg (mt nb.mp qb), if_neg qb]
          by_cases h2 : d = 2
          · subst h2
            rw [if_neg (by decide), if_pos (show nI 2 = (2 : Int32) from rfl)]
          · obtain rfl : d = 3 := by omega
            rw [if_pos (show nI 3 = (3 : Int32) from rfl), if_neg (show ¬ nI 3 = (2 : Int32) by decide)]
            rcases sof_in hf (nI_m1 (n := a) (by omega)) with z | ⟨la, la4, lan, ea, fa⟩
            · exact absurd z qa
            · rcases sof_in hf (nI_m1 (n := b) (by omega)) with z | ⟨lb, lb4, lbn, eb, fb⟩
              · exact absurd z qb
              · rw [ea, eb, lg la lan, bnd_s, lg lb lbn, bnd_s, nI_clamp (by omega), nI_clamp (by omega)]
                split <;> rfl
theorem m_isAllowed {rows K X Y f w : Nat → Int32} {ns nl nr : Nat} (hf : Set4 ns nl f) (h6 : ns ≤ 6) (h4 : nl ≤ 4) (w1 : w 1 = nI nl) (w7 : w 7 = nI nr) (hS : SlO nl K X Y w) (hR : RuO ns nl nr rows w) (h20 : nr ≤ 20) : f_X8_isAllowed w f = some (perm rows K f nr) := by
  unfold f_X8_isAllowed f_X8_isAllowed_J4
  have h : OK (lp (fun q => f_X8_isAllowed_S4 w f q.1 q.2) ((1 : Int32), (0 : Int32))) (fun r => r = perm rows K f nr) := by
    refine ok_lp (fun k s => s = (perm rows K f k, nI k)) nr (fun k s hk hJ => ?_) (fun s hJ => ?_) rfl
    · subst hJ
      show (∃ s', f_X8_isAllowed_S4 w f (perm rows K f k) (nI k) = some (.inl s') ∧ _) ∨ ∃ r, f_X8_isAllowed_S4 w f (perm rows K f k) (nI k) = some (.inr r) ∧ _
      unfold f_X8_isAllowed_S4
      rw [ck7, tn7, w7, if_neg (nI_ge hk (by omega))]
      by_cases q : perm rows K f k = 0
      · rw [if_pos q]
        exact Or.inr ⟨_, rfl, q.trans (perm_to q (by omega)).symm⟩
      · rw [if_neg q, m_keepsRule hf h6 h4 w1 hS hR hk h20, bnd_s, nm_s, nI_1]
        refine Or.inl ⟨_, rfl, ?_⟩
        show (krule rows K f k, _) = ((if perm rows K f k = 0 then 0 else krule rows K f k), _)
        rw [if_neg q]
    · subst hJ
      show ∃ r, f_X8_isAllowed_S4 w f (perm rows K f nr) (nI nr) = some (.inr r) ∧ _
      unfold f_X8_isAllowed_S4
      rw [ck7, tn7, w7, if_pos (Int32.le_refl _)]
      exact ⟨_, rfl, rfl⟩
  rw [h.eq, bnd_s]
  unfold f_X8_isAllowed_J31
  rw [gd_eq (decide_eq_true (perm01 _ _ _ _))]
theorem krule_cong {rows K f g : Nat → Int32} (h : ∀ l, l < 4 → f l = g l) (r : Nat) : krule rows K f r = krule rows K g r := by
  unfold krule
  rw [sof_cong h, sof_cong h]
theorem perm_cong {rows K f g : Nat → Int32} (h : ∀ l, l < 4 → f l = g l) : ∀ n, perm rows K f n = perm rows K g n := by
  intro n
  induction n with
  | zero => rfl
  | succ n ih =>
    show (if perm rows K f n = 0 then 0 else krule rows K f n) = (if perm rows K g n = 0 then 0 else krule rows K g n)
    rw [ih, krule_cong h]
theorem t_allowed : T_allowed Inv := by
  intro ls_hasImage tp_bytes tp_length tp_fault nw_sheets nw_cells nw_pasted nw_masks nw_uses nw_slots nw_slotK nw_slotX nw_slotY nw_setting nw_scenes nw_wishes nw_frames nw_frameRows nw_seen nw_seenRows nw_width nw_hands kp_sheets kp_cells kp_pasted kp_masks kp_uses kp_slots kp_slotK kp_slotX kp_slotY kp_setting kp_scenes kp_wishes kp_frames kp_frameRows kp_seen kp_seenRows kp_width kp_hands nr_size nr_rows nr_slotOfSheet kr_size kr_rows m_thrown m_world m_image m_hasImage m_tape m_taped m_faultAt m_rectangle m_hasRectangles m_setting hI
  obtain ⟨ns, nl, nc, nf, nk, nr, ⟨b1, b2, b3, b4, b5, b6⟩, ⟨rfl, rfl, rfl, rfl, rfl, rfl⟩, ⟨w0, w1, w2, w3, w4, w5, w6, w7⟩, hwd, hSh, hSl, hIn, hSc, hFr, hSe, hRu⟩ := hI.1
  obtain ⟨u1, e1, h1⟩ := m_takes (w := m_world) (st := m_setting)
  have h1' : ∀ l, l < 4 → u1 l = nw_setting l := fun l hl => (h1 l hl).trans (hIn.2 l hl)
  obtain ⟨u2, e2, h2⟩ := c_permit (sos := nr_slotOfSheet) (K := nw_slotK) hIn.1 b1 b2 hRu b6
  refine ⟨(perm nr_rows nw_slotK nw_setting nr, u2.2), (perm nr_rows nw_slotK nw_setting nr, 0, u1), ?_, ?_, rfl, hI⟩
  · unfold f_X7_allowed
    rw [e2, bnd_s, h2, gd_eq (decide_eq_true (perm01 _ _ _ _))]
  · unfold f_X8_allowed
    rw [e1, bnd_s, m_isAllowed (hIn.1.cong h1') b1 b2 w1 w7 hSl hRu b6, bnd_s, gd_eq (decide_eq_true (perm01 _ _ _ _)), perm_cong h1']
