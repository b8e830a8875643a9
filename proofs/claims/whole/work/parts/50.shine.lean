/-! ===== what a setting's shadows are together ===== -/
def sh1 (V : Nat → Nat → Nat → Nat) (f : Nat → Int32) (p l : Nat) : Nat := if f l = -1 then 0 else V l (f l).toNatClampNeg p
def SN (V : Nat → Nat → Nat → Nat) (f : Nat → Int32) (p : Nat) : Nat := min 2 (fb_sm (sh1 V f p) 4)
def ex1 (V : Nat → Nat → Nat → Nat) (f : Nat → Int32) (p : Nat) : Nat → Bool
  | 0 => false
  | n + 1 => ex1 V f p n || decide (sh1 V f p n = 1)
theorem ex1_pos {V : Nat → Nat → Nat → Nat} {f : Nat → Int32} {p : Nat} : ∀ {n : Nat}, ex1 V f p n = true → 1 ≤ fb_sm (sh1 V f p) n := by
  intro n
  induction n with
  | zero => intro h; cases h
  | succ n ih =>
    intro h
    rw [fb_sm_succ]
    have h' : (ex1 V f p n || decide (sh1 V f p n = 1)) = true := h
    rw [Bool.or_eq_true] at h'
    rcases h' with z | z
    · have := ih z; omega
    · have := of_decide_eq_true z; omega
theorem ex1_one {V : Nat → Nat → Nat → Nat} {f : Nat → Int32} {p : Nat} : ∀ {n : Nat}, fb_sm (sh1 V f p) n = 1 → ex1 V f p n = true := by
  intro n
  induction n with
  | zero => intro h; cases h
  | succ n ih =>
    intro h
    rw [fb_sm_succ] at h
    show (ex1 V f p n || decide (sh1 V f p n = 1)) = true
    rw [Bool.or_eq_true]
    by_cases z : sh1 V f p n = 1
    · exact Or.inr (decide_eq_true z)
    · exact Or.inl (ih (by omega))
def Two (V : Nat → Nat → Nat → Nat) (f : Nat → Int32) (two one : Nat → Int64) : Prop := (∀ p, p < 144 → bl (two (p / 48)) (p % 48) = decide (SN V f p = 2) ∧ bl (one (p / 48)) (p % 48) = decide (SN V f p = 1)) ∧ ∀ q, q < 3 → ∀ i, 48 ≤ i → bl (two q) i = false ∧ bl (one q) i = false
theorem c_shineSlot {full half : Nat → Int64} {pa : Nat → Int32} {pn at0 : Nat} {a0 a1 l4 : Int32} {two one : Nat → Int64} (hat : at0 + 3 ≤ 432) :
    OK (lp (fun q => f_X3_shine_S70 full half pa pn a0 a1 l4 (nI at0) q.1 q.2.1 q.2.2) ((0 : Int32), two, one)) (fun u => ∀ q, q < 3 → u.1 q = (two q ||| (full (at0 + q) ||| (one q &&& half (at0 + q)))) ∧ u.2 q = (one q ||| half (at0 + q))) := by
  refine ok_lp (fun k s => s.1 = nI k ∧ (∀ q, q < k → s.2.1 q = (two q ||| (full (at0 + q) ||| (one q &&& half (at0 + q)))) ∧ s.2.2 q = (one q ||| half (at0 + q))) ∧ ∀ q, k ≤ q → s.2.1 q = two q ∧ s.2.2 q = one q) 3 (fun k s hk hJ => Or.inl ?_) (fun s hJ => ?_) ⟨rfl, fun q hq => absurd hq (Nat.not_lt_zero q), fun _ _ => ⟨rfl, rfl⟩⟩
  · obtain ⟨e, h1, h2⟩ := hJ
    unfold f_X3_shine_S70
    rw [e, if_neg (ge_3 hk), nI_add, chk_n (by omega) (by decide), nm_s, nI_clamp (by omega), chk_n hk (by decide), chk_n (by omega) (by decide), chk_n hk (by decide), chk_n hk (by decide), nm_s, nI_clamp (by omega), chk_n hk (by decide), chk_n hk (by decide), nm_s, nm_s, nI_1, (h2 k (Nat.le_refl _)).1, (h2 k (Nat.le_refl _)).2]
    refine ⟨_, rfl, rfl, fun q hq => ?_, fun q hq => ?_⟩
    · show vp_updL _ _ _ _ = _ ∧ vp_updL _ _ _ _ = _
      rw [updL_at, updL_at]
      by_cases z : q = k
      · subst z; rw [if_pos rfl, if_pos rfl]; exact ⟨rfl, rfl⟩
      · rw [if_neg z, if_neg z]; exact h1 q (by omega)
    · show vp_updL _ _ _ _ = _ ∧ vp_updL _ _ _ _ = _
      rw [updL_at, updL_at, if_neg (by omega), if_neg (by omega)]
      exact h2 q (by omega)
  · obtain ⟨e, h1, h2⟩ := hJ
    unfold f_X3_shine_S70
    rw [e, if_pos gl_3]
    exact ⟨_, rfl, h1⟩
theorem c_shine {full half two one : Nat → Int64} {pa f : Nat → Int32} {pn fr v : Nat} {V : Nat → Nat → Nat → Nat} (hv : v < 6) (hfr : fr + 4 ≤ pn) (hpn : pn < 1000) (hpa : ∀ l, l < 4 → pa (fr + l) = f l) (hf : ∀ l, l < 4 → f l = -1 ∨ ∃ s, s < 6 ∧ f l = nI s)
    (hT : ∀ l s, l < 4 → s < 6 → f l = nI s → FH full half (72 * v + 18 * l + 3 * s) (V l s)) (h2 : ∀ l s p, V l s p ≤ 2) :
    OK (f_X3_shine full half two one pa pn (nI v) (nI fr)) (fun u => Two V f u.1 u.2) := by
  unfold f_X3_shine f_X3_shine_J3
  refine ok_bnd (P := fun u => ∀ q, q < 3 → u.1 q = 0 ∧ u.2 q = 0) ?_ (fun z hz => ?_)
  · refine ok_lp (fun k s => s.1 = nI k ∧ ∀ q, q < k → s.2.1 q = 0 ∧ s.2.2 q = 0) 3 (fun k s hk hJ => Or.inl ?_) (fun s hJ => ?_) ⟨rfl, fun q hq => absurd hq (Nat.not_lt_zero q)⟩
    · obtain ⟨e, h1⟩ := hJ
      unfold f_X3_shine_S3
      rw [e, if_neg (ge_3 hk), chk_n hk (by decide), nm_s, chk_n hk (by decide), nm_s, nI_clamp (by omega), nm_s, nI_1]
      refine ⟨_, rfl, rfl, fun q hq => ?_⟩
      show vp_updL _ _ _ _ = _ ∧ vp_updL _ _ _ _ = _
      rw [updL_at, updL_at]
      by_cases y : q = k
      · rw [if_pos y, if_pos y]; exact ⟨rfl, rfl⟩
      · rw [if_neg y, if_neg y]; exact h1 q (by omega)
    · obtain ⟨e, h1⟩ := hJ
      unfold f_X3_shine_S3
      rw [e, if_pos gl_3]
      exact ⟨_, rfl, h1⟩
  · unfold f_X3_shine_J31 f_X3_shine_J34
    refine ok_bnd (P := fun u => (∀ p, p < 144 → bl (u.1 (p / 48)) (p % 48) = decide (2 ≤ fb_sm (sh1 V f p) 4) ∧ bl (u.2 (p / 48)) (p % 48) = ex1 V f p 4) ∧ ∀ q, q < 3 → ∀ i, 48 ≤ i → bl (u.1 q) i = false ∧ bl (u.2 q) i = false) ?_ (fun y hy => ?_)
    · refine ok_lp (fun n s => s.1 = nI n ∧ (∀ p, p < 144 → bl (s.2.1 (p / 48)) (p % 48) = decide (2 ≤ fb_sm (sh1 V f p) n) ∧ bl (s.2.2 (p / 48)) (p % 48) = ex1 V f p n) ∧ ∀ q, q < 3 → ∀ i, 48 ≤ i → bl (s.2.1 q) i = false ∧ bl (s.2.2 q) i = false) 4 (fun n s hn hJ => Or.inl ?_) (fun s hJ => ?_) ⟨rfl, fun p hp => ?_, fun q hq i hi => ?_⟩
      · obtain ⟨e, h1, hh⟩ := hJ
        unfold f_X3_shine_S34 f_X3_shine_J137
        rw [e, if_neg (ge_4 hn), nI_add, chk_n (by omega) (by omega), nm_s, nI_clamp (by omega), hpa n hn]
        rcases hf n hn with z | ⟨s0, hs0, z⟩
        · rw [if_pos z, nm_s, nI_1]
          refine ⟨_, rfl, rfl, fun p hp => ?_, hh⟩
          show bl (s.2.1 (p / 48)) (p % 48) = _ ∧ bl (s.2.2 (p / 48)) (p % 48) = (ex1 V f p n || decide (sh1 V f p n = 1))
          rw [fb_sm_succ, show sh1 V f p n = 0 from if_pos z, Nat.add_zero]
          rw [(h1 p hp).1, (h1 p hp).2]
          exact ⟨rfl, by simp⟩
        · have nz : ¬ f n = -1 := by rw [z]; exact nI_m1 (by omega)
          have ep : f_X3_place (nI v) (nI n) (nI s0) = nI (72 * v + 18 * n + 3 * s0) := by
            unfold f_X3_place
            rw [show (4 : Int32) = nI 4 from rfl, pk_mul, nI_add, show (6 : Int32) = nI 6 from rfl, pk_mul, nI_add, show (3 : Int32) = nI 3 from rfl, pk_mul]
            congr 1; omega
          rw [if_neg nz, z, nm_s, ep]
          unfold f_X3_shine_J70
          obtain ⟨r, er, hr⟩ := c_shineSlot (full := full) (half := half) (pa := pa) (pn := pn) (at0 := 72 * v + 18 * n + 3 * s0) (a0 := nI v) (a1 := nI fr) (l4 := nI n) (two := s.2.1) (one := s.2.2) (by omega)
          rw [er, bnd_s]
          unfold f_X3_shine_J137
          rw [nm_s, nI_1]
          have hF := hT n s0 hn hs0 z
          refine ⟨_, rfl, rfl, fun p hp => ?_, fun q hq i hi => ?_⟩
          · show bl (r.1 (p / 48)) (p % 48) = _ ∧ bl (r.2 (p / 48)) (p % 48) = (ex1 V f p n || decide (sh1 V f p n = 1))
            have es : sh1 V f p n = V n s0 p := by unfold sh1; rw [if_neg nz, z, nI_clamp (by omega)]
            obtain ⟨g1, g2⟩ := hF.1 p hp
            obtain ⟨k1, k2⟩ := h1 p hp
            obtain ⟨r1, r2⟩ := hr (p / 48) (by omega)
            rw [r1, r2, bl_or, bl_or, bl_or, bl_and, g1, g2, k1, k2, fb_sm_succ, es]
            have hv2 := h2 n s0 p
            have x1 := @ex1_pos V f p n
            have x2 := @ex1_one V f p n
            generalize fb_sm (sh1 V f p) n = m at x1 x2 ⊢
            generalize V n s0 p = x at hv2 ⊢
            refine ⟨?_, by cases ex1 V f p n <;> rfl⟩
            rcases (show x = 0 ∨ x = 1 ∨ x = 2 by omega) with rfl | rfl | rfl
            · cases ex1 V f p n <;> simp
            · cases hE : ex1 V f p n with
              | true =>
                have := x1 hE
                rw [decide_eq_true (show 2 ≤ m + 1 by omega)]
                simp
              | false =>
                have : m ≠ 1 := fun q => by rw [x2 q] at hE; cases hE
                simp only [Bool.false_and, Bool.or_false]
                rw [show decide ((1 : Nat) = 2) = false from rfl, Bool.or_false]
                exact decide_eq_decide.mpr (by omega)
            · rw [decide_eq_true (show 2 ≤ m + 2 by omega)]
              simp
          · show bl (r.1 q) i = false ∧ bl (r.2 q) i = false
            obtain ⟨r1, r2⟩ := hr q hq
            obtain ⟨g1, g2⟩ := hF.2 q hq i hi
            obtain ⟨k1, k2⟩ := hh q hq i hi
            rw [r1, r2, bl_or, bl_or, bl_or, bl_and, g1, g2, k1, k2]
            exact ⟨rfl, rfl⟩
      · obtain ⟨e, h1, hh⟩ := hJ
        unfold f_X3_shine_S34
        rw [e, if_pos gl_4]
        exact ⟨_, rfl, h1, hh⟩
      · dsimp only
        rw [(hz (p / 48) (by omega)).1, (hz (p / 48) (by omega)).2, bl_0]
        exact ⟨rfl, rfl⟩
      · dsimp only
        rw [(hz q hq).1, (hz q hq).2, bl_0]
        exact ⟨rfl, rfl⟩
    · obtain ⟨y1, y2⟩ := hy
      unfold f_X3_shine_J143 f_X3_shine_J146
      refine ok_bnd (P := fun u => ∀ q, q < 3 → u q = (y.2 q &&& (y.1 q ^^^ -1))) ?_ (fun u hu => ?_)
      · refine ok_lp (fun k s => s.1 = nI k ∧ (∀ q, q < k → s.2 q = (y.2 q &&& (y.1 q ^^^ -1))) ∧ ∀ q, k ≤ q → s.2 q = y.2 q) 3 (fun k s hk hJ => Or.inl ?_) (fun s hJ => ?_) ⟨rfl, fun q hq => absurd hq (Nat.not_lt_zero q), fun _ _ => rfl⟩
        · obtain ⟨e, h1, h3⟩ := hJ
          unfold f_X3_shine_S146
          rw [e, if_neg (ge_3 hk), chk_n hk (by decide), chk_n hk (by decide), chk_n hk (by decide), nm_s, nI_clamp (by omega), nm_s, nI_1, h3 k (Nat.le_refl _)]
          refine ⟨_, rfl, rfl, fun q hq => ?_, fun q hq => ?_⟩
          · show vp_updL _ _ _ _ = _
            rw [updL_at]
            by_cases x : q = k
            · subst x; rw [if_pos rfl]
            · rw [if_neg x]; exact h1 q (by omega)
          · show vp_updL _ _ _ _ = _
            rw [updL_at, if_neg (by omega)]
            exact h3 q (by omega)
        · obtain ⟨e, h1, h3⟩ := hJ
          unfold f_X3_shine_S146
          rw [e, if_pos gl_3]
          exact ⟨_, rfl, h1⟩
      · refine ⟨_, rfl, fun p hp => ?_, fun q hq i hi => ?_⟩
        · show bl (y.1 (p / 48)) (p % 48) = _ ∧ bl (u (p / 48)) (p % 48) = _
          obtain ⟨k1, k2⟩ := y1 p hp
          rw [hu (p / 48) (by omega), bl_and, bl_not _ (by omega), k1, k2]
          have x1 := @ex1_pos V f p 4
          have x2 := @ex1_one V f p 4
          unfold SN
          generalize fb_sm (sh1 V f p) 4 = m at x1 x2 ⊢
          refine ⟨decide_eq_decide.mpr (by omega), ?_⟩
          cases hE : ex1 V f p 4 with
          | true =>
            have := x1 hE
            by_cases q : 2 ≤ m
            · rw [decide_eq_true q, decide_eq_false (show ¬ min 2 m = 1 by omega)]; rfl
            · rw [decide_eq_false q, decide_eq_true (show min 2 m = 1 by omega)]; rfl
          | false =>
            have : m ≠ 1 := fun q => by rw [x2 q] at hE; cases hE
            rw [Bool.false_and, decide_eq_false (show ¬ min 2 m = 1 by omega)]
        · show bl (y.1 q) i = _ ∧ bl (u q) i = _
          rw [hu q hq, bl_and, (y2 q hq i hi).1, (y2 q hq i hi).2]
          exact ⟨rfl, rfl⟩
theorem sm_tail {V : Nat → Nat → Nat → Nat} {f : Nat → Int32} {p ns nl : Nat} (hf : Set4 ns nl f) (h4 : nl ≤ 4) : fb_sm (sh1 V f p) 4 = fb_sm (sh1 V f p) nl := by
  have h : ∀ d, nl + d ≤ 4 → fb_sm (sh1 V f p) (nl + d) = fb_sm (sh1 V f p) nl := by
    intro d
    induction d with
    | zero => intro _; rfl
    | succ d ih =>
      intro hd
      rw [← Nat.add_assoc, fb_sm_succ, ih (by omega)]
      rcases hf.1 (nl + d) (by omega) with e | ⟨e, _⟩
      · rw [show sh1 V f p (nl + d) = 0 from if_pos e]; rfl
      · omega
  have := h (4 - nl) (by omega)
  rwa [show nl + (4 - nl) = 4 by omega] at this
theorem m_shadeNow {w made f : Nat → Int32} {V : Nat → Nat → Nat → Nat} {ns nl p : Nat} (w1 : w 1 = nI nl) (h6 : ns ≤ 6) (h4 : nl ≤ 4) (hf : Set4 ns nl f) (hp : p < 144) (hM : ∀ l s, l < nl → s < ns → f l = nI s → made (864 * l + 144 * s + p) = nI (V l s p)) (h2 : ∀ l s p, V l s p ≤ 2) : f_X8_shadeNow w made f (nI p) = some (nI (SN V f p)) := by
  unfold f_X8_shadeNow f_X8_shadeNow_J4
  have h : OK (lp (fun q => f_X8_shadeNow_S4 w made f (nI p) q.1 q.2) ((0 : Int32), (0 : Int32))) (Sum.elim (fun _ => 2 ≤ fb_sm (sh1 V f p) 4) (fun z => z = nI (fb_sm (sh1 V f p) 4))) := by
    refine ok_lp (fun n s => s = (nI (fb_sm (sh1 V f p) n), nI n)) nl (fun n s hn hJ => ?_) (fun s hJ => ?_) rfl
    · subst hJ
      show (∃ s', f_X8_shadeNow_S4 w made f (nI p) (nI (fb_sm (sh1 V f p) n)) (nI n) = some (.inl s') ∧ _) ∨ ∃ r, f_X8_shadeNow_S4 w made f (nI p) (nI (fb_sm (sh1 V f p) n)) (nI n) = some (.inr r) ∧ _
      unfold f_X8_shadeNow_S4 f_X8_shadeNow_J56
      rw [m_slots, bnd_s, w1, if_neg (nI_ge hn (by omega)), chk_n (by omega) (by decide), nI_clamp (by omega)]
      rcases hf.1 n (by omega) with z | ⟨_, s0, hs0, z⟩
      · rw [if_neg (by rw [z]; decide), nm_s, nI_1]
        refine Or.inl ⟨_, rfl, ?_⟩
        rw [fb_sm_succ, show sh1 V f p n = 0 from if_pos z]
        rfl
      · have nz : ¬ f n = -1 := by rw [z]; exact nI_m1 (by omega)
        have em : f_X8_madeAt (nI n) (nI s0) + nI p = nI (864 * n + 144 * s0 + p) := by
          unfold f_X8_madeAt
          rw [show (6 : Int32) = nI 6 from rfl, pk_mul, nI_add, show (144 : Int32) = nI 144 from rfl, pk_mul, nI_add]
          congr 1; omega
        have es : sh1 V f p n = V n s0 p := by unfold sh1; rw [if_neg nz, z, nI_clamp (by omega)]
        have hv2 := h2 n s0 p
        rw [if_pos (by rw [z]; exact nI_pos' (by omega)), chk_n (by omega) (by decide), z, nm_s, em, chk_n (by omega) (by decide), nm_s, nI_clamp (by omega), hM n s0 hn hs0 z]
        by_cases q : V n s0 p = 2
        · rw [if_pos (by rw [q]; rfl)]
          refine Or.inr ⟨_, rfl, ?_⟩
          show 2 ≤ _
          have := fb_sm_part (sh1 V f p) (i := n) (n := 4) (by omega)
          omega
        · rw [if_neg (mt (eq_2 (by omega)).mp q), nm_s, nm_s, nI_add, nI_1]
          refine Or.inl ⟨_, rfl, ?_⟩
          rw [fb_sm_succ, es]
    · subst hJ
      show ∃ r, f_X8_shadeNow_S4 w made f (nI p) (nI (fb_sm (sh1 V f p) nl)) (nI nl) = some (.inr r) ∧ _
      unfold f_X8_shadeNow_S4
      rw [m_slots, bnd_s, w1, if_pos (Int32.le_refl _)]
      refine ⟨_, rfl, ?_⟩
      show nI _ = nI _
      rw [sm_tail hf h4]
  obtain ⟨r, er, hr⟩ := h
  rw [er, bnd_s]
  have hb : fb_sm (sh1 V f p) 4 ≤ 8 := by
    have := fb_sm_bound (f := sh1 V f p) (c := 2) (n := 4) (fun k _ => by unfold sh1; split; omega; exact h2 _ _ _)
    omega
  unfold SN
  cases r with
  | inl z =>
    have : 2 ≤ fb_sm (sh1 V f p) 4 := hr
    show some (2 : Int32) = _
    rw [show min 2 (fb_sm (sh1 V f p) 4) = 2 by omega]
    rfl
  | inr z =>
    have e : z = nI (fb_sm (sh1 V f p) 4) := hr
    show f_X8_shadeNow_J62 w made f (nI p) z = _
    unfold f_X8_shadeNow_J62 f_J9_min_7cf53
    rw [nm_s, e]
    by_cases q : fb_sm (sh1 V f p) 4 < 2
    · rw [if_pos (lt_2 q), show min 2 (fb_sm (sh1 V f p) 4) = fb_sm (sh1 V f p) 4 by omega]
    · rw [if_neg (show ¬ nI (fb_sm (sh1 V f p) 4) < (2 : Int32) from nI_nlt (b := 2) (by omega) (by omega)), show min 2 (fb_sm (sh1 V f p) 4) = 2 by omega]
      rfl
theorem SN_le (V : Nat → Nat → Nat → Nat) (f : Nat → Int32) (p : Nat) : SN V f p ≤ 2 := by unfold SN; omega
theorem SN_cong {V : Nat → Nat → Nat → Nat} {f g : Nat → Int32} (h : ∀ l, l < 4 → f l = g l) (p : Nat) : SN V f p = SN V g p := by
  unfold SN
  rw [fb_sm_cong (g := sh1 V g p) (fun k hk => by unfold sh1; rw [h k hk])]
theorem c_shadeOf {V : Nat → Nat → Nat → Nat} {f : Nat → Int32} {two one : Nat → Int64} {p : Nat} (h : Two V f two one) (hp : p < 144) : f_X3_shadeOf two one (nI p) = some (nI (SN V f p)) := by
  unfold f_X3_shadeOf
  have e1 : nI p - nI p / (48 : Int32) * (48 : Int32) = nI (p % 48) := pk_rem (d := 48) (by omega) (by decide) (by decide)
  have e0 : nI p / (48 : Int32) = nI (p / 48) := pk_div (d := 48) (by omega) (by decide) (by decide)
  rw [nm_s, nm_s, e1, e0, chk_n (by omega) (by decide), nI_clamp (by omega)]
  obtain ⟨h1, h2⟩ := h.1 p hp
  have := SN_le V f p
  rcases (show SN V f p = 0 ∨ SN V f p = 1 ∨ SN V f p = 2 by omega) with z | z | z
  · rw [if_pos (by rw [bl_test _ (by omega), h1, z]; rfl), chk_n (by omega) (by decide), if_pos (by rw [bl_test _ (by omega), h2, z]; rfl), z]
    rfl
  · rw [if_pos (by rw [bl_test _ (by omega), h1, z]; rfl), chk_n (by omega) (by decide), if_neg (by rw [bl_test _ (by omega), h2, z]; decide), z]
    rfl
  · rw [if_neg (by rw [bl_test _ (by omega), h1, z]; decide), z]
    rfl
theorem part_ct {x : Nat → Int64} {P : Nat → Bool} (h : ∀ p, p < 144 → bl (x (p / 48)) (p % 48) = P p) (hh : ∀ q, q < 3 → ∀ i, 48 ≤ i → bl (x q) i = false) : ∀ q, q < 3 → f_J13_bitCount_95d88 (x q) = nI (fb_ct (fun k => P (48 * q + k)) 48) := fun q hq => by
  rw [bc48 (hh q hq)]
  congr 1
  refine fb_ct_cong (fun k hk => ?_)
  rw [← h (48 * q + k) (by omega), show (48 * q + k) / 48 = q by omega, show (48 * q + k) % 48 = k by omega]
theorem sum3 (P : Nat → Bool) : nI (fb_ct (fun k => P (48 * 0 + k)) 48) + nI (fb_ct (fun k => P (48 * 1 + k)) 48) + nI (fb_ct (fun k => P (48 * 2 + k)) 48) = nI (fb_ct P 144) := by
  rw [nI_add, nI_add, ct3]
  congr 2
theorem part_run (P : Nat → Bool) : ∀ k, k < 3 → fb_ct P (48 * k) + fb_ct (fun j => P (48 * k + j)) 48 = fb_ct P (48 * (k + 1)) := fun k _ => by
  rw [show 48 * (k + 1) = 48 * k + 48 by omega, fb_ct_split]
theorem c_spotsOf {V : Nat → Nat → Nat → Nat} {f : Nat → Int32} {two one : Nat → Int64} {c : Nat} (h : Two V f two one) (hc : c < 3) : f_X3_spotsOf two one (nI c) = some (nI (fb_ct (fun p => decide (SN V f p = c)) 144)) := by
  unfold f_X3_spotsOf f_X3_spotsOf_J7
  have t2 := part_ct (x := two) (P := fun p => decide (SN V f p = 2)) (fun p hp => (h.1 p hp).1) (fun q hq i hi => (h.2 q hq i hi).1)
  have t1 := part_ct (x := one) (P := fun p => decide (SN V f p = 1)) (fun p hp => (h.1 p hp).2) (fun q hq i hi => (h.2 q hq i hi).2)
  have e : lp (fun q => f_X3_spotsOf_S7 two one (nI c) q.1 q.2.1 q.2.2) ((0 : Int32), (0 : Int32), (0 : Int32)) = some (nI (fb_ct (fun p => decide (SN V f p = 2)) 144), nI (fb_ct (fun p => decide (SN V f p = 1)) 144)) := by
    refine lp_run' (fun k => (nI (fb_ct (fun p => decide (SN V f p = 2)) (48 * k)), nI (fb_ct (fun p => decide (SN V f p = 1)) (48 * k)), nI k)) 3 rfl (fun k hk => ?_) rfl
    show f_X3_spotsOf_S7 two one (nI c) (nI (fb_ct (fun p => decide (SN V f p = 2)) (48 * k))) (nI (fb_ct (fun p => decide (SN V f p = 1)) (48 * k))) (nI k) = _
    unfold f_X3_spotsOf_S7
    rw [if_neg (ge_3 hk), chk_n hk (by decide), nm_s, nI_clamp (by omega), nm_s, chk_n hk (by decide), nm_s, nm_s, nm_s, t2 k hk, t1 k hk, nI_add, nI_add, nI_1, part_run _ k hk, part_run _ k hk]
  rw [e, bnd_s]
  unfold f_X3_spotsOf_J45
  rcases (show c = 0 ∨ c = 1 ∨ c = 2 by omega) with rfl | rfl | rfl
  · have k0 : fb_ct (fun p => decide (SN V f p = 2)) 144 + fb_ct (fun p => decide (SN V f p = 1)) 144 + fb_ct (fun p => decide (SN V f p = 0)) 144 = 144 := by
      have e0 : fb_ct (fun p => decide (SN V f p = 0)) 144 = fb_ct (fun k => !(decide (SN V f k = 2) || decide (SN V f k = 1))) 144 := fb_ct_cong (fun k _ => by
        have := SN_le V f k
        rcases (show SN V f k = 0 ∨ SN V f k = 1 ∨ SN V f k = 2 by omega) with z | z | z <;> rw [z] <;> rfl)
      have e1 := fb_ct_not (fun k => decide (SN V f k = 2) || decide (SN V f k = 1)) 144
      have e2 := fb_ct_or (p := fun p => decide (SN V f p = 2)) (q := fun p => decide (SN V f p = 1)) (n := 144) (fun k _ q => by have a := of_decide_eq_true q.1; have b := of_decide_eq_true q.2; omega)
      omega
    rw [if_neg (by decide), if_neg (by decide), show (144 : Int32) = nI 144 from rfl, pk_sub (by omega), pk_sub (by omega)]
    congr 2
    omega
  · rw [if_neg (by decide), if_pos (show nI 1 = (1 : Int32) from rfl)]
  · rw [if_pos (show nI 2 = (2 : Int32) from rfl)]
/-! ===== what is wrong ===== -/
def wrb (V : Nat → Nat → Nat → Nat) (f : Nat → Int32) (u : Nat → Nat) (p : Nat) : Bool := decide (u p ≠ 3 ∧ u p ≠ SN V f p)
def nW (V : Nat → Nat → Nat → Nat) (f : Nat → Int32) (u : Nat → Nat) : Nat := fb_ct (wrb V f u) 144
theorem nW_le (V : Nat → Nat → Nat → Nat) (f : Nat → Int32) (u : Nat → Nat) : nW V f u ≤ 144 := fb_ct_le _ _
theorem nW_cong {V : Nat → Nat → Nat → Nat} {f g : Nat → Int32} (h : ∀ l, l < 4 → f l = g l) (u : Nat → Nat) : nW V f u = nW V g u := fb_ct_cong (fun p _ => by unfold wrb; rw [SN_cong h])
/-- what the scene c tells of its spots -/
def TU (w : Nat → Int32) (wishes : Nat → Int64) (c : Nat) (u : Nat → Nat) : Prop := (∀ p, p < 144 → u p < 4 ∧ w (48 + 144 * c + p) = nI (u p) ∧ ∀ v, v < 3 → bl (wishes (9 * c + 3 * v + p / 48)) (p % 48) = decide (v = u p)) ∧ ∀ q, q < 9 → ∀ i, 48 ≤ i → bl (wishes (9 * c + q)) i = false
theorem TU_of {w : Nat → Int32} {wishes : Nat → Int64} {nc c : Nat} (h : ScO nc wishes w) (hc : c < nc) : TU w wishes c (fun p => (w (48 + 144 * c + p)).toNatClampNeg) := ⟨fun p hp => by
  obtain ⟨v, hv, e, hb⟩ := h.1 c hc p hp
  have ev : (w (48 + 144 * c + p)).toNatClampNeg = v := by rw [e, nI_clamp (by omega)]
  exact ⟨by show (w (48 + 144 * c + p)).toNatClampNeg < 4; rw [ev]; exact hv, by show w (48 + 144 * c + p) = nI (w (48 + 144 * c + p)).toNatClampNeg; rw [ev]; exact e, fun u hu => (hb u hu).trans (decide_eq_decide.mpr (by show u = v ↔ u = (w (48 + 144 * c + p)).toNatClampNeg; rw [ev]))⟩, fun q hq i hi => h.2 c hc q hq i hi⟩
theorem m_isWrong {w made f : Nat → Int32} {wishes : Nat → Int64} {V : Nat → Nat → Nat → Nat} {u : Nat → Nat} {ns nl c p : Nat} (w1 : w 1 = nI nl) (h6 : ns ≤ 6) (h4 : nl ≤ 4) (hc : c < 6) (hf : Set4 ns nl f) (hp : p < 144) (hM : ∀ l s, l < nl → s < ns → f l = nI s → made (864 * l + 144 * s + p) = nI (V l s p)) (h2 : ∀ l s p, V l s p ≤ 2) (hU : TU w wishes c u) : f_X8_isWrong w made f (nI c) (nI p) = some (b2 (wrb V f u p)) := by
  obtain ⟨hu, eu, _⟩ := hU.1 p hp
  unfold f_X8_isWrong
  have := SN_le V f p
  rw [show ((48 : Int32) + (144 : Int32) * nI c) + nI p = nI (48 + 144 * c + p) by rw [show (144 : Int32) = nI 144 from rfl, pk_mul, show (48 : Int32) = nI 48 from rfl, nI_add, nI_add], chk_n (by omega) (by decide), nm_s, nI_clamp (by omega), eu, m_shadeNow w1 h6 h4 hf hp hM h2, bnd_s]
  unfold wrb
  by_cases z : u p = 3
  · rw [if_pos (by rw [z]; rfl), decide_eq_false (fun q => q.1 z)]; rfl
  · rw [if_neg (mt (eq_3 (by omega)).mp z)]
    by_cases y : u p = SN V f p
    · rw [if_pos (by rw [y]), decide_eq_false (fun q => q.2 y)]; rfl
    · rw [if_neg (mt (nI_eq (by omega) (by omega)).mp y), decide_eq_true ⟨z, y⟩]; rfl
theorem m_wrongNow {w made f : Nat → Int32} {wishes : Nat → Int64} {V : Nat → Nat → Nat → Nat} {u : Nat → Nat} {ns nl c : Nat} (w1 : w 1 = nI nl) (h6 : ns ≤ 6) (h4 : nl ≤ 4) (hc : c < 6) (hf : Set4 ns nl f) (hM : ∀ l s p, l < nl → s < ns → p < 144 → f l = nI s → made (864 * l + 144 * s + p) = nI (V l s p)) (h2 : ∀ l s p, V l s p ≤ 2) (hU : TU w wishes c u) : f_X8_wrongNow w made f (nI c) = some (nI (nW V f u)) := by
  unfold f_X8_wrongNow f_X8_wrongNow_J4
  refine (bnd_eq (lp_run' (fun k => (nI (fb_ct (wrb V f u) k), nI k)) (r := nI (nW V f u)) 144 rfl (fun k hk => ?_) ?_)).trans rfl
  · show f_X8_wrongNow_S4 w made f (nI c) (nI (fb_ct (wrb V f u) k)) (nI k) = some (.inl (nI (fb_ct (wrb V f u) k + (if wrb V f u k then 1 else 0)), nI (k + 1)))
    unfold f_X8_wrongNow_S4 f_X8_wrongNow_J26
    rw [if_neg (ge_144 hk), m_isWrong w1 h6 h4 hc hf hk (fun l s hl hs e => hM l s k hl hs hk e) h2 hU, bnd_s]
    cases z : wrb V f u k with
    | false => rw [if_pos (show b2 false = 0 from rfl), nm_s, nm_s, nI_1, Int32.add_zero]; rfl
    | true => rw [if_neg (show ¬ b2 true = 0 by decide), nm_s, nm_s, nI_1, nI_1]; rfl
  · show f_X8_wrongNow_S4 w made f (nI c) (nI (fb_ct (wrb V f u) 144)) (nI 144) = _
    unfold f_X8_wrongNow_S4
    rw [if_pos gl_144]
    rfl
def Miss (V : Nat → Nat → Nat → Nat) (f : Nat → Int32) (u : Nat → Nat) (missed : Nat → Int64) : Prop := (∀ p, p < 144 → bl (missed (p / 48)) (p % 48) = wrb V f u p) ∧ ∀ q, q < 3 → ∀ i, 48 ≤ i → bl (missed q) i = false
theorem c_misses {wishes full half two one missed : Nat → Int64} {pa w : Nat → Int32} {v c : Nat} {V : Nat → Nat → Nat → Nat} {u : Nat → Nat} (hv : v < 6) (hc : c < 6) (hf : ∀ l, l < 4 → pa l = -1 ∨ ∃ s, s < 6 ∧ pa l = nI s)
    (hT : ∀ l s, l < 4 → s < 6 → pa l = nI s → FH full half (72 * v + 18 * l + 3 * s) (V l s)) (h2 : ∀ l s p, V l s p ≤ 2) (hU : TU w wishes c u) :
    OK (f_X3_misses wishes full half two one missed pa 4 (nI v) (nI c)) (fun r => r.1 = nI (nW V pa u) ∧ Miss V pa u r.2.2.2) := by
  unfold f_X3_misses
  refine ok_bnd (c_shine (fr := 0) hv (by decide) (by decide) (fun l hl => by rw [Nat.zero_add]) hf hT h2) (fun z hz => ?_)
  rw [show (nI c * (3 : Int32)) * (3 : Int32) = nI (9 * c) by rw [show (3 : Int32) = nI 3 from rfl, pk_mul, pk_mul]; congr 1; omega, nm_s]
  unfold f_X3_misses_J20
  refine ok_bnd (P := fun r => r.1 = nI (nW V pa u) ∧ Miss V pa u r.2) ?_ (fun r hr => ⟨_, rfl, hr⟩)
  refine ok_lp (fun k s => s.1 = nI (fb_ct (wrb V pa u) (48 * k)) ∧ s.2.1 = nI k ∧ (∀ p, p < 48 * k → bl (s.2.2 (p / 48)) (p % 48) = wrb V pa u p) ∧ ∀ q, q < k → ∀ i, 48 ≤ i → bl (s.2.2 q) i = false) 3 (fun k s hk hJ => Or.inl ?_) (fun s hJ => ?_) ⟨rfl, rfl, fun p hp => absurd hp (by omega), fun q hq => absurd hq (Nat.not_lt_zero q)⟩
  · obtain ⟨e1, e2, h1, h3⟩ := hJ
    unfold f_X3_misses_S20
    rw [e1, e2, if_neg (ge_3 hk), nI_add, chk_n (by omega) (by decide), nm_s, nI_clamp (by omega), show nI (9 * c) + (3 : Int32) + nI k = nI (9 * c + 3 + k) by rw [show (3 : Int32) = nI 3 from rfl, nI_add, nI_add], chk_n (by omega) (by decide), nm_s, nI_clamp (by omega), show nI (9 * c) + (6 : Int32) + nI k = nI (9 * c + 6 + k) by rw [show (6 : Int32) = nI 6 from rfl, nI_add, nI_add], chk_n (by omega) (by decide), nm_s, nI_clamp (by omega), chk_n hk (by decide), chk_n hk (by decide), chk_n hk (by decide), chk_n hk (by decide), chk_n hk (by decide), nm_s, nI_clamp (by omega), chk_n hk (by decide), nm_s, pk_uLs, nm_s, nm_s, nI_1]
    have hbit : ∀ p, p / 48 = k → p < 144 → bl (((wishes (9 * c + k) &&& (z.2 k ||| z.1 k)) ||| (wishes (9 * c + 3 + k) &&& (z.2 k ^^^ -1))) ||| (wishes (9 * c + 6 + k) &&& (z.1 k ^^^ -1))) (p % 48) = wrb V pa u p := fun p ep hp => by
      obtain ⟨hu, _, hb⟩ := hU.1 p hp
      obtain ⟨t2, t1⟩ := hz.1 p hp
      have b0 := hb 0 (by decide)
      have b1 := hb 1 (by decide)
      have b2 := hb 2 (by decide)
      rw [ep] at b0 b1 b2 t2 t1
      rw [show 9 * c + 3 * 0 + k = 9 * c + k by omega] at b0
      rw [show 9 * c + 3 * 1 + k = 9 * c + 3 + k by omega] at b1
      rw [show 9 * c + 3 * 2 + k = 9 * c + 6 + k by omega] at b2
      rw [bl_or, bl_or, bl_and, bl_and, bl_and, bl_or, bl_not _ (by omega), bl_not _ (by omega), b0, b1, b2, t2, t1]
      unfold wrb
      have := SN_le V pa p
      rcases (show SN V pa p = 0 ∨ SN V pa p = 1 ∨ SN V pa p = 2 by omega) with y | y | y <;> rcases (show u p = 0 ∨ u p = 1 ∨ u p = 2 ∨ u p = 3 by omega) with x | x | x | x <;> rw [y, x] <;> rfl
    have hhigh : ∀ i, 48 ≤ i → bl (((wishes (9 * c + k) &&& (z.2 k ||| z.1 k)) ||| (wishes (9 * c + 3 + k) &&& (z.2 k ^^^ -1))) ||| (wishes (9 * c + 6 + k) &&& (z.1 k ^^^ -1))) i = false := fun i hi => by
      have b0 := hU.2 k (by omega) i hi
      have b1 := hU.2 (3 + k) (by omega) i hi
      have b2 := hU.2 (6 + k) (by omega) i hi
      rw [← Nat.add_assoc] at b1 b2
      rw [bl_or, bl_or, bl_and, bl_and, bl_and, b0, b1, b2, Bool.false_and, Bool.false_and, Bool.false_and]
      rfl
    refine ⟨_, rfl, ?_, rfl, fun p hp => ?_, fun q hq i hi => ?_⟩
    · show nI _ + f_J13_bitCount_95d88 _ = _
      rw [bc48 hhigh, nI_add, ← part_run _ k hk]
      congr 2
      refine fb_ct_cong (fun j hj => ?_)
      have := hbit (48 * k + j) (by omega) (by omega)
      rwa [show (48 * k + j) % 48 = j by omega] at this
    · show bl (vp_updL _ _ _ _) _ = _
      rw [updL_at]
      by_cases y : p / 48 = k
      · rw [if_pos y]; exact hbit p y (by omega)
      · rw [if_neg y]; exact h1 p (by omega)
    · show bl (vp_updL _ _ _ _) _ = _
      rw [updL_at]
      by_cases y : q = k
      · rw [if_pos y]; exact hhigh i hi
      · rw [if_neg y]; exact h3 q (by omega) i hi
  · obtain ⟨e1, e2, h1, h3⟩ := hJ
    unfold f_X3_misses_S20
    rw [e2, if_pos gl_3]
    exact ⟨_, rfl, e1, h1, h3⟩
