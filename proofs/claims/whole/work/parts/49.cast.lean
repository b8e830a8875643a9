/-! ===== casting a shadow ===== -/
def ix (v : Int32) (b : Nat) : Nat := ((32 : Int) + b - v.toInt).toNat
theorem ix_sub {v : Int32} {b : Nat} (hv : -18 ≤ v.toInt ∧ v.toInt ≤ 18) (hb : b < 12) : nI b - v = nI (ix v b) - 32 := by
  have h1 : (nI b - v).toInt = (b : Int) - v.toInt := by
    rw [fb_subI (by rw [nI_toInt (by omega)]; omega) (by rw [nI_toInt (by omega)]; omega), nI_toInt (by omega)]
  have h2 : (nI (ix v b) - 32).toInt = ((ix v b : Nat) : Int) - 32 := pk_sub_toInt (b := 32) (by unfold ix; omega) (by decide)
  rw [eq_i, h1, h2]
  unfold ix
  omega
theorem bt_4095 : ∀ b, b < 32 → bt 4095 b = decide (b < 12) := by decide +kernel
theorem c_onScreen {v left : Int32} {g : Nat → Bool} (hl : -18 ≤ left.toInt ∧ left.toInt ≤ 18) (hv : ∀ b, b < 32 → bt v b = g (32 + b)) (ho : ∀ i, 2 ≤ i → (i < 32 ∨ 47 ≤ i) → g i = false) {b : Nat} (hb : b < 32) : bt (f_X3_onScreen v left) b = (decide (b < 12) && g (ix left b)) := by
  have z0 : (0 : Int32).toInt = 0 := rfl
  unfold f_X3_onScreen
  by_cases q : left < 0
  · have q' := lt_i.mp q
    obtain ⟨m, hm, e⟩ : ∃ m : Nat, m ≤ 18 ∧ -left = nI m := ⟨(-left.toInt).toNat, by omega, by rw [eq_i, fb_negI (by omega), nI_toInt (by omega)]; omega⟩
    have em : left.toInt = -(m : Int) := by
      have := congrArg Int32.toInt e
      rw [fb_negI (by omega), nI_toInt (by omega)] at this
      omega
    rw [if_pos q, e, b_and, bt_4095 b hb, b_sshr m (by omega) _ hb, Bool.and_comm]
    have ei : ix left b = 32 + (m + b) := by unfold ix; omega
    rw [ei]
    by_cases z : m + b < 32
    · rw [if_pos z, hv _ z]
    · rw [if_neg z, hv 31 (by decide), ho (32 + 31) (by omega) (by omega), ho (32 + (m + b)) (by omega) (by omega)]
  · have q' : ¬ left.toInt < 0 := fun x => q (lt_i.mpr x)
    obtain ⟨m, hm, rfl⟩ : ∃ m : Nat, m ≤ 18 ∧ left = nI m := ⟨left.toInt.toNat, by omega, by rw [eq_i, nI_toInt (by omega)]; omega⟩
    have em : (nI m).toInt = (m : Int) := nI_toInt (by omega)
    rw [if_neg q, b_and, bt_4095 b hb, b_shl m (by omega) _ hb, Bool.and_comm]
    by_cases z : m ≤ b
    · rw [decide_eq_true z, Bool.true_and, hv _ (by omega), show ix (nI m) b = 32 + (b - m) by unfold ix; omega]
    · rw [decide_eq_false z, Bool.false_and, ho (ix (nI m) b) (by unfold ix; omega) (by unfold ix; omega)]
theorem bl_line {x : Int32} {s b : Nat} (hs : s ≤ 36) (hx : ∀ i, i < 32 → 12 ≤ i → bt x i = false) (hb : b < 64) : bl (x.toInt64 <<< ((nI s).toInt64 &&& 63)) b = (decide (s ≤ b ∧ b < s + 12) && bt x (b - s)) := by
  rw [bl_shl s (by omega) _ hb, bl_int x (by omega)]
  by_cases h1 : s ≤ b
  · by_cases h2 : b < s + 12
    · rw [decide_eq_true h1, decide_eq_true (show s ≤ b ∧ b < s + 12 from ⟨h1, h2⟩), if_pos (by omega)]
    · rw [decide_eq_true h1, decide_eq_false (fun z => h2 z.2), Bool.true_and, Bool.false_and]
      by_cases h3 : b - s < 32
      · rw [if_pos h3]; exact hx _ h3 (by omega)
      · rw [if_neg h3]; exact hx 31 (by decide) (by decide)
  · rw [decide_eq_false h1, decide_eq_false (fun z => h1 z.1), Bool.false_and, Bool.false_and]
def FH (full half : Nat → Int64) (at0 : Nat) (V : Nat → Nat) : Prop := (∀ p, p < 144 → bl (full (at0 + p / 48)) (p % 48) = decide (V p = 2) ∧ bl (half (at0 + p / 48)) (p % 48) = decide (V p = 1)) ∧ ∀ q, q < 3 → ∀ i, 48 ≤ i → bl (full (at0 + q)) i = false ∧ bl (half (at0 + q)) i = false
def IL (cells : Int32) (K F : Nat) (left top : Int32) (at0 m : Nat) (full half : Nat → Int64) : Prop :=
  (∀ p, p < 144 → bl (full (at0 + p / 48)) (p % 48) = (decide (32 ≤ ix top (p / 12) ∧ ix top (p / 12) < 32 + m) && ball cells K F (ix left (p % 12)) (ix top (p / 12))) ∧ bl (half (at0 + p / 48)) (p % 48) = (decide (32 ≤ ix top (p / 12) ∧ ix top (p / 12) < 32 + m) && (cov cells K (ix left (p % 12)) (ix top (p / 12)) && !ball cells K F (ix left (p % 12)) (ix top (p / 12))))) ∧ ∀ q, q < 3 → ∀ i, 48 ≤ i → bl (full (at0 + q)) i = false ∧ bl (half (at0 + q)) i = false
theorem IL_skip {cells : Int32} {K F at0 m : Nat} {left top : Int32} {full half : Nat → Int64} (h : IL cells K F left top at0 m full half) (ho : ¬ (0 ≤ top.toInt + m ∧ top.toInt + m < 12)) : IL cells K F left top at0 (m + 1) full half := by
  refine ⟨fun p hp => ?_, h.2⟩
  have e : decide (32 ≤ ix top (p / 12) ∧ ix top (p / 12) < 32 + (m + 1)) = decide (32 ≤ ix top (p / 12) ∧ ix top (p / 12) < 32 + m) := decide_eq_decide.mpr (by unfold ix; omega)
  rw [e]
  exact h.1 p hp
theorem IL_step {cells : Int32} {K F at0 m y : Nat} {left top : Int32} {full half : Nat → Int64} {D A : Int64} (h : IL cells K F left top at0 m full half) (hy : top.toInt + m = (y : Int)) (hy12 : y < 12)
    (hD : ∀ b, b < 64 → bl D b = (decide (12 * (y % 4) ≤ b ∧ b < 12 * (y % 4) + 12) && ball cells K F (ix left (b - 12 * (y % 4))) (32 + m)))
    (hA : ∀ b, b < 64 → bl A b = (decide (12 * (y % 4) ≤ b ∧ b < 12 * (y % 4) + 12) && cov cells K (ix left (b - 12 * (y % 4))) (32 + m))) :
    IL cells K F left top at0 (m + 1) (vp_updL full (at0 + y / 4) (full (at0 + y / 4) ||| D)) (vp_updL half (at0 + y / 4) (half (at0 + y / 4) ||| (A &&& (D ^^^ -1)))) := by
  refine ⟨fun p hp => ?_, fun q hq i hi => ?_⟩
  · obtain ⟨h1, h2⟩ := h.1 p hp
    rw [updL_at, updL_at]
    by_cases e : p / 48 = y / 4
    · rw [if_pos (by omega), if_pos (by omega), ← e, bl_or, bl_or, bl_and, bl_not _ (by omega), h1, h2, hD _ (by omega), hA _ (by omega)]
      by_cases z : p / 12 = y
      · have ej : ix top (p / 12) = 32 + m := by unfold ix; omega
        rw [ej, decide_eq_false (show ¬ (32 ≤ 32 + m ∧ 32 + m < 32 + m) by omega), decide_eq_true (show 32 ≤ 32 + m ∧ 32 + m < 32 + (m + 1) by omega), decide_eq_true (show 12 * (y % 4) ≤ p % 48 ∧ p % 48 < 12 * (y % 4) + 12 by omega), show p % 48 - 12 * (y % 4) = p % 12 by omega]
        simp
      · have ej : ix top (p / 12) ≠ 32 + m := by unfold ix; omega
        rw [show decide (32 ≤ ix top (p / 12) ∧ ix top (p / 12) < 32 + (m + 1)) = decide (32 ≤ ix top (p / 12) ∧ ix top (p / 12) < 32 + m) from decide_eq_decide.mpr (by omega), decide_eq_false (show ¬ (12 * (y % 4) ≤ p % 48 ∧ p % 48 < 12 * (y % 4) + 12) by omega)]
        simp
    · rw [if_neg (by omega), if_neg (by omega), h1, h2]
      have ej : ix top (p / 12) ≠ 32 + m := by unfold ix; omega
      rw [show decide (32 ≤ ix top (p / 12) ∧ ix top (p / 12) < 32 + (m + 1)) = decide (32 ≤ ix top (p / 12) ∧ ix top (p / 12) < 32 + m) from decide_eq_decide.mpr (by omega)]
      exact ⟨rfl, rfl⟩
  · obtain ⟨h1, h2⟩ := h.2 q hq i hi
    rw [updL_at, updL_at]
    by_cases e : at0 + q = at0 + y / 4
    · rw [if_pos e, if_pos e, ← e, bl_or, bl_or, bl_and, h1, h2]
      by_cases i64 : i < 64
      · rw [hD i i64, hA i i64, decide_eq_false (by omega)]
        exact ⟨rfl, rfl⟩
      · rw [bl_big (x := D) (by omega), bl_big (x := A) (by omega)]
        exact ⟨rfl, rfl⟩
    · rw [if_neg e, if_neg e]
      exact ⟨h1, h2⟩
theorem ball_out {cells : Int32} {K F i j : Nat} (hF : F < 3) (hK : K ≤ 3) (hi : 2 ≤ i) (hj : 2 ≤ j) (ho : i < 32 ∨ 47 ≤ i ∨ j < 32 ∨ 47 ≤ j) : ball cells K F i j = false := by
  cases h : ball cells K F i j with
  | false => rfl
  | true =>
    have := cov_in (BP_cov ((ball_BP (by omega) (by omega)).mp h))
    omega
theorem cov_out {cells : Int32} {K i j : Nat} (hK : K ≤ 3) (ho : i < 32 ∨ 47 ≤ i ∨ j < 32 ∨ 47 ≤ j) : cov cells K i j = false := by
  cases h : cov cells K i j with
  | false => rfl
  | true =>
    have := cov_in h
    omega
theorem c_castLines {K X Y : Nat → Int32} {W a0 a1 a2 a3 a4 cells left top : Int32} {kk F at0 : Nat} {cv dp : Nat → Int32} {full half : Nat → Int64} (hk : kk ≤ 3) (hF : F < 3) (hat : at0 + 3 ≤ 432) (hl : -18 ≤ left.toInt ∧ left.toInt ≤ 18) (ht : -12 ≤ top.toInt ∧ top.toInt ≤ 12)
    (hc : ∀ n, n < 15 → ∀ b, b < 32 → bt (cv n) b = cov cells kk (32 + b) (32 + n)) (hd : ∀ n, n < 15 → ∀ b, b < 32 → bt (dp n) b = ball cells kk F (32 + b) (32 + n)) (h0 : IL cells kk F left top at0 0 full half) :
    OK (lp (fun q => f_X3_cast_S133 K X Y W a0 a1 a2 a3 a4 (nI at0) left top cv dp q.1 q.2.1 q.2.2) ((0 : Int32), full, half)) (fun u => IL cells kk F left top at0 15 u.1 u.2 ∧ ∀ q, (q < at0 ∨ at0 + 3 ≤ q) → u.1 q = full q ∧ u.2 q = half q) := by
  have z0 : (0 : Int32).toInt = 0 := rfl
  have z12 : (12 : Int32).toInt = 12 := rfl
  refine ok_lp (fun m s => s.1 = nI m ∧ IL cells kk F left top at0 m s.2.1 s.2.2 ∧ ∀ q, (q < at0 ∨ at0 + 3 ≤ q) → s.2.1 q = full q ∧ s.2.2 q = half q) 15 (fun m s hm hJ => Or.inl ?_) (fun s hJ => ?_) ⟨rfl, h0, fun _ _ => ⟨rfl, rfl⟩⟩
  · obtain ⟨e, hI, hq⟩ := hJ
    have et : (top + nI m).toInt = top.toInt + m := by
      rw [fb_addI (by rw [nI_toInt (by omega)]; omega) (by rw [nI_toInt (by omega)]; omega), nI_toInt (by omega)]
    unfold f_X3_cast_S133 f_X3_cast_J245
    rw [e, if_neg (ge_15 hm), nm_s]
    by_cases y0 : top.toInt + m < 0
    · rw [if_pos (by rw [lt_i, et, z0]; exact y0), nm_s, nI_1]
      exact ⟨_, rfl, rfl, IL_skip hI (by omega), hq⟩
    · rw [if_neg (by rw [lt_i, et, z0]; exact y0)]
      by_cases y12 : 12 ≤ top.toInt + m
      · rw [if_pos (by rw [le_i, et, z12]; exact y12), nm_s, nI_1]
        exact ⟨_, rfl, rfl, IL_skip hI (by omega), hq⟩
      · obtain ⟨y, hy, ey⟩ : ∃ y : Nat, y < 12 ∧ top + nI m = nI y := ⟨(top.toInt + m).toNat, by omega, by rw [eq_i, et, nI_toInt (by omega)]; omega⟩
        have hyt : top.toInt + m = (y : Int) := by rw [← et, ey, nI_toInt (by omega)]
        have ea : (12 : Int32) * (nI y &&& (3 : Int32)) = nI (12 * (y % 4)) := by
          rw [pk_andN (m := 3) (by omega) 2 (by decide), show (12 : Int32) = nI 12 from rfl, pk_mul]
        have es : nI y >>> ((2 : Int32) &&& 31) = nI (y / 4) := pk_shrN (by omega) _ 2 (by decide)
        rw [if_neg (by rw [le_i, et, z12]; omega), ey, ea, es, nI_add]
        rw [nm_s, chk_n hm (by decide), nI_clamp (by omega), nm_s, nm_s, chk_n hm (by decide), nm_s, nm_s, chk_n (by omega) (by decide), chk_n (by omega) (by decide), nI_clamp (by omega), nm_s, chk_n (by omega) (by decide), chk_n (by omega) (by decide), nm_s, nm_s, nI_1]
        have hD : ∀ b, b < 64 → bl ((f_X3_onScreen (dp m) left).toInt64 <<< ((nI (12 * (y % 4))).toInt64 &&& 63)) b = (decide (12 * (y % 4) ≤ b ∧ b < 12 * (y % 4) + 12) && ball cells kk F (ix left (b - 12 * (y % 4))) (32 + m)) := fun b hb => by
          have ho : ∀ i, i < 32 → bt (f_X3_onScreen (dp m) left) i = (decide (i < 12) && ball cells kk F (ix left i) (32 + m)) := fun i hi => c_onScreen (g := fun i => ball cells kk F i (32 + m)) hl (hd m hm) (fun i hi ho => ball_out hF hk hi (by omega) (by omega)) hi
          rw [bl_line (by omega) (fun i hi h12 => by rw [ho i hi, decide_eq_false (by omega), Bool.false_and]) hb]
          by_cases q : 12 * (y % 4) ≤ b ∧ b < 12 * (y % 4) + 12
          · rw [decide_eq_true q, ho _ (by omega), decide_eq_true (by omega), Bool.true_and]
          · rw [decide_eq_false q, Bool.false_and, Bool.false_and]
        have hA : ∀ b, b < 64 → bl ((f_X3_onScreen (cv m) left).toInt64 <<< ((nI (12 * (y % 4))).toInt64 &&& 63)) b = (decide (12 * (y % 4) ≤ b ∧ b < 12 * (y % 4) + 12) && cov cells kk (ix left (b - 12 * (y % 4))) (32 + m)) := fun b hb => by
          have ho : ∀ i, i < 32 → bt (f_X3_onScreen (cv m) left) i = (decide (i < 12) && cov cells kk (ix left i) (32 + m)) := fun i hi => c_onScreen (g := fun i => cov cells kk i (32 + m)) hl (hc m hm) (fun i hi ho => cov_out hk (by omega)) hi
          rw [bl_line (by omega) (fun i hi h12 => by rw [ho i hi, decide_eq_false (by omega), Bool.false_and]) hb]
          by_cases q : 12 * (y % 4) ≤ b ∧ b < 12 * (y % 4) + 12
          · rw [decide_eq_true q, ho _ (by omega), decide_eq_true (by omega), Bool.true_and]
          · rw [decide_eq_false q, Bool.false_and, Bool.false_and]
        refine ⟨_, rfl, rfl, IL_step hI hyt hy hD hA, fun q hq2 => ?_⟩
        show vp_updL _ _ _ _ = _ ∧ vp_updL _ _ _ _ = _
        rw [updL_at, updL_at, if_neg (by omega), if_neg (by omega)]
        exact hq q hq2
  · obtain ⟨e, hI, hq⟩ := hJ
    unfold f_X3_cast_S133
    rw [e, if_pos gl_15]
    exact ⟨_, rfl, hI, hq⟩
theorem c_castZero {K X Y : Nat → Int32} {W a0 a1 a2 a3 a4 : Int32} {at0 : Nat} {cv dp : Nat → Int32} {full half : Nat → Int64} (hat : at0 + 3 ≤ 432) :
    OK (lp (fun q => f_X3_cast_S11 K X Y W a0 a1 a2 a3 a4 (nI at0) cv dp q.1 q.2.1 q.2.2) ((0 : Int32), full, half)) (fun u => (∀ q, q < 3 → u.1 (at0 + q) = 0 ∧ u.2 (at0 + q) = 0) ∧ ∀ q, (q < at0 ∨ at0 + 3 ≤ q) → u.1 q = full q ∧ u.2 q = half q) := by
  refine ok_lp (fun m s => s.1 = nI m ∧ (∀ q, q < m → s.2.1 (at0 + q) = 0 ∧ s.2.2 (at0 + q) = 0) ∧ ∀ q, (q < at0 ∨ at0 + 3 ≤ q) → s.2.1 q = full q ∧ s.2.2 q = half q) 3 (fun m s hm hJ => Or.inl ?_) (fun s hJ => ?_) ⟨rfl, fun q hq => absurd hq (Nat.not_lt_zero q), fun _ _ => ⟨rfl, rfl⟩⟩
  · obtain ⟨e, h1, h2⟩ := hJ
    unfold f_X3_cast_S11
    rw [e, if_neg (ge_3 hm), nI_add, chk_n (by omega) (by decide), nm_s, chk_n (by omega) (by decide), nm_s, nI_clamp (by omega), nm_s, nI_1]
    refine ⟨_, rfl, rfl, fun q hq => ?_, fun q hq => ?_⟩
    · show vp_updL _ _ _ _ = _ ∧ vp_updL _ _ _ _ = _
      rw [updL_at, updL_at]
      by_cases z : at0 + q = at0 + m
      · rw [if_pos z, if_pos z]; exact ⟨rfl, rfl⟩
      · rw [if_neg z, if_neg z]; exact h1 q (by omega)
    · show vp_updL _ _ _ _ = _ ∧ vp_updL _ _ _ _ = _
      rw [updL_at, updL_at, if_neg (by omega), if_neg (by omega)]
      exact h2 q hq
  · obtain ⟨e, h1, h2⟩ := hJ
    unfold f_X3_cast_S11
    rw [e, if_pos gl_3]
    exact ⟨_, rfl, h1, h2⟩
theorem cov_zero (K i j : Nat) : cov 0 K i j = false := by unfold cov; rw [b_0, Bool.and_false]
theorem shd_le (cells : Int32) (K F i j : Nat) : shd cells K F i j ≤ 2 := by
  unfold shd
  split
  · split <;> omega
  · omega
theorem shd_bits {cells : Int32} {K F i j : Nat} (hF : F < 3) (hK : K ≤ 3) (hi : 2 ≤ i) (hj : 2 ≤ j) : (decide (32 ≤ j ∧ j < 32 + 15) && ball cells K F i j) = decide (shd cells K F i j = 2) ∧ (decide (32 ≤ j ∧ j < 32 + 15) && (cov cells K i j && !ball cells K F i j)) = decide (shd cells K F i j = 1) := by
  unfold shd
  cases hb : ball cells K F i j with
  | true =>
    have hcv := BP_cov ((ball_BP (by omega) (by omega)).mp hb)
    have := cov_in hcv
    rw [hcv, decide_eq_true (show 32 ≤ j ∧ j < 32 + 15 by omega)]
    exact ⟨rfl, rfl⟩
  | false =>
    cases hcv : cov cells K i j with
    | true =>
      have := cov_in hcv
      rw [decide_eq_true (show 32 ≤ j ∧ j < 32 + 15 by omega)]
      exact ⟨rfl, rfl⟩
    | false =>
      rw [Bool.and_false, Bool.false_and, Bool.and_false]
      exact ⟨rfl, rfl⟩
theorem shd_zero (K F i j : Nat) : shd 0 K F i j = 0 := by unfold shd; rw [cov_zero, if_neg (by decide)]
theorem c_cast {K X Y : Nat → Int32} {W seat cells : Int32} {full half : Nat → Int64} {cv dp : Nat → Int32} {v l s kk F : Nat} (hv : v < 6) (hl : l < 4) (hs : s < 6) (hK : K l = nI kk) (hk : 1 ≤ kk ∧ kk ≤ 3) (hF : W * (K l - 1) = nI F) (hF3 : F < 3)
    (hx : -18 ≤ (X l + seat * (K l - 1)).toInt ∧ (X l + seat * (K l - 1)).toInt ≤ 18) (hy : -12 ≤ (Y l).toInt ∧ (Y l).toInt ≤ 12) :
    OK (f_X3_cast K X Y W full half cv dp (nI v) (nI l) (nI s) seat cells) (fun u => FH u.1 u.2.1 (72 * v + 18 * l + 3 * s) (fun p => shd cells kk F (ix (X l + seat * (K l - 1)) (p % 12)) (ix (Y l) (p / 12))) ∧ ∀ q, (q < 72 * v + 18 * l + 3 * s ∨ 72 * v + 18 * l + 3 * s + 3 ≤ q) → u.1 q = full q ∧ u.2.1 q = half q) := by
  have ep : f_X3_place (nI v) (nI l) (nI s) = nI (72 * v + 18 * l + 3 * s) := by
    unfold f_X3_place
    rw [show (4 : Int32) = nI 4 from rfl, pk_mul, nI_add, show (6 : Int32) = nI 6 from rfl, pk_mul, nI_add, show (3 : Int32) = nI 3 from rfl, pk_mul]
    congr 1; omega
  unfold f_X3_cast
  rw [nm_s, ep]
  unfold f_X3_cast_J11
  refine ok_bnd (c_castZero (by omega)) (fun z hz => ?_)
  obtain ⟨z1, z2⟩ := hz
  unfold f_X3_cast_J45
  by_cases hc0 : cells = 0
  · subst hc0
    rw [if_pos rfl]
    refine ⟨_, rfl, ⟨fun p hp => ⟨?_, ?_⟩, fun q hq i hi => ?_⟩, z2⟩
    · exact ((congrArg (fun x => bl x _) (z1 (p / 48) (by omega)).1).trans (bl_0 _)).trans (decide_eq_false (by show ¬ shd 0 _ _ _ _ = 2; rw [shd_zero]; decide)).symm
    · exact ((congrArg (fun x => bl x _) (z1 (p / 48) (by omega)).2).trans (bl_0 _)).trans (decide_eq_false (by show ¬ shd 0 _ _ _ _ = 1; rw [shd_zero]; decide)).symm
    · dsimp only
      rw [(z1 q hq).1, (z1 q hq).2, bl_0]
      exact ⟨rfl, rfl⟩
  · rw [if_neg hc0, chk_n hl (by decide), nm_s, nI_clamp (by omega), Int32.sub_add_cancel]
    have hK' := hK
    refine ok_bnd (P := fun u => ∀ n, n < 15 → (∀ b, b < 32 → bt (u.1 n) b = cov cells kk (32 + b) (32 + n)) ∧ u.2 n = u.1 n) (by rw [hK]; exact c_grow hk) (fun u hu => ?_)
    unfold f_X3_cast_J77
    refine ok_bnd (P := DB cells kk F) ?_ (fun d hd => ?_)
    · refine ok_lp (fun n t => t.1 = nI n ∧ DB cells kk n t.2) F (fun n t hn hJ => Or.inl ?_) (fun t hJ => ?_) ⟨rfl, fun l hl b hb => by dsimp only; rw [(hu l hl).2, (hu l hl).1 b hb, BP_zero]⟩
      · obtain ⟨e, hd⟩ := hJ
        unfold f_X3_cast_S77
        rw [e, hF, if_neg (nI_ge hn (by omega))]
        obtain ⟨d', ed, hd'⟩ := c_shrink hk.2 hd
        rw [ed, bnd_s, nm_s, nI_1]
        exact ⟨_, rfl, rfl, hd'⟩
      · obtain ⟨e, hd⟩ := hJ
        unfold f_X3_cast_S77
        rw [e, hF, if_pos (Int32.le_refl _)]
        exact ⟨_, rfl, hd⟩
    · unfold f_X3_cast_J102
      rw [chk_n hl (by decide), nm_s, chk_n hl (by decide), nm_s, nI_clamp (by omega)]
      unfold f_X3_cast_J133
      have hd' : ∀ n, n < 15 → ∀ b, b < 32 → bt (d n) b = ball cells kk F (32 + b) (32 + n) := fun n hn b hb => by
        rw [Bool.eq_iff_iff, hd n hn b hb, ball_BP (by omega) (by omega)]
      have h0 : IL cells kk F (X l + seat * (K l - 1)) (Y l) (72 * v + 18 * l + 3 * s) 0 z.1 z.2 := by
        refine ⟨fun p hp => ?_, fun q hq i hi => ?_⟩
        · rw [(z1 (p / 48) (by omega)).1, (z1 (p / 48) (by omega)).2, bl_0, decide_eq_false (by omega)]
          exact ⟨rfl, rfl⟩
        · rw [(z1 q hq).1, (z1 q hq).2, bl_0]
          exact ⟨rfl, rfl⟩
      refine ok_bnd (c_castLines hk.2 hF3 (by omega) hx hy (fun n hn => (hu n hn).1) hd' h0) (fun u2 hu2 => ?_)
      obtain ⟨g1, g2⟩ := hu2
      unfold f_X3_cast_J251
      refine ⟨_, rfl, ⟨fun p hp => ?_, g1.2⟩, fun q hq => ?_⟩
      · obtain ⟨q1, q2⟩ := g1.1 p hp
        have sb := shd_bits (cells := cells) (K := kk) (F := F) (i := ix (X l + seat * (K l - 1)) (p % 12)) (j := ix (Y l) (p / 12)) hF3 hk.2 (by unfold ix; omega) (by unfold ix; omega)
        exact ⟨q1.trans sb.1, q2.trans sb.2⟩
      · show u2.1 q = _ ∧ u2.2 q = _
        rw [(g2 q hq).1, (g2 q hq).2]
        exact z2 q hq
/-! ===== all shadows of a view ===== -/
def VV (cells masks K X Y : Nat → Int32) (W : Int32) (light : Nat) (seat : Int32) (l s p : Nat) : Nat := shd (if bt (masks s) light = true then cells s else 0) (K l).toNatClampNeg (W * (K l - 1)).toNatClampNeg (ix (X l + seat * (K l - 1)) (p % 12)) (ix (Y l) (p / 12))
theorem seat_tab : ∀ t, t < 7 → ∀ k, k < 3 → -6 ≤ ((nI t - 3) * nI k).toInt ∧ ((nI t - 3) * nI k).toInt ≤ 6 := by decide +kernel
theorem slot_facts {nl l t : Nat} {K X Y w : Nat → Int32} {W : Int32} (hS : SlO nl K X Y w) (hl : l < nl) (hW : W = 0 ∨ W = 1) (ht : t < 7) : ∃ kk F, K l = nI kk ∧ (1 ≤ kk ∧ kk ≤ 3) ∧ W * (K l - 1) = nI F ∧ F < 3 ∧ (-18 ≤ (X l + (nI t - 3) * (K l - 1)).toInt ∧ (X l + (nI t - 3) * (K l - 1)).toInt ≤ 18) ∧ (-12 ≤ (Y l).toInt ∧ (Y l).toInt ≤ 12) := by
  obtain ⟨_, _, _, ⟨k, hk, e⟩, hx, hy⟩ := hS l hl
  have e1 : K l - 1 = nI k := by rw [e, nI_pred]
  have hs := seat_tab t ht k hk
  have hX : -18 ≤ (X l + (nI t - 3) * nI k).toInt ∧ (X l + (nI t - 3) * nI k).toInt ≤ 18 := by
    rw [fb_addI (by omega) (by omega)]; omega
  rw [e1]
  rcases hW with rfl | rfl
  · exact ⟨k + 1, 0, e, by omega, by rw [Int32.zero_mul]; rfl, by decide, hX, hy⟩
  · exact ⟨k + 1, k, e, by omega, by rw [Int32.one_mul], hk, hX, hy⟩
theorem c_keepsOff {masks : Nat → Int32} {s light : Nat} (hs : s < 6) (hl : light < 32) : f_X4_keepsOff masks (nI s) (nI light) = some (if bt (masks s) light = true then 1 else 0) := by
  unfold f_X4_keepsOff
  rw [chk_n hs (by decide), nI_clamp (by omega), and1, bt_shr0 _ hl]
  by_cases q : bt (masks s) light = true
  · rw [if_pos q, if_neg (by decide)]
  · rw [if_neg q, if_pos rfl]
theorem c_look {cells masks K X Y w cv dp : Nat → Int32} {W seat : Int32} {full half : Nat → Int64} {ns nl v light t : Nat} (h6 : ns ≤ 6) (h4 : nl ≤ 4) (hv : v < 6) (hS : SlO nl K X Y w) (hW : W = 0 ∨ W = 1) (hL : light < 3) (ht : t < 7) (hseat : seat = nI t - 3) :
    OK (f_X3_look (nI ns) cells masks (nI nl) K X Y W full half cv dp (nI v) (nI light) seat) (fun u => (∀ l, l < nl → ∀ s, s < ns → FH u.1 u.2.1 (72 * v + 18 * l + 3 * s) (VV cells masks K X Y W light seat l s)) ∧ ∀ q, (q < 72 * v ∨ 72 * v + 72 ≤ q) → u.1 q = full q ∧ u.2.1 q = half q) := by
  subst hseat
  have FHc : ∀ {f h f' h' : Nat → Int64} {a : Nat} {V : Nat → Nat}, FH f h a V → (∀ q, q < 3 → f' (a + q) = f (a + q) ∧ h' (a + q) = h (a + q)) → FH f' h' a V := fun hf hq => ⟨fun p hp => by rw [(hq (p / 48) (by omega)).1, (hq (p / 48) (by omega)).2]; exact hf.1 p hp, fun q hq3 i hi => by rw [(hq q hq3).1, (hq q hq3).2]; exact hf.2 q hq3 i hi⟩
  unfold f_X3_look f_X3_look_J3
  refine ok_bnd (P := fun u => (∀ l, l < nl → ∀ s, s < ns → FH u.1 u.2.1 (72 * v + 18 * l + 3 * s) (VV cells masks K X Y W light (nI t - 3) l s)) ∧ ∀ q, (q < 72 * v ∨ 72 * v + 72 ≤ q) → u.1 q = full q ∧ u.2.1 q = half q) ?_ (fun z hz => ⟨_, rfl, hz⟩)
  refine ok_lp (fun l0 u => u.1 = nI l0 ∧ (∀ l, l < l0 → ∀ s, s < ns → FH u.2.1 u.2.2.1 (72 * v + 18 * l + 3 * s) (VV cells masks K X Y W light (nI t - 3) l s)) ∧ ∀ q, (q < 72 * v ∨ 72 * v + 72 ≤ q) → u.2.1 q = full q ∧ u.2.2.1 q = half q) nl (fun l0 u hl0 hJ => Or.inl ?_) (fun u hJ => ?_) ⟨rfl, fun l hl => absurd hl (Nat.not_lt_zero l), fun _ _ => ⟨rfl, rfl⟩⟩
  · obtain ⟨e, h1, h2⟩ := hJ
    obtain ⟨kk, F, eK, hk, eF, hF, hx, hy⟩ := slot_facts hS hl0 hW ht
    unfold f_X3_look_S3 f_X3_look_J18
    rw [e, if_neg (nI_ge hl0 (by omega))]
    have inner : OK (lp (fun q => f_X3_look_S18 (nI ns) cells masks (nI nl) K X Y W (nI v) (nI light) (nI t - 3) (nI l0) q.1 q.2.1 q.2.2.1 q.2.2.2.1 q.2.2.2.2) ((0 : Int32), u.2.1, u.2.2.1, u.2.2.2.1, u.2.2.2.2)) (fun r => (∀ s, s < ns → FH r.1 r.2.1 (72 * v + 18 * l0 + 3 * s) (VV cells masks K X Y W light (nI t - 3) l0 s)) ∧ ∀ q, (q < 72 * v + 18 * l0 ∨ 72 * v + 18 * l0 + 18 ≤ q) → r.1 q = u.2.1 q ∧ r.2.1 q = u.2.2.1 q) := by
      refine ok_lp (fun s0 r => r.1 = nI s0 ∧ (∀ s, s < s0 → FH r.2.1 r.2.2.1 (72 * v + 18 * l0 + 3 * s) (VV cells masks K X Y W light (nI t - 3) l0 s)) ∧ ∀ q, (q < 72 * v + 18 * l0 ∨ 72 * v + 18 * l0 + 18 ≤ q) → r.2.1 q = u.2.1 q ∧ r.2.2.1 q = u.2.2.1 q) ns (fun s0 r hs0 hJ => Or.inl ?_) (fun r hJ => ?_) ⟨rfl, fun l hl => absurd hl (Nat.not_lt_zero l), fun _ _ => ⟨rfl, rfl⟩⟩
      · obtain ⟨e, g1, g2⟩ := hJ
        obtain ⟨r2, er, p1, p2⟩ := c_cast (W := W) (seat := nI t - 3) (cells := if bt (masks s0) light = true then cells s0 else 0) (full := r.2.1) (half := r.2.2.1) (cv := r.2.2.2.1) (dp := r.2.2.2.2) (v := v) (l := l0) (s := s0) hv (by omega) (by omega) eK hk eF hF hx hy
        have est : f_X3_look_S18 (nI ns) cells masks (nI nl) K X Y W (nI v) (nI light) (nI t - 3) (nI l0) r.1 r.2.1 r.2.2.1 r.2.2.2.1 r.2.2.2.2 = some (.inl (nI (s0 + 1), r2)) := by
          unfold f_X3_look_S18 f_X3_look_J57
          rw [e, if_neg (nI_ge hs0 (by omega)), c_keepsOff (by omega) (by omega), bnd_s]
          by_cases q : bt (masks s0) light = true
          · rw [if_pos q] at er
            rw [if_pos q, if_neg (by decide), chk_n (by omega) (by decide), nI_clamp (by omega), er, bnd_s, nm_s, nI_1]
          · rw [if_neg q] at er
            rw [if_neg q, if_pos rfl, er, bnd_s, nm_s, nI_1]
        refine ⟨_, est, rfl, fun s hs => ?_, fun q hq => ?_⟩
        · rcases Nat.lt_succ_iff_lt_or_eq.mp hs with z | rfl
          · exact FHc (g1 s z) (fun q hq => p2 _ (by omega))
          · have eV : VV cells masks K X Y W light (nI t - 3) l0 s = fun p => shd (if bt (masks s) light = true then cells s else 0) kk F (ix (X l0 + (nI t - 3) * (K l0 - 1)) (p % 12)) (ix (Y l0) (p / 12)) := by
              funext p
              unfold VV
              rw [eF, eK, nI_clamp (by omega), nI_clamp (by omega)]
            rw [eV]
            exact p1
        · show r2.1 q = _ ∧ r2.2.1 q = _
          rw [(p2 q (by omega)).1, (p2 q (by omega)).2]
          exact g2 q hq
      · obtain ⟨e, g1, g2⟩ := hJ
        unfold f_X3_look_S18
        rw [e, if_pos (Int32.le_refl _)]
        exact ⟨_, rfl, g1, g2⟩
    obtain ⟨r, er, g1, g2⟩ := inner
    rw [er, bnd_s]
    unfold f_X3_look_J77
    rw [nm_s, nI_1]
    refine ⟨_, rfl, rfl, fun l hl s hs => ?_, fun q hq => ?_⟩
    · rcases Nat.lt_succ_iff_lt_or_eq.mp hl with z | rfl
      · exact FHc (h1 l z s hs) (fun q hq => g2 _ (by omega))
      · exact g1 s hs
    · show r.1 q = _ ∧ r.2.1 q = _
      rw [(g2 q (by omega)).1, (g2 q (by omega)).2]
      exact h2 q hq
  · obtain ⟨e, h1, h2⟩ := hJ
    unfold f_X3_look_S3
    rw [e, if_pos (Int32.le_refl _)]
    exact ⟨_, rfl, h1, h2⟩
/-! the model's -/
theorem m_laysOne {w made cells pasted masks uses K X Y : Nat → Int32} {W seat : Int32} {ns nl l s light t : Nat} (h6 : ns ≤ 6) (h4 : nl ≤ 4) (hl : l < nl) (hs : s < ns) (hSh : ShO ns cells pasted masks uses w) (hS : SlO nl K X Y w) (w5 : w 5 = W) (hW : W = 0 ∨ W = 1) (hL : light < 3) (ht : t < 7) (hseat : seat = nI t - 3) :
    OK (f_X8_laysOne w made (nI l) (nI s) (nI light) seat) (fun u => (∀ p, p < 144 → u (864 * l + 144 * s + p) = nI (VV cells masks K X Y W light seat l s p)) ∧ ∀ q, (q < 864 * l + 144 * s ∨ 864 * l + 144 * s + 144 ≤ q) → u q = made q) := by
  subst hseat
  obtain ⟨kk, F, eK, hk, eF, hF, hx, hy⟩ := slot_facts hS hl hW ht
  obtain ⟨q1, q2, q3, q4, q5, q6, q7⟩ := hSh s hs
  obtain ⟨g1, g2, g3, _⟩ := hS l hl
  have eV : ∀ p, VV cells masks K X Y W light (nI t - 3) l s p = shd (if bt (masks s) light = true then cells s else 0) kk F (ix (X l + (nI t - 3) * (K l - 1)) (p % 12)) (ix (Y l) (p / 12)) := fun p => by
    unfold VV
    rw [eF, eK, nI_clamp (by omega), nI_clamp (by omega)]
  unfold f_X8_laysOne
  rw [show (32 : Int32) + (3 : Int32) * nI l = nI (32 + 3 * l) by rw [show (3 : Int32) = nI 3 from rfl, pk_mul, show (32 : Int32) = nI 32 from rfl, nI_add], nm_s, chk_n (by omega) (by decide), nm_s, nI_clamp (by omega), nI_1, chk_n (by omega) (by decide), nm_s, nI_clamp (by omega), m_of0 (by omega), bnd_s, nm_s, g1, g2, show w (8 + 4 * s + 0) = masks s from q1, m_has _ (by omega)]
  unfold f_X8_laysOne_J51
  refine ok_bnd (P := fun u => (∀ p, p < 144 → u (864 * l + 144 * s + p) = nI (VV cells masks K X Y W light (nI t - 3) l s p)) ∧ ∀ q, (q < 864 * l + 144 * s ∨ 864 * l + 144 * s + 144 ≤ q) → u q = made q) ?_ (fun z hz => ⟨_, rfl, hz⟩)
  refine ok_lp (fun n u => u.1 = nI n ∧ (∀ p, p < n → u.2 (864 * l + 144 * s + p) = nI (VV cells masks K X Y W light (nI t - 3) l s p)) ∧ ∀ q, (q < 864 * l + 144 * s ∨ 864 * l + 144 * s + 144 ≤ q) → u.2 q = made q) 144 (fun n u hn hJ => Or.inl ?_) (fun u hJ => ?_) ⟨rfl, fun p hp => absurd hp (Nat.not_lt_zero p), fun _ _ => rfl⟩
  · obtain ⟨e, h1, h2⟩ := hJ
    have em : f_X8_madeAt (nI l) (nI s) + nI n = nI (864 * l + 144 * s + n) := by
      unfold f_X8_madeAt
      rw [show (6 : Int32) = nI 6 from rfl, pk_mul, nI_add, show (144 : Int32) = nI 144 from rfl, pk_mul, nI_add]
      congr 1; omega
    have put : ∀ x : Int32, x = nI (VV cells masks K X Y W light (nI t - 3) l s n) → OK (f_X8_laysOne_J125 w (nI l) (nI s) (nI light) (nI t - 3) (nI (32 + 3 * l)) (K l) (X l + (nI t - 3) * (K l - 1)) (if bt (masks s) light = true then 1 else 0) (nI n) (nI (864 * l + 144 * s + n)) x u.2) (fun r => ∃ s', r = .inl s' ∧ s'.1 = nI (n + 1) ∧ (∀ p, p < n + 1 → s'.2 (864 * l + 144 * s + p) = nI (VV cells masks K X Y W light (nI t - 3) l s p)) ∧ ∀ q, (q < 864 * l + 144 * s ∨ 864 * l + 144 * s + 144 ≤ q) → s'.2 q = made q) := fun x ex => by
      unfold f_X8_laysOne_J125
      have hv3 : VV cells masks K X Y W light (nI t - 3) l s n < 3 := by rw [eV]; exact Nat.lt_succ_of_le (shd_le _ _ _ _ _)
      rw [chk_n (by omega) (by decide), nm_s, nI_clamp (by omega), nm_s, nI_1, pk_vb, ex, fa_byte_small (by omega)]
      refine ⟨_, rfl, _, rfl, rfl, fun p hp => ?_, fun q hq => ?_⟩
      · show upd _ _ _ _ = _
        rcases Nat.lt_succ_iff_lt_or_eq.mp hp with z | rfl
        · rw [upd_ne (by omega)]; exact h1 p z
        · rw [upd_same]
      · show upd _ _ _ _ = _
        rw [upd_ne (by omega)]; exact h2 q hq
    have fin : ∀ {o : Option ((Int32 × (Nat → Int32)) ⊕ (Nat → Int32))}, OK o (fun r => ∃ s', r = .inl s' ∧ s'.1 = nI (n + 1) ∧ (∀ p, p < n + 1 → s'.2 (864 * l + 144 * s + p) = nI (VV cells masks K X Y W light (nI t - 3) l s p)) ∧ ∀ q, (q < 864 * l + 144 * s ∨ 864 * l + 144 * s + 144 ≤ q) → s'.2 q = made q) → ∃ s', o = some (.inl s') ∧ s'.1 = nI (n + 1) ∧ (∀ p, p < n + 1 → s'.2 (864 * l + 144 * s + p) = nI (VV cells masks K X Y W light (nI t - 3) l s p)) ∧ ∀ q, (q < 864 * l + 144 * s ∨ 864 * l + 144 * s + 144 ≤ q) → s'.2 q = made q := fun ⟨r, er, s', es, h⟩ => ⟨s', by rw [er, es], h⟩
    unfold f_X8_laysOne_S51
    rw [e, if_neg (ge_144 hn), nm_s, em]
    by_cases q : bt (masks s) light = true
    · rw [if_neg (by rw [if_pos q]; decide), m_of1 (by omega), bnd_s, ck5, tn5, show nI (32 + 3 * l) + (2 : Int32) = nI (32 + 3 * l + 2) from nI_add _ 2, chk_n (by omega) (by decide), nI_clamp (by omega), g3, w5, eF, show nI n - nI n / (12 : Int32) * (12 : Int32) = nI (n % 12) from pk_rem (d := 12) (by omega) (by decide) (by decide), show nI n / (12 : Int32) = nI (n / 12) from pk_div (d := 12) (by omega) (by decide) (by decide), ix_sub hx (by omega), ix_sub (v := Y l) (by omega) (by omega), q2]
      have sb := m_shadeBy (cells := cells s) (K := kk) (F := F) (i := ix (X l + (nI t - 3) * (K l - 1)) (n % 12)) (j := ix (Y l) (n / 12)) hk hF (by unfold ix; omega) (by unfold ix; omega)
      rw [← eK] at sb
      rw [sb, bnd_s]
      exact fin (put _ (by rw [eV, if_pos q]))
    · rw [if_pos (by rw [if_neg q])]
      exact fin (put _ (by rw [eV, if_neg q, shd_zero]; rfl))
  · obtain ⟨e, h1, h2⟩ := hJ
    unfold f_X8_laysOne_S51
    rw [e, if_pos gl_144]
    exact ⟨_, rfl, h1, h2⟩
theorem VV_le (cells masks K X Y : Nat → Int32) (W : Int32) (light : Nat) (seat : Int32) (l s p : Nat) : VV cells masks K X Y W light seat l s p ≤ 2 := shd_le _ _ _ _ _
theorem m_lays {w made cells pasted masks uses K X Y : Nat → Int32} {W seat : Int32} {ns nl light t : Nat} (h6 : ns ≤ 6) (h4 : nl ≤ 4) (w0 : w 0 = nI ns) (w1 : w 1 = nI nl) (hSh : ShO ns cells pasted masks uses w) (hS : SlO nl K X Y w) (w5 : w 5 = W) (hW : W = 0 ∨ W = 1) (hL : light < 3) (ht : t < 7) (hseat : seat = nI t - 3) :
    OK (f_X8_lays w made (nI light) seat) (fun u => ∀ l, l < nl → ∀ s, s < ns → ∀ p, p < 144 → u (864 * l + 144 * s + p) = nI (VV cells masks K X Y W light seat l s p)) := by
  unfold f_X8_lays f_X8_lays_J2
  refine ok_bnd (P := fun u => ∀ l, l < nl → ∀ s, s < ns → ∀ p, p < 144 → u (864 * l + 144 * s + p) = nI (VV cells masks K X Y W light seat l s p)) ?_ (fun z hz => ⟨_, rfl, hz⟩)
  refine ok_lp (fun l0 u => u.1 = nI l0 ∧ ∀ l, l < l0 → ∀ s, s < ns → ∀ p, p < 144 → u.2 (864 * l + 144 * s + p) = nI (VV cells masks K X Y W light seat l s p)) nl (fun l0 u hl0 hJ => Or.inl ?_) (fun u hJ => ?_) ⟨rfl, fun l hl => absurd hl (Nat.not_lt_zero l)⟩
  · obtain ⟨e, h1⟩ := hJ
    unfold f_X8_lays_S2 f_X8_lays_J13
    rw [m_slots, bnd_s, w1, e, if_neg (nI_ge hl0 (by omega))]
    have inner : OK (lp (fun q => f_X8_lays_S13 w (nI light) seat (nI l0) q.1 q.2) ((0 : Int32), u.2)) (fun r => (∀ s, s < ns → ∀ p, p < 144 → r (864 * l0 + 144 * s + p) = nI (VV cells masks K X Y W light seat l0 s p)) ∧ ∀ q, (q < 864 * l0) → r q = u.2 q) := by
      refine ok_lp (fun s0 r => r.1 = nI s0 ∧ (∀ s, s < s0 → ∀ p, p < 144 → r.2 (864 * l0 + 144 * s + p) = nI (VV cells masks K X Y W light seat l0 s p)) ∧ ∀ q, (q < 864 * l0) → r.2 q = u.2 q) ns (fun s0 r hs0 hJ => Or.inl ?_) (fun r hJ => ?_) ⟨rfl, fun l hl => absurd hl (Nat.not_lt_zero l), fun _ _ => rfl⟩
      · obtain ⟨e, g1, g2⟩ := hJ
        obtain ⟨r2, er, p1, p2⟩ := m_laysOne (made := r.2) h6 h4 hl0 hs0 hSh hS w5 hW hL ht hseat
        unfold f_X8_lays_S13
        rw [m_sheets, bnd_s, w0, e, if_neg (nI_ge hs0 (by omega)), er, bnd_s, nm_s, nI_1]
        refine ⟨_, rfl, rfl, fun s hs p hp => ?_, fun q hq => ?_⟩
        · show r2 _ = _
          rcases Nat.lt_succ_iff_lt_or_eq.mp hs with z | rfl
          · rw [p2 _ (by omega)]; exact g1 s z p hp
          · exact p1 p hp
        · show r2 _ = _
          rw [p2 _ (by omega)]; exact g2 q hq
      · obtain ⟨e, g1, g2⟩ := hJ
        unfold f_X8_lays_S13
        rw [m_sheets, bnd_s, w0, e, if_pos (Int32.le_refl _)]
        exact ⟨_, rfl, g1, g2⟩
    obtain ⟨r, er, g1, g2⟩ := inner
    rw [er, bnd_s]
    unfold f_X8_lays_J37
    rw [nm_s, nI_1]
    refine ⟨_, rfl, rfl, fun l hl s hs p hp => ?_⟩
    show r _ = _
    rcases Nat.lt_succ_iff_lt_or_eq.mp hl with z | rfl
    · rw [g2 _ (by omega)]; exact h1 l z s hs p hp
    · exact g1 s hs p hp
  · obtain ⟨e, h1⟩ := hJ
    unfold f_X8_lays_S2
    rw [m_slots, bnd_s, w1, e, if_pos (Int32.le_refl _)]
    exact ⟨_, rfl, h1⟩
