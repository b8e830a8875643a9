/-! ===== what a stroke makes of cells ===== -/
noncomputable def mk (p : Nat → Bool) : Nat → Int32
  | 0 => 0
  | n + 1 => mk p n ||| (if p n = true then (1 : Int32) <<< (nI n &&& 31) else 0)
theorem mk_bt (p : Nat → Bool) : ∀ n, n ≤ 31 → ∀ i, i < 32 → bt (mk p n) i = (decide (i < n) && p i) := by
  intro n
  induction n with
  | zero => intro _ i _; show bt 0 i = _; rw [b_0, decide_eq_false (Nat.not_lt_zero i), Bool.false_and]
  | succ n ih =>
    intro hn i hi
    show bt (mk p n ||| _) i = _
    rw [b_or, ih (by omega) i hi]
    by_cases q : p n = true
    · rw [if_pos q, bt_bit (by omega) hi]
      by_cases e : i = n
      · subst e; rw [decide_eq_true rfl, decide_eq_true (Nat.lt_succ_self i), q]; simp
      · rw [decide_eq_false e, Bool.or_false]
        congr 1
        exact decide_eq_decide.mpr (by omega)
    · rw [if_neg q, b_0, Bool.or_false]
      by_cases e : i = n
      · subst e; rw [ts_nt q, Bool.and_false, Bool.and_false]
      · congr 1
        exact decide_eq_decide.mpr (by omega)
theorem mk_C25 (p : Nat → Bool) : C25 (mk p 25) := fun i hi => by
  by_cases h : i < 32
  · rw [mk_bt p 25 (by decide) i h, decide_eq_false (by omega), Bool.false_and]
  · exact b_big (by omega)
theorem mk_eq {p : Nat → Bool} {x : Int32} (hx : C25 x) (h : ∀ i, i < 25 → bt x i = p i) : x = mk p 25 := C25.ext hx (mk_C25 p) (fun i hi => by rw [h i hi, mk_bt p 25 (by decide) i (by omega), decide_eq_true hi, Bool.true_and])
def rho (i : Nat) : Nat := 5 * (4 - i % 5) + i / 5
def phi (i : Nat) : Nat := 5 * (i / 5) + (4 - i % 5)
noncomputable def tn (x : Int32) : Int32 := mk (fun i => bt x (rho i)) 25
noncomputable def fl (x : Int32) : Int32 := mk (fun i => bt x (phi i)) 25
def inb (x y w h c : Nat) : Bool := decide (x ≤ c % 5 ∧ c % 5 < x + w ∧ y ≤ c / 5 ∧ c / 5 < y + h)
noncomputable def bx (x y w h : Nat) : Int32 := mk (inb x y w h) 25
theorem m_mk {f : Int32 → Int32 → Option ((Int32 × Int32) ⊕ Int32)} (p : Nat → Bool) (hs : ∀ k, k < 25 → f (mk p k) (nI k) = some (.inl (mk p k ||| (if p k = true then (1 : Int32) <<< (nI k &&& 31) else 0), nI (k + 1)))) (he : f (mk p 25) (nI 25) = some (.inr (mk p 25))) : lp (fun q => f q.1 q.2) ((0 : Int32), (0 : Int32)) = some (mk p 25) :=
  lp_run' (fun k => (mk p k, nI k)) 25 rfl (fun k hk => hs k hk) he
theorem dr5 {k : Nat} (hk : k < 25) : nI k / (5 : Int32) = nI (k / 5) ∧ nI k - nI k / (5 : Int32) * (5 : Int32) = nI (k % 5) := ⟨pk_div (d := 5) (by omega) (by decide) (by decide), pk_rem (d := 5) (by omega) (by decide) (by decide)⟩
theorem m_turned (x : Int32) : f_X8_turned x = some (tn x) := by
  unfold f_X8_turned f_X8_turned_J4
  have H : lp (fun q => f_X8_turned_S4 x q.1 q.2) ((0 : Int32), (0 : Int32)) = some (tn x) := by
   refine m_mk (f := fun a b => f_X8_turned_S4 x a b) (fun i => bt x (rho i)) (fun k hk => ?_) ?_
   · show f_X8_turned_S4 x _ _ = _
     unfold f_X8_turned_S4 f_X8_turned_J36
     rw [if_neg (ge_25 hk), nm_s, (dr5 hk).2, (dr5 hk).1, show (5 : Int32) * ((4 : Int32) - nI (k % 5)) + nI (k / 5) = nI (rho k) by rw [show (4 : Int32) = nI 4 from rfl, pk_sub (by omega), show (5 : Int32) = nI 5 from rfl, pk_mul, nI_add]; rfl, m_has x (by unfold rho; omega)]
     by_cases q : bt x (rho k) = true
     · rw [if_pos q, if_neg (by decide), nm_s, nm_s, nI_1, if_pos q]
     · rw [if_neg q, if_pos rfl, nm_s, nm_s, nI_1, if_neg q]
   · show f_X8_turned_S4 x _ _ = _
     unfold f_X8_turned_S4
     rw [if_pos gl_25]
  rw [H]
  rfl
theorem m_flipped (x : Int32) : f_X8_flipped x = some (fl x) := by
  unfold f_X8_flipped f_X8_flipped_J4
  have H : lp (fun q => f_X8_flipped_S4 x q.1 q.2) ((0 : Int32), (0 : Int32)) = some (fl x) := by
   refine m_mk (f := fun a b => f_X8_flipped_S4 x a b) (fun i => bt x (phi i)) (fun k hk => ?_) ?_
   · show f_X8_flipped_S4 x _ _ = _
     unfold f_X8_flipped_S4 f_X8_flipped_J38
     rw [if_neg (ge_25 hk), nm_s, (dr5 hk).2, (dr5 hk).1, show nI (k / 5) * (5 : Int32) + (5 : Int32) - (1 : Int32) - nI (k % 5) = nI (phi k) by rw [show (5 : Int32) = nI 5 from rfl, pk_mul, nI_add, show (1 : Int32) = nI 1 from rfl, pk_sub (by omega), pk_sub (by omega)]; unfold phi; congr 1; omega, m_has x (by unfold phi; omega)]
     by_cases q : bt x (phi k) = true
     · rw [if_pos q, if_neg (by decide), nm_s, nm_s, nI_1, if_pos q]
     · rw [if_neg q, if_pos rfl, nm_s, nm_s, nI_1, if_neg q]
   · show f_X8_flipped_S4 x _ _ = _
     unfold f_X8_flipped_S4
     rw [if_pos gl_25]
  rw [H]
  rfl
theorem m_partOf {x y w h : Nat} (hx : x < 5) (hy : y < 5) (hw : 1 ≤ w ∧ w ≤ 5) (hh : 1 ≤ h ∧ h ≤ 5) : f_X8_partOf (nI x) (nI y) (nI w) (nI h) = some (bx x y w h) := by
  unfold f_X8_partOf f_X8_partOf_J6
  have H : lp (fun q => f_X8_partOf_S6 (nI x) (nI y) (nI w) (nI h) q.1 q.2) ((0 : Int32), (0 : Int32)) = some (bx x y w h) := by
   refine m_mk (f := fun a b => f_X8_partOf_S6 (nI x) (nI y) (nI w) (nI h) a b) (inb x y w h) (fun k hk => ?_) ?_
   · show f_X8_partOf_S6 _ _ _ _ _ _ = _
     have e1 : (nI x + nI w - (1 : Int32)).toInt = (x : Int) + w - 1 := by
       rw [nI_add, show (nI (x + w) - (1 : Int32)).toInt = ((x + w : Nat) : Int) - 1 from pk_sub_toInt (b := 1) (by omega) (by decide)]; omega
     have e2 : (nI y + nI h - (1 : Int32)).toInt = (y : Int) + h - 1 := by
       rw [nI_add, show (nI (y + h) - (1 : Int32)).toInt = ((y + h : Nat) : Int) - 1 from pk_sub_toInt (b := 1) (by omega) (by decide)]; omega
     unfold f_X8_partOf_S6 f_X8_partOf_J54 f_X8_partOf_J55 inb
     rw [if_neg (ge_25 hk), nm_s, (dr5 hk).2, (dr5 hk).1]
     by_cases q1 : x ≤ k % 5 ∧ k % 5 < x + w
     · rw [wi_yes (by rw [e1, nI_toInt (by omega), nI_toInt (by omega)]; omega), if_neg (by decide), nm_s]
       by_cases q2 : y ≤ k / 5 ∧ k / 5 < y + h
       · rw [wi_yes (by rw [e2, nI_toInt (by omega), nI_toInt (by omega)]; omega), if_neg (by decide), decide_eq_true (show x ≤ k % 5 ∧ k % 5 < x + w ∧ y ≤ k / 5 ∧ k / 5 < y + h from ⟨q1.1, q1.2, q2.1, q2.2⟩), if_pos rfl, nm_s, nm_s, nI_1]
       · rw [wi_no (by rw [e2, nI_toInt (by omega), nI_toInt (by omega)]; omega), if_pos rfl, decide_eq_false (fun q => q2 ⟨q.2.2.1, q.2.2.2⟩), if_neg (by decide), nm_s, nm_s, nI_1]
     · rw [wi_no (by rw [e1, nI_toInt (by omega), nI_toInt (by omega)]; omega), if_pos rfl, decide_eq_false (fun q => q1 ⟨q.1, q.2.1⟩), if_neg (by decide), nm_s, nm_s, nI_1]
   · show f_X8_partOf_S6 _ _ _ _ _ _ = _
     unfold f_X8_partOf_S6
     rw [if_pos gl_25]
  rw [H]
  rfl
/-! the class's -/
noncomputable def boxOK (x y : Nat) : Bool := allb (fun w => allb (fun h => !decide (x + w < 5 ∧ y + h < 5) || decide (itr (fun q => f_X0_box_S15 (nI x) (nI y) (nI (w + 1)) (nI (h + 1)) ((((1 : Int32) <<< (nI (w + 1) &&& 31)) - (1 : Int32)) <<< (nI x &&& 31)) q.1 q.2) 7 ((0 : Int32), nI y) = some (bx x y (w + 1) (h + 1)))) 5) 5
theorem box_tab : ∀ x, x < 5 → ∀ y, y < 5 → boxOK x y = true := by decide +kernel
theorem box_at {x y w h : Nat} (hx : x < 5) (hy : y < 5) (h1 : x + w < 5) (h2 : y + h < 5) : itr (fun q => f_X0_box_S15 (nI x) (nI y) (nI (w + 1)) (nI (h + 1)) ((((1 : Int32) <<< (nI (w + 1) &&& 31)) - (1 : Int32)) <<< (nI x &&& 31)) q.1 q.2) 7 ((0 : Int32), nI y) = some (bx x y (w + 1) (h + 1)) := by
  have := allb_iff.mp (allb_iff.mp (box_tab x hx y hy) w (by omega)) h (by omega)
  rw [decide_eq_true (show x + w < 5 ∧ y + h < 5 from ⟨h1, h2⟩)] at this
  exact of_decide_eq_true this
theorem c_box {x y w h : Nat} (hx : x < 5) (hy : y < 5) (hw : 1 ≤ w) (hh : 1 ≤ h) (h1 : x + w ≤ 5) (h2 : y + h ≤ 5) : f_X0_box (nI x) (nI y) (nI w) (nI h) = some (bx x y w h) := by
  obtain ⟨w, rfl⟩ : ∃ v, w = v + 1 := ⟨w - 1, by omega⟩
  obtain ⟨h, rfl⟩ : ∃ v, h = v + 1 := ⟨h - 1, by omega⟩
  unfold f_X0_box f_X0_box_J15 f_X0_box_J41
  rw [nm_s, lp_of (box_at hx hy (by omega) (by omega)), bnd_s]
theorem c_turned (x : Int32) : f_X0_turned x = some (tn x) := by
  unfold f_X0_turned f_X0_turned_J4
  have H : OK (lp (fun q => f_X0_turned_S4 x q.1 q.2) ((0 : Int32), (0 : Int32))) (fun r => ∀ i, i < 32 → bt r i = (decide (i < 25) && bt x (rho i))) := by
    refine ok_lp (fun y s => s.2 = nI y ∧ ∀ i, i < 32 → bt s.1 i = (decide (i < 5 * y) && bt x (rho i))) 5 (fun y s hy hJ => Or.inl ?_) (fun s hJ => ?_) ⟨rfl, fun i hi => by rw [b_0, decide_eq_false (by omega), Bool.false_and]⟩
    · obtain ⟨e, hb⟩ := hJ
      unfold f_X0_turned_S4 f_X0_turned_J11
      rw [e, if_neg (ge_5 hy)]
      have inner : OK (lp (fun q => f_X0_turned_S11 x (nI y) q.1 q.2) (s.1, (0 : Int32))) (fun r => ∀ i, i < 32 → bt r i = (decide (i < 5 * y + 5) && bt x (rho i))) := by
        refine ok_lp (fun k r => r.2 = nI k ∧ ∀ i, i < 32 → bt r.1 i = (decide (i < 5 * y + k) && bt x (rho i))) 5 (fun k r hk hJ => Or.inl ?_) (fun r hJ => ?_) ⟨rfl, hb⟩
        · obtain ⟨e, hr⟩ := hJ
          unfold f_X0_turned_S11
          rw [e, if_neg (ge_5 hk), show (5 : Int32) * ((4 : Int32) - nI k) + nI y = nI (5 * (4 - k) + y) by rw [show (4 : Int32) = nI 4 from rfl, pk_sub (by omega), show (5 : Int32) = nI 5 from rfl, pk_mul, nI_add], show (5 : Int32) * nI y + nI k = nI (5 * y + k) by rw [show (5 : Int32) = nI 5 from rfl, pk_mul, nI_add], nm_s, nm_s, nI_1]
          refine ⟨_, rfl, rfl, fun i hi => ?_⟩
          show bt (r.1 ||| _) i = _
          rw [b_or, hr i hi, and1, bt_shr0 x (by omega)]
          by_cases q : bt x (5 * (4 - k) + y) = true
          · rw [if_pos q, bt_bit (by omega) hi]
            by_cases ei : i = 5 * y + k
            · rw [decide_eq_true ei, Bool.or_true, decide_eq_true (by omega), show rho i = 5 * (4 - k) + y by unfold rho; omega, q]; rfl
            · rw [decide_eq_false ei, Bool.or_false]
              congr 1
              exact decide_eq_decide.mpr (by omega)
          · rw [if_neg q, b_shl (5 * y + k) (by omega) _ hi, b_0, Bool.and_false, Bool.or_false]
            by_cases ei : i = 5 * y + k
            · rw [show rho i = 5 * (4 - k) + y by unfold rho; omega, ts_nt q, Bool.and_false, Bool.and_false]
            · congr 1
              exact decide_eq_decide.mpr (by omega)
        · obtain ⟨e, hr⟩ := hJ
          unfold f_X0_turned_S11
          rw [e, if_pos gl_5]
          exact ⟨_, rfl, hr⟩
      obtain ⟨r, er, hr⟩ := inner
      rw [er, bnd_s]
      unfold f_X0_turned_J42
      rw [nm_s, nI_1]
      exact ⟨_, rfl, rfl, hr⟩
    · obtain ⟨e, hb⟩ := hJ
      unfold f_X0_turned_S4
      rw [e, if_pos gl_5]
      exact ⟨_, rfl, hb⟩
  obtain ⟨r, er, hr⟩ := H
  rw [er, bnd_s]
  unfold f_X0_turned_J48 tn
  congr 1
  refine mk_eq (fun i hi => ?_) (fun i hi => by rw [hr i (by omega), decide_eq_true hi, Bool.true_and])
  by_cases h : i < 32
  · rw [hr i h, decide_eq_false (by omega), Bool.false_and]
  · exact b_big (by omega)
theorem left_tab : ∀ i, i < 32 → bt 1082401 i = decide (i < 25 ∧ i % 5 = 0) := by decide +kernel
theorem c_flipped (x : Int32) : f_X0_flipped x = some (fl x) := by
  unfold f_X0_flipped f_X0_flipped_J4
  have H : OK (lp (fun q => f_X0_flipped_S4 x q.1 q.2) ((0 : Int32), (0 : Int32))) (fun r => ∀ i, i < 32 → bt r i = (decide (i < 25 ∧ i % 5 < 5) && bt x (phi i))) := by
    refine ok_lp (fun n s => s.2 = nI n ∧ ∀ i, i < 32 → bt s.1 i = (decide (i < 25 ∧ i % 5 < n) && bt x (phi i))) 5 (fun n s hn hJ => Or.inl ?_) (fun s hJ => ?_) ⟨rfl, fun i hi => by rw [b_0, decide_eq_false (by omega), Bool.false_and]⟩
    · obtain ⟨e, hb⟩ := hJ
      unfold f_X0_flipped_S4
      rw [e, if_neg (ge_5 hn), show (4 : Int32) - nI n = nI (4 - n) by rw [show (4 : Int32) = nI 4 from rfl, pk_sub (by omega)], nm_s, nm_s, nI_1]
      refine ⟨_, rfl, rfl, fun i hi => ?_⟩
      show bt (s.1 ||| _) i = _
      rw [b_or, hb i hi, b_shl n (by omega) _ hi]
      by_cases q : n ≤ i
      · rw [decide_eq_true q, Bool.true_and, b_and, left_tab _ (by omega), b_sshr (4 - n) (by omega) _ (by omega)]
        by_cases z : i - n < 25 ∧ (i - n) % 5 = 0
        · by_cases h25 : i < 25
          · have en : i % 5 = n := by omega
            rw [decide_eq_true z, Bool.and_true, if_pos (by omega), decide_eq_false (show ¬ (i < 25 ∧ i % 5 < n) by omega), Bool.false_and, Bool.false_or, decide_eq_true (show i < 25 ∧ i % 5 < n + 1 by omega), Bool.true_and, show phi i = 4 - n + (i - n) by unfold phi; omega]
          · omega
        · rw [decide_eq_false z, Bool.and_false, Bool.or_false]
          congr 1
          exact decide_eq_decide.mpr (by omega)
      · rw [decide_eq_false q, Bool.false_and, Bool.or_false]
        congr 1
        exact decide_eq_decide.mpr (by omega)
    · obtain ⟨e, hb⟩ := hJ
      unfold f_X0_flipped_S4
      rw [e, if_pos gl_5]
      exact ⟨_, rfl, hb⟩
  obtain ⟨r, er, hr⟩ := H
  rw [er, bnd_s]
  unfold f_X0_flipped_J28 fl
  congr 1
  refine mk_eq (fun i hi => ?_) (fun i hi => by rw [hr i (by omega), decide_eq_true (by omega), Bool.true_and])
  by_cases h : i < 32
  · rw [hr i h, decide_eq_false (by omega), Bool.false_and]
  · exact b_big (by omega)
