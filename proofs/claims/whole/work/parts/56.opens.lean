/-! ===== settings by numbers ===== -/
def rd (ns nl l : Nat) : Nat := if l < nl then ns + 1 else 1
theorem rd_pos (ns nl l : Nat) : 0 < rd ns nl l := by unfold rd; split <;> omega
theorem rd_le {ns nl l : Nat} (h : ns ≤ 6) : rd ns nl l ≤ 7 := by unfold rd; split <;> omega
def dgt (ns nl m : Nat) : Nat → Nat
  | 0 => m / rd ns nl 3 / rd ns nl 2 / rd ns nl 1 % rd ns nl 0
  | 1 => m / rd ns nl 3 / rd ns nl 2 % rd ns nl 1
  | 2 => m / rd ns nl 3 % rd ns nl 2
  | _ => m % rd ns nl 3
def stm (ns nl m l : Nat) : Int32 := nI (dgt ns nl m l) - 1
theorem dgt_lt (ns nl m : Nat) : ∀ l, l < 4 → dgt ns nl m l < rd ns nl l := l4 (Nat.mod_lt _ (rd_pos _ _ _)) (Nat.mod_lt _ (rd_pos _ _ _)) (Nat.mod_lt _ (rd_pos _ _ _)) (Nat.mod_lt _ (rd_pos _ _ _))
def clb (x y : Int32) : Bool := decide (x ≠ -1 ∧ x = y)
def nod (f : Nat → Int32) : Bool := !clb (f 1) (f 0) && !clb (f 2) (f 0) && !clb (f 2) (f 1) && !clb (f 3) (f 0) && !clb (f 3) (f 1) && !clb (f 3) (f 2)
theorem nod_iff (f : Nat → Int32) : nod f = true ↔ ∀ l k, l < 4 → k < 4 → f l = f k → f l ≠ -1 → l = k := by
  unfold nod clb
  simp only [Bool.and_eq_true, Bool.not_eq_true', decide_eq_false_iff_not]
  constructor
  · rintro ⟨⟨⟨⟨⟨h10, h20⟩, h21⟩, h30⟩, h31⟩, h32⟩ l k hl hk e ne
    have key : ∀ l k, k < l → l < 4 → f l = f k → f l ≠ -1 → False := by
      intro l k hkl hl e ne
      rcases (show (l = 1 ∧ k = 0) ∨ (l = 2 ∧ k = 0) ∨ (l = 2 ∧ k = 1) ∨ (l = 3 ∧ k = 0) ∨ (l = 3 ∧ k = 1) ∨ (l = 3 ∧ k = 2) by omega) with ⟨rfl, rfl⟩ | ⟨rfl, rfl⟩ | ⟨rfl, rfl⟩ | ⟨rfl, rfl⟩ | ⟨rfl, rfl⟩ | ⟨rfl, rfl⟩
      · exact h10 ⟨ne, e⟩
      · exact h20 ⟨ne, e⟩
      · exact h21 ⟨ne, e⟩
      · exact h30 ⟨ne, e⟩
      · exact h31 ⟨ne, e⟩
      · exact h32 ⟨ne, e⟩
    rcases Nat.lt_trichotomy l k with z | z | z
    · exact absurd (key k l z hk e.symm (fun q => ne (e.trans q))) id
    · exact z
    · exact absurd (key l k z hl e ne) id
  · intro H
    exact ⟨⟨⟨⟨⟨fun q => absurd (H 1 0 (by decide) (by decide) q.2 q.1) (by decide), fun q => absurd (H 2 0 (by decide) (by decide) q.2 q.1) (by decide)⟩, fun q => absurd (H 2 1 (by decide) (by decide) q.2 q.1) (by decide)⟩, fun q => absurd (H 3 0 (by decide) (by decide) q.2 q.1) (by decide)⟩, fun q => absurd (H 3 1 (by decide) (by decide) q.2 q.1) (by decide)⟩, fun q => absurd (H 3 2 (by decide) (by decide) q.2 q.1) (by decide)⟩
theorem nod_cong {f g : Nat → Int32} (h : ∀ l, l < 4 → f l = g l) : nod f = nod g := by
  unfold nod
  rw [h 0 (by decide), h 1 (by decide), h 2 (by decide), h 3 (by decide)]
theorem stm_set {ns nl m : Nat} (h6 : ns ≤ 6) (h : nod (stm ns nl m) = true) : Set4 ns nl (stm ns nl m) := by
  refine ⟨fun l hl => ?_, (nod_iff _).mp h⟩
  have hd := dgt_lt ns nl m l hl
  unfold stm
  cases e : dgt ns nl m l with
  | zero => exact Or.inl rfl
  | succ d =>
    rw [e] at hd
    have hln : l < nl := by
      unfold rd at hd
      split at hd
      · assumption
      · omega
    unfold rd at hd
    rw [if_pos hln] at hd
    exact Or.inr ⟨hln, d, by omega, nI_pred d⟩
theorem clb_nI {a b : Nat} (ha : a < 100) (hb : b < 100) : clb (nI a - 1) (nI b - 1) = decide (a ≠ 0 ∧ a = b) := by
  unfold clb
  refine decide_eq_decide.mpr ?_
  have h1 : nI a - 1 = -1 ↔ a = 0 := by
    rw [eq_i, show (nI a - 1).toInt = (a : Int) - 1 from pk_sub_toInt (b := 1) (by omega) (by decide), show (-1 : Int32).toInt = -1 from rfl]; omega
  have h2 : nI a - 1 = nI b - 1 ↔ a = b := by
    rw [eq_i, show (nI a - 1).toInt = (a : Int) - 1 from pk_sub_toInt (b := 1) (by omega) (by decide), show (nI b - 1).toInt = (b : Int) - 1 from pk_sub_toInt (b := 1) (by omega) (by decide)]; omega
  rw [ne_eq, h1, h2]
noncomputable def hdN (H : Int32) (e : Nat) : Int32 := if e = 0 then H else H ||| ((1 : Int32) <<< (nI (e - 1) &&& 31))
def gN (g : Bool) (H : Int32) (e : Nat) : Bool := if e = 0 then g else (g && !bt H (e - 1))
theorem hdN_bt {H : Int32} {e i : Nat} (he : e < 30) (hi : i < 31) : bt (hdN H e) i = (bt H i || decide (e = i + 1)) := by
  unfold hdN
  by_cases z : e = 0
  · rw [if_pos z, decide_eq_false (by omega), Bool.or_false]
  · rw [if_neg z, b_or, bt_bit (by omega) (by omega)]
    congr 1
    exact decide_eq_decide.mpr (by omega)
theorem m_opStep {w f : Nat → Int32} {a0 H : Int32} {g : Bool} {ns nl l L : Nat} (w0 : w 0 = nI ns) (w1 : w 1 = nI nl) (h6 : ns ≤ 6) (h4 : nl ≤ 4) (hl : l < 4) (hL : L < 1000000) :
    ∃ f', f_X8_opens_S10 w a0 (nI L) H (b2 g) (nI l) f = some (.inl (nI (L / rd ns nl l), hdN H (L % rd ns nl l), b2 (gN g H (L % rd ns nl l)), nI l + (-1), f')) ∧ ∀ k, f' k = if k = l then nI (L % rd ns nl l) - 1 else f k := by
  unfold f_X8_opens_S10
  rw [if_neg (nI_pos (by omega)), chk_n hl (by decide), nm_s, nI_clamp (by omega), m_slots, bnd_s, w1]
  by_cases hln : l < nl
  · have er : rd ns nl l = ns + 1 := if_pos hln
    have hmod := Nat.mod_lt L (show 0 < ns + 1 by omega)
    rw [er, if_pos (nI_lt hln (by omega)), m_sheets, bnd_s, w0, nI_1, gd_eq (decide_eq_true (nI_ne0 (by omega) (by omega))), chk_n hl (by decide), nm_s, bnd_s, nI_1, gd_eq (decide_eq_true (nI_ne0 (by omega) (by omega))), nm_s, pk_rem (by omega) (by omega) (by omega), pk_div (by omega) (by omega) (by omega), chk_n hl (by decide), upd_same]
    have hf : ∀ k, upd (upd f l (-1)) l (nI (L % (ns + 1)) - 1) k = if k = l then nI (L % (ns + 1)) - 1 else f k := fun k => by
      rw [upd_at, upd_at]
      by_cases z : k = l
      · rw [if_pos z, if_pos z]
      · rw [if_neg z, if_neg z, if_neg z]
    unfold f_X8_opens_J97 f_X8_opens_J98 f_X8_opens_J112 hdN gN
    by_cases z : L % (ns + 1) = 0
    · rw [if_pos z, if_pos z, if_neg (by rw [z]; decide), nm_s]
      exact ⟨_, rfl, hf⟩
    · have ee : nI (L % (ns + 1)) - 1 = nI (L % (ns + 1) - 1) := by
        rw [show L % (ns + 1) = (L % (ns + 1) - 1) + 1 by omega, nI_pred]; congr 1
      rw [if_neg z, if_neg z, if_pos (by rw [ee]; exact nI_pos' (by omega))]
      simp only [chk_n hl (show (4 : Nat) < 2 ^ 31 by decide), nm_s, nI_clamp (show l < 2 ^ 31 by omega), upd_same, ee, m_has H (show L % (ns + 1) - 1 < 32 by omega)]
      rw [ee] at hf
      cases hg : g with
      | false =>
        rw [if_pos (show b2 false = 0 from rfl), Bool.false_and]
        exact ⟨_, rfl, hf⟩
      | true =>
        rw [if_neg (show ¬ b2 true = 0 by decide), Bool.true_and]
        cases hb : bt H (L % (ns + 1) - 1) with
        | false => 
          rw [if_pos (show (if (false = true) then (1 : Int32) else 0) = 0 from rfl)]
          exact ⟨_, rfl, hf⟩
        | true =>
          rw [if_neg (show ¬ (if (true = true) then (1 : Int32) else 0) = 0 by decide)]
          exact ⟨_, rfl, hf⟩
  · have er : rd ns nl l = 1 := if_neg hln
    rw [er, if_neg (nI_nlt (by omega) (by omega))]
    unfold f_X8_opens_J112 hdN gN
    rw [nm_s, Nat.mod_one, Nat.div_one, if_pos rfl, if_pos rfl]
    refine ⟨_, rfl, fun k => ?_⟩
    rw [upd_at]
    rfl
def okm (rows K : Nat → Int32) (ns nl nr m : Nat) : Bool := nod (stm ns nl m) && !decide (perm rows K (stm ns nl m) nr = 0)
theorem m_opens {w st rows K X Y : Nat → Int32} {ns nl nr m : Nat} (w0 : w 0 = nI ns) (w1 : w 1 = nI nl) (w7 : w 7 = nI nr) (h6 : ns ≤ 6) (h4 : nl ≤ 4) (h20 : nr ≤ 20) (hS : SlO nl K X Y w) (hR : RuO ns nl nr rows w) (hm : m < 1000000) : OK (f_X8_opens w st (nI m)) (fun u => u.1 = b2 (okm rows K ns nl nr m) ∧ ∀ l, l < 4 → u.2 l = stm ns nl m l) := by
  have le1 : ∀ a b : Nat, a / b ≤ a := Nat.div_le_self
  have L1 : m / rd ns nl 3 < 1000000 := Nat.lt_of_le_of_lt (le1 _ _) hm
  have L2 : m / rd ns nl 3 / rd ns nl 2 < 1000000 := Nat.lt_of_le_of_lt (le1 _ _) L1
  have L3 : m / rd ns nl 3 / rd ns nl 2 / rd ns nl 1 < 1000000 := Nat.lt_of_le_of_lt (le1 _ _) L2
  obtain ⟨f1, e1, p1⟩ := m_opStep (f := st) (a0 := nI m) (H := 0) (g := true) (l := 3) w0 w1 h6 h4 (by decide) hm
  obtain ⟨f2, e2, p2⟩ := m_opStep (f := f1) (a0 := nI m) (H := hdN 0 (m % rd ns nl 3)) (g := gN true 0 (m % rd ns nl 3)) (l := 2) w0 w1 h6 h4 (by decide) L1
  obtain ⟨f3, e3, p3⟩ := m_opStep (f := f2) (a0 := nI m) (H := hdN (hdN 0 (m % rd ns nl 3)) (m / rd ns nl 3 % rd ns nl 2)) (g := gN (gN true 0 (m % rd ns nl 3)) (hdN 0 (m % rd ns nl 3)) (m / rd ns nl 3 % rd ns nl 2)) (l := 1) w0 w1 h6 h4 (by decide) L2
  obtain ⟨f4, e4, p4⟩ := m_opStep (f := f3) (a0 := nI m) (H := hdN (hdN (hdN 0 (m % rd ns nl 3)) (m / rd ns nl 3 % rd ns nl 2)) (m / rd ns nl 3 / rd ns nl 2 % rd ns nl 1)) (g := gN (gN (gN true 0 (m % rd ns nl 3)) (hdN 0 (m % rd ns nl 3)) (m / rd ns nl 3 % rd ns nl 2)) (hdN (hdN 0 (m % rd ns nl 3)) (m / rd ns nl 3 % rd ns nl 2)) (m / rd ns nl 3 / rd ns nl 2 % rd ns nl 1)) (l := 0) w0 w1 h6 h4 (by decide) L3
  have hs : ∀ l, l < 4 → f4 l = stm ns nl m l := l4 (by rw [p4, if_pos rfl]; rfl) (by rw [p4, if_neg (by decide), p3, if_pos rfl]; rfl) (by rw [p4, if_neg (by decide), p3, if_neg (by decide), p2, if_pos rfl]; rfl) (by rw [p4, if_neg (by decide), p3, if_neg (by decide), p2, if_neg (by decide), p1, if_pos rfl]; rfl)
  have n1 : ∀ n, nI (n + 1) + (-1 : Int32) = nI n := pk_m1
  have q3 : dgt ns nl m 3 = m % rd ns nl 3 := rfl
  have q2 : dgt ns nl m 2 = m / rd ns nl 3 % rd ns nl 2 := rfl
  have q1 : dgt ns nl m 1 = m / rd ns nl 3 / rd ns nl 2 % rd ns nl 1 := rfl
  have q0 : dgt ns nl m 0 = m / rd ns nl 3 / rd ns nl 2 / rd ns nl 1 % rd ns nl 0 := rfl
  have d3 := Nat.lt_of_lt_of_le (dgt_lt ns nl m 3 (by decide)) (rd_le h6)
  have d2 := Nat.lt_of_lt_of_le (dgt_lt ns nl m 2 (by decide)) (rd_le h6)
  have d1 := Nat.lt_of_lt_of_le (dgt_lt ns nl m 1 (by decide)) (rd_le h6)
  have d0 := Nat.lt_of_lt_of_le (dgt_lt ns nl m 0 (by decide)) (rd_le h6)
  rw [← q3, ← q2, ← q1, ← q0] at e4
  rw [← q3, ← q2, ← q1] at e3
  rw [← q3, ← q2] at e2
  rw [← q3] at e1
  have eg : gN (gN (gN (gN true 0 (dgt ns nl m 3)) (hdN 0 (dgt ns nl m 3)) (dgt ns nl m 2)) (hdN (hdN 0 (dgt ns nl m 3)) (dgt ns nl m 2)) (dgt ns nl m 1)) (hdN (hdN (hdN 0 (dgt ns nl m 3)) (dgt ns nl m 2)) (dgt ns nl m 1)) (dgt ns nl m 0) = nod (stm ns nl m) := by
    unfold nod stm
    rw [clb_nI (by omega) (by omega), clb_nI (by omega) (by omega), clb_nI (by omega) (by omega), clb_nI (by omega) (by omega), clb_nI (by omega) (by omega), clb_nI (by omega) (by omega)]
    unfold gN
    rw [hdN_bt (by omega) (by omega), hdN_bt (by omega) (by omega), hdN_bt (by omega) (by omega), hdN_bt (by omega) (by omega), hdN_bt (by omega) (by omega), hdN_bt (by omega) (by omega), b_0, b_0, b_0, b_0]
    generalize dgt ns nl m 0 = x0 at *
    generalize dgt ns nl m 1 = x1 at *
    generalize dgt ns nl m 2 = x2 at *
    generalize dgt ns nl m 3 = x3 at *
    rw [Bool.eq_iff_iff]
    by_cases z0 : x0 = 0 <;> by_cases z1 : x1 = 0 <;> by_cases z2 : x2 = 0 <;> by_cases z3 : x3 = 0 <;> simp [z0, z1, z2, z3] <;> omega
  unfold f_X8_opens f_X8_opens_J10
  have er : lp (fun q => f_X8_opens_S10 w (nI m) q.1 q.2.1 q.2.2.1 q.2.2.2.1 q.2.2.2.2) (nI m, (0 : Int32), (1 : Int32), (3 : Int32), st) = some (b2 (nod (stm ns nl m)), f4) := by
    rw [show nI 3 + (-1 : Int32) = nI 2 from rfl] at e1
    rw [show nI 2 + (-1 : Int32) = nI 1 from rfl] at e2
    rw [show nI 1 + (-1 : Int32) = nI 0 from rfl] at e3
    have er' : lp (fun q => f_X8_opens_S10 w (nI m) q.1 q.2.1 q.2.2.1 q.2.2.2.1 q.2.2.2.2) (nI m, (0 : Int32), b2 true, nI 3, st) = some (b2 (nod (stm ns nl m)), f4) := by
      refine lp_go e1 (lp_go e2 (lp_go e3 (lp_go e4 (lp_exit ?_))))
      show f_X8_opens_S10 w (nI m) _ _ _ (nI 0 + (-1)) _ = _
      unfold f_X8_opens_S10
      rw [if_pos (by decide), eg]
    exact er'
  rw [er, bnd_s]
  unfold f_X8_opens_J118 okm
  cases hn : nod (stm ns nl m) with
  | false =>
    rw [if_pos (show b2 false = 0 from rfl), Bool.false_and]
    exact ⟨_, rfl, rfl, hs⟩
  | true =>
    rw [if_neg (show ¬ b2 true = 0 by decide), Bool.true_and, m_isAllowed ((stm_set h6 hn).cong hs) h6 h4 w1 w7 hS hR h20, bnd_s, perm_cong hs]
    by_cases z : perm rows K (stm ns nl m) nr = 0
    · rw [if_pos z, decide_eq_true z]
      exact ⟨_, rfl, rfl, hs⟩
    · rw [if_neg z, decide_eq_false z]
      exact ⟨_, rfl, rfl, hs⟩
def nst (ns nl : Nat) : Nat := rd ns nl 0 * rd ns nl 1 * rd ns nl 2 * rd ns nl 3
theorem nst_pow {ns nl : Nat} (h4 : nl ≤ 4) : nst ns nl = (ns + 1) ^ nl := by
  unfold nst rd
  rcases (show nl = 0 ∨ nl = 1 ∨ nl = 2 ∨ nl = 3 ∨ nl = 4 by omega) with rfl | rfl | rfl | rfl | rfl <;> simp [Nat.pow_succ]
theorem nst_le {ns nl : Nat} (h6 : ns ≤ 6) : nst ns nl ≤ 2401 := by
  unfold nst
  have h0 := rd_le (nl := nl) (l := 0) h6
  have h1 := rd_le (nl := nl) (l := 1) h6
  have h2 := rd_le (nl := nl) (l := 2) h6
  have h3 := rd_le (nl := nl) (l := 3) h6
  exact Nat.mul_le_mul (Nat.mul_le_mul (Nat.mul_le_mul h0 h1) h2) h3
theorem nst_pos (ns nl : Nat) : 0 < nst ns nl := Nat.mul_pos (Nat.mul_pos (Nat.mul_pos (rd_pos _ _ _) (rd_pos _ _ _)) (rd_pos _ _ _)) (rd_pos _ _ _)
theorem m_settings {w : Nat → Int32} {ns nl : Nat} (w0 : w 0 = nI ns) (w1 : w 1 = nI nl) (h6 : ns ≤ 6) (h4 : nl ≤ 4) : f_X8_settings w = some (nI (nst ns nl)) := by
  unfold f_X8_settings f_X8_settings_J4
  refine (bnd_eq (lp_run' (fun k => (nI ((ns + 1) ^ k), nI k)) (r := nI (nst ns nl)) nl rfl (fun k hk => ?_) ?_)).trans rfl
  · show f_X8_settings_S4 w (nI ((ns + 1) ^ k)) (nI k) = _
    unfold f_X8_settings_S4
    rw [m_slots, bnd_s, w1, if_neg (nI_ge hk (by omega)), m_sheets, bnd_s, w0, nI_1, nm_s, pk_mul, nm_s, nI_1, Nat.pow_succ]
  · show f_X8_settings_S4 w (nI ((ns + 1) ^ nl)) (nI nl) = _
    unfold f_X8_settings_S4
    rw [m_slots, bnd_s, w1, if_pos (Int32.le_refl _), nst_pow h4]
theorem okm_zero {rows K w : Nat → Int32} {ns nl nr : Nat} (hR : RuO ns nl nr rows w) (h6 : ns ≤ 6) (h4 : nl ≤ 4) (h20 : nr ≤ 20) : okm rows K ns nl nr 0 = true := by
  have e : ∀ l, l < 4 → stm ns nl 0 l = -1 := l4 (by unfold stm dgt; simp; rfl) (by unfold stm dgt; simp; rfl) (by unfold stm dgt; simp; rfl) (by unfold stm dgt; simp; rfl)
  have es : ∀ x, x ≠ -1 → sof (stm ns nl 0) x = -1 := fun x hx => by
    rcases sof_SL (stm ns nl 0) x with ⟨q, _⟩ | ⟨l, hl, _, q⟩
    · exact q
    · exact absurd (q.symm.trans (e l hl)) hx
  have hp : ∀ n, n ≤ nr → perm rows K (stm ns nl 0) n = 1 := by
    intro n
    induction n with
    | zero => intro _; rfl
    | succ n ih =>
      intro hn
      obtain ⟨d, a, b, e0, e1, e2, hd, ha, hb0, hb1⟩ := (hR n (by omega)).1
      show (if perm rows K (stm ns nl 0) n = 0 then 0 else krule rows K (stm ns nl 0) n) = 1
      rw [if_neg (by rw [ih (by omega)]; decide)]
      unfold krule
      have b6 : b < 100 := by
        rcases (show d = 0 ∨ d ≠ 0 by omega) with z | z
        · have := hb0 z; omega
        · have := hb1 z; omega
      rw [e1, e2, es _ (nI_m1 (by omega)), es _ (nI_m1 (by omega)), if_pos rfl, if_pos rfl, if_neg (show ¬ (-1 : Int32) = nI b from fun q => nI_m1 (n := b) (by omega) q.symm)]
      split
      · rfl
      · split <;> rfl
  have hn : nod (stm ns nl 0) = true := (nod_iff _).mpr (fun l k hl hk _ ne => absurd (e l hl) ne)
  unfold okm
  rw [hn, hp nr (Nat.le_refl _)]
  rfl
