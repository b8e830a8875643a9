/-! ===== numbers ===== -/
theorem lp_rj {σ ρ : Type} {f : σ → Option (σ ⊕ ρ)} (p : Nat → Bool) (S : Nat → σ) (R : Nat → ρ) (N j : Nat) (hs : ∀ i, j ≤ i → i < N → p i = true → f (S i) = some (.inl (S (i + 1)))) (he : ∀ i, j ≤ i → i ≤ N → (p i = false ∨ i = N) → f (S i) = some (.inr (R i))) (hj : j ≤ N) : lp f (S j) = some (R (rn p N j)) := by
  have key : ∀ d i, j ≤ i → i + d = N → lp f (S i) = some (R (rn p N i)) := by
    intro d
    induction d with
    | zero =>
      intro i hji hi
      obtain rfl : i = N := by omega
      rw [rn_stop (Or.inr (Nat.le_refl _))]
      exact lp_exit (he i hji (Nat.le_refl _) (Or.inr rfl))
    | succ d ih =>
      intro i hji hi
      cases h : p i with
      | true =>
        rw [rn_step (by omega) h]
        exact lp_go (hs i hji (by omega) h) (ih (i + 1) (by omega) (by omega))
      | false =>
        rw [rn_stop (Or.inl h)]
        exact lp_exit (he i hji (by omega) (Or.inl h))
  exact key (N - j) j (Nat.le_refl _) (by omega)
def av (B : Nat → Nat) (j : Nat) : Nat → Int32
  | 0 => 0
  | n + 1 => av B j n * 10 + nI (B (j + n)) - 48
theorem av_tab : ∀ a, a < 10 → ((0 : Int32) * 10 + nI (48 + a) - 48 = nI a) ∧ ∀ b, b < 10 → nI a * 10 + nI (48 + b) - 48 = nI (10 * a + b) := by decide +kernel
theorem av_1 {B : Nat → Nat} {j : Nat} (h : 48 ≤ B j ∧ B j ≤ 57) : av B j 1 = nI (B j - 48) := by
  show (0 : Int32) * 10 + nI (B j) - 48 = _
  have e := (av_tab (B j - 48) (by omega)).1
  rw [show 48 + (B j - 48) = B j by omega] at e
  exact e
theorem av_2 {B : Nat → Nat} {j : Nat} (h : 48 ≤ B j ∧ B j ≤ 57) (h2 : 48 ≤ B (j + 1) ∧ B (j + 1) ≤ 57) : av B j 2 = nI (10 * (B j - 48) + (B (j + 1) - 48)) := by
  show av B j 1 * 10 + nI (B (j + 1)) - 48 = _
  rw [av_1 h]
  have e := (av_tab (B j - 48) (by omega)).2 (B (j + 1) - 48) (by omega)
  rw [show 48 + (B (j + 1) - 48) = B (j + 1) by omega] at e
  exact e
theorem nm_facts {B : Nat → Nat} {N i : Nat} (hi : i ≤ N) : i ≤ nmJ B N i ∧ nmJ B N i ≤ nmE B N i ∧ nmE B N i ≤ N := by
  obtain ⟨h1, h2, _⟩ := rn_facts (bkp B) hi
  obtain ⟨h3, h4, _⟩ := rn_facts (dgp B) h2
  exact ⟨h1, h3, h4⟩
theorem nm_val {B : Nat → Nat} {N i : Nat} (hi : i ≤ N) (h1 : 1 ≤ nmE B N i - nmJ B N i) (h2 : nmE B N i - nmJ B N i ≤ 2) : av B (nmJ B N i) (nmE B N i - nmJ B N i) = nI (nmV B N i) ∧ nmV B N i < 100 := by
  obtain ⟨f1, f2, _⟩ := rn_facts (bkp B) hi
  obtain ⟨_, _, f3, _⟩ := rn_facts (dgp B) f2
  have g1 : 48 ≤ B (nmJ B N i) ∧ B (nmJ B N i) ≤ 57 := of_decide_eq_true (f3 (nmJ B N i) (Nat.le_refl _) (by show nmJ B N i < nmE B N i; omega))
  unfold nmV
  rcases (show nmE B N i - nmJ B N i = 1 ∨ nmE B N i - nmJ B N i = 2 by omega) with q | q
  · rw [q, if_pos rfl, av_1 g1]; exact ⟨rfl, by omega⟩
  · have g2 : 48 ≤ B (nmJ B N i + 1) ∧ B (nmJ B N i + 1) ≤ 57 := of_decide_eq_true (f3 (nmJ B N i + 1) (Nat.le_add_right _ _) (by show nmJ B N i + 1 < nmE B N i; omega))
    rw [q, if_neg (by decide), av_2 g1 g2]; exact ⟨rfl, by omega⟩
theorem c_number {bytes tape : Nat → Int32} {B : Nat → Nat} {N i : Nat} {lo hi : Int32} (h : TB bytes tape B N) (hi' : i ≤ N) : f_X5_parseNumber bytes (nI i) (nI N) lo hi = some (if nmOK B N i lo hi = true then (nI (nmV B N i), nI (nmE B N i)) else (-1, nI (nmJ B N i))) := by
  have hN := h.1
  obtain ⟨f1, f2, f3⟩ := nm_facts (B := B) hi'
  unfold f_X5_parseNumber
  rw [c_skip h hi', bnd_s]
  unfold f_X5_parseNumber_J18
  have e := lp_rj (f := fun q => f_X5_parseNumber_S18 bytes (nI N) lo hi (nI (nmJ B N i)) q.1 q.2.1 q.2.2) (dgp B) (fun k => (av B (nmJ B N i) (k - nmJ B N i), nI k, nI k)) (fun k => (av B (nmJ B N i) (k - nmJ B N i), nI k)) N (nmJ B N i) (fun k hj hk hp => ?_) (fun k hj hk hp => ?_) (by omega)
  · rw [Nat.sub_self] at e
    change lp (fun q => f_X5_parseNumber_S18 bytes (nI N) lo hi (nI (nmJ B N i)) q.1 q.2.1 q.2.2) (0, nI (nmJ B N i), nI (nmJ B N i)) = some (av B (nmJ B N i) (nmE B N i - nmJ B N i), nI (nmE B N i)) at e
    change bnd (lp (fun q => f_X5_parseNumber_S18 bytes (nI N) lo hi (nI (nmJ B N i)) q.1 q.2.1 q.2.2) (0, nI (nmJ B N i), nI (nmJ B N i))) _ = _
    rw [e, bnd_s]
    show f_X5_parseNumber_J76 bytes (nI N) lo hi (av B (nmJ B N i) (nmE B N i - nmJ B N i)) (nI (nmE B N i)) (nI (nmJ B N i)) = _
    unfold f_X5_parseNumber_J76
    rw [pk_sub f2, nm_s]
    by_cases q1 : 1 ≤ nmE B N i - nmJ B N i
    · rw [if_neg (show ¬ nI (nmE B N i - nmJ B N i) < (1 : Int32) from nI_nlt (b := 1) q1 (by omega))]
      by_cases q2 : nmE B N i - nmJ B N i ≤ 2
      · rw [if_neg (show ¬ (2 : Int32) < nI (nmE B N i - nmJ B N i) from nI_nlt (a := 2) q2 (by decide))]
        obtain ⟨v1, v2⟩ := nm_val hi' q1 q2
        rw [v1]
        by_cases q3 : lo.toInt ≤ nmV B N i
        · rw [if_neg (by rw [lt_i, nI_toInt (by omega)]; omega)]
          by_cases q4 : (nmV B N i : Int) ≤ hi.toInt
          · rw [if_pos (by rw [le_i, nI_toInt (by omega)]; omega), if_pos (show nmOK B N i lo hi = true from decide_eq_true ⟨q1, q2, q3, q4⟩)]
          · rw [if_neg (by rw [le_i, nI_toInt (by omega)]; omega), if_neg (show ¬ nmOK B N i lo hi = true from fun z => q4 (of_decide_eq_true z).2.2.2)]
        · rw [if_pos (by rw [lt_i, nI_toInt (by omega)]; omega), if_neg (show ¬ nmOK B N i lo hi = true from fun z => q3 (of_decide_eq_true z).2.2.1)]
      · rw [if_pos (show (2 : Int32) < nI (nmE B N i - nmJ B N i) from nI_lt (a := 2) (by omega) (by omega)), if_neg (show ¬ nmOK B N i lo hi = true from fun z => q2 (of_decide_eq_true z).2.1)]
    · rw [if_pos (show nI (nmE B N i - nmJ B N i) < (1 : Int32) from nI_lt (b := 1) (by omega) (by decide)), if_neg (show ¬ nmOK B N i lo hi = true from fun z => q1 (of_decide_eq_true z).1)]
  · show f_X5_parseNumber_S18 bytes (nI N) lo hi (nI (nmJ B N i)) (av B (nmJ B N i) (k - nmJ B N i)) (nI k) (nI k) = some (.inl (av B (nmJ B N i) (k + 1 - nmJ B N i), nI (k + 1), nI (k + 1)))
    have hp' := of_decide_eq_true hp
    unfold f_X5_parseNumber_S18
    rw [if_neg (nI_ge hk (by omega)), chk_n (by omega) (by decide), nI_clamp (by omega), (h.2 k hk).2.1, if_neg (show ¬ nI (B k) < (48 : Int32) from nI_nlt (b := 48) (by omega) (by omega)), chk_n (by omega) (by decide), if_neg (show ¬ (57 : Int32) < nI (B k) from nI_nlt (a := 57) (by omega) (by omega)), chk_n (by omega) (by decide), nm_s, nm_s, nm_s, nI_1, show k + 1 - nmJ B N i = (k - nmJ B N i) + 1 by omega]
    show _ = some (Sum.inl (av B (nmJ B N i) (k - nmJ B N i) * 10 + nI (B (nmJ B N i + (k - nmJ B N i))) - 48, nI (k + 1), nI (k + 1)))
    rw [show nmJ B N i + (k - nmJ B N i) = k by omega]
  · show f_X5_parseNumber_S18 bytes (nI N) lo hi (nI (nmJ B N i)) (av B (nmJ B N i) (k - nmJ B N i)) (nI k) (nI k) = some (.inr (av B (nmJ B N i) (k - nmJ B N i), nI k))
    unfold f_X5_parseNumber_S18
    by_cases q : k < N
    · obtain ⟨hb, e1, _⟩ := h.2 k q
      have hp' : dgp B k = false := hp.elim id (fun z => absurd z (by omega))
      have hn := of_decide_eq_false hp'
      rw [if_neg (nI_ge q (by omega)), chk_n (by omega) (by decide), nI_clamp (by omega), e1]
      by_cases z : B k < 48
      · rw [if_pos (show nI (B k) < (48 : Int32) from nI_lt (b := 48) z (by decide))]
      · rw [if_neg (show ¬ nI (B k) < (48 : Int32) from nI_nlt (b := 48) (by omega) (by omega)), chk_n (by omega) (by decide), if_pos (show (57 : Int32) < nI (B k) from nI_lt (a := 57) (by omega) (by omega))]
    · rw [if_pos (nI_le (by omega) (by omega))]
theorem m_number {bytes tape : Nat → Int32} {B : Nat → Nat} {N i : Nat} {lo hi beg : Int32} (h : TB bytes tape B N) (hi' : i ≤ N) : f_X8_number tape (nI i) (nI N) beg lo hi = some (if nmOK B N i lo hi = true then nI (nmV B N i) else -1, nI (nmE B N i), nI (nmJ B N i)) := by
  have hN := h.1
  obtain ⟨f1, f2, f3⟩ := nm_facts (B := B) hi'
  unfold f_X8_number
  rw [m_skip h hi', bnd_s]
  unfold f_X8_number_J6
  have e := lp_rj (f := fun q => f_X8_number_S6 tape (nI N) lo hi (nI (nmJ B N i)) q.1 q.2) (dgp B) (fun k => (av B (nmJ B N i) (min (k - nmJ B N i) 2), nI k)) (fun k => (av B (nmJ B N i) (min (k - nmJ B N i) 2), nI k)) N (nmJ B N i) (fun k hj hk hp => ?_) (fun k hj hk hp => ?_) (by omega)
  · rw [Nat.sub_self] at e
    change lp (fun q => f_X8_number_S6 tape (nI N) lo hi (nI (nmJ B N i)) q.1 q.2) (0, nI (nmJ B N i)) = some (av B (nmJ B N i) (min (nmE B N i - nmJ B N i) 2), nI (nmE B N i)) at e
    change bnd (lp (fun q => f_X8_number_S6 tape (nI N) lo hi (nI (nmJ B N i)) q.1 q.2) (0, nI (nmJ B N i))) _ = _
    rw [e, bnd_s]
    show f_X8_number_J65 tape (nI N) lo hi (av B (nmJ B N i) (min (nmE B N i - nmJ B N i) 2)) (nI (nmE B N i)) (nI (nmJ B N i)) = _
    unfold f_X8_number_J65
    rw [pk_sub f2]
    by_cases q1 : 1 ≤ nmE B N i - nmJ B N i
    · rw [if_neg (mt (nI_eq (by omega) (by omega)).mp (by omega))]
      by_cases q2 : nmE B N i - nmJ B N i ≤ 2
      · rw [if_neg (show ¬ (2 : Int32) < nI (nmE B N i - nmJ B N i) from nI_nlt (a := 2) q2 (by decide)), Nat.min_eq_left q2]
        obtain ⟨v1, v2⟩ := nm_val hi' q1 q2
        rw [v1]
        by_cases q3 : lo.toInt ≤ nmV B N i
        · rw [if_neg (by rw [lt_i, nI_toInt (by omega)]; omega)]
          by_cases q4 : (nmV B N i : Int) ≤ hi.toInt
          · rw [if_pos (by rw [le_i, nI_toInt (by omega)]; omega), if_pos (show nmOK B N i lo hi = true from decide_eq_true ⟨q1, q2, q3, q4⟩)]
          · rw [if_neg (by rw [le_i, nI_toInt (by omega)]; omega), if_neg (show ¬ nmOK B N i lo hi = true from fun z => q4 (of_decide_eq_true z).2.2.2)]
        · rw [if_pos (by rw [lt_i, nI_toInt (by omega)]; omega), if_neg (show ¬ nmOK B N i lo hi = true from fun z => q3 (of_decide_eq_true z).2.2.1)]
      · rw [if_pos (show (2 : Int32) < nI (nmE B N i - nmJ B N i) from nI_lt (a := 2) (by omega) (by omega)), if_neg (show ¬ nmOK B N i lo hi = true from fun z => q2 (of_decide_eq_true z).2.1)]
    · rw [if_pos (by rw [show nmE B N i = nmJ B N i by omega]), if_neg (show ¬ nmOK B N i lo hi = true from fun z => q1 (of_decide_eq_true z).1)]
  · show f_X8_number_S6 tape (nI N) lo hi (nI (nmJ B N i)) (av B (nmJ B N i) (min (k - nmJ B N i) 2)) (nI k) = some (.inl (av B (nmJ B N i) (min (k + 1 - nmJ B N i) 2), nI (k + 1)))
    have hp' := of_decide_eq_true hp
    obtain ⟨hb, _, ht⟩ := h.2 k hk
    have ts := sb_tab (B k) hb
    rw [if_pos (by omega)] at ts
    have ht' : tape k = nI (B k) := by rw [ht, eq_i, ts, nI_toInt (by omega)]
    unfold f_X8_number_S6 f_X8_number_J51
    rw [show (48 : Int32) = nI 48 from rfl, show (57 : Int32) = nI 57 from rfl, m_isAt h (by omega) (by decide) (by decide), bnd_s, decide_eq_true hk, decide_eq_true hp', if_neg (by decide), pk_sub hj]
    by_cases q : 2 ≤ k - nmJ B N i
    · rw [if_pos (show (2 : Int32) ≤ nI (k - nmJ B N i) from nI_le (a := 2) q (by omega)), nm_s, nI_1, Nat.min_eq_right q, Nat.min_eq_right (by omega)]
    · rw [if_neg (show ¬ (2 : Int32) ≤ nI (k - nmJ B N i) from nI_ge (b := 2) (by omega) (by decide)), chk_n (by omega) (by decide), nm_s, nI_1, nI_clamp (by omega), ht', Nat.min_eq_left (by omega), Nat.min_eq_left (by omega), show k + 1 - nmJ B N i = (k - nmJ B N i) + 1 by omega]
      show _ = some (Sum.inl (av B (nmJ B N i) (k - nmJ B N i) * 10 + nI (B (nmJ B N i + (k - nmJ B N i))) - 48, nI (k + 1)))
      rw [show nmJ B N i + (k - nmJ B N i) = k by omega, Int32.mul_comm]
      rfl
  · show f_X8_number_S6 tape (nI N) lo hi (nI (nmJ B N i)) (av B (nmJ B N i) (min (k - nmJ B N i) 2)) (nI k) = some (.inr (av B (nmJ B N i) (min (k - nmJ B N i) 2), nI k))
    unfold f_X8_number_S6
    rw [show (48 : Int32) = nI 48 from rfl, show (57 : Int32) = nI 57 from rfl, m_isAt h (by omega) (by decide) (by decide), bnd_s]
    rcases hp with q | q
    · rw [decide_eq_false (of_decide_eq_false q), Bool.and_false, if_pos (show b2 false = 0 from rfl)]
    · rw [decide_eq_false (show ¬ k < N by omega), Bool.false_and, if_pos (show b2 false = 0 from rfl)]
