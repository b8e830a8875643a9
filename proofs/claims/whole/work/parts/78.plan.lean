/-! ===== order: the class's plan, its stops ===== -/
theorem TD.fr {c : Nat → Nat → Nat} {n m : Nat} {left left' : Nat → Int32} (h : TD c n left m) (e : ∀ k, 8 * m ≤ k → left' k = left k) : TD c n left' m := fun m' h1 h2 a ha => by rw [e _ (by omega)]; exact h m' h1 h2 a ha
theorem pk_k {c : Nat → Nat → Nat} {n m a b k : Nat} (h : pk c n (UM m) a = some (b, k)) : ∃ f, k = f + 1 ∧ f + 1 < n ∧ m / 2 ^ f % 2 = 0 ∧ b = c a (f + 1) + LL c n (sb (UM m) (f + 1)) (f + 1) := by
  obtain ⟨h1, h2, h3, _⟩ := (pick_some n).1 b k h
  cases k with
  | zero => rw [UM_0] at h2; cases h2
  | succ f => exact ⟨f, rfl, h1, UM_f.mp h2, h3⟩
theorem c_planRow {left costs rows : Nat → Int32} {c : Nat → Nat → Nat} {n m : Nat} {fr : Int32} (hc : ∀ i j, c i j ≤ 12) (hco : ∀ i j, i < n → j < n → costs (8 * i + j) = nI (c i j)) (hn : n ≤ 8) (hm : m < 2 ^ (n - 1)) (hT : TD c n left (m + 1)) : OK (lp (fun q => f_X6_plan_S88 fr rows costs (nI n) (nI m) q.1 q.2) ((0 : Int32), left)) (fun r => TD c n r m ∧ (n = 0 → r (8 * m) = 0)) := by
  have hp := pw_le hn
  refine OK.mono (P := fun r => (∀ k, 8 * (m + 1) ≤ k → r k = left k) ∧ (∀ a, a < 8 → a < n → r (8 * m + a) = nI (LL c n (UM m) a)) ∧ ∀ a, a < 8 → n = 0 → r (8 * m + a) = 0) ?_ (fun r h => ?_)
  · refine ok_lp (fun t s => s.1 = nI t ∧ (∀ k, 8 * (m + 1) ≤ k → s.2 k = left k) ∧ (∀ a, a < t → a < n → s.2 (8 * m + a) = nI (LL c n (UM m) a)) ∧ ∀ a, a < t → n = 0 → s.2 (8 * m + a) = 0) 8 (fun t s ht hJ => Or.inl ?_) (fun s hJ => ?_) ⟨rfl, fun _ _ => rfl, fun a ha => absurd ha (Nat.not_lt_zero a), fun a ha => absurd ha (Nat.not_lt_zero a)⟩
    · obtain ⟨q1, q2, q3, q4⟩ := hJ
      have hT' : TD c n s.2 (m + 1) := hT.fr q2
      have fin : ∀ v, (t < n → v = nI (LL c n (UM m) t)) → (n = 0 → v = 0) → ∃ s', f_X6_plan_J134 fr rows costs (nI n) (nI m) (nI t) (nI m * 8 + nI t) v s.2 = some (.inl s') ∧ s'.1 = nI (t + 1) ∧ (∀ k, 8 * (m + 1) ≤ k → s'.2 k = left k) ∧ (∀ a, a < t + 1 → a < n → s'.2 (8 * m + a) = nI (LL c n (UM m) a)) ∧ ∀ a, a < t + 1 → n = 0 → s'.2 (8 * m + a) = 0 := by
        intro v hv hv0
        unfold f_X6_plan_J134
        rw [show nI m * (8 : Int32) + nI t = nI (8 * m + t) by rw [show (8 : Int32) = nI 8 from rfl, pk_mul, nI_add, Nat.mul_comm], chk_n (by omega) (by decide), nm_s, nm_s, nI_clamp (by omega), nI_1]
        refine ⟨_, rfl, rfl, fun k hk => ?_, fun a ha han => ?_, fun a ha h0 => ?_⟩
        · dsimp only; rw [upd_ne (by omega)]; exact q2 k hk
        · dsimp only
          by_cases e : a = t
          · rw [e, upd_same]; exact hv (by omega)
          · rw [upd_ne (by omega)]; exact q3 a (by omega) han
        · dsimp only
          by_cases e : a = t
          · rw [e, upd_same]; exact hv0 h0
          · rw [upd_ne (by omega)]; exact q4 a (by omega) h0
      unfold f_X6_plan_S88
      rw [q1, if_neg (show ¬ (8 : Int32) ≤ nI t from nI_ge (b := 8) ht (by decide))]
      by_cases htn : t < n
      · rw [c_next hc hco hn hm htn hT', bnd_s]
        have le := LL_eq (c := c) (U := UM m) (a := t) hn
        cases e : pk c n (UM m) t with
        | none =>
          rw [e] at le
          dsimp only
          rw [if_pos rfl]
          exact fin 0 (fun _ => by rw [le]; rfl) (fun _ => rfl)
        | some p =>
          obtain ⟨b, k⟩ := p
          rw [e] at le
          obtain ⟨f, rfl, hf, hz, hb⟩ := pk_k e
          have hlt := mb_lt (n - 1) (by omega) m hm f (by omega) hz
          have hpos : 0 < 2 ^ f := Nat.two_pow_pos f
          dsimp only
          rw [if_neg (nI_m1 (by omega)), c_through (by omega) (by omega) (by omega) hz, bnd_s, hco t (f + 1) htn hf, hT' (m + 2 ^ f) (by omega) hlt (f + 1) hf, LL_cong (fun i hi => UM_sb (by omega) (by omega) hz i (by omega)), nI_add, ← hb]
          exact fin (nI b) (fun _ => by rw [le]) (fun h0 => absurd htn (by omega))
      · obtain ⟨r, er, hr⟩ := c_nextT (left := s.2) (costs := costs) hn hm ht
        rw [er, bnd_s]
        rcases hr with rfl | ⟨f, hf, hz, rfl⟩
        · rw [if_pos rfl]
          exact fin 0 (fun z => absurd z htn) (fun _ => rfl)
        · have hlt := mb_lt (n - 1) (by omega) m hm f (by omega) hz
          rw [if_neg (nI_m1 (by omega)), c_through (by omega) (by omega) (by omega) hz, bnd_s]
          exact fin _ (fun z => absurd z htn) (fun h0 => absurd hf (by omega))
    · obtain ⟨q1, q2, q3, q4⟩ := hJ
      unfold f_X6_plan_S88
      rw [q1, if_pos (show (8 : Int32) ≤ nI 8 by decide)]
      exact ⟨_, rfl, q2, q3, q4⟩
  · obtain ⟨h1, h2, h3⟩ := h
    refine ⟨fun m' g1 g2 a ha => ?_, fun h0 => h3 0 (by decide) h0⟩
    by_cases e : m' = m
    · rw [e]; exact h2 a (by omega) ha
    · rw [h1 _ (by omega)]; exact hT m' (by omega) g2 a ha
theorem c_planLoop {left costs rows : Nat → Int32} {c : Nat → Nat → Nat} {n : Nat} {fr : Int32} (hc : ∀ i j, c i j ≤ 12) (hco : ∀ i j, i < n → j < n → costs (8 * i + j) = nI (c i j)) (hn : n ≤ 8) : OK (lp (fun q => f_X6_plan_S81 fr rows costs (nI n) q.1 q.2) (nI (2 ^ (n - 1) - 1), left)) (fun r => TD c n r 0 ∧ (n = 0 → r 0 = 0)) := by
  have hp := pw_le hn
  have hpos : 0 < 2 ^ (n - 1) := Nat.two_pow_pos _
  generalize hP : 2 ^ (n - 1) = P at hp hpos
  refine ok_lp (fun t s => s.1 = nI (P - t) - 1 ∧ TD c n s.2 (P - t) ∧ (t = P → n = 0 → s.2 0 = 0)) P (fun t s ht hJ => Or.inl ?_) (fun s hJ => ?_) ⟨?_, ?_, ?_⟩
  · obtain ⟨q1, q2, q3⟩ := hJ
    have e1 : nI (P - t) - 1 = nI (P - t - 1) := pk_sub (b := 1) (by omega)
    obtain ⟨r, er, hr, hr0⟩ := c_planRow (left := s.2) (costs := costs) (rows := rows) (m := P - t - 1) (fr := fr) hc hco hn (by omega) (by rw [show P - t - 1 + 1 = P - t by omega]; exact q2)
    unfold f_X6_plan_S81 f_X6_plan_J88 f_X6_plan_J141
    rw [q1, e1, if_neg (show ¬ nI (P - t - 1) < 0 from nI_nlt (b := 0) (Nat.zero_le _) (by omega)), er, bnd_s, nm_s]
    refine ⟨_, rfl, ?_, ?_, fun h1 h2 => ?_⟩
    · show nI (P - t - 1) + -1 = nI (P - (t + 1)) - 1
      rw [Int32.sub_eq_add_neg, show P - t - 1 = P - (t + 1) by omega]
    · rw [show P - (t + 1) = P - t - 1 by omega]; exact hr
    · have := hr0 h2
      rw [show 8 * (P - t - 1) = 0 by omega] at this
      exact this
  · obtain ⟨q1, q2, q3⟩ := hJ
    rw [Nat.sub_self] at q1 q2
    unfold f_X6_plan_S81
    rw [q1, if_pos (by decide)]
    exact ⟨_, rfl, q2, q3 rfl⟩
  · show nI (P - 1) = nI (P - 0) - 1
    exact (pk_sub (b := 1) (by omega)).symm
  · intro m' h1 h2
    rw [hP] at h2
    omega
  · intro h; omega
theorem top_tab : ∀ n, n < 9 → 0 < n → ((1 : Int32) <<< ((nI n - (1 : Int32)) &&& 31)) - (1 : Int32) = nI (2 ^ (n - 1) - 1) := by decide +kernel
theorem c_plan {left costs rows : Nat → Int32} {ns nl n : Nat} {tf : Int32} (hn : n ≤ 8) (hF : ∀ f, f < n → Set4 ns nl (fun l => rows (4 * f + l))) : ∃ left' costs', f_X6_plan (nI n) rows left costs tf = some (left', costs', nI n) ∧ TD (cst rows) n left' 0 ∧ (n = 0 → left' 0 = 0) ∧ ∀ i j, i < n → j < n → costs' (8 * i + j) = nI (cst rows i j) := by
  obtain ⟨costs', e1, hco⟩ := c_costs (rows := rows) (costs := costs) (left := left) (fr := nI n) hn hF
  obtain ⟨left', e2, hT, h0⟩ := c_planLoop (left := left) (costs := costs') (rows := rows) (fr := nI n) (cst_le rows) hco hn
  unfold f_X6_plan f_X6_plan_J10 f_X6_plan_J57 f_X6_plan_J78 f_X6_plan_J81 f_X6_plan_J147
  rw [e1, bnd_s]
  by_cases z : n = 0
  · subst z
    rw [if_pos (show nI 0 = 0 from rfl), show lp (fun q => f_X6_plan_S81 (nI 0) rows costs' (nI 0) q.1 q.2) ((0 : Int32), left) = some left' from e2, bnd_s]
    exact ⟨_, _, rfl, hT, h0, hco⟩
  · rw [if_neg (show ¬ nI n = 0 from mt (nI_eq (b := 0) (by omega) (by decide)).mp z), top_tab n (by omega) (by omega), e2, bnd_s]
    exact ⟨_, _, rfl, hT, h0, hco⟩
