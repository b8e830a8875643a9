/-! ===== order: the stops in turn ===== -/
theorem pk_cong {c : Nat → Nat → Nat} {n a : Nat} {U U' : Nat → Bool} (h : ∀ i, i < n → U i = U' i) : pk c n U a = pk c n U' a := by
  unfold pk
  exact pick_cong n h (fun k hk _ => by rw [LL_cong (sb_cong h)])
theorem cnf_cong {U U' : Nat → Bool} : ∀ n, (∀ i, i < n → U i = U' i) → cnf U n = cnf U' n := by
  intro n
  induction n with
  | zero => intro _; rfl
  | succ n ih =>
    intro h
    show cnf U n + (if U n = true then 0 else 1) = cnf U' n + (if U' n = true then 0 else 1)
    rw [ih (fun i hi => h i (by omega)), h n (by omega)]
theorem cnf_all {U : Nat → Bool} : ∀ n, (∀ i, i < n → U i = true) → cnf U n = 0 := by
  intro n
  induction n with
  | zero => intro _; rfl
  | succ n ih =>
    intro h
    show cnf U n + (if U n = true then 0 else 1) = 0
    rw [ih (fun i hi => h i (by omega)), h n (by omega), if_pos rfl]
/-- one stop on -/
def gs (c : Nat → Nat → Nat) (n : Nat) (s : (Nat → Bool) × Nat) : (Nat → Bool) × Nat := match pk c n s.1 s.2 with
  | none => s
  | some (_, k) => (sb s.1 k, k)
def git (c : Nat → Nat → Nat) (n : Nat) : Nat → (Nat → Bool) × Nat → (Nat → Bool) × Nat
  | 0, s => s
  | j + 1, s => gs c n (git c n j s)
theorem git_in (c : Nat → Nat → Nat) (n : Nat) : ∀ j (s : (Nat → Bool) × Nat), git c n (j + 1) s = git c n j (gs c n s) := by
  intro j
  induction j with
  | zero => intro s; rfl
  | succ j ih => intro s; show gs c n (git c n (j + 1) s) = gs c n (git c n j (gs c n s)); rw [ih]
theorem pk_free {c : Nat → Nat → Nat} {n a : Nat} {U : Nat → Bool} (h : 0 < cnf U n) : ∃ b k, pk c n U a = some (b, k) ∧ k < n ∧ U k = false := by
  cases e : pk c n U a with
  | none => rw [cnf_all n ((pick_some n).2 e)] at h; exact absurd h (Nat.lt_irrefl _)
  | some p =>
    obtain ⟨b, k⟩ := p
    obtain ⟨h1, h2, _⟩ := (pick_some n).1 b k e
    exact ⟨b, k, rfl, h1, h2⟩
def U0 : Nat → Bool := fun f => decide (f = 0)
theorem cnf_U0 : ∀ n, cnf U0 (n + 1) = n := by
  intro n
  induction n with
  | zero => rfl
  | succ n ih =>
    show cnf U0 (n + 1) + (if U0 (n + 1) = true then 0 else 1) = n + 1
    rw [ih, if_neg (show ¬ U0 (n + 1) = true by unfold U0; rw [decide_eq_false (Nat.succ_ne_zero n)]; decide)]
theorem c_stop {left costs : Nat → Int32} {c : Nat → Nat → Nat} {n k : Nat} (hc : ∀ i j, c i j ≤ 12) (hco : ∀ i j, i < n → j < n → costs (8 * i + j) = nI (c i j)) (hn : n ≤ 8) (hk : k < n) (hT : TD c n left 0) : f_X6_stop left costs (nI n) (nI k) = some (nI (git c n k (U0, 0)).2) := by
  have hp := pw_le hn
  have H : OK (lp (fun q => f_X6_stop_S7 left costs (nI n) (nI k) q.1 q.2.1 q.2.2) ((0 : Int32), (0 : Int32), (0 : Int32))) (fun r => r = nI (git c n k (U0, 0)).2) := by
    refine ok_lp (fun t s => ∃ m, s.1 = nI m ∧ m < 2 ^ (n - 1) ∧ (∀ i, i < n → UM m i = (git c n t (U0, 0)).1 i) ∧ s.2.1 = nI (git c n t (U0, 0)).2 ∧ (git c n t (U0, 0)).2 < n ∧ s.2.2 = nI t ∧ cnf (git c n t (U0, 0)).1 n + t + 1 = n) k (fun t s ht hJ => Or.inl ?_) (fun s hJ => ?_) ?_
    · obtain ⟨m, q1, q2, q3, q4, q5, q6, q7⟩ := hJ
      obtain ⟨b, k', e, hk', hu⟩ := pk_free (c := c) (a := (git c n t (U0, 0)).2) (show 0 < cnf (git c n t (U0, 0)).1 n by omega)
      have e' : pk c n (UM m) (git c n t (U0, 0)).2 = some (b, k') := (pk_cong q3).trans e
      obtain ⟨f, rfl, hf, hz, _⟩ := pk_k e'
      have hlt := mb_lt (n - 1) (by omega) m q2 f (by omega) hz
      have eg : git c n (t + 1) (U0, 0) = (sb (git c n t (U0, 0)).1 (f + 1), f + 1) := by
        show gs c n (git c n t (U0, 0)) = _
        unfold gs
        rw [e]
      unfold f_X6_stop_S7 f_X6_stop_J38
      rw [q1, q4, q6, if_neg (nI_ge ht (by omega)), if_neg (nI_m1 (by omega)), c_next hc hco hn q2 q5 (fun m' h1 h2 => hT m' (Nat.zero_le _) h2), bnd_s, e']
      dsimp only
      rw [if_neg (nI_m1 (by omega)), nm_s, (mb_tab m (by omega) f (by omega)).2 hz, nm_s, nI_1]
      refine ⟨_, rfl, m + 2 ^ f, rfl, hlt, fun i hi => ?_, by rw [eg], by rw [eg]; exact hf, rfl, ?_⟩
      · rw [eg, UM_sb (by omega) (by omega) hz i (by omega)]
        exact sb_cong q3 i hi
      · rw [eg]
        have := cnf_sb hu n
        rw [if_pos hf] at this
        show cnf (sb (git c n t (U0, 0)).1 (f + 1)) n + (t + 1) + 1 = n
        omega
    · obtain ⟨m, q1, q2, q3, q4, q5, q6, q7⟩ := hJ
      unfold f_X6_stop_S7
      rw [q6, if_pos (Int32.le_refl _)]
      exact ⟨_, rfl, q4⟩
    · refine ⟨0, rfl, Nat.two_pow_pos _, fun i hi => ?_, rfl, by show 0 < n; omega, rfl, ?_⟩
      · show (decide (i = 0) || decide (0 / 2 ^ (i - 1) % 2 = 1)) = decide (i = 0)
        rw [Nat.zero_div, decide_eq_false (show ¬ 0 % 2 = 1 by decide), Bool.or_false]
      · show cnf U0 n + 0 + 1 = n
        obtain ⟨n', rfl⟩ : ∃ n', n = n' + 1 := ⟨n - 1, by omega⟩
        rw [cnf_U0]
  obtain ⟨r, er, hr⟩ := H
  unfold f_X6_stop f_X6_stop_J7 f_X6_stop_J44
  rw [er, bnd_s, hr]
