/-! ===== order: the costs ===== -/
noncomputable def mvn (f g : Nat → Int32) : Nat → Nat
  | 0 => 0
  | n + 1 => mvn f g n + (if sof f (nI n) = sof g (nI n) then 0 else 2)
theorem mvs_nat (f g : Nat → Int32) : ∀ n, mvs f g n = nI (mvn f g n) := by
  intro n
  induction n with
  | zero => rfl
  | succ n ih =>
    show mvs f g n + _ = nI (mvn f g n + _)
    rw [ih]
    split
    · exact nI_add _ 0
    · exact nI_add _ 2
theorem mvn_le (f g : Nat → Int32) : ∀ n, mvn f g n ≤ 2 * n := by
  intro n
  induction n with
  | zero => exact Nat.le_refl _
  | succ n ih =>
    show mvn f g n + _ ≤ _
    split <;> omega
noncomputable def cst (rows : Nat → Int32) (a b : Nat) : Nat := mvn (fun l => rows (4 * a + l)) (fun l => rows (4 * b + l)) 6
theorem cst_le (rows : Nat → Int32) (a b : Nat) : cst rows a b ≤ 12 := mvn_le _ _ 6
theorem c_costs1 {rows costs left : Nat → Int32} {ns nl n i : Nat} {fr : Int32} (hn : n ≤ 8) (hi : i < n) (hF : ∀ f, f < n → Set4 ns nl (fun l => rows (4 * f + l))) : OK (lp (fun q => f_X6_plan_S20 fr rows left (nI n) (nI i) q.1 q.2) ((0 : Int32), costs)) (fun r => (∀ j, j < n → r (8 * i + j) = nI (cst rows i j)) ∧ ∀ k, k < 8 * i → r k = costs k) := by
  refine ok_lp (fun m s => s.1 = nI m ∧ (∀ j, j < m → s.2 (8 * i + j) = nI (cst rows i j)) ∧ ∀ k, k < 8 * i → s.2 k = costs k) n (fun m s hm hJ => Or.inl ?_) (fun s hJ => ?_) ⟨rfl, fun j hj => absurd hj (Nat.not_lt_zero j), fun _ _ => rfl⟩
  · obtain ⟨q1, q2, q3⟩ := hJ
    unfold f_X6_plan_S20
    rw [q1, if_neg (nI_ge hm (by omega)), c_frameMoves (by omega) (by omega) (hF i hi) (hF m hm), bnd_s, mvs_nat, show nI i * (8 : Int32) + nI m = nI (8 * i + m) by rw [show (8 : Int32) = nI 8 from rfl, pk_mul, nI_add, Nat.mul_comm], chk_n (by omega) (by decide), nm_s, nm_s, nI_clamp (by omega), nI_1]
    refine ⟨_, rfl, rfl, fun j hj => ?_, fun k hk => ?_⟩
    · dsimp only
      by_cases e : j = m
      · rw [e, upd_same]; rfl
      · rw [upd_ne (by omega)]; exact q2 j (by omega)
    · dsimp only
      rw [upd_ne (by omega)]; exact q3 k hk
  · obtain ⟨q1, q2, q3⟩ := hJ
    unfold f_X6_plan_S20
    rw [q1, if_pos (Int32.le_refl _)]
    exact ⟨_, rfl, q2, q3⟩
theorem c_costs {rows costs left : Nat → Int32} {ns nl n : Nat} {fr : Int32} (hn : n ≤ 8) (hF : ∀ f, f < n → Set4 ns nl (fun l => rows (4 * f + l))) : OK (lp (fun q => f_X6_plan_S10 fr rows left (nI n) q.1 q.2) ((0 : Int32), costs)) (fun r => ∀ i j, i < n → j < n → r (8 * i + j) = nI (cst rows i j)) := by
  refine ok_lp (fun m s => s.1 = nI m ∧ ∀ i j, i < m → j < n → s.2 (8 * i + j) = nI (cst rows i j)) n (fun m s hm hJ => Or.inl ?_) (fun s hJ => ?_) ⟨rfl, fun i j hi => absurd hi (Nat.not_lt_zero i)⟩
  · obtain ⟨q1, q2⟩ := hJ
    obtain ⟨r, er, h1, h2⟩ := c_costs1 (costs := s.2) (left := left) (fr := fr) hn hm hF
    unfold f_X6_plan_S10 f_X6_plan_J20 f_X6_plan_J51
    rw [q1, if_neg (nI_ge hm (by omega)), er, bnd_s, nm_s, nI_1]
    refine ⟨_, rfl, rfl, fun i j hi hj => ?_⟩
    dsimp only
    by_cases e : i = m
    · rw [e]; exact h1 j hj
    · rw [h2 _ (by omega)]; exact q2 i j (by omega) hj
  · obtain ⟨q1, q2⟩ := hJ
    unfold f_X6_plan_S10
    rw [q1, if_pos (Int32.le_refl _)]
    exact ⟨_, rfl, q2⟩
theorem m_costs1 {w st pl ap' od sm bo rows : Nat → Int32} {ns nl nf n i : Nat} (h0 : w 0 = nI ns) (h6 : ns ≤ 6) (h1 : w 1 = nI nl) (h4 : nl ≤ 4) (hF : FrO ns nl nf rows w) (h12 : nf ≤ 12) (hnf : nf = n) (hn : n ≤ 8) (hi : i < n) : OK (lp (fun q => f_X8_orders_S16 w (nI n) od sm bo (nI i) q.1 q.2.1 q.2.2.1 q.2.2.2) ((0 : Int32), st, pl, ap')) (fun r => (∀ j, j < n → r.2.2 (8 * i + j) = nI (cst rows i j)) ∧ ∀ k, k < 8 * i → r.2.2 k = ap' k) := by
  refine ok_lp (fun m s => s.1 = nI m ∧ (∀ j, j < m → s.2.2.2 (8 * i + j) = nI (cst rows i j)) ∧ ∀ k, k < 8 * i → s.2.2.2 k = ap' k) n (fun m s hm hJ => Or.inl ?_) (fun s hJ => ?_) ⟨rfl, fun j hj => absurd hj (Nat.not_lt_zero j), fun _ _ => rfl⟩
  · obtain ⟨q1, q2, q3⟩ := hJ
    obtain ⟨u, eu, hu⟩ := m_movesOf (st := s.2.1) (pl := s.2.2.1) (a := i) (b := m) h0 h6 h1 h4 hF h12 (by omega) (by omega)
    unfold f_X8_orders_S16
    rw [q1, if_neg (nI_ge hm (by omega)), eu, bnd_s, hu, mvs_nat, show (8 : Int32) * nI i + nI m = nI (8 * i + m) by rw [show (8 : Int32) = nI 8 from rfl, pk_mul, nI_add], chk_n (by omega) (by decide), nm_s, nm_s, nI_clamp (by omega), nI_1]
    refine ⟨_, rfl, rfl, fun j hj => ?_, fun k hk => ?_⟩
    · dsimp only
      by_cases e : j = m
      · rw [e, upd_same]; rfl
      · rw [upd_ne (by omega)]; exact q2 j (by omega)
    · dsimp only
      rw [upd_ne (by omega)]; exact q3 k hk
  · obtain ⟨q1, q2, q3⟩ := hJ
    unfold f_X8_orders_S16
    rw [q1, if_pos (Int32.le_refl _)]
    exact ⟨_, rfl, q2, q3⟩
theorem m_costs {w st pl ap' od sm bo rows : Nat → Int32} {ns nl nf n : Nat} (h0 : w 0 = nI ns) (h6 : ns ≤ 6) (h1 : w 1 = nI nl) (h4 : nl ≤ 4) (hF : FrO ns nl nf rows w) (h12 : nf ≤ 12) (hnf : nf = n) (hn : n ≤ 8) : OK (lp (fun q => f_X8_orders_S9 w (nI n) od sm bo q.1 q.2.1 q.2.2.1 q.2.2.2) ((0 : Int32), st, pl, ap')) (fun r => ∀ i j, i < n → j < n → r.2.2 (8 * i + j) = nI (cst rows i j)) := by
  refine ok_lp (fun m s => s.1 = nI m ∧ ∀ i j, i < m → j < n → s.2.2.2 (8 * i + j) = nI (cst rows i j)) n (fun m s hm hJ => Or.inl ?_) (fun s hJ => ?_) ⟨rfl, fun i j hi => absurd hi (Nat.not_lt_zero i)⟩
  · obtain ⟨q1, q2⟩ := hJ
    obtain ⟨r, er, g1, g2⟩ := m_costs1 (st := s.2.1) (pl := s.2.2.1) (ap' := s.2.2.2) (od := od) (sm := sm) (bo := bo) h0 h6 h1 h4 hF h12 hnf hn hm
    unfold f_X8_orders_S9 f_X8_orders_J16 f_X8_orders_J44
    rw [q1, if_neg (nI_ge hm (by omega)), er, bnd_s, nm_s, nI_1]
    refine ⟨_, rfl, rfl, fun i j hi hj => ?_⟩
    dsimp only
    by_cases e : i = m
    · rw [e]; exact g1 j hj
    · rw [g2 _ (by omega)]; exact q2 i j (by omega) hj
  · obtain ⟨q1, q2⟩ := hJ
    unfold f_X8_orders_S9
    rw [q1, if_pos (Int32.le_refl _)]
    exact ⟨_, rfl, q2⟩
/-! ===== order: what is sought ===== -/
def sb (U : Nat → Bool) (k : Nat) : Nat → Bool := fun i => decide (i = k) || U i
/-- the first least among those under m that are free: its value, itself -/
def pick (v : Nat → Nat) (U : Nat → Bool) : Nat → Option (Nat × Nat)
  | 0 => none
  | m + 1 => if U m = true then pick v U m else match pick v U m with
    | none => some (v m, m)
    | some (b, k) => if v m < b then some (v m, m) else some (b, k)
def Lf (c : Nat → Nat → Nat) (n : Nat) : Nat → (Nat → Bool) → Nat → Nat
  | 0, _, _ => 0
  | f + 1, U, a => match pick (fun k => c a k + Lf c n f (sb U k) k) U n with
    | none => 0
    | some (b, _) => b
theorem pick_cong {v v' : Nat → Nat} {U U' : Nat → Bool} : ∀ m, (∀ k, k < m → U k = U' k) → (∀ k, k < m → U k = false → v k = v' k) → pick v U m = pick v' U' m := by
  intro m
  induction m with
  | zero => intro _ _; rfl
  | succ m ih =>
    intro h1 h2
    have e := ih (fun k hk => h1 k (by omega)) (fun k hk => h2 k (by omega))
    show (if U m = true then _ else _) = (if U' m = true then _ else _)
    rw [← h1 m (by omega), e]
    by_cases q : U m = true
    · rw [if_pos q, if_pos q]
    · rw [if_neg q, if_neg q, h2 m (by omega) (ts_nt q)]
theorem pick_some {v : Nat → Nat} {U : Nat → Bool} : ∀ m, (∀ b k, pick v U m = some (b, k) → k < m ∧ U k = false ∧ b = v k ∧ (∀ i, i < m → U i = false → b ≤ v i) ∧ ∀ i, i < k → U i = false → b < v i) ∧ (pick v U m = none → ∀ i, i < m → U i = true) := by
  intro m
  induction m with
  | zero => exact ⟨(fun b k h => by cases h), fun _ i hi => absurd hi (Nat.not_lt_zero i)⟩
  | succ m ih =>
    obtain ⟨h1, h2⟩ := ih
    unfold pick
    by_cases q : U m = true
    · rw [if_pos q]
      refine ⟨fun b k h => ?_, fun h i hi => ?_⟩
      · obtain ⟨a1, a2, a3, a4, a5⟩ := h1 b k h
        refine ⟨by omega, a2, a3, fun i hi hu => ?_, a5⟩
        by_cases e : i = m
        · rw [e, q] at hu; cases hu
        · exact a4 i (by omega) hu
      · by_cases e : i = m
        · rw [e]; exact q
        · exact h2 h i (by omega)
    · rw [if_neg q]
      cases e : pick v U m with
      | none =>
        refine ⟨fun b k h => ?_, (fun h => by cases h)⟩
        obtain ⟨rfl, rfl⟩ := Prod.mk.inj (Option.some.inj h)
        refine ⟨by omega, ts_nt q, rfl, fun i hi hu => ?_, fun i hi hu => ?_⟩
        · by_cases z : i = m
          · rw [z]; exact Nat.le_refl _
          · rw [h2 e i (by omega)] at hu; cases hu
        · rw [h2 e i hi] at hu; cases hu
      | some p =>
        obtain ⟨b0, k0⟩ := p
        obtain ⟨a1, a2, a3, a4, a5⟩ := h1 b0 k0 e
        dsimp only
        by_cases z : v m < b0
        · rw [if_pos z]
          refine ⟨fun b k h => ?_, (fun h => by cases h)⟩
          obtain ⟨rfl, rfl⟩ := Prod.mk.inj (Option.some.inj h)
          refine ⟨by omega, ts_nt q, rfl, fun i hi hu => ?_, fun i hi hu => ?_⟩
          · by_cases z2 : i = m
            · rw [z2]; exact Nat.le_refl _
            · have := a4 i (by omega) hu; omega
          · have := a4 i hi hu; omega
        · rw [if_neg z]
          refine ⟨fun b k h => ?_, (fun h => by cases h)⟩
          obtain ⟨rfl, rfl⟩ := Prod.mk.inj (Option.some.inj h)
          refine ⟨by omega, a2, a3, fun i hi hu => ?_, a5⟩
          by_cases z2 : i = m
          · rw [z2]; omega
          · exact a4 i (by omega) hu
