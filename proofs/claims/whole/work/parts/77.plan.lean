/-! ===== order: the class's plan ===== -/
theorem UM_0 (m : Nat) : UM m 0 = true := by unfold UM; rw [decide_eq_true rfl]; rfl
theorem UM_s (m f : Nat) : UM m (f + 1) = decide (m / 2 ^ f % 2 = 1) := by
  unfold UM
  rw [decide_eq_false (Nat.succ_ne_zero f), Bool.false_or, Nat.add_sub_cancel]
theorem UM_f {m f : Nat} : UM m (f + 1) = false ↔ m / 2 ^ f % 2 = 0 := by
  rw [UM_s]
  exact ⟨fun h => by have := of_decide_eq_false h; omega, fun h => decide_eq_false (by omega)⟩
theorem UM_sb {m f : Nat} (hm : m < 128) (hf : f < 7) (h : m / 2 ^ f % 2 = 0) : ∀ i, i < 8 → UM (m + 2 ^ f) i = sb (UM m) (f + 1) i := by
  intro i hi
  cases i with
  | zero => rw [UM_0]; unfold sb; rw [UM_0, Bool.or_true]
  | succ i =>
    unfold sb
    rw [UM_s, UM_s]
    have t := of_decide_eq_true (allb_iff.mp (mb_sb m hm f hf h) i (by omega))
    by_cases e : i = f
    · rw [decide_eq_true (show i + 1 = f + 1 by omega), Bool.true_or]
      exact decide_eq_true (by rw [t]; exact Or.inl e)
    · rw [decide_eq_false (show ¬ i + 1 = f + 1 by omega), Bool.false_or]
      refine decide_eq_decide.mpr ?_
      rw [t]
      exact ⟨fun z => z.elim (fun y => absurd y e) id, Or.inr⟩
theorem c_through {left costs : Nat → Int32} {m a f : Nat} (hm : m + 2 ^ f < 128) (ha : a < 8) (hf : f < 7) (h : m / 2 ^ f % 2 = 0) : f_X6_through left costs (nI m) (nI a) (nI (f + 1)) = some (costs (8 * a + (f + 1)) + left (8 * (m + 2 ^ f) + (f + 1))) := by
  unfold f_X6_through
  rw [nm_s, (mb_tab m (Nat.lt_of_le_of_lt (Nat.le_add_right _ _) hm) f hf).2 h, show nI a * (8 : Int32) + nI (f + 1) = nI (8 * a + (f + 1)) by rw [show (8 : Int32) = nI 8 from rfl, pk_mul, nI_add, Nat.mul_comm], show nI (m + 2 ^ f) * (8 : Int32) + nI (f + 1) = nI (8 * (m + 2 ^ f) + (f + 1)) by rw [show (8 : Int32) = nI 8 from rfl, pk_mul, nI_add, Nat.mul_comm], chk_n (by omega) (by decide), chk_n (by omega) (by decide), nI_clamp (by omega), nI_clamp (by omega)]
/-- what is left is known for the masks from m on -/
def TD (c : Nat → Nat → Nat) (n : Nat) (left : Nat → Int32) (m : Nat) : Prop := ∀ m', m ≤ m' → m' < 2 ^ (n - 1) → ∀ a, a < n → left (8 * m' + a) = nI (LL c n (UM m') a)
theorem pw_le {n : Nat} (hn : n ≤ 8) : 2 ^ (n - 1) ≤ 128 := Nat.le_trans (Nat.pow_le_pow_right (by decide) (show n - 1 ≤ 7 by omega)) (by decide)
theorem c_nextT {left costs : Nat → Int32} {n m a : Nat} (hn : n ≤ 8) (hm : m < 2 ^ (n - 1)) (ha : a < 8) : OK (f_X6_nextStop left costs (nI n) (nI m) (nI a)) (fun r => r = -1 ∨ ∃ f, f + 1 < n ∧ m / 2 ^ f % 2 = 0 ∧ r = nI (f + 1)) := by
  have hp := pw_le hn
  unfold f_X6_nextStop f_X6_nextStop_J9 f_X6_nextStop_J59
  refine ok_bnd (P := fun r => r = -1 ∨ ∃ f, f + 1 < n ∧ m / 2 ^ f % 2 = 0 ∧ r = nI (f + 1)) ?_ (fun r h => ⟨_, rfl, h⟩)
  refine ok_lp (fun t s => (s.1 = -1 ∨ ∃ f, f + 1 < n ∧ m / 2 ^ f % 2 = 0 ∧ s.1 = nI (f + 1)) ∧ s.2.2 = nI (t + 1)) (n - 1) (fun t s ht hJ => Or.inl ?_) (fun s hJ => ?_) ⟨Or.inl rfl, rfl⟩
  · obtain ⟨q1, q2⟩ := hJ
    unfold f_X6_nextStop_S9 f_X6_nextStop_J53
    obtain ⟨t1, _⟩ := mb_tab m (by omega) t (by omega)
    rw [q2, if_neg (nI_ge (by omega) (by omega))]
    by_cases z : m / 2 ^ t % 2 = 0
    · have hlt := mb_lt (n - 1) (by omega) m hm t ht z
      rw [if_pos (of_decide_eq_true (t1.trans (decide_eq_true z))), c_through (by omega) ha (by omega) z, bnd_s, nm_s, nm_s, nI_1]
      split
      · exact ⟨_, rfl, q1, rfl⟩
      · exact ⟨_, rfl, Or.inr ⟨t, by omega, z, rfl⟩, rfl⟩
    · rw [if_neg (of_decide_eq_false (t1.trans (decide_eq_false z))), nm_s, nI_1]
      exact ⟨_, rfl, q1, rfl⟩
  · obtain ⟨q1, q2⟩ := hJ
    unfold f_X6_nextStop_S9
    rw [q2, if_pos (nI_le (by omega) (by omega))]
    exact ⟨_, rfl, q1⟩
def st2 (o : Option (Nat × Nat)) (s : Int32 × Int32) : Prop := match o with
  | none => s = (-1, 1000000)
  | some (b, k) => s = (nI k, nI b) ∧ b ≤ 200
theorem c_next {left costs : Nat → Int32} {c : Nat → Nat → Nat} {n m a : Nat} (hc : ∀ i j, c i j ≤ 12) (hco : ∀ i j, i < n → j < n → costs (8 * i + j) = nI (c i j)) (hn : n ≤ 8) (hm : m < 2 ^ (n - 1)) (ha : a < n) (hT : TD c n left (m + 1)) : f_X6_nextStop left costs (nI n) (nI m) (nI a) = some (match pk c n (UM m) a with | none => -1 | some (_, k) => nI k) := by
  have hp := pw_le hn
  have H : OK (lp (fun q => f_X6_nextStop_S9 left costs (nI n) (nI m) (nI a) q.1 q.2.1 q.2.2) ((-1 : Int32), (1000000 : Int32), (1 : Int32))) (fun r => r = match pk c n (UM m) a with | none => -1 | some (_, k) => nI k) := by
    refine ok_lp (fun t s => st2 (pick (fun k => c a k + LL c n (sb (UM m) k) k) (UM m) (t + 1)) (s.1, s.2.1) ∧ s.2.2 = nI (t + 1)) (n - 1) (fun t s ht hJ => Or.inl ?_) (fun s hJ => ?_) ⟨?_, rfl⟩
    · obtain ⟨q1, q2⟩ := hJ
      unfold f_X6_nextStop_S9 f_X6_nextStop_J53
      obtain ⟨t1, _⟩ := mb_tab m (by omega) t (by omega)
      rw [q2, if_neg (nI_ge (by omega) (by omega))]
      have ep : pick (fun k => c a k + LL c n (sb (UM m) k) k) (UM m) (t + 1 + 1) = if UM m (t + 1) = true then pick (fun k => c a k + LL c n (sb (UM m) k) k) (UM m) (t + 1) else match pick (fun k => c a k + LL c n (sb (UM m) k) k) (UM m) (t + 1) with | none => some (c a (t + 1) + LL c n (sb (UM m) (t + 1)) (t + 1), t + 1) | some (b, k) => if c a (t + 1) + LL c n (sb (UM m) (t + 1)) (t + 1) < b then some (c a (t + 1) + LL c n (sb (UM m) (t + 1)) (t + 1), t + 1) else some (b, k) := rfl
      by_cases z : m / 2 ^ t % 2 = 0
      · have hlt := mb_lt (n - 1) (by omega) m hm t ht z
        have hpos : 0 < 2 ^ t := Nat.two_pow_pos t
        have h1 := hc a (t + 1)
        have h2 := LL_le (n := n) hc (sb (UM m) (t + 1)) (t + 1)
        rw [if_neg (show ¬ UM m (t + 1) = true by rw [UM_f.mpr z]; decide)] at ep
        rw [if_pos (of_decide_eq_true (t1.trans (decide_eq_true z))), c_through (by omega) (by omega) (by omega) z, bnd_s, nm_s, nm_s, nI_1, hco a (t + 1) ha (by omega), hT (m + 2 ^ t) (by omega) hlt (t + 1) (by omega), LL_cong (fun i hi => UM_sb (by omega) (by omega) z i (by omega)), nI_add]
        have hv : c a (t + 1) + LL c n (sb (UM m) (t + 1)) (t + 1) ≤ 200 := by omega
        generalize c a (t + 1) + LL c n (sb (UM m) (t + 1)) (t + 1) = v at ep hv ⊢
        rw [ep]
        cases e : pick (fun k => c a k + LL c n (sb (UM m) k) k) (UM m) (t + 1) with
        | none =>
          rw [e] at q1
          have e2 : s.2.1 = 1000000 := congrArg Prod.snd q1
          rw [e2, if_neg (show ¬ (1000000 : Int32) ≤ nI v from nI_ge (b := 1000000) (by omega) (by decide))]
          exact ⟨_, rfl, ⟨rfl, hv⟩, rfl⟩
        | some p =>
          obtain ⟨b, k⟩ := p
          rw [e] at q1
          obtain ⟨q3, hb⟩ : (s.1, s.2.1) = (nI k, nI b) ∧ b ≤ 200 := q1
          have e1 : s.1 = nI k := congrArg Prod.fst q3
          have e2 : s.2.1 = nI b := congrArg Prod.snd q3
          rw [e1, e2]
          dsimp only
          by_cases y : v < b
          · rw [if_neg (nI_ge y (by omega)), if_pos y]
            exact ⟨_, rfl, ⟨rfl, hv⟩, rfl⟩
          · rw [if_pos (nI_le (by omega) (by omega)), if_neg y]
            exact ⟨_, rfl, ⟨rfl, hb⟩, rfl⟩
      · rw [if_pos (show UM m (t + 1) = true by rw [UM_s]; exact decide_eq_true (by omega))] at ep
        rw [if_neg (of_decide_eq_false (t1.trans (decide_eq_false z))), nm_s, nI_1]
        exact ⟨_, rfl, by rw [ep]; exact q1, rfl⟩
    · obtain ⟨q1, q2⟩ := hJ
      unfold f_X6_nextStop_S9
      rw [q2, if_pos (nI_le (by omega) (by omega))]
      refine ⟨_, rfl, ?_⟩
      rw [show n - 1 + 1 = n by omega] at q1
      unfold pk
      cases e : pick (fun k => c a k + LL c n (sb (UM m) k) k) (UM m) n with
      | none => rw [e] at q1; exact congrArg Prod.fst q1
      | some p => rw [e] at q1; exact congrArg Prod.fst q1.1
    · show st2 (if UM m 0 = true then none else _) _
      rw [if_pos (UM_0 m)]
      rfl
  obtain ⟨r, er, hr⟩ := H
  unfold f_X6_nextStop f_X6_nextStop_J9 f_X6_nextStop_J59
  rw [er, bnd_s, hr]
