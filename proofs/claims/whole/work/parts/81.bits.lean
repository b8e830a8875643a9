/-! ===== order: the model's bits, its bookkeeping ===== -/
def UB (M : Nat) : Nat → Bool := fun f => decide (M / 2 ^ f % 2 = 1)
theorem has_tab : ∀ M, M < 256 → ∀ f, f < 8 → f_X8_has (nI M) (nI f) = if M / 2 ^ f % 2 = 1 then (1 : Int32) else 0 := by decide +kernel
theorem or_tab : ∀ M, M < 256 → ∀ f, f < 8 → M / 2 ^ f % 2 = 0 → nI M ||| ((1 : Int32) <<< (nI f &&& 31)) = nI (M + 2 ^ f) ∧ M + 2 ^ f < 256 ∧ nI (M + 2 ^ f) &&& (((1 : Int32) <<< (nI f &&& 31)) ^^^ (-1 : Int32)) = nI M := by decide +kernel
def ubb (m f : Nat) : Bool := allb (fun i => decide (((m + 2 ^ f) / 2 ^ i % 2 = 1) = (i = f ∨ m / 2 ^ i % 2 = 1))) 8
theorem ub_sb : ∀ m, m < 256 → ∀ f, f < 8 → m / 2 ^ f % 2 = 0 → ubb m f = true := by decide +kernel
theorem UB_f {m f : Nat} : UB m f = false ↔ m / 2 ^ f % 2 = 0 := by
  unfold UB
  exact ⟨fun h => by have := of_decide_eq_false h; omega, fun h => decide_eq_false (by omega)⟩
theorem UB_sb {m f : Nat} (hm : m < 256) (hf : f < 8) (h : m / 2 ^ f % 2 = 0) : ∀ i, i < 8 → UB (m + 2 ^ f) i = sb (UB m) f i := by
  intro i hi
  unfold sb UB
  have t := of_decide_eq_true (allb_iff.mp (ub_sb m hm f hf h) i hi)
  by_cases e : i = f
  · rw [decide_eq_true e, Bool.true_or]
    exact decide_eq_true (by rw [t]; exact Or.inl e)
  · rw [decide_eq_false e, Bool.false_or]
    refine decide_eq_decide.mpr ?_
    rw [t]
    exact ⟨fun z => z.elim (fun y => absurd y e) id, Or.inr⟩
theorem fo_skip {v : Nat → Nat} {P : Nat → Nat → Nat} {U : Nat → Bool} {x : Option Nat × (Nat → Nat)} {k : Nat} : ∀ d, (∀ i, k ≤ i → i < k + d → U i = true) → fo v P U x (k + d) = fo v P U x k := by
  intro d
  induction d with
  | zero => intro _; rfl
  | succ d ih =>
    intro h
    show (if U (k + d) = true then fo v P U x (k + d) else _) = _
    rw [if_pos (h (k + d) (by omega) (by omega))]
    exact ih (fun i h1 h2 => h i h1 (by omega))
def BS (n : Nat) (x : Option Nat × (Nat → Nat)) (bst : Int32) (bo : Nat → Int32) : Prop := (x.1 = none → bst = -1) ∧ ∀ b, x.1 = some b → bst = nI b ∧ b ≤ 300 ∧ ∀ j, j < n → bo j = nI (x.2 j)
theorem m_skipU {w st pl apt sm bo od : Nat → Int32} {n M d k : Nat} {bst : Int32} (hn : n ≤ 8) (hM : M < 256) (hd : d < 9) (hk : k ≤ n) (ho : od d = nI k) : lp (fun q => f_X8_orders_S179 w (nI n) st pl apt bst (nI M) (nI d) sm bo q) od = some (upd od d (nI (rn (UB M) n k))) := by
  have e := lp_rj (f := fun q => f_X8_orders_S179 w (nI n) st pl apt bst (nI M) (nI d) sm bo q) (UB M) (fun i => upd od d (nI i)) (fun i => upd od d (nI i)) n k (fun i hi1 hi hp => ?_) (fun i hi1 hi hp => ?_) hk
  · have e0 : upd od d (nI k) = od := by
      funext i
      rw [upd_at]
      split
      · rename_i h; rw [h]; exact ho.symm
      · rfl
    rw [e0] at e
    exact e
  · show f_X8_orders_S179 w (nI n) st pl apt bst (nI M) (nI d) sm bo (upd od d (nI i)) = _
    unfold f_X8_orders_S179
    rw [chk_n hd (by decide), nI_clamp (by omega), upd_same, if_neg (nI_ge hi (by omega)), chk_n hd (by decide), nm_s, has_tab M hM i (by omega), if_pos (of_decide_eq_true hp), if_neg (by decide), chk_n hd (by decide), chk_n hd (by decide), nm_s, nI_1]
    congr 2
    funext j
    rw [upd_at, upd_at, upd_at]
    split <;> rfl
  · show f_X8_orders_S179 w (nI n) st pl apt bst (nI M) (nI d) sm bo (upd od d (nI i)) = _
    unfold f_X8_orders_S179
    rw [chk_n hd (by decide), nI_clamp (by omega), upd_same]
    by_cases z : i < n
    · have hp' : UB M i = false := hp.elim id (fun y => absurd y (by omega))
      rw [if_neg (nI_ge z (by omega)), chk_n hd (by decide), nm_s, has_tab M hM i (by omega), if_neg (of_decide_eq_false hp'), if_pos rfl]
    · rw [if_pos (nI_le (by omega) (by omega))]
theorem m_keep {w st pl apt sm bo od : Nat → Int32} {n : Nat} {bst l3 l4 : Int32} (hn : n ≤ 8) : OK (lp (fun q => f_X8_orders_S117 w (nI n) st pl apt bst l3 l4 od sm q.1 q.2) ((0 : Int32), bo)) (fun r => ∀ j, j < n → r j = od j) := by
  refine ok_lp (fun t s => s.1 = nI t ∧ ∀ j, j < t → s.2 j = od j) n (fun t s ht hJ => Or.inl ?_) (fun s hJ => ?_) ⟨rfl, fun j hj => absurd hj (Nat.not_lt_zero j)⟩
  · obtain ⟨q1, q2⟩ := hJ
    unfold f_X8_orders_S117
    rw [q1, if_neg (nI_ge ht (by omega)), chk_n (by omega) (by decide), chk_n (by omega) (by decide), nm_s, nm_s, nI_clamp (by omega), nI_1]
    refine ⟨_, rfl, rfl, fun j hj => ?_⟩
    dsimp only
    by_cases e : j = t
    · rw [e, upd_same]
    · rw [upd_ne e]; exact q2 j (by omega)
  · obtain ⟨q1, q2⟩ := hJ
    unfold f_X8_orders_S117
    rw [q1, if_pos (Int32.le_refl _)]
    exact ⟨_, rfl, q2⟩
