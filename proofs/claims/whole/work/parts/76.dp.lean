/-! ===== order: what is left, by its own equation ===== -/
def cnf (U : Nat → Bool) : Nat → Nat
  | 0 => 0
  | n + 1 => cnf U n + (if U n = true then 0 else 1)
theorem cnf_le (U : Nat → Bool) : ∀ n, cnf U n ≤ n := by
  intro n
  induction n with
  | zero => exact Nat.le_refl _
  | succ n ih => show cnf U n + _ ≤ _; split <;> omega
theorem cnf_sb {U : Nat → Bool} {k : Nat} (hk : U k = false) : ∀ n, cnf (sb U k) n + (if k < n then 1 else 0) = cnf U n := by
  intro n
  induction n with
  | zero => rfl
  | succ n ih =>
    show cnf (sb U k) n + (if sb U k n = true then 0 else 1) + (if k < n + 1 then 1 else 0) = cnf U n + (if U n = true then 0 else 1)
    by_cases e : n = k
    · subst e
      have s1 : sb U n n = true := by unfold sb; rw [decide_eq_true rfl]; rfl
      rw [if_pos s1, if_pos (Nat.lt_succ_self n), if_neg (show ¬ U n = true by rw [hk]; decide)]
      rw [if_neg (Nat.lt_irrefl n)] at ih
      omega
    · have s1 : sb U k n = U n := by unfold sb; rw [decide_eq_false e]; rfl
      rw [s1]
      by_cases z : k < n
      · rw [if_pos z] at ih
        rw [if_pos (show k < n + 1 by omega)]
        omega
      · rw [if_neg z] at ih
        rw [if_neg (show ¬ k < n + 1 by omega)]
        omega
theorem cnf_0 {U : Nat → Bool} : ∀ n, cnf U n = 0 → ∀ k, k < n → U k = true := by
  intro n
  induction n with
  | zero => intro _ k hk; exact absurd hk (Nat.not_lt_zero k)
  | succ n ih =>
    intro h k hk
    have h' : cnf U n + (if U n = true then 0 else 1) = 0 := h
    by_cases q : U n = true
    · by_cases e : k = n
      · rw [e]; exact q
      · rw [if_pos q] at h'; exact ih (by omega) k (by omega)
    · rw [if_neg q] at h'; omega
theorem pick_none {v : Nat → Nat} {U : Nat → Bool} : ∀ n, (∀ k, k < n → U k = true) → pick v U n = none := by
  intro n
  induction n with
  | zero => intro _; rfl
  | succ n ih =>
    intro h
    show (if U n = true then _ else _) = none
    rw [if_pos (h n (by omega))]
    exact ih (fun k hk => h k (by omega))
theorem sb_cong {U U' : Nat → Bool} {n k : Nat} (h : ∀ i, i < n → U i = U' i) : ∀ i, i < n → sb U k i = sb U' k i := fun i hi => by unfold sb; rw [h i hi]
theorem Lf_cong {c : Nat → Nat → Nat} {n : Nat} : ∀ f (U U' : Nat → Bool) a, (∀ i, i < n → U i = U' i) → Lf c n f U a = Lf c n f U' a := by
  intro f
  induction f with
  | zero => intro U U' a _; rfl
  | succ f ih =>
    intro U U' a h
    unfold Lf
    rw [pick_cong (v' := fun k => c a k + Lf c n f (sb U' k) k) n h (fun k hk _ => by rw [ih (sb U k) (sb U' k) k (sb_cong h)])]
theorem Lf_st {c : Nat → Nat → Nat} {n : Nat} : ∀ f (U : Nat → Bool) a, cnf U n ≤ f → Lf c n (f + 1) U a = Lf c n f U a := by
  intro f
  induction f with
  | zero =>
    intro U a h
    show (match pick _ U n with | none => 0 | some (b, _) => b) = 0
    rw [pick_none n (cnf_0 n (by omega))]
  | succ f ih =>
    intro U a h
    show (match pick (fun k => c a k + Lf c n (f + 1) (sb U k) k) U n with | none => 0 | some (b, _) => b) = (match pick (fun k => c a k + Lf c n f (sb U k) k) U n with | none => 0 | some (b, _) => b)
    rw [pick_cong (v' := fun k => c a k + Lf c n f (sb U k) k) (U' := U) n (fun _ _ => rfl) (fun k hk hu => by
      have := cnf_sb hu n
      rw [if_pos hk] at this
      rw [ih (sb U k) k (by omega)])]
theorem Lf_le {c : Nat → Nat → Nat} {n : Nat} (hc : ∀ i j, c i j ≤ 12) : ∀ f (U : Nat → Bool) a, Lf c n f U a ≤ 12 * f := by
  intro f
  induction f with
  | zero => intro U a; exact Nat.le_refl _
  | succ f ih =>
    intro U a
    show (match pick (fun k => c a k + Lf c n f (sb U k) k) U n with | none => 0 | some (b, _) => b) ≤ _
    cases e : pick (fun k => c a k + Lf c n f (sb U k) k) U n with
    | none => exact Nat.zero_le _
    | some p =>
      obtain ⟨b, k⟩ := p
      obtain ⟨_, _, h3, _⟩ := (pick_some n).1 b k e
      have := hc a k
      have := ih (sb U k) k
      show b ≤ _
      rw [h3]
      omega
def LL (c : Nat → Nat → Nat) (n : Nat) (U : Nat → Bool) (a : Nat) : Nat := Lf c n 8 U a
def pk (c : Nat → Nat → Nat) (n : Nat) (U : Nat → Bool) (a : Nat) : Option (Nat × Nat) := pick (fun k => c a k + LL c n (sb U k) k) U n
theorem LL_eq {c : Nat → Nat → Nat} {n : Nat} {U : Nat → Bool} {a : Nat} (hn : n ≤ 8) : LL c n U a = match pk c n U a with | none => 0 | some (b, _) => b := by
  unfold LL pk
  rw [← Lf_st 8 U a (Nat.le_trans (cnf_le U n) hn)]
  rfl
theorem LL_le {c : Nat → Nat → Nat} {n : Nat} (hc : ∀ i j, c i j ≤ 12) (U : Nat → Bool) (a : Nat) : LL c n U a ≤ 96 := Lf_le hc 8 U a
theorem LL_cong {c : Nat → Nat → Nat} {n : Nat} {U U' : Nat → Bool} {a : Nat} (h : ∀ i, i < n → U i = U' i) : LL c n U a = LL c n U' a := Lf_cong 8 U U' a h
/-! masks -/
def UM (m : Nat) : Nat → Bool := fun f => decide (f = 0) || decide (m / 2 ^ (f - 1) % 2 = 1)
theorem mb_tab : ∀ m, m < 128 → ∀ f, f < 7 → (decide (((nI m >>> ((nI (f + 1) - (1 : Int32)) &&& 31)) &&& (1 : Int32)) = 0) = decide (m / 2 ^ f % 2 = 0)) ∧ (m / 2 ^ f % 2 = 0 → nI m ||| ((1 : Int32) <<< ((nI (f + 1) - (1 : Int32)) &&& 31)) = nI (m + 2 ^ f)) := by decide +kernel
def mbb (m f : Nat) : Bool := allb (fun i => decide (((m + 2 ^ f) / 2 ^ i % 2 = 1) = (i = f ∨ m / 2 ^ i % 2 = 1))) 7
theorem mb_sb : ∀ m, m < 128 → ∀ f, f < 7 → m / 2 ^ f % 2 = 0 → mbb m f = true := by decide +kernel
theorem mb_lt : ∀ n, n < 8 → ∀ m, m < 2 ^ n → ∀ f, f < n → m / 2 ^ f % 2 = 0 → m + 2 ^ f < 2 ^ n := by decide +kernel
