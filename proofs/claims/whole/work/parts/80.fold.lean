/-! ===== order: the best of all, by candidates in turn ===== -/
def up2 (x : Option Nat × (Nat → Nat)) (v : Nat) (p : Nat → Nat) : Option Nat × (Nat → Nat) := match x.1 with
  | none => (some v, p)
  | some b => if v < b then (some v, p) else x
theorem up2_n {x : Option Nat × (Nat → Nat)} {v : Nat} {p : Nat → Nat} (h : x.1 = none) : up2 x v p = (some v, p) := by unfold up2; rw [h]
theorem up2_s {x : Option Nat × (Nat → Nat)} {v b : Nat} {p : Nat → Nat} (h : x.1 = some b) : up2 x v p = if v < b then (some v, p) else x := by unfold up2; rw [h]
theorem up2_lt {x : Option Nat × (Nat → Nat)} {b v : Nat} {p q : Nat → Nat} (h : v < b) : up2 (up2 x b p) v q = up2 x v q := by
  cases e : x.1 with
  | none => rw [up2_n e, up2_n e, up2_s (x := (some b, p)) rfl, if_pos h]
  | some b0 =>
    rw [up2_s (v := b) e, up2_s (v := v) e]
    by_cases z : b < b0
    · rw [if_pos z, up2_s (x := (some b, p)) rfl, if_pos h, if_pos (by omega)]
    · rw [if_neg z, up2_s e]
theorem up2_ge {x : Option Nat × (Nat → Nat)} {b v : Nat} {p q : Nat → Nat} (h : ¬ v < b) : up2 (up2 x b p) v q = up2 x b p := by
  cases e : x.1 with
  | none => rw [up2_n e, up2_s (x := (some b, p)) rfl, if_neg h]
  | some b0 =>
    rw [up2_s (v := b) e]
    by_cases z : b < b0
    · rw [if_pos z, up2_s (x := (some b, p)) rfl, if_neg h]
    · rw [if_neg z, up2_s e, if_neg (by omega)]
def fo (v : Nat → Nat) (P : Nat → Nat → Nat) (U : Nat → Bool) (x : Option Nat × (Nat → Nat)) : Nat → Option Nat × (Nat → Nat)
  | 0 => x
  | m + 1 => if U m = true then fo v P U x m else up2 (fo v P U x m) (v m) (P m)
theorem fo_pick (v : Nat → Nat) (P : Nat → Nat → Nat) (U : Nat → Bool) (x : Option Nat × (Nat → Nat)) : ∀ m, fo v P U x m = match pick v U m with | none => x | some (b, k) => up2 x b (P k) := by
  intro m
  induction m with
  | zero => rfl
  | succ m ih =>
    unfold fo pick
    by_cases q : U m = true
    · rw [if_pos q, if_pos q]; exact ih
    · rw [if_neg q, if_neg q, ih]
      cases e : pick v U m with
      | none => rfl
      | some p =>
        obtain ⟨b, k⟩ := p
        dsimp only
        by_cases z : v m < b
        · rw [if_pos z]; exact up2_lt z
        · rw [if_neg z]; exact up2_ge z
/-- the path: q before d, then from (U, a) by the stops -/
def pth (c : Nat → Nat → Nat) (n d : Nat) (q : Nat → Nat) (U : Nat → Bool) (a : Nat) : Nat → Nat := fun j => if j < d then q j else (git c n (j - d + 1) (U, a)).2
theorem pth_step {c : Nat → Nat → Nat} {n d a b k : Nat} {q : Nat → Nat} {U : Nat → Bool} (e : pk c n U a = some (b, k)) : pth c n (d + 1) (fun j => if j = d then k else q j) (sb U k) k = pth c n d q U a := by
  have eg : gs c n (U, a) = (sb U k, k) := by unfold gs; rw [e]
  funext j
  unfold pth
  by_cases h1 : j < d
  · rw [if_pos h1, if_pos (show j < d + 1 by omega)]
    exact if_neg (by omega)
  · rw [if_neg h1]
    by_cases h2 : j = d
    · subst h2
      rw [if_pos (Nat.lt_succ_self j), Nat.sub_self]
      show (if j = j then k else q j) = (gs c n (U, a)).2
      rw [if_pos rfl, eg]
    · rw [if_neg (show ¬ j < d + 1 by omega), show j - d + 1 = (j - (d + 1) + 1) + 1 by omega, git_in c n (j - (d + 1) + 1) (U, a), eg]
/-- all that follow (U, a) at depth d with the sum S: the candidates in turn -/
theorem res_step {c : Nat → Nat → Nat} {n d a S : Nat} {q : Nat → Nat} {U : Nat → Bool} (x : Option Nat × (Nat → Nat)) (hn : n ≤ 8) (hf : 0 < cnf U n) : fo (fun k => S + c a k + LL c n (sb U k) k) (fun k => pth c n (d + 1) (fun j => if j = d then k else q j) (sb U k) k) U x n = up2 x (S + LL c n U a) (pth c n d q U a) := by
  obtain ⟨b, k, e, hk, hu⟩ := pk_free (c := c) (a := a) hf
  have sh : ∀ m, pick (fun k => S + c a k + LL c n (sb U k) k) U m = match pick (fun k => c a k + LL c n (sb U k) k) U m with | none => none | some (b, k) => some (S + b, k) := by
    intro m
    induction m with
    | zero => rfl
    | succ m ih =>
      unfold pick
      by_cases w : U m = true
      · rw [if_pos w, if_pos w]; exact ih
      · rw [if_neg w, if_neg w, ih]
        cases pick (fun k => c a k + LL c n (sb U k) k) U m with
        | none => dsimp only; rw [Nat.add_assoc]
        | some p =>
          obtain ⟨b', k'⟩ := p
          dsimp only
          by_cases z : c a m + LL c n (sb U m) m < b'
          · rw [if_pos z, if_pos (by omega), Nat.add_assoc]
          · rw [if_neg z, if_neg (by omega)]
  rw [fo_pick, sh n, show pick (fun k => c a k + LL c n (sb U k) k) U n = some (b, k) from e]
  dsimp only
  have le := LL_eq (c := c) (U := U) (a := a) hn
  rw [e] at le
  rw [le, pth_step e]
