/-! ===== own rows: total correctness of the pure functions ===== -/
def OK {α : Type} (o : Option α) (P : α → Prop) : Prop := ∃ a, o = some a ∧ P a
theorem ok_some {α : Type} {a : α} {P : α → Prop} (h : P a) : OK (some a) P := ⟨a, rfl, h⟩
theorem ok_bnd {α β : Type} {o : Option α} {k : α → Option β} {P : α → Prop} {Q : β → Prop} (h : OK o P) (g : ∀ a, P a → OK (k a) Q) : OK (bnd o k) Q := by
  obtain ⟨a, e, p⟩ := h
  rw [bnd_eq e]
  exact g a p
theorem ok_nm {α β : Type} {a : α} {k : α → Option β} {Q : β → Prop} (h : OK (k a) Q) : OK (nm a k) Q := h
theorem ok_chk {β : Type} {i : Int32} {n : Nat} {k : Option β} {Q : β → Prop} (hi : vp_in i n) (h : OK k Q) : OK (chk i n k) Q := by rw [chk_eq hi]; exact h
theorem OK.mono {α : Type} {o : Option α} {P Q : α → Prop} (h : OK o P) (g : ∀ a, P a → Q a) : OK o Q := by
  obtain ⟨a, e, p⟩ := h
  exact ⟨a, e, g a p⟩
theorem OK.eq {α : Type} {o : Option α} {a : α} (h : OK o (fun b => b = a)) : o = some a := by
  obtain ⟨b, e, p⟩ := h
  rw [e, p]
theorem ok_of {α : Type} {o : Option α} {a : α} {P : α → Prop} (h : o = some a) (p : P a) : OK o P := ⟨a, h, p⟩
/-- a loop by an invariant: n rounds at most -/
theorem ok_lp {σ ρ : Type} {f : σ → Option (σ ⊕ ρ)} (I : Nat → σ → Prop) {P : ρ → Prop} (n : Nat)
    (hs : ∀ k s, k < n → I k s → (∃ s', f s = some (.inl s') ∧ I (k + 1) s') ∨ ∃ r, f s = some (.inr r) ∧ P r)
    (he : ∀ s, I n s → ∃ r, f s = some (.inr r) ∧ P r) {s : σ} (h0 : I 0 s) : OK (lp f s) P := by
  have key : ∀ d k s, k + d = n → I k s → OK (lp f s) P := by
    intro d
    induction d with
    | zero =>
      intro k s hk hI
      obtain rfl : k = n := by omega
      obtain ⟨r, e, p⟩ := he s hI
      exact ⟨r, lp_exit e, p⟩
    | succ d ih =>
      intro k s hk hI
      rcases hs k s (by omega) hI with ⟨s', e, h⟩ | ⟨r, e, p⟩
      · obtain ⟨r, e2, p⟩ := ih (k + 1) s' (by omega) h
        exact ⟨r, lp_go e e2, p⟩
      · exact ⟨r, lp_exit e, p⟩
  exact key n 0 s (by omega) h0
/-- a loop of n rounds: the states are known -/
theorem lp_run {σ ρ : Type} {f : σ → Option (σ ⊕ ρ)} (S : Nat → σ) {r : ρ} (n : Nat) (hs : ∀ k, k < n → f (S k) = some (.inl (S (k + 1)))) (he : f (S n) = some (.inr r)) : lp f (S 0) = some r := by
  have h := ok_lp (f := f) (P := fun q => q = r) (fun k s => s = S k) n (fun k s hk e => Or.inl ⟨_, by rw [e]; exact hs k hk, rfl⟩) (fun s e => ⟨r, by rw [e]; exact he, rfl⟩) (s := S 0) rfl
  exact h.eq
theorem lp_run' {σ ρ : Type} {f : σ → Option (σ ⊕ ρ)} (S : Nat → σ) {r : ρ} {s : σ} (n : Nat) (h0 : s = S 0) (hs : ∀ k, k < n → f (S k) = some (.inl (S (k + 1)))) (he : f (S n) = some (.inr r)) : lp f s = some r := by rw [h0]; exact lp_run S n hs he
theorem bnd_s {α β : Type} {a : α} {k : α → Option β} : bnd (some a) k = k a := rfl
theorem nm_s {α β : Type} {a : α} {k : α → β} : nm a k = k a := rfl
theorem xb_l {α β χ : Type} {a : α} {kx : χ → Option β} {k : α → Option β} : xb (some (.inl a)) kx k = k a := rfl
theorem xb_r {α β χ : Type} {x : χ} {kx : χ → Option β} {k : α → Option β} : xb (some (.inr x)) kx k = kx x := rfl
theorem chk_n {β : Type} {n N : Nat} {k : Option β} (h : n < N) (hN : N < 2 ^ 31) : chk (nI n) N k = k := chk_eq (vp_in_nI h hN)
theorem lt_i {a b : Int32} : a < b ↔ a.toInt < b.toInt := Int32.lt_iff_toInt_lt
theorem le_i {a b : Int32} : a ≤ b ↔ a.toInt ≤ b.toInt := Int32.le_iff_toInt_le
theorem eq_i {a b : Int32} : a = b ↔ a.toInt = b.toInt := Int32.toInt_inj.symm
theorem upd_at (f : Nat → Int32) (i : Nat) (v : Int32) (k : Nat) : upd f i v k = if k = i then v else f k := by
  first | rfl | (unfold upd; split <;> split <;> first | rfl | (exfalso; omega) | simp_all)
theorem upd_same (f : Nat → Int32) (i : Nat) (v : Int32) : upd f i v i = v := by rw [upd_at, if_pos rfl]
theorem upd_ne {f : Nat → Int32} {i : Nat} {v : Int32} {k : Nat} (h : k ≠ i) : upd f i v k = f k := by rw [upd_at, if_neg h]
theorem ge_1 {k : Nat} (h : k < 1) : ¬ (1 : Int32) ≤ nI k := nI_ge (b := 1) h (by decide)
theorem gl_1 : (1 : Int32) ≤ nI 1 := Int32.le_refl _
theorem ge_2 {k : Nat} (h : k < 2) : ¬ (2 : Int32) ≤ nI k := nI_ge (b := 2) h (by decide)
theorem gl_2 : (2 : Int32) ≤ nI 2 := Int32.le_refl _
theorem ge_3 {k : Nat} (h : k < 3) : ¬ (3 : Int32) ≤ nI k := nI_ge (b := 3) h (by decide)
theorem gl_3 : (3 : Int32) ≤ nI 3 := Int32.le_refl _
theorem ge_4 {k : Nat} (h : k < 4) : ¬ (4 : Int32) ≤ nI k := nI_ge (b := 4) h (by decide)
theorem gl_4 : (4 : Int32) ≤ nI 4 := Int32.le_refl _
theorem ge_5 {k : Nat} (h : k < 5) : ¬ (5 : Int32) ≤ nI k := nI_ge (b := 5) h (by decide)
theorem gl_5 : (5 : Int32) ≤ nI 5 := Int32.le_refl _
theorem ge_6 {k : Nat} (h : k < 6) : ¬ (6 : Int32) ≤ nI k := nI_ge (b := 6) h (by decide)
theorem gl_6 : (6 : Int32) ≤ nI 6 := Int32.le_refl _
theorem ge_12 {k : Nat} (h : k < 12) : ¬ (12 : Int32) ≤ nI k := nI_ge (b := 12) h (by decide)
theorem gl_12 : (12 : Int32) ≤ nI 12 := Int32.le_refl _
theorem ge_15 {k : Nat} (h : k < 15) : ¬ (15 : Int32) ≤ nI k := nI_ge (b := 15) h (by decide)
theorem gl_15 : (15 : Int32) ≤ nI 15 := Int32.le_refl _
theorem ge_20 {k : Nat} (h : k < 20) : ¬ (20 : Int32) ≤ nI k := nI_ge (b := 20) h (by decide)
theorem gl_20 : (20 : Int32) ≤ nI 20 := Int32.le_refl _
theorem ge_25 {k : Nat} (h : k < 25) : ¬ (25 : Int32) ≤ nI k := nI_ge (b := 25) h (by decide)
theorem gl_25 : (25 : Int32) ≤ nI 25 := Int32.le_refl _
theorem ge_144 {k : Nat} (h : k < 144) : ¬ (144 : Int32) ≤ nI k := nI_ge (b := 144) h (by decide)
theorem gl_144 : (144 : Int32) ≤ nI 144 := Int32.le_refl _
theorem ge_225 {k : Nat} (h : k < 225) : ¬ (225 : Int32) ≤ nI k := nI_ge (b := 225) h (by decide)
theorem gl_225 : (225 : Int32) ≤ nI 225 := Int32.le_refl _
theorem lt_1 {k : Nat} (h : k < 1) : nI k < (1 : Int32) := nI_lt (b := 1) h (by decide)
theorem eq_1 {k : Nat} (h : k < 2 ^ 31) : nI k = (1 : Int32) ↔ k = 1 := nI_eq (b := 1) h (by decide)
theorem le_1 {k : Nat} (h : k ≤ 1) : nI k ≤ (1 : Int32) := nI_le (b := 1) h (by decide)
theorem lt_2 {k : Nat} (h : k < 2) : nI k < (2 : Int32) := nI_lt (b := 2) h (by decide)
theorem eq_2 {k : Nat} (h : k < 2 ^ 31) : nI k = (2 : Int32) ↔ k = 2 := nI_eq (b := 2) h (by decide)
theorem le_2 {k : Nat} (h : k ≤ 2) : nI k ≤ (2 : Int32) := nI_le (b := 2) h (by decide)
theorem lt_3 {k : Nat} (h : k < 3) : nI k < (3 : Int32) := nI_lt (b := 3) h (by decide)
theorem eq_3 {k : Nat} (h : k < 2 ^ 31) : nI k = (3 : Int32) ↔ k = 3 := nI_eq (b := 3) h (by decide)
theorem le_3 {k : Nat} (h : k ≤ 3) : nI k ≤ (3 : Int32) := nI_le (b := 3) h (by decide)
theorem lt_4 {k : Nat} (h : k < 4) : nI k < (4 : Int32) := nI_lt (b := 4) h (by decide)
theorem eq_4 {k : Nat} (h : k < 2 ^ 31) : nI k = (4 : Int32) ↔ k = 4 := nI_eq (b := 4) h (by decide)
theorem le_4 {k : Nat} (h : k ≤ 4) : nI k ≤ (4 : Int32) := nI_le (b := 4) h (by decide)
theorem lt_5 {k : Nat} (h : k < 5) : nI k < (5 : Int32) := nI_lt (b := 5) h (by decide)
theorem eq_5 {k : Nat} (h : k < 2 ^ 31) : nI k = (5 : Int32) ↔ k = 5 := nI_eq (b := 5) h (by decide)
theorem le_5 {k : Nat} (h : k ≤ 5) : nI k ≤ (5 : Int32) := nI_le (b := 5) h (by decide)
theorem lt_6 {k : Nat} (h : k < 6) : nI k < (6 : Int32) := nI_lt (b := 6) h (by decide)
theorem eq_6 {k : Nat} (h : k < 2 ^ 31) : nI k = (6 : Int32) ↔ k = 6 := nI_eq (b := 6) h (by decide)
theorem le_6 {k : Nat} (h : k ≤ 6) : nI k ≤ (6 : Int32) := nI_le (b := 6) h (by decide)
theorem lt_8 {k : Nat} (h : k < 8) : nI k < (8 : Int32) := nI_lt (b := 8) h (by decide)
theorem eq_8 {k : Nat} (h : k < 2 ^ 31) : nI k = (8 : Int32) ↔ k = 8 := nI_eq (b := 8) h (by decide)
theorem le_8 {k : Nat} (h : k ≤ 8) : nI k ≤ (8 : Int32) := nI_le (b := 8) h (by decide)
theorem lt_12 {k : Nat} (h : k < 12) : nI k < (12 : Int32) := nI_lt (b := 12) h (by decide)
theorem eq_12 {k : Nat} (h : k < 2 ^ 31) : nI k = (12 : Int32) ↔ k = 12 := nI_eq (b := 12) h (by decide)
theorem le_12 {k : Nat} (h : k ≤ 12) : nI k ≤ (12 : Int32) := nI_le (b := 12) h (by decide)
theorem lt_15 {k : Nat} (h : k < 15) : nI k < (15 : Int32) := nI_lt (b := 15) h (by decide)
theorem eq_15 {k : Nat} (h : k < 2 ^ 31) : nI k = (15 : Int32) ↔ k = 15 := nI_eq (b := 15) h (by decide)
theorem le_15 {k : Nat} (h : k ≤ 15) : nI k ≤ (15 : Int32) := nI_le (b := 15) h (by decide)
theorem lt_20 {k : Nat} (h : k < 20) : nI k < (20 : Int32) := nI_lt (b := 20) h (by decide)
theorem eq_20 {k : Nat} (h : k < 2 ^ 31) : nI k = (20 : Int32) ↔ k = 20 := nI_eq (b := 20) h (by decide)
theorem le_20 {k : Nat} (h : k ≤ 20) : nI k ≤ (20 : Int32) := nI_le (b := 20) h (by decide)
theorem lt_25 {k : Nat} (h : k < 25) : nI k < (25 : Int32) := nI_lt (b := 25) h (by decide)
theorem eq_25 {k : Nat} (h : k < 2 ^ 31) : nI k = (25 : Int32) ↔ k = 25 := nI_eq (b := 25) h (by decide)
theorem le_25 {k : Nat} (h : k ≤ 25) : nI k ≤ (25 : Int32) := nI_le (b := 25) h (by decide)
theorem lt_144 {k : Nat} (h : k < 144) : nI k < (144 : Int32) := nI_lt (b := 144) h (by decide)
theorem eq_144 {k : Nat} (h : k < 2 ^ 31) : nI k = (144 : Int32) ↔ k = 144 := nI_eq (b := 144) h (by decide)
theorem le_144 {k : Nat} (h : k ≤ 144) : nI k ≤ (144 : Int32) := nI_le (b := 144) h (by decide)
theorem eq_0 {k : Nat} (h : k < 2 ^ 31) : nI k = (0 : Int32) ↔ k = 0 := nI_eq (b := 0) h (by decide)
