/-! ===== a new object ===== -/
theorem set0 : ∀ l, l < 4 → (upd (upd (upd (upd (fun _ => (0 : Int32)) 0 (-1)) 1 (-1)) 2 (-1)) 3 (-1)) l = -1 := by
  intro l hl
  rcases (show l = 0 ∨ l = 1 ∨ l = 2 ∨ l = 3 by omega) with rfl | rfl | rfl | rfl
  · rw [upd_ne (by omega), upd_ne (by omega), upd_ne (by omega), upd_same]
  · rw [upd_ne (by omega), upd_ne (by omega), upd_same]
  · rw [upd_ne (by omega), upd_same]
  · rw [upd_same]
theorem i0 : I0 Inv := by
  have lo : ∀ k, k < 44 → k ≠ 6 → (upd (upd (upd (upd (upd (fun _ => (0 : Int32)) 6 2) 44 (-1)) 45 (-1)) 46 (-1)) 47 (-1)) k = 0 := fun k hk h6 => by
    rw [upd_ne (by omega), upd_ne (by omega), upd_ne (by omega), upd_ne (by omega), upd_ne h6]
  have hi : ∀ l, l < 4 → (upd (upd (upd (upd (upd (fun _ => (0 : Int32)) 6 2) 44 (-1)) 45 (-1)) 46 (-1)) 47 (-1)) (44 + l) = -1 := fun l hl => by
    rcases (show l = 0 ∨ l = 1 ∨ l = 2 ∨ l = 3 by omega) with rfl | rfl | rfl | rfl
    · rw [upd_ne (by omega), upd_ne (by omega), upd_ne (by omega), Nat.add_zero, upd_same]
    · rw [upd_ne (by omega), upd_ne (by omega), upd_same]
    · rw [upd_ne (by omega), upd_same]
    · rw [upd_same]
  have w6 : (upd (upd (upd (upd (upd (fun _ => (0 : Int32)) 6 2) 44 (-1)) 45 (-1)) 46 (-1)) 47 (-1)) 6 = 2 := by
    rw [upd_ne (by omega), upd_ne (by omega), upd_ne (by omega), upd_ne (by omega), upd_same]
  refine ⟨⟨0, 0, 0, 0, 0, 0, ⟨by omega, by omega, by omega, by omega, by omega, by omega⟩, ⟨rfl, rfl, rfl, rfl, rfl, rfl⟩, ⟨lo 0 (by omega) (by omega), lo 1 (by omega) (by omega), lo 2 (by omega) (by omega), lo 3 (by omega) (by omega), lo 4 (by omega) (by omega), lo 5 (by omega) (by omega), w6, lo 7 (by omega) (by omega)⟩, Or.inl rfl, fun s hs => absurd hs (Nat.not_lt_zero s), fun s hs => absurd hs (Nat.not_lt_zero s), ⟨⟨fun l hl => Or.inl (set0 l hl), fun l k hl _ _ h => absurd (set0 l hl) h⟩, fun l hl => (hi l hl).trans (set0 l hl).symm⟩, ⟨fun s hs => absurd hs (Nat.not_lt_zero s), fun s hs => absurd hs (Nat.not_lt_zero s)⟩, fun s hs => absurd hs (Nat.not_lt_zero s), fun s hs => absurd hs (Nat.not_lt_zero s), fun s hs => absurd hs (Nat.not_lt_zero s)⟩, ⟨rfl, Or.inl rfl, fun h => absurd rfl h⟩, ⟨rfl, 0, Nat.zero_le _, rfl, rfl, fun i hi => absurd hi (Nat.not_lt_zero i)⟩, Or.inl rfl⟩
