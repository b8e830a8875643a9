/-! ===== cells as bits ===== -/
theorem bt_ones : ∀ j, j < 32 → bt (-17318417) j = !(decide (j < 25 ∧ j % 5 = 4)) := by decide +kernel
theorem bt_left : ∀ j, j < 32 → bt (-1082402) j = !(decide (j < 25 ∧ j % 5 = 0)) := by decide +kernel
theorem bt_all : ∀ j, j < 32 → bt 33554431 j = decide (j < 25) := by decide +kernel
theorem bt_edge : ∀ j, j < 32 → bt 33080895 j = decide (j < 25 ∧ (j < 5 ∨ 20 ≤ j ∨ j % 5 = 0 ∨ j % 5 = 4)) := by decide +kernel
theorem bt_one : ∀ j, j < 32 → bt 1 j = decide (j = 0) := by decide +kernel
def nbr (c w : Nat) : Nat := match w with
  | 0 => if 5 ≤ c then c - 5 else 25
  | 1 => if c % 5 < 4 then c + 1 else 25
  | 2 => if c < 20 then c + 5 else 25
  | _ => if 0 < c % 5 then c - 1 else 25
theorem m_beside : ∀ c, c < 25 → ∀ w, w < 4 → f_X8_beside (nI c) (nI w) = if nbr c w < 25 then nI (nbr c w) else -1 := by decide +kernel
theorem nbr_sym : ∀ c, c < 25 → ∀ o, o < 25 → ((∃ w, w < 4 ∧ nbr c w = o) ↔ ∃ w, w < 4 ∧ nbr o w = c) := by decide +kernel
theorem nbr_le : ∀ c, c < 25 → ∀ w, w < 4 → nbr c w ≤ 25 := by decide +kernel
def adj (x : Int32) (i : Nat) : Prop := ∃ w, w < 4 ∧ nbr i w < 25 ∧ bt x (nbr i w) = true
theorem bt31 {x : Int32} (h : C25 x) {i : Nat} (hi : 25 ≤ i) : bt x i = false := h i hi
theorem C25.and {x y : Int32} (h : C25 y) : C25 (x &&& y) := fun i hi => by rw [b_and, h i hi, Bool.and_false]
theorem C25.and' {x y : Int32} (h : C25 x) : C25 (x &&& y) := fun i hi => by rw [b_and, h i hi, Bool.false_and]
theorem C25.or {x y : Int32} (h : C25 x) (g : C25 y) : C25 (x ||| y) := fun i hi => by rw [b_or, h i hi, g i hi]; rfl
theorem C25.xor {x y : Int32} (h : C25 x) (g : C25 y) : C25 (x ^^^ y) := fun i hi => by rw [b_xor, h i hi, g i hi]; rfl
theorem C25.zero : C25 0 := fun i _ => b_0 i
theorem C25.all : C25 33554431 := fun i hi => by
  by_cases h : i < 32
  · rw [bt_all i h]; exact decide_eq_false (by omega)
  · exact b_big (by omega)
theorem C25.ext {x y : Int32} (h : C25 x) (g : C25 y) (e : ∀ i, i < 25 → bt x i = bt y i) : x = y := b_ext (fun i _ => by
  by_cases q : i < 25
  · exact e i q
  · rw [h i (by omega), g i (by omega)])
theorem C25.beside (x : Int32) : C25 (f_X0_beside x) := by unfold f_X0_beside; rw [nm_s]; exact C25.all.and
theorem bt_beside {x : Int32} (h : C25 x) {i : Nat} (hi : i < 25) : bt (f_X0_beside x) i = true ↔ adj x i := by
  unfold f_X0_beside
  rw [nm_s, b_and, bt_all i (by omega), decide_eq_true hi, Bool.and_true, b_or, b_or, b_or,
    show (1 : Int32) = nI 1 from rfl, show (5 : Int32) = nI 5 from rfl, b_shl 1 (by decide) _ (by omega), b_sshr 1 (by decide) _ (by omega), b_shl 5 (by decide) _ (by omega), b_sshr 5 (by decide) _ (by omega),
    if_pos (by omega), if_pos (by omega), b_and, b_and, bt_ones (i - 1) (by omega), bt_left (1 + i) (by omega)]
  simp only [Bool.or_eq_true, Bool.and_eq_true, decide_eq_true_eq, Bool.not_eq_true', decide_eq_false_iff_not]
  unfold adj
  constructor
  · rintro (((⟨h1, h2, h3⟩ | ⟨h2, h3⟩) | ⟨h1, h2⟩) | h2)
    · exact ⟨3, by decide, by show (if 0 < i % 5 then i - 1 else 25) < 25; rw [if_pos (by omega)]; omega, by show bt x (if 0 < i % 5 then i - 1 else 25) = true; rw [if_pos (by omega)]; exact h2⟩
    · have q : 1 + i < 25 := by
        by_cases q : 1 + i < 25
        · exact q
        · rw [h (1 + i) (by omega)] at h2; cases h2
      exact ⟨1, by decide, by show (if i % 5 < 4 then i + 1 else 25) < 25; rw [if_pos (by omega)]; omega, by show bt x (if i % 5 < 4 then i + 1 else 25) = true; rw [if_pos (by omega), Nat.add_comm]; exact h2⟩
    · exact ⟨0, by decide, by show (if 5 ≤ i then i - 5 else 25) < 25; rw [if_pos (by omega)]; omega, by show bt x (if 5 ≤ i then i - 5 else 25) = true; rw [if_pos (by omega)]; exact h2⟩
    · have q : 5 + i < 25 := by
        by_cases q : 5 + i < 25
        · exact q
        · rw [h (5 + i) (by omega)] at h2; cases h2
      exact ⟨2, by decide, by show (if i < 20 then i + 5 else 25) < 25; rw [if_pos (by omega)]; omega, by show bt x (if i < 20 then i + 5 else 25) = true; rw [if_pos (by omega), Nat.add_comm]; exact h2⟩
  · rintro ⟨w, hw, h1, h2⟩
    rcases (show w = 0 ∨ w = 1 ∨ w = 2 ∨ w = 3 by omega) with rfl | rfl | rfl | rfl
    · by_cases q : 5 ≤ i
      · have e : nbr i 0 = i - 5 := if_pos q
        rw [e] at h2
        exact Or.inl (Or.inr ⟨q, h2⟩)
      · have e : nbr i 0 = 25 := if_neg q
        omega
    · by_cases q : i % 5 < 4
      · have e : nbr i 1 = i + 1 := if_pos q
        rw [e, Nat.add_comm] at h2
        exact Or.inl (Or.inl (Or.inr ⟨h2, by omega⟩))
      · have e : nbr i 1 = 25 := if_neg q
        omega
    · by_cases q : i < 20
      · have e : nbr i 2 = i + 5 := if_pos q
        rw [e, Nat.add_comm] at h2
        exact Or.inr h2
      · have e : nbr i 2 = 25 := if_neg q
        omega
    · by_cases q : 0 < i % 5
      · have e : nbr i 3 = i - 1 := if_pos q
        rw [e] at h2
        exact Or.inl (Or.inl (Or.inl ⟨by omega, h2, by omega⟩))
      · have e : nbr i 3 = 25 := if_neg q
        omega
theorem and1 (y : Int32) : y &&& 1 = if bt y 0 = true then 1 else 0 := by
  refine b_ext (fun i hi => ?_)
  rw [b_and, bt_one i hi]
  by_cases q : i = 0
  · subst q
    by_cases z : bt y 0 = true
    · rw [z, if_pos rfl]; rfl
    · rw [if_neg z, b_0]; simp at z; rw [z]; rfl
  · rw [decide_eq_false q, Bool.and_false]
    by_cases z : bt y 0 = true
    · rw [if_pos z, bt_one i hi, decide_eq_false q]
    · rw [if_neg z, b_0]
theorem bt_shr0 (x : Int32) {c : Nat} (hc : c < 32) : bt (x >>> (nI c &&& 31)) 0 = bt x c := by rw [b_sshr c hc _ (by decide), if_pos (by omega), Nat.add_zero]
theorem m_has (x : Int32) {c : Nat} (hc : c < 32) : f_X8_has x (nI c) = if bt x c = true then 1 else 0 := by
  unfold f_X8_has
  rw [and1, bt_shr0 x hc]
  by_cases z : bt x c = true
  · rw [if_pos z, if_pos rfl]
  · rw [if_neg z, if_neg (by decide)]
theorem bt_bit {c i : Nat} (hc : c < 32) (hi : i < 32) : bt ((1 : Int32) <<< (nI c &&& 31)) i = decide (i = c) := by
  rw [b_shl c hc _ hi, bt_one (i - c) (by omega), ← Bool.decide_and]
  exact decide_eq_decide.mpr (by omega)
theorem bt_not (x : Int32) {i : Nat} (hi : i < 32) : bt (x ^^^ -1) i = !bt x i := by rw [b_xor, b_m1 i hi, Bool.xor_true]
