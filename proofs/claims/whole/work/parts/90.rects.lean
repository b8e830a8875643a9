/-! ===== shaped: the model's rectangles and its strokes by number ===== -/
def rq : List (Nat × Nat × Nat × Nat) := (List.range 5).flatMap fun x => (List.range 5).flatMap fun y => (List.range (5 - x)).flatMap fun w => (List.range (5 - y)).map fun h => (x, y, w + 1, h + 1)
theorem rcs_rq : rcs = rq.map (fun q => boxN q.1 q.2.1 q.2.2.1 q.2.2.2) := by decide +kernel
theorem rq_len : rq.length = 225 := by decide +kernel
theorem rq_mem {x y w h : Nat} : (x, y, w, h) ∈ rq ↔ BX x y w h := by
  unfold rq BX
  simp only [List.mem_flatMap, List.mem_range, List.mem_map, Prod.mk.injEq]
  constructor
  · rintro ⟨x', h1, y', h2, w', h3, h', h4, rfl, rfl, rfl, rfl⟩
    exact ⟨by omega, by omega, by omega, by omega⟩
  · rintro ⟨h1, h2, h3, h4⟩
    exact ⟨x, by omega, y, by omega, w - 1, by omega, h - 1, by omega, rfl, rfl, by omega, by omega⟩
noncomputable def bxNOK (x y : Nat) : Bool := allb (fun w => allb (fun h => !decide (x + w < 5 ∧ y + h < 5) || decide (nI (boxN x y (w + 1) (h + 1)) = bx x y (w + 1) (h + 1))) 5) 5
theorem bxNOK_tab : ∀ x, x < 5 → ∀ y, y < 5 → bxNOK x y = true := by decide +kernel
theorem boxN_tab {x y w h : Nat} (h1 : x + w < 5) (h2 : y + h < 5) : nI (boxN x y (w + 1) (h + 1)) = bx x y (w + 1) (h + 1) := by
  have t := allb_iff.mp (allb_iff.mp (bxNOK_tab x (by omega) y (by omega)) w (by omega)) h (by omega)
  rw [decide_eq_true (show x + w < 5 ∧ y + h < 5 from ⟨h1, h2⟩)] at t
  exact of_decide_eq_true t
theorem nI_boxN {x y w h : Nat} (hB : BX x y w h) : nI (boxN x y w h) = bx x y w h := by
  obtain ⟨h1, h2, h3, h4⟩ := hB
  have t := boxN_tab (x := x) (y := y) (w := w - 1) (h := h - 1) (by omega) (by omega)
  rwa [show w - 1 + 1 = w by omega, show h - 1 + 1 = h by omega] at t
theorem rcs_at {k : Nat} {q : Nat × Nat × Nat × Nat} (h : rq[k]? = some q) : rcs.getD k 0 = boxN q.1 q.2.1 q.2.2.1 q.2.2.2 := by
  rw [rcs_rq, List.getD_eq_getElem?_getD, List.getElem?_map, h]
  rfl
theorem rcs_box {k : Nat} (hk : k < 225) : ∃ x y w h, BX x y w h ∧ nI (rcs.getD k 0) = bx x y w h := by
  obtain ⟨⟨x, y, w, h⟩, hq⟩ : ∃ q, rq[k]? = some q := ⟨_, List.getElem?_eq_getElem (by rw [rq_len]; exact hk)⟩
  have hB := rq_mem.mp (List.mem_of_getElem? hq)
  exact ⟨x, y, w, h, hB, by rw [rcs_at hq]; exact nI_boxN hB⟩
theorem box_rcs {x y w h : Nat} (hB : BX x y w h) : ∃ k, k < 225 ∧ nI (rcs.getD k 0) = bx x y w h := by
  obtain ⟨k, hk⟩ := List.mem_iff_getElem?.mp (rq_mem.mpr hB)
  obtain ⟨hl, _⟩ := List.getElem?_eq_some_iff.mp hk
  rw [rq_len] at hl
  exact ⟨k, hl, by rw [rcs_at hk]; exact nI_boxN hB⟩
noncomputable def sk (a : Int32) (k : Nat) : Int32 := if k < 450 then (if k % 2 = 0 then a &&& (nI (rcs.getD (k / 2) 0) ^^^ -1) else a ||| nI (rcs.getD (k / 2) 0)) else if k = 450 then tn a else fl a
theorem m_stroked {rect : Nat → Int32} (hR : ∀ k, k < 225 → rect k = nI (rcs.getD k 0)) (a : Int32) {k : Nat} (hk : k < 452) : f_X8_stroked rect a (nI k) = some (sk a k) := by
  unfold f_X8_stroked sk
  by_cases h : k < 450
  · rw [if_pos (show nI k < (450 : Int32) from nI_lt (b := 450) h (by decide)), if_pos h, show nI k - nI k / (2 : Int32) * (2 : Int32) = nI (k % 2) from pk_rem (d := 2) (by omega) (by decide) (by decide), show nI k / (2 : Int32) = nI (k / 2) from pk_div (d := 2) (by omega) (by decide) (by decide), chk_n (by omega) (by decide), nm_s, nI_clamp (by omega), hR (k / 2) (by omega)]
    by_cases z : k % 2 = 0
    · rw [if_pos z, z, if_pos (show nI 0 = 0 from rfl)]
    · rw [if_neg z, if_neg (fun q => z ((eq_0 (by omega)).mp q))]
  · rw [if_neg (show ¬ nI k < (450 : Int32) from nI_nlt (a := k) (b := 450) (by omega) (by omega)), if_neg h]
    by_cases z : k = 450
    · rw [if_pos z, z, if_pos (show nI 450 = (450 : Int32) from rfl), m_turned, bnd_s]
    · rw [if_neg z, if_neg (show ¬ nI k = (450 : Int32) from fun q => z ((nI_eq (b := 450) (by omega) (by decide)).mp q)), m_flipped, bnd_s]
theorem sk_iff {a b : Int32} : (∃ k, 0 ≤ k ∧ k < 452 ∧ sk a k = b) ↔ ST a b := by
  constructor
  · rintro ⟨k, _, hk, e⟩
    unfold sk at e
    by_cases h : k < 450
    · rw [if_pos h] at e
      obtain ⟨x, y, w, h', hB, ek⟩ := rcs_box (k := k / 2) (by omega)
      rw [ek] at e
      refine Or.inr (Or.inr ⟨x, y, w, h', hB, ?_⟩)
      by_cases z : k % 2 = 0
      · rw [if_pos z] at e; exact Or.inl e.symm
      · rw [if_neg z] at e; exact Or.inr e.symm
    · rw [if_neg h] at e
      by_cases z : k = 450
      · rw [if_pos z] at e; exact Or.inl e.symm
      · rw [if_neg z] at e; exact Or.inr (Or.inl e.symm)
  · rintro (e | e | ⟨x, y, w, h, hB, e⟩)
    · exact ⟨450, by omega, by omega, by unfold sk; rw [if_neg (by decide), if_pos rfl]; exact e.symm⟩
    · exact ⟨451, by omega, by omega, by unfold sk; rw [if_neg (by decide), if_neg (by decide)]; exact e.symm⟩
    · obtain ⟨k, hk, ek⟩ := box_rcs hB
      rcases e with e | e
      · refine ⟨2 * k, by omega, by omega, ?_⟩
        unfold sk
        rw [if_pos (by omega), if_pos (by omega), show 2 * k / 2 = k by omega, ek]
        exact e.symm
      · refine ⟨2 * k + 1, by omega, by omega, ?_⟩
        unfold sk
        rw [if_pos (by omega), if_neg (by omega), show (2 * k + 1) / 2 = k by omega, ek]
        exact e.symm
theorem m_find1 {w rect : Nat → Int32} {a0 b a t has : Int32} (hR : ∀ k, k < 225 → rect k = nI (rcs.getD k 0)) : YN (lp (fun q => f_X8_shaped_S64 w a0 b a t rect has q) (nI 0)) (ST a b) (.inl ()) (.inr ()) := by
  refine YN.iff (lp_find (f := fun q => f_X8_shaped_S64 w a0 b a t rect has q) (P := fun k => sk a k = b) (n := 452) ?_ 452 0 rfl (fun k _ hk => ?_)) sk_iff
  · show f_X8_shaped_S64 _ _ _ _ _ _ _ (nI 452) = _
    unfold f_X8_shaped_S64 f_X8_parts
    rw [nm_s, if_pos (show (452 : Int32) ≤ nI 452 from Int32.le_refl _)]
  · show YN (f_X8_shaped_S64 _ _ _ _ _ _ _ (nI k)) _ _ _
    unfold f_X8_shaped_S64 f_X8_parts
    rw [nm_s, if_neg (show ¬ (452 : Int32) ≤ nI k from nI_ge (b := 452) hk (by decide)), m_stroked hR a hk, bnd_s]
    by_cases z : sk a k = b
    · rw [if_pos z]; exact Or.inl ⟨z, rfl⟩
    · rw [if_neg z, nm_s, nI_1]; exact Or.inr ⟨z, rfl⟩
theorem m_find2 {w rect : Nat → Int32} {a0 b a t has l4 z : Int32} (hR : ∀ k, k < 225 → rect k = nI (rcs.getD k 0)) : YN (lp (fun q => f_X8_shaped_S114 w a0 b a t rect has l4 z q) (nI 0)) (ST z b) (.inl ()) (.inr ()) := by
  refine YN.iff (lp_find (f := fun q => f_X8_shaped_S114 w a0 b a t rect has l4 z q) (P := fun k => sk z k = b) (n := 452) ?_ 452 0 rfl (fun k _ hk => ?_)) sk_iff
  · show f_X8_shaped_S114 _ _ _ _ _ _ _ _ _ (nI 452) = _
    unfold f_X8_shaped_S114 f_X8_parts
    rw [nm_s, if_pos (show (452 : Int32) ≤ nI 452 from Int32.le_refl _)]
  · show YN (f_X8_shaped_S114 _ _ _ _ _ _ _ _ _ (nI k)) _ _ _
    unfold f_X8_shaped_S114 f_X8_parts
    rw [nm_s, if_neg (show ¬ (452 : Int32) ≤ nI k from nI_ge (b := 452) hk (by decide)), m_stroked hR z hk, bnd_s]
    by_cases z' : sk z k = b
    · rw [if_pos z']; exact Or.inl ⟨z', rfl⟩
    · rw [if_neg z', nm_s, nI_1]; exact Or.inr ⟨z', rfl⟩
theorem m_find3 {w rect : Nat → Int32} {a0 b a t has : Int32} (hR : ∀ k, k < 225 → rect k = nI (rcs.getD k 0)) : YN (lp (fun q => f_X8_shaped_S94 w a0 b a t rect has q) (nI 0)) (S2 a b) (.inl ()) (.inr ()) := by
  refine YN.iff (lp_find (f := fun q => f_X8_shaped_S94 w a0 b a t rect has q) (P := fun k => ST (sk a k) b) (n := 452) ?_ 452 0 rfl (fun k _ hk => ?_)) ?_
  · show f_X8_shaped_S94 _ _ _ _ _ _ _ (nI 452) = _
    unfold f_X8_shaped_S94 f_X8_parts
    rw [nm_s, if_pos (show (452 : Int32) ≤ nI 452 from Int32.le_refl _)]
  · show YN (f_X8_shaped_S94 _ _ _ _ _ _ _ (nI k)) _ _ _
    unfold f_X8_shaped_S94 f_X8_parts f_X8_shaped_J114
    rw [nm_s, if_neg (show ¬ (452 : Int32) ≤ nI k from nI_ge (b := 452) hk (by decide)), m_stroked hR a hk, bnd_s]
    refine yn_elim (m_find2 hR) rfl ?_
    show f_X8_shaped_J142 _ _ _ _ _ _ _ (nI k) = _
    unfold f_X8_shaped_J142
    rw [nm_s, nI_1]
  · constructor
    · rintro ⟨k, h0, hk, q⟩
      exact ⟨sk a k, sk_iff.mp ⟨k, h0, hk, rfl⟩, q⟩
    · rintro ⟨z, q1, q2⟩
      obtain ⟨k, h0, hk, e⟩ := sk_iff.mpr q1
      exact ⟨k, h0, hk, by rw [e]; exact q2⟩
theorem m_few {w rect : Nat → Int32} {a0 b a t has : Int32} (hR : ∀ k, k < 225 → rect k = nI (rcs.getD k 0)) : (if a = b then some ((0 : Int32), t, rect, has) else f_X8_shaped_J64 w a0 b a (0 : Int32) t rect has) = some (FS a b, t, rect, has) := by
  unfold FS
  by_cases e : a = b
  · rw [if_pos e, if_pos e]
  rw [if_neg e, if_neg e]
  unfold f_X8_shaped_J64
  show bnd (lp _ (nI 0)) _ = _
  rcases m_find1 (w := w) (a0 := a0) (b := b) (a := a) (t := t) (has := has) hR with ⟨p, e1⟩ | ⟨p, e1⟩
  · rw [e1, bnd_s, if_pos p]
    rfl
  rw [e1, bnd_s, if_neg p]
  show f_X8_shaped_J91 _ _ _ _ _ _ _ = _
  unfold f_X8_shaped_J91 f_X8_shaped_J94
  show bnd (lp _ (nI 0)) _ = _
  rcases m_find3 (w := w) (a0 := a0) (b := b) (a := a) (t := t) (has := has) hR with ⟨q, e2⟩ | ⟨q, e2⟩
  · rw [e2, bnd_s, if_pos q]
    rfl
  · rw [e2, bnd_s, if_neg q]
    rfl
