/-! ===== kinds, boxes, pairs ===== -/
theorem wdb_12 (B : Nat → Nat) (k b a : Nat) : wdb B (12 + k) b a = wdb B k b a := by
  unfold wdb wl
  rw [Nat.add_mod_left]
theorem wl_dist : ∀ k, k < 12 → ∀ k', k' < 12 → k ≠ k' → ¬ ((wl k).length = (wl k').length ∧ (wl k).getD 0 0 = (wl k').getD 0 0) := by decide +kernel
theorem wdb_one {B : Nat → Nat} {k k' b a : Nat} (hk : k < 12) (hk' : k' < 12) (hn : k ≠ k') (h : wdb B k b a = true) : wdb B k' b a = false := by
  cases e : wdb B k' b a with
  | false => rfl
  | true =>
    unfold wdb at h e
    rw [Bool.and_eq_true] at h e
    have l1 := wl_tab k (by omega)
    have l2 := wl_tab k' (by omega)
    have a1 := of_decide_eq_true h.1
    have a2 := of_decide_eq_true e.1
    have c1 := of_decide_eq_true (allb_iff.mp h.2 0 (by omega))
    have c2 := of_decide_eq_true (allb_iff.mp e.2 0 (by omega))
    exact absurd ⟨by omega, by rw [← c1, ← c2]⟩ (wl_dist k hk k' hk' hn)
def kd (B : Nat → Nat) (g b a : Nat) : Nat := if wdb B (4 * g) b a = true then 0 else if wdb B (4 * g + 1) b a = true then 1 else if wdb B (4 * g + 2) b a = true then 2 else if wdb B (4 * g + 3) b a = true then 3 else 4
theorem kd_cases {B : Nat → Nat} {g b a : Nat} (hg : g < 3) :
    (kd B g b a = 0 ∧ wdb B (4 * g) b a = true ∧ wdb B (4 * g + 1) b a = false ∧ wdb B (4 * g + 2) b a = false ∧ wdb B (4 * g + 3) b a = false) ∨
    (kd B g b a = 1 ∧ wdb B (4 * g) b a = false ∧ wdb B (4 * g + 1) b a = true ∧ wdb B (4 * g + 2) b a = false ∧ wdb B (4 * g + 3) b a = false) ∨
    (kd B g b a = 2 ∧ wdb B (4 * g) b a = false ∧ wdb B (4 * g + 1) b a = false ∧ wdb B (4 * g + 2) b a = true ∧ wdb B (4 * g + 3) b a = false) ∨
    (kd B g b a = 3 ∧ wdb B (4 * g) b a = false ∧ wdb B (4 * g + 1) b a = false ∧ wdb B (4 * g + 2) b a = false ∧ wdb B (4 * g + 3) b a = true) ∨
    (kd B g b a = 4 ∧ wdb B (4 * g) b a = false ∧ wdb B (4 * g + 1) b a = false ∧ wdb B (4 * g + 2) b a = false ∧ wdb B (4 * g + 3) b a = false) := by
  unfold kd
  cases e0 : wdb B (4 * g) b a with
  | true => exact Or.inl ⟨if_pos rfl, rfl, wdb_one (by omega) (by omega) (by omega) e0, wdb_one (by omega) (by omega) (by omega) e0, wdb_one (by omega) (by omega) (by omega) e0⟩
  | false =>
    cases e1 : wdb B (4 * g + 1) b a with
    | true => exact Or.inr (Or.inl ⟨by rw [if_neg (by decide), if_pos rfl], rfl, rfl, wdb_one (by omega) (by omega) (by omega) e1, wdb_one (by omega) (by omega) (by omega) e1⟩)
    | false =>
      cases e2 : wdb B (4 * g + 2) b a with
      | true => exact Or.inr (Or.inr (Or.inl ⟨by rw [if_neg (by decide), if_neg (by decide), if_pos rfl], rfl, rfl, rfl, wdb_one (by omega) (by omega) (by omega) e2⟩))
      | false =>
        cases e3 : wdb B (4 * g + 3) b a with
        | true => exact Or.inr (Or.inr (Or.inr (Or.inl ⟨by rw [if_neg (by decide), if_neg (by decide), if_neg (by decide), if_pos rfl], rfl, rfl, rfl, rfl⟩)))
        | false => exact Or.inr (Or.inr (Or.inr (Or.inr ⟨by rw [if_neg (by decide), if_neg (by decide), if_neg (by decide), if_neg (by decide)], rfl, rfl, rfl, rfl⟩)))
theorem kd_le {B : Nat → Nat} {g b a : Nat} (hg : g < 3) : kd B g b a ≤ 4 := by
  rcases kd_cases (B := B) (b := b) (a := a) hg with h | h | h | h | h <;> rw [h.1] <;> decide
theorem wordOf_tab : ∀ g, g < 3 → ∀ k, k < 4 → f_X5_wordOf (nI g) (nI k) = 4 * g + k := by decide +kernel
theorem c_kind {bytes tape : Nat → Int32} {B : Nat → Nat} {N g j w : Nat} (h : TB bytes tape B N) (hj : j ≤ w) (hw : w ≤ N) (hg : g < 3) : f_X5_kindOf bytes (nI w) (nI g) (nI j) = some (if kd B g j w = 4 then -1 else nI (kd B g j w)) := by
  unfold f_X5_kindOf f_X5_kindOf_J2
  have st : ∀ k, k < 4 → wdb B (4 * g + k) j w = false → f_X5_kindOf_S2 bytes (nI w) (nI g) (nI j) (nI k) = some (.inl (nI (k + 1))) := by
    intro k hk e
    unfold f_X5_kindOf_S2
    rw [if_neg (show ¬ (4 : Int32) ≤ nI k from nI_ge (b := 4) hk (by decide)), nm_s, wordOf_tab g hg k hk, gd_eq (decide_eq_true (by omega)), c_wordIs h hj hw (by omega), bnd_s, e, if_pos (show b2 false = 0 from rfl), nm_s, nI_1]
  have ex : ∀ k, k < 4 → wdb B (4 * g + k) j w = true → f_X5_kindOf_S2 bytes (nI w) (nI g) (nI j) (nI k) = some (.inr (Sum.inl (nI k))) := by
    intro k hk e
    unfold f_X5_kindOf_S2
    rw [if_neg (show ¬ (4 : Int32) ≤ nI k from nI_ge (b := 4) hk (by decide)), nm_s, wordOf_tab g hg k hk, gd_eq (decide_eq_true (by omega)), c_wordIs h hj hw (by omega), bnd_s, e, if_neg (show ¬ b2 true = 0 by decide)]
  rcases kd_cases (B := B) (b := j) (a := w) hg with q | q | q | q | q <;> obtain ⟨q0, q1, q2, q3, q4⟩ := q <;> rw [q0]
  · rw [show lp (fun q => f_X5_kindOf_S2 bytes (nI w) (nI g) (nI j) q) (0 : Int32) = some (Sum.inl (nI 0)) from lp_exit (ex 0 (by decide) q1), bnd_s]; rfl
  · rw [show lp (fun q => f_X5_kindOf_S2 bytes (nI w) (nI g) (nI j) q) (0 : Int32) = some (Sum.inl (nI 1)) from lp_go (st 0 (by decide) q1) (lp_exit (ex 1 (by decide) q2)), bnd_s]; rfl
  · rw [show lp (fun q => f_X5_kindOf_S2 bytes (nI w) (nI g) (nI j) q) (0 : Int32) = some (Sum.inl (nI 2)) from lp_go (st 0 (by decide) q1) (lp_go (st 1 (by decide) q2) (lp_exit (ex 2 (by decide) q3))), bnd_s]; rfl
  · rw [show lp (fun q => f_X5_kindOf_S2 bytes (nI w) (nI g) (nI j) q) (0 : Int32) = some (Sum.inl (nI 3)) from lp_go (st 0 (by decide) q1) (lp_go (st 1 (by decide) q2) (lp_go (st 2 (by decide) q3) (lp_exit (ex 3 (by decide) q4)))), bnd_s]; rfl
  · rw [show lp (fun q => f_X5_kindOf_S2 bytes (nI w) (nI g) (nI j) q) (0 : Int32) = some (Sum.inr ()) from lp_go (st 0 (by decide) q1) (lp_go (st 1 (by decide) q2) (lp_go (st 2 (by decide) q3) (lp_go (st 3 (by decide) q4) (lp_exit (by unfold f_X5_kindOf_S2; rw [if_pos (show (4 : Int32) ≤ nI (3 + 1) by decide)]))))), bnd_s]; rfl
/-! boxes -/
theorem nm_ok {B : Nat → Nat} {N i : Nat} {lo hi : Int32} (hi' : i ≤ N) (h : nmOK B N i lo hi = true) : nmV B N i < 100 ∧ lo.toInt ≤ nmV B N i ∧ (nmV B N i : Int) ≤ hi.toInt := by
  obtain ⟨h1, h2, h3, h4⟩ := of_decide_eq_true h
  exact ⟨(nm_val hi' h1 h2).2, h3, h4⟩
theorem nI_nn {n : Nat} (h : n < 100) : ¬ nI n = (-1 : Int32) := by
  rw [eq_i, nI_toInt (by omega)]
  show ¬ (n : Int) = -1
  omega
/-- a box: well formed, where it ends or fails, x, y, w, h -/
def bxp (B : Nat → Nat) (N i : Nat) (s : Int32) : Bool × Nat × Nat × Nat × Nat × Nat :=
  if nmOK B N i 0 (s - 1) = true then
    if nmOK B N (nmE B N i) 0 (s - 1) = true then
      if nmOK B N (nmE B N (nmE B N i)) 1 (s - nI (nmV B N i)) = true then
        if nmOK B N (nmE B N (nmE B N (nmE B N i))) 1 (s - nI (nmV B N (nmE B N i))) = true then
          (true, nmE B N (nmE B N (nmE B N (nmE B N i))), nmV B N i, nmV B N (nmE B N i), nmV B N (nmE B N (nmE B N i)), nmV B N (nmE B N (nmE B N (nmE B N i))))
        else (false, nmJ B N (nmE B N (nmE B N (nmE B N i))), 0, 0, 0, 0)
      else (false, nmJ B N (nmE B N (nmE B N i)), 0, 0, 0, 0)
    else (false, nmJ B N (nmE B N i), 0, 0, 0, 0)
  else (false, nmJ B N i, 0, 0, 0, 0)
theorem bxp_le {B : Nat → Nat} {N i : Nat} {s : Int32} (hi : i ≤ N) : i ≤ (bxp B N i s).2.1 ∧ (bxp B N i s).2.1 ≤ N := by
  obtain ⟨a1, a2, a3⟩ := nm_facts (B := B) hi
  obtain ⟨b1, b2', b3⟩ := nm_facts (B := B) a3
  obtain ⟨c1, c2, c3⟩ := nm_facts (B := B) b3
  obtain ⟨d1, d2, d3⟩ := nm_facts (B := B) c3
  unfold bxp
  split
  · split
    · split
      · split
        · exact ⟨by show i ≤ nmE B N _; omega, d3⟩
        · exact ⟨by show i ≤ nmJ B N _; omega, by show nmJ B N _ ≤ N; omega⟩
      · exact ⟨by show i ≤ nmJ B N _; omega, by show nmJ B N _ ≤ N; omega⟩
    · exact ⟨by show i ≤ nmJ B N _; omega, by show nmJ B N _ ≤ N; omega⟩
  · exact ⟨a1, by show nmJ B N _ ≤ N; omega⟩
theorem bxp_in {B : Nat → Nat} {N i s : Nat} (hs : 1 ≤ s ∧ s ≤ 12) (hi : i ≤ N) (h : (bxp B N i (nI s)).1 = true) : (bxp B N i (nI s)).2.2.1 < s ∧ (bxp B N i (nI s)).2.2.2.1 < s ∧ 1 ≤ (bxp B N i (nI s)).2.2.2.2.1 ∧ (bxp B N i (nI s)).2.2.1 + (bxp B N i (nI s)).2.2.2.2.1 ≤ s ∧ 1 ≤ (bxp B N i (nI s)).2.2.2.2.2 ∧ (bxp B N i (nI s)).2.2.2.1 + (bxp B N i (nI s)).2.2.2.2.2 ≤ s := by
  obtain ⟨a1, a2, a3⟩ := nm_facts (B := B) hi
  obtain ⟨b1, b2', b3⟩ := nm_facts (B := B) a3
  obtain ⟨c1, c2, c3⟩ := nm_facts (B := B) b3
  have hs1 : nI s - 1 = nI (s - 1) := pk_sub (b := 1) hs.1
  unfold bxp at h ⊢
  rw [hs1] at h ⊢
  by_cases q1 : nmOK B N i 0 (nI (s - 1)) = true
  · rw [if_pos q1] at h ⊢
    obtain ⟨x1, x2, x3⟩ := nm_ok hi q1
    rw [nI_toInt (by omega)] at x3
    by_cases q2 : nmOK B N (nmE B N i) 0 (nI (s - 1)) = true
    · rw [if_pos q2] at h ⊢
      obtain ⟨y1, y2, y3⟩ := nm_ok a3 q2
      rw [nI_toInt (by omega)] at y3
      rw [pk_sub (show nmV B N i ≤ s by omega), pk_sub (show nmV B N (nmE B N i) ≤ s by omega)] at h ⊢
      by_cases q3 : nmOK B N (nmE B N (nmE B N i)) 1 (nI (s - nmV B N i)) = true
      · rw [if_pos q3] at h ⊢
        obtain ⟨w1, w2, w3⟩ := nm_ok b3 q3
        rw [nI_toInt (by omega)] at w3
        have w2' : (1 : Int) ≤ (nmV B N (nmE B N (nmE B N i)) : Int) := w2
        by_cases q4 : nmOK B N (nmE B N (nmE B N (nmE B N i))) 1 (nI (s - nmV B N (nmE B N i))) = true
        · rw [if_pos q4] at h ⊢
          obtain ⟨h1, h2, h3⟩ := nm_ok c3 q4
          rw [nI_toInt (by omega)] at h3
          have h2' : (1 : Int) ≤ (nmV B N (nmE B N (nmE B N (nmE B N i))) : Int) := h2
          dsimp only
          omega
        · rw [if_neg q4] at h; cases h
      · rw [if_neg q3] at h; cases h
    · rw [if_neg q2] at h; cases h
  · rw [if_neg q1] at h; cases h
theorem c_pbox {bytes tape fd : Nat → Int32} {B : Nat → Nat} {N i a : Nat} {s : Int32} (h : TB bytes tape B N) (hi : i ≤ N) (ha : a + 4 < 100) : ∃ fd', f_X5_parseBox bytes fd (nI i) (nI N) s (nI a) = some (b2 (bxp B N i s).1, fd', nI (bxp B N i s).2.1) ∧ ((bxp B N i s).1 = true → fd' = upd (upd (upd (upd fd (a + 1) (nI (bxp B N i s).2.2.1)) (a + 2) (nI (bxp B N i s).2.2.2.1)) (a + 3) (nI (bxp B N i s).2.2.2.2.1)) (a + 4) (nI (bxp B N i s).2.2.2.2.2)) := by
  obtain ⟨a1, a2, a3⟩ := nm_facts (B := B) hi
  obtain ⟨b1, b2', b3⟩ := nm_facts (B := B) a3
  obtain ⟨c1, c2, c3⟩ := nm_facts (B := B) b3
  unfold f_X5_parseBox bxp
  rw [c_number h hi, bnd_s]
  by_cases q1 : nmOK B N i 0 (s - 1) = true
  · rw [if_pos q1, if_pos q1]
    obtain ⟨x1, _⟩ := nm_ok hi q1
    dsimp only
    rw [if_neg (nI_nn x1), c_number h a3, bnd_s]
    by_cases q2 : nmOK B N (nmE B N i) 0 (s - 1) = true
    · rw [if_pos q2, if_pos q2]
      obtain ⟨y1, _⟩ := nm_ok a3 q2
      dsimp only
      rw [if_neg (nI_nn y1), c_number h b3, bnd_s]
      by_cases q3 : nmOK B N (nmE B N (nmE B N i)) 1 (s - nI (nmV B N i)) = true
      · rw [if_pos q3, if_pos q3]
        obtain ⟨w1, _⟩ := nm_ok b3 q3
        dsimp only
        rw [if_neg (nI_nn w1), c_number h c3, bnd_s, show nI a + (1 : Int32) = nI (a + 1) from nI_1 _, show nI a + (2 : Int32) = nI (a + 2) from nI_add a 2, show nI a + (3 : Int32) = nI (a + 3) from nI_add a 3, show nI a + (4 : Int32) = nI (a + 4) from nI_add a 4, chk_n (by omega) (by decide), nm_s, chk_n (by omega) (by decide), nm_s, chk_n (by omega) (by decide), nm_s, chk_n (by omega) (by decide), nm_s, nI_clamp (by omega), nI_clamp (by omega), nI_clamp (by omega), nI_clamp (by omega)]
        by_cases q4 : nmOK B N (nmE B N (nmE B N (nmE B N i))) 1 (s - nI (nmV B N (nmE B N i))) = true
        · rw [if_pos q4, if_pos q4]
          obtain ⟨h1, _⟩ := nm_ok c3 q4
          dsimp only
          rw [if_neg (nI_nn h1)]
          exact ⟨_, rfl, fun _ => rfl⟩
        · rw [if_neg q4, if_neg q4]
          dsimp only
          rw [if_pos rfl]
          exact ⟨_, rfl, fun z => by cases z⟩
      · rw [if_neg q3, if_neg q3]
        dsimp only
        rw [if_pos rfl]
        exact ⟨_, rfl, fun z => by cases z⟩
    · rw [if_neg q2, if_neg q2]
      dsimp only
      rw [if_pos rfl]
      exact ⟨_, rfl, fun z => by cases z⟩
  · rw [if_neg q1, if_neg q1]
    dsimp only
    rw [if_pos rfl]
    exact ⟨_, rfl, fun z => by cases z⟩
theorem m_part {bytes tape : Nat → Int32} {B : Nat → Nat} {N i : Nat} {s bg px py pw ph : Int32} (h : TB bytes tape B N) (hi : i ≤ N) : ∃ pt bg' px' py' pw' ph', f_X8_readPart tape (nI i) (nI N) bg px py pw ph s = some (b2 (bxp B N i s).1, pt, bg', px', py', pw', ph') ∧ ((bxp B N i s).1 = true → pt = nI (bxp B N i s).2.1 ∧ px' = nI (bxp B N i s).2.2.1 ∧ py' = nI (bxp B N i s).2.2.2.1 ∧ pw' = nI (bxp B N i s).2.2.2.2.1 ∧ ph' = nI (bxp B N i s).2.2.2.2.2) ∧ ((bxp B N i s).1 = false → bg' = nI (bxp B N i s).2.1) := by
  obtain ⟨a1, a2, a3⟩ := nm_facts (B := B) hi
  obtain ⟨b1, b2', b3⟩ := nm_facts (B := B) a3
  obtain ⟨c1, c2, c3⟩ := nm_facts (B := B) b3
  have n1 : ¬ (0 : Int32) ≤ -1 := by decide
  have n2 : (-1 : Int32) ≤ 0 := by decide
  have n3 : ∀ n, n < 100 → (0 : Int32) ≤ nI n := fun n hn => nI_le (a := 0) (Nat.zero_le _) (by omega)
  unfold f_X8_readPart bxp
  rw [m_number h hi, bnd_s]
  by_cases q1 : nmOK B N i 0 (s - 1) = true
  · rw [if_pos q1, if_pos q1]
    obtain ⟨x1, _⟩ := nm_ok hi q1
    dsimp only
    rw [if_pos (n3 _ x1), m_number h a3, bnd_s]
    by_cases q2 : nmOK B N (nmE B N i) 0 (s - 1) = true
    · rw [if_pos q2, if_pos q2]
      obtain ⟨y1, _⟩ := nm_ok a3 q2
      dsimp only
      unfold f_X8_readPart_J32
      rw [if_pos (n3 _ y1), m_number h b3, bnd_s]
      by_cases q3 : nmOK B N (nmE B N (nmE B N i)) 1 (s - nI (nmV B N i)) = true
      · rw [if_pos q3, if_pos q3]
        obtain ⟨w1, _⟩ := nm_ok b3 q3
        dsimp only
        unfold f_X8_readPart_J58
        rw [if_pos (n3 _ w1), m_number h c3, bnd_s]
        by_cases q4 : nmOK B N (nmE B N (nmE B N (nmE B N i))) 1 (s - nI (nmV B N (nmE B N i))) = true
        · rw [if_pos q4, if_pos q4]
          obtain ⟨h1, h2, _⟩ := nm_ok c3 q4
          have h2' : (1 : Int) ≤ (nmV B N (nmE B N (nmE B N (nmE B N i))) : Int) := h2
          dsimp only
          unfold f_X8_readPart_J84
          rw [if_neg (show ¬ nI (nmV B N (nmE B N (nmE B N (nmE B N i)))) ≤ 0 by rw [le_i, nI_toInt (by omega)]; show ¬ (_ : Int) ≤ 0; omega)]
          exact ⟨_, _, _, _, _, _, rfl, fun _ => ⟨rfl, rfl, rfl, rfl, rfl⟩, fun z => by cases z⟩
        · rw [if_neg q4, if_neg q4]
          dsimp only
          unfold f_X8_readPart_J84
          rw [if_pos n2]
          exact ⟨_, _, _, _, _, _, rfl, (fun z => by cases z), fun _ => rfl⟩
      · rw [if_neg q3, if_neg q3]
        dsimp only
        unfold f_X8_readPart_J58
        rw [if_neg n1]
        unfold f_X8_readPart_J84
        rw [if_pos n2]
        exact ⟨_, _, _, _, _, _, rfl, (fun z => by cases z), fun _ => rfl⟩
    · rw [if_neg q2, if_neg q2]
      dsimp only
      unfold f_X8_readPart_J32
      rw [if_neg n1]
      unfold f_X8_readPart_J58
      rw [if_neg n1]
      unfold f_X8_readPart_J84
      rw [if_pos n2]
      exact ⟨_, _, _, _, _, _, rfl, (fun z => by cases z), fun _ => rfl⟩
  · rw [if_neg q1, if_neg q1]
    dsimp only
    rw [if_neg n1]
    unfold f_X8_readPart_J32
    rw [if_neg n1]
    unfold f_X8_readPart_J58
    rw [if_neg n1]
    unfold f_X8_readPart_J84
    rw [if_pos n2]
    exact ⟨_, _, _, _, _, _, rfl, (fun z => by cases z), fun _ => rfl⟩
/-! pairs -/
theorem nmJ_idem {B : Nat → Nat} {N i : Nat} (hi : i ≤ N) : nmJ B N (nmJ B N i) = nmJ B N i := by
  obtain ⟨h1, h2, _, h4⟩ := rn_facts (bkp B) hi
  unfold nmJ
  refine rn_stop ?_
  rcases (show rn (bkp B) N i < N ∨ N ≤ rn (bkp B) N i by omega) with q | q
  · exact Or.inl (h4 q)
  · exact Or.inr q
theorem nmE_idem {B : Nat → Nat} {N i : Nat} (hi : i ≤ N) : nmE B N (nmJ B N i) = nmE B N i := by
  show rn (dgp B) N (nmJ B N (nmJ B N i)) = rn (dgp B) N (nmJ B N i)
  rw [nmJ_idem hi]
theorem nmV_idem {B : Nat → Nat} {N i : Nat} (hi : i ≤ N) : nmV B N (nmJ B N i) = nmV B N i := by
  unfold nmV
  rw [nmE_idem hi, nmJ_idem hi]
theorem nmOK_idem {B : Nat → Nat} {N i : Nat} {lo h : Int32} (hi : i ≤ N) : nmOK B N (nmJ B N i) lo h = nmOK B N i lo h := by
  unfold nmOK
  rw [nmE_idem hi, nmJ_idem hi, nmV_idem hi]
/-- a pair: well formed, where it ends or fails, the two numbers -/
def prp (B : Nat → Nat) (N i k : Nat) (sh sl : Int32) : Bool × Nat × Nat × Nat :=
  if nmOK B N i 0 (sh - 1) = true then
    if nmOK B N (nmE B N i) 0 ((if k = 0 then sl else sh) - 1) = true then
      if k ≠ 0 ∧ nmV B N i = nmV B N (nmE B N i) then (false, nmJ B N (nmE B N i), 0, 0)
      else (true, nmE B N (nmE B N i), nmV B N i, nmV B N (nmE B N i))
    else (false, nmJ B N (nmE B N i), 0, 0)
  else (false, nmJ B N i, 0, 0)
theorem prp_le {B : Nat → Nat} {N i k : Nat} {sh sl : Int32} (hi : i ≤ N) : i ≤ (prp B N i k sh sl).2.1 ∧ (prp B N i k sh sl).2.1 ≤ N := by
  obtain ⟨a1, a2, a3⟩ := nm_facts (B := B) hi
  obtain ⟨b1, b2', b3⟩ := nm_facts (B := B) a3
  unfold prp
  generalize (if k = 0 then sl else sh) - 1 = hh
  split
  · split
    · split
      · exact ⟨by show i ≤ nmJ B N _; omega, by show nmJ B N _ ≤ N; omega⟩
      · exact ⟨by show i ≤ nmE B N _; omega, b3⟩
    · exact ⟨by show i ≤ nmJ B N _; omega, by show nmJ B N _ ≤ N; omega⟩
  · exact ⟨a1, by show nmJ B N _ ≤ N; omega⟩
theorem prp_in {B : Nat → Nat} {N i k ns nl : Nat} (hns : ns ≤ 6) (hnl : nl ≤ 4) (hi : i ≤ N) (h : (prp B N i k (nI ns) (nI nl)).1 = true) : (prp B N i k (nI ns) (nI nl)).2.2.1 < ns ∧ (k = 0 → (prp B N i k (nI ns) (nI nl)).2.2.2 < nl) ∧ (k ≠ 0 → (prp B N i k (nI ns) (nI nl)).2.2.2 < ns) := by
  obtain ⟨a1, a2, a3⟩ := nm_facts (B := B) hi
  have key : ∀ n v : Nat, n ≤ 6 → (v : Int) ≤ (nI n - 1).toInt → v < n := by
    intro n v hn hv
    cases n with
    | zero => have e : (nI 0 - 1).toInt = -1 := by decide
              rw [e] at hv; omega
    | succ n => rw [show nI (n + 1) - 1 = nI n from pk_sub (a := n + 1) (b := 1) (by omega), nI_toInt (by omega)] at hv; omega
  unfold prp at h ⊢
  by_cases q1 : nmOK B N i 0 (nI ns - 1) = true
  · rw [if_pos q1] at h ⊢
    have x := key ns _ hns (nm_ok hi q1).2.2
    by_cases q2 : nmOK B N (nmE B N i) 0 ((if k = 0 then nI nl else nI ns) - 1) = true
    · rw [if_pos q2] at h ⊢
      by_cases q3 : k ≠ 0 ∧ nmV B N i = nmV B N (nmE B N i)
      · rw [if_pos q3] at h; cases h
      · rw [if_neg q3] at h ⊢
        refine ⟨x, fun e => ?_, fun e => ?_⟩
        · rw [if_pos e] at q2
          exact key nl _ (by omega) (nm_ok a3 q2).2.2
        · rw [if_neg e] at q2
          exact key ns _ hns (nm_ok a3 q2).2.2
    · rw [if_neg q2] at h; cases h
  · rw [if_neg q1] at h; cases h
theorem c_ppair {bytes tape fd : Nat → Int32} {B : Nat → Nat} {N i a k : Nat} {sh sl : Int32} (h : TB bytes tape B N) (hi : i ≤ N) (ha : a + 4 < 100) (hk : k < 4) : ∃ fd', f_X5_parsePair bytes fd (nI i) (nI N) sh sl (nI k) (nI a) = some (b2 (prp B N i k sh sl).1, fd', nI (prp B N i k sh sl).2.1) ∧ ((prp B N i k sh sl).1 = true → fd' = upd (upd fd (a + 1) (nI (prp B N i k sh sl).2.2.1)) (a + 2) (nI (prp B N i k sh sl).2.2.2)) := by
  obtain ⟨a1, a2, a3⟩ := nm_facts (B := B) hi
  obtain ⟨b1, b2', b3⟩ := nm_facts (B := B) a3
  unfold f_X5_parsePair prp
  rw [c_number h hi, bnd_s]
  by_cases q1 : nmOK B N i 0 (sh - 1) = true
  · rw [if_pos q1, if_pos q1]
    obtain ⟨x1, _⟩ := nm_ok hi q1
    dsimp only
    rw [if_neg (nI_nn x1), c_skip h a3, bnd_s]
    have fin : ∀ fd : Nat → Int32, ∀ x y : Nat, ∀ p l : Int32, f_X5_parsePair_J79 bytes (nI N) sh sl (nI k) (nI a) (nI x) (nI y) fd p = some (1, upd (upd fd (a + 1) (nI x)) (a + 2) (nI y), p) := by
      intro fd x y p l
      unfold f_X5_parsePair_J79
      rw [show nI a + (1 : Int32) = nI (a + 1) from nI_1 _, show nI a + (2 : Int32) = nI (a + 2) from nI_add a 2, chk_n (by omega) (by decide), nm_s, chk_n (by omega) (by decide), nm_s, nI_clamp (by omega), nI_clamp (by omega)]
    have k0 : (nI k = 0) ↔ k = 0 := nI_eq (b := 0) (by omega) (by decide)
    have cn : ∀ s2 : Int32, f_X5_parseNumber bytes (nI (nmJ B N (nmE B N i))) (nI N) 0 (s2 - 1) = some (if nmOK B N (nmE B N i) 0 (s2 - 1) = true then (nI (nmV B N (nmE B N i)), nI (nmE B N (nmE B N i))) else (-1, nI (nmJ B N (nmE B N i)))) := by
      intro s2
      rw [c_number h (by omega), nmOK_idem a3, nmV_idem a3, nmE_idem a3, nmJ_idem a3]
    by_cases hk0 : k = 0
    · rw [if_pos (k0.mpr hk0), if_pos hk0]
      unfold f_X5_parsePair_J46
      rw [show rn (bkp B) N (nmE B N i) = nmJ B N (nmE B N i) from rfl, cn, bnd_s]
      by_cases q2 : nmOK B N (nmE B N i) 0 (sl - 1) = true
      · rw [if_pos q2, if_pos q2]
        obtain ⟨y1, _⟩ := nm_ok a3 q2
        dsimp only
        rw [if_neg (nI_nn y1), if_pos (k0.mpr hk0), if_neg (fun z => z.1 hk0), fin _ _ _ _ 0]
        exact ⟨_, rfl, fun _ => rfl⟩
      · rw [if_neg q2, if_neg q2]
        dsimp only
        rw [if_pos rfl]
        exact ⟨_, rfl, fun z => by cases z⟩
    · rw [if_neg (mt k0.mp hk0), if_neg hk0]
      unfold f_X5_parsePair_J46
      rw [show rn (bkp B) N (nmE B N i) = nmJ B N (nmE B N i) from rfl, cn, bnd_s]
      by_cases q2 : nmOK B N (nmE B N i) 0 (sh - 1) = true
      · rw [if_pos q2, if_pos q2]
        obtain ⟨y1, _⟩ := nm_ok a3 q2
        dsimp only
        rw [if_neg (nI_nn y1), if_neg (mt k0.mp hk0)]
        by_cases q3 : nmV B N i = nmV B N (nmE B N i)
        · rw [if_pos (by rw [q3]), if_pos ⟨hk0, q3⟩]
          exact ⟨_, rfl, fun z => by cases z⟩
        · rw [if_neg (mt (nI_eq (by omega) (by omega)).mp q3), if_neg (fun z => q3 z.2), fin _ _ _ _ 0]
          exact ⟨_, rfl, fun _ => rfl⟩
      · rw [if_neg q2, if_neg q2]
        dsimp only
        rw [if_pos rfl]
        exact ⟨_, rfl, fun z => by cases z⟩
  · rw [if_neg q1, if_neg q1]
    dsimp only
    rw [if_pos rfl]
    exact ⟨_, rfl, fun z => by cases z⟩
