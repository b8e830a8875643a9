/-! ===== shaped: loops that find; the least box round cells ===== -/
def YN {α : Type} (o : Option α) (P : Prop) (a b : α) : Prop := (P ∧ o = some a) ∨ (¬ P ∧ o = some b)
theorem YN.iff {α : Type} {o : Option α} {P Q : Prop} {a b : α} (h : YN o P a b) (e : P ↔ Q) : YN o Q a b := h.elim (fun z => Or.inl ⟨e.mp z.1, z.2⟩) (fun z => Or.inr ⟨fun q => z.1 (e.mpr q), z.2⟩)
theorem lp_find {f : Int32 → Option (Int32 ⊕ (Unit ⊕ Unit))} {P : Nat → Prop} {n : Nat} (he : f (nI n) = some (.inr (.inr ()))) : ∀ m lo, lo + m = n → (∀ k, lo ≤ k → k < n → YN (f (nI k)) (P k) (.inr (.inl ())) (.inl (nI (k + 1)))) → YN (lp f (nI lo)) (∃ k, lo ≤ k ∧ k < n ∧ P k) (.inl ()) (.inr ()) := by
  intro m
  induction m with
  | zero =>
    intro lo e _
    have e' : lo = n := by omega
    rw [e']
    exact Or.inr ⟨fun ⟨k, h1, h2, _⟩ => by omega, lp_exit he⟩
  | succ m ih =>
    intro lo e hs
    rcases hs lo (Nat.le_refl _) (by omega) with ⟨p, h⟩ | ⟨p, h⟩
    · exact Or.inl ⟨⟨lo, Nat.le_refl _, by omega, p⟩, lp_exit h⟩
    · rcases ih (lo + 1) (by omega) (fun k h1 h2 => hs k (by omega) h2) with ⟨⟨k, h1, h2, h3⟩, g⟩ | ⟨h1, g⟩
      · exact Or.inl ⟨⟨k, by omega, h2, h3⟩, lp_go h g⟩
      · refine Or.inr ⟨fun ⟨k, h2, h3, h4⟩ => ?_, lp_go h g⟩
        by_cases ek : k = lo
        · rw [ek] at h4; exact p h4
        · exact h1 ⟨k, by omega, h3, h4⟩
theorem yn_elim {α : Type} {o : Option (Unit ⊕ Unit)} {P : Prop} {x y : Unit → Option α} {a b : α} (h : YN o P (.inl ()) (.inr ())) (hx : x () = some a) (hy : y () = some b) : YN (bnd o (Sum.elim x y)) P a b := by
  rcases h with ⟨p, e⟩ | ⟨p, e⟩
  · refine Or.inl ⟨p, ?_⟩; rw [e, bnd_s]; exact hx
  · refine Or.inr ⟨p, ?_⟩; rw [e, bnd_s]; exact hy
def m5 (p q r s t : Bool) : Int32 := (if p = true then (1 : Int32) else 0) ||| (if q = true then (2 : Int32) else 0) ||| (if r = true then (4 : Int32) else 0) ||| (if s = true then (8 : Int32) else 0) ||| (if t = true then (16 : Int32) else 0)
def sel5 (p q r s t : Bool) (i : Nat) : Bool := if i = 0 then p else if i = 1 then q else if i = 2 then r else if i = 3 then s else if i = 4 then t else false
theorem m5_tab : ∀ p q r s t : Bool, ∃ c, c < 32 ∧ m5 p q r s t = nI c := by decide +kernel
theorem m5_bt : ∀ p q r s t : Bool, ∀ i, i < 32 → bt (m5 p q r s t) i = sel5 p q r s t i := by decide +kernel
theorem low5 {x : Int32} (h : ∀ i, 5 ≤ i → bt x i = false) : ∃ c, c < 32 ∧ x = nI c := by
  obtain ⟨c, hc, e⟩ := m5_tab (bt x 0) (bt x 1) (bt x 2) (bt x 3) (bt x 4)
  refine ⟨c, hc, Eq.trans (b_ext (fun i hi => ?_)) e⟩
  rw [m5_bt _ _ _ _ _ i hi]
  unfold sel5
  rcases (show i = 0 ∨ i = 1 ∨ i = 2 ∨ i = 3 ∨ i = 4 ∨ 5 ≤ i by omega) with rfl | rfl | rfl | rfl | rfl | h5
  · rfl
  · rfl
  · rfl
  · rfl
  · rfl
  · rw [h i h5, if_neg (by omega), if_neg (by omega), if_neg (by omega), if_neg (by omega), if_neg (by omega)]
def lineOf (c : Int32) : Int32 := (((c ||| (c >>> ((1 : Int32) &&& 31))) ||| ((c ||| (c >>> ((1 : Int32) &&& 31))) >>> ((2 : Int32) &&& 31))) ||| (((c ||| (c >>> ((1 : Int32) &&& 31))) ||| ((c ||| (c >>> ((1 : Int32) &&& 31))) >>> ((2 : Int32) &&& 31))) >>> ((4 : Int32) &&& 31))) &&& (-(c &&& (-c)))
theorem line_tab : ∀ c, c < 32 → ∀ i, i < 32 → (bt (lineOf (nI c)) i = true ↔ (i < 5 ∧ (∃ j, j < 5 ∧ j ≤ i ∧ bt (nI c) j = true) ∧ (∃ j, j < 5 ∧ i ≤ j ∧ bt (nI c) j = true))) := by decide +kernel
theorem bt_31 : ∀ i, i < 32 → bt 31 i = decide (i < 5) := by decide +kernel
theorem upto_tab : ∀ n, n < 5 → ∀ i, i < 32 → bt (((1 : Int32) <<< (nI (5 * n + 5) &&& 31)) - (1 : Int32)) i = decide (i < 5 * n + 5) := by decide +kernel
def hsc (d : Int32) (P : Nat → Prop) : Prop := ∃ j, j < 25 ∧ bt d j = true ∧ P j
def RB (d r : Int32) : Prop := C25 r ∧ ∀ i, i < 25 → (bt r i = true ↔ ((hsc d (fun j => j % 5 ≤ i % 5) ∧ hsc d (fun j => i % 5 ≤ j % 5)) ∧ hsc d (fun j => j / 5 ≤ i / 5) ∧ hsc d (fun j => i / 5 ≤ j / 5)))
theorem m5n (n : Nat) : (5 : Int32) * nI n = nI (5 * n) := by rw [show (5 : Int32) = nI 5 from rfl, pk_mul]
theorem c_cols (d : Int32) : OK (lp (fun q => f_X0_boxRound_S4 d q.1 q.2) ((0 : Int32), (0 : Int32))) (fun r => ∀ i, i < 32 → (bt r i = true ↔ (i < 5 ∧ ∃ y, y < 5 ∧ bt d (5 * y + i) = true))) := by
  refine ok_lp (fun n s => s.2 = nI n ∧ ∀ i, i < 32 → (bt s.1 i = true ↔ (i < 5 ∧ ∃ y, y < n ∧ bt d (5 * y + i) = true))) 5 (fun n s hn hJ => Or.inl ?_) (fun s hJ => ?_) ⟨rfl, fun i hi => ?_⟩
  · obtain ⟨e, hb⟩ := hJ
    unfold f_X0_boxRound_S4
    rw [e, if_neg (ge_5 hn), m5n, nm_s, nm_s, nI_1]
    refine ⟨_, rfl, rfl, fun i hi => ?_⟩
    show bt (s.1 ||| _) i = true ↔ _
    rw [b_or, Bool.or_eq_true, hb i hi, b_and, Bool.and_eq_true, bt_31 i hi, b_sshr (5 * n) (by omega) _ hi, decide_eq_true_iff]
    constructor
    · rintro (⟨h1, y, hy, h2⟩ | ⟨h1, h2⟩)
      · exact ⟨h1, y, by omega, h2⟩
      · rw [if_pos (by omega)] at h1
        exact ⟨h2, n, by omega, h1⟩
    · rintro ⟨h1, y, hy, h2⟩
      by_cases z : y = n
      · refine Or.inr ⟨?_, h1⟩
        rw [if_pos (by omega), ← z]
        exact h2
      · exact Or.inl ⟨h1, y, by omega, h2⟩
  · obtain ⟨e, hb⟩ := hJ
    unfold f_X0_boxRound_S4
    rw [e, if_pos gl_5]
    exact ⟨_, rfl, hb⟩
  · rw [b_0]
    exact ⟨fun z => absurd z (by decide), fun ⟨_, y, hy, _⟩ => absurd hy (Nat.not_lt_zero y)⟩
theorem z_begun {d : Int32} (hd : C25 d) {n : Nat} (hn : n < 5) : d &&& (((1 : Int32) <<< (nI (5 * n + 5) &&& 31)) - (1 : Int32)) = 0 ↔ ¬ hsc d (fun j => j / 5 ≤ n) := by
  constructor
  · rintro h ⟨j, hj, p, q⟩
    replace q : j / 5 ≤ n := q
    have hb := congrArg (fun z => bt z j) h
    rw [b_and, p, upto_tab n hn j (by omega), b_0, decide_eq_true (by omega)] at hb
    exact absurd hb (by decide)
  · intro h
    refine b_ext (fun i hi => ?_)
    rw [b_and, b_0, upto_tab n hn i hi]
    by_cases q : i < 25 ∧ i < 5 * n + 5
    · rw [ts_nt (x := bt d i) (fun p => h ⟨i, q.1, p, show i / 5 ≤ n by omega⟩), Bool.false_and]
    · by_cases q2 : i < 25
      · rw [decide_eq_false (by omega), Bool.and_false]
      · rw [hd i (by omega), Bool.false_and]
theorem z_goes {d : Int32} (hd : C25 d) {n : Nat} (hn : n < 5) : d >>> (nI (5 * n) &&& 31) = 0 ↔ ¬ hsc d (fun j => n ≤ j / 5) := by
  constructor
  · rintro h ⟨j, hj, p, q⟩
    replace q : n ≤ j / 5 := q
    have hb := congrArg (fun z => bt z (j - 5 * n)) h
    rw [b_sshr (5 * n) (by omega) _ (by omega), b_0, if_pos (by omega), show 5 * n + (j - 5 * n) = j by omega, p] at hb
    exact absurd hb (by decide)
  · intro h
    refine b_ext (fun i hi => ?_)
    rw [b_sshr (5 * n) (by omega) _ hi, b_0]
    by_cases q : 5 * n + i < 32
    · rw [if_pos q]
      by_cases q2 : 5 * n + i < 25
      · exact ts_nt (fun p => h ⟨5 * n + i, q2, p, show n ≤ (5 * n + i) / 5 by omega⟩)
      · exact hd _ (by omega)
    · rw [if_neg q]
      exact hd _ (by omega)
theorem c_lns {d line : Int32} (hd : C25 d) (hl : ∀ i, i < 32 → bt line i = true → i < 5) : OK (lp (fun q => f_X0_boxRound_S61 d line q.1 q.2) ((0 : Int32), (0 : Int32))) (fun r => ∀ i, i < 32 → (bt r i = true ↔ (i < 25 ∧ bt line (i % 5) = true ∧ hsc d (fun j => j / 5 ≤ i / 5) ∧ hsc d (fun j => i / 5 ≤ j / 5)))) := by
  refine ok_lp (fun n s => s.2 = nI n ∧ ∀ i, i < 32 → (bt s.1 i = true ↔ (i < 5 * n ∧ bt line (i % 5) = true ∧ hsc d (fun j => j / 5 ≤ i / 5) ∧ hsc d (fun j => i / 5 ≤ j / 5)))) 5 (fun n s hn hJ => Or.inl ?_) (fun s hJ => ?_) ⟨rfl, fun i hi => ?_⟩
  · obtain ⟨e, hb⟩ := hJ
    have d10 : ¬ (1 : Int32) = 0 := by decide
    have d00 : (0 : Int32) = 0 := rfl
    have keep : ¬ (hsc d (fun j => j / 5 ≤ n) ∧ hsc d (fun j => n ≤ j / 5)) → ∀ i, i < 32 → (bt s.1 i = true ↔ (i < 5 * (n + 1) ∧ bt line (i % 5) = true ∧ hsc d (fun j => j / 5 ≤ i / 5) ∧ hsc d (fun j => i / 5 ≤ j / 5))) := fun hno i hi => by
      rw [hb i hi]
      constructor
      · rintro ⟨h1, h2⟩
        exact ⟨by omega, h2⟩
      · rintro ⟨h1, h2, h3, h4⟩
        by_cases z : i < 5 * n
        · exact ⟨z, h2, h3, h4⟩
        · have en : i / 5 = n := by omega
          rw [en] at h3 h4
          exact absurd ⟨h3, h4⟩ hno
    unfold f_X0_boxRound_S61 f_X0_boxRound_J87 f_X0_boxRound_J103 f_X0_boxRound_J127
    rw [e, if_neg (ge_5 hn), m5n, show nI (5 * n) + (5 : Int32) = nI (5 * n + 5) from nI_add (5 * n) 5]
    by_cases B : hsc d (fun j => j / 5 ≤ n)
    · rw [if_neg (fun z => (z_begun hd hn).mp z B)]
      by_cases G : hsc d (fun j => n ≤ j / 5)
      · rw [if_neg (fun z => (z_goes hd hn).mp z G), if_neg d10, if_neg d10, nm_s, nm_s, nI_1]
        refine ⟨_, rfl, rfl, fun i hi => ?_⟩
        show bt (s.1 ||| _) i = true ↔ _
        rw [b_or, Bool.or_eq_true, hb i hi, b_shl (5 * n) (by omega) _ hi, Bool.and_eq_true, decide_eq_true_iff]
        constructor
        · rintro (⟨h1, h2⟩ | ⟨h1, h2⟩)
          · exact ⟨by omega, h2⟩
          · have h5 := hl _ (by omega) h2
            have en : i / 5 = n := by omega
            rw [show i % 5 = i - 5 * n by omega, en]
            exact ⟨by omega, h2, B, G⟩
        · rintro ⟨h1, h2, h3, h4⟩
          by_cases z : i < 5 * n
          · exact Or.inl ⟨z, h2, h3, h4⟩
          · refine Or.inr ⟨by omega, ?_⟩
            rw [show i - 5 * n = i % 5 by omega]
            exact h2
      · rw [if_pos ((z_goes hd hn).mpr G), if_neg d10, if_pos d00, nm_s, nI_1]
        exact ⟨_, rfl, rfl, keep (fun z => G z.2)⟩
    · rw [if_pos ((z_begun hd hn).mpr B)]
      by_cases G : d >>> (nI (5 * n) &&& 31) = 0
      · rw [if_pos G, if_pos d00, nm_s, nI_1]
        exact ⟨_, rfl, rfl, keep (fun z => B z.1)⟩
      · rw [if_neg G, if_pos d00, nm_s, nI_1]
        exact ⟨_, rfl, rfl, keep (fun z => B z.1)⟩
  · obtain ⟨e, hb⟩ := hJ
    unfold f_X0_boxRound_S61
    rw [e, if_pos gl_5]
    exact ⟨_, rfl, hb⟩
  · rw [b_0]
    exact ⟨fun z => absurd z (by decide), fun z => absurd z.1 (by omega)⟩
theorem c_boxRound {d : Int32} (hd : C25 d) : ∃ r, f_X0_boxRound d = some r ∧ RB d r := by
  obtain ⟨c, ec, hc⟩ := c_cols d
  obtain ⟨k, hk, rfl⟩ := low5 (x := c) (fun i hi => by
    by_cases h : i < 32
    · exact ts_nt (fun p => absurd ((hc i h).mp p).1 (by omega))
    · exact b_big (by omega))
  obtain ⟨r, er, hr⟩ := c_lns (line := lineOf (nI k)) hd (fun i hi p => ((line_tab k hk i hi).mp p).1)
  refine ⟨r, ?_, fun i hi => ?_, fun i hi => ?_⟩
  · unfold f_X0_boxRound f_X0_boxRound_J4
    rw [ec, bnd_s]
    unfold f_X0_boxRound_J26
    show f_X0_boxRound_J61 d (lineOf (nI k)) (0 : Int32) (0 : Int32) = _
    unfold f_X0_boxRound_J61
    rw [er]
    rfl
  · by_cases h : i < 32
    · exact ts_nt (fun p => absurd ((hr i h).mp p).1 (by omega))
    · exact b_big (by omega)
  · rw [hr i (by omega), line_tab k hk (i % 5) (by omega)]
    constructor
    · rintro ⟨_, ⟨_, ⟨j1, a1, q1, p1⟩, ⟨j2, a2, q2, p2⟩⟩, h⟩
      obtain ⟨_, y1, hy1, p1⟩ := (hc j1 (by omega)).mp p1
      obtain ⟨_, y2, hy2, p2⟩ := (hc j2 (by omega)).mp p2
      exact ⟨⟨⟨5 * y1 + j1, by omega, p1, show (5 * y1 + j1) % 5 ≤ i % 5 by omega⟩, ⟨5 * y2 + j2, by omega, p2, show i % 5 ≤ (5 * y2 + j2) % 5 by omega⟩⟩, h⟩
    · rintro ⟨⟨⟨j1, a1, p1, q1⟩, ⟨j2, a2, p2, q2⟩⟩, h⟩
      refine ⟨hi, ⟨by omega, ⟨j1 % 5, by omega, q1, ?_⟩, ⟨j2 % 5, by omega, q2, ?_⟩⟩, h⟩
      · exact (hc (j1 % 5) (by omega)).mpr ⟨by omega, j1 / 5, by omega, by rw [show 5 * (j1 / 5) + j1 % 5 = j1 by omega]; exact p1⟩
      · exact (hc (j2 % 5) (by omega)).mpr ⟨by omega, j2 / 5, by omega, by rw [show 5 * (j2 / 5) + j2 % 5 = j2 by omega]; exact p2⟩
