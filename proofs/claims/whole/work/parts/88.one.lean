/-! ===== shaped: one stroke, as the class tries it ===== -/
def BX (x y w h : Nat) : Prop := 1 ≤ w ∧ 1 ≤ h ∧ x + w ≤ 5 ∧ y + h ≤ 5
def SB (a b : Int32) : Prop := ∃ x y w h, BX x y w h ∧ (b = a &&& (bx x y w h ^^^ -1) ∨ b = a ||| bx x y w h)
def ST (a b : Int32) : Prop := b = tn a ∨ b = fl a ∨ SB a b
theorem bxb {x y w h i : Nat} (hi : i < 25) : bt (bx x y w h) i = true ↔ (x ≤ i % 5 ∧ i % 5 < x + w ∧ y ≤ i / 5 ∧ i / 5 < y + h) := by
  rw [bx_bt hi]
  unfold inb
  exact decide_eq_true_iff
theorem sh_least {P : Nat → Prop} : ∀ n, P n → ∃ k, P k ∧ ∀ j, P j → k ≤ j := by
  intro n
  induction n using Nat.strongRecOn with
  | _ n ih =>
    intro hp
    by_cases h : ∃ m, m < n ∧ P m
    · obtain ⟨m, h1, h2⟩ := h
      exact ih m h1 h2
    · exact ⟨n, hp, fun j hj => Nat.not_lt.mp (fun q => h ⟨j, q, hj⟩)⟩
theorem sh_most {P : Nat → Prop} {N : Nat} (hN : ∀ j, P j → j ≤ N) {n : Nat} (hn : P n) : ∃ k, P k ∧ ∀ j, P j → j ≤ k := by
  obtain ⟨k, h1, h2⟩ := sh_least (P := fun m => m ≤ N ∧ P (N - m)) (N - n) ⟨by omega, by rw [Nat.sub_sub_self (hN n hn)]; exact hn⟩
  refine ⟨N - k, h1.2, fun j hj => ?_⟩
  have g1 := h2 (N - j) ⟨by omega, by rw [Nat.sub_sub_self (hN j hj)]; exact hj⟩
  have g2 := hN j hj
  have g3 := h1.1
  omega
theorem RB.box {d r : Int32} (hr : RB d r) {j0 : Nat} (h0 : j0 < 25) (p0 : bt d j0 = true) : ∃ x y w h, BX x y w h ∧ r = bx x y w h := by
  obtain ⟨x, ⟨jx, ax, px, ex⟩, hx⟩ := sh_least (P := fun c => ∃ j, j < 25 ∧ bt d j = true ∧ j % 5 = c) (j0 % 5) ⟨j0, h0, p0, rfl⟩
  obtain ⟨X, ⟨jX, aX, pX, eX⟩, hX⟩ := sh_most (P := fun c => ∃ j, j < 25 ∧ bt d j = true ∧ j % 5 = c) (N := 4) (fun j ⟨i, _, _, e⟩ => by omega) (n := j0 % 5) ⟨j0, h0, p0, rfl⟩
  obtain ⟨y, ⟨jy, ay, py, ey⟩, hy⟩ := sh_least (P := fun c => ∃ j, j < 25 ∧ bt d j = true ∧ j / 5 = c) (j0 / 5) ⟨j0, h0, p0, rfl⟩
  obtain ⟨Y, ⟨jY, aY, pY, eY⟩, hY⟩ := sh_most (P := fun c => ∃ j, j < 25 ∧ bt d j = true ∧ j / 5 = c) (N := 4) (fun j ⟨i, _, _, e⟩ => by omega) (n := j0 / 5) ⟨j0, h0, p0, rfl⟩
  have g1 := hx X ⟨jX, aX, pX, eX⟩
  have g2 := hy Y ⟨jY, aY, pY, eY⟩
  refine ⟨x, y, X + 1 - x, Y + 1 - y, ⟨by omega, by omega, by omega, by omega⟩, C25.ext hr.1 (mk_C25 _) (fun i hi => Bool.eq_iff_iff.mpr ((hr.2 i hi).trans (Iff.trans ?_ (bxb hi).symm)))⟩
  constructor
  · rintro ⟨⟨⟨j1, a1, p1, q1⟩, ⟨j2, a2, p2, q2⟩⟩, ⟨j3, a3, p3, q3⟩, ⟨j4, a4, p4, q4⟩⟩
    have k1 := hx _ ⟨j1, a1, p1, rfl⟩
    have k2 := hX _ ⟨j2, a2, p2, rfl⟩
    have k3 := hy _ ⟨j3, a3, p3, rfl⟩
    have k4 := hY _ ⟨j4, a4, p4, rfl⟩
    replace q1 : j1 % 5 ≤ i % 5 := q1
    replace q2 : i % 5 ≤ j2 % 5 := q2
    replace q3 : j3 / 5 ≤ i / 5 := q3
    replace q4 : i / 5 ≤ j4 / 5 := q4
    exact ⟨by omega, by omega, by omega, by omega⟩
  · rintro ⟨k1, k2, k3, k4⟩
    exact ⟨⟨⟨jx, ax, px, show jx % 5 ≤ i % 5 by omega⟩, ⟨jX, aX, pX, show i % 5 ≤ jX % 5 by omega⟩⟩, ⟨jy, ay, py, show jy / 5 ≤ i / 5 by omega⟩, ⟨jY, aY, pY, show i / 5 ≤ jY / 5 by omega⟩⟩
theorem dis0 {x y : Int32} (hx : C25 x) : x &&& y = 0 ↔ ∀ i, i < 25 → bt x i = true → ¬ bt y i = true := by
  constructor
  · intro h i hi p q
    have hb := congrArg (fun z => bt z i) h
    rw [b_and, p, q, b_0] at hb
    exact absurd hb (by decide)
  · intro h
    refine C25.ext hx.and' C25.zero (fun i hi => ?_)
    rw [b_and, b_0]
    by_cases p : bt x i = true
    · rw [ts_nt (h i hi p), Bool.and_false]
    · rw [ts_nt p, Bool.false_and]
theorem sub0 {x y : Int32} (hx : C25 x) : x &&& (y ^^^ -1) = 0 ↔ ∀ i, i < 25 → bt x i = true → bt y i = true := by
  rw [dis0 hx]
  constructor
  · intro h i hi p
    have q := h i hi p
    rw [bt_not _ (by omega)] at q
    cases z : bt y i with
    | true => rfl
    | false => rw [z] at q; exact absurd rfl q
  · intro h i hi p
    rw [bt_not _ (by omega), h i hi p]
    decide
theorem xor_bt (a b : Int32) (i : Nat) : bt (a ^^^ b) i = true ↔ ¬ (bt a i = true ↔ bt b i = true) := by
  rw [b_xor]
  cases bt a i <;> cases bt b i <;> decide
theorem clr_bt (a b : Int32) {i : Nat} (hi : i < 25) : bt (a &&& (b ^^^ -1)) i = true ↔ (bt a i = true ∧ ¬ bt b i = true) := by
  rw [b_and, bt_not _ (by omega)]
  cases bt a i <;> cases bt b i <;> decide
theorem or_bt (a b : Int32) (i : Nat) : bt (a ||| b) i = true ↔ (bt a i = true ∨ bt b i = true) := by
  rw [b_or, Bool.or_eq_true]
theorem C25.extp {x y : Int32} (h : C25 x) (g : C25 y) (e : ∀ i, i < 25 → (bt x i = true ↔ bt y i = true)) : x = y := C25.ext h g (fun i hi => Bool.eq_iff_iff.mpr (e i hi))
theorem SB_refl {a : Int32} (ha : C25 a) : SB a a := by
  by_cases z : bt a 0 = true
  · refine ⟨0, 0, 1, 1, ⟨by omega, by omega, by omega, by omega⟩, Or.inr (C25.extp ha (ha.or (mk_C25 _)) (fun i hi => ?_))⟩
    rw [or_bt, bxb hi]
    refine ⟨Or.inl, fun q => q.elim id (fun q => ?_)⟩
    rw [show i = 0 by omega]
    exact z
  · refine ⟨0, 0, 1, 1, ⟨by omega, by omega, by omega, by omega⟩, Or.inl (C25.extp ha ha.clear (fun i hi => ?_))⟩
    rw [clr_bt _ _ hi, bxb hi]
    refine ⟨fun p => ⟨p, fun q => ?_⟩, And.left⟩
    rw [show i = 0 by omega] at p
    exact z p
/-- what differs lies within a box: the least box round it does too -/
theorem RB.wi {d r : Int32} (hr : RB d r) {x y w h : Nat} (hd : ∀ j, j < 25 → bt d j = true → bt (bx x y w h) j = true) {i : Nat} (hi : i < 25) (p : bt r i = true) : bt (bx x y w h) i = true := by
  obtain ⟨⟨⟨j1, a1, p1, q1⟩, ⟨j2, a2, p2, q2⟩⟩, ⟨j3, a3, p3, q3⟩, ⟨j4, a4, p4, q4⟩⟩ := (hr.2 i hi).mp p
  have k1 := (bxb a1).mp (hd j1 a1 p1)
  have k2 := (bxb a2).mp (hd j2 a2 p2)
  have k3 := (bxb a3).mp (hd j3 a3 p3)
  have k4 := (bxb a4).mp (hd j4 a4 p4)
  replace q1 : j1 % 5 ≤ i % 5 := q1
  replace q2 : i % 5 ≤ j2 % 5 := q2
  replace q3 : j3 / 5 ≤ i / 5 := q3
  replace q4 : i / 5 ≤ j4 / 5 := q4
  exact (bxb hi).mpr ⟨by omega, by omega, by omega, by omega⟩
theorem RB.has {d r : Int32} (hr : RB d r) {i : Nat} (hi : i < 25) (p : bt d i = true) : bt r i = true := (hr.2 i hi).mpr ⟨⟨⟨i, hi, p, Nat.le_refl _⟩, ⟨i, hi, p, Nat.le_refl _⟩⟩, ⟨i, hi, p, Nat.le_refl _⟩, ⟨i, hi, p, Nat.le_refl _⟩⟩
theorem SB_iff {a b r : Int32} (ha : C25 a) (hb : C25 b) (hr : RB (a ^^^ b) r) : SB a b ↔ ((b &&& (a ^^^ -1) = 0 ∧ r &&& b = 0) ∨ (a &&& (b ^^^ -1) = 0 ∧ r &&& (b ^^^ -1) = 0)) := by
  rw [sub0 hb, dis0 hr.1, sub0 ha, sub0 hr.1]
  constructor
  · rintro ⟨x, y, w, h, hB, e | e⟩
    · refine Or.inl ⟨fun i hi p => ?_, fun i hi p q => ?_⟩
      · rw [e, clr_bt _ _ hi] at p
        exact p.1
      · refine absurd (hr.wi (x := x) (y := y) (w := w) (h := h) (fun j hj d => ?_) hi p) ?_
        · rw [xor_bt] at d
          by_cases z : bt (bx x y w h) j = true
          · exact z
          · refine absurd ?_ d
            rw [e, clr_bt _ _ hj]
            exact ⟨fun u => ⟨u, z⟩, And.left⟩
        · rw [e, clr_bt _ _ hi] at q
          exact q.2
    · refine Or.inr ⟨fun i hi p => ?_, fun i hi p => ?_⟩
      · rw [e, or_bt]
        exact Or.inl p
      · rw [e, or_bt]
        refine Or.inr (hr.wi (fun j hj d => ?_) hi p)
        rw [xor_bt] at d
        by_cases z : bt (bx x y w h) j = true
        · exact z
        · refine absurd ?_ d
          rw [e, or_bt]
          exact ⟨Or.inl, fun u => u.elim id (fun v => absurd v z)⟩
  · intro hh
    by_cases D : ∃ j, j < 25 ∧ bt (a ^^^ b) j = true
    · obtain ⟨j, hj, pj⟩ := D
      obtain ⟨x, y, w, h, hB, er⟩ := hr.box hj pj
      refine ⟨x, y, w, h, hB, ?_⟩
      rw [← er]
      rcases hh with ⟨h1, h2⟩ | ⟨h1, h2⟩
      · refine Or.inl (C25.extp hb ha.clear (fun i hi => ?_))
        rw [clr_bt _ _ hi]
        refine ⟨fun p => ⟨h1 i hi p, fun q => h2 i hi q p⟩, fun ⟨p, q⟩ => ?_⟩
        by_cases z : bt b i = true
        · exact z
        · exact absurd (hr.has hi ((xor_bt a b i).mpr (fun u => z (u.mp p)))) q
      · refine Or.inr (C25.extp hb (ha.or hr.1) (fun i hi => ?_))
        rw [or_bt]
        refine ⟨fun p => ?_, fun q => q.elim (h1 i hi) (h2 i hi)⟩
        by_cases z : bt a i = true
        · exact Or.inl z
        · exact Or.inr (hr.has hi ((xor_bt a b i).mpr (fun u => z (u.mpr p))))
    · have e : a = b := C25.extp ha hb (fun i hi => Classical.byContradiction (fun u => D ⟨i, hi, (xor_bt a b i).mpr u⟩))
      rw [← e]
      exact SB_refl ha
theorem c_one {a b : Int32} (ha : C25 a) (hb : C25 b) : YN (f_X0_inOneStroke a b (tn (tn (tn b))) (fl b)) (ST a b) 1 0 := by
  unfold f_X0_inOneStroke
  by_cases t : a = tn (tn (tn b))
  · rw [if_pos t]
    exact Or.inl ⟨Or.inl ((tn3_iff ha hb).mp t).symm, rfl⟩
  by_cases u : a = fl b
  · rw [if_neg t, if_pos u]
    exact Or.inl ⟨Or.inr (Or.inl ((fl_iff ha hb).mp u).symm), rfl⟩
  rw [if_neg t, if_neg u]
  obtain ⟨r, er, hr⟩ := c_boxRound (ha.xor hb)
  refine YN.iff (P := SB a b) ?_ ⟨fun z => Or.inr (Or.inr z), fun z => z.elim (fun q => absurd ((tn3_iff ha hb).mpr q.symm) t) (fun z => z.elim (fun q => absurd ((fl_iff ha hb).mpr q.symm) u) id)⟩
  refine YN.iff ?_ (SB_iff ha hb hr).symm
  have d10 : ¬ (1 : Int32) = 0 := by decide
  have d00 : (0 : Int32) = 0 := rfl
  unfold f_X0_inOneStroke_J25 f_X0_inOneStroke_J40 f_X0_inOneStroke_J54 f_X0_inOneStroke_J74
  rw [er]
  by_cases p1 : b &&& (a ^^^ -1) = 0
  · by_cases p2 : a &&& (b ^^^ -1) = 0
    · by_cases p3 : r &&& b = 0
      · simp only [if_pos p1, if_pos p2, if_pos p3, if_neg d10, bnd_s]
        exact Or.inl ⟨Or.inl ⟨p1, p3⟩, rfl⟩
      · by_cases p4 : r &&& (b ^^^ -1) = 0
        · simp only [if_pos p1, if_pos p2, if_neg p3, if_pos p4, if_neg d10, bnd_s]
          exact Or.inl ⟨Or.inr ⟨p2, p4⟩, rfl⟩
        · simp only [if_pos p1, if_pos p2, if_neg p3, if_neg p4, if_neg d10, bnd_s]
          exact Or.inr ⟨fun z => z.elim (fun q => p3 q.2) (fun q => p4 q.2), rfl⟩
    · by_cases p3 : r &&& b = 0
      · simp only [if_pos p1, if_neg p2, if_pos p3, if_neg d10, bnd_s]
        exact Or.inl ⟨Or.inl ⟨p1, p3⟩, rfl⟩
      · simp only [if_pos p1, if_neg p2, if_neg p3, if_neg d10, if_pos d00, bnd_s]
        exact Or.inr ⟨fun z => z.elim (fun q => p3 q.2) (fun q => p2 q.1), rfl⟩
  · by_cases p2 : a &&& (b ^^^ -1) = 0
    · by_cases p4 : r &&& (b ^^^ -1) = 0
      · simp only [if_neg p1, if_pos p2, if_pos p4, if_neg d10, if_pos d00, bnd_s]
        exact Or.inl ⟨Or.inr ⟨p2, p4⟩, rfl⟩
      · simp only [if_neg p1, if_pos p2, if_neg p4, if_neg d10, if_pos d00, bnd_s]
        exact Or.inr ⟨fun z => z.elim (fun q => p1 q.1) (fun q => p4 q.2), rfl⟩
    · simp only [if_neg p1, if_neg p2, if_pos d00, bnd_s]
      exact Or.inr ⟨fun z => z.elim (fun q => p1 q.1) (fun q => p2 q.1), rfl⟩
