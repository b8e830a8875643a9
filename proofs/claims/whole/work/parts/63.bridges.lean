theorem cmb_mono {n k x : Nat} (h : x ∈ cmb n k) : x ∈ cmb n (k + 1) := by
  cases n with
  | zero =>
    have : x ∈ [0] := by cases k <;> exact h
    exact this
  | succ n => exact List.mem_append.mpr (Or.inl h)
theorem cmb_rem : ∀ k n x c, x ∈ cmb (n + 1) k → x.testBit c = true → x ^^^ 2 ^ c ∈ cmb n k := by
  intro k
  induction k with
  | zero => intro n x c h _; cases h
  | succ k ih =>
    intro n x c h hb
    rcases List.mem_append.mp h with h | h
    · exact cmb_mono (ih n x c h hb)
    · obtain ⟨y, hy, rfl⟩ := List.mem_map.mp h
      by_cases e : c = k
      · subst e
        rw [Nat.xor_assoc, Nat.xor_self, Nat.xor_zero]
        exact cmb_mono hy
      · have hyb : y.testBit c = true := by
          have := fb_bit_flip y k c
          rw [decide_eq_false e, Bool.xor_false] at this
          rw [← this]; exact hb
        cases n with
        | zero =>
          have : y ∈ [0] := by cases k <;> exact hy
          rw [List.mem_singleton.mp this, Nat.zero_testBit] at hyb
          cases hyb
        | succ n =>
          have hm := ih n y c hy hyb
          have : (y ^^^ 2 ^ c) ^^^ 2 ^ k ∈ cmb (n + 1) (k + 1) := List.mem_append.mpr (Or.inr (List.mem_map.mpr ⟨_, hm, rfl⟩))
          rwa [Nat.xor_assoc, Nat.xor_comm (2 ^ c), ← Nat.xor_assoc] at this
theorem cmb_bit : ∀ k n x c, x ∈ cmb n k → k ≤ c → x.testBit c = false := by
  intro k
  induction k with
  | zero =>
    intro n x c h _
    cases n with
    | zero => rw [List.mem_singleton.mp h, Nat.zero_testBit]
    | succ n => cases h
  | succ k ih =>
    intro n x c h hc
    cases n with
    | zero => rw [List.mem_singleton.mp (show x ∈ [0] from h), Nat.zero_testBit]
    | succ n =>
      rcases List.mem_append.mp h with h | h
      · exact ih (n + 1) x c h (by omega)
      · obtain ⟨y, hy, rfl⟩ := List.mem_map.mp h
        rw [fb_bit_flip, ih n y c hy (by omega), decide_eq_false (by omega)]; rfl
theorem bt_nI (x i : Nat) (hi : i < 32) : bt (nI x) i = x.testBit i := by
  show (BitVec.ofNat 32 x).getLsbD i = _
  rw [BitVec.getLsbD_ofNat, decide_eq_true hi, Bool.true_and]
theorem cmb_C25 {n x : Nat} (h : x ∈ cmb n 25) : C25 (nI x) := fun i hi => by
  by_cases h32 : i < 32
  · rw [bt_nI x i h32]; exact cmb_bit 25 n x i h hi
  · exact b_big (by omega)
theorem cmb_le {n x : Nat} (h : x ∈ cmb n 25) : x ≤ 33554431 := by
  have : x < 2 ^ 25 := Nat.lt_pow_two_of_testBit x (fun i hi => cmb_bit 25 n x i h hi)
  omega
/-! a corner never helps -/
def crn (c : Nat) : Prop := c = 0 ∨ c = 4 ∨ c = 20 ∨ c = 24
theorem crn_edge : ∀ i, i < 25 → ∀ w, w < 4 → (nbr i w = 0 ∨ nbr i w = 4 ∨ nbr i w = 20 ∨ nbr i w = 24) → bt 33080895 i = true := by decide +kernel
theorem sub_C25 {x y : Int32} (hy : C25 y) (h : sub x y) : C25 x := fun i hi => by
  cases z : bt x i with
  | false => rfl
  | true =>
    by_cases w : i < 32
    · rw [← hy i hi]; exact (h i w z).symm
    · rw [b_big (by omega)] at z; cases z
theorem corner_it {D D' : Int32} {c : Nat} (hD : C25 D) (hc : crn c) (hsub : ∀ i, i < 32 → i ≠ c → bt D i = true → bt D' i = true) (hD' : C25 D') : ∀ n i, i < 32 → i ≠ c → bt (itF D n (33080895 &&& D)) i = true → bt (itF D' n (33080895 &&& D')) i = true := by
  have base : ∀ i, i < 32 → i ≠ c → bt 33080895 i = true → bt D i = true → ∀ n, bt (itF D' n (33080895 &&& D')) i = true := fun i hi ne he hd n => itF_up (sub_and _ _) n i hi (by rw [b_and, he, hsub i hi ne hd]; rfl)
  intro n
  induction n with
  | zero =>
    intro i hi ne h
    have h' : bt (33080895 &&& D) i = true := h
    rw [b_and, Bool.and_eq_true] at h'
    exact base i hi ne h'.1 h'.2 0
  | succ n ih =>
    intro i hi ne h
    have hin := itF_in (sub_and 33080895 D) n
    have hin' := itF_in (sub_and 33080895 D') n
    have h' : bt ((itF D n (33080895 &&& D) ||| f_X0_beside (itF D n (33080895 &&& D))) &&& D) i = true := h
    rw [b_and, b_or, Bool.and_eq_true, Bool.or_eq_true] at h'
    obtain ⟨h1, hd⟩ := h'
    have i25 : i < 25 := by
      rcases Nat.lt_or_ge i 25 with q | q
      · exact q
      · rw [hD i q] at hd; cases hd
    rcases h1 with h1 | h1
    · exact Fj_up hin' i hi (ih i hi ne h1)
    · obtain ⟨w, hw, h25, hb⟩ := (bt_beside (sub_C25 hD hin) i25).mp h1
      by_cases e : nbr i w = c
      · exact base i hi ne (crn_edge i i25 w hw (by rw [e]; exact hc)) hd (n + 1)
      · show bt ((itF D' n (33080895 &&& D') ||| f_X0_beside (itF D' n (33080895 &&& D'))) &&& D') i = true
        rw [b_and, b_or, hsub i hi ne hd, Bool.and_true, Bool.or_eq_true]
        exact Or.inr ((bt_beside (sub_C25 hD' hin') i25).mpr ⟨w, hw, h25, ih _ (by omega) e hb⟩)
theorem fal0 {D : Int32} (hD : C25 D) : fal D = 0 ↔ ∀ i, i < 25 → bt D i = true → bt (jn 33080895 D) i = true := by
  unfold fal
  constructor
  · intro h i hi hb
    have := congrArg (fun z => bt z i) h
    simp only [b_and, b_0, bt_not (jn 33080895 D) (show i < 32 by omega), hb, Bool.true_and] at this
    cases z : bt (jn 33080895 D) i with
    | true => rfl
    | false => rw [z] at this; cases this
  · intro h
    refine C25.ext hD.and' C25.zero (fun i hi => ?_)
    rw [b_and, b_0, bt_not _ (by omega)]
    cases z : bt D i with
    | false => rfl
    | true => rw [h i hi z]; rfl
theorem corner_fal {D D' : Int32} {c : Nat} (hD : C25 D) (hD' : C25 D') (hc : crn c) (h1 : ∀ i, i < 32 → (bt D' i = true ↔ (bt D i = true ∧ i ≠ c))) (h : fal D = 0) : fal D' = 0 := by
  refine (fal0 hD').mpr (fun i hi hb => ?_)
  obtain ⟨q1, q2⟩ := (h1 i (by omega)).mp hb
  exact corner_it hD hc (fun i hi ne hb => (h1 i hi).mpr ⟨hb, ne⟩) hD' 25 i (by omega) q2 ((fal0 hD).mp h i hi q1)
/-! what is found first -/
noncomputable def wk (d : Int32) (x : Nat) : Bool := decide (nI x &&& d = 0) && decide (fal (d ||| nI x) = 0)
def fnd (p : Nat → Bool) : List Nat → Int32
  | [] => -1
  | a :: t => if p a = true then nI a else fnd p t
theorem fnd_cong {p q : Nat → Bool} : ∀ {t : List Nat}, (∀ x, x ∈ t → p x = q x) → fnd p t = fnd q t := by
  intro t
  induction t with
  | nil => intro _; rfl
  | cons a t ih =>
    intro h
    show (if p a = true then _ else _) = (if q a = true then _ else _)
    rw [h a (List.mem_cons_self), ih (fun x hx => h x (List.mem_cons_of_mem _ hx))]
theorem fnd_none {p : Nat → Bool} : ∀ {t : List Nat}, (∀ x, x ∈ t → x ≤ 33554431) → (fnd p t = -1 → ∀ x, x ∈ t → p x = false) ∧ (fnd p t ≠ -1 → 0 ≤ fnd p t) := by
  intro t
  induction t with
  | nil => intro _; exact ⟨fun _ x hx => (by cases hx), fun h => absurd rfl h⟩
  | cons a t ih =>
    intro h
    have ha := h a (List.mem_cons_self)
    have iht := ih (fun x hx => h x (List.mem_cons_of_mem _ hx))
    show ((if p a = true then nI a else fnd p t) = -1 → _) ∧ ((if p a = true then nI a else fnd p t) ≠ -1 → 0 ≤ (if p a = true then nI a else fnd p t))
    by_cases q : p a = true
    · rw [if_pos q]
      exact ⟨fun e => absurd e (nI_m1 (by omega)), fun _ => nI_pos' (by omega)⟩
    · rw [if_neg q]
      refine ⟨fun e x hx => ?_, iht.2⟩
      rcases List.mem_cons.mp hx with rfl | hx
      · exact ts_nt q
      · exact iht.1 e x hx
noncomputable def noc (x : Nat) : Bool := decide (nI x &&& 17825809 = 0)
theorem cmb_ne : ∀ k n x, x ∈ cmb (n + 1) k → x ≠ 0 := by
  intro k
  induction k with
  | zero => intro n x h; cases h
  | succ k ih =>
    intro n x h
    rcases List.mem_append.mp h with h | h
    · exact ih n x h
    · obtain ⟨y, hy, rfl⟩ := List.mem_map.mp h
      intro e
      have := congrArg (fun z => z.testBit k) e
      simp only [fb_bit_flip, cmb_bit k n y k hy (Nat.le_refl _), Nat.zero_testBit] at this
      simp at this
noncomputable def wkc (d : Int32) (x : Nat) : Bool := wk d x && noc x
theorem low_ne {a : Nat} (ha : a ≤ 33554431) (h0 : a ≠ 0) (hc : C25 (nI a)) : ¬ nI a &&& -nI a = 0 := fun l0 => by
  obtain ⟨m, hm, p, f⟩ := has_bit hc (nI_ne0 (by omega) (by omega))
  have := low_at hm p f
  rw [l0] at this
  exact bit_ne0 hm this.symm
theorem m_brS {d a1 : Int32} {a : Nat} (hd : C25 d) (ha : a ≤ 33554431) (hc : C25 (nI a)) : f_X8_bridgesOf_S6 d a1 (nI a) = if wk d a = true then some (.inr (Sum.inl (nI a))) else f_X8_bridgesOf_J29 d a1 (nI a) := by
  unfold f_X8_bridgesOf_S6 wk
  rw [if_neg (show ¬ (33554431 : Int32) < nI a from nI_nlt (a := 33554431) (by omega) (by decide)), m_looseOf (hd.or hc), bnd_s]
  by_cases q1 : nI a &&& d = 0
  · rw [if_pos q1, decide_eq_true q1, Bool.true_and]
    by_cases q2 : fal (d ||| nI a) = 0
    · rw [if_pos q2, decide_eq_true q2, if_pos rfl]
    · rw [if_neg q2, decide_eq_false q2, if_neg (by decide)]
  · rw [if_neg q1, decide_eq_false q1, Bool.false_and, if_neg (by decide)]
theorem m_brJ {d a1 : Int32} {a : Nat} (ha : a ≤ 33554431) (h0 : a ≠ 0) (hc : C25 (nI a)) : f_X8_bridgesOf_J29 d a1 (nI a) = some (.inl (mNx (nI a))) := by
  unfold f_X8_bridgesOf_J29
  rw [if_neg (nI_ne0 (by omega) (by omega)), nm_s, nm_s, gd_eq (decide_eq_true (low_ne ha h0 hc)), nm_s]
  rfl
theorem and_or0 (x d c : Int32) : x &&& (d ||| c) = 0 ↔ (x &&& d = 0 ∧ x &&& c = 0) := by
  constructor
  · intro h
    refine ⟨b_ext (fun i hi => ?_), b_ext (fun i hi => ?_)⟩
    · have := congrArg (fun z => bt z i) h
      simp only [b_and, b_or, b_0] at this
      rw [b_and, b_0]
      cases z : bt x i <;> cases y : bt d i <;> simp_all
    · have := congrArg (fun z => bt z i) h
      simp only [b_and, b_or, b_0] at this
      rw [b_and, b_0]
      cases z : bt x i <;> cases y : bt c i <;> simp_all
  · rintro ⟨h1, h2⟩
    refine b_ext (fun i hi => ?_)
    have e1 := congrArg (fun z => bt z i) h1
    have e2 := congrArg (fun z => bt z i) h2
    simp only [b_and, b_0] at e1 e2
    rw [b_and, b_or, b_0]
    cases z : bt x i <;> simp_all
theorem c_brS {d a0 : Int32} {a i : Nat} (hd : C25 d) (ha : a ≤ 33554431) (hc : C25 (nI a)) (hi : i < 12650) : f_X0_holdersOf_S8 a0 d (nI a) (nI i) = if wkc d a = true then some (.inr (Sum.inl (nI a))) else f_X0_holdersOf_J41 a0 d (nI a) (nI i) := by
  unfold f_X0_holdersOf_S8 wkc wk noc
  rw [if_neg (show ¬ (12650 : Int32) ≤ nI i from nI_ge (b := 12650) hi (by decide)), if_neg (show ¬ (33554431 : Int32) < nI a from nI_nlt (a := 33554431) (by omega) (by decide)), c_fallen (hd.or hc), bnd_s]
  by_cases q1 : nI a &&& (d ||| 17825809) = 0
  · obtain ⟨q3, q4⟩ := (and_or0 _ _ _).mp q1
    rw [if_pos q1, decide_eq_true q3, decide_eq_true q4, Bool.true_and, Bool.and_true]
    by_cases q2 : fal (d ||| nI a) = 0
    · rw [if_pos q2, decide_eq_true q2, if_pos rfl]
    · rw [if_neg q2, decide_eq_false q2, if_neg (by decide)]
  · rw [if_neg q1, if_neg]
    rw [Bool.and_eq_true, Bool.and_eq_true]
    rintro ⟨⟨h1, _⟩, h2⟩
    exact q1 ((and_or0 _ _ _).mpr ⟨of_decide_eq_true h1, of_decide_eq_true h2⟩)
theorem c_brJ {d a0 : Int32} {a i : Nat} (ha : a ≤ 33554431) (h0 : a ≠ 0) : f_X0_holdersOf_J41 a0 d (nI a) (nI i) = some (.inl (f_X0_nextOfAsManyBits (nI a), nI (i + 1))) := by
  unfold f_X0_holdersOf_J41
  rw [if_neg (nI_ne0 (by omega) (by omega)), nm_s, nm_s, nI_1]
theorem wlk_last {a : Nat} (h0 : a ≠ 0) (h : wlk a [] = true) : (33554431 : Int32) < f_X0_nextOfAsManyBits (nI a) ∧ (33554431 : Int32) < mNx (nI a) := by
  have hw' : (decide (a = 0) || (decide ((33554431 : Int32) < f_X0_nextOfAsManyBits (nI a)) && decide ((33554431 : Int32) < mNx (nI a)))) = true := h
  rw [decide_eq_false h0, Bool.false_or, Bool.and_eq_true] at hw'
  exact ⟨of_decide_eq_true hw'.1, of_decide_eq_true hw'.2⟩
theorem wlk_next {a b : Nat} {t : List Nat} (h : wlk a (b :: t) = true) : f_X0_nextOfAsManyBits (nI a) = nI b ∧ mNx (nI a) = nI b ∧ wlk b t = true := by
  have hw' : (match decide (f_X0_nextOfAsManyBits (nI a) = nI b) && decide (mNx (nI a) = nI b) with | true => wlk b t | false => false) = true := h
  cases hnx : (decide (f_X0_nextOfAsManyBits (nI a) = nI b) && decide (mNx (nI a) = nI b)) with
  | false => rw [hnx] at hw'; cases hw'
  | true =>
    rw [hnx] at hw'
    rw [Bool.and_eq_true] at hnx
    exact ⟨of_decide_eq_true hnx.1, of_decide_eq_true hnx.2, hw'⟩
theorem m_fnd {d a1 : Int32} (hd : C25 d) : ∀ (t : List Nat) (a : Nat), (∀ x, x ∈ a :: t → x ≤ 33554431 ∧ x ≠ 0 ∧ C25 (nI x)) → wlk a t = true → OK (lp (fun q => f_X8_bridgesOf_S6 d a1 q) (nI a)) (fun z => Sum.elim id (fun _ => -1) z = fnd (wk d) (a :: t)) := by
  intro t
  induction t with
  | nil =>
    intro a hx hw
    obtain ⟨ha, h0, hc⟩ := hx a (List.mem_cons_self)
    have S := m_brS (a1 := a1) hd ha hc
    rw [m_brJ ha h0 hc] at S
    show OK _ (fun z => Sum.elim id (fun _ => -1) z = if wk d a = true then nI a else -1)
    cases q : wk d a with
    | true =>
      rw [q, if_pos rfl] at S
      exact ⟨_, lp_exit S, rfl⟩
    | false =>
      rw [q, if_neg (by decide)] at S
      refine ⟨Sum.inr (Sum.inr ()), lp_go S (lp_exit ?_), rfl⟩
      show f_X8_bridgesOf_S6 d a1 _ = _
      unfold f_X8_bridgesOf_S6
      rw [if_pos (wlk_last h0 hw).2]
  | cons b t ih =>
    intro a hx hw
    obtain ⟨ha, h0, hc⟩ := hx a (List.mem_cons_self)
    obtain ⟨_, en, hw'⟩ := wlk_next hw
    have S := m_brS (a1 := a1) hd ha hc
    rw [m_brJ ha h0 hc, en] at S
    show OK _ (fun z => Sum.elim id (fun _ => -1) z = if wk d a = true then nI a else fnd (wk d) (b :: t))
    cases q : wk d a with
    | true =>
      rw [q, if_pos rfl] at S
      exact ⟨_, lp_exit S, rfl⟩
    | false =>
      rw [q, if_neg (by decide)] at S
      obtain ⟨r, er, hr⟩ := ih b (fun x hx' => hx x (List.mem_cons_of_mem _ hx')) hw'
      exact ⟨r, lp_go S er, hr⟩
theorem c_fnd {d a0 : Int32} (hd : C25 d) : ∀ (t : List Nat) (a i : Nat), i + 1 + t.length ≤ 12650 → (∀ x, x ∈ a :: t → x ≤ 33554431 ∧ x ≠ 0 ∧ C25 (nI x)) → wlk a t = true → OK (lp (fun q => f_X0_holdersOf_S8 a0 d q.1 q.2) (nI a, nI i)) (fun z => Sum.elim id (fun _ => -1) z = fnd (wkc d) (a :: t)) := by
  intro t
  induction t with
  | nil =>
    intro a i hi hx hw
    obtain ⟨ha, h0, hc⟩ := hx a (List.mem_cons_self)
    have hi' : i + 1 ≤ 12650 := by simpa using hi
    have S := c_brS (a0 := a0) (i := i) hd ha hc (by omega)
    rw [c_brJ ha h0] at S
    show OK _ (fun z => Sum.elim id (fun _ => -1) z = if wkc d a = true then nI a else -1)
    cases q : wkc d a with
    | true =>
      rw [q, if_pos rfl] at S
      exact ⟨_, lp_exit S, rfl⟩
    | false =>
      rw [q, if_neg (by decide)] at S
      refine ⟨Sum.inr (Sum.inr ()), lp_go S (lp_exit ?_), rfl⟩
      show f_X0_holdersOf_S8 a0 d _ _ = _
      unfold f_X0_holdersOf_S8
      by_cases z : (12650 : Int32) ≤ nI (i + 1)
      · rw [if_pos z]
      · rw [if_neg z, if_pos (wlk_last h0 hw).1]
  | cons b t ih =>
    intro a i hi hx hw
    obtain ⟨ha, h0, hc⟩ := hx a (List.mem_cons_self)
    obtain ⟨en, _, hw'⟩ := wlk_next hw
    rw [List.length_cons] at hi
    have S := c_brS (a0 := a0) (i := i) hd ha hc (by omega)
    rw [c_brJ ha h0, en] at S
    show OK _ (fun z => Sum.elim id (fun _ => -1) z = if wkc d a = true then nI a else fnd (wkc d) (b :: t))
    cases q : wkc d a with
    | true =>
      rw [q, if_pos rfl] at S
      exact ⟨_, lp_exit S, rfl⟩
    | false =>
      rw [q, if_neg (by decide)] at S
      obtain ⟨r, er, hr⟩ := ih b (i + 1) (by omega) (fun x hx' => hx x (List.mem_cons_of_mem _ hx')) hw'
      exact ⟨r, lp_go S er, hr⟩
theorem br_level {d : Int32} (hd : C25 d) {n : Nat} (hn : n ≤ 4) : f_X8_bridgesOf d (nI n) = some (fnd (wk d) (cmb n 25)) ∧ f_X0_holdersOf (nI n) d = some (fnd (wkc d) (cmb n 25)) := by
  have gen : ∀ n a, cmb (n + 1) 25 = a :: (cmb (n + 1) 25).tail → (cmb (n + 1) 25).length ≤ 12650 → wlk a (cmb (n + 1) 25).tail = true → ((1 : Int32) <<< (nI (n + 1) &&& 31)) - (1 : Int32) = nI a → f_X8_bridgesOf d (nI (n + 1)) = some (fnd (wk d) (cmb (n + 1) 25)) ∧ f_X0_holdersOf (nI (n + 1)) d = some (fnd (wkc d) (cmb (n + 1) 25)) := fun n a e hl hw es => by
    have hx : ∀ x, x ∈ a :: (cmb (n + 1) 25).tail → x ≤ 33554431 ∧ x ≠ 0 ∧ C25 (nI x) := fun x hx => by
      rw [← e] at hx
      exact ⟨cmb_le hx, cmb_ne 25 n x hx, cmb_C25 hx⟩
    refine ⟨?_, ?_⟩
    · unfold f_X8_bridgesOf f_X8_bridgesOf_J6
      obtain ⟨r, er, hr⟩ := m_fnd (a1 := nI (n + 1)) hd _ a hx hw
      rw [nm_s, es, er, bnd_s, e, ← hr]
      rcases r with r | r | r <;> rfl
    · unfold f_X0_holdersOf f_X0_holdersOf_J8
      have hl' : 0 + 1 + (cmb (n + 1) 25).tail.length ≤ 12650 := by
        have := congrArg List.length e
        rw [List.length_cons] at this
        omega
      obtain ⟨r, er, hr⟩ := c_fnd (a0 := nI (n + 1)) hd _ a 0 hl' hx hw
      have er' : lp (fun q => f_X0_holdersOf_S8 (nI (n + 1)) d q.1 q.2) (nI a, (0 : Int32)) = some r := er
      rw [nm_s, es, er', bnd_s, e, ← hr]
      rcases r with r | r | r <;> rfl
  obtain ⟨h1, h2, h3, h4⟩ := cmb_hd
  obtain ⟨l1, l2, l3, l4'⟩ := cmb_len
  rcases (show n = 0 ∨ n = 1 ∨ n = 2 ∨ n = 3 ∨ n = 4 by omega) with rfl | rfl | rfl | rfl | rfl
  · have hc0 : C25 (nI 0) := C25.zero
    have e0 : cmb 0 25 = [0] := rfl
    refine ⟨?_, ?_⟩
    · unfold f_X8_bridgesOf f_X8_bridgesOf_J6
      have S := m_brS (a1 := nI 0) (a := 0) hd (by decide) hc0
      rw [nm_s, show ((1 : Int32) <<< (nI 0 &&& 31)) - (1 : Int32) = nI 0 from by decide, e0]
      show _ = some (if wk d 0 = true then nI 0 else -1)
      cases q : wk d 0 with
      | true =>
        rw [q, if_pos rfl] at S
        rw [lp_exit S, bnd_s]; rfl
      | false =>
        rw [q, if_neg (by decide)] at S
        unfold f_X8_bridgesOf_J29 at S
        rw [if_pos (show nI 0 = (0 : Int32) from rfl)] at S
        rw [lp_exit S, bnd_s]; rfl
    · unfold f_X0_holdersOf f_X0_holdersOf_J8
      have S := c_brS (a0 := nI 0) (a := 0) (i := 0) hd (by decide) hc0 (by decide)
      rw [nm_s, show ((1 : Int32) <<< (nI 0 &&& 31)) - (1 : Int32) = nI 0 from by decide, e0]
      show _ = some (if wkc d 0 = true then nI 0 else -1)
      cases q : wkc d 0 with
      | true =>
        rw [q, if_pos rfl] at S
        have S' : lp (fun q => f_X0_holdersOf_S8 (nI 0) d q.1 q.2) (nI 0, (0 : Int32)) = some (Sum.inl (nI 0)) := lp_exit S
        rw [S', bnd_s]; rfl
      | false =>
        rw [q, if_neg (by decide)] at S
        unfold f_X0_holdersOf_J41 at S
        rw [if_pos (show nI 0 = (0 : Int32) from rfl)] at S
        have S' : lp (fun q => f_X0_holdersOf_S8 (nI 0) d q.1 q.2) (nI 0, (0 : Int32)) = some (Sum.inr (Sum.inl ())) := lp_exit S
        rw [S', bnd_s]; rfl
  · exact gen 0 1 h1 l1 wlk1 (by decide)
  · exact gen 1 3 h2 l2 wlk2 (by decide)
  · exact gen 2 7 h3 l3 wlk3 (by decide)
  · exact gen 3 15 h4 l4' wlk4 (by decide)
theorem crn_bits : ∀ i, i < 32 → bt 17825809 i = decide (i = 0 ∨ i = 4 ∨ i = 20 ∨ i = 24) := by decide +kernel
theorem br_same {d : Int32} (hd : C25 d) {n : Nat} (hlow : ∀ x, x ∈ cmb (n - 1) 25 → 0 < n → wk d x = false) : fnd (wkc d) (cmb n 25) = fnd (wk d) (cmb n 25) := by
  refine fnd_cong (fun x hx => ?_)
  unfold wkc
  cases hk : wk d x with
  | false => rfl
  | true =>
    rw [Bool.true_and]
    unfold noc
    refine decide_eq_true ?_
    refine C25.ext (cmb_C25 hx).and' C25.zero (fun c hc => ?_)
    rw [b_0, b_and, crn_bits c (by omega), bt_nI x c (by omega)]
    by_cases q : c = 0 ∨ c = 4 ∨ c = 20 ∨ c = 24
    · rw [decide_eq_true q, Bool.and_true]
      cases hb : x.testBit c with
      | false => rfl
      | true =>
        exfalso
        cases n with
        | zero =>
          rw [List.mem_singleton.mp (show x ∈ [0] from hx), Nat.zero_testBit] at hb
          cases hb
        | succ n =>
          have hy := cmb_rem 25 n x c hx hb
          have hyb : ∀ i, i < 32 → bt (nI (x ^^^ 2 ^ c)) i = (bt (nI x) i && !decide (i = c)) := fun i hi => by
            rw [bt_nI _ i hi, bt_nI _ i hi, fb_bit_flip]
            by_cases e : i = c
            · rw [e, hb, decide_eq_true rfl]; rfl
            · rw [decide_eq_false e]; simp
          unfold wk at hk
          rw [Bool.and_eq_true] at hk
          have k1 := of_decide_eq_true hk.1
          have k2 := of_decide_eq_true hk.2
          have dc : bt d c = false := by
            have := congrArg (fun z => bt z c) k1
            simp only [b_and, b_0, bt_nI x c (show c < 32 by omega), hb, Bool.true_and] at this
            exact this
          have w1 : wk d (x ^^^ 2 ^ c) = true := by
            unfold wk
            rw [Bool.and_eq_true]
            refine ⟨decide_eq_true (b_ext (fun i hi => ?_)), decide_eq_true ?_⟩
            · have := congrArg (fun z => bt z i) k1
              simp only [b_and, b_0] at this
              rw [b_and, b_0, hyb i hi]
              cases z : bt (nI x) i <;> simp_all
            · refine corner_fal (c := c) (hd.or (cmb_C25 hx)) (hd.or (cmb_C25 hy)) q (fun i hi => ?_) k2
              rw [b_or, b_or, hyb i hi]
              by_cases e : i = c
              · subst e
                rw [dc]; simp
              · rw [decide_eq_false e]; simp [e]
          rw [hlow _ hy (by omega)] at w1
          cases w1
    · rw [decide_eq_false q, Bool.and_false]
theorem br_both {w : Nat → Int32} {d t : Int32} {s : Nat} (hd : C25 d) (hs : s < 6) (hw : w (8 + 4 * s + 1) = d) : ∀ k n, n + k = 5 → (∀ m x, m < n → x ∈ cmb m 25 → wk d x = false) → ∃ r, OK (lp (fun q => f_X0_holders_S2 d q) (nI n)) (fun z => Sum.elim id (fun _ => -1) z = r) ∧ OK (lp (fun q => f_X8_bridges_S22 w (nI s) t q) (nI n)) (fun z => Sum.elim id (fun _ => -1) z = r) := by
  intro k
  induction k with
  | zero =>
    intro n hn _
    obtain rfl : n = 5 := by omega
    refine ⟨-1, ⟨Sum.inr (), lp_exit ?_, rfl⟩, ⟨Sum.inr (), lp_exit ?_, rfl⟩⟩
    · show f_X0_holders_S2 d (nI 5) = _
      unfold f_X0_holders_S2
      rw [if_pos (by decide)]
    · show f_X8_bridges_S22 w (nI s) t (nI 5) = _
      unfold f_X8_bridges_S22
      rw [if_pos (by decide)]
  | succ k ih =>
    intro n hn hlow
    obtain ⟨e1, e2⟩ := br_level hd (n := n) (by omega)
    have es := br_same hd (n := n) (fun x hx h0 => hlow (n - 1) x (by omega) hx)
    obtain ⟨f1, f2⟩ := fnd_none (p := wk d) (t := cmb n 25) (fun x hx => cmb_le hx)
    have C : f_X0_holders_S2 d (nI n) = if fnd (wk d) (cmb n 25) = -1 then some (.inl (nI (n + 1))) else some (.inr (Sum.inl (fnd (wk d) (cmb n 25)))) := by
      unfold f_X0_holders_S2
      rw [if_neg (show ¬ (4 : Int32) < nI n from nI_nlt (a := 4) (by omega) (by decide)), e2, bnd_s, es, nm_s, nI_1]
    have M : f_X8_bridges_S22 w (nI s) t (nI n) = if fnd (wk d) (cmb n 25) < 0 then some (.inl (nI (n + 1))) else some (.inr (Sum.inl (fnd (wk d) (cmb n 25)))) := by
      unfold f_X8_bridges_S22
      rw [if_neg (show ¬ (4 : Int32) < nI n from nI_nlt (a := 4) (by omega) (by decide)), m_of1 hs, bnd_s, hw, e1, bnd_s, nm_s, nI_1]
    by_cases z : fnd (wk d) (cmb n 25) = -1
    · rw [if_pos z] at C
      rw [if_pos (by rw [z]; decide)] at M
      obtain ⟨r, ⟨z1, g1, h1⟩, ⟨z2, g2, h2⟩⟩ := ih (n + 1) (by omega) (fun m x hm hx => by
        rcases Nat.lt_succ_iff_lt_or_eq.mp hm with q | rfl
        · exact hlow m x q hx
        · exact f1 z x hx)
      exact ⟨r, ⟨z1, lp_go C g1, h1⟩, ⟨z2, lp_go M g2, h2⟩⟩
    · rw [if_neg z] at C
      rw [if_neg (Int32.not_lt.mpr (f2 z))] at M
      exact ⟨_, ⟨_, lp_exit C, rfl⟩, ⟨_, lp_exit M, rfl⟩⟩
theorem t_bridges : T_bridges Inv := by
  intro ls_hasImage tp_bytes tp_length tp_fault nw_sheets nw_cells nw_pasted nw_masks nw_uses nw_slots nw_slotK nw_slotX nw_slotY nw_setting nw_scenes nw_wishes nw_frames nw_frameRows nw_seen nw_seenRows nw_width nw_hands kp_sheets kp_cells kp_pasted kp_masks kp_uses kp_slots kp_slotK kp_slotX kp_slotY kp_setting kp_scenes kp_wishes kp_frames kp_frameRows kp_seen kp_seenRows kp_width kp_hands nr_size nr_rows kr_size kr_rows m_thrown m_world m_image m_hasImage m_tape m_taped m_faultAt m_rectangle m_hasRectangles hI a0
  obtain ⟨ns, nl, nc, nf, nk, nr, ⟨b1, b2, b3, b4, b5, b6⟩, ⟨rfl, rfl, rfl, rfl, rfl, rfl⟩, ⟨w0, w1, w2, w3, w4, w5, w6, w7⟩, hwd, hSh, hSl, hIn, hSc, hFr, hSe, hRu⟩ := hI.1
  rcases pk_ix a0 (n := ns) (by omega) with h | h | ⟨j, hj, rfl⟩
  · unfold f_X7_bridges f_X8_bridges
    rw [c_needSheet_no (by omega) (Or.inl h), m_noSheet_no b1 w0 (Or.inl h)]
    exact Or.inr ⟨_, _, rfl, rfl, rfl, hI⟩
  · unfold f_X7_bridges f_X8_bridges
    rw [c_needSheet_no (by omega) (Or.inr h), m_noSheet_no b1 w0 (Or.inr h)]
    exact Or.inr ⟨_, _, rfl, rfl, rfl, hI⟩
  · obtain ⟨q1, q2, q3, q4, q5, q6, q7⟩ := hSh j hj
    obtain ⟨r, ⟨z1, e1, h1⟩, ⟨z2, e2, h2⟩⟩ := br_both (t := 0) q5 (show j < 6 by omega) q2 5 0 rfl (fun m x hm => absurd hm (Nat.not_lt_zero m))
    have e1' : lp (fun q => f_X0_holders_S2 (nw_cells j) q) (0 : Int32) = some z1 := e1
    have e2' : lp (fun q => f_X8_bridges_S22 m_world (nI j) 0 q) (0 : Int32) = some z2 := e2
    refine Or.inl ⟨r, (r, 0), ?_, ?_, rfl, rfl, hI⟩
    · unfold f_X7_bridges f_X0_holders f_X0_holders_J2
      rw [c_needSheet_yes (by omega) hj, xb_l, chk_n (by omega) (by decide), nI_clamp (by omega), e1', bnd_s]
      rcases z1 with z | z <;> (rw [← h1]; rfl)
    · unfold f_X8_bridges f_X8_bridges_J22
      rw [m_noSheet_yes b1 w0 hj, bnd_s, m_thr0, bnd_s, if_pos rfl, e2', bnd_s]
      rcases z2 with z | z <;> (rw [← h2]; rfl)
