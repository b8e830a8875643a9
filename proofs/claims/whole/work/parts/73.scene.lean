/-! ===== scene ===== -/
theorem updL_same (f : Nat → Int64) (i : Nat) (v : Int64) : vp_updL f i v i = v := by rw [updL_at, if_pos rfl]
theorem updL_ne {f : Nat → Int64} {i : Nat} {v : Int64} {k : Nat} (h : k ≠ i) : vp_updL f i v k = f k := by rw [updL_at, if_neg h]
theorem ones_tab : ∀ w, w < 13 → ∀ i, i < 64 → bl (((1 : Int64) <<< ((nI w).toInt64 &&& 63)) - (1 : Int64)) i = decide (i < w) := by decide +kernel
theorem y_tab : ∀ y, y < 12 → nI y >>> ((2 : Int32) &&& 31) = nI (y / 4) ∧ (12 : Int32) * (nI y &&& (3 : Int32)) = nI (12 * (y % 4)) := by decide +kernel
theorem full_tab : ∀ i, i < 64 → bl 281474976710655 i = decide (i < 48) := by decide +kernel
noncomputable def rmk (x w y : Nat) : Int64 := ((((1 : Int64) <<< ((nI w).toInt64 &&& 63)) - (1 : Int64)) <<< ((nI x).toInt64 &&& 63)) <<< ((nI (12 * (y % 4))).toInt64 &&& 63)
theorem rmk_bl {x w y i : Nat} (h : x + w ≤ 12) (hi : i < 64) : bl (rmk x w y) i = decide (12 * (y % 4) + x ≤ i ∧ i < 12 * (y % 4) + x + w) := by
  unfold rmk
  rw [bl_shl _ (by omega) _ hi, bl_shl _ (by omega) _ (by omega), ones_tab w (by omega) _ (by omega), ← Bool.decide_and, ← Bool.decide_and]
  exact decide_eq_decide.mpr (by omega)
theorem c_markLine {W : Nat → Int64} {a k : Nat} {m : Int64} (ha : a + 6 < 54) (hk : k < 4) : OK (f_X4_markLine W (nI a) (nI k) m) (fun W' => (∀ u, u < 3 → W' (a + 3 * u) = if u = k then W (a + 3 * u) ||| m else W (a + 3 * u) &&& (m ^^^ -1)) ∧ ∀ j, (∀ u, u < 3 → j ≠ a + 3 * u) → W' j = W j) := by
  unfold f_X4_markLine f_X4_markLine_J3 f_X4_markLine_J61
  refine ok_bnd (P := fun W' => (∀ u, u < 3 → W' (a + 3 * u) = if u = k then W (a + 3 * u) ||| m else W (a + 3 * u) &&& (m ^^^ -1)) ∧ ∀ j, (∀ u, u < 3 → j ≠ a + 3 * u) → W' j = W j) ?_ (fun W' h => ⟨_, rfl, h⟩)
  refine ok_lp (fun n s => s.1 = nI n ∧ (∀ u, u < n → s.2 (a + 3 * u) = if u = k then W (a + 3 * u) ||| m else W (a + 3 * u) &&& (m ^^^ -1)) ∧ ∀ j, (∀ u, u < n → j ≠ a + 3 * u) → s.2 j = W j) 3 (fun n s hn hJ => Or.inl ?_) (fun s hJ => ?_) ⟨rfl, fun u hu => absurd hu (Nat.not_lt_zero u), fun _ _ => rfl⟩
  · obtain ⟨q1, q2, q3⟩ := hJ
    unfold f_X4_markLine_S3 f_X4_markLine_J54
    rw [q1, if_neg (show ¬ (3 : Int32) ≤ nI n from nI_ge (b := 3) hn (by decide)), nm_s, show nI a + nI n * (3 : Int32) = nI (a + 3 * n) by rw [show (3 : Int32) = nI 3 from rfl, pk_mul, nI_add, Nat.mul_comm], chk_n (by omega) (by decide), chk_n (by omega) (by decide), chk_n (by omega) (by decide), chk_n (by omega) (by decide), nm_s, nm_s, nm_s, nm_s, nI_clamp (by omega), nI_1, q3 (a + 3 * n) (fun u hu => by omega)]
    have fin : ∀ v, v = (if n = k then W (a + 3 * n) ||| m else W (a + 3 * n) &&& (m ^^^ -1)) → (∀ u, u < n + 1 → vp_updL s.2 (a + 3 * n) v (a + 3 * u) = if u = k then W (a + 3 * u) ||| m else W (a + 3 * u) &&& (m ^^^ -1)) ∧ ∀ j, (∀ u, u < n + 1 → j ≠ a + 3 * u) → vp_updL s.2 (a + 3 * n) v j = W j := by
      intro v hv
      refine ⟨fun u hu => ?_, fun j hj => ?_⟩
      · by_cases e : u = n
        · rw [e, updL_same, hv]
        · rw [updL_ne (by omega)]; exact q2 u (by omega)
      · rw [updL_ne (hj n (by omega))]; exact q3 j (fun u hu => hj u (by omega))
    by_cases e : n = k
    · rw [if_pos (by rw [e])]
      exact ⟨_, rfl, rfl, fin _ (by rw [if_pos e])⟩
    · rw [if_neg (mt (nI_eq (by omega) (by omega)).mp e)]
      exact ⟨_, rfl, rfl, fin _ (by rw [if_neg e])⟩
  · obtain ⟨q1, q2, q3⟩ := hJ
    unfold f_X4_markLine_S3
    rw [q1, if_pos (show (3 : Int32) ≤ nI 3 by decide)]
    exact ⟨_, rfl, q2, q3⟩
/-- the nine longs of a scene hold the marks V -/
def WM (b : Nat) (W0 W : Nat → Int64) (V : Nat → Nat) : Prop := (∀ p, p < 144 → ∀ u, u < 3 → bl (W (b + 3 * u + p / 48)) (p % 48) = decide (u = V p)) ∧ (∀ q, q < 9 → ∀ i, 48 ≤ i → bl (W (b + q)) i = false) ∧ ∀ k, k < b → W k = W0 k
theorem WM.cong {b : Nat} {W0 W : Nat → Int64} {V V' : Nat → Nat} (h : WM b W0 W V) (e : ∀ p, p < 144 → V' p = V p) : WM b W0 W V' := ⟨fun p hp u hu => by rw [e p hp]; exact h.1 p hp u hu, h.2⟩
theorem WM.line {b x w y k : Nat} {W0 W W' : Nat → Int64} {V : Nat → Nat} (h : WM b W0 W V) (hx : x + w ≤ 12) (hy : y < 12) (h1 : ∀ u, u < 3 → W' (b + y / 4 + 3 * u) = if u = k then W (b + y / 4 + 3 * u) ||| rmk x w y else W (b + y / 4 + 3 * u) &&& (rmk x w y ^^^ -1)) (h2 : ∀ j, (∀ u, u < 3 → j ≠ b + y / 4 + 3 * u) → W' j = W j) : WM b W0 W' (fun p => if p / 12 = y ∧ x ≤ p % 12 ∧ p % 12 < x + w then k else V p) := by
  refine ⟨fun p hp u hu => ?_, fun q hq i hi => ?_, fun k hk => ?_⟩
  · show bl (W' (b + 3 * u + p / 48)) (p % 48) = decide (u = if p / 12 = y ∧ x ≤ p % 12 ∧ p % 12 < x + w then k else V p)
    have g := h.1 p hp u hu
    by_cases e : p / 48 = y / 4
    · rw [show b + 3 * u + p / 48 = b + y / 4 + 3 * u by omega] at g ⊢
      rw [h1 u hu]
      have hm : bl (rmk x w y) (p % 48) = decide (p / 12 = y ∧ x ≤ p % 12 ∧ p % 12 < x + w) := by
        rw [rmk_bl hx (by omega)]
        exact decide_eq_decide.mpr (by omega)
      by_cases c : p / 12 = y ∧ x ≤ p % 12 ∧ p % 12 < x + w
      · rw [decide_eq_true c] at hm
        rw [if_pos c]
        by_cases uk : u = k
        · rw [if_pos uk, bl_or, hm, Bool.or_true, decide_eq_true uk]
        · rw [if_neg uk, bl_and, bl_not _ (by omega), hm, Bool.not_true, Bool.and_false, decide_eq_false uk]
      · rw [decide_eq_false c] at hm
        rw [if_neg c]
        by_cases uk : u = k
        · rw [if_pos uk, bl_or, hm, Bool.or_false, g]
        · rw [if_neg uk, bl_and, bl_not _ (by omega), hm, Bool.not_false, Bool.and_true, g]
    · rw [h2 _ (fun u' hu' => by omega), g, if_neg (by omega)]
  · have g := h.2.1 q hq i hi
    by_cases i64 : 64 ≤ i
    · exact bl_big i64
    · have hm : bl (rmk x w y) i = false := by
        rw [rmk_bl hx (by omega)]
        exact decide_eq_false (by omega)
      by_cases e : q % 3 = y / 4
      · rw [show b + q = b + y / 4 + 3 * (q / 3) by omega] at g ⊢
        rw [h1 (q / 3) (by omega)]
        by_cases uk : q / 3 = k
        · rw [if_pos uk, bl_or, hm, g]; rfl
        · rw [if_neg uk, bl_and, g]; rfl
      · rw [h2 _ (fun u' hu' => by omega)]; exact g
  · rw [h2 _ (fun u' hu' => by omega)]; exact h.2.2 k hk
theorem c_lines {fd : Nat → Int32} {W0 W : Nat → Int64} {V : Nat → Nat} {t b n k x y w v : Nat} {sc : Int32} (h : WM b W0 W V) (hb : b + 8 < 54) (hn : n < 20) (hk : k < 4) (hx : x + w ≤ 12) (hy : y + v ≤ 12) (f0 : fd (5 * n) = nI k) (f4 : fd (5 * n + 4) = nI v) : OK (lp (fun q => f_X4_addScene_S111 fd (nI t) (nI b) sc (nI n) (nI (5 * n)) ((((1 : Int64) <<< ((nI w).toInt64 &&& 63)) - (1 : Int64)) <<< ((nI x).toInt64 &&& 63)) (nI y) q.1 q.2) (nI y, W)) (fun W' => WM b W0 W' (fun p => if in12 x y w v p = true then k else V p)) := by
  refine ok_lp (fun j s => s.1 = nI (y + j) ∧ WM b W0 s.2 (fun p => if in12 x y w j p = true then k else V p)) v (fun j s hj hJ => Or.inl ?_) (fun s hJ => ?_) ⟨rfl, h.cong (fun p hp => by
    rw [if_neg]
    intro z
    have := of_decide_eq_true z
    omega)⟩
  · obtain ⟨q1, q2⟩ := hJ
    obtain ⟨y1, y2⟩ := y_tab (y + j) (by omega)
    obtain ⟨W', e, h1, h2⟩ := c_markLine (W := s.2) (a := b + (y + j) / 4) (k := k) (m := rmk x w (y + j)) (by omega) hk
    unfold f_X4_addScene_S111
    rw [q1, show nI (5 * n) + (4 : Int32) = nI (5 * n + 4) from nI_add _ 4, chk_n (by omega) (by decide), nI_clamp (by omega), f4, nI_add, if_neg (nI_ge (by omega) (by omega)), chk_n (by omega) (by decide), nI_clamp (by omega), f0, y1, y2, nI_add]
    rw [show f_X4_markLine s.2 (nI (b + (y + j) / 4)) (nI k) (((((1 : Int64) <<< ((nI w).toInt64 &&& 63)) - (1 : Int64)) <<< ((nI x).toInt64 &&& 63)) <<< ((nI (12 * ((y + j) % 4))).toInt64 &&& 63)) = some W' from e, bnd_s, nm_s, nI_1]
    refine ⟨_, rfl, rfl, (q2.line hx (by omega) h1 h2).cong (fun p hp => ?_)⟩
    unfold in12
    by_cases c : p / 12 = y + j ∧ x ≤ p % 12 ∧ p % 12 < x + w
    · rw [if_pos c, if_pos (decide_eq_true (by omega))]
    · rw [if_neg c]
      by_cases c2 : x ≤ p % 12 ∧ p % 12 < x + w ∧ y ≤ p / 12 ∧ p / 12 < y + j
      · rw [if_pos (decide_eq_true c2), if_pos (decide_eq_true (by omega))]
      · rw [if_neg (fun z => c2 (of_decide_eq_true z)), if_neg (fun z => by have := of_decide_eq_true z; omega)]
  · obtain ⟨q1, q2⟩ := hJ
    unfold f_X4_addScene_S111
    rw [q1, show nI (5 * n) + (4 : Int32) = nI (5 * n + 4) from nI_add _ 4, chk_n (by omega) (by decide), nI_clamp (by omega), f4, nI_add, if_pos (Int32.le_refl _)]
    exact ⟨_, rfl, q2⟩
/-- the last mark of a place -/
def lm : List (Nat × Nat × Nat × Nat × Nat) → Nat → Nat → Nat
  | [], _, v => v
  | r :: l, p, v => lm l p (if in12 r.2.1 r.2.2.1 r.2.2.2.1 r.2.2.2.2 p = true then r.1 else v)
theorem lm_lt {ns nl : Nat} : ∀ (l : List (Nat × Nat × Nat × Nat × Nat)) (p v : Nat), (∀ r, r ∈ l → RV 1 ns nl r) → v < 4 → lm l p v < 4 := by
  intro l
  induction l with
  | nil => intro p v _ hv; exact hv
  | cons r l ih =>
    intro p v h hv
    refine ih p _ (fun r hr => h r (List.mem_cons_of_mem _ hr)) ?_
    split
    · exact (h r List.mem_cons_self).1
    · exact hv
theorem c_addLoop {fd : Nat → Int32} {W0 : Nat → Int64} {ns nl b : Nat} {sc : Int32} (hb : b + 8 < 54) : ∀ (l : List (Nat × Nat × Nat × Nat × Nat)) (n t : Nat) (W : Nat → Int64) (V : Nat → Nat), n + l.length = t → t ≤ 20 → (∀ i r, l[i]? = some r → RW 1 fd (n + i) r) → (∀ r, r ∈ l → RV 1 ns nl r) → WM b W0 W V → OK (lp (fun q => f_X4_addScene_S58 fd (nI t) (nI b) sc q.1 q.2) (nI n, W)) (fun W' => WM b W0 W' (fun p => lm l p (V p))) := by
  intro l
  induction l with
  | nil =>
    intro n t W V hn ht _ _ h
    obtain rfl : n = t := hn
    exact ⟨W, lp_exit (show f_X4_addScene_S58 fd (nI n) (nI b) sc (nI n) W = _ by unfold f_X4_addScene_S58; rw [if_pos (Int32.le_refl _)]), h⟩
  | cons r l ih =>
    intro n t W V hn ht hw hv h
    have hl : l.length + 1 = (r :: l).length := rfl
    obtain ⟨f0, f5⟩ : RW 1 fd n r := hw 0 r rfl
    obtain ⟨f1, f2, f6⟩ := f5.elim (fun z => absurd z.1 (by decide)) id
    obtain ⟨f3, f4⟩ := f6.elim (fun z => by cases z) id
    obtain ⟨v1, _, v2, _⟩ := hv r List.mem_cons_self
    obtain ⟨x1, x2, x3, x4, x5, x6⟩ := v2 rfl
    obtain ⟨W1, e1, h1⟩ := c_lines (t := t) (sc := sc) h hb (show n < 20 by omega) v1 x4 x6 f0 f4
    obtain ⟨W2, e2, h2⟩ := ih (n + 1) t W1 _ (by omega) ht (fun i r hi => by
      have := hw (i + 1) r hi
      rw [show n + (i + 1) = n + 1 + i by omega] at this
      exact this) (fun r hr => hv r (List.mem_cons_of_mem _ hr)) h1
    refine ⟨W2, lp_go ?_ e2, h2⟩
    show f_X4_addScene_S58 fd (nI t) (nI b) sc (nI n) W = _
    unfold f_X4_addScene_S58
    rw [if_neg (nI_ge (by omega) (by omega)), nm_s, show nI n * (5 : Int32) = nI (5 * n) by rw [show (5 : Int32) = nI 5 from rfl, pk_mul, Nat.mul_comm], show nI (5 * n) + (1 : Int32) = nI (5 * n + 1) from nI_1 _, show nI (5 * n) + (2 : Int32) = nI (5 * n + 2) from nI_add _ 2, show nI (5 * n) + (3 : Int32) = nI (5 * n + 3) from nI_add _ 3, chk_n (by omega) (by decide), chk_n (by omega) (by decide), nm_s, chk_n (by omega) (by decide), nm_s, nI_clamp (by omega), nI_clamp (by omega), nI_clamp (by omega), f1, f2, f3]
    unfold f_X4_addScene_J111 f_X4_addScene_J161
    rw [e1, bnd_s, nm_s, nI_1]
theorem c_addScene {fd : Nat → Int32} {W : Nat → Int64} {ns nl nc : Nat} {l : List (Nat × Nat × Nat × Nat × Nat)} (hc : nc < 6) (hl : l.length ≤ 20) (hw : ∀ i r, l[i]? = some r → RW 1 fd i r) (hv : ∀ r, r ∈ l → RV 1 ns nl r) : ∃ W', f_X4_addScene fd (nI l.length) (nI nc) W = some (nI nc, nI (nc + 1), W') ∧ WM (9 * nc) W W' (fun p => lm l p 0) := by
  have H : OK (lp (fun q => f_X4_addScene_S11 fd (nI l.length) (nI (9 * nc)) (nI nc) q.1 q.2) ((0 : Int32), W)) (fun W1 => WM (9 * nc) W W1 (fun _ => 0)) := by
    refine OK.mono (P := fun W1 => (∀ q, q < 3 → W1 (9 * nc + q) = 281474976710655 ∧ W1 (9 * nc + 3 + q) = 0 ∧ W1 (9 * nc + 6 + q) = 0) ∧ ∀ k, k < 9 * nc → W1 k = W k) ?_ (fun W1 h => ?_)
    · refine ok_lp (fun n s => s.1 = nI n ∧ (∀ q, q < n → s.2 (9 * nc + q) = 281474976710655 ∧ s.2 (9 * nc + 3 + q) = 0 ∧ s.2 (9 * nc + 6 + q) = 0) ∧ ∀ k, k < 9 * nc → s.2 k = W k) 3 (fun n s hn hJ => Or.inl ?_) (fun s hJ => ?_) ⟨rfl, fun q hq => absurd hq (Nat.not_lt_zero q), fun _ _ => rfl⟩
      · obtain ⟨q1, q2, q3⟩ := hJ
        unfold f_X4_addScene_S11
        rw [q1, if_neg (show ¬ (3 : Int32) ≤ nI n from nI_ge (b := 3) hn (by decide)), show nI (9 * nc) + (3 : Int32) = nI (9 * nc + 3) from nI_add _ 3, show nI (9 * nc) + (6 : Int32) = nI (9 * nc + 6) from nI_add _ 6, nI_add, nI_add, nI_add, chk_n (by omega) (by decide), nm_s, chk_n (by omega) (by decide), nm_s, chk_n (by omega) (by decide), nm_s, nm_s, nI_clamp (by omega), nI_clamp (by omega), nI_clamp (by omega), nI_1]
        refine ⟨_, rfl, rfl, fun q hq => ?_, fun k hk => ?_⟩
        · dsimp only
          by_cases e : q = n
          · subst e
            refine ⟨?_, ?_, ?_⟩
            · rw [updL_ne (by omega), updL_ne (by omega), updL_same]
            · rw [updL_ne (by omega), updL_same]
            · rw [updL_same]
          · obtain ⟨g1, g2, g3⟩ := q2 q (by omega)
            refine ⟨?_, ?_, ?_⟩
            · rw [updL_ne (by omega), updL_ne (by omega), updL_ne (by omega)]; exact g1
            · rw [updL_ne (by omega), updL_ne (by omega), updL_ne (by omega)]; exact g2
            · rw [updL_ne (by omega), updL_ne (by omega), updL_ne (by omega)]; exact g3
        · dsimp only
          rw [updL_ne (by omega), updL_ne (by omega), updL_ne (by omega)]; exact q3 k hk
      · obtain ⟨q1, q2, q3⟩ := hJ
        unfold f_X4_addScene_S11
        rw [q1, if_pos (show (3 : Int32) ≤ nI 3 by decide)]
        exact ⟨_, rfl, q2, q3⟩
    · obtain ⟨h1, h2⟩ := h
      refine ⟨fun p hp u hu => ?_, fun q hq i hi => ?_, h2⟩
      · obtain ⟨g1, g2, g3⟩ := h1 (p / 48) (by omega)
        rcases (show u = 0 ∨ u = 1 ∨ u = 2 by omega) with rfl | rfl | rfl
        · rw [show 9 * nc + 3 * 0 + p / 48 = 9 * nc + p / 48 by omega, g1, full_tab _ (by omega), decide_eq_true (show p % 48 < 48 by omega)]; rfl
        · rw [show 9 * nc + 3 * 1 + p / 48 = 9 * nc + 3 + p / 48 by omega, g2, bl_0]; rfl
        · rw [show 9 * nc + 3 * 2 + p / 48 = 9 * nc + 6 + p / 48 by omega, g3, bl_0]; rfl
      · by_cases i64 : 64 ≤ i
        · exact bl_big i64
        · obtain ⟨g1, g2, g3⟩ := h1 (q % 3) (by omega)
          rcases (show q / 3 = 0 ∨ q / 3 = 1 ∨ q / 3 = 2 by omega) with e | e | e
          · rw [show 9 * nc + q = 9 * nc + q % 3 by omega, g1, full_tab _ (by omega)]; exact decide_eq_false (by omega)
          · rw [show 9 * nc + q = 9 * nc + 3 + q % 3 by omega, g2, bl_0]
          · rw [show 9 * nc + q = 9 * nc + 6 + q % 3 by omega, g3, bl_0]
  obtain ⟨W1, e1, h1⟩ := H
  obtain ⟨W2, e2, h2⟩ := c_addLoop (sc := nI nc) (b := 9 * nc) (by omega) l 0 l.length W1 _ (Nat.zero_add _) hl (fun i r hi => by rw [Nat.zero_add]; exact hw i r hi) hv h1
  unfold f_X4_addScene f_X4_addScene_J11 f_X4_addScene_J56 f_X4_addScene_J58 f_X4_addScene_J167
  rw [nm_s, show nI nc * (3 : Int32) * (3 : Int32) = nI (9 * nc) by rw [show (3 : Int32) = nI 3 from rfl, pk_mul, pk_mul]; congr 1; omega, e1, bnd_s]
  rw [show lp (fun q => f_X4_addScene_S58 fd (nI l.length) (nI (9 * nc)) (nI nc) q.1 q.2) ((0 : Int32), W1) = some W2 from e2, bnd_s, nm_s, nI_1, show nI (nc + 1) - (1 : Int32) = nI nc from pk_sub (a := nc + 1) (b := 1) (by omega)]
  exact ⟨W2, rfl, h2⟩
