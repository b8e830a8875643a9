/-! ===== what covers what: places are 32 off ===== -/
def cov (cells : Int32) (K i j : Nat) : Bool := decide (32 ≤ i ∧ i < 32 + 5 * K ∧ 32 ≤ j ∧ j < 32 + 5 * K) && bt cells (5 * ((j - 32) / K) + (i - 32) / K)
theorem cov_in {cells : Int32} {K i j : Nat} (h : cov cells K i j = true) : 32 ≤ i ∧ i < 32 + 5 * K ∧ 32 ≤ j ∧ j < 32 + 5 * K := by
  unfold cov at h
  rw [Bool.and_eq_true] at h
  exact of_decide_eq_true h.1
def allb (p : Nat → Bool) : Nat → Bool
  | 0 => true
  | n + 1 => allb p n && p n
theorem allb_iff {p : Nat → Bool} : ∀ {n : Nat}, allb p n = true ↔ ∀ k, k < n → p k = true := by
  intro n
  induction n with
  | zero => exact ⟨fun _ k hk => absurd hk (Nat.not_lt_zero k), fun _ => rfl⟩
  | succ n ih =>
    show (allb p n && p n) = true ↔ _
    rw [Bool.and_eq_true, ih]
    constructor
    · rintro ⟨h1, h2⟩ k hk
      rcases Nat.lt_succ_iff_lt_or_eq.mp hk with z | rfl
      · exact h1 k z
      · exact h2
    · exact fun h => ⟨fun k hk => h k (by omega), h n (by omega)⟩
def okb (cells : Int32) (K F i j a b : Nat) : Bool := decide (F < ((a - F) + (F - a)) + ((b - F) + (F - b))) || cov cells K (i + a - F) (j + b - F)
def ball (cells : Int32) (K F i j : Nat) : Bool := allb (fun a => allb (okb cells K F i j a) (2 * F + 1)) (2 * F + 1)
def shd (cells : Int32) (K F i j : Nat) : Nat := if cov cells K i j = true then (if ball cells K F i j = true then 2 else 1) else 0
def BP (cells : Int32) (K n i j : Nat) : Prop := ∀ i' j', (i' - i) + (i - i') + ((j' - j) + (j - j')) ≤ n → cov cells K i' j' = true
theorem ball_BP {cells : Int32} {K F i j : Nat} (hi : F ≤ i) (hj : F ≤ j) : ball cells K F i j = true ↔ BP cells K F i j := by
  unfold ball
  rw [allb_iff]
  constructor
  · intro h i' j' hd
    have h1 := allb_iff.mp (h (i' + F - i) (by omega)) (j' + F - j) (by omega)
    unfold okb at h1
    rw [Bool.or_eq_true] at h1
    rcases h1 with h1 | h1
    · have := of_decide_eq_true h1
      omega
    · rwa [show i + (i' + F - i) - F = i' by omega, show j + (j' + F - j) - F = j' by omega] at h1
  · intro h a ha
    refine allb_iff.mpr (fun b hb => ?_)
    unfold okb
    rw [Bool.or_eq_true]
    by_cases q : F < ((a - F) + (F - a)) + ((b - F) + (F - b))
    · exact Or.inl (decide_eq_true q)
    · exact Or.inr (h _ _ (by omega))
theorem BP_cov {cells : Int32} {K n i j : Nat} (h : BP cells K n i j) : cov cells K i j = true := h i j (by omega)
theorem BP_succ {cells : Int32} {K n i j : Nat} (hi : 1 ≤ i) (hj : 1 ≤ j) : BP cells K (n + 1) i j ↔ BP cells K n i j ∧ BP cells K n (i - 1) j ∧ BP cells K n (i + 1) j ∧ BP cells K n i (j - 1) ∧ BP cells K n i (j + 1) := by
  constructor
  · intro h
    exact ⟨fun a b q => h a b (by omega), fun a b q => h a b (by omega), fun a b q => h a b (by omega), fun a b q => h a b (by omega), fun a b q => h a b (by omega)⟩
  · rintro ⟨h0, h1, h2, h3, h4⟩ a b q
    by_cases z : (a - i) + (i - a) + ((b - j) + (j - b)) ≤ n
    · exact h0 a b z
    · rcases (show a < i ∨ i < a ∨ b < j ∨ j < b by omega) with y | y | y | y
      · exact h1 a b (by omega)
      · exact h2 a b (by omega)
      · exact h3 a b (by omega)
      · exact h4 a b (by omega)
theorem BP_zero {cells : Int32} {K i j : Nat} : BP cells K 0 i j ↔ cov cells K i j = true := ⟨BP_cov, fun h a b q => by rwa [show a = i by omega, show b = j by omega]⟩
/-! the model's -/
theorem fdiv_tab : ∀ K, K < 3 → ∀ i, i < 64 → f_J9_floorDiv_7cf53 (nI i - 32) (nI (K + 1)) = some (nI ((i + 96 * (K + 1) - 32) / (K + 1)) - 96) := by decide +kernel
theorem wi_tab : ∀ q, q < 400 → f_X8_within (nI q - 96) 0 4 = if 96 ≤ q ∧ q ≤ 100 then 1 else 0 := by decide +kernel
theorem qdiv {k i : Nat} (hk : k < 3) (hi : i < 64) : (i + 96 * (k + 1) - 32) / (k + 1) < 400 ∧ ((96 ≤ (i + 96 * (k + 1) - 32) / (k + 1) ∧ (i + 96 * (k + 1) - 32) / (k + 1) ≤ 100) ↔ (32 ≤ i ∧ i < 32 + 5 * (k + 1))) ∧ (32 ≤ i → (i + 96 * (k + 1) - 32) / (k + 1) - 96 = (i - 32) / (k + 1)) := by
  rcases (show k = 0 ∨ k = 1 ∨ k = 2 by omega) with rfl | rfl | rfl
  · refine ⟨by omega, by omega, by omega⟩
  · refine ⟨by omega, by omega, by omega⟩
  · refine ⟨by omega, by omega, by omega⟩
theorem div5 {k i : Nat} (hk : k < 3) (h : i < 5 * (k + 1)) : i / (k + 1) < 5 := Nat.div_lt_of_lt_mul (by rw [Nat.mul_comm]; exact h)
theorem m_isCovered {cells : Int32} {K i j : Nat} (hK : 1 ≤ K ∧ K ≤ 3) (hi : i < 64) (hj : j < 64) : f_X8_isCovered cells (nI K) (nI i - 32) (nI j - 32) = some (if cov cells K i j = true then 1 else 0) := by
  obtain ⟨k, rfl⟩ : ∃ k, K = k + 1 := ⟨K - 1, by omega⟩
  have hk : k < 3 := by omega
  obtain ⟨x1, x2, x3⟩ := qdiv hk hi
  obtain ⟨y1, y2, y3⟩ := qdiv hk hj
  unfold f_X8_isCovered
  rw [fdiv_tab k hk i hi, bnd_s, fdiv_tab k hk j hj, bnd_s, nm_s, wi_tab _ x1]
  unfold cov
  by_cases hx : 32 ≤ i ∧ i < 32 + 5 * (k + 1)
  · rw [if_pos (x2.mpr hx), if_neg (by decide), nm_s, wi_tab _ y1]
    by_cases hy : 32 ≤ j ∧ j < 32 + 5 * (k + 1)
    · have dx := div5 hk (show i - 32 < 5 * (k + 1) by omega)
      have dy := div5 hk (show j - 32 < 5 * (k + 1) by omega)
      have ex : nI ((i + 96 * (k + 1) - 32) / (k + 1)) - (96 : Int32) = nI ((i - 32) / (k + 1)) := by
        rw [show (96 : Int32) = nI 96 from rfl, pk_sub (x2.mpr hx).1, x3 hx.1]
      have ey : nI ((j + 96 * (k + 1) - 32) / (k + 1)) - (96 : Int32) = nI ((j - 32) / (k + 1)) := by
        rw [show (96 : Int32) = nI 96 from rfl, pk_sub (y2.mpr hy).1, y3 hy.1]
      rw [if_pos (y2.mpr hy), if_neg (by decide), nm_s, ex, ey, show (5 : Int32) * nI ((j - 32) / (k + 1)) + nI ((i - 32) / (k + 1)) = nI (5 * ((j - 32) / (k + 1)) + (i - 32) / (k + 1)) by rw [show (5 : Int32) = nI 5 from rfl, pk_mul, nI_add], m_has cells (by omega), decide_eq_true (show 32 ≤ i ∧ i < 32 + 5 * (k + 1) ∧ 32 ≤ j ∧ j < 32 + 5 * (k + 1) from ⟨hx.1, hx.2, hy.1, hy.2⟩), Bool.true_and]
      by_cases q : bt cells (5 * ((j - 32) / (k + 1)) + (i - 32) / (k + 1)) = true
      · rw [if_pos q, if_neg (by decide)]
      · rw [if_neg q, if_pos rfl]
    · rw [if_neg (mt y2.mp hy), if_pos rfl, decide_eq_false (fun z => hy ⟨z.2.2.1, z.2.2.2⟩), Bool.false_and, if_neg (by decide)]
  · rw [if_neg (mt x2.mp hx), if_pos rfl, decide_eq_false (fun z => hx ⟨z.1, z.2.1⟩), Bool.false_and, if_neg (by decide)]
def b2 (g : Bool) : Int32 := if g = true then 1 else 0
theorem sb_tab1 : ∀ F, F < 3 → ∀ n, n < 6 → (nI F < nI n - nI F ↔ 2 * F < n) := by decide +kernel
theorem sb_tab2 : ∀ F, F < 3 → ∀ a, a < 5 → ∀ b, b < 5 → (nI F < f_J9_abs_0f7a4 (nI a - nI F) + f_J9_abs_0f7a4 (nI b - nI F) ↔ F < ((a - F) + (F - a)) + ((b - F) + (F - b))) := by decide +kernel
theorem sb_tab3 : ∀ F, F < 3 → -nI F = nI 0 - nI F := by decide +kernel
theorem sb_nx (n F : Nat) : nI n - nI F + 1 = nI (n + 1) - nI F := by
  rw [nI_succ]
  simp only [Int32.sub_eq_add_neg]
  ac_rfl
theorem sb_mv {i a F : Nat} (h : F ≤ i + a) : (nI i - 32) + (nI a - nI F) = nI (i + a - F) - 32 := by
  rw [← pk_sub h, ← nI_add]
  simp only [Int32.sub_eq_add_neg]
  ac_rfl
theorem m_shIn {cells : Int32} {K F i j a : Nat} (hK : 1 ≤ K ∧ K ≤ 3) (hF : F < 3) (hi : 2 ≤ i ∧ i < 62) (hj : 2 ≤ j ∧ j < 62) (ha : a < 2 * F + 1) (g : Bool) :
    lp (fun q => f_X8_shadeBy_S30 cells (nI K) (nI F) (nI i - 32) (nI j - 32) (nI a - nI F) q.1 q.2) (b2 g, -nI F) = some (b2 (g && allb (okb cells K F i j a) (2 * F + 1))) := by
  refine lp_run' (fun n => (b2 (g && allb (okb cells K F i j a) n), nI n - nI F)) (2 * F + 1) ?_ (fun n hn => ?_) ?_
  · show (b2 g, -nI F) = (b2 (g && true), nI 0 - nI F)
    rw [Bool.and_true, sb_tab3 F hF]
  · show f_X8_shadeBy_S30 cells (nI K) (nI F) (nI i - 32) (nI j - 32) (nI a - nI F) (b2 (g && allb (okb cells K F i j a) n)) (nI n - nI F) = some (Sum.inl (b2 (g && (allb (okb cells K F i j a) n && okb cells K F i j a n)), nI (n + 1) - nI F))
    unfold f_X8_shadeBy_S30 f_X8_shadeBy_J77 f_X8_shadeBy_J73 f_X8_shadeBy_J78
    rw [if_neg (mt (sb_tab1 F hF n (by omega)).mp (by omega)), ← Bool.and_assoc]
    cases hG : (g && allb (okb cells K F i j a) n) with
    | false =>
      rw [if_pos (show b2 false = 0 from rfl), nm_s, sb_nx, Bool.false_and]
      rfl
    | true =>
      rw [if_neg (show ¬ b2 true = 0 by decide), nm_s, nm_s, Bool.true_and, nm_s, nm_s, sb_nx]
      unfold okb
      by_cases q : F < ((a - F) + (F - a)) + ((n - F) + (F - n))
      · rw [if_pos ((sb_tab2 F hF a (by omega) n (by omega)).mpr q), decide_eq_true q, Bool.true_or]
        rfl
      · rw [if_neg (mt (sb_tab2 F hF a (by omega) n (by omega)).mp q), decide_eq_false q, Bool.false_or, sb_mv (by omega), sb_mv (by omega), m_isCovered hK (by omega) (by omega), bnd_s]
        cases hc : cov cells K (i + a - F) (j + n - F) with
        | false => rw [if_pos (show (if (false = true) then (1 : Int32) else 0) = 0 from rfl)]; rfl
        | true => rw [if_pos rfl, if_neg (by decide)]; rfl
  · show f_X8_shadeBy_S30 cells (nI K) (nI F) (nI i - 32) (nI j - 32) (nI a - nI F) (b2 (g && allb (okb cells K F i j a) (2 * F + 1))) (nI (2 * F + 1) - nI F) = _
    unfold f_X8_shadeBy_S30
    rw [if_pos ((sb_tab1 F hF (2 * F + 1) (by omega)).mpr (by omega))]
theorem m_shadeBy {cells : Int32} {K F i j : Nat} (hK : 1 ≤ K ∧ K ≤ 3) (hF : F < 3) (hi : 2 ≤ i ∧ i < 62) (hj : 2 ≤ j ∧ j < 62) : f_X8_shadeBy cells (nI K) (nI F) (nI i - 32) (nI j - 32) = some (nI (shd cells K F i j)) := by
  unfold f_X8_shadeBy shd
  rw [m_isCovered hK (by omega) (by omega), bnd_s]
  cases hc : cov cells K i j with
  | false => rw [if_pos (show (if (false = true) then (1 : Int32) else 0) = 0 from rfl), if_neg (by decide)]; rfl
  | true =>
    rw [if_pos rfl, if_neg (by decide), nm_s, if_pos rfl]
    unfold f_X8_shadeBy_J20
    have e : lp (fun q => f_X8_shadeBy_S20 cells (nI K) (nI F) (nI i - 32) (nI j - 32) q.1 q.2) ((1 : Int32), -nI F) = some (b2 (ball cells K F i j)) := by
      refine lp_run' (fun n => (b2 (allb (fun a => allb (okb cells K F i j a) (2 * F + 1)) n), nI n - nI F)) (2 * F + 1) ?_ (fun n hn => ?_) ?_
      · show ((1 : Int32), -nI F) = (b2 true, nI 0 - nI F)
        rw [sb_tab3 F hF]
        rfl
      · show f_X8_shadeBy_S20 cells (nI K) (nI F) (nI i - 32) (nI j - 32) (b2 (allb (fun a => allb (okb cells K F i j a) (2 * F + 1)) n)) (nI n - nI F) = some (Sum.inl (b2 (allb (fun a => allb (okb cells K F i j a) (2 * F + 1)) n && allb (okb cells K F i j n) (2 * F + 1)), nI (n + 1) - nI F))
        unfold f_X8_shadeBy_S20 f_X8_shadeBy_J30 f_X8_shadeBy_J86
        rw [if_neg (mt (sb_tab1 F hF n (by omega)).mp (by omega)), nm_s, m_shIn hK hF hi hj hn, bnd_s, nm_s, sb_nx]
      · show f_X8_shadeBy_S20 cells (nI K) (nI F) (nI i - 32) (nI j - 32) (b2 (allb (fun a => allb (okb cells K F i j a) (2 * F + 1)) (2 * F + 1))) (nI (2 * F + 1) - nI F) = _
        unfold f_X8_shadeBy_S20
        rw [if_pos ((sb_tab1 F hF (2 * F + 1) (by omega)).mpr (by omega))]
        rfl
    rw [e, bnd_s]
    unfold f_X8_shadeBy_J92
    cases hb : ball cells K F i j with
    | false => rw [if_pos (show b2 false = 0 from rfl), if_neg (by decide)]; rfl
    | true => rw [if_neg (show ¬ b2 true = 0 by decide), if_pos rfl]; rfl
/-! the class's: growing -/
theorem gr_tab : ∀ k, k < 3 → ∀ x, x < 5 → ∀ b, b < 32 → bt ((((1 : Int32) <<< (nI (k + 1) &&& 31)) - 1) <<< ((nI (k + 1) * nI x) &&& 31)) b = decide ((k + 1) * x ≤ b ∧ b < (k + 1) * x + (k + 1)) := by decide +kernel
theorem kdiv {k b n : Nat} (hk : k < 3) : ((k + 1) * n ≤ b ∧ b < (k + 1) * n + (k + 1)) ↔ b / (k + 1) = n := by
  rcases (show k = 0 ∨ k = 1 ∨ k = 2 by omega) with rfl | rfl | rfl <;> omega
theorem kmul {k n : Nat} (hk : k < 3) (hn : n ≤ 5) : (k + 1) * n ≤ 15 ∧ (k + 1) * (n + 1) = (k + 1) * n + (k + 1) ∧ (k + 1) * 5 = 5 * (k + 1) := by
  rcases (show k = 0 ∨ k = 1 ∨ k = 2 by omega) with rfl | rfl | rfl <;> omega
theorem c_growRow {cells l3 : Int32} {k y : Nat} {c d : Nat → Int32} (hk : k < 3) (hy : y < 5) : OK (lp (fun q => f_X3_grow_S17 cells (nI (k + 1)) l3 (nI y) c d q.1 q.2) ((0 : Int32), (0 : Int32))) (fun r => ∀ b, b < 32 → bt r b = (decide (b < (k + 1) * 5) && bt cells (5 * y + b / (k + 1)))) := by
  refine ok_lp (fun n s => s.2 = nI n ∧ ∀ b, b < 32 → bt s.1 b = (decide (b < (k + 1) * n) && bt cells (5 * y + b / (k + 1)))) 5 (fun n s hn hJ => Or.inl ?_) (fun s hJ => ?_) ⟨rfl, fun b _ => by rw [b_0, Nat.mul_zero, decide_eq_false (Nat.not_lt_zero b), Bool.false_and]⟩
  · obtain ⟨e, hb⟩ := hJ
    obtain ⟨_, km, _⟩ := kmul (n := n) hk (by omega)
    unfold f_X3_grow_S17 f_X3_grow_J52
    rw [e, if_neg (ge_5 hn), show (5 : Int32) * nI y + nI n = nI (5 * y + n) by rw [show (5 : Int32) = nI 5 from rfl, pk_mul, nI_add], and1, bt_shr0 cells (by omega)]
    have key : ∀ b, (b < (k + 1) * (n + 1)) ↔ (b < (k + 1) * n ∨ b / (k + 1) = n) := fun b => by
      rw [km, ← kdiv hk]; omega
    by_cases q : bt cells (5 * y + n) = true
    · rw [if_pos q, if_neg (by decide), nm_s, nm_s, nI_1]
      refine ⟨_, rfl, rfl, fun b h32 => ?_⟩
      show bt (s.1 ||| _) b = _
      rw [b_or, hb b h32, gr_tab k hk n hn b h32]
      by_cases z : b / (k + 1) = n
      · rw [decide_eq_true ((kdiv hk).mpr z), decide_eq_true ((key b).mpr (Or.inr z)), z, q, Bool.or_true]; rfl
      · rw [decide_eq_false (mt (kdiv hk).mp z), Bool.or_false]
        by_cases v : b < (k + 1) * n
        · rw [decide_eq_true v, decide_eq_true ((key b).mpr (Or.inl v))]
        · rw [decide_eq_false v, decide_eq_false (fun x => ((key b).mp x).elim v z)]
    · rw [if_neg q, if_pos rfl, nm_s, nI_1]
      refine ⟨_, rfl, rfl, fun b h32 => ?_⟩
      show bt s.1 b = _
      rw [hb b h32]
      by_cases z : b / (k + 1) = n
      · rw [z, ts_nt q, Bool.and_false, Bool.and_false]
      · by_cases v : b < (k + 1) * n
        · rw [decide_eq_true v, decide_eq_true ((key b).mpr (Or.inl v))]
        · rw [decide_eq_false v, decide_eq_false (fun x => ((key b).mp x).elim v z)]
  · obtain ⟨e, hb⟩ := hJ
    unfold f_X3_grow_S17
    rw [e, if_pos gl_5]
    exact ⟨_, rfl, hb⟩
theorem c_growLines {cells a4 v : Int32} {k L : Nat} {c d : Nat → Int32} (hk : k < 3) (hL : L + (k + 1) ≤ 15) : OK (lp (fun q => f_X3_grow_S61 cells (nI (k + 1)) a4 v q.1 q.2.1 q.2.2.1 q.2.2.2) (nI L, (0 : Int32), c, d)) (fun r => r.1 = nI (L + (k + 1)) ∧ ∀ n, r.2.1 n = (if L ≤ n ∧ n < L + (k + 1) then v else c n) ∧ r.2.2 n = (if L ≤ n ∧ n < L + (k + 1) then v else d n)) := by
  refine ok_lp (fun m s => s.1 = nI (L + m) ∧ s.2.1 = nI m ∧ ∀ n, s.2.2.1 n = (if L ≤ n ∧ n < L + m then v else c n) ∧ s.2.2.2 n = (if L ≤ n ∧ n < L + m then v else d n)) (k + 1) (fun m s hm hJ => Or.inl ?_) (fun s hJ => ?_) ⟨rfl, rfl, fun n => ⟨by rw [if_neg (by omega)], by rw [if_neg (by omega)]⟩⟩
  · obtain ⟨e1, e2, hb⟩ := hJ
    unfold f_X3_grow_S61
    rw [e1, e2, if_neg (nI_ge hm (by omega)), if_neg (ge_15 (by omega)), chk_n (by omega) (by decide), nm_s, chk_n (by omega) (by decide), nm_s, nI_clamp (by omega), nm_s, nm_s, nI_1, nI_1]
    refine ⟨_, rfl, rfl, rfl, fun n => ?_⟩
    show upd _ _ _ _ = _ ∧ upd _ _ _ _ = _
    rw [upd_at, upd_at, (hb n).1, (hb n).2]
    by_cases z : n = L + m
    · rw [if_pos z, if_pos z, if_pos (by omega), if_pos (by omega)]; exact ⟨rfl, rfl⟩
    · rw [if_neg z, if_neg z]
      by_cases y : L ≤ n ∧ n < L + m
      · rw [if_pos y, if_pos y, if_pos (by omega), if_pos (by omega)]; exact ⟨rfl, rfl⟩
      · rw [if_neg y, if_neg y, if_neg (by omega), if_neg (by omega)]; exact ⟨rfl, rfl⟩
  · obtain ⟨e1, e2, hb⟩ := hJ
    unfold f_X3_grow_S61
    rw [e1, e2, if_pos (Int32.le_refl _)]
    exact ⟨_, rfl, rfl, hb⟩
theorem c_grow {cells : Int32} {K : Nat} {c d : Nat → Int32} (hK : 1 ≤ K ∧ K ≤ 3) : OK (f_X3_grow c d cells (nI K)) (fun u => ∀ n, n < 15 → (∀ b, b < 32 → bt (u.1 n) b = cov cells K (32 + b) (32 + n)) ∧ u.2 n = u.1 n) := by
  obtain ⟨k, rfl⟩ : ∃ k, K = k + 1 := ⟨K - 1, by omega⟩
  have hk : k < 3 := by omega
  obtain ⟨_, _, k5⟩ := kmul (n := 5) hk (by omega)
  unfold f_X3_grow f_X3_grow_J5
  refine ok_bnd (P := fun z => z.1 = nI ((k + 1) * 5) ∧ ∀ n, n < (k + 1) * 5 → (∀ b, b < 32 → bt (z.2.1 n) b = cov cells (k + 1) (32 + b) (32 + n)) ∧ z.2.2 n = z.2.1 n) (ok_lp (fun y s => s.1 = nI ((k + 1) * y) ∧ s.2.1 = nI y ∧ ∀ n, n < (k + 1) * y → (∀ b, b < 32 → bt (s.2.2.1 n) b = cov cells (k + 1) (32 + b) (32 + n)) ∧ s.2.2.2 n = s.2.2.1 n) 5 (fun y s hy hJ => Or.inl ?_) (fun s hJ => ?_) ⟨rfl, rfl, fun n hn => absurd hn (by rw [Nat.mul_zero]; exact Nat.not_lt_zero n)⟩) (fun z hz => ?_)
  · obtain ⟨e1, e2, hb⟩ := hJ
    obtain ⟨k15, km, _⟩ := kmul (n := y) hk (by omega)
    obtain ⟨k15', _, _⟩ := kmul (n := y + 1) hk (by omega)
    unfold f_X3_grow_S5 f_X3_grow_J17
    rw [e1, e2, if_neg (ge_5 hy)]
    obtain ⟨v, ev, hv⟩ := c_growRow (cells := cells) (l3 := nI ((k + 1) * y)) (c := s.2.2.1) (d := s.2.2.2) hk hy
    rw [ev, bnd_s]
    unfold f_X3_grow_J58 f_X3_grow_J61
    obtain ⟨r, er, h1, h2⟩ := c_growLines (cells := cells) (a4 := nI y) (v := v) (L := (k + 1) * y) (c := s.2.2.1) (d := s.2.2.2) hk (by omega)
    rw [er, bnd_s]
    unfold f_X3_grow_J98
    rw [nm_s, nI_1]
    refine ⟨_, rfl, by rw [km]; exact h1, rfl, fun n hn => ?_⟩
    show (∀ b, b < 32 → bt (r.2.1 n) b = _) ∧ r.2.2 n = r.2.1 n
    rw [(h2 n).1, (h2 n).2]
    by_cases z : (k + 1) * y ≤ n ∧ n < (k + 1) * y + (k + 1)
    · rw [if_pos z, if_pos z]
      refine ⟨fun b h32 => ?_, rfl⟩
      rw [hv b h32]
      unfold cov
      rw [show 32 + n - 32 = n by omega, show 32 + b - 32 = b by omega, (kdiv hk).mp z, k5]
      congr 1
      have := Nat.mul_le_mul_left (k + 1) (show y + 1 ≤ 5 by omega)
      exact decide_eq_decide.mpr (by omega)
    · rw [if_neg z, if_neg z]
      exact hb n (by omega)
  · obtain ⟨e1, e2, hb⟩ := hJ
    unfold f_X3_grow_S5
    rw [e2, if_pos gl_5]
    exact ⟨_, rfl, e1, hb⟩
  · obtain ⟨e1, hb⟩ := hz
    unfold f_X3_grow_J104 f_X3_grow_J107
    refine ok_bnd (P := fun z => ∀ n, n < 15 → (∀ b, b < 32 → bt (z.1 n) b = cov cells (k + 1) (32 + b) (32 + n)) ∧ z.2 n = z.1 n) ?_ (fun z hz => ⟨_, rfl, hz⟩)
    obtain ⟨k15, _, _⟩ := kmul (n := 5) hk (by omega)
    refine ok_lp (fun m s => s.1 = nI ((k + 1) * 5 + m) ∧ ∀ n, n < (k + 1) * 5 + m → (∀ b, b < 32 → bt (s.2.1 n) b = cov cells (k + 1) (32 + b) (32 + n)) ∧ s.2.2 n = s.2.1 n) (15 - (k + 1) * 5) (fun m s hm hJ => Or.inl ?_) (fun s hJ => ?_) ⟨e1, hb⟩
    · obtain ⟨e, hb⟩ := hJ
      unfold f_X3_grow_S107
      rw [e, if_neg (ge_15 (by omega)), chk_n (by omega) (by decide), nm_s, chk_n (by omega) (by decide), nm_s, nI_clamp (by omega), nm_s, nI_1]
      refine ⟨_, rfl, rfl, fun n hn => ?_⟩
      show (∀ b, b < 32 → bt (upd s.2.1 _ _ n) b = _) ∧ upd s.2.2 _ _ n = upd s.2.1 _ _ n
      by_cases z : n = (k + 1) * 5 + m
      · subst z
        rw [upd_same, upd_same]
        refine ⟨fun b h32 => ?_, rfl⟩
        rw [b_0]
        unfold cov
        rw [decide_eq_false (by omega), Bool.false_and]
      · rw [upd_ne z, upd_ne z]
        exact hb n (by omega)
    · obtain ⟨e, hb⟩ := hJ
      rw [show (k + 1) * 5 + (15 - (k + 1) * 5) = 15 by omega] at e hb
      unfold f_X3_grow_S107
      rw [e, if_pos gl_15]
      exact ⟨_, rfl, hb⟩
/-! shrinking -/
def DB (cells : Int32) (K n : Nat) (deep : Nat → Int32) : Prop := ∀ l, l < 15 → ∀ b, b < 32 → (bt (deep l) b = true ↔ BP cells K n (32 + b) (32 + l))
theorem c_shrink {cells : Int32} {K n : Nat} {deep : Nat → Int32} (hK : K ≤ 3) (h : DB cells K n deep) : OK (f_X3_shrinkOnce deep) (DB cells K (n + 1)) := by
  have out : ∀ i j, (i < 32 ∨ 47 ≤ i ∨ j < 32 ∨ 47 ≤ j) → ¬ BP cells K n i j := fun i j hij hb => by
    have := cov_in (BP_cov hb)
    omega
  unfold f_X3_shrinkOnce f_X3_shrinkOnce_J4
  refine ok_bnd (P := DB cells K (n + 1)) (ok_lp (fun m s => s.1 = (if m = 0 then 0 else deep (m - 1)) ∧ s.2.1 = nI m ∧ (∀ l, l < m → l < 15 → ∀ b, b < 32 → (bt (s.2.2 l) b = true ↔ BP cells K (n + 1) (32 + b) (32 + l))) ∧ ∀ l, m ≤ l → s.2.2 l = deep l) 15 (fun m s hm hJ => Or.inl ?_) (fun s hJ => ?_) ⟨rfl, rfl, fun l hl => absurd hl (Nat.not_lt_zero l), fun _ _ => rfl⟩) (fun z hz => ⟨_, rfl, hz⟩)
  · obtain ⟨e1, e2, h1, h2⟩ := hJ
    have main : ∀ below : Int32, (∀ b, b < 32 → (bt below b = true ↔ BP cells K n (32 + b) (32 + m + 1))) → f_X3_shrinkOnce_S4 s.1 s.2.1 s.2.2 = f_X3_shrinkOnce_J37 s.1 (nI m) (deep m) below s.2.2 → ∃ s', f_X3_shrinkOnce_S4 s.1 s.2.1 s.2.2 = some (.inl s') ∧ s'.1 = (if m + 1 = 0 then 0 else deep (m + 1 - 1)) ∧ s'.2.1 = nI (m + 1) ∧ (∀ l, l < m + 1 → l < 15 → ∀ b, b < 32 → (bt (s'.2.2 l) b = true ↔ BP cells K (n + 1) (32 + b) (32 + l))) ∧ ∀ l, m + 1 ≤ l → s'.2.2 l = deep l := by
      intro below hbel es
      rw [es]
      unfold f_X3_shrinkOnce_J37
      rw [chk_n hm (by decide), nm_s, nI_clamp (by omega), nm_s, nI_1]
      refine ⟨_, rfl, rfl, rfl, fun l hl hl15 b hb => ?_, fun l hl => ?_⟩
      · show bt (upd s.2.2 m _ l) b = true ↔ _
        by_cases z : l = m
        · subst z
          rw [upd_same, BP_succ (by omega) (by omega), b_and, b_and, b_and, b_and, show (1 : Int32) = nI 1 from rfl, b_shl 1 (by decide) _ hb, b_sshr 1 (by decide) _ hb]
          simp only [Bool.and_eq_true, decide_eq_true_eq]
          have q0 := h l hl15 b hb
          have q1 : (1 ≤ b ∧ bt (deep l) (b - 1) = true) ↔ BP cells K n (32 + b - 1) (32 + l) := by
            by_cases y : 1 ≤ b
            · rw [show 32 + b - 1 = 32 + (b - 1) by omega, ← h l hl15 (b - 1) (by omega)]
              exact ⟨fun x => x.2, fun x => ⟨y, x⟩⟩
            · exact ⟨fun x => absurd x.1 y, fun x => absurd x (out _ _ (by omega))⟩
          have q2 : (if 1 + b < 32 then bt (deep l) (1 + b) else bt (deep l) 31) = true ↔ BP cells K n (32 + b + 1) (32 + l) := by
            by_cases y : 1 + b < 32
            · rw [if_pos y, show 32 + b + 1 = 32 + (1 + b) by omega]; exact h l hl15 (1 + b) y
            · rw [if_neg y]
              exact ⟨fun x => absurd ((h l hl15 31 (by decide)).mp x) (out _ _ (by omega)), fun x => absurd x (out _ _ (by omega))⟩
          have q3 : bt s.1 b = true ↔ BP cells K n (32 + b) (32 + l - 1) := by
            rw [e1]
            by_cases y : l = 0
            · rw [if_pos y, b_0]
              exact ⟨fun x => Bool.noConfusion x, fun x => absurd x (out _ _ (by omega))⟩
            · rw [if_neg y, show 32 + l - 1 = 32 + (l - 1) by omega]
              exact h (l - 1) (by omega) b hb
          rw [q0, q1, q2, q3, hbel b hb]
          constructor
          · rintro ⟨⟨⟨⟨x0, x1⟩, x2⟩, x3⟩, x4⟩; exact ⟨x0, x1, x2, x3, x4⟩
          · rintro ⟨x0, x1, x2, x3, x4⟩; exact ⟨⟨⟨⟨x0, x1⟩, x2⟩, x3⟩, x4⟩
        · rw [upd_ne z]
          exact h1 l (by omega) hl15 b hb
      · show upd s.2.2 m _ l = _
        rw [upd_ne (by omega)]
        exact h2 l (by omega)
    by_cases z : m + 1 < 15
    · refine main (deep (m + 1)) (fun b hb => h (m + 1) z b hb) ?_
      unfold f_X3_shrinkOnce_S4
      rw [e2, if_neg (ge_15 hm), chk_n hm (by decide), nm_s, nI_clamp (by omega), h2 m (Nat.le_refl _), nI_1, if_neg (ge_15 z), chk_n z (by decide), nI_clamp (by omega), h2 (m + 1) (by omega)]
    · refine main 0 (fun b hb => ?_) ?_
      · rw [b_0]
        exact ⟨fun x => Bool.noConfusion x, fun x => absurd x (out _ _ (by omega))⟩
      · unfold f_X3_shrinkOnce_S4
        rw [e2, if_neg (ge_15 hm), chk_n hm (by decide), nm_s, nI_clamp (by omega), h2 m (Nat.le_refl _), nI_1, if_pos (show (15 : Int32) ≤ nI (m + 1) by rw [show m + 1 = 15 by omega]; exact gl_15)]
  · obtain ⟨e1, e2, h1, h2⟩ := hJ
    unfold f_X3_shrinkOnce_S4
    rw [e2, if_pos gl_15]
    exact ⟨_, rfl, fun l hl b hb => h1 l hl hl b hb⟩
