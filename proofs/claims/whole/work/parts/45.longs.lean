/-! ===== longs as bits ===== -/
theorem bl_ext {x y : Int64} (h : ∀ i, i < 64 → bl x i = bl y i) : x = y := Int64.toBitVec_inj.mp (BitVec.eq_of_getLsbD_eq (fun i hi => h i hi))
theorem bl_or (x y : Int64) (i : Nat) : bl (x ||| y) i = (bl x i || bl y i) := by unfold bl; rw [Int64.toBitVec_or, BitVec.getLsbD_or]
theorem bl_and (x y : Int64) (i : Nat) : bl (x &&& y) i = (bl x i && bl y i) := by unfold bl; rw [Int64.toBitVec_and, BitVec.getLsbD_and]
theorem bl_xor (x y : Int64) (i : Nat) : bl (x ^^^ y) i = (bl x i ^^ bl y i) := by unfold bl; rw [Int64.toBitVec_xor, BitVec.getLsbD_xor]
theorem bl_big {x : Int64} {i : Nat} (h : 64 ≤ i) : bl x i = false := BitVec.getLsbD_of_ge _ _ h
theorem bl_0 (i : Nat) : bl 0 i = false := BitVec.getLsbD_zero
theorem bl_m1 : ∀ i, i < 64 → bl (-1) i = true := by decide +kernel
theorem bl_1 : ∀ j, j < 64 → bl 1 j = decide (j = 0) := by decide +kernel
theorem bl_not (x : Int64) {i : Nat} (hi : i < 64) : bl (x ^^^ -1) i = !bl x i := by rw [bl_xor, bl_m1 i hi, Bool.xor_true]
theorem sl64 : ∀ n, n < 64 → (((nI n).toInt64 &&& 63).toBitVec.smod 64).toNat = n := by decide +kernel
theorem bl_shl (n : Nat) (hn : n < 64) (x : Int64) {i : Nat} (hi : i < 64) : bl (x <<< ((nI n).toInt64 &&& 63)) i = (decide (n ≤ i) && bl x (i - n)) := by
  unfold bl
  rw [Int64.toBitVec_shiftLeft]
  show (x.toBitVec <<< (((nI n).toInt64 &&& 63).toBitVec.smod 64).toNat).getLsbD i = _
  rw [sl64 n hn, BitVec.getLsbD_shiftLeft]
  rcases Nat.lt_or_ge i n with h | h
  · simp [h, Nat.not_le.mpr h]
  · simp [hi, h, Nat.not_lt.mpr h]
theorem bl_sshr (n : Nat) (hn : n < 64) (x : Int64) {i : Nat} (hi : i < 64) : bl (x >>> ((nI n).toInt64 &&& 63)) i = if n + i < 64 then bl x (n + i) else bl x 63 := by
  unfold bl
  rw [Int64.toBitVec_shiftRight]
  show (x.toBitVec.sshiftRight (((nI n).toInt64 &&& 63).toBitVec.smod 64).toNat).getLsbD i = _
  rw [sl64 n hn, BitVec.getLsbD_sshiftRight, BitVec.msb_eq_getLsbD_last]
  simp [hi]
theorem bl_and1 (y : Int64) : y &&& 1 = 0 ↔ bl y 0 = false := by
  constructor
  · intro h
    have := congrArg (fun z => bl z 0) h
    simp only [bl_and, bl_1 0 (by decide), bl_0] at this
    simpa using this
  · intro h
    refine bl_ext (fun i hi => ?_)
    rw [bl_and, bl_1 i hi, bl_0]
    by_cases e : i = 0
    · subst e; rw [h]; rfl
    · rw [decide_eq_false e, Bool.and_false]
theorem bl_test (x : Int64) {i : Nat} (hi : i < 64) : lg_cmp ((x >>> ((nI i).toInt64 &&& 63)) &&& (1 : Int64)) (0 : Int64) = 0 ↔ bl x i = false := by
  rw [lg_cmp_eq, bl_and1, bl_sshr i hi x (by decide), if_pos (by omega), Nat.add_zero]
theorem bl_int (x : Int32) {i : Nat} (hi : i < 64) : bl x.toInt64 i = if i < 32 then bt x i else bt x 31 := by
  unfold bl bt
  rw [Int32.toBitVec_toInt64, BitVec.getLsbD_signExtend, BitVec.msb_eq_getLsbD_last]
  simp [hi]
theorem updL_at (f : Nat → Int64) (i : Nat) (v : Int64) (k : Nat) : vp_updL f i v k = if k = i then v else f k := by
  by_cases h : k = i
  · subst h; rw [if_pos rfl]; exact pk_uLs
  · rw [if_neg h]; exact pk_uLn h
/-! counting the bits of a long -/
theorem land8 {a M c u : Nat} (hc : c < 256) (hu : u < 256) : (256 * a + c) &&& (256 * M + u) = 256 * (a &&& M) + (c &&& u) := by
  apply Nat.eq_of_testBit_eq
  intro j
  rw [show (256 : Nat) = 2 ^ 8 from rfl, Nat.testBit_and, Nat.testBit_two_pow_mul_add a hc j, Nat.testBit_two_pow_mul_add M hu j, Nat.testBit_two_pow_mul_add _ (Nat.and_lt_two_pow c (show u < 2 ^ 8 from hu)) j]
  split
  · rw [Nat.testBit_and]
  · rw [Nat.testBit_and]
def rep (m : Nat) : Nat → Nat
  | 0 => 0
  | k + 1 => 256 * rep m k + m
def s1n (k n : Nat) : Nat := n - (n / 2 &&& rep 85 k)
def s2n (k n : Nat) : Nat := (n &&& rep 51 k) + (n / 4 &&& rep 51 k)
def s3n (k n : Nat) : Nat := (n + n / 16) &&& rep 15 k
def p1b (b : Nat) : Nat := b - (b / 2 &&& 85)
def p2b (b : Nat) : Nat := (b &&& 51) + (b / 4 &&& 51)
def p3b (b : Nat) : Nat := (b + b / 16) &&& 15
def pc8 (b : Nat) : Nat := p3b (p2b (p1b b))
def pcs : Nat → Nat → Nat
  | 0, _ => 0
  | k + 1, n => 256 * pcs k (n / 256) + pc8 (n % 256)
theorem pq1 : ∀ b, b < 256 → ∀ e, e < 2 → (128 * e + b / 2) &&& 85 = b / 2 &&& 85 := by decide +kernel
theorem pq2 : ∀ b, b < 256 → ∀ e, e < 4 → (64 * e + b / 4) &&& 51 = b / 4 &&& 51 := by decide +kernel
theorem pq3 : ∀ z, z < 69 → ∀ e, e < 5 → (z + z / 16 + 16 * e) &&& 15 = (z + z / 16) &&& 15 := by decide +kernel
theorem pq4 : ∀ b, b < 256 → (b / 2 &&& 85) ≤ b ∧ p1b b < 256 ∧ p2b (p1b b) < 69 ∧ p2b (p1b b) % 16 ≤ 4 ∧ pc8 b ≤ 8 ∧ pc8 b = fb_ct (fun i => b.testBit i) 8 := by decide +kernel
theorem s1_step (k m b : Nat) (hb : b < 256) : s1n (k + 1) (256 * m + b) = 256 * s1n k m + p1b b := by
  unfold s1n p1b
  show 256 * m + b - ((256 * m + b) / 2 &&& (256 * rep 85 k + 85)) = _
  rw [show (256 * m + b) / 2 = 256 * (m / 2) + (128 * (m % 2) + b / 2) by omega, land8 (by omega) (by decide), pq1 b hb _ (by omega)]
  have h1 := (pq4 b hb).1
  have h2 : (m / 2 &&& rep 85 k) ≤ m := Nat.le_trans Nat.and_le_left (Nat.div_le_self _ _)
  omega
theorem s2_step (k m b : Nat) (hb : b < 256) : s2n (k + 1) (256 * m + b) = 256 * s2n k m + p2b b := by
  unfold s2n p2b
  show ((256 * m + b) &&& (256 * rep 51 k + 51)) + ((256 * m + b) / 4 &&& (256 * rep 51 k + 51)) = _
  rw [show (256 * m + b) / 4 = 256 * (m / 4) + (64 * (m % 4) + b / 4) by omega, land8 hb (by decide), land8 (by omega) (by decide), pq2 b hb _ (by omega)]
  omega
theorem s3_step (k m b : Nat) (hb : b < 69) (hm : m % 16 ≤ 4) : s3n (k + 1) (256 * m + b) = 256 * s3n k m + p3b b := by
  unfold s3n p3b
  show ((256 * m + b) + (256 * m + b) / 16) &&& (256 * rep 15 k + 15) = _
  rw [show (256 * m + b) + (256 * m + b) / 16 = 256 * (m + m / 16) + (b + b / 16 + 16 * (m % 16)) by omega, land8 (by omega) (by decide), pq3 b hb _ (by omega)]
theorem pcs_run : ∀ k n, n < 256 ^ k → s2n k (s1n k n) % 16 ≤ 4 ∧ s3n k (s2n k (s1n k n)) = pcs k n := by
  intro k
  induction k with
  | zero =>
    intro n hn
    obtain rfl : n = 0 := by omega
    exact ⟨by decide, by decide⟩
  | succ k ih =>
    intro n hn
    have hm : n / 256 < 256 ^ k := by
      rw [Nat.pow_succ] at hn
      exact Nat.div_lt_of_lt_mul (by omega)
    obtain ⟨h1, h2⟩ := ih (n / 256) hm
    obtain ⟨_, q2, q3, q4, _, _⟩ := pq4 (n % 256) (Nat.mod_lt _ (by decide))
    have e1 : s1n (k + 1) n = 256 * s1n k (n / 256) + p1b (n % 256) := by
      have := s1_step k (n / 256) (n % 256) (Nat.mod_lt _ (by decide))
      rwa [show 256 * (n / 256) + n % 256 = n by omega] at this
    rw [e1, s2_step k _ _ q2]
    refine ⟨by omega, ?_⟩
    rw [s3_step k _ _ q3 h1, h2]
    rfl
def sm8 : Nat → Nat → Nat
  | 0, _ => 0
  | k + 1, n => pc8 (n % 256) + sm8 k (n / 256)
theorem ct_sm8 : ∀ k n, fb_ct (fun i => n.testBit i) (8 * k) = sm8 k n := by
  intro k
  induction k with
  | zero => intro n; rfl
  | succ k ih =>
    intro n
    rw [show 8 * (k + 1) = 8 + 8 * k by omega, fb_ct_split]
    show _ = pc8 (n % 256) + sm8 k (n / 256)
    rw [← ih (n / 256), (pq4 (n % 256) (Nat.mod_lt _ (by decide))).2.2.2.2.2]
    congr 1
    · refine fb_ct_cong (fun i hi => ?_)
      rw [show (256 : Nat) = 2 ^ 8 from rfl, Nat.testBit_mod_two_pow, decide_eq_true hi, Bool.true_and]
    · refine fb_ct_cong (fun i hi => ?_)
      rw [show (256 : Nat) = 2 ^ 8 from rfl, Nat.testBit_div_two_pow, Nat.add_comm]
