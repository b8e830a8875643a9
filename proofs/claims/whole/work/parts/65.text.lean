/-! ===== texts: runs of bytes, words, numbers ===== -/
def TB (bytes tape : Nat → Int32) (B : Nat → Nat) (N : Nat) : Prop := N ≤ 400 ∧ ∀ i, i < N → B i < 256 ∧ bytes i = nI (B i) ∧ tape i = (nI (B i)).toInt8.toInt32
def rnF (p : Nat → Bool) : Nat → Nat → Nat
  | 0, i => i
  | f + 1, i => if p i = true then rnF p f (i + 1) else i
def rn (p : Nat → Bool) (N i : Nat) : Nat := rnF p (N - i) i
theorem rnF_facts (p : Nat → Bool) : ∀ f i, i ≤ rnF p f i ∧ rnF p f i ≤ i + f ∧ (∀ k, i ≤ k → k < rnF p f i → p k = true) ∧ (rnF p f i < i + f → p (rnF p f i) = false) := by
  intro f
  induction f with
  | zero => intro i; exact ⟨Nat.le_refl _, Nat.le_refl _, fun k h1 h2 => absurd h2 (Nat.not_lt.mpr h1), fun h => absurd h (Nat.lt_irrefl _)⟩
  | succ f ih =>
    intro i
    show i ≤ (if p i = true then rnF p f (i + 1) else i) ∧ (if p i = true then rnF p f (i + 1) else i) ≤ i + (f + 1) ∧ (∀ k, i ≤ k → k < (if p i = true then rnF p f (i + 1) else i) → p k = true) ∧ ((if p i = true then rnF p f (i + 1) else i) < i + (f + 1) → p (if p i = true then rnF p f (i + 1) else i) = false)
    by_cases h : p i = true
    · rw [if_pos h]
      obtain ⟨h1, h2, h3, h4⟩ := ih (i + 1)
      refine ⟨by omega, by omega, fun k q1 q2 => ?_, fun q => h4 (by omega)⟩
      rcases (show k = i ∨ i + 1 ≤ k by omega) with rfl | q
      · exact h
      · exact h3 k q q2
    · rw [if_neg h]
      exact ⟨Nat.le_refl _, by omega, fun k q1 q2 => absurd q2 (Nat.not_lt.mpr q1), fun _ => ts_nt h⟩
theorem rn_facts (p : Nat → Bool) {N i : Nat} (hi : i ≤ N) : i ≤ rn p N i ∧ rn p N i ≤ N ∧ (∀ k, i ≤ k → k < rn p N i → p k = true) ∧ (rn p N i < N → p (rn p N i) = false) := by
  obtain ⟨h1, h2, h3, h4⟩ := rnF_facts p (N - i) i
  exact ⟨h1, by unfold rn; omega, h3, fun h => h4 (by unfold rn at h; omega)⟩
theorem rn_step {p : Nat → Bool} {N i : Nat} (hi : i < N) (h : p i = true) : rn p N i = rn p N (i + 1) := by
  unfold rn
  rw [show N - i = (N - (i + 1)) + 1 by omega]
  show (if p i = true then _ else _) = _
  rw [if_pos h]
theorem rn_stop {p : Nat → Bool} {N i : Nat} (h : p i = false ∨ N ≤ i) : rn p N i = i := by
  unfold rn
  cases e : N - i with
  | zero => rfl
  | succ f =>
    show (if p i = true then _ else _) = _
    rw [if_neg]
    rcases h with q | q
    · rw [q]; decide
    · omega
/-- a loop that goes over a run -/
theorem lp_rn {σ ρ : Type} {f : σ → Option (σ ⊕ ρ)} (p : Nat → Bool) (S : Nat → σ) (R : Nat → ρ) (N : Nat) (hs : ∀ i, i < N → p i = true → f (S i) = some (.inl (S (i + 1)))) (he : ∀ i, i ≤ N → (p i = false ∨ i = N) → f (S i) = some (.inr (R i))) : ∀ i, i ≤ N → lp f (S i) = some (R (rn p N i)) := by
  have key : ∀ d i, i + d = N → lp f (S i) = some (R (rn p N i)) := by
    intro d
    induction d with
    | zero =>
      intro i hi
      obtain rfl : i = N := by omega
      rw [rn_stop (Or.inr (Nat.le_refl _))]
      exact lp_exit (he i (Nat.le_refl _) (Or.inr rfl))
    | succ d ih =>
      intro i hi
      cases h : p i with
      | true =>
        rw [rn_step (by omega) h]
        exact lp_go (hs i (by omega) h) (ih (i + 1) (by omega))
      | false =>
        rw [rn_stop (Or.inl h)]
        exact lp_exit (he i (by omega) (Or.inl h))
  exact fun i hi => key (N - i) i (by omega)
def bkp (B : Nat → Nat) (k : Nat) : Bool := decide (B k = 32)
def ltp (B : Nat → Nat) (k : Nat) : Bool := decide (97 ≤ B k ∧ B k ≤ 122)
def dgp (B : Nat → Nat) (k : Nat) : Bool := decide (48 ≤ B k ∧ B k ≤ 57)
theorem sb_tab : ∀ b, b < 256 → ((nI b).toInt8.toInt32).toInt = if b < 128 then (b : Int) else (b : Int) - 256 := by decide +kernel
theorem m_isAt {bytes tape : Nat → Int32} {B : Nat → Nat} {N i lo hi : Nat} (h : TB bytes tape B N) (hi2 : i ≤ N) (hlo : lo < 128) (hhi : hi < 128) : f_X8_isAt tape (nI i) (nI N) (nI lo) (nI hi) = some (b2 (decide (i < N) && decide (lo ≤ B i ∧ B i ≤ hi))) := by
  unfold f_X8_isAt
  have hN := h.1
  by_cases q : i < N
  · obtain ⟨hb, _, ht⟩ := h.2 i q
    have ts := sb_tab (B i) hb
    rw [if_neg (nI_ge q (by omega)), chk_n (by omega) (by decide), nI_clamp (by omega), ht, chk_n (by omega) (by decide), decide_eq_true q, Bool.true_and]
    by_cases z1 : lo ≤ B i ∧ B i ≤ hi
    · rw [if_neg (by rw [lt_i, ts, nI_toInt (by omega), if_pos (by omega)]; omega), if_neg (by rw [lt_i, ts, nI_toInt (by omega), if_pos (by omega)]; omega), decide_eq_true z1]; rfl
    · rw [decide_eq_false z1]
      by_cases z2 : (nI (B i)).toInt8.toInt32 < nI lo
      · rw [if_pos z2]; rfl
      · rw [if_neg z2, if_pos]
        · rfl
        · rw [lt_i, ts, nI_toInt (by omega)] at z2
          rw [lt_i, ts, nI_toInt (by omega)]
          split at z2
          · rename_i z3; rw [if_pos z3]; omega
          · omega
  · rw [if_pos (nI_le (by omega) (by omega)), decide_eq_false q]; rfl
theorem c_skip {bytes tape : Nat → Int32} {B : Nat → Nat} {N i : Nat} (h : TB bytes tape B N) (hi : i ≤ N) : f_X5_skipBlanks bytes (nI i) (nI N) = some (nI (rn (bkp B) N i)) := by
  have hN := h.1
  unfold f_X5_skipBlanks f_X5_skipBlanks_J5 f_X5_skipBlanks_J40
  have e := lp_rn (f := fun q => f_X5_skipBlanks_S5 bytes (nI N) q.1 q.2) (bkp B) (fun i => (nI i, nI i)) (fun i => nI i) N (fun i hi hp => ?_) (fun i hi hp => ?_) i hi
  · rw [e, bnd_s]
  · show f_X5_skipBlanks_S5 bytes (nI N) (nI i) (nI i) = _
    unfold f_X5_skipBlanks_S5
    rw [if_neg (nI_ge hi (by omega)), chk_n (by omega) (by decide), nI_clamp (by omega), (h.2 i hi).2.1, if_pos (by rw [of_decide_eq_true hp]; rfl), nm_s, nm_s, nI_1]
  · show f_X5_skipBlanks_S5 bytes (nI N) (nI i) (nI i) = _
    unfold f_X5_skipBlanks_S5
    by_cases q : i < N
    · obtain ⟨hb, e1, _⟩ := h.2 i q
      have hp' : bkp B i = false := hp.elim id (fun z => absurd z (by omega))
      rw [if_neg (nI_ge q (by omega)), chk_n (by omega) (by decide), nI_clamp (by omega), e1, if_neg (show ¬ nI (B i) = (32 : Int32) from mt (nI_eq (b := 32) (by omega) (by decide)).mp (of_decide_eq_false hp'))]
    · rw [if_pos (nI_le (by omega) (by omega))]
theorem m_skip {bytes tape : Nat → Int32} {B : Nat → Nat} {N i : Nat} {beg : Int32} (h : TB bytes tape B N) (hi : i ≤ N) : f_X8_blanks tape (nI i) (nI N) beg = some (nI (rn (bkp B) N i), nI (rn (bkp B) N i)) := by
  unfold f_X8_blanks f_X8_blanks_J0 f_X8_blanks_J24
  have e := lp_rn (f := fun q => f_X8_blanks_S0 tape (nI N) beg q) (bkp B) (fun i => nI i) (fun i => nI i) N (fun i hi hp => ?_) (fun i hi hp => ?_) i hi
  · rw [e, bnd_s]
  · show f_X8_blanks_S0 tape (nI N) beg (nI i) = _
    have hp' := of_decide_eq_true hp
    unfold f_X8_blanks_S0
    rw [show (32 : Int32) = nI 32 from rfl, m_isAt h (by omega) (by decide) (by decide), bnd_s, decide_eq_true hi, decide_eq_true (show 32 ≤ B i ∧ B i ≤ 32 by omega), if_neg (by decide), nm_s, nI_1]
  · show f_X8_blanks_S0 tape (nI N) beg (nI i) = _
    unfold f_X8_blanks_S0
    rw [show (32 : Int32) = nI 32 from rfl, m_isAt h (by omega) (by decide) (by decide), bnd_s]
    rcases hp with q | q
    · have := of_decide_eq_false q
      rw [decide_eq_false (show ¬ (32 ≤ B i ∧ B i ≤ 32) by omega), Bool.and_false, if_pos (show b2 false = 0 from rfl)]
    · rw [decide_eq_false (show ¬ i < N by omega), Bool.false_and, if_pos (show b2 false = 0 from rfl)]
theorem c_letters {bytes tape : Nat → Int32} {B : Nat → Nat} {N i : Nat} {g s l b cm : Int32} {fd : Nat → Int32} (h : TB bytes tape B N) (hi : i ≤ N) : lp (fun q => f_X5_parseCommand_S10 bytes (nI N) g s l b fd cm q.1 q.2) (nI i, nI i) = some (nI (rn (ltp B) N i)) := by
  have hN := h.1
  have e := lp_rn (f := fun q => f_X5_parseCommand_S10 bytes (nI N) g s l b fd cm q.1 q.2) (ltp B) (fun i => (nI i, nI i)) (fun i => nI i) N (fun i hi hp => ?_) (fun i hi hp => ?_) i hi
  · exact e
  · show f_X5_parseCommand_S10 bytes (nI N) g s l b fd cm (nI i) (nI i) = _
    have hp' := of_decide_eq_true hp
    unfold f_X5_parseCommand_S10
    rw [if_neg (nI_ge hi (by omega)), chk_n (by omega) (by decide), nI_clamp (by omega), (h.2 i hi).2.1, if_neg (show ¬ nI (B i) < (97 : Int32) from nI_nlt (b := 97) (by omega) (by omega)), chk_n (by omega) (by decide), if_neg (show ¬ (122 : Int32) < nI (B i) from nI_nlt (a := 122) (by omega) (by omega)), nm_s, nm_s, nI_1]
  · show f_X5_parseCommand_S10 bytes (nI N) g s l b fd cm (nI i) (nI i) = _
    unfold f_X5_parseCommand_S10
    by_cases q : i < N
    · obtain ⟨hb, e1, _⟩ := h.2 i q
      have hp' : ltp B i = false := hp.elim id (fun z => absurd z (by omega))
      have hn := of_decide_eq_false hp'
      rw [if_neg (nI_ge q (by omega)), chk_n (by omega) (by decide), nI_clamp (by omega), e1]
      by_cases z : B i < 97
      · rw [if_pos (show nI (B i) < (97 : Int32) from nI_lt (b := 97) z (by decide))]
      · rw [if_neg (show ¬ nI (B i) < (97 : Int32) from nI_nlt (b := 97) (by omega) (by omega)), chk_n (by omega) (by decide), if_pos (show (122 : Int32) < nI (B i) from nI_lt (a := 122) (by omega) (by omega))]
    · rw [if_pos (nI_le (by omega) (by omega))]
theorem m_letters {bytes tape : Nat → Int32} {B : Nat → Nat} {N i : Nat} {beg : Int32} (h : TB bytes tape B N) (hi : i ≤ N) : f_X8_letters tape (nI i) (nI N) beg = some (nI (rn (ltp B) N (rn (bkp B) N i)), nI (rn (bkp B) N i)) := by
  unfold f_X8_letters
  rw [m_skip h hi, bnd_s]
  have hj := (rn_facts (bkp B) hi).2.1
  generalize rn (bkp B) N i = j at hj ⊢
  unfold f_X8_letters_J4 f_X8_letters_J28
  have e := lp_rn (f := fun q => f_X8_letters_S4 tape (nI N) (nI j) q) (ltp B) (fun i => nI i) (fun i => nI i) N (fun i hi hp => ?_) (fun i hi hp => ?_) j hj
  · rw [e, bnd_s]
  · show f_X8_letters_S4 tape (nI N) (nI j) (nI i) = _
    have hp' := of_decide_eq_true hp
    unfold f_X8_letters_S4
    rw [show (97 : Int32) = nI 97 from rfl, show (122 : Int32) = nI 122 from rfl, m_isAt h (by omega) (by decide) (by decide), bnd_s, decide_eq_true hi, decide_eq_true hp', if_neg (by decide), nm_s, nI_1]
  · show f_X8_letters_S4 tape (nI N) (nI j) (nI i) = _
    unfold f_X8_letters_S4
    rw [show (97 : Int32) = nI 97 from rfl, show (122 : Int32) = nI 122 from rfl, m_isAt h (by omega) (by decide) (by decide), bnd_s]
    rcases hp with q | q
    · rw [decide_eq_false (of_decide_eq_false q), Bool.and_false, if_pos (show b2 false = 0 from rfl)]
    · rw [decide_eq_false (show ¬ i < N by omega), Bool.false_and, if_pos (show b2 false = 0 from rfl)]
/-! words -/
def wlN : List (List Nat) := [[99, 117, 116], [112, 97, 115, 116, 101], [116, 117, 114, 110], [102, 108, 105, 112], [108, 105, 103, 104, 116], [104, 97, 108, 102], [100, 97, 114, 107], [97, 110, 121], [110, 101, 118, 101, 114], [119, 105, 116, 104], [97, 112, 97, 114, 116], [110, 101, 97, 114]]
def wl (k : Nat) : List Nat := wlN.getD (k % 12) []
theorem wl_tab : ∀ k, k < 24 → (wb k).length = (wl k).length ∧ (wl k).length ≤ 5 ∧ 3 ≤ (wl k).length ∧ ∀ i, i < 5 → i < (wl k).length → chr k (nI i) = nI ((wl k).getD i 0) ∧ (wl k).getD i 0 < 128 := by decide +kernel
def wdb (B : Nat → Nat) (k b a : Nat) : Bool := decide (a = b + (wl k).length) && allb (fun i => decide (B (b + i) = (wl k).getD i 0)) (wl k).length
theorem c_wordIs {bytes tape : Nat → Int32} {B : Nat → Nat} {N b a k : Nat} (h : TB bytes tape B N) (hb : b ≤ a) (ha : a ≤ N) (hk : k < 24) : f_X5_wordIs bytes (nI a) (nI b) k = some (b2 (wdb B k b a)) := by
  have hN := h.1
  obtain ⟨w1, w2, w3, w4⟩ := wl_tab k hk
  unfold f_X5_wordIs wdb
  rw [pk_sub hb, w1]
  by_cases q : a = b + (wl k).length
  · rw [if_pos (by rw [q, Nat.add_sub_cancel_left]), decide_eq_true q, Bool.true_and]
    unfold f_X5_wordIs_J17
    have H : OK (lp (fun q => f_X5_wordIs_S17 bytes (nI a) (nI b) k q) (0 : Int32)) (Sum.elim (fun _ => allb (fun i => decide (B (b + i) = (wl k).getD i 0)) (wl k).length = false) (fun _ => allb (fun i => decide (B (b + i) = (wl k).getD i 0)) (wl k).length = true)) := by
      refine ok_lp (fun n s => s = nI n ∧ allb (fun i => decide (B (b + i) = (wl k).getD i 0)) n = true) (wl k).length (fun n s hn hJ => ?_) (fun s hJ => ?_) ⟨rfl, rfl⟩
      · obtain ⟨rfl, ht⟩ := hJ
        obtain ⟨b1, b2', _⟩ := h.2 (b + n) (by omega)
        obtain ⟨c1, c2⟩ := w4 n (by omega) hn
        unfold f_X5_wordIs_S17
        rw [w1, if_neg (nI_ge hn (by omega)), nI_add, chk_n (by omega) (by decide), chk_n hn (by omega), nI_clamp (by omega), b2', c1]
        by_cases z : B (b + n) = (wl k).getD n 0
        · rw [if_pos (by rw [z]), nm_s, nI_1]
          refine Or.inl ⟨_, rfl, rfl, ?_⟩
          show (allb _ n && decide (B (b + n) = (wl k).getD n 0)) = true
          rw [ht, decide_eq_true z]; rfl
        · rw [if_neg (mt (nI_eq (by omega) (by omega)).mp z)]
          refine Or.inr ⟨_, rfl, ?_⟩
          show allb _ _ = false
          cases e : allb (fun i => decide (B (b + i) = (wl k).getD i 0)) (wl k).length with
          | false => rfl
          | true => exact absurd (of_decide_eq_true (allb_iff.mp e n hn)) z
      · obtain ⟨rfl, ht⟩ := hJ
        unfold f_X5_wordIs_S17
        rw [w1, if_pos (Int32.le_refl _)]
        exact ⟨_, rfl, ht⟩
    obtain ⟨r, er, hr⟩ := H
    rw [er, bnd_s]
    cases r with
    | inl r => rw [show allb (fun i => decide (B (b + i) = (wl k).getD i 0)) (wl k).length = false from hr]; rfl
    | inr r => rw [show allb (fun i => decide (B (b + i) = (wl k).getD i 0)) (wl k).length = true from hr]; rfl
  · rw [if_neg (fun e => q (by have := (nI_eq (by omega) (by omega)).mp e; omega)), decide_eq_false q]; rfl
theorem m_isWord {bytes tape : Nat → Int32} {B : Nat → Nat} {N b a k : Nat} (h : TB bytes tape B N) (hb : b ≤ a) (ha : a ≤ N) (hk : k < 24) : f_X8_isWord tape (nI a) (nI b) k = some (b2 (wdb B k b a)) := by
  have hN := h.1
  obtain ⟨w1, w2, w3, w4⟩ := wl_tab k hk
  have g01 : ∀ g : Bool, b2 g = 0 ∨ b2 g = 1 := fun g => by cases g; exact Or.inl rfl; exact Or.inr rfl
  unfold f_X8_isWord wdb
  rw [pk_sub hb, w1]
  by_cases q : a = b + (wl k).length
  · rw [if_pos (by rw [q, Nat.add_sub_cancel_left]), decide_eq_true q, Bool.true_and]
    unfold f_X8_isWord_J21 f_X8_isWord_J24
    have H : OK (lp (fun q => f_X8_isWord_S24 tape (nI a) (nI b) k q.1 q.2) ((1 : Int32), (0 : Int32))) (fun r => r = b2 (allb (fun i => decide (B (b + i) = (wl k).getD i 0)) (wl k).length)) := by
      refine ok_lp (fun n s => s = (b2 (allb (fun i => decide (B (b + i) = (wl k).getD i 0)) n), nI n)) (wl k).length (fun n s hn hJ => ?_) (fun s hJ => ?_) rfl
      · subst hJ
        show (∃ s', f_X8_isWord_S24 tape (nI a) (nI b) k (b2 (allb (fun i => decide (B (b + i) = (wl k).getD i 0)) n)) (nI n) = some (.inl s') ∧ _) ∨ ∃ r, f_X8_isWord_S24 tape (nI a) (nI b) k (b2 (allb (fun i => decide (B (b + i) = (wl k).getD i 0)) n)) (nI n) = some (.inr r) ∧ _
        obtain ⟨b1, _, b3⟩ := h.2 (b + n) (by omega)
        obtain ⟨c1, c2⟩ := w4 n (by omega) hn
        unfold f_X8_isWord_S24 f_X8_isWord_J60
        cases ht : allb (fun i => decide (B (b + i) = (wl k).getD i 0)) n with
        | false =>
          rw [if_pos (show b2 false = 0 from rfl)]
          refine Or.inr ⟨_, rfl, ?_⟩
          cases e : allb (fun i => decide (B (b + i) = (wl k).getD i 0)) (wl k).length with
          | false => rfl
          | true => rw [allb_iff.mpr (fun i hi => allb_iff.mp e i (by omega))] at ht; cases ht
        | true =>
          rw [if_neg (show ¬ b2 true = 0 by decide), w1, if_neg (nI_ge hn (by omega)), nI_add, chk_n (by omega) (by decide), chk_n hn (by omega), nI_clamp (by omega), b3, c1]
          have ts := sb_tab (B (b + n)) b1
          by_cases z : B (b + n) = (wl k).getD n 0
          · rw [if_pos (by rw [eq_i, ts, nI_toInt (by omega), if_pos (by omega), z]), nm_s, nI_1]
            refine Or.inl ⟨_, rfl, ?_⟩
            show (1, _) = (b2 (allb _ n && decide (B (b + n) = (wl k).getD n 0)), _)
            rw [ht, decide_eq_true z]; rfl
          · rw [if_neg (by rw [eq_i, ts, nI_toInt (by omega)]; split <;> omega), nm_s, nI_1]
            refine Or.inl ⟨_, rfl, ?_⟩
            show (0, _) = (b2 (allb _ n && decide (B (b + n) = (wl k).getD n 0)), _)
            rw [ht, decide_eq_false z]; rfl
      · subst hJ
        show ∃ r, f_X8_isWord_S24 tape (nI a) (nI b) k (b2 (allb (fun i => decide (B (b + i) = (wl k).getD i 0)) (wl k).length)) (nI (wl k).length) = some (.inr r) ∧ _
        unfold f_X8_isWord_S24
        cases ht : allb (fun i => decide (B (b + i) = (wl k).getD i 0)) (wl k).length with
        | false => rw [if_pos (show b2 false = 0 from rfl)]; exact ⟨_, rfl, rfl⟩
        | true => rw [if_neg (show ¬ b2 true = 0 by decide), w1, if_pos (Int32.le_refl _)]; exact ⟨_, rfl, rfl⟩
    obtain ⟨r, er, hr⟩ := H
    rw [er, bnd_s, hr]
    unfold f_X8_isWord_J67
    rw [gd_eq (decide_eq_true (g01 _))]
  · rw [if_neg (fun e => q (by have := (nI_eq (by omega) (by omega)).mp e; omega)), decide_eq_false q, Bool.false_and]
    unfold f_X8_isWord_J21 f_X8_isWord_J24
    have e : lp (fun q => f_X8_isWord_S24 tape (nI a) (nI b) k q.1 q.2) ((0 : Int32), (0 : Int32)) = some 0 := lp_exit (by show f_X8_isWord_S24 tape (nI a) (nI b) k 0 0 = _; unfold f_X8_isWord_S24; rw [if_pos rfl])
    rw [e, bnd_s]
    unfold f_X8_isWord_J67
    rw [gd_eq (by decide)]; rfl
/-! numbers -/
def nmJ (B : Nat → Nat) (N i : Nat) : Nat := rn (bkp B) N i
def nmE (B : Nat → Nat) (N i : Nat) : Nat := rn (dgp B) N (nmJ B N i)
def nmV (B : Nat → Nat) (N i : Nat) : Nat := if nmE B N i - nmJ B N i = 1 then B (nmJ B N i) - 48 else 10 * (B (nmJ B N i) - 48) + (B (nmJ B N i + 1) - 48)
def nmOK (B : Nat → Nat) (N i : Nat) (lo hi : Int32) : Bool := decide (1 ≤ nmE B N i - nmJ B N i ∧ nmE B N i - nmJ B N i ≤ 2 ∧ lo.toInt ≤ nmV B N i ∧ (nmV B N i : Int) ≤ hi.toInt)
