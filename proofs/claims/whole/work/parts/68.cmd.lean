/-! ===== one command, all commands: the class ===== -/
/-- a command: well formed, where it ends or fails, its kind and its four numbers -/
def cmd (B : Nat → Nat) (N g : Nat) (sh sl : Int32) (j : Nat) : Bool × Nat × Nat × Nat × Nat × Nat × Nat :=
  if kd B g j (rn (ltp B) N j) = 4 then (false, j, 0, 0, 0, 0, 0)
  else if g = 2 then ((prp B N (rn (ltp B) N j) (kd B g j (rn (ltp B) N j)) sh sl).1, (prp B N (rn (ltp B) N j) (kd B g j (rn (ltp B) N j)) sh sl).2.1, kd B g j (rn (ltp B) N j), (prp B N (rn (ltp B) N j) (kd B g j (rn (ltp B) N j)) sh sl).2.2.1, (prp B N (rn (ltp B) N j) (kd B g j (rn (ltp B) N j)) sh sl).2.2.2, 0, 0)
  else if g = 1 then ((bxp B N (rn (ltp B) N j) 12).1, (bxp B N (rn (ltp B) N j) 12).2.1, kd B g j (rn (ltp B) N j), (bxp B N (rn (ltp B) N j) 12).2.2.1, (bxp B N (rn (ltp B) N j) 12).2.2.2.1, (bxp B N (rn (ltp B) N j) 12).2.2.2.2.1, (bxp B N (rn (ltp B) N j) 12).2.2.2.2.2)
  else if 2 ≤ kd B g j (rn (ltp B) N j) then (true, rn (ltp B) N j, kd B g j (rn (ltp B) N j), 0, 0, 0, 0)
  else ((bxp B N (rn (ltp B) N j) 5).1, (bxp B N (rn (ltp B) N j) 5).2.1, kd B g j (rn (ltp B) N j), (bxp B N (rn (ltp B) N j) 5).2.2.1, (bxp B N (rn (ltp B) N j) 5).2.2.2.1, (bxp B N (rn (ltp B) N j) 5).2.2.2.2.1, (bxp B N (rn (ltp B) N j) 5).2.2.2.2.2)
theorem cmd_le {B : Nat → Nat} {N g j : Nat} {sh sl : Int32} (hj : j ≤ N) : j ≤ (cmd B N g sh sl j).2.1 ∧ (cmd B N g sh sl j).2.1 ≤ N := by
  obtain ⟨l1, l2, _⟩ := rn_facts (ltp B) hj
  unfold cmd
  split
  · exact ⟨Nat.le_refl _, hj⟩
  · split
    · obtain ⟨p1, p2⟩ := prp_le (B := B) (k := kd B g j (rn (ltp B) N j)) (sh := sh) (sl := sl) l2
      exact ⟨Nat.le_trans l1 p1, p2⟩
    · split
      · obtain ⟨p1, p2⟩ := bxp_le (B := B) (s := 12) l2
        exact ⟨Nat.le_trans l1 p1, p2⟩
      · split
        · exact ⟨l1, l2⟩
        · obtain ⟨p1, p2⟩ := bxp_le (B := B) (s := 5) l2
          exact ⟨Nat.le_trans l1 p1, p2⟩
/-- what a well formed command holds -/
def RV (g ns nl : Nat) (r : Nat × Nat × Nat × Nat × Nat) : Prop := r.1 < 4 ∧ (g = 2 → r.2.1 < ns ∧ (r.1 = 0 → r.2.2.1 < nl) ∧ (r.1 ≠ 0 → r.2.2.1 < ns)) ∧ (g = 1 → r.2.1 < 12 ∧ r.2.2.1 < 12 ∧ 1 ≤ r.2.2.2.1 ∧ r.2.1 + r.2.2.2.1 ≤ 12 ∧ 1 ≤ r.2.2.2.2 ∧ r.2.2.1 + r.2.2.2.2 ≤ 12) ∧ (g = 0 → r.1 < 2 → r.2.1 < 5 ∧ r.2.2.1 < 5 ∧ 1 ≤ r.2.2.2.1 ∧ r.2.1 + r.2.2.2.1 ≤ 5 ∧ 1 ≤ r.2.2.2.2 ∧ r.2.2.1 + r.2.2.2.2 ≤ 5)
theorem cmd_RV {B : Nat → Nat} {N g j ns nl : Nat} (hg : g < 3) (hns : ns ≤ 6) (hnl : nl ≤ 4) (hj : j ≤ N) (h : (cmd B N g (nI ns) (nI nl) j).1 = true) : RV g ns nl (cmd B N g (nI ns) (nI nl) j).2.2 := by
  obtain ⟨l1, l2, _⟩ := rn_facts (ltp B) hj
  have hk := kd_le (B := B) (b := j) (a := rn (ltp B) N j) hg
  unfold cmd at h ⊢
  by_cases q : kd B g j (rn (ltp B) N j) = 4
  · rw [if_pos q] at h; cases h
  · rw [if_neg q] at h ⊢
    have hk4 : kd B g j (rn (ltp B) N j) < 4 := by omega
    by_cases g2 : g = 2
    · rw [if_pos g2] at h ⊢
      obtain ⟨p1, p2, p3⟩ := prp_in hns hnl l2 h
      exact ⟨hk4, fun _ => ⟨p1, p2, p3⟩, fun e => absurd e (by omega), fun e => absurd e (by omega)⟩
    · rw [if_neg g2] at h ⊢
      by_cases g1 : g = 1
      · rw [if_pos g1] at h ⊢
        have p := bxp_in (s := 12) ⟨by decide, by decide⟩ l2 h
        exact ⟨hk4, fun e => absurd e g2, fun _ => p, fun e => absurd e (by omega)⟩
      · rw [if_neg g1] at h ⊢
        by_cases k2 : 2 ≤ kd B g j (rn (ltp B) N j)
        · rw [if_pos k2] at h ⊢
          exact ⟨hk4, fun e => absurd e g2, fun e => absurd e g1, fun _ e => absurd e (by show ¬ kd B g j (rn (ltp B) N j) < 2; omega)⟩
        · rw [if_neg k2] at h ⊢
          have p := bxp_in (s := 5) ⟨by decide, by decide⟩ l2 h
          exact ⟨hk4, fun e => absurd e g2, fun e => absurd e g1, fun _ _ => p⟩
/-- the class keeps the command there -/
def RW (g : Nat) (fd : Nat → Int32) (n : Nat) (r : Nat × Nat × Nat × Nat × Nat) : Prop := fd (5 * n) = nI r.1 ∧ ((g = 0 ∧ 2 ≤ r.1) ∨ (fd (5 * n + 1) = nI r.2.1 ∧ fd (5 * n + 2) = nI r.2.2.1 ∧ (g = 2 ∨ (fd (5 * n + 3) = nI r.2.2.2.1 ∧ fd (5 * n + 4) = nI r.2.2.2.2))))
theorem RW.fr {g n : Nat} {fd fd' : Nat → Int32} {r : Nat × Nat × Nat × Nat × Nat} (h : RW g fd n r) (e : ∀ i, i < 5 * (n + 1) → fd' i = fd i) : RW g fd' n r := by
  unfold RW at h ⊢
  rw [e _ (by omega), e (5 * n + 1) (by omega), e (5 * n + 2) (by omega), e (5 * n + 3) (by omega), e (5 * n + 4) (by omega)]
  exact h
theorem c_cmd {bytes tape fd : Nat → Int32} {B : Nat → Nat} {N g n j : Nat} {sh sl : Int32} (h : TB bytes tape B N) (hj : j ≤ N) (hg : g < 3) (hn : n < 20) : ∃ fd' cm, f_X5_parseCommand bytes fd (nI n) (nI j) (nI N) (nI g) sh sl = some (b2 (cmd B N g sh sl j).1, fd', cm, nI (cmd B N g sh sl j).2.1) ∧ ((cmd B N g sh sl j).1 = true → cm = nI (n + 1) ∧ (∀ i, i < 5 * n → fd' i = fd i) ∧ RW g fd' n (cmd B N g sh sl j).2.2) := by
  obtain ⟨l1, l2, _⟩ := rn_facts (ltp B) hj
  have hk := kd_le (B := B) (b := j) (a := rn (ltp B) N j) hg
  unfold f_X5_parseCommand f_X5_parseCommand_J10
  rw [c_letters h hj, bnd_s]
  unfold f_X5_parseCommand_J56 cmd
  rw [c_kind h l1 l2 hg, bnd_s]
  by_cases q : kd B g j (rn (ltp B) N j) = 4
  · rw [if_pos q, if_pos q, if_pos rfl]
    exact ⟨_, _, rfl, fun z => by cases z⟩
  · rw [if_neg q, if_neg q]
    have gi2 : nI g = (2 : Int32) ↔ g = 2 := nI_eq (b := 2) (by omega) (by decide)
    have gi1 : nI g = (1 : Int32) ↔ g = 1 := nI_eq (b := 1) (by omega) (by decide)
    have ki2 : nI (kd B g j (rn (ltp B) N j)) = (2 : Int32) ↔ kd B g j (rn (ltp B) N j) = 2 := nI_eq (b := 2) (by omega) (by decide)
    have ki3 : nI (kd B g j (rn (ltp B) N j)) = (3 : Int32) ↔ kd B g j (rn (ltp B) N j) = 3 := nI_eq (b := 3) (by omega) (by decide)
    have g01 : ∀ g : Bool, b2 g = 0 ∨ b2 g = 1 := fun g => by cases g; exact Or.inl rfl; exact Or.inr rfl
    generalize kd B g j (rn (ltp B) N j) = k at hk q ki2 ki3 ⊢
    rw [if_neg (nI_nn (by omega)), nm_s, show nI n * (5 : Int32) = nI (5 * n) by rw [show (5 : Int32) = nI 5 from rfl, pk_mul, Nat.mul_comm], chk_n (by omega) (by decide), nm_s, nm_s, nI_clamp (by omega), nI_1]
    by_cases g2 : g = 2
    · rw [if_pos g2, if_pos (gi2.mpr g2)]
      obtain ⟨fd', e1, e2⟩ := c_ppair (fd := upd fd (5 * n) (nI k)) (a := 5 * n) (k := k) (sh := sh) (sl := sl) h l2 (by omega) (by omega)
      rw [e1, bnd_s]
      dsimp only
      rw [gd_eq (decide_eq_true (g01 _))]
      refine ⟨_, _, rfl, fun z => ⟨rfl, fun i hi => ?_, ?_⟩⟩
      · rw [e2 z, upd_ne (by omega), upd_ne (by omega), upd_ne (by omega)]
      · rw [e2 z]
        refine ⟨?_, Or.inr ⟨?_, ?_, Or.inl g2⟩⟩
        · rw [upd_ne (by omega), upd_ne (by omega), upd_same]
        · rw [upd_ne (by omega), upd_same]
        · rw [upd_same]
    · rw [if_neg g2, if_neg (mt gi2.mp g2)]
      have bx4 : ∀ fd' : Nat → Int32, ∀ x y w v : Nat, fd' = upd (upd (upd (upd (upd fd (5 * n) (nI k)) (5 * n + 1) (nI x)) (5 * n + 2) (nI y)) (5 * n + 3) (nI w)) (5 * n + 4) (nI v) → (∀ i, i < 5 * n → fd' i = fd i) ∧ RW g fd' n (k, x, y, w, v) := by
        intro fd' x y w v e
        subst e
        refine ⟨fun i hi => ?_, ?_, Or.inr ⟨?_, ?_, Or.inr ⟨?_, ?_⟩⟩⟩
        · rw [upd_ne (by omega), upd_ne (by omega), upd_ne (by omega), upd_ne (by omega), upd_ne (by omega)]
        · rw [upd_ne (by omega), upd_ne (by omega), upd_ne (by omega), upd_ne (by omega), upd_same]
        · rw [upd_ne (by omega), upd_ne (by omega), upd_ne (by omega), upd_same]
        · rw [upd_ne (by omega), upd_ne (by omega), upd_same]
        · rw [upd_ne (by omega), upd_same]
        · rw [upd_same]
      by_cases g1 : g = 1
      · rw [if_pos g1, if_pos (gi1.mpr g1)]
        obtain ⟨fd', e1, e2⟩ := c_pbox (fd := upd fd (5 * n) (nI k)) (a := 5 * n) (s := 12) h l2 (by omega)
        rw [e1, bnd_s]
        dsimp only
        rw [gd_eq (decide_eq_true (g01 _))]
        exact ⟨_, _, rfl, fun z => ⟨rfl, bx4 _ _ _ _ _ (e2 z)⟩⟩
      · rw [if_neg g1, if_neg (mt gi1.mp g1)]
        have g0 : g = 0 := by omega
        by_cases k2 : 2 ≤ k
        · rw [if_pos k2]
          have fin : ∀ i, i < 5 * n → upd fd (5 * n) (nI k) i = fd i := fun i hi => upd_ne (by omega)
          by_cases k3 : k = 2
          · rw [if_pos (ki2.mpr k3)]
            exact ⟨_, _, rfl, fun _ => ⟨rfl, fin, upd_same _ _ _, Or.inl ⟨g0, k2⟩⟩⟩
          · rw [if_neg (mt ki2.mp k3), if_pos (ki3.mpr (by omega))]
            exact ⟨_, _, rfl, fun _ => ⟨rfl, fin, upd_same _ _ _, Or.inl ⟨g0, k2⟩⟩⟩
        · rw [if_neg k2, if_neg (mt ki2.mp (by omega)), if_neg (mt ki3.mp (by omega))]
          obtain ⟨fd', e1, e2⟩ := c_pbox (fd := upd fd (5 * n) (nI k)) (a := 5 * n) (s := 5) h l2 (by omega)
          rw [e1, bnd_s]
          dsimp only
          cases e : (bxp B N (rn (ltp B) N j) 5).1 with
          | false => rw [if_pos (show b2 false = 0 from rfl)]; exact ⟨_, _, rfl, fun z => by cases z⟩
          | true => rw [if_neg (show ¬ b2 true = 0 by decide)]; exact ⟨_, _, rfl, fun _ => ⟨rfl, bx4 _ _ _ _ _ (e2 e)⟩⟩
/-- all commands from j on, f of them at most: well formed, where it fails, the commands -/
def rdd (B : Nat → Nat) (N g : Nat) (sh sl : Int32) : Nat → Nat → Bool × Nat × List (Nat × Nat × Nat × Nat × Nat)
  | 0, j => (false, j, [])
  | f + 1, j =>
    if (cmd B N g sh sl j).1 = true then
      if rn (bkp B) N (cmd B N g sh sl j).2.1 < N then
        if B (rn (bkp B) N (cmd B N g sh sl j).2.1) = 59 then
          ((rdd B N g sh sl f (rn (bkp B) N (rn (bkp B) N (cmd B N g sh sl j).2.1 + 1))).1, (rdd B N g sh sl f (rn (bkp B) N (rn (bkp B) N (cmd B N g sh sl j).2.1 + 1))).2.1, (cmd B N g sh sl j).2.2 :: (rdd B N g sh sl f (rn (bkp B) N (rn (bkp B) N (cmd B N g sh sl j).2.1 + 1))).2.2)
        else (false, rn (bkp B) N (cmd B N g sh sl j).2.1, [])
      else (true, rn (bkp B) N (cmd B N g sh sl j).2.1, [(cmd B N g sh sl j).2.2])
    else (false, (cmd B N g sh sl j).2.1, [])
theorem rd_len {B : Nat → Nat} {N g : Nat} {sh sl : Int32} : ∀ f j, (rdd B N g sh sl f j).2.2.length ≤ f := by
  intro f
  induction f with
  | zero => intro j; exact Nat.le_refl _
  | succ f ih =>
    intro j
    unfold rdd
    split
    · split
      · split
        · exact Nat.succ_le_succ (ih _)
        · exact Nat.zero_le _
      · exact Nat.succ_le_succ (Nat.zero_le _)
    · exact Nat.zero_le _
theorem rd_RV {B : Nat → Nat} {N g ns nl : Nat} (hg : g < 3) (hns : ns ≤ 6) (hnl : nl ≤ 4) : ∀ f j, j ≤ N → ∀ r, r ∈ (rdd B N g (nI ns) (nI nl) f j).2.2 → RV g ns nl r := by
  intro f
  induction f with
  | zero => intro j _ r hr; cases hr
  | succ f ih =>
    intro j hj r hr
    have hc := (cmd_le (B := B) (g := g) (sh := nI ns) (sl := nI nl) hj).2
    obtain ⟨u1, u2, _⟩ := rn_facts (bkp B) hc
    unfold rdd at hr
    split at hr
    · rename_i q
      split at hr
      · rename_i q2
        split at hr
        · rcases List.mem_cons.mp hr with e | e
          · rw [e]; exact cmd_RV hg hns hnl hj q
          · exact ih _ (rn_facts (bkp B) (by omega)).2.1 r e
        · cases hr
      · rw [List.mem_singleton.mp hr]; exact cmd_RV hg hns hnl hj q
    · cases hr
theorem c_loop {bytes tape : Nat → Int32} {B : Nat → Nat} {N g : Nat} {sh sl : Int32} (h : TB bytes tape B N) (hg : g < 3) : ∀ f n j fd, n + f = 20 → j ≤ N → OK (lp (fun q => f_X5_parse_S19 bytes (nI N) (nI g) sh sl q.1 q.2.1 q.2.2.1 q.2.2.2) (nI n, fd, nI n, nI j)) (fun r => ∃ fd' cm, (Sum.elim (fun z1 => f_X5_parse_J32 bytes (nI N) (nI g) sh sl z1.1 z1.2.1 z1.2.2) (Sum.elim (fun z2 => f_X5_parse_J49 bytes (nI N) (nI g) sh sl z2.1 z2.2.1 z2.2.2) (Sum.elim (fun z3 => f_X5_parse_J65 bytes (nI N) (nI g) sh sl z3.1 z3.2.1 z3.2.2) (fun z4 => f_X5_parse_J87 bytes (nI N) (nI g) sh sl z4.1 z4.2.1 z4.2.2)))) r = some (b2 (rdd B N g sh sl f j).1, fd', cm, nI (rdd B N g sh sl f j).2.1) ∧ ((rdd B N g sh sl f j).1 = true → cm = nI (n + (rdd B N g sh sl f j).2.2.length) ∧ (∀ i, i < 5 * n → fd' i = fd i) ∧ ∀ i r, (rdd B N g sh sl f j).2.2[i]? = some r → RW g fd' (n + i) r)) := by
  have hN := h.1
  intro f
  induction f with
  | zero =>
    intro n j fd hn hj
    refine ⟨_, lp_exit (show f_X5_parse_S19 bytes (nI N) (nI g) sh sl (nI n) fd (nI n) (nI j) = _ by unfold f_X5_parse_S19; rw [if_pos (show (20 : Int32) ≤ nI n from nI_le (a := 20) (by omega) (by omega))]), _, _, rfl, fun z => by cases z⟩
  | succ f ih =>
    intro n j fd hn hj
    obtain ⟨fd1, cm, e1, e2⟩ := c_cmd (fd := fd) (n := n) (sh := sh) (sl := sl) h hj hg (by omega)
    have hc := (cmd_le (B := B) (g := g) (sh := sh) (sl := sl) hj).2
    obtain ⟨u1, u2, _⟩ := rn_facts (bkp B) hc
    have st : f_X5_parse_S19 bytes (nI N) (nI g) sh sl (nI n) fd (nI n) (nI j) = f_X5_parse_S19 bytes (nI N) (nI g) sh sl (nI n) fd (nI n) (nI j) := rfl
    conv at st =>
      rhs
      unfold f_X5_parse_S19
      rw [if_neg (show ¬ (20 : Int32) ≤ nI n from nI_ge (b := 20) (by omega) (by decide)), e1, bnd_s]
    dsimp only at st
    unfold rdd
    by_cases q : (cmd B N g sh sl j).1 = true
    · obtain ⟨rfl, e3, e4⟩ := e2 q
      rw [q, if_neg (show ¬ b2 true = 0 by decide), c_skip h hc, bnd_s] at st
      rw [if_pos q]
      generalize hu : rn (bkp B) N (cmd B N g sh sl j).2.1 = u at st u1 u2 ⊢
      by_cases q2 : u < N
      · rw [if_pos q2]
        obtain ⟨hb, e5, _⟩ := h.2 u q2
        rw [if_pos (nI_lt q2 (by omega)), chk_n (by omega) (by decide), nI_clamp (by omega), e5] at st
        by_cases q3 : B u = 59
        · rw [if_pos q3]
          rw [if_pos (show nI (B u) = 59 by rw [q3]; rfl), nm_s, nI_1, c_skip h (by omega), bnd_s, nm_s, nI_1] at st
          obtain ⟨r, er, fd', cm', h1, h2⟩ := ih (n + 1) (rn (bkp B) N (u + 1)) fd1 (by omega) (rn_facts (bkp B) (by omega)).2.1
          refine ⟨r, lp_go st er, fd', cm', h1, fun z => ?_⟩
          obtain ⟨k1, k2, k3⟩ := h2 z
          refine ⟨?_, fun i hi => ?_, fun i r hi => ?_⟩
          · rw [k1]; show _ = nI (n + ((rdd B N g sh sl f (rn (bkp B) N (u + 1))).2.2.length + 1)); congr 1; omega
          · rw [k2 i (by omega), e3 i hi]
          · cases i with
            | zero => obtain rfl : (cmd B N g sh sl j).2.2 = r := Option.some.inj hi
                      exact e4.fr (fun i hi => k2 i (by omega))
            | succ i =>
              have := k3 i r hi
              rw [show n + 1 + i = n + (i + 1) by omega] at this
              exact this
        · rw [if_neg q3]
          rw [if_neg (show ¬ nI (B u) = 59 from mt (nI_eq (b := 59) (by omega) (by decide)).mp q3)] at st
          exact ⟨_, lp_exit st, _, _, rfl, fun z => by cases z⟩
      · rw [if_neg q2]
        rw [if_neg (nI_nlt (by omega) (by omega))] at st
        refine ⟨_, lp_exit st, _, _, rfl, fun _ => ⟨rfl, e3, fun i r hi => ?_⟩⟩
        cases i with
        | zero => obtain rfl : (cmd B N g sh sl j).2.2 = r := Option.some.inj hi
                  exact e4
        | succ i => cases hi
    · rw [if_neg q]
      rw [ts_nt q, if_pos (show b2 false = 0 from rfl)] at st
      exact ⟨_, lp_exit st, _, _, rfl, fun z => by cases z⟩
/-- the whole text -/
def rdA (B : Nat → Nat) (N g : Nat) (sh sl : Int32) : Bool × Nat × List (Nat × Nat × Nat × Nat × Nat) := if rn (bkp B) N 0 = N then (true, 0, []) else rdd B N g sh sl 20 (rn (bkp B) N 0)
theorem c_parse {bytes tape fd : Nat → Int32} {B : Nat → Nat} {N g : Nat} {sh sl : Int32} (h : TB bytes tape B N) (hg : g < 3) : ∃ fd' cm a, f_X5_parse bytes fd 0 0 (nI N) (nI g) sh sl = some (b2 (rdA B N g sh sl).1, fd', cm, a) ∧ ((rdA B N g sh sl).1 = false → a = nI (rdA B N g sh sl).2.1) ∧ ((rdA B N g sh sl).1 = true → cm = nI (rdA B N g sh sl).2.2.length ∧ ∀ i r, (rdA B N g sh sl).2.2[i]? = some r → RW g fd' i r) := by
  have hN := h.1
  obtain ⟨u1, u2, _⟩ := rn_facts (bkp B) (Nat.zero_le N)
  unfold f_X5_parse rdA
  rw [show (0 : Int32) = nI 0 from rfl, c_skip h (Nat.zero_le _), bnd_s]
  by_cases q : rn (bkp B) N 0 = N
  · rw [if_pos q, if_neg (show ¬ nI (rn (bkp B) N 0) < nI N from nI_nlt (by omega) (by omega))]
    exact ⟨_, _, _, rfl, fun z => (by cases z), fun _ => ⟨rfl, fun i r hi => by cases hi⟩⟩
  · rw [if_neg q, if_pos (show nI (rn (bkp B) N 0) < nI N from nI_lt (by omega) (by omega))]
    obtain ⟨r, er, fd', cm, h1, h2⟩ := c_loop (sh := sh) (sl := sl) h hg 20 0 (rn (bkp B) N 0) fd rfl u2
    unfold f_X5_parse_J19
    rw [show lp (fun q => f_X5_parse_S19 bytes (nI N) (nI g) sh sl q.1 q.2.1 q.2.2.1 q.2.2.2) (nI 0, fd, nI 0, nI (rn (bkp B) N 0)) = some r from er, bnd_s, h1]
    refine ⟨fd', cm, _, rfl, fun _ => rfl, fun e => ?_⟩
    obtain ⟨k1, _, k3⟩ := h2 e
    refine ⟨by rw [k1, Nat.zero_add], fun i r hi => ?_⟩
    have := k3 i r hi
    rw [Nat.zero_add] at this
    exact this
/-! strokes over what was found -/
noncomputable def sd (r : Nat × Nat × Nat × Nat × Nat) (d : Int32) : Int32 := if r.1 = 2 then tn d else if r.1 = 3 then fl d else if r.1 = 0 then d &&& (bx r.2.1 r.2.2.1 r.2.2.2.1 r.2.2.2.2 ^^^ -1) else d ||| bx r.2.1 r.2.2.1 r.2.2.2.1 r.2.2.2.2
noncomputable def sds : List (Nat × Nat × Nat × Nat × Nat) → Int32 → Int32
  | [], d => d
  | r :: l, d => sds l (sd r d)
theorem c_stroked {fd : Nat → Int32} {ns nl : Nat} : ∀ (l : List (Nat × Nat × Nat × Nat × Nat)) (n t : Nat) (d a0 : Int32), n + l.length = t → t ≤ 20 → (∀ i r, l[i]? = some r → RW 0 fd (n + i) r) → (∀ r, r ∈ l → RV 0 ns nl r) → lp (fun q => f_X5_stroked_S4 fd (nI t) a0 q.1 q.2) (d, nI n) = some (sds l d) := by
  intro l
  induction l with
  | nil =>
    intro n t d a0 hn ht _ _
    obtain rfl : n = t := hn
    exact lp_exit (show f_X5_stroked_S4 fd (nI n) a0 d (nI n) = _ by unfold f_X5_stroked_S4; rw [if_pos (Int32.le_refl _)]; rfl)
  | cons r l ih =>
    intro n t d a0 hn ht hw hv
    have hl : l.length + 1 = (r :: l).length := rfl
    obtain ⟨w1, w2⟩ : RW 0 fd n r := hw 0 r rfl
    obtain ⟨v1, _, _, v2⟩ := hv r List.mem_cons_self
    have nx : lp (fun q => f_X5_stroked_S4 fd (nI t) a0 q.1 q.2) (sd r d, nI (n + 1)) = some (sds l (sd r d)) := ih (n + 1) t (sd r d) a0 (by omega) ht (fun i r hi => by
      have := hw (i + 1) r hi
      rw [show n + (i + 1) = n + 1 + i by omega] at this
      exact this) (fun r hr => hv r (List.mem_cons_of_mem _ hr))
    refine lp_go ?_ nx
    show f_X5_stroked_S4 fd (nI t) a0 d (nI n) = _
    unfold f_X5_stroked_S4
    rw [if_neg (nI_ge (by omega) (by omega)), nm_s, show nI n * (5 : Int32) = nI (5 * n) by rw [show (5 : Int32) = nI 5 from rfl, pk_mul, Nat.mul_comm], chk_n (by omega) (by decide), nm_s, nI_clamp (by omega), w1]
    have ki0 : nI r.1 = (0 : Int32) ↔ r.1 = 0 := nI_eq (b := 0) (by omega) (by decide)
    have ki2 : nI r.1 = (2 : Int32) ↔ r.1 = 2 := nI_eq (b := 2) (by omega) (by decide)
    have ki3 : nI r.1 = (3 : Int32) ↔ r.1 = 3 := nI_eq (b := 3) (by omega) (by decide)
    have j114 : ∀ x, f_X5_stroked_J114 fd (nI t) a0 x (nI n) = some (.inl (x, nI (n + 1))) := fun x => by unfold f_X5_stroked_J114; rw [nm_s, nI_1]
    unfold sd
    by_cases k2 : r.1 = 2
    · rw [if_pos (ki2.mpr k2), if_pos k2, c_turned, bnd_s, j114]
    · rw [if_neg (mt ki2.mp k2), if_neg k2]
      by_cases k3 : r.1 = 3
      · rw [if_pos (ki3.mpr k3), if_pos k3, c_flipped, bnd_s, j114]
      · rw [if_neg (mt ki3.mp k3), if_neg k3]
        obtain ⟨b1, b2', b3, b4, b5, b6⟩ := v2 rfl (by omega)
        obtain ⟨c1, c2, c3⟩ := w2.elim (fun z => absurd z.2 (by omega)) id
        obtain ⟨c4, c5⟩ := c3.elim (fun z => by cases z) id
        rw [show nI (5 * n) + (1 : Int32) = nI (5 * n + 1) from nI_1 _, show nI (5 * n) + (2 : Int32) = nI (5 * n + 2) from nI_add _ 2, show nI (5 * n) + (3 : Int32) = nI (5 * n + 3) from nI_add _ 3, show nI (5 * n) + (4 : Int32) = nI (5 * n + 4) from nI_add _ 4, chk_n (by omega) (by decide), chk_n (by omega) (by decide), chk_n (by omega) (by decide), chk_n (by omega) (by decide), nI_clamp (by omega), nI_clamp (by omega), nI_clamp (by omega), nI_clamp (by omega), c1, c2, c4, c5, c_box b1 b2' b3 b5 b4 b6, bnd_s]
        unfold f_X5_stroked_J113
        by_cases k0 : r.1 = 0
        · rw [if_pos (ki0.mpr k0), if_pos k0, j114]
        · rw [if_neg (mt ki0.mp k0), if_neg k0, j114]
