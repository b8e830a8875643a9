/-! ===== all commands: the model's loop ===== -/
noncomputable def ap (g n : Nat) (r : Nat × Nat × Nat × Nat × Nat) (s : (Nat → Int32) × Int32) : (Nat → Int32) × Int32 := if g = 0 then (s.1, sd r s.2) else if g = 1 then (mw r s.1, s.2) else (w3 n r s.1, s.2)
noncomputable def aps (g : Nat) : Nat → List (Nat × Nat × Nat × Nat × Nat) → (Nat → Int32) × Int32 → (Nat → Int32) × Int32
  | _, [], s => s
  | n, r :: l, s => aps g (n + 1) l (ap g n r s)
theorem ap_lo (g n : Nat) (r : Nat × Nat × Nat × Nat × Nat) (s : (Nat → Int32) × Int32) : ∀ i, i < 1038 → (ap g n r s).1 i = s.1 i := by
  intro i hi
  unfold ap
  split
  · rfl
  · split
    · show (if 1038 ≤ i ∧ _ then _ else _) = _
      rw [if_neg (by omega)]
    · show w3 n r s.1 i = _
      unfold w3
      rw [upd_ne (by omega), upd_ne (by omega), upd_ne (by omega)]
theorem m_step {bytes tape wd : Nat → Int32} {B : Nat → Nat} {N g n p : Nat} {sh sl bg px py pw ph d : Int32} (h : TB bytes tape B N) (hp : p ≤ N) (hg : g < 3) (hn : n < 20) (hsh : wd 0 = sh) (hsl : wd 1 = sl) :
    ((cmd B N g sh sl (rn (bkp B) N p)).1 = false → ∃ z, f_X8_readAll_S19 tape (nI N) (nI g) (nI n) wd (nI p) bg px py pw ph d = some (.inr (Sum.inl z)) ∧ z.2.2.1 = nI (cmd B N g sh sl (rn (bkp B) N p)).2.1 ∧ z.1 = wd) ∧
    ((cmd B N g sh sl (rn (bkp B) N p)).1 = true → ∃ bg' px' py' pw' ph', f_X8_readAll_S19 tape (nI N) (nI g) (nI n) wd (nI p) bg px py pw ph d = f_X8_readAll_J68 tape (nI N) (nI g) (nI n) (ap g n (cmd B N g sh sl (rn (bkp B) N p)).2.2 (wd, d)).1 (nI (cmd B N g sh sl (rn (bkp B) N p)).2.1) bg' px' py' pw' ph' (ap g n (cmd B N g sh sl (rn (bkp B) N p)).2.2 (wd, d)).2) := by
  have hj := (rn_facts (bkp B) hp).2.1
  have nt : ¬ b2 true = 0 := by decide
  have nf : b2 false = 0 := rfl
  unfold f_X8_readAll_S19
  rw [m_letters h hp, bnd_s]
  dsimp only
  generalize rn (bkp B) N p = j at hj ⊢
  rw [if_neg (show ¬ nI n = 20 from mt (nI_eq (b := 20) (by omega) (by decide)).mp (by omega))]
  rcases (show g = 0 ∨ g = 1 ∨ g = 2 by omega) with rfl | rfl | rfl
  · rw [if_pos (show nI 0 = 0 from rfl)]
    obtain ⟨pt, bg', px', py', pw', ph', d', e1, e2, e3⟩ := m_stroke (sh := sh) (sl := sl) (px := px) (py := py) (pw := pw) (ph := ph) (d := d) h hj
    rw [e1, bnd_s]
    dsimp only
    refine ⟨fun z => ?_, fun z => ?_⟩
    · rw [z, if_pos nf]; exact ⟨_, rfl, e3 z, rfl⟩
    · rw [z, if_neg nt]
      obtain ⟨rfl, rfl⟩ := e2 z
      exact ⟨_, _, _, _, _, rfl⟩
  · rw [if_neg (show ¬ nI 1 = 0 by decide), if_pos (show nI 1 = 1 from rfl)]
    obtain ⟨wd', pt, bg', px', py', pw', ph', e1, e2, e3⟩ := m_mark (wd := wd) (sh := sh) (sl := sl) (px := px) (py := py) (pw := pw) (ph := ph) h hj
    rw [e1, bnd_s]
    dsimp only
    refine ⟨fun z => ?_, fun z => ?_⟩
    · rw [z, if_pos nf]; exact ⟨_, rfl, (e3 z).1, (e3 z).2⟩
    · rw [z, if_neg nt]
      obtain ⟨rfl, rfl⟩ := e2 z
      exact ⟨_, _, _, _, _, rfl⟩
  · rw [if_neg (show ¬ nI 2 = 0 by decide), if_neg (show ¬ nI 2 = 1 by decide)]
    obtain ⟨wd', pt, bg', e1, e2, e3⟩ := m_rule (wd := wd) (n := n) h hj hn hsh hsl
    rw [e1, bnd_s]
    dsimp only
    refine ⟨fun z => ?_, fun z => ?_⟩
    · rw [z, if_pos nf]; exact ⟨_, rfl, (e3 z).1, (e3 z).2⟩
    · rw [z, if_neg nt]
      obtain ⟨rfl, rfl⟩ := e2 z
      exact ⟨_, _, _, _, _, rfl⟩
theorem m_loop {bytes tape : Nat → Int32} {B : Nat → Nat} {N g : Nat} {sh sl : Int32} (h : TB bytes tape B N) (hg : g < 3) : ∀ f n p (wd : Nat → Int32) (bg px py pw ph d : Int32), n + f = 20 → p ≤ N → wd 0 = sh → wd 1 = sl → OK (lp (fun q => f_X8_readAll_S19 tape (nI N) (nI g) q.1 q.2.1 q.2.2.1 q.2.2.2.1 q.2.2.2.2.1 q.2.2.2.2.2.1 q.2.2.2.2.2.2.1 q.2.2.2.2.2.2.2.1 q.2.2.2.2.2.2.2.2) (nI n, wd, nI p, bg, px, py, pw, ph, d)) (fun r => ∃ (wd' : Nat → Int32) (pt bg' px' py' pw' ph' d' : Int32), (Sum.elim (fun z1 => f_X8_readAll_J66 tape (nI N) (nI g) z1.1 z1.2.1 z1.2.2.1 z1.2.2.2.1 z1.2.2.2.2.1 z1.2.2.2.2.2.1 z1.2.2.2.2.2.2.1 z1.2.2.2.2.2.2.2) (Sum.elim (fun z2 => f_X8_readAll_J83 tape (nI N) (nI g) z2.1 z2.2.1 z2.2.2.1 z2.2.2.2.1 z2.2.2.2.2.1 z2.2.2.2.2.2.1 z2.2.2.2.2.2.2.1 z2.2.2.2.2.2.2.2.1 z2.2.2.2.2.2.2.2.2) (fun z3 => f_X8_readAll_J98 tape (nI N) (nI g) z3.1 z3.2.1 z3.2.2.1 z3.2.2.2.1 z3.2.2.2.2.1 z3.2.2.2.2.2.1 z3.2.2.2.2.2.2.1 z3.2.2.2.2.2.2.2))) r = some (if (rdd B N g sh sl f (rn (bkp B) N p)).1 = true then nI (n + (rdd B N g sh sl f (rn (bkp B) N p)).2.2.length) else -1, wd', pt, bg', px', py', pw', ph', d') ∧ (∀ i, i < 1038 → wd' i = wd i) ∧ ((rdd B N g sh sl f (rn (bkp B) N p)).1 = true → (wd', d') = aps g n (rdd B N g sh sl f (rn (bkp B) N p)).2.2 (wd, d)) ∧ ((rdd B N g sh sl f (rn (bkp B) N p)).1 = false → bg' = nI (rdd B N g sh sl f (rn (bkp B) N p)).2.1)) := by
  have hN := h.1
  intro f
  induction f with
  | zero =>
    intro n p wd bg px py pw ph d hn hp hsh hsl
    refine ⟨_, lp_exit (show f_X8_readAll_S19 tape (nI N) (nI g) (nI n) wd (nI p) bg px py pw ph d = _ by unfold f_X8_readAll_S19; rw [m_letters h hp, bnd_s, if_pos (show nI n = 20 by rw [show n = 20 by omega]; rfl)]), _, _, _, _, _, _, _, _, rfl, fun _ _ => rfl, (fun z => by cases z), fun _ => rfl⟩
  | succ f ih =>
    intro n p wd bg px py pw ph d hn hp hsh hsl
    have hj := (rn_facts (bkp B) hp).2.1
    obtain ⟨s1, s2⟩ := m_step (wd := wd) (n := n) (bg := bg) (px := px) (py := py) (pw := pw) (ph := ph) (d := d) h hp hg (by omega) hsh hsl
    have lo := ap_lo g n (cmd B N g sh sl (rn (bkp B) N p)).2.2 (wd, d)
    generalize rn (bkp B) N p = j at hj s1 s2 lo ⊢
    have hc := (cmd_le (B := B) (g := g) (sh := sh) (sl := sl) hj).2
    obtain ⟨u1, u2, _⟩ := rn_facts (bkp B) hc
    unfold rdd
    by_cases q : (cmd B N g sh sl j).1 = true
    · obtain ⟨bg', px', py', pw', ph', st⟩ := s2 q
      unfold f_X8_readAll_J68 at st
      rw [m_skip h hc, bnd_s] at st
      dsimp only at st
      rw [if_pos q]
      generalize rn (bkp B) N (cmd B N g sh sl j).2.1 = u at st u1 u2 ⊢
      by_cases q2 : u < N
      · rw [if_pos q2]
        rw [if_neg (mt (nI_eq (by omega) (by omega)).mp (by omega)), show (59 : Int32) = nI 59 from rfl, m_isAt h u2 (by decide) (by decide), bnd_s, decide_eq_true q2, Bool.true_and] at st
        by_cases q3 : B u = 59
        · rw [if_pos q3]
          rw [decide_eq_true (show 59 ≤ B u ∧ B u ≤ 59 by omega), if_neg (show ¬ b2 true = 0 by decide), nm_s, nm_s, nI_1, nI_1] at st
          obtain ⟨r, er, wd', pt, bg2, px2, py2, pw2, ph2, d2, h1, h2, h3, h4⟩ := ih (n + 1) (u + 1) _ (nI u) px' py' pw' ph' (ap g n (cmd B N g sh sl j).2.2 (wd, d)).2 (by omega) (by omega) ((lo 0 (by decide)).trans hsh) ((lo 1 (by decide)).trans hsl)
          refine ⟨r, lp_go st er, wd', pt, bg2, px2, py2, pw2, ph2, d2, ?_, fun i hi => (h2 i hi).trans (lo i hi), h3, h4⟩
          rw [h1]
          show some (if _ then nI (n + 1 + (rdd B N g sh sl f (rn (bkp B) N (u + 1))).2.2.length) else _, _) = some (if _ then nI (n + ((rdd B N g sh sl f (rn (bkp B) N (u + 1))).2.2.length + 1)) else _, _)
          rw [show n + 1 + (rdd B N g sh sl f (rn (bkp B) N (u + 1))).2.2.length = n + ((rdd B N g sh sl f (rn (bkp B) N (u + 1))).2.2.length + 1) by omega]
        · rw [if_neg q3]
          rw [decide_eq_false (show ¬ (59 ≤ B u ∧ B u ≤ 59) by omega), if_pos (show b2 false = 0 from rfl)] at st
          exact ⟨_, lp_exit st, _, _, _, _, _, _, _, _, rfl, lo, (fun z => by cases z), fun _ => rfl⟩
      · rw [if_neg q2]
        rw [if_pos (show nI u = nI N by rw [show u = N by omega])] at st
        refine ⟨_, lp_exit st, (ap g n (cmd B N g sh sl j).2.2 (wd, d)).1, nI u, nI u, px', py', pw', ph', (ap g n (cmd B N g sh sl j).2.2 (wd, d)).2, ?_, lo, (fun _ => rfl), (fun z => by cases z)⟩
        show f_X8_readAll_J83 tape (nI N) (nI g) (nI n) _ _ _ _ _ _ _ _ = _
        unfold f_X8_readAll_J83
        rw [nI_1, if_pos rfl]
        rfl
    · rw [if_neg q]
      obtain ⟨z, st, hz1, hz2⟩ := s1 (ts_nt q)
      refine ⟨_, lp_exit st, _, _, _, _, _, _, _, _, rfl, fun i _ => by rw [hz2], (fun z => by cases z), fun _ => hz1⟩
theorem m_reads {bytes tape wd : Nat → Int32} {B : Nat → Nat} {N g : Nat} {sh sl bg fa px py pw ph d : Int32} (h : TB bytes tape B N) (hg : g < 3) (hsh : wd 0 = sh) (hsl : wd 1 = sl) : ∃ (wd' : Nat → Int32) (pt bg' px' py' pw' ph' d' : Int32), f_X8_reads wd tape 0 (nI N) bg fa px py pw ph d (nI g) = some (if (rdA B N g sh sl).1 = true then nI (rdA B N g sh sl).2.2.length else -1, wd', pt, bg', if (rdA B N g sh sl).1 = true then -1 else nI (rdA B N g sh sl).2.1, px', py', pw', ph', d') ∧ (∀ i, i < 1038 → wd' i = wd i) ∧ ((rdA B N g sh sl).1 = true → (wd', d') = aps g 0 (rdA B N g sh sl).2.2 (wd, d)) := by
  have hN := h.1
  obtain ⟨u1, u2, _⟩ := rn_facts (bkp B) (Nat.zero_le N)
  have A : ∃ (wd' : Nat → Int32) (pt bg' px' py' pw' ph' d' : Int32), f_X8_readAll wd tape 0 (nI N) bg px py pw ph d (nI g) = some (if (rdA B N g sh sl).1 = true then nI (rdA B N g sh sl).2.2.length else -1, wd', pt, bg', px', py', pw', ph', d') ∧ (∀ i, i < 1038 → wd' i = wd i) ∧ ((rdA B N g sh sl).1 = true → (wd', d') = aps g 0 (rdA B N g sh sl).2.2 (wd, d)) ∧ ((rdA B N g sh sl).1 = false → bg' = nI (rdA B N g sh sl).2.1) := by
    unfold f_X8_readAll rdA
    rw [show (0 : Int32) = nI 0 from rfl, m_skip h (Nat.zero_le _), bnd_s]
    dsimp only
    by_cases q : rn (bkp B) N 0 = N
    · rw [if_pos q, if_pos (by rw [q]), if_pos rfl]
      exact ⟨_, _, _, _, _, _, _, _, rfl, fun _ _ => rfl, (fun _ => rfl), fun z => by cases z⟩
    · rw [if_neg q, if_neg (mt (nI_eq (by omega) (by omega)).mp q)]
      obtain ⟨r, er, wd', pt, bg', px', py', pw', ph', d', h1, h2, h3, h4⟩ := m_loop (sh := sh) (sl := sl) h hg 20 0 (rn (bkp B) N 0) wd (nI (rn (bkp B) N 0)) px py pw ph d rfl u2 hsh hsl
      have id := nmJ_idem (B := B) (i := 0) (Nat.zero_le N)
      unfold nmJ at id
      rw [id, Nat.zero_add] at h1
      rw [id] at h3 h4
      unfold f_X8_readAll_J19
      rw [show lp (fun q => f_X8_readAll_S19 tape (nI N) (nI g) q.1 q.2.1 q.2.2.1 q.2.2.2.1 q.2.2.2.2.1 q.2.2.2.2.2.1 q.2.2.2.2.2.2.1 q.2.2.2.2.2.2.2.1 q.2.2.2.2.2.2.2.2) (nI 0, wd, nI (rn (bkp B) N 0), nI (rn (bkp B) N 0), px, py, pw, ph, d) = some r from er, bnd_s, h1]
      exact ⟨_, _, _, _, _, _, _, _, rfl, h2, h3, h4⟩
  obtain ⟨wd', pt, bg', px', py', pw', ph', d', h1, h2, h3, h4⟩ := A
  unfold f_X8_reads
  rw [h1, bnd_s]
  dsimp only
  unfold f_X8_reads_J19
  cases e : (rdA B N g sh sl).1 with
  | true =>
    rw [if_pos rfl, if_pos rfl]
    have hl : (rdA B N g sh sl).2.2.length ≤ 20 := by
      unfold rdA
      split
      · exact Nat.zero_le _
      · exact rd_len _ _
    rw [if_pos (show (0 : Int32) ≤ nI (rdA B N g sh sl).2.2.length from nI_le (a := 0) (Nat.zero_le _) (by omega))]
    exact ⟨_, _, _, _, _, _, _, _, rfl, h2, fun _ => h3 e⟩
  | false =>
    rw [if_neg (show ¬ false = true by decide), if_neg (show ¬ false = true by decide), if_neg (show ¬ (0 : Int32) ≤ -1 by decide), h4 e]
    exact ⟨_, _, _, _, _, _, _, _, rfl, h2, fun z => by cases z⟩
theorem rdA_len {B : Nat → Nat} {N g : Nat} {sh sl : Int32} : (rdA B N g sh sl).2.2.length ≤ 20 := by
  unfold rdA
  split
  · exact Nat.zero_le _
  · exact rd_len _ _
theorem rdA_RV {B : Nat → Nat} {N g ns nl : Nat} (hg : g < 3) (hns : ns ≤ 6) (hnl : nl ≤ 4) : ∀ r, r ∈ (rdA B N g (nI ns) (nI nl)).2.2 → RV g ns nl r := by
  intro r hr
  unfold rdA at hr
  split at hr
  · cases hr
  · exact rd_RV hg hns hnl _ _ (rn_facts (bkp B) (Nat.zero_le N)).2.1 r hr
theorem aps0 : ∀ (l : List (Nat × Nat × Nat × Nat × Nat)) (n : Nat) (s : (Nat → Int32) × Int32), aps 0 n l s = (s.1, sds l s.2) := by
  intro l
  induction l with
  | nil => intro n s; rfl
  | cons r l ih => intro n s; show aps 0 (n + 1) l (s.1, sd r s.2) = _; rw [ih]; rfl
