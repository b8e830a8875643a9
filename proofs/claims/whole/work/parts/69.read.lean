/-! ===== one command, all commands: the model ===== -/
theorem m_word {bytes tape : Nat → Int32} {B : Nat → Nat} {N b a k : Nat} {t : Bool} (h : TB bytes tape B N) (hb : b ≤ a) (ha : a ≤ N) (hk : k < 12) (e : wdb B k b a = t) : f_X8_isWord tape (nI a) (nI b) (12 + k) = some (b2 t) := by
  rw [m_isWord h hb ha (by omega), wdb_12, e]
theorem cmd_bad {B : Nat → Nat} {N g j : Nat} {sh sl : Int32} (q : kd B g j (rn (ltp B) N j) = 4) : cmd B N g sh sl j = (false, j, 0, 0, 0, 0, 0) := by
  unfold cmd
  rw [if_pos q]
theorem cmd_box0 {B : Nat → Nat} {N j k : Nat} {sh sl : Int32} (hk : k < 2) (q : kd B 0 j (rn (ltp B) N j) = k) : cmd B N 0 sh sl j = ((bxp B N (rn (ltp B) N j) 5).1, (bxp B N (rn (ltp B) N j) 5).2.1, k, (bxp B N (rn (ltp B) N j) 5).2.2.1, (bxp B N (rn (ltp B) N j) 5).2.2.2.1, (bxp B N (rn (ltp B) N j) 5).2.2.2.2.1, (bxp B N (rn (ltp B) N j) 5).2.2.2.2.2) := by
  unfold cmd
  rw [q, if_neg (by omega), if_neg (by decide), if_neg (by decide), if_neg (by omega)]
theorem cmd_tf {B : Nat → Nat} {N j k : Nat} {sh sl : Int32} (hk : 2 ≤ k ∧ k < 4) (q : kd B 0 j (rn (ltp B) N j) = k) : cmd B N 0 sh sl j = (true, rn (ltp B) N j, k, 0, 0, 0, 0) := by
  unfold cmd
  rw [q, if_neg (by omega), if_neg (by decide), if_neg (by decide), if_pos (by omega)]
theorem cmd_box1 {B : Nat → Nat} {N j k : Nat} {sh sl : Int32} (hk : k < 4) (q : kd B 1 j (rn (ltp B) N j) = k) : cmd B N 1 sh sl j = ((bxp B N (rn (ltp B) N j) 12).1, (bxp B N (rn (ltp B) N j) 12).2.1, k, (bxp B N (rn (ltp B) N j) 12).2.2.1, (bxp B N (rn (ltp B) N j) 12).2.2.2.1, (bxp B N (rn (ltp B) N j) 12).2.2.2.2.1, (bxp B N (rn (ltp B) N j) 12).2.2.2.2.2) := by
  unfold cmd
  rw [q, if_neg (by omega), if_neg (by decide), if_pos rfl]
theorem cmd_pr {B : Nat → Nat} {N j k : Nat} {sh sl : Int32} (hk : k < 4) (q : kd B 2 j (rn (ltp B) N j) = k) : cmd B N 2 sh sl j = ((prp B N (rn (ltp B) N j) k sh sl).1, (prp B N (rn (ltp B) N j) k sh sl).2.1, k, (prp B N (rn (ltp B) N j) k sh sl).2.2.1, (prp B N (rn (ltp B) N j) k sh sl).2.2.2, 0, 0) := by
  unfold cmd
  rw [q, if_neg (by omega), if_pos rfl]
theorem bxp_in5 {B : Nat → Nat} {N i : Nat} (hi : i ≤ N) (h : (bxp B N i 5).1 = true) : (bxp B N i 5).2.2.1 < 5 ∧ (bxp B N i 5).2.2.2.1 < 5 ∧ 1 ≤ (bxp B N i 5).2.2.2.2.1 ∧ (bxp B N i 5).2.2.1 + (bxp B N i 5).2.2.2.2.1 ≤ 5 ∧ 1 ≤ (bxp B N i 5).2.2.2.2.2 ∧ (bxp B N i 5).2.2.2.1 + (bxp B N i 5).2.2.2.2.2 ≤ 5 := bxp_in (s := 5) ⟨by decide, by decide⟩ hi h
theorem bxp_in12 {B : Nat → Nat} {N i : Nat} (hi : i ≤ N) (h : (bxp B N i 12).1 = true) : (bxp B N i 12).2.2.1 < 12 ∧ (bxp B N i 12).2.2.2.1 < 12 ∧ 1 ≤ (bxp B N i 12).2.2.2.2.1 ∧ (bxp B N i 12).2.2.1 + (bxp B N i 12).2.2.2.2.1 ≤ 12 ∧ 1 ≤ (bxp B N i 12).2.2.2.2.2 ∧ (bxp B N i 12).2.2.2.1 + (bxp B N i 12).2.2.2.2.2 ≤ 12 := bxp_in (s := 12) ⟨by decide, by decide⟩ hi h
theorem m_stroke {bytes tape : Nat → Int32} {B : Nat → Nat} {N j : Nat} {sh sl px py pw ph d : Int32} (h : TB bytes tape B N) (hj : j ≤ N) : ∃ pt bg px' py' pw' ph' d', f_X8_readStroke tape (nI (rn (ltp B) N j)) (nI N) (nI j) px py pw ph d = some (b2 (cmd B N 0 sh sl j).1, pt, bg, px', py', pw', ph', d') ∧ ((cmd B N 0 sh sl j).1 = true → pt = nI (cmd B N 0 sh sl j).2.1 ∧ d' = sd (cmd B N 0 sh sl j).2.2 d) ∧ ((cmd B N 0 sh sl j).1 = false → bg = nI (cmd B N 0 sh sl j).2.1) := by
  obtain ⟨l1, l2, _⟩ := rn_facts (ltp B) hj
  have nt : ¬ b2 true = 0 := by decide
  have j64 : ∀ (t : Bool), ∃ pt bg px' py' pw' ph' d', f_X8_readStroke_J64 tape (nI N) (b2 t) (nI (rn (ltp B) N j)) (nI j) px py pw ph d = some (b2 (bxp B N (rn (ltp B) N j) 5).1, pt, bg, px', py', pw', ph', d') ∧ ((bxp B N (rn (ltp B) N j) 5).1 = true → pt = nI (bxp B N (rn (ltp B) N j) 5).2.1 ∧ d' = if t = true then d &&& (bx (bxp B N (rn (ltp B) N j) 5).2.2.1 (bxp B N (rn (ltp B) N j) 5).2.2.2.1 (bxp B N (rn (ltp B) N j) 5).2.2.2.2.1 (bxp B N (rn (ltp B) N j) 5).2.2.2.2.2 ^^^ -1) else d ||| bx (bxp B N (rn (ltp B) N j) 5).2.2.1 (bxp B N (rn (ltp B) N j) 5).2.2.2.1 (bxp B N (rn (ltp B) N j) 5).2.2.2.2.1 (bxp B N (rn (ltp B) N j) 5).2.2.2.2.2) ∧ ((bxp B N (rn (ltp B) N j) 5).1 = false → bg = nI (bxp B N (rn (ltp B) N j) 5).2.1) := by
    intro t
    obtain ⟨pt, bg', px', py', pw', ph', e1, e2, e3⟩ := m_part (s := 5) (bg := nI j) (px := px) (py := py) (pw := pw) (ph := ph) h l2
    unfold f_X8_readStroke_J64
    rw [e1, bnd_s]
    dsimp only
    cases e : (bxp B N (rn (ltp B) N j) 5).1 with
    | false =>
      rw [if_pos (show b2 false = 0 from rfl)]
      exact ⟨_, _, _, _, _, _, _, rfl, (fun z => by cases z), fun _ => e3 e⟩
    | true =>
      obtain ⟨rfl, rfl, rfl, rfl, rfl⟩ := e2 e
      obtain ⟨b1, b2', b3, b4, b5, b6⟩ := bxp_in5 l2 e
      rw [if_neg nt]
      rw [show f_X8_partOf (nI (bxp B N (rn (ltp B) N j) 5).2.2.1) (nI (bxp B N (rn (ltp B) N j) 5).2.2.2.1) (nI (bxp B N (rn (ltp B) N j) 5).2.2.2.2.1) (nI (bxp B N (rn (ltp B) N j) 5).2.2.2.2.2) = _ from m_partOf b1 b2' ⟨b3, by omega⟩ ⟨b5, by omega⟩, bnd_s]
      unfold f_X8_readStroke_J116
      cases t with
      | false => rw [if_pos (show b2 false = 0 from rfl)]; exact ⟨_, _, _, _, _, _, _, rfl, (fun _ => ⟨rfl, rfl⟩), fun z => by cases z⟩
      | true => rw [if_neg nt]; exact ⟨_, _, _, _, _, _, _, rfl, (fun _ => ⟨rfl, rfl⟩), fun z => by cases z⟩
  unfold f_X8_readStroke
  rcases kd_cases (B := B) (g := 0) (b := j) (a := rn (ltp B) N j) (by decide) with q | q | q | q | q <;> obtain ⟨q0, q1, q2, q3, q4⟩ := q
  · obtain ⟨pt, bg, px', py', pw', ph', d', e1, e2, e3⟩ := j64 true
    rw [cmd_box0 (by decide) q0, m_word (k := 2) h l1 l2 (by decide) q3, bnd_s, if_pos (show b2 false = 0 from rfl), m_word (k := 3) h l1 l2 (by decide) q4, bnd_s, if_pos (show b2 false = 0 from rfl), m_word (k := 0) h l1 l2 (by decide) q1, bnd_s, if_neg nt, e1]
    exact ⟨_, _, _, _, _, _, _, rfl, e2, e3⟩
  · obtain ⟨pt, bg, px', py', pw', ph', d', e1, e2, e3⟩ := j64 false
    rw [cmd_box0 (by decide) q0, m_word (k := 2) h l1 l2 (by decide) q3, bnd_s, if_pos (show b2 false = 0 from rfl), m_word (k := 3) h l1 l2 (by decide) q4, bnd_s, if_pos (show b2 false = 0 from rfl), m_word (k := 0) h l1 l2 (by decide) q1, bnd_s, if_pos (show b2 false = 0 from rfl), m_word (k := 1) h l1 l2 (by decide) q2, bnd_s, if_neg nt, e1]
    exact ⟨_, _, _, _, _, _, _, rfl, e2, e3⟩
  · rw [cmd_tf ⟨by decide, by decide⟩ q0, m_word (k := 2) h l1 l2 (by decide) q3, bnd_s, if_neg nt, m_turned, bnd_s]
    exact ⟨_, _, _, _, _, _, _, rfl, (fun _ => ⟨rfl, rfl⟩), fun z => by cases z⟩
  · rw [cmd_tf ⟨by decide, by decide⟩ q0, m_word (k := 2) h l1 l2 (by decide) q3, bnd_s, if_pos (show b2 false = 0 from rfl), m_word (k := 3) h l1 l2 (by decide) q4, bnd_s, if_neg nt, m_flipped, bnd_s]
    exact ⟨_, _, _, _, _, _, _, rfl, (fun _ => ⟨rfl, rfl⟩), fun z => by cases z⟩
  · rw [cmd_bad q0, m_word (k := 2) h l1 l2 (by decide) q3, bnd_s, if_pos (show b2 false = 0 from rfl), m_word (k := 3) h l1 l2 (by decide) q4, bnd_s, if_pos (show b2 false = 0 from rfl), m_word (k := 0) h l1 l2 (by decide) q1, bnd_s, if_pos (show b2 false = 0 from rfl), m_word (k := 1) h l1 l2 (by decide) q2, bnd_s, if_pos (show b2 false = 0 from rfl)]
    exact ⟨_, _, _, _, _, _, _, rfl, (fun z => by cases z), fun _ => rfl⟩
/-! marks -/
def in12 (x y w h p : Nat) : Bool := decide (x ≤ p % 12 ∧ p % 12 < x + w ∧ y ≤ p / 12 ∧ p / 12 < y + h)
def mw (r : Nat × Nat × Nat × Nat × Nat) (wd : Nat → Int32) : Nat → Int32 := fun i => if 1038 ≤ i ∧ i < 1182 ∧ in12 r.2.1 r.2.2.1 r.2.2.2.1 r.2.2.2.2 (i - 1038) = true then nI r.1 else wd i
theorem m_row {tape wd : Nat → Int32} {N k x w l2 y : Nat} {pt bg py ph : Int32} (hx : x + w ≤ 12) (hy : y < 12) : lp (fun q => f_X8_readMark_S92 tape (nI N) (nI k) pt bg (nI x) py (nI w) ph (nI y) q.1 q.2) (nI x, wd) = some (fun i => if 1038 + 12 * y + x ≤ i ∧ i < 1038 + 12 * y + x + w then nI k else wd i) := by
  have H : OK (lp (fun q => f_X8_readMark_S92 tape (nI N) (nI k) pt bg (nI x) py (nI w) ph (nI y) q.1 q.2) (nI x, wd)) (fun r => r = fun i => if 1038 + 12 * y + x ≤ i ∧ i < 1038 + 12 * y + x + w then nI k else wd i) := by
    refine ok_lp (fun n s => s = (nI (x + n), fun i => if 1038 + 12 * y + x ≤ i ∧ i < 1038 + 12 * y + x + n then nI k else wd i)) w (fun n s hn hJ => ?_) (fun s hJ => ?_) ?_
    · subst hJ
      refine Or.inl ⟨_, ?_, rfl⟩
      show f_X8_readMark_S92 tape (nI N) (nI k) pt bg (nI x) py (nI w) ph (nI y) (nI (x + n)) (fun i => if 1038 + 12 * y + x ≤ i ∧ i < 1038 + 12 * y + x + n then nI k else wd i) = _
      unfold f_X8_readMark_S92
      rw [nI_add, if_neg (nI_ge (by omega) (by omega)), show ((1038 : Int32) + (12 : Int32) * nI y) + nI (x + n) = nI (1038 + 12 * y + (x + n)) by rw [show (12 : Int32) = nI 12 from rfl, pk_mul, show (1038 : Int32) = nI 1038 from rfl, nI_add, nI_add], chk_n (by omega) (by decide), nm_s, nm_s, nI_c (by omega), nI_1]
      congr 3
      funext i
      rw [upd_at]
      by_cases q : i = 1038 + 12 * y + (x + n)
      · rw [if_pos q, if_pos (by omega)]
      · rw [if_neg q]
        by_cases q2 : 1038 + 12 * y + x ≤ i ∧ i < 1038 + 12 * y + x + n
        · rw [if_pos q2, if_pos (by omega)]
        · rw [if_neg q2, if_neg (by omega)]
    · subst hJ
      refine ⟨_, ?_, rfl⟩
      show f_X8_readMark_S92 tape (nI N) (nI k) pt bg (nI x) py (nI w) ph (nI y) (nI (x + w)) _ = _
      unfold f_X8_readMark_S92
      rw [nI_add, if_pos (Int32.le_refl _)]
    · refine Prod.ext rfl ?_
      funext i
      show wd i = if 1038 + 12 * y + x ≤ i ∧ i < 1038 + 12 * y + x + 0 then nI k else wd i
      rw [if_neg (by omega)]
  obtain ⟨r, er, hr⟩ := H
  rw [er, hr]
theorem m_rows {tape wd : Nat → Int32} {N k x y w v : Nat} {pt bg : Int32} (hx : x + w ≤ 12) (hy : y + v ≤ 12) : lp (fun q => f_X8_readMark_S74 tape (nI N) (nI k) pt bg (nI x) (nI y) (nI w) (nI v) q.1 q.2) (nI y, wd) = some (mw (k, x, y, w, v) wd) := by
  have H : OK (lp (fun q => f_X8_readMark_S74 tape (nI N) (nI k) pt bg (nI x) (nI y) (nI w) (nI v) q.1 q.2) (nI y, wd)) (fun r => r = mw (k, x, y, w, v) wd) := by
    refine ok_lp (fun n s => s = (nI (y + n), mw (k, x, y, w, n) wd)) v (fun n s hn hJ => ?_) (fun s hJ => ?_) ?_
    · subst hJ
      refine Or.inl ⟨_, ?_, rfl⟩
      show f_X8_readMark_S74 tape (nI N) (nI k) pt bg (nI x) (nI y) (nI w) (nI v) (nI (y + n)) (mw (k, x, y, w, n) wd) = _
      unfold f_X8_readMark_S74 f_X8_readMark_J92
      rw [nI_add, if_neg (nI_ge (by omega) (by omega)), m_row (l2 := 0) hx (by omega), bnd_s]
      unfold f_X8_readMark_J127
      rw [nm_s, nI_1]
      congr 3
      funext i
      show (if 1038 + 12 * (y + n) + x ≤ i ∧ i < 1038 + 12 * (y + n) + x + w then nI k else if 1038 ≤ i ∧ i < 1182 ∧ in12 x y w n (i - 1038) = true then nI k else wd i) = if 1038 ≤ i ∧ i < 1182 ∧ in12 x y w (n + 1) (i - 1038) = true then nI k else wd i
      unfold in12
      by_cases q : 1038 + 12 * (y + n) + x ≤ i ∧ i < 1038 + 12 * (y + n) + x + w
      · rw [if_pos q, if_pos ⟨by omega, by omega, decide_eq_true (by omega)⟩]
      · rw [if_neg q]
        by_cases q2 : 1038 ≤ i ∧ i < 1182 ∧ decide (x ≤ (i - 1038) % 12 ∧ (i - 1038) % 12 < x + w ∧ y ≤ (i - 1038) / 12 ∧ (i - 1038) / 12 < y + n) = true
        · have q3 := of_decide_eq_true q2.2.2
          rw [if_pos q2, if_pos ⟨q2.1, q2.2.1, decide_eq_true (by omega)⟩]
        · rw [if_neg q2, if_neg]
          intro z
          have z3 := of_decide_eq_true z.2.2
          exact q2 ⟨z.1, z.2.1, decide_eq_true (by omega)⟩
    · subst hJ
      refine ⟨_, ?_, rfl⟩
      show f_X8_readMark_S74 tape (nI N) (nI k) pt bg (nI x) (nI y) (nI w) (nI v) (nI (y + v)) _ = _
      unfold f_X8_readMark_S74
      rw [nI_add, if_pos (Int32.le_refl _)]
    · refine Prod.ext rfl ?_
      funext i
      show wd i = if 1038 ≤ i ∧ i < 1182 ∧ in12 x y w 0 (i - 1038) = true then nI k else wd i
      rw [if_neg]
      intro z
      have z3 := of_decide_eq_true z.2.2
      omega
  obtain ⟨r, er, hr⟩ := H
  rw [er, hr]
theorem m_mark {bytes tape wd : Nat → Int32} {B : Nat → Nat} {N j : Nat} {sh sl px py pw ph : Int32} (h : TB bytes tape B N) (hj : j ≤ N) : ∃ wd' pt bg px' py' pw' ph', f_X8_readMark wd tape (nI (rn (ltp B) N j)) (nI N) (nI j) px py pw ph = some (b2 (cmd B N 1 sh sl j).1, wd', pt, bg, px', py', pw', ph') ∧ ((cmd B N 1 sh sl j).1 = true → pt = nI (cmd B N 1 sh sl j).2.1 ∧ wd' = mw (cmd B N 1 sh sl j).2.2 wd) ∧ ((cmd B N 1 sh sl j).1 = false → bg = nI (cmd B N 1 sh sl j).2.1 ∧ wd' = wd) := by
  obtain ⟨l1, l2, _⟩ := rn_facts (ltp B) hj
  have nt : ¬ b2 true = 0 := by decide
  have nf : b2 false = 0 := rfl
  have j53 : ∀ k, k < 4 → kd B 1 j (rn (ltp B) N j) = k → ∃ wd' pt bg px' py' pw' ph', f_X8_readMark_J53 tape (nI N) (nI k) wd (nI (rn (ltp B) N j)) (nI j) px py pw ph = some (b2 (cmd B N 1 sh sl j).1, wd', pt, bg, px', py', pw', ph') ∧ ((cmd B N 1 sh sl j).1 = true → pt = nI (cmd B N 1 sh sl j).2.1 ∧ wd' = mw (cmd B N 1 sh sl j).2.2 wd) ∧ ((cmd B N 1 sh sl j).1 = false → bg = nI (cmd B N 1 sh sl j).2.1 ∧ wd' = wd) := by
    intro k hk q
    rw [cmd_box1 hk q]
    obtain ⟨pt, bg', px', py', pw', ph', e1, e2, e3⟩ := m_part (s := 12) (bg := nI j) (px := px) (py := py) (pw := pw) (ph := ph) h l2
    unfold f_X8_readMark_J53
    rw [if_neg (show ¬ nI k < 0 from nI_nlt (b := 0) (Nat.zero_le _) (by omega)), e1, bnd_s]
    dsimp only
    cases e : (bxp B N (rn (ltp B) N j) 12).1 with
    | false =>
      rw [if_pos nf]
      exact ⟨_, _, _, _, _, _, _, rfl, (fun z => by cases z), fun _ => ⟨e3 e, rfl⟩⟩
    | true =>
      obtain ⟨rfl, rfl, rfl, rfl, rfl⟩ := e2 e
      obtain ⟨b1, b2', b3, b4, b5, b6⟩ := bxp_in12 l2 e
      rw [if_neg nt]
      unfold f_X8_readMark_J74 f_X8_readMark_J133
      rw [m_rows b4 b6, bnd_s]
      exact ⟨_, _, _, _, _, _, _, rfl, (fun _ => ⟨rfl, rfl⟩), fun z => by cases z⟩
  unfold f_X8_readMark
  rcases kd_cases (B := B) (g := 1) (b := j) (a := rn (ltp B) N j) (by decide) with q | q | q | q | q <;> obtain ⟨q0, q1, q2, q3, q4⟩ := q
  · rw [m_word (k := 6) h l1 l2 (by decide) q3, bnd_s, if_pos nf, m_word (k := 5) h l1 l2 (by decide) q2, bnd_s, if_pos nf, m_word (k := 4) h l1 l2 (by decide) q1, bnd_s, if_neg nt]
    exact j53 0 (by decide) q0
  · rw [m_word (k := 6) h l1 l2 (by decide) q3, bnd_s, if_pos nf, m_word (k := 5) h l1 l2 (by decide) q2, bnd_s, if_neg nt]
    exact j53 1 (by decide) q0
  · rw [m_word (k := 6) h l1 l2 (by decide) q3, bnd_s, if_neg nt]
    exact j53 2 (by decide) q0
  · rw [m_word (k := 6) h l1 l2 (by decide) q3, bnd_s, if_pos nf, m_word (k := 5) h l1 l2 (by decide) q2, bnd_s, if_pos nf, m_word (k := 4) h l1 l2 (by decide) q1, bnd_s, if_pos nf, m_word (k := 7) h l1 l2 (by decide) q4, bnd_s, if_neg nt]
    exact j53 3 (by decide) q0
  · rw [m_word (k := 6) h l1 l2 (by decide) q3, bnd_s, if_pos nf, m_word (k := 5) h l1 l2 (by decide) q2, bnd_s, if_pos nf, m_word (k := 4) h l1 l2 (by decide) q1, bnd_s, if_pos nf, m_word (k := 7) h l1 l2 (by decide) q4, bnd_s, if_pos nf, cmd_bad q0]
    unfold f_X8_readMark_J53
    rw [if_pos (by decide)]
    exact ⟨_, _, _, _, _, _, _, rfl, (fun z => by cases z), fun _ => ⟨rfl, rfl⟩⟩
/-! rules -/
def w3 (n : Nat) (r : Nat × Nat × Nat × Nat × Nat) (wd : Nat → Int32) : Nat → Int32 := upd (upd (upd wd (1038 + 3 * n) (nI r.1)) (1038 + 3 * n + 1) (nI r.2.1)) (1038 + 3 * n + 2) (nI r.2.2.1)
theorem m_rule {bytes tape wd : Nat → Int32} {B : Nat → Nat} {N j n : Nat} {sh sl : Int32} (h : TB bytes tape B N) (hj : j ≤ N) (hn : n < 20) (hsh : wd 0 = sh) (hsl : wd 1 = sl) : ∃ wd' pt bg, f_X8_readRule wd tape (nI (rn (ltp B) N j)) (nI N) (nI j) (nI n) = some (b2 (cmd B N 2 sh sl j).1, wd', pt, bg) ∧ ((cmd B N 2 sh sl j).1 = true → pt = nI (cmd B N 2 sh sl j).2.1 ∧ wd' = w3 n (cmd B N 2 sh sl j).2.2 wd) ∧ ((cmd B N 2 sh sl j).1 = false → bg = nI (cmd B N 2 sh sl j).2.1 ∧ wd' = wd) := by
  obtain ⟨l1, l2, _⟩ := rn_facts (ltp B) hj
  have nt : ¬ b2 true = 0 := by decide
  have nf : b2 false = 0 := rfl
  have n1 : ¬ (0 : Int32) ≤ -1 := by decide
  have n2 : (-1 : Int32) < 0 := by decide
  have n3 : ∀ n, n < 100 → (0 : Int32) ≤ nI n := fun n hn => nI_le (a := 0) (Nat.zero_le _) (by omega)
  have n4 : ∀ n, n < 100 → ¬ nI n < (0 : Int32) := fun n hn => nI_nlt (b := 0) (Nat.zero_le _) (by omega)
  have es : f_X8_sheets wd = some sh := by unfold f_X8_sheets; rw [← hsh]; rfl
  have el : f_X8_slots wd = some sl := by unfold f_X8_slots; rw [← hsl]; rfl
  obtain ⟨a1, a2, a3⟩ := nm_facts (B := B) l2
  obtain ⟨b1, b2', b3⟩ := nm_facts (B := B) a3
  have j53 : ∀ k, k < 4 → kd B 2 j (rn (ltp B) N j) = k → ∃ wd' pt bg, f_X8_readRule_J53 tape (nI N) (nI n) (nI k) wd (nI (rn (ltp B) N j)) (nI j) = some (b2 (cmd B N 2 sh sl j).1, wd', pt, bg) ∧ ((cmd B N 2 sh sl j).1 = true → pt = nI (cmd B N 2 sh sl j).2.1 ∧ wd' = w3 n (cmd B N 2 sh sl j).2.2 wd) ∧ ((cmd B N 2 sh sl j).1 = false → bg = nI (cmd B N 2 sh sl j).2.1 ∧ wd' = wd) := by
    intro k hk q
    rw [cmd_pr hk q]
    have k0 : (nI k = 0) ↔ k = 0 := nI_eq (b := 0) (by omega) (by decide)
    unfold f_X8_readRule_J53 prp
    generalize rn (ltp B) N j = w at l2 a1 a2 a3 b1 b2' b3 ⊢
    rw [if_pos (n3 k (by omega)), es, bnd_s, m_number h l2, bnd_s]
    have fin : ∀ (a b : Nat) (p b' : Int32), f_X8_readRule_J121 tape (nI N) (nI n) (nI k) (nI a) (nI b) wd p b' = some (1, w3 n (k, a, b, 0, 0) wd, p, b') := by
      intro a b p b'
      unfold f_X8_readRule_J121
      rw [show (1038 : Int32) + (3 : Int32) * nI n = nI (1038 + 3 * n) by rw [show (3 : Int32) = nI 3 from rfl, pk_mul, show (1038 : Int32) = nI 1038 from rfl, nI_add], show nI (1038 + 3 * n) + (1 : Int32) = nI (1038 + 3 * n + 1) from nI_1 _, show nI (1038 + 3 * n) + (2 : Int32) = nI (1038 + 3 * n + 2) from nI_add _ 2, chk_n (by omega) (by decide), nm_s, chk_n (by omega) (by decide), nm_s, chk_n (by omega) (by decide), nm_s, nI_c (by omega), nI_c (by omega), nI_c (by omega)]
      rfl
    by_cases q1 : nmOK B N w 0 (sh - 1) = true
    · rw [if_pos q1, if_pos q1]
      obtain ⟨x1, _⟩ := nm_ok l2 q1
      dsimp only
      rw [if_pos (n3 _ x1)]
      unfold f_X8_readRule_J97
      by_cases hk0 : k = 0
      · rw [if_pos (k0.mpr hk0), if_pos hk0, el, bnd_s, m_number h a3, bnd_s]
        by_cases q2 : nmOK B N (nmE B N w) 0 (sl - 1) = true
        · rw [if_pos q2, if_pos q2]
          obtain ⟨y1, _⟩ := nm_ok a3 q2
          dsimp only
          unfold f_X8_readRule_J102
          rw [if_neg (n4 _ y1), if_pos (k0.mpr hk0), if_neg (fun z => z.1 hk0), fin]
          exact ⟨_, _, _, rfl, (fun _ => ⟨rfl, rfl⟩), fun z => by cases z⟩
        · rw [if_neg q2, if_neg q2]
          dsimp only
          unfold f_X8_readRule_J102
          rw [if_pos n2]
          exact ⟨_, _, _, rfl, (fun z => by cases z), fun _ => ⟨rfl, rfl⟩⟩
      · rw [if_neg (mt k0.mp hk0), if_neg hk0, bnd_s, m_number h a3, bnd_s]
        by_cases q2 : nmOK B N (nmE B N w) 0 (sh - 1) = true
        · rw [if_pos q2, if_pos q2]
          obtain ⟨y1, _⟩ := nm_ok a3 q2
          dsimp only
          unfold f_X8_readRule_J102
          rw [if_neg (n4 _ y1), if_neg (mt k0.mp hk0)]
          by_cases q3 : nmV B N w = nmV B N (nmE B N w)
          · rw [if_pos (by rw [q3]), if_pos ⟨hk0, q3⟩]
            exact ⟨_, _, _, rfl, (fun z => by cases z), fun _ => ⟨rfl, rfl⟩⟩
          · rw [if_neg (mt (nI_eq (by omega) (by omega)).mp q3), if_neg (fun z => q3 z.2), fin]
            exact ⟨_, _, _, rfl, (fun _ => ⟨rfl, rfl⟩), fun z => by cases z⟩
        · rw [if_neg q2, if_neg q2]
          dsimp only
          unfold f_X8_readRule_J102
          rw [if_pos n2]
          exact ⟨_, _, _, rfl, (fun z => by cases z), fun _ => ⟨rfl, rfl⟩⟩
    · rw [if_neg q1, if_neg q1]
      dsimp only
      rw [if_neg n1]
      unfold f_X8_readRule_J102
      rw [if_pos n2]
      exact ⟨_, _, _, rfl, (fun z => by cases z), fun _ => ⟨rfl, rfl⟩⟩
  unfold f_X8_readRule
  rcases kd_cases (B := B) (g := 2) (b := j) (a := rn (ltp B) N j) (by decide) with q | q | q | q | q <;> obtain ⟨q0, q1, q2, q3, q4⟩ := q
  · rw [m_word (k := 8) h l1 l2 (by decide) q1, bnd_s, if_neg nt]
    exact j53 0 (by decide) q0
  · rw [m_word (k := 8) h l1 l2 (by decide) q1, bnd_s, if_pos nf, m_word (k := 9) h l1 l2 (by decide) q2, bnd_s, if_neg nt]
    exact j53 1 (by decide) q0
  · rw [m_word (k := 8) h l1 l2 (by decide) q1, bnd_s, if_pos nf, m_word (k := 9) h l1 l2 (by decide) q2, bnd_s, if_pos nf, m_word (k := 10) h l1 l2 (by decide) q3, bnd_s, if_neg nt]
    exact j53 2 (by decide) q0
  · rw [m_word (k := 8) h l1 l2 (by decide) q1, bnd_s, if_pos nf, m_word (k := 9) h l1 l2 (by decide) q2, bnd_s, if_pos nf, m_word (k := 10) h l1 l2 (by decide) q3, bnd_s, if_pos nf, m_word (k := 11) h l1 l2 (by decide) q4, bnd_s, if_neg nt]
    exact j53 3 (by decide) q0
  · rw [m_word (k := 8) h l1 l2 (by decide) q1, bnd_s, if_pos nf, m_word (k := 9) h l1 l2 (by decide) q2, bnd_s, if_pos nf, m_word (k := 10) h l1 l2 (by decide) q3, bnd_s, if_pos nf, m_word (k := 11) h l1 l2 (by decide) q4, bnd_s, if_pos nf, cmd_bad q0]
    unfold f_X8_readRule_J53
    rw [if_neg n1]
    exact ⟨_, _, _, rfl, (fun z => by cases z), fun _ => ⟨rfl, rfl⟩⟩
