/-! ===== where a sheet stands, moves ===== -/
def SL (f : Nat → Int32) (x r : Int32) : Prop := (r = -1 ∧ ∀ l, l < 4 → f l ≠ x) ∨ ∃ l, l < 4 ∧ r = nI l ∧ f l = x
def sof (f : Nat → Int32) (x : Int32) : Int32 := if f 0 = x then nI 0 else if f 1 = x then nI 1 else if f 2 = x then nI 2 else if f 3 = x then nI 3 else -1
theorem l4 {P : Nat → Prop} (h0 : P 0) (h1 : P 1) (h2 : P 2) (h3 : P 3) : ∀ l, l < 4 → P l := fun l hl => by
  rcases (show l = 0 ∨ l = 1 ∨ l = 2 ∨ l = 3 by omega) with rfl | rfl | rfl | rfl <;> assumption
theorem sof_SL (f : Nat → Int32) (x : Int32) : SL f x (sof f x) := by
  unfold sof
  by_cases h0 : f 0 = x
  · rw [if_pos h0]; exact Or.inr ⟨0, by decide, rfl, h0⟩
  by_cases h1 : f 1 = x
  · rw [if_neg h0, if_pos h1]; exact Or.inr ⟨1, by decide, rfl, h1⟩
  by_cases h2 : f 2 = x
  · rw [if_neg h0, if_neg h1, if_pos h2]; exact Or.inr ⟨2, by decide, rfl, h2⟩
  by_cases h3 : f 3 = x
  · rw [if_neg h0, if_neg h1, if_neg h2, if_pos h3]; exact Or.inr ⟨3, by decide, rfl, h3⟩
  · rw [if_neg h0, if_neg h1, if_neg h2, if_neg h3]; exact Or.inl ⟨rfl, l4 h0 h1 h2 h3⟩
theorem SL.one {f : Nat → Int32} {x r q : Int32} (hd : ∀ l k, l < 4 → k < 4 → f l = f k → f l ≠ -1 → l = k) (hx : x ≠ -1) (h : SL f x r) (g : SL f x q) : r = q := by
  rcases h with ⟨rfl, h⟩ | ⟨l, hl, rfl, h⟩
  · rcases g with ⟨rfl, _⟩ | ⟨k, hk, rfl, g⟩
    · rfl
    · exact absurd g (h k hk)
  · rcases g with ⟨rfl, g⟩ | ⟨k, hk, rfl, g⟩
    · exact absurd h (g l hl)
    · rw [hd l k hl hk (h.trans g.symm) (by rw [h]; exact hx)]
theorem nI_m1 {n : Nat} (h : n < 2 ^ 31) : nI n ≠ -1 := fun e => by
  have := congrArg Int32.toInt e
  rw [nI_toInt h] at this
  have z : (-1 : Int32).toInt = -1 := rfl
  omega
theorem sof_at {f : Nat → Int32} {x r : Int32} (hd : ∀ l k, l < 4 → k < 4 → f l = f k → f l ≠ -1 → l = k) (hx : x ≠ -1) (h : SL f x r) : r = sof f x := SL.one hd hx h (sof_SL f x)
theorem sof_cong {f g : Nat → Int32} (h : ∀ l, l < 4 → f l = g l) (x : Int32) : sof f x = sof g x := by
  unfold sof; rw [h 0 (by decide), h 1 (by decide), h 2 (by decide), h 3 (by decide)]
theorem Set4.cong {ns nl : Nat} {f g : Nat → Int32} (h : ∀ l, l < 4 → f l = g l) (hf : Set4 ns nl g) : Set4 ns nl f := ⟨fun l hl => by rw [h l hl]; exact hf.1 l hl, fun l k hl hk => by rw [h l hl, h k hk]; exact hf.2 l k hl hk⟩
theorem Set4.none {ns nl s : Nat} {f : Nat → Int32} (h : Set4 ns nl f) (h1 : ns ≤ s) (h2 : s < 100) (h3 : ns < 100) : sof f (nI s) = -1 := by
  rcases sof_SL f (nI s) with ⟨e, _⟩ | ⟨l, hl, _, e⟩
  · exact e
  · exfalso
    rcases h.1 l hl with q | ⟨_, t, ht, q⟩
    · exact nI_m1 (n := s) (by omega) (e.symm.trans q)
    · have := (nI_eq (a := s) (b := t) (by omega) (by omega)).mp (e.symm.trans q)
      omega
theorem c_slotOf {pa : Nat → Int32} {pn a : Nat} {x : Int32} (ha : a + 4 ≤ pn) (hp : pn < 1000) : OK (f_X4_slotOf pa pn (nI a) x) (SL (fun l => pa (a + l)) x) := by
  unfold f_X4_slotOf f_X4_slotOf_J2
  refine ok_bnd (P := Sum.elim (fun z => ∃ l, l < 4 ∧ z = nI l ∧ pa (a + l) = x) (fun _ => ∀ l, l < 4 → pa (a + l) ≠ x)) (ok_lp (fun k s => s = nI k ∧ ∀ l, l < k → pa (a + l) ≠ x) 4 (fun k s hk hI => ?_) (fun s hI => ?_) ⟨rfl, fun l hl => absurd hl (Nat.not_lt_zero l)⟩) (fun z hz => ?_)
  · obtain ⟨rfl, h⟩ := hI
    unfold f_X4_slotOf_S2
    rw [if_neg (ge_4 hk), nI_add, chk_n (by omega) (by omega), nI_clamp (by omega)]
    by_cases q : pa (a + k) = x
    · rw [if_pos q]
      exact Or.inr ⟨_, rfl, k, hk, rfl, q⟩
    · rw [if_neg q]
      exact Or.inl ⟨_, rfl, nI_1 k, fun l hl => by
        rcases Nat.lt_succ_iff_lt_or_eq.mp hl with z | rfl
        · exact h l z
        · exact q⟩
  · obtain ⟨rfl, h⟩ := hI
    exact ⟨_, rfl, h⟩
  · cases z with
    | inl z => exact ⟨_, rfl, Or.inr hz⟩
    | inr z => exact ⟨_, rfl, Or.inl ⟨rfl, hz⟩⟩
theorem m_slotNow {w f : Nat → Int32} {x : Int32} {ns nl : Nat} (h1 : w 1 = nI nl) (h4 : nl ≤ 4) (hf : Set4 ns nl f) (hx : x ≠ -1) : f_X8_slotNow w f x = some (sof f x) := by
  refine OK.eq (OK.mono (P := SL f x) ?_ (fun a h => sof_at hf.2 hx h))
  unfold f_X8_slotNow f_X8_slotNow_J4
  refine ok_bnd (P := SL f x) (ok_lp (fun k s => s.2 = nI k ∧ ((s.1 = -1 ∧ ∀ l, l < k → f l ≠ x) ∨ ∃ l, l < k ∧ s.1 = nI l ∧ f l = x)) nl (fun k s hk hI => ?_) (fun s hI => ?_) ⟨rfl, Or.inl ⟨rfl, fun l hl => absurd hl (Nat.not_lt_zero l)⟩⟩) (fun z hz => ⟨_, rfl, hz⟩)
  · obtain ⟨e, h⟩ := hI
    unfold f_X8_slotNow_S4
    rw [m_slots, bnd_s, h1, e, if_neg (nI_ge hk (by omega)), chk_n (by omega) (by decide), nI_clamp (by omega)]
    by_cases q : f k = x
    · rw [if_pos q]
      exact Or.inl ⟨_, rfl, nI_1 k, Or.inr ⟨k, by omega, rfl, q⟩⟩
    · rw [if_neg q]
      refine Or.inl ⟨_, rfl, nI_1 k, ?_⟩
      rcases h with ⟨e2, h⟩ | ⟨l, hl, e2, h⟩
      · exact Or.inl ⟨e2, fun l hl => by
          rcases Nat.lt_succ_iff_lt_or_eq.mp hl with z | rfl
          · exact h l z
          · exact q⟩
      · exact Or.inr ⟨l, by omega, e2, h⟩
  · obtain ⟨e, h⟩ := hI
    unfold f_X8_slotNow_S4
    rw [m_slots, bnd_s, h1, e, if_pos (nI_le (Nat.le_refl _) (by omega))]
    refine ⟨_, rfl, ?_⟩
    rcases h with ⟨e2, h⟩ | ⟨l, hl, e2, h⟩
    · refine Or.inl ⟨e2, fun l hl => ?_⟩
      by_cases z : l < nl
      · exact h l z
      · rcases hf.1 l hl with q | ⟨q, _⟩
        · rw [q]; exact hx.symm
        · exact absurd q z
    · exact Or.inr ⟨l, by omega, e2, h⟩
def mvs (f g : Nat → Int32) : Nat → Int32
  | 0 => 0
  | n + 1 => mvs f g n + (if sof f (nI n) = sof g (nI n) then 0 else 2)
theorem mvs_ext {ns nl nl' : Nat} {f g : Nat → Int32} (hf : Set4 ns nl f) (hg : Set4 ns nl' g) : ∀ d, ns + d ≤ 6 → mvs f g (ns + d) = mvs f g ns := by
  intro d
  induction d with
  | zero => intro _; rfl
  | succ d ih =>
    intro h
    show mvs f g (ns + d) + (if sof f (nI (ns + d)) = sof g (nI (ns + d)) then 0 else 2) = _
    rw [hf.none (s := ns + d) (by omega) (by omega) (by omega), hg.none (s := ns + d) (by omega) (by omega) (by omega), if_pos rfl, ih (by omega)]
    exact Int32.add_zero _
theorem c_movesBetween {pa pb : Nat → Int32} {pn qn a b ns nl : Nat} (ha : a + 4 ≤ pn) (hp : pn < 1000) (hb : b + 4 ≤ qn) (hq : qn < 1000) (hf : Set4 ns nl (fun l => pa (a + l))) (hg : Set4 ns nl (fun l => pb (b + l))) :
    f_X4_movesBetween pa pn pb qn (nI a) (nI b) = some (mvs (fun l => pa (a + l)) (fun l => pb (b + l)) 6) := by
  unfold f_X4_movesBetween f_X4_movesBetween_J6
  refine (bnd_eq (lp_run' (fun k => (mvs (fun l => pa (a + l)) (fun l => pb (b + l)) k, nI k)) (r := mvs (fun l => pa (a + l)) (fun l => pb (b + l)) 6) 6 rfl (fun k hk => ?_) rfl)).trans rfl
  · have e1 : f_X4_slotOf pa pn (nI a) (nI k) = some (sof (fun l => pa (a + l)) (nI k)) := OK.eq ((c_slotOf ha hp).mono (fun r h => sof_at hf.2 (nI_m1 (by omega)) h))
    have e2 : f_X4_slotOf pb qn (nI b) (nI k) = some (sof (fun l => pb (b + l)) (nI k)) := OK.eq ((c_slotOf hb hq).mono (fun r h => sof_at hg.2 (nI_m1 (by omega)) h))
    show f_X4_movesBetween_S6 pa pn pb qn (nI a) (nI b) (mvs _ _ k) (nI k) = _
    unfold f_X4_movesBetween_S6
    rw [if_neg (ge_6 hk), e1, bnd_s, e2, bnd_s]
    by_cases q : sof (fun l => pa (a + l)) (nI k) = sof (fun l => pb (b + l)) (nI k)
    · rw [if_pos q]
      show some (Sum.inl (mvs _ _ k, nI k + 1)) = some (Sum.inl (mvs _ _ k + _, nI (k + 1)))
      rw [if_pos q, nI_1, Int32.add_zero]
    · rw [if_neg q]
      show some (Sum.inl (mvs _ _ k + 2, nI k + 1)) = some (Sum.inl (mvs _ _ k + _, nI (k + 1)))
      rw [if_neg q, nI_1]
theorem c_frameMoves {rows : Nat → Int32} {ns nl a b : Nat} (ha : a < 12) (hb : b < 12) (hf : Set4 ns nl (fun l => rows (4 * a + l))) (hg : Set4 ns nl (fun l => rows (4 * b + l))) :
    f_X4_frameMoves rows (nI a) (nI b) = some (mvs (fun l => rows (4 * a + l)) (fun l => rows (4 * b + l)) 6) := by
  unfold f_X4_frameMoves
  rw [show nI a * (4 : Int32) = nI (4 * a) by rw [show (4 : Int32) = nI 4 from rfl, pk_mul, Nat.mul_comm], show nI b * (4 : Int32) = nI (4 * b) by rw [show (4 : Int32) = nI 4 from rfl, pk_mul, Nat.mul_comm], c_movesBetween (by omega) (by omega) (by omega) (by omega) hf hg]
  rfl
theorem m_takesFrame {w st : Nat → Int32} {f : Nat} (hf : f < 12) : OK (f_X8_takesFrame w st (nI f)) (fun u => ∀ l, l < 4 → u l = w (912 + 4 * f + l)) := by
  unfold f_X8_takesFrame f_X8_takesFrame_J2
  refine ok_bnd (P := fun u => ∀ l, l < 4 → u l = w (912 + 4 * f + l)) (ok_lp (fun k s => s.1 = nI k ∧ ∀ l, l < k → s.2 l = w (912 + 4 * f + l)) 4 (fun k s hk hI => Or.inl ?_) (fun s hI => ?_) ⟨rfl, fun l hl => absurd hl (Nat.not_lt_zero l)⟩) (fun z hz => ⟨_, rfl, hz⟩)
  · obtain ⟨e, h⟩ := hI
    unfold f_X8_takesFrame_S2 f_X8_inFrame
    rw [e, if_neg (ge_4 hk), show ((912 : Int32) + (4 : Int32) * nI f) + nI k = nI (912 + 4 * f + k) by rw [show (4 : Int32) = nI 4 from rfl, pk_mul, show (912 : Int32) = nI 912 from rfl, nI_add, nI_add], chk_n (by omega) (by decide), bnd_s, chk_n (by omega) (by decide), nI_clamp (by omega), nI_clamp (by omega)]
    refine ⟨_, rfl, nI_1 k, fun l hl => ?_⟩
    show upd s.2 k _ l = _
    rcases Nat.lt_succ_iff_lt_or_eq.mp hl with z | rfl
    · rw [upd_ne (by omega)]; exact h l z
    · rw [upd_same]
  · obtain ⟨e, h⟩ := hI
    unfold f_X8_takesFrame_S2
    rw [e]
    exact ⟨_, rfl, h⟩
theorem m_takes {w st : Nat → Int32} : OK (f_X8_takes w st) (fun u => ∀ l, l < 4 → u l = w (44 + l)) := by
  unfold f_X8_takes f_X8_takes_J2
  refine ok_bnd (P := fun u => ∀ l, l < 4 → u l = w (44 + l)) (ok_lp (fun k s => s.1 = nI k ∧ ∀ l, l < k → s.2 l = w (44 + l)) 4 (fun k s hk hI => Or.inl ?_) (fun s hI => ?_) ⟨rfl, fun l hl => absurd hl (Nat.not_lt_zero l)⟩) (fun z hz => ⟨_, rfl, hz⟩)
  · obtain ⟨e, h⟩ := hI
    unfold f_X8_takes_S2
    rw [e, if_neg (ge_4 hk), m_inSlot hk, bnd_s, chk_n (by omega) (by decide), nI_clamp (by omega)]
    refine ⟨_, rfl, nI_1 k, fun l hl => ?_⟩
    show upd s.2 k _ l = _
    rcases Nat.lt_succ_iff_lt_or_eq.mp hl with z | rfl
    · rw [upd_ne (by omega)]; exact h l z
    · rw [upd_same]
  · obtain ⟨e, h⟩ := hI
    unfold f_X8_takes_S2
    rw [e]
    exact ⟨_, rfl, h⟩
theorem m_places {w st pl : Nat → Int32} {ns nl : Nat} (h1 : w 1 = nI nl) (h4 : nl ≤ 4) (hf : Set4 ns nl st) : OK (f_X8_places w st pl) (fun u => ∀ s, s < 6 → u s = sof st (nI s)) := by
  unfold f_X8_places f_X8_places_J2
  refine ok_bnd (P := fun u => ∀ s, s < 6 → u s = sof st (nI s)) (ok_lp (fun k s => s.1 = nI k ∧ ∀ l, l < k → s.2 l = sof st (nI l)) 6 (fun k s hk hI => Or.inl ?_) (fun s hI => ?_) ⟨rfl, fun l hl => absurd hl (Nat.not_lt_zero l)⟩) (fun z hz => ⟨_, rfl, hz⟩)
  · obtain ⟨e, h⟩ := hI
    unfold f_X8_places_S2
    rw [e, if_neg (ge_6 hk), m_slotNow h1 h4 hf (nI_m1 (by omega)), bnd_s, chk_n (by omega) (by decide), nI_clamp (by omega)]
    refine ⟨_, rfl, nI_1 k, fun l hl => ?_⟩
    show upd s.2 k _ l = _
    rcases Nat.lt_succ_iff_lt_or_eq.mp hl with z | rfl
    · rw [upd_ne (by omega)]; exact h l z
    · rw [upd_same]
  · obtain ⟨e, h⟩ := hI
    unfold f_X8_places_S2
    rw [e]
    exact ⟨_, rfl, h⟩
theorem m_moved {w st pl f : Nat → Int32} {ns nl : Nat} (h0 : w 0 = nI ns) (h6 : ns ≤ 6) (h1 : w 1 = nI nl) (h4 : nl ≤ 4) (hf : Set4 ns nl st) (hp : ∀ s, s < 6 → pl s = sof f (nI s)) : f_X8_moved w st pl = some (mvs f st ns) := by
  unfold f_X8_moved f_X8_moved_J4
  refine (bnd_eq (lp_run' (fun k => (mvs f st k, nI k)) (r := mvs f st ns) ns rfl (fun k hk => ?_) ?_)).trans rfl
  · show f_X8_moved_S4 w st pl (mvs f st k) (nI k) = _
    unfold f_X8_moved_S4
    rw [m_sheets, bnd_s, h0, if_neg (nI_ge hk (by omega)), chk_n (by omega) (by decide), m_slotNow h1 h4 hf (nI_m1 (by omega)), bnd_s, nI_clamp (by omega), hp k (by omega)]
    by_cases q : sof f (nI k) = sof st (nI k)
    · rw [if_pos q]
      show some (Sum.inl (mvs f st k + 0, nI k + 1)) = some (Sum.inl (mvs f st k + _, nI (k + 1)))
      rw [if_pos q, nI_1]
    · rw [if_neg q]
      show some (Sum.inl (mvs f st k + 2, nI k + 1)) = some (Sum.inl (mvs f st k + _, nI (k + 1)))
      rw [if_neg q, nI_1]
  · show f_X8_moved_S4 w st pl (mvs f st ns) (nI ns) = _
    unfold f_X8_moved_S4
    rw [m_sheets, bnd_s, h0, if_pos (nI_le (Nat.le_refl _) (by omega))]
theorem mvs_cong {f g f' g' : Nat → Int32} (h : ∀ l, l < 4 → f l = f' l) (h' : ∀ l, l < 4 → g l = g' l) : ∀ n, mvs f g n = mvs f' g' n := by
  intro n
  induction n with
  | zero => rfl
  | succ n ih =>
    show mvs f g n + _ = mvs f' g' n + _
    rw [ih, sof_cong h, sof_cong h']
theorem m_movesOf {w st pl rows : Nat → Int32} {ns nl nf a b : Nat} (h0 : w 0 = nI ns) (h6 : ns ≤ 6) (h1 : w 1 = nI nl) (h4 : nl ≤ 4) (hF : FrO ns nl nf rows w) (h12 : nf ≤ 12) (ha : a < nf) (hb : b < nf) :
    OK (f_X8_movesOf w st pl (nI a) (nI b)) (fun u => u.1 = mvs (fun l => rows (4 * a + l)) (fun l => rows (4 * b + l)) 6) := by
  unfold f_X8_movesOf
  obtain ⟨fa, ea⟩ := hF a ha
  obtain ⟨fb, eb⟩ := hF b hb
  refine ok_bnd (m_takesFrame (by omega)) (fun u1 g1 => ?_)
  have g1' : ∀ l, l < 4 → u1 l = rows (4 * a + l) := fun l hl => (g1 l hl).trans (ea l hl)
  refine ok_bnd (m_places h1 h4 (fa.cong g1')) (fun u2 g2 => ?_)
  refine ok_bnd (m_takesFrame (by omega)) (fun u3 g3 => ?_)
  have g3' : ∀ l, l < 4 → u3 l = rows (4 * b + l) := fun l hl => (g3 l hl).trans (eb l hl)
  rw [m_moved h0 h6 h1 h4 (fb.cong g3') g2, bnd_s]
  refine ⟨_, rfl, ?_⟩
  show mvs u1 u3 ns = _
  rw [mvs_cong g1' g3', show (6 : Nat) = ns + (6 - ns) by omega, mvs_ext (nl := nl) (nl' := nl) fa fb _ (by omega)]
theorem t_moves : T_moves Inv := by
  intro ls_hasImage tp_bytes tp_length tp_fault nw_sheets nw_cells nw_pasted nw_masks nw_uses nw_slots nw_slotK nw_slotX nw_slotY nw_setting nw_scenes nw_wishes nw_frames nw_frameRows nw_seen nw_seenRows nw_width nw_hands kp_sheets kp_cells kp_pasted kp_masks kp_uses kp_slots kp_slotK kp_slotX kp_slotY kp_setting kp_scenes kp_wishes kp_frames kp_frameRows kp_seen kp_seenRows kp_width kp_hands nr_size nr_rows kr_size kr_rows m_thrown m_world m_image m_hasImage m_tape m_taped m_faultAt m_rectangle m_hasRectangles m_setting m_place hI a0 a1
  obtain ⟨ns, nl, nc, nf, nk, nr, ⟨b1, b2, b3, b4, b5, b6⟩, ⟨rfl, rfl, rfl, rfl, rfl, rfl⟩, ⟨w0, w1, w2, w3, w4, w5, w6, w7⟩, hwd, hSh, hSl, hIn, hSc, hFr, hSe, hRu⟩ := hI.1
  have no : ∀ {a b : Int32}, (a < 0 ∨ nI nf ≤ a) ∨ (b < 0 ∨ nI nf ≤ b) → f_X7_moves (nI nf) nw_frameRows a b = some (.inr (2, ())) ∧ f_X8_moves m_thrown m_world m_setting m_place a b = some (0, 1, m_setting, m_place) := by
    intro a b h
    unfold f_X7_moves f_X8_moves f_X8_moves_J22 f_X8_moves_J27
    rcases pk_ix a (n := nf) (by omega) with q | q | ⟨j, hj, rfl⟩
    · rw [c_needFrame_no (by omega) (Or.inl q), m_noFrame_no b4 w3 (Or.inl q), xb_r, bnd_s, if_neg (by decide), m_thr1]; exact ⟨rfl, rfl⟩
    · rw [c_needFrame_no (by omega) (Or.inr q), m_noFrame_no b4 w3 (Or.inr q), xb_r, bnd_s, if_neg (by decide), m_thr1]; exact ⟨rfl, rfl⟩
    · have h2 : b < 0 ∨ nI nf ≤ b := by
        rcases h with h | h
        · exfalso
          rcases h with h | h
          · exact nI_pos (by omega) h
          · exact nI_ge hj (by omega) h
        · exact h
      rw [c_needFrame_yes (by omega) hj, m_noFrame_yes b4 w3 hj, xb_l, c_needFrame_no (by omega) h2, xb_r, bnd_s, if_pos rfl, m_noFrame_no b4 w3 h2, bnd_s, if_neg (by decide), m_thr1]; exact ⟨rfl, rfl⟩
  rcases pk_ix a0 (n := nf) (by omega) with h | h | ⟨j, hj, rfl⟩
  · exact Or.inr ⟨_, _, (no (Or.inl (Or.inl h))).1, (no (Or.inl (Or.inl h))).2, rfl, hI⟩
  · exact Or.inr ⟨_, _, (no (Or.inl (Or.inr h))).1, (no (Or.inl (Or.inr h))).2, rfl, hI⟩
  rcases pk_ix a1 (n := nf) (by omega) with h | h | ⟨k, hk, rfl⟩
  · exact Or.inr ⟨_, _, (no (Or.inr (Or.inl h))).1, (no (Or.inr (Or.inl h))).2, rfl, hI⟩
  · exact Or.inr ⟨_, _, (no (Or.inr (Or.inr h))).1, (no (Or.inr (Or.inr h))).2, rfl, hI⟩
  obtain ⟨u, e, hu⟩ := m_movesOf (st := m_setting) (pl := m_place) w0 b1 w1 b2 hFr b4 hj hk
  refine Or.inl ⟨mvs (fun l => nw_frameRows (4 * j + l)) (fun l => nw_frameRows (4 * k + l)) 6, (u.1, 0, u.2.1, u.2.2), ?_, ?_, rfl, hu.symm, hI⟩
  · unfold f_X7_moves
    rw [c_needFrame_yes (by omega) hj, xb_l, c_needFrame_yes (by omega) hk, xb_l, c_frameMoves (by omega) (by omega) (hFr j hj).1 (hFr k hk).1]
    rfl
  · unfold f_X8_moves f_X8_moves_J27
    rw [m_noFrame_yes b4 w3 hj, bnd_s, if_pos rfl, m_noFrame_yes b4 w3 hk, bnd_s, if_pos rfl, m_thr0, bnd_s, if_pos rfl, e]
    rfl
theorem t_row : T_row Inv := by
  intro ls_hasImage tp_bytes tp_length tp_fault nw_sheets nw_cells nw_pasted nw_masks nw_uses nw_slots nw_slotK nw_slotX nw_slotY nw_setting nw_scenes nw_wishes nw_frames nw_frameRows nw_seen nw_seenRows nw_width nw_hands kp_sheets kp_cells kp_pasted kp_masks kp_uses kp_slots kp_slotK kp_slotX kp_slotY kp_setting kp_scenes kp_wishes kp_frames kp_frameRows kp_seen kp_seenRows kp_width kp_hands nr_size nr_rows kr_size kr_rows m_thrown m_world m_image m_hasImage m_tape m_taped m_faultAt m_rectangle m_hasRectangles m_setting m_place hI
  obtain ⟨ns, nl, nc, nf, nk, nr, ⟨b1, b2, b3, b4, b5, b6⟩, ⟨rfl, rfl, rfl, rfl, rfl, rfl⟩, ⟨w0, w1, w2, w3, w4, w5, w6, w7⟩, hwd, hSh, hSl, hIn, hSc, hFr, hSe, hRu⟩ := hI.1
  have key : ∀ d k : Nat, k + d = nf → 1 ≤ k → ∀ (x : Int32) (st pl : Nat → Int32), ∃ r st' pl', lp (fun q => f_X7_row_S4 (nI nf) nw_frameRows q.1 q.2) (x, nI k) = some r ∧ lp (fun q => f_X8_row_S9 m_world 0 q.1 q.2.1 q.2.2.1 q.2.2.2) (x, nI k, st, pl) = some (r, st', pl') := by
    intro d
    induction d with
    | zero =>
      intro k hk h1 x st pl
      obtain rfl : k = nf := by omega
      refine ⟨x, st, pl, lp_exit ?_, lp_exit ?_⟩
      · show f_X7_row_S4 (nI k) nw_frameRows x (nI k) = _
        unfold f_X7_row_S4
        rw [if_pos (Int32.le_refl _)]
      · show f_X8_row_S9 m_world 0 x (nI k) st pl = _
        unfold f_X8_row_S9
        rw [ck3, tn3, w3, if_pos (Int32.le_refl _)]
    | succ d ih =>
      intro k hk h1 x st pl
      obtain ⟨u, e, hu⟩ := m_movesOf (st := st) (pl := pl) (a := k - 1) (b := k) w0 b1 w1 b2 hFr b4 (by omega) (by omega)
      obtain ⟨r, st', pl', g1, g2⟩ := ih (k + 1) (by omega) (by omega) (x + u.1) u.2.1 u.2.2
      have ek : nI k - 1 = nI (k - 1) := pk_sub (b := 1) h1
      refine ⟨r, st', pl', lp_go ?_ g1, lp_go ?_ g2⟩
      · show f_X7_row_S4 (nI nf) nw_frameRows x (nI k) = _
        unfold f_X7_row_S4
        rw [if_neg (nI_ge (by omega) (by omega)), ek, c_frameMoves (by omega) (by omega) (hFr (k - 1) (by omega)).1 (hFr k (by omega)).1, bnd_s, nm_s, nm_s, ← hu, nI_1]
      · show f_X8_row_S9 m_world 0 x (nI k) st pl = _
        unfold f_X8_row_S9
        rw [ck3, tn3, w3, if_neg (nI_ge (by omega) (by omega)), ek, e, bnd_s, nm_s, nm_s, nI_1]
  by_cases h : 1 ≤ nf
  · obtain ⟨r, st', pl', g1, g2⟩ := key (nf - 1) 1 (by omega) (by omega) 0 m_setting m_place
    refine ⟨r, (r, 0, st', pl'), ?_, ?_, rfl, hI⟩
    · unfold f_X7_row f_X7_row_J4
      rw [show (1 : Int32) = nI 1 from rfl, g1]
      rfl
    · unfold f_X8_row f_X8_row_J9
      rw [show (1 : Int32) = nI 1 from rfl, g2]
      rfl
  · obtain rfl : nf = 0 := by omega
    refine ⟨0, (0, 0, m_setting, m_place), ?_, ?_, rfl, hI⟩
    · unfold f_X7_row f_X7_row_J4
      rw [lp_exit (r := (0 : Int32)) rfl]
      rfl
    · unfold f_X8_row f_X8_row_J9
      rw [lp_exit (r := ((0 : Int32), m_setting, m_place)) (by
        show f_X8_row_S9 m_world 0 0 1 m_setting m_place = _
        unfold f_X8_row_S9
        rw [ck3, tn3, w3]
        rfl)]
      rfl
