/-! ===== shaped: the model fills its rectangles ===== -/
def Rc3 (x y w n : Nat) : List Nat := (List.range n).map fun h => boxN x y (w + 1) (h + 1)
def Rc2 (x y n : Nat) : List Nat := (List.range n).flatMap fun w => Rc3 x y w (5 - y)
def Rc1 (x n : Nat) : List Nat := (List.range n).flatMap fun y => Rc2 x y (5 - x)
def Rc0 (n : Nat) : List Nat := (List.range n).flatMap fun x => Rc1 x 5
theorem rcs_Rc0 : rcs = Rc0 5 := rfl
theorem Rc3_s (x y w n : Nat) : Rc3 x y w (n + 1) = Rc3 x y w n ++ [boxN x y (w + 1) (n + 1)] := by unfold Rc3; rw [List.range_succ, List.map_append]; rfl
theorem Rc2_s (x y n : Nat) : Rc2 x y (n + 1) = Rc2 x y n ++ Rc3 x y n (5 - y) := by unfold Rc2; rw [List.range_succ, List.flatMap_append, List.flatMap_singleton]
theorem Rc1_s (x n : Nat) : Rc1 x (n + 1) = Rc1 x n ++ Rc2 x n (5 - x) := by unfold Rc1; rw [List.range_succ, List.flatMap_append, List.flatMap_singleton]
theorem Rc0_s (n : Nat) : Rc0 (n + 1) = Rc0 n ++ Rc1 n 5 := by unfold Rc0; rw [List.range_succ, List.flatMap_append, List.flatMap_singleton]
def RcOK (x y : Nat) : Bool := allb (fun w => allb (fun h => !decide (x + w < 5 ∧ y + h < 5) || decide ((Rc0 x ++ Rc1 x y ++ Rc2 x y w ++ Rc3 x y w h).length < 225)) 5) 5
theorem RcOK_tab : ∀ x, x < 5 → ∀ y, y < 5 → RcOK x y = true := by decide +kernel
theorem Rc_len {x y w h : Nat} (h1 : x + w < 5) (h2 : y + h < 5) : (Rc0 x ++ Rc1 x y ++ Rc2 x y w ++ Rc3 x y w h).length < 225 := by
  have t := allb_iff.mp (allb_iff.mp (RcOK_tab x (by omega) y (by omega)) w (by omega)) h (by omega)
  rw [decide_eq_true (show x + w < 5 ∧ y + h < 5 from ⟨h1, h2⟩)] at t
  exact of_decide_eq_true t
def FI (L : List Nat) (p : Int32) (rect : Nat → Int32) : Prop := p = nI L.length ∧ ∀ k v, L[k]? = some v → rect k = nI v
theorem FI.push {L : List Nat} {rect : Nat → Int32} (h : ∀ k v, L[k]? = some v → rect k = nI v) (v : Nat) : FI (L ++ [v]) (nI (L.length + 1)) (upd rect L.length (nI v)) := by
  refine ⟨by rw [List.length_append]; rfl, fun k u hk => ?_⟩
  by_cases z : k < L.length
  · rw [List.getElem?_append_left z] at hk
    rw [upd_ne (by omega)]
    exact h k u hk
  · rw [List.getElem?_append_right (by omega)] at hk
    obtain ⟨hl, _⟩ := List.getElem?_eq_some_iff.mp hk
    have z2 : k = L.length := by
      have : k - L.length < 1 := hl
      omega
    rw [z2, Nat.sub_self] at hk
    have ev : v = u := Option.some.inj (show some v = some u from hk)
    rw [z2, upd_same, ev]
theorem fill3 {has : Int32} {x y w : Nat} (hx : x < 5) (hy : y < 5) (hw : x + w < 5) {L : List Nat} (hL : ∀ h, y + h < 5 → (L ++ Rc3 x y w h).length < 225) {p : Int32} {rect : Nat → Int32} (h0 : FI L p rect) : OK (lp (fun q => f_X8_rectangles_S37 has (nI x) (nI y) (nI (w + 1)) q.1 q.2.1 q.2.2) (p, (1 : Int32), rect)) (fun r => FI (L ++ Rc3 x y w (5 - y)) r.1 r.2) := by
  refine ok_lp (fun n s => s.2.1 = nI (n + 1) ∧ FI (L ++ Rc3 x y w n) s.1 s.2.2) (5 - y) (fun n s hn hJ => Or.inl ?_) (fun s hJ => ?_) ⟨rfl, by rw [show Rc3 x y w 0 = [] from rfl, List.append_nil]; exact h0⟩
  · obtain ⟨e, ep, hf⟩ := hJ
    unfold f_X8_rectangles_S37
    rw [e, ep, nI_add, if_neg (show ¬ (5 : Int32) < nI (y + (n + 1)) from nI_nlt (a := 5) (by omega) (by decide)), m_partOf hx hy (by omega) (by omega), bnd_s, chk_n (hL n (by omega)) (by decide), nm_s, nI_clamp (by have := hL n (by omega); omega), nm_s, nm_s, nI_1, nI_1]
    refine ⟨_, rfl, rfl, ?_⟩
    rw [Rc3_s, ← List.append_assoc, ← nI_boxN (show BX x y (w + 1) (n + 1) from ⟨by omega, by omega, by omega, by omega⟩)]
    exact FI.push hf _
  · obtain ⟨e, hf⟩ := hJ
    unfold f_X8_rectangles_S37
    rw [e, nI_add, if_pos (show (5 : Int32) < nI (y + (5 - y + 1)) from nI_lt (a := 5) (by omega) (by omega))]
    exact ⟨_, rfl, hf⟩
theorem fill2 {has : Int32} {x y : Nat} (hx : x < 5) (hy : y < 5) {L : List Nat} (hL : ∀ w h, x + w < 5 → y + h < 5 → (L ++ Rc2 x y w ++ Rc3 x y w h).length < 225) {p : Int32} {rect : Nat → Int32} (h0 : FI L p rect) : OK (lp (fun q => f_X8_rectangles_S26 has (nI x) (nI y) q.1 q.2.1 q.2.2) (p, (1 : Int32), rect)) (fun r => FI (L ++ Rc2 x y (5 - x)) r.1 r.2) := by
  refine ok_lp (fun n s => s.2.1 = nI (n + 1) ∧ FI (L ++ Rc2 x y n) s.1 s.2.2) (5 - x) (fun n s hn hJ => Or.inl ?_) (fun s hJ => ?_) ⟨rfl, by rw [show Rc2 x y 0 = [] from rfl, List.append_nil]; exact h0⟩
  · obtain ⟨e, hf⟩ := hJ
    unfold f_X8_rectangles_S26 f_X8_rectangles_J37
    rw [e, nI_add, if_neg (show ¬ (5 : Int32) < nI (x + (n + 1)) from nI_nlt (a := 5) (by omega) (by decide))]
    obtain ⟨r, er, hr⟩ := fill3 (has := has) hx hy (w := n) (by omega) (fun h hh => hL n h (by omega) hh) hf
    rw [er, bnd_s]
    unfold f_X8_rectangles_J69
    rw [nm_s, nI_1]
    refine ⟨_, rfl, rfl, ?_⟩
    rw [Rc2_s, ← List.append_assoc]
    exact hr
  · obtain ⟨e, hf⟩ := hJ
    unfold f_X8_rectangles_S26
    rw [e, nI_add, if_pos (show (5 : Int32) < nI (x + (5 - x + 1)) from nI_lt (a := 5) (by omega) (by omega))]
    exact ⟨_, rfl, hf⟩
theorem fill1 {has : Int32} {x : Nat} (hx : x < 5) {L : List Nat} (hL : ∀ y w h, y < 5 → x + w < 5 → y + h < 5 → (L ++ Rc1 x y ++ Rc2 x y w ++ Rc3 x y w h).length < 225) {p : Int32} {rect : Nat → Int32} (h0 : FI L p rect) : OK (lp (fun q => f_X8_rectangles_S18 has (nI x) q.1 q.2.1 q.2.2) (p, (0 : Int32), rect)) (fun r => FI (L ++ Rc1 x 5) r.1 r.2) := by
  refine ok_lp (fun n s => s.2.1 = nI n ∧ FI (L ++ Rc1 x n) s.1 s.2.2) 5 (fun n s hn hJ => Or.inl ?_) (fun s hJ => ?_) ⟨rfl, by rw [show Rc1 x 0 = [] from rfl, List.append_nil]; exact h0⟩
  · obtain ⟨e, hf⟩ := hJ
    unfold f_X8_rectangles_S18 f_X8_rectangles_J26
    rw [e, if_neg (ge_5 hn)]
    obtain ⟨r, er, hr⟩ := fill2 (has := has) hx hn (fun w h hw hh => hL n w h hn hw hh) hf
    rw [er, bnd_s]
    unfold f_X8_rectangles_J75
    rw [nm_s, nI_1]
    refine ⟨_, rfl, rfl, ?_⟩
    rw [Rc1_s, ← List.append_assoc]
    exact hr
  · obtain ⟨e, hf⟩ := hJ
    unfold f_X8_rectangles_S18
    rw [e, if_pos gl_5]
    exact ⟨_, rfl, hf⟩
theorem fill0 {rect : Nat → Int32} : OK (lp (fun q => f_X8_rectangles_S4 (0 : Int32) q.1 q.2.1 q.2.2) ((0 : Int32), (0 : Int32), rect)) (fun r => ∀ k v, (Rc0 5)[k]? = some v → r k = nI v) := by
  refine ok_lp (fun n s => s.2.1 = nI n ∧ FI (Rc0 n) s.1 s.2.2) 5 (fun n s hn hJ => Or.inl ?_) (fun s hJ => ?_) ⟨rfl, rfl, fun k v hk => absurd (show ([] : List Nat)[k]? = some v from hk) (by simp)⟩
  · obtain ⟨e, hf⟩ := hJ
    unfold f_X8_rectangles_S4 f_X8_rectangles_J18
    rw [e, if_neg (ge_5 hn), if_pos (show (0 : Int32) = 0 from rfl)]
    obtain ⟨r, er, hr⟩ := fill1 (has := 0) hn (fun y w h hy hw hh => Rc_len hw hh) hf
    rw [er, bnd_s]
    unfold f_X8_rectangles_J81
    rw [nm_s, nI_1]
    refine ⟨_, rfl, rfl, ?_⟩
    rw [Rc0_s]
    exact hr
  · obtain ⟨e, hf⟩ := hJ
    unfold f_X8_rectangles_S4
    rw [e, if_pos gl_5]
    exact ⟨_, rfl, hf.2⟩
theorem m_rects {rect : Nat → Int32} {has : Int32} (h : RcO rect has) : ∃ rect', f_X8_rectangles rect has = some (rect', 1) ∧ ∀ k, k < 225 → rect' k = nI (rcs.getD k 0) := by
  unfold f_X8_rectangles f_X8_rectangles_J4 f_X8_rectangles_J87
  rcases h with rfl | ⟨rfl, hR⟩
  · obtain ⟨r, er, hr⟩ := fill0 (rect := rect)
    rw [er, bnd_s]
    refine ⟨r, rfl, fun k hk => ?_⟩
    obtain ⟨v, hv⟩ : ∃ v, rcs[k]? = some v := ⟨_, List.getElem?_eq_getElem (by rw [rcs_rq, List.length_map, rq_len]; exact hk)⟩
    rw [List.getD_eq_getElem?_getD, hv]
    rw [rcs_Rc0] at hv
    exact hr k v hv
  · refine ⟨rect, ?_, hR⟩
    have e : lp (fun q => f_X8_rectangles_S4 (1 : Int32) q.1 q.2.1 q.2.2) ((0 : Int32), (0 : Int32), rect) = some rect := lp_exit (by
      show f_X8_rectangles_S4 (1 : Int32) (0 : Int32) (0 : Int32) rect = _
      unfold f_X8_rectangles_S4
      rw [if_neg (show ¬ (5 : Int32) ≤ 0 by decide), if_neg (show ¬ (1 : Int32) = 0 by decide)])
    rw [e, bnd_s]
