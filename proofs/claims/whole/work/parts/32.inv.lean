/-! ===== own rows: how the class's state and the model's belong together ===== -/
def C25 (x : Int32) : Prop := ∀ i, 25 ≤ i → bt x i = false
def Set4 (ns nl : Nat) (f : Nat → Int32) : Prop := (∀ l, l < 4 → f l = -1 ∨ (l < nl ∧ ∃ s, s < ns ∧ f l = nI s)) ∧ ∀ l k, l < 4 → k < 4 → f l = f k → f l ≠ -1 → l = k
def bl (x : Int64) (i : Nat) : Bool := x.toBitVec.getLsbD i
def ShO (ns : Nat) (cells pasted masks uses w : Nat → Int32) : Prop := ∀ s, s < ns → w (8 + 4 * s) = masks s ∧ w (8 + 4 * s + 1) = cells s ∧ w (8 + 4 * s + 2) = pasted s ∧ w (8 + 4 * s + 3) = uses s ∧ C25 (cells s) ∧ C25 (pasted s) ∧ ∃ m, m < 8 ∧ masks s = nI m
def SlO (nl : Nat) (slotK slotX slotY w : Nat → Int32) : Prop := ∀ l, l < nl → w (32 + 3 * l) = slotK l ∧ w (32 + 3 * l + 1) = slotX l ∧ w (32 + 3 * l + 2) = slotY l ∧ (∃ k, k < 3 ∧ slotK l = nI (k + 1)) ∧ (-12 ≤ (slotX l).toInt ∧ (slotX l).toInt ≤ 12) ∧ (-12 ≤ (slotY l).toInt ∧ (slotY l).toInt ≤ 12)
def InO (ns nl : Nat) (setting w : Nat → Int32) : Prop := Set4 ns nl setting ∧ ∀ l, l < 4 → w (44 + l) = setting l
def ScO (nc : Nat) (wishes : Nat → Int64) (w : Nat → Int32) : Prop := (∀ c, c < nc → ∀ p, p < 144 → ∃ v, v < 4 ∧ w (48 + 144 * c + p) = nI v ∧ ∀ u, u < 3 → bl (wishes (9 * c + 3 * u + p / 48)) (p % 48) = decide (u = v)) ∧ ∀ c, c < nc → ∀ q, q < 9 → ∀ i, 48 ≤ i → bl (wishes (9 * c + q)) i = false
def FrO (ns nl nf : Nat) (rows w : Nat → Int32) : Prop := ∀ f, f < nf → Set4 ns nl (fun l => rows (4 * f + l)) ∧ ∀ l, l < 4 → w (912 + 4 * f + l) = rows (4 * f + l)
def SeO (nc nk : Nat) (rows w : Nat → Int32) : Prop := ∀ k, k < nk → (∃ c, c < nc ∧ rows (3 * k) = nI c) ∧ (∃ i, i < 3 ∧ rows (3 * k + 1) = nI i) ∧ (∃ t, t < 7 ∧ rows (3 * k + 2) = nI t - 3) ∧ ∀ j, j < 3 → w (960 + 3 * k + j) = rows (3 * k + j)
def RuO (ns nl nr : Nat) (rows w : Nat → Int32) : Prop := ∀ r, r < nr → (∃ d a b, rows (3 * r) = nI d ∧ rows (3 * r + 1) = nI a ∧ rows (3 * r + 2) = nI b ∧ d < 4 ∧ a < ns ∧ (d = 0 → b < nl) ∧ (d ≠ 0 → b < ns)) ∧ ∀ j, j < 3 → w (978 + 3 * r + j) = rows (3 * r + j)
def St (sheets : Int32) (cells pasted masks uses : Nat → Int32) (slots : Int32) (slotK slotX slotY setting : Nat → Int32) (scenes : Int32) (wishes : Nat → Int64) (frames : Int32) (frameRows : Nat → Int32) (seen : Int32) (seenRows : Nat → Int32) (width hands rsize : Int32) (rrows w : Nat → Int32) : Prop :=
  ∃ ns nl nc nf nk nr : Nat, (ns ≤ 6 ∧ nl ≤ 4 ∧ nc ≤ 6 ∧ nf ≤ 12 ∧ nk ≤ 6 ∧ nr ≤ 20) ∧ (sheets = nI ns ∧ slots = nI nl ∧ scenes = nI nc ∧ frames = nI nf ∧ seen = nI nk ∧ rsize = nI nr) ∧
    (w 0 = nI ns ∧ w 1 = nI nl ∧ w 2 = nI nc ∧ w 3 = nI nf ∧ w 4 = nI nk ∧ w 5 = width ∧ w 6 = hands ∧ w 7 = nI nr) ∧ (width = 0 ∨ width = 1) ∧
    ShO ns cells pasted masks uses w ∧ SlO nl slotK slotX slotY w ∧ InO ns nl setting w ∧ ScO nc wishes w ∧ FrO ns nl nf frameRows w ∧ SeO nc nk seenRows w ∧ RuO ns nl nr rrows w
def boxN (x y w h : Nat) : Nat := ((List.range 25).filter (fun c => decide (x ≤ c % 5 ∧ c % 5 < x + w ∧ y ≤ c / 5 ∧ c / 5 < y + h))).foldl (fun a c => a + 2 ^ c) 0
def rcs : List Nat := (List.range 5).flatMap fun x => (List.range 5).flatMap fun y => (List.range (5 - x)).flatMap fun w => (List.range (5 - y)).map fun h => boxN x y (w + 1) (h + 1)
def TpO (bytes : Nat → Int32) (length fault : Int32) (tape : Nat → Int32) (taped faultAt : Int32) : Prop := fault = faultAt ∧ ∃ n, n ≤ 400 ∧ length = nI n ∧ taped = nI n ∧ ∀ i, i < n → ∃ b, b < 256 ∧ bytes i = nI b ∧ tape i = (nI b).toInt8.toInt32
def RcO (rectangle : Nat → Int32) (has : Int32) : Prop := has = 0 ∨ (has = 1 ∧ ∀ k, k < 225 → rectangle k = nI (rcs.getD k 0))
def Inv : IT := fun ls_hasImage tp_bytes tp_length tp_fault nw_sheets nw_cells nw_pasted nw_masks nw_uses nw_slots nw_slotK nw_slotX nw_slotY nw_setting nw_scenes nw_wishes nw_frames nw_frameRows nw_seen nw_seenRows nw_width nw_hands kp_sheets kp_cells kp_pasted kp_masks kp_uses kp_slots kp_slotK kp_slotX kp_slotY kp_setting kp_scenes kp_wishes kp_frames kp_frameRows kp_seen kp_seenRows kp_width kp_hands nr_size nr_rows kr_size kr_rows m_world m_image m_hasImage m_tape m_taped m_faultAt m_rectangle m_hasRectangles => St nw_sheets nw_cells nw_pasted nw_masks nw_uses nw_slots nw_slotK nw_slotX nw_slotY nw_setting nw_scenes nw_wishes nw_frames nw_frameRows nw_seen nw_seenRows nw_width nw_hands nr_size nr_rows m_world ∧ (ls_hasImage = m_hasImage ∧ (m_hasImage = 0 ∨ m_hasImage = 1) ∧ (m_hasImage ≠ 0 → St kp_sheets kp_cells kp_pasted kp_masks kp_uses kp_slots kp_slotK kp_slotX kp_slotY kp_setting kp_scenes kp_wishes kp_frames kp_frameRows kp_seen kp_seenRows kp_width kp_hands kr_size kr_rows m_image)) ∧ TpO tp_bytes tp_length tp_fault m_tape m_taped m_faultAt ∧ RcO m_rectangle m_hasRectangles
/-! frames: what of the model's world each part reads -/
theorem ShO.fr {ns : Nat} {a b c d w w' : Nat → Int32} (h : ShO ns a b c d w) (hn : ns ≤ 6) (e : ∀ i, 8 ≤ i → i < 32 → w' i = w i) : ShO ns a b c d w' := fun s hs => by
  rw [e _ (by omega) (by omega), e (8 + 4 * s + 1) (by omega) (by omega), e (8 + 4 * s + 2) (by omega) (by omega), e (8 + 4 * s + 3) (by omega) (by omega)]
  exact h s hs
theorem SlO.fr {n : Nat} {a b c w w' : Nat → Int32} (h : SlO n a b c w) (hn : n ≤ 4) (e : ∀ i, 32 ≤ i → i < 44 → w' i = w i) : SlO n a b c w' := fun s hs => by
  rw [e _ (by omega) (by omega), e (32 + 3 * s + 1) (by omega) (by omega), e (32 + 3 * s + 2) (by omega) (by omega)]
  exact h s hs
theorem InO.fr {ns nl : Nat} {a w w' : Nat → Int32} (h : InO ns nl a w) (e : ∀ i, 44 ≤ i → i < 48 → w' i = w i) : InO ns nl a w' := ⟨h.1, fun l hl => by rw [e _ (by omega) (by omega)]; exact h.2 l hl⟩
theorem ScO.fr {n : Nat} {a : Nat → Int64} {w w' : Nat → Int32} (h : ScO n a w) (hn : n ≤ 6) (e : ∀ i, 48 ≤ i → i < 912 → w' i = w i) : ScO n a w' := ⟨fun c hc p hp => by
  rw [e _ (by omega) (by omega)]
  exact h.1 c hc p hp, h.2⟩
theorem FrO.fr {ns nl n : Nat} {a w w' : Nat → Int32} (h : FrO ns nl n a w) (hn : n ≤ 12) (e : ∀ i, 912 ≤ i → i < 960 → w' i = w i) : FrO ns nl n a w' := fun f hf => ⟨(h f hf).1, fun l hl => by rw [e _ (by omega) (by omega)]; exact (h f hf).2 l hl⟩
theorem SeO.fr {nc n : Nat} {a w w' : Nat → Int32} (h : SeO nc n a w) (hn : n ≤ 6) (e : ∀ i, 960 ≤ i → i < 978 → w' i = w i) : SeO nc n a w' := fun k hk => ⟨(h k hk).1, (h k hk).2.1, (h k hk).2.2.1, fun j hj => by rw [e _ (by omega) (by omega)]; exact (h k hk).2.2.2 j hj⟩
theorem RuO.fr {ns nl n : Nat} {a w w' : Nat → Int32} (h : RuO ns nl n a w) (hn : n ≤ 20) (e : ∀ i, 978 ≤ i → i < 1038 → w' i = w i) : RuO ns nl n a w' := fun r hr => ⟨(h r hr).1, fun j hj => by rw [e _ (by omega) (by omega)]; exact (h r hr).2 j hj⟩
theorem Set4.mono {ns nl ns' nl' : Nat} {f : Nat → Int32} (h : Set4 ns nl f) (h1 : ns ≤ ns') (h2 : nl ≤ nl') : Set4 ns' nl' f := ⟨fun l hl => (h.1 l hl).imp id (fun ⟨a, s, b, c⟩ => ⟨by omega, s, by omega, c⟩), h.2⟩
theorem InO.mono {ns nl ns' nl' : Nat} {f w : Nat → Int32} (h : InO ns nl f w) (h1 : ns ≤ ns') (h2 : nl ≤ nl') : InO ns' nl' f w := ⟨h.1.mono h1 h2, h.2⟩
theorem FrO.mono {ns nl ns' nl' n : Nat} {f w : Nat → Int32} (h : FrO ns nl n f w) (h1 : ns ≤ ns') (h2 : nl ≤ nl') : FrO ns' nl' n f w := fun k hk => ⟨(h k hk).1.mono h1 h2, (h k hk).2⟩
theorem SeO.mono {nc nc' n : Nat} {f w : Nat → Int32} (h : SeO nc n f w) (h1 : nc ≤ nc') : SeO nc' n f w := fun k hk => ⟨by obtain ⟨c, a, b⟩ := (h k hk).1; exact ⟨c, by omega, b⟩, (h k hk).2⟩
theorem RuO.mono {ns nl ns' nl' n : Nat} {f w : Nat → Int32} (h : RuO ns nl n f w) (h1 : ns ≤ ns') (h2 : nl ≤ nl') : RuO ns' nl' n f w := fun r hr => ⟨by
  obtain ⟨d, a, b, q1, q2, q3, q4, q5, q6, q7⟩ := (h r hr).1
  exact ⟨d, a, b, q1, q2, q3, q4, by omega, fun z => by have := q6 z; omega, fun z => by have := q7 z; omega⟩, (h r hr).2⟩
/-! the model's small functions -/
theorem m_thr0 (t c : Int32) : f_X8_throwsIf t 0 c = some (0, t) := by simp [f_X8_throwsIf, gd]
theorem m_thr1 (t c : Int32) : f_X8_throwsIf t 1 c = some (1, c) := by simp [f_X8_throwsIf, gd]
theorem m_within (a b c : Int32) : f_X8_within a b c = if b ≤ a ∧ a ≤ c then 1 else 0 := by
  unfold f_X8_within
  simp only [lt_i, le_i]
  split
  · rw [if_neg (by omega)]
  · split
    · rw [if_neg (by omega)]
    · rw [if_pos (by omega)]
theorem m_at {w : Nat → Int32} {n : Nat} {β : Type} {k : Option β} (h : n < 1182) : chk (nI n) 1182 k = k := chk_n h (by decide)
theorem nI_c {n : Nat} (h : n < 1182) : (nI n).toNatClampNeg = n := nI_clamp (by omega)
theorem m_sheets (w : Nat → Int32) : f_X8_sheets w = some (w 0) := by unfold f_X8_sheets; rw [chk_eq (vp_dec0 (by decide))]; rfl
theorem m_slots (w : Nat → Int32) : f_X8_slots w = some (w 1) := by unfold f_X8_slots; rw [chk_eq (vp_dec0 (by decide))]; rfl
theorem in_no {a : Int32} {n : Nat} (hn : n < 1000) (h : a < 0 ∨ nI n ≤ a) : f_X8_within a 0 (nI n - 1) = 0 := by
  rw [m_within, if_neg]
  have e1 : (nI n - 1).toInt = (n : Int) - 1 := pk_sub_toInt (b := 1) (by omega) (by omega)
  have e2 : (nI n).toInt = (n : Int) := nI_toInt (by omega)
  simp only [lt_i, le_i, e1, e2] at h ⊢
  have e3 : (0 : Int32).toInt = 0 := rfl
  omega
theorem in_yes {j n : Nat} (hn : n < 1000) (h : j < n) : f_X8_within (nI j) 0 (nI n - 1) = 1 := by
  rw [m_within, if_pos]
  have e1 : (nI n - 1).toInt = (n : Int) - 1 := pk_sub_toInt (b := 1) (by omega) (by omega)
  have e2 : (nI j).toInt = (j : Int) := nI_toInt (by omega)
  have e3 : (0 : Int32).toInt = 0 := rfl
  simp only [le_i, e1, e2, e3]
  omega
theorem m_noSheet_no {w : Nat → Int32} {a : Int32} {n : Nat} (hn : n ≤ 6) (hw : w 0 = nI n) (h : a < 0 ∨ nI n ≤ a) : f_X8_noSheet w a = some 1 := by
  unfold f_X8_noSheet; rw [m_sheets, bnd_s, hw, nm_s, in_no (by omega) h]; rfl
theorem m_noSheet_yes {w : Nat → Int32} {j n : Nat} (hn : n ≤ 6) (hw : w 0 = nI n) (h : j < n) : f_X8_noSheet w (nI j) = some 0 := by
  unfold f_X8_noSheet; rw [m_sheets, bnd_s, hw, nm_s, in_yes (by omega) h]; rfl
theorem c_needSheet_no {a : Int32} {n : Nat} (hn : n < 1000) (h : a < 0 ∨ nI n ≤ a) : f_X7_needSheet (nI n) a = some (.inr (2, ())) := by
  unfold f_X7_needSheet
  have e2 : (nI n).toInt = (n : Int) := nI_toInt (by omega)
  by_cases q : a < 0
  · rw [if_pos q]
  · rw [if_neg q, if_neg]
    simp only [lt_i, le_i, e2] at h q ⊢
    omega
theorem c_needSheet_yes {j n : Nat} (hn : n < 1000) (h : j < n) : f_X7_needSheet (nI n) (nI j) = some (.inl ()) := by
  unfold f_X7_needSheet
  rw [if_neg (nI_pos (by omega)), if_pos (nI_lt h (by omega))]
theorem m_of {w : Nat → Int32} {s k : Nat} (hs : s < 6) (hk : k < 4) : f_X8_of w (nI s) (nI k) = some (w (8 + 4 * s + k)) := by
  unfold f_X8_of
  rw [show ((8 : Int32) + (4 : Int32) * nI s) + nI k = nI (8 + 4 * s + k) by rw [show (4 : Int32) = nI 4 from rfl, pk_mul, show (8 : Int32) = nI 8 from rfl, nI_add, nI_add], chk_n (by omega) (by decide), nI_c (by omega)]
theorem m_sets {w : Nat → Int32} {s k : Nat} {v : Int32} (hs : s < 6) (hk : k < 4) : f_X8_sets w (nI s) (nI k) v = some (upd w (8 + 4 * s + k) v) := by
  unfold f_X8_sets
  rw [show ((8 : Int32) + (4 : Int32) * nI s) + nI k = nI (8 + 4 * s + k) by rw [show (4 : Int32) = nI 4 from rfl, pk_mul, show (8 : Int32) = nI 8 from rfl, nI_add, nI_add], chk_n (by omega) (by decide), nI_c (by omega)]
  rfl
theorem ck0 {β : Type} {k : Option β} : chk (0 : Int32) 1182 k = k := chk_eq (vp_dec0 (by decide))
theorem tn0 : (0 : Int32).toNatClampNeg = 0 := rfl
theorem ck1 {β : Type} {k : Option β} : chk (1 : Int32) 1182 k = k := chk_eq (vp_dec0 (by decide))
theorem tn1 : (1 : Int32).toNatClampNeg = 1 := rfl
theorem ck2 {β : Type} {k : Option β} : chk (2 : Int32) 1182 k = k := chk_eq (vp_dec0 (by decide))
theorem tn2 : (2 : Int32).toNatClampNeg = 2 := rfl
theorem ck3 {β : Type} {k : Option β} : chk (3 : Int32) 1182 k = k := chk_eq (vp_dec0 (by decide))
theorem tn3 : (3 : Int32).toNatClampNeg = 3 := rfl
theorem ck4 {β : Type} {k : Option β} : chk (4 : Int32) 1182 k = k := chk_eq (vp_dec0 (by decide))
theorem tn4 : (4 : Int32).toNatClampNeg = 4 := rfl
theorem ck5 {β : Type} {k : Option β} : chk (5 : Int32) 1182 k = k := chk_eq (vp_dec0 (by decide))
theorem tn5 : (5 : Int32).toNatClampNeg = 5 := rfl
theorem ck6 {β : Type} {k : Option β} : chk (6 : Int32) 1182 k = k := chk_eq (vp_dec0 (by decide))
theorem tn6 : (6 : Int32).toNatClampNeg = 6 := rfl
theorem ck7 {β : Type} {k : Option β} : chk (7 : Int32) 1182 k = k := chk_eq (vp_dec0 (by decide))
theorem tn7 : (7 : Int32).toNatClampNeg = 7 := rfl
theorem c_needSlot_no {a : Int32} {n : Nat} (hn : n < 1000) (h : a < 0 ∨ nI n ≤ a) : f_X7_needSlot (nI n) a = some (.inr (2, ())) := c_needSheet_no hn h
theorem c_needSlot_yes {j n : Nat} (hn : n < 1000) (h : j < n) : f_X7_needSlot (nI n) (nI j) = some (.inl ()) := c_needSheet_yes hn h
theorem c_needScene_no {a : Int32} {n : Nat} (hn : n < 1000) (h : a < 0 ∨ nI n ≤ a) : f_X7_needScene (nI n) a = some (.inr (2, ())) := c_needSheet_no hn h
theorem c_needScene_yes {j n : Nat} (hn : n < 1000) (h : j < n) : f_X7_needScene (nI n) (nI j) = some (.inl ()) := c_needSheet_yes hn h
theorem c_needFrame_no {a : Int32} {n : Nat} (hn : n < 1000) (h : a < 0 ∨ nI n ≤ a) : f_X7_needFrame (nI n) a = some (.inr (2, ())) := c_needSheet_no hn h
theorem c_needFrame_yes {j n : Nat} (hn : n < 1000) (h : j < n) : f_X7_needFrame (nI n) (nI j) = some (.inl ()) := c_needSheet_yes hn h
theorem c_needSpot_no {a : Int32} (h : a < 0 ∨ nI 144 ≤ a) : f_X7_needSpot a = some (.inr (2, ())) := c_needSheet_no (n := 144) (by decide) h
theorem c_needSpot_yes {j : Nat} (h : j < 144) : f_X7_needSpot (nI j) = some (.inl ()) := c_needSheet_yes (n := 144) (by decide) h
theorem m_noSlot_no {w : Nat → Int32} {a : Int32} {n : Nat} (hn : n ≤ 6) (hw : w 1 = nI n) (h : a < 0 ∨ nI n ≤ a) : f_X8_noSlot w a = some 1 := by
  unfold f_X8_noSlot; rw [m_slots, bnd_s, hw, nm_s, in_no (by omega) h]; rfl
theorem m_noSlot_yes {w : Nat → Int32} {j n : Nat} (hn : n ≤ 6) (hw : w 1 = nI n) (h : j < n) : f_X8_noSlot w (nI j) = some 0 := by
  unfold f_X8_noSlot; rw [m_slots, bnd_s, hw, nm_s, in_yes (by omega) h]; rfl
theorem m_noScene_no {w : Nat → Int32} {a : Int32} {n : Nat} (hn : n ≤ 6) (hw : w 2 = nI n) (h : a < 0 ∨ nI n ≤ a) : f_X8_noScene w a = some 1 := by
  unfold f_X8_noScene; rw [ck2, tn2, hw, nm_s, in_no (by omega) h]; rfl
theorem m_noScene_yes {w : Nat → Int32} {j n : Nat} (hn : n ≤ 6) (hw : w 2 = nI n) (h : j < n) : f_X8_noScene w (nI j) = some 0 := by
  unfold f_X8_noScene; rw [ck2, tn2, hw, nm_s, in_yes (by omega) h]; rfl
theorem m_noFrame_no {w : Nat → Int32} {a : Int32} {n : Nat} (hn : n ≤ 12) (hw : w 3 = nI n) (h : a < 0 ∨ nI n ≤ a) : f_X8_noFrame w a = some 1 := by
  unfold f_X8_noFrame; rw [ck3, tn3, hw, nm_s, in_no (by omega) h]; rfl
theorem m_noFrame_yes {w : Nat → Int32} {j n : Nat} (hn : n ≤ 12) (hw : w 3 = nI n) (h : j < n) : f_X8_noFrame w (nI j) = some 0 := by
  unfold f_X8_noFrame; rw [ck3, tn3, hw, nm_s, in_yes (by omega) h]; rfl
theorem m_noSpot_no {a : Int32} (h : a < 0 ∨ nI 144 ≤ a) : f_X8_noSpot a = 1 := by
  unfold f_X8_noSpot; rw [nm_s, show (143 : Int32) = nI 144 - 1 from rfl, in_no (by omega) h]; rfl
theorem m_noSpot_yes {j : Nat} (h : j < 144) : f_X8_noSpot (nI j) = 0 := by
  unfold f_X8_noSpot; rw [nm_s, show (143 : Int32) = nI 144 - 1 from rfl, in_yes (by omega) h]; rfl
theorem m_inSlot {w : Nat → Int32} {l : Nat} (h : l < 4) : f_X8_inSlot w (nI l) = some (w (44 + l)) := by
  unfold f_X8_inSlot
  rw [show (44 : Int32) + nI l = nI (44 + l) from nI_add 44 l, chk_n (by omega) (by decide), nI_c (by omega)]
/-- a light and a seat: both are there, or not -/
def View (a b : Int32) : Prop := (∃ i, i < 3 ∧ a = nI i) ∧ ∃ t, t < 7 ∧ b = nI t - 3
theorem view_yes {a b : Int32} (h : View a b) : f_X7_needView a b = some (.inl ()) ∧ f_X8_noView a b = 0 := by
  obtain ⟨⟨i, hi, rfl⟩, t, ht, rfl⟩ := h
  match i, t, hi, ht with
  | 0, 0, _, _ => exact ⟨rfl, rfl⟩
  | 0, 1, _, _ => exact ⟨rfl, rfl⟩
  | 0, 2, _, _ => exact ⟨rfl, rfl⟩
  | 0, 3, _, _ => exact ⟨rfl, rfl⟩
  | 0, 4, _, _ => exact ⟨rfl, rfl⟩
  | 0, 5, _, _ => exact ⟨rfl, rfl⟩
  | 0, 6, _, _ => exact ⟨rfl, rfl⟩
  | 1, 0, _, _ => exact ⟨rfl, rfl⟩
  | 1, 1, _, _ => exact ⟨rfl, rfl⟩
  | 1, 2, _, _ => exact ⟨rfl, rfl⟩
  | 1, 3, _, _ => exact ⟨rfl, rfl⟩
  | 1, 4, _, _ => exact ⟨rfl, rfl⟩
  | 1, 5, _, _ => exact ⟨rfl, rfl⟩
  | 1, 6, _, _ => exact ⟨rfl, rfl⟩
  | 2, 0, _, _ => exact ⟨rfl, rfl⟩
  | 2, 1, _, _ => exact ⟨rfl, rfl⟩
  | 2, 2, _, _ => exact ⟨rfl, rfl⟩
  | 2, 3, _, _ => exact ⟨rfl, rfl⟩
  | 2, 4, _, _ => exact ⟨rfl, rfl⟩
  | 2, 5, _, _ => exact ⟨rfl, rfl⟩
  | 2, 6, _, _ => exact ⟨rfl, rfl⟩
  | i + 3, _, h, _ => exact absurd h (by omega)
  | _, t + 7, _, h => exact absurd h (by omega)
theorem view_no {a b : Int32} (h : ¬ View a b) : f_X7_needView a b = some (.inr (2, ())) ∧ f_X8_noView a b = 1 := by
  have z0 : (0 : Int32).toInt = 0 := rfl
  have z3 : (3 : Int32).toInt = 3 := rfl
  have z2 : (2 : Int32).toInt = 2 := rfl
  have zm : (-3 : Int32).toInt = -3 := rfl
  have key : ¬ (0 ≤ a.toInt ∧ a.toInt < 3 ∧ -3 ≤ b.toInt ∧ b.toInt ≤ 3) := by
    intro ⟨q1, q2, q3, q4⟩
    refine h ⟨⟨a.toInt.toNat, by omega, ?_⟩, (b.toInt + 3).toNat, by omega, ?_⟩
    · rw [eq_i, nI_toInt (by omega)]; omega
    · rw [eq_i, show (nI (b.toInt + 3).toNat - 3).toInt = ((b.toInt + 3).toNat : Int) - 3 from pk_sub_toInt (b := 3) (by omega) (by omega)]; omega
  refine ⟨?_, ?_⟩
  · unfold f_X7_needView
    simp only [lt_i, le_i, z0, z3, z2, zm]
    split
    · rfl
    · split
      · rfl
      · split
        · rfl
        · split
          · exfalso; omega
          · rfl
  · unfold f_X8_noView f_X8_noLight f_X8_noSeat
    simp only [nm_s, m_within, le_i, z0, z3, z2, zm]
    by_cases q : 0 ≤ a.toInt ∧ a.toInt ≤ 2
    · rw [if_pos q]
      by_cases q2 : -3 ≤ b.toInt ∧ b.toInt ≤ 3
      · exfalso; omega
      · rw [if_neg q2]; rfl
    · rw [if_neg q]; rfl
theorem le01 {a : Int32} (h : 0 ≤ a ∧ a ≤ 1) : a = 0 ∨ a = 1 := by
  have z0 : (0 : Int32).toInt = 0 := rfl
  have z1 : (1 : Int32).toInt = 1 := rfl
  simp only [le_i, eq_i, z0, z1] at h ⊢
  omega
theorem m_noSheet0 (w : Nat → Int32) : True := trivial
theorem wi_yes {a b c : Int32} (h : b.toInt ≤ a.toInt ∧ a.toInt ≤ c.toInt) : f_X8_within a b c = 1 := by rw [m_within, if_pos ⟨le_i.mpr h.1, le_i.mpr h.2⟩]
theorem wi_no {a b c : Int32} (h : ¬ (b.toInt ≤ a.toInt ∧ a.toInt ≤ c.toInt)) : f_X8_within a b c = 0 := by rw [m_within, if_neg (fun q => h ⟨le_i.mp q.1, le_i.mp q.2⟩)]
theorem m_of0 {w : Nat → Int32} {s : Nat} (hs : s < 6) : f_X8_of w (nI s) (0 : Int32) = some (w (8 + 4 * s + 0)) := m_of (k := 0) hs (by decide)
theorem m_sets0 {w : Nat → Int32} {s : Nat} {v : Int32} (hs : s < 6) : f_X8_sets w (nI s) (0 : Int32) v = some (upd w (8 + 4 * s + 0) v) := m_sets (k := 0) hs (by decide)
theorem m_of1 {w : Nat → Int32} {s : Nat} (hs : s < 6) : f_X8_of w (nI s) (1 : Int32) = some (w (8 + 4 * s + 1)) := m_of (k := 1) hs (by decide)
theorem m_sets1 {w : Nat → Int32} {s : Nat} {v : Int32} (hs : s < 6) : f_X8_sets w (nI s) (1 : Int32) v = some (upd w (8 + 4 * s + 1) v) := m_sets (k := 1) hs (by decide)
theorem m_of2 {w : Nat → Int32} {s : Nat} (hs : s < 6) : f_X8_of w (nI s) (2 : Int32) = some (w (8 + 4 * s + 2)) := m_of (k := 2) hs (by decide)
theorem m_sets2 {w : Nat → Int32} {s : Nat} {v : Int32} (hs : s < 6) : f_X8_sets w (nI s) (2 : Int32) v = some (upd w (8 + 4 * s + 2) v) := m_sets (k := 2) hs (by decide)
theorem m_of3 {w : Nat → Int32} {s : Nat} (hs : s < 6) : f_X8_of w (nI s) (3 : Int32) = some (w (8 + 4 * s + 3)) := m_of (k := 3) hs (by decide)
theorem m_sets3 {w : Nat → Int32} {s : Nat} {v : Int32} (hs : s < 6) : f_X8_sets w (nI s) (3 : Int32) v = some (upd w (8 + 4 * s + 3) v) := m_sets (k := 3) hs (by decide)
