/-! ===== going through all settings ===== -/
def Zs (ok : Nat → Bool) (W : Nat → Nat) (C : Nat → Int32) : Nat → Nat × Int32 × Nat
  | 0 => (1000000, 0, 0)
  | m + 1 => if ok m = true ∧ (W m < (Zs ok W C m).1 ∨ (W m = (Zs ok W C m).1 ∧ C m < (Zs ok W C m).2.1)) then (W m, C m, m + 1) else Zs ok W C m
def als (ok : Nat → Bool) (wr : Nat → Nat → Bool) : Nat → Nat → Bool
  | 0, _ => true
  | m + 1, p => als ok wr m p && (!ok m || wr m p)
def pfs (ok : Nat → Bool) (W : Nat → Nat) (m : Nat) : Nat := fb_ct (fun m => ok m && decide (W m = 0)) m
def RS (ok : Nat → Bool) (W : Nat → Nat) (C : Nat → Int32) (wr : Nat → Nat → Bool) (stf : Nat → Nat → Int32) (nv m : Nat) (first : Nat → Int32) (fsh few perf : Int32) (always : Nat → Int64) : Prop :=
  few = nI (Zs ok W C m).1 ∧ fsh = (Zs ok W C m).2.1 ∧ ((Zs ok W C m).2.2 ≠ 0 → ∀ l, l < 4 → first l = stf ((Zs ok W C m).2.2 - 1) l) ∧ perf = nI (pfs ok W m) ∧ (1 ≤ nv → ∀ p, p < 144 → bl (always (p / 48)) (p % 48) = als ok wr m p) ∧ ∀ q, q < 3 → ∀ i, 48 ≤ i → bl (always q) i = false
theorem Zs_skip {ok : Nat → Bool} {W : Nat → Nat} {C : Nat → Int32} {m : Nat} (h : ok m = false) : Zs ok W C (m + 1) = Zs ok W C m := by
  show (if ok m = true ∧ _ then _ else _) = _
  rw [if_neg (fun q => by rw [h] at q; cases q.1)]
theorem als_skip {ok : Nat → Bool} {wr : Nat → Nat → Bool} {m p : Nat} (h : ok m = false) : als ok wr (m + 1) p = als ok wr m p := by
  show (als ok wr m p && (!ok m || wr m p)) = _
  rw [h]; simp
theorem pfs_skip {ok : Nat → Bool} {W : Nat → Nat} {m : Nat} (h : ok m = false) : pfs ok W (m + 1) = pfs ok W m := by
  unfold pfs
  rw [fb_ct_succ, h]; rfl
theorem RS.skip {ok : Nat → Bool} {W : Nat → Nat} {C : Nat → Int32} {wr : Nat → Nat → Bool} {stf : Nat → Nat → Int32} {nv m : Nat} {first : Nat → Int32} {fsh few perf : Int32} {always : Nat → Int64} (h : RS ok W C wr stf nv m first fsh few perf always) (e : ok m = false) : RS ok W C wr stf nv (m + 1) first fsh few perf always := by
  unfold RS
  rw [Zs_skip e, pfs_skip e]
  exact ⟨h.1, h.2.1, h.2.2.1, h.2.2.2.1, fun q p hp => by rw [als_skip e]; exact h.2.2.2.2.1 q p hp, h.2.2.2.2.2⟩
theorem RS.skips {ok : Nat → Bool} {W : Nat → Nat} {C : Nat → Int32} {wr : Nat → Nat → Bool} {stf : Nat → Nat → Int32} {nv m : Nat} {first : Nat → Int32} {fsh few perf : Int32} {always : Nat → Int64} (h : RS ok W C wr stf nv m first fsh few perf always) : ∀ d, (∀ k, m ≤ k → k < m + d → ok k = false) → RS ok W C wr stf nv (m + d) first fsh few perf always := by
  intro d
  induction d with
  | zero => intro _; exact h
  | succ d ih => intro hk; exact (ih (fun k h1 h2 => hk k h1 (by omega))).skip (hk (m + d) (by omega) (by omega))
abbrev T10 := (Nat → Int64) × (Nat → Int64) × (Nat → Int64) × (Nat → Int32) × (Nat → Int32) × Int32 × Int32 × Int32 × (Nat → Int64) × (Nat → Int32)
def RT (ok : Nat → Bool) (W : Nat → Nat) (C : Nat → Int32) (wr : Nat → Nat → Bool) (ns nl nv m : Nat) (r : T10) : Prop := RS ok W C wr (stm ns nl) nv m r.2.2.2.2.1 r.2.2.2.2.2.1 r.2.2.2.2.2.2.1 r.2.2.2.2.2.2.2.1 r.2.2.2.2.2.2.2.2.1
def WH (ok : Nat → Bool) (W : Nat → Nat) (C : Nat → Int32) (wr : Nat → Nat → Bool) (ns nl nv : Nat) (K : Nat → Int32) (wishes full half : Nat → Int64) (vs : Nat → Int32) (views rsize : Int32) (rows : Nat → Int32) : Prop :=
  (∀ m, ok m = true → nod (stm ns nl m) = true) ∧ ∀ m (r : T10) (trial : Nat → Int32), (∀ l, l < 4 → trial l = stm ns nl m l) → nod (stm ns nl m) = true → RT ok W C wr ns nl nv m r →
    OK (f_X2_weigh K wishes full half r.1 r.2.1 r.2.2.1 trial vs views r.2.2.2.2.1 r.2.2.2.2.2.1 r.2.2.2.2.2.2.1 r.2.2.2.2.2.2.2.1 r.2.2.2.2.2.2.2.2.1 rsize rows r.2.2.2.2.2.2.2.2.2) (fun o => RS ok W C wr (stm ns nl) nv (m + 1) o.2.2.2.1 o.2.2.2.2.1 o.2.2.2.2.2.1 o.2.2.2.2.2.2.1 o.2.2.2.2.2.2.2.1)
theorem c_clash (x y : Int32) : f_X2_clash x y = b2 (clb x y) := by
  unfold f_X2_clash clb
  by_cases h : x = -1
  · rw [if_pos h, decide_eq_false (fun q => q.1 h)]; rfl
  · rw [if_neg h]
    by_cases e : x = y
    · rw [if_pos e, decide_eq_true ⟨h, e⟩]; rfl
    · rw [if_neg e, decide_eq_false (fun q => e q.2)]; rfl
theorem c_choices {ns nl l : Nat} (h4 : nl ≤ 4) (hl : l < 4) : f_X2_choices (nI ns) (nI nl) (nI l) = nI (rd ns nl l - 1) := by
  unfold f_X2_choices rd
  by_cases h : l < nl
  · rw [if_neg (nI_ge h (by omega)), if_pos h, Nat.add_sub_cancel]
  · rw [if_pos (nI_le (by omega) (by omega)), if_neg h]; rfl
theorem dm {q r j : Nat} (h : j < r) : (q * r + j) / r = q ∧ (q * r + j) % r = j := by
  have hr : 0 < r := by omega
  refine ⟨?_, ?_⟩
  · rw [Nat.add_comm, Nat.add_mul_div_right _ _ hr, Nat.div_eq_of_lt h, Nat.zero_add]
  · rw [Nat.add_comm, Nat.add_mul_mod_self_right, Nat.mod_eq_of_lt h]
theorem dgt_code {ns nl a b c j : Nat} (ha : a < rd ns nl 0) (hb : b < rd ns nl 1) (hc : c < rd ns nl 2) (hj : j < rd ns nl 3) :
    stm ns nl (((a * rd ns nl 1 + b) * rd ns nl 2 + c) * rd ns nl 3 + j) 0 = nI a - 1 ∧ stm ns nl (((a * rd ns nl 1 + b) * rd ns nl 2 + c) * rd ns nl 3 + j) 1 = nI b - 1 ∧ stm ns nl (((a * rd ns nl 1 + b) * rd ns nl 2 + c) * rd ns nl 3 + j) 2 = nI c - 1 ∧ stm ns nl (((a * rd ns nl 1 + b) * rd ns nl 2 + c) * rd ns nl 3 + j) 3 = nI j - 1 := by
  unfold stm dgt
  rw [(dm hj).1, (dm hj).2, (dm hc).1, (dm hc).2, (dm hb).1, (dm hb).2, Nat.mod_eq_of_lt ha]
  exact ⟨rfl, rfl, rfl, rfl⟩
theorem nod_no {f : Nat → Int32} (h : clb (f 1) (f 0) = true ∨ clb (f 2) (f 0) = true ∨ clb (f 2) (f 1) = true ∨ clb (f 3) (f 0) = true ∨ clb (f 3) (f 1) = true ∨ clb (f 3) (f 2) = true) : nod f = false := by
  unfold nod
  rcases h with h | h | h | h | h | h <;> rw [h] <;> simp
theorem ok_no {ok : Nat → Bool} {ns nl m : Nat} (hok : ∀ m, ok m = true → nod (stm ns nl m) = true) (h : nod (stm ns nl m) = false) : ok m = false := by
  cases e : ok m with
  | false => rfl
  | true => rw [hok m e] at h; cases h
theorem upl0 (f : Nat → Int32) (x : Int32) : (∀ k, k ≠ 0 → upd f ((0 : Int32)).toNatClampNeg x k = f k) ∧ upd f ((0 : Int32)).toNatClampNeg x 0 = x := ⟨fun k hk => upd_ne hk, upd_same _ _ _⟩
theorem upl1 (f : Nat → Int32) (x : Int32) : (∀ k, k ≠ 1 → upd f ((1 : Int32)).toNatClampNeg x k = f k) ∧ upd f ((1 : Int32)).toNatClampNeg x 1 = x := ⟨fun k hk => upd_ne hk, upd_same _ _ _⟩
theorem upl2 (f : Nat → Int32) (x : Int32) : (∀ k, k ≠ 2 → upd f ((2 : Int32)).toNatClampNeg x k = f k) ∧ upd f ((2 : Int32)).toNatClampNeg x 2 = x := ⟨fun k hk => upd_ne hk, upd_same _ _ _⟩
theorem upl3 (f : Nat → Int32) (x : Int32) : (∀ k, k ≠ 3 → upd f ((3 : Int32)).toNatClampNeg x k = f k) ∧ upd f ((3 : Int32)).toNatClampNeg x 3 = x := ⟨fun k hk => upd_ne hk, upd_same _ _ _⟩
theorem c_loopD {ok : Nat → Bool} {W : Nat → Nat} {C : Nat → Int32} {wr : Nat → Nat → Bool} {ns nl nv : Nat} {K : Nat → Int32} {wishes full half : Nat → Int64} {vs : Nat → Int32} {views rsize : Int32} {rows : Nat → Int32} (h6 : ns ≤ 6) (h4 : nl ≤ 4) (hW : WH ok W C wr ns nl nv K wishes full half vs views rsize rows)
    {a b c : Nat} (ha : a < rd ns nl 0) (hb : b < rd ns nl 1) (hc : c < rd ns nl 2) (c1 : clb (nI b - 1) (nI a - 1) = false) (c2 : clb (nI c - 1) (nI a - 1) = false) (c3 : clb (nI c - 1) (nI b - 1) = false) (r : T10) (t0 : r.2.2.2.1 0 = nI a - 1) (t1 : r.2.2.2.1 1 = nI b - 1) (t2 : r.2.2.2.1 2 = nI c - 1) (hR : RT ok W C wr ns nl nv (((a * rd ns nl 1 + b) * rd ns nl 2 + c) * rd ns nl 3) r) :
    OK (lp (fun q => f_X2_searchAll_S125 (nI ns) (nI nl) K wishes full half vs views rsize rows (nI a - 1) (nI b - 1) (nI c - 1) q.1 q.2.1 q.2.2.1 q.2.2.2.1 q.2.2.2.2.1 q.2.2.2.2.2.1 q.2.2.2.2.2.2.1 q.2.2.2.2.2.2.2.1 q.2.2.2.2.2.2.2.2.1 q.2.2.2.2.2.2.2.2.2.1 q.2.2.2.2.2.2.2.2.2.2) ((-1 : Int32), r)) (fun o => RT ok W C wr ns nl nv (((a * rd ns nl 1 + b) * rd ns nl 2 + c) * rd ns nl 3 + rd ns nl 3) o ∧ o.2.2.2.1 0 = nI a - 1 ∧ o.2.2.2.1 1 = nI b - 1 ∧ o.2.2.2.1 2 = nI c - 1) := by
  have r7 := rd_le (nl := nl) (l := 3) h6
  have rp := rd_pos ns nl 3
  have ch : f_X2_choices (nI ns) (nI nl) (3 : Int32) = nI (rd ns nl 3 - 1) := c_choices (l := 3) h4 (by decide)
  refine ok_lp (fun j s => s.1 = nI j - 1 ∧ RT ok W C wr ns nl nv (((a * rd ns nl 1 + b) * rd ns nl 2 + c) * rd ns nl 3 + j) s.2 ∧ s.2.2.2.2.1 0 = nI a - 1 ∧ s.2.2.2.2.1 1 = nI b - 1 ∧ s.2.2.2.2.1 2 = nI c - 1) (rd ns nl 3) (fun j s hj hJ => Or.inl ?_) (fun s hJ => ?_) ⟨rfl, hR, t0, t1, t2⟩
  · obtain ⟨e, hR, t0, t1, t2⟩ := hJ
    obtain ⟨s0, s1, s2, s3⟩ := dgt_code ha hb hc hj
    unfold f_X2_searchAll_S125 f_X2_searchAll_J174
    rw [e, nm_s, ch, if_neg (mt (sh_end (by omega) (by omega)).mp (by omega)), nm_s, c_clash]
    have skip : (clb (nI j - 1) (nI a - 1) = true ∨ clb (nI j - 1) (nI b - 1) = true ∨ clb (nI j - 1) (nI c - 1) = true) → RT ok W C wr ns nl nv (((a * rd ns nl 1 + b) * rd ns nl 2 + c) * rd ns nl 3 + j + 1) s.2 := fun h => RS.skip hR (ok_no hW.1 (nod_no (by rw [s0, s1, s2, s3]; exact Or.inr (Or.inr (Or.inr h)))))
    cases q1 : clb (nI j - 1) (nI a - 1) with
    | true =>
      rw [if_neg (show ¬ b2 true = 0 by decide), nm_s, sh_nx]
      exact ⟨_, rfl, rfl, skip (Or.inl q1), t0, t1, t2⟩
    | false =>
      rw [if_pos (show b2 false = 0 from rfl), nm_s, c_clash]
      cases q2 : clb (nI j - 1) (nI b - 1) with
      | true =>
        rw [if_neg (show ¬ b2 true = 0 by decide), nm_s, sh_nx]
        exact ⟨_, rfl, rfl, skip (Or.inr (Or.inl q2)), t0, t1, t2⟩
      | false =>
        rw [if_pos (show b2 false = 0 from rfl), nm_s, c_clash]
        cases q3 : clb (nI j - 1) (nI c - 1) with
        | true =>
          rw [if_neg (show ¬ b2 true = 0 by decide), nm_s, sh_nx]
          exact ⟨_, rfl, rfl, skip (Or.inr (Or.inr q3)), t0, t1, t2⟩
        | false =>
          rw [if_pos (show b2 false = 0 from rfl), chk_eq (vp_dec0 (by decide)), nm_s]
          have hn : nod (stm ns nl (((a * rd ns nl 1 + b) * rd ns nl 2 + c) * rd ns nl 3 + j)) = true := by
            unfold nod
            rw [s0, s1, s2, s3, c1, c2, c3, q1, q2, q3]; rfl
          obtain ⟨o, eo, ho⟩ := hW.2 _ s.2 (upd s.2.2.2.2.1 ((3 : Int32)).toNatClampNeg (nI j - 1)) (l4 (by rw [upd_ne (by decide), s0, t0]) (by rw [upd_ne (by decide), s1, t1]) (by rw [upd_ne (by decide), s2, t2]) (by rw [s3]; exact upd_same _ _ _)) hn hR
          rw [eo, bnd_s, nm_s, sh_nx]
          exact ⟨_, rfl, rfl, ho, ((upl3 s.2.2.2.2.1 (nI j - 1)).1 0 (by decide)).trans t0, ((upl3 s.2.2.2.2.1 (nI j - 1)).1 1 (by decide)).trans t1, ((upl3 s.2.2.2.2.1 (nI j - 1)).1 2 (by decide)).trans t2⟩
  · obtain ⟨e, hR, t⟩ := hJ
    unfold f_X2_searchAll_S125
    rw [e, nm_s, ch, if_pos ((sh_end (by omega) (by omega)).mpr (by omega))]
    exact ⟨_, rfl, hR, t⟩
theorem c_loopC {ok : Nat → Bool} {W : Nat → Nat} {C : Nat → Int32} {wr : Nat → Nat → Bool} {ns nl nv : Nat} {K : Nat → Int32} {wishes full half : Nat → Int64} {vs : Nat → Int32} {views rsize : Int32} {rows : Nat → Int32} (h6 : ns ≤ 6) (h4 : nl ≤ 4) (hW : WH ok W C wr ns nl nv K wishes full half vs views rsize rows)
    {a b : Nat} (ha : a < rd ns nl 0) (hb : b < rd ns nl 1) (c1 : clb (nI b - 1) (nI a - 1) = false) (r : T10) (t0 : r.2.2.2.1 0 = nI a - 1) (t1 : r.2.2.2.1 1 = nI b - 1) (hR : RT ok W C wr ns nl nv ((a * rd ns nl 1 + b) * rd ns nl 2 * rd ns nl 3) r) :
    OK (lp (fun q => f_X2_searchAll_S87 (nI ns) (nI nl) K wishes full half vs views rsize rows (nI a - 1) (nI b - 1) q.1 q.2.1 q.2.2.1 q.2.2.2.1 q.2.2.2.2.1 q.2.2.2.2.2.1 q.2.2.2.2.2.2.1 q.2.2.2.2.2.2.2.1 q.2.2.2.2.2.2.2.2.1 q.2.2.2.2.2.2.2.2.2.1 q.2.2.2.2.2.2.2.2.2.2) ((-1 : Int32), r)) (fun o => RT ok W C wr ns nl nv ((a * rd ns nl 1 + b + 1) * rd ns nl 2 * rd ns nl 3) o ∧ o.2.2.2.1 0 = nI a - 1 ∧ o.2.2.2.1 1 = nI b - 1) := by
  have r7 := rd_le (nl := nl) (l := 2) h6
  have rp := rd_pos ns nl 2
  have ch : f_X2_choices (nI ns) (nI nl) (2 : Int32) = nI (rd ns nl 2 - 1) := c_choices (l := 2) h4 (by decide)
  refine ok_lp (fun c s => s.1 = nI c - 1 ∧ RT ok W C wr ns nl nv (((a * rd ns nl 1 + b) * rd ns nl 2 + c) * rd ns nl 3) s.2 ∧ s.2.2.2.2.1 0 = nI a - 1 ∧ s.2.2.2.2.1 1 = nI b - 1) (rd ns nl 2) (fun c s hc hJ => Or.inl ?_) (fun s hJ => ?_) ⟨rfl, hR, t0, t1⟩
  · obtain ⟨e, hR, t0, t1⟩ := hJ
    have enx : ((a * rd ns nl 1 + b) * rd ns nl 2 + (c + 1)) * rd ns nl 3 = ((a * rd ns nl 1 + b) * rd ns nl 2 + c) * rd ns nl 3 + rd ns nl 3 := by rw [← Nat.add_assoc, Nat.succ_mul]
    rw [enx]
    unfold f_X2_searchAll_S87 f_X2_searchAll_J180
    rw [e, nm_s, ch, if_neg (mt (sh_end (by omega) (by omega)).mp (by omega)), nm_s, c_clash]
    have skip : (clb (nI c - 1) (nI a - 1) = true ∨ clb (nI c - 1) (nI b - 1) = true) → RT ok W C wr ns nl nv (((a * rd ns nl 1 + b) * rd ns nl 2 + c) * rd ns nl 3 + rd ns nl 3) s.2 := fun h => RS.skips hR _ (fun k h1 h2 => by
      obtain ⟨s0, s1, s2, s3⟩ := dgt_code (ns := ns) (nl := nl) (j := k - ((a * rd ns nl 1 + b) * rd ns nl 2 + c) * rd ns nl 3) ha hb hc (by omega)
      rw [Nat.add_sub_cancel' h1] at s0 s1 s2 s3
      exact ok_no hW.1 (nod_no (by rw [s0, s1, s2, s3]; exact Or.inr (h.elim Or.inl (fun q => Or.inr (Or.inl q))))))
    cases q1 : clb (nI c - 1) (nI a - 1) with
    | true =>
      rw [if_neg (show ¬ b2 true = 0 by decide), nm_s, sh_nx]
      exact ⟨_, rfl, rfl, skip (Or.inl q1), t0, t1⟩
    | false =>
      rw [if_pos (show b2 false = 0 from rfl), nm_s, c_clash]
      cases q2 : clb (nI c - 1) (nI b - 1) with
      | true =>
        rw [if_neg (show ¬ b2 true = 0 by decide), nm_s, sh_nx]
        exact ⟨_, rfl, rfl, skip (Or.inr q2), t0, t1⟩
      | false =>
        rw [if_pos (show b2 false = 0 from rfl), chk_eq (vp_dec0 (by decide)), nm_s]
        unfold f_X2_searchAll_J125
        obtain ⟨o, eo, ho, o0, o1, _⟩ := c_loopD h6 h4 hW ha hb hc c1 q1 q2 (s.2.1, s.2.2.1, s.2.2.2.1, upd s.2.2.2.2.1 ((2 : Int32)).toNatClampNeg (nI c - 1), s.2.2.2.2.2) (((upl2 s.2.2.2.2.1 (nI c - 1)).1 0 (by decide)).trans t0) (((upl2 s.2.2.2.2.1 (nI c - 1)).1 1 (by decide)).trans t1) (upl2 s.2.2.2.2.1 (nI c - 1)).2 hR
        rw [eo, bnd_s]
        unfold f_X2_searchAll_J180
        rw [nm_s, sh_nx]
        exact ⟨_, rfl, rfl, ho, o0, o1⟩
  · obtain ⟨e, hR, t⟩ := hJ
    unfold f_X2_searchAll_S87
    rw [e, nm_s, ch, if_pos ((sh_end (by omega) (by omega)).mpr (by omega))]
    refine ⟨_, rfl, ?_, t⟩
    rw [Nat.succ_mul (a * rd ns nl 1 + b)]
    exact hR
theorem c_loopB {ok : Nat → Bool} {W : Nat → Nat} {C : Nat → Int32} {wr : Nat → Nat → Bool} {ns nl nv : Nat} {K : Nat → Int32} {wishes full half : Nat → Int64} {vs : Nat → Int32} {views rsize : Int32} {rows : Nat → Int32} (h6 : ns ≤ 6) (h4 : nl ≤ 4) (hW : WH ok W C wr ns nl nv K wishes full half vs views rsize rows)
    {a : Nat} (ha : a < rd ns nl 0) (r : T10) (t0 : r.2.2.2.1 0 = nI a - 1) (hR : RT ok W C wr ns nl nv (a * rd ns nl 1 * rd ns nl 2 * rd ns nl 3) r) :
    OK (lp (fun q => f_X2_searchAll_S58 (nI ns) (nI nl) K wishes full half vs views rsize rows (nI a - 1) q.1 q.2.1 q.2.2.1 q.2.2.2.1 q.2.2.2.2.1 q.2.2.2.2.2.1 q.2.2.2.2.2.2.1 q.2.2.2.2.2.2.2.1 q.2.2.2.2.2.2.2.2.1 q.2.2.2.2.2.2.2.2.2.1 q.2.2.2.2.2.2.2.2.2.2) ((-1 : Int32), r)) (fun o => RT ok W C wr ns nl nv ((a + 1) * rd ns nl 1 * rd ns nl 2 * rd ns nl 3) o) := by
  have r7 := rd_le (nl := nl) (l := 1) h6
  have rp := rd_pos ns nl 1
  have ch : f_X2_choices (nI ns) (nI nl) (1 : Int32) = nI (rd ns nl 1 - 1) := c_choices (l := 1) h4 (by decide)
  refine ok_lp (fun b s => s.1 = nI b - 1 ∧ RT ok W C wr ns nl nv ((a * rd ns nl 1 + b) * rd ns nl 2 * rd ns nl 3) s.2 ∧ s.2.2.2.2.1 0 = nI a - 1) (rd ns nl 1) (fun b s hb hJ => Or.inl ?_) (fun s hJ => ?_) ⟨rfl, hR, t0⟩
  · obtain ⟨e, hR, t0⟩ := hJ
    unfold f_X2_searchAll_S58 f_X2_searchAll_J186
    rw [e, nm_s, ch, if_neg (mt (sh_end (by omega) (by omega)).mp (by omega)), nm_s, c_clash]
    cases q1 : clb (nI b - 1) (nI a - 1) with
    | true =>
      rw [if_neg (show ¬ b2 true = 0 by decide), nm_s, sh_nx]
      refine ⟨_, rfl, rfl, ?_, t0⟩
      have enx : (a * rd ns nl 1 + (b + 1)) * rd ns nl 2 * rd ns nl 3 = (a * rd ns nl 1 + b) * rd ns nl 2 * rd ns nl 3 + rd ns nl 2 * rd ns nl 3 := by rw [← Nat.add_assoc, Nat.succ_mul, Nat.add_mul]
      rw [enx]
      refine RS.skips hR _ (fun k h1 h2 => ?_)
      rw [← enx, ← Nat.add_assoc] at h2
      have p3 := rd_pos ns nl 3
      have p2 := rd_pos ns nl 2
      have k1 : (a * rd ns nl 1 + b) * rd ns nl 2 ≤ k / rd ns nl 3 := (Nat.le_div_iff_mul_le p3).mpr h1
      have k2 : k / rd ns nl 3 < (a * rd ns nl 1 + b + 1) * rd ns nl 2 := (Nat.div_lt_iff_lt_mul p3).mpr h2
      have k3 : a * rd ns nl 1 + b ≤ k / rd ns nl 3 / rd ns nl 2 := (Nat.le_div_iff_mul_le p2).mpr k1
      have k4 : k / rd ns nl 3 / rd ns nl 2 < a * rd ns nl 1 + b + 1 := (Nat.div_lt_iff_lt_mul p2).mpr k2
      have k5 : k / rd ns nl 3 / rd ns nl 2 = a * rd ns nl 1 + b := by omega
      have s1 : stm ns nl k 1 = nI b - 1 := by unfold stm dgt; rw [k5, (dm hb).2]; rfl
      have s0 : stm ns nl k 0 = nI a - 1 := by unfold stm dgt; rw [k5, (dm hb).1, Nat.mod_eq_of_lt ha]; rfl
      exact ok_no hW.1 (nod_no (by rw [s0, s1]; exact Or.inl q1))
    | false =>
      rw [if_pos (show b2 false = 0 from rfl), chk_eq (vp_dec0 (by decide)), nm_s]
      unfold f_X2_searchAll_J87
      obtain ⟨o, eo, ho, o0, _⟩ := c_loopC h6 h4 hW ha hb q1 (s.2.1, s.2.2.1, s.2.2.2.1, upd s.2.2.2.2.1 ((1 : Int32)).toNatClampNeg (nI b - 1), s.2.2.2.2.2) (((upl1 s.2.2.2.2.1 (nI b - 1)).1 0 (by decide)).trans t0) (upl1 s.2.2.2.2.1 (nI b - 1)).2 hR
      rw [eo, bnd_s]
      unfold f_X2_searchAll_J186
      rw [nm_s, sh_nx]
      exact ⟨_, rfl, rfl, ho, o0⟩
  · obtain ⟨e, hR, t⟩ := hJ
    unfold f_X2_searchAll_S58
    rw [e, nm_s, ch, if_pos ((sh_end (by omega) (by omega)).mpr (by omega))]
    refine ⟨_, rfl, ?_⟩
    rw [Nat.succ_mul a]
    exact hR
theorem c_search {ok : Nat → Bool} {W : Nat → Nat} {C : Nat → Int32} {wr : Nat → Nat → Bool} {ns nl nv : Nat} {K : Nat → Int32} {wishes full half : Nat → Int64} {vs : Nat → Int32} {views rsize : Int32} {rows : Nat → Int32} (h6 : ns ≤ 6) (h4 : nl ≤ 4) (hW : WH ok W C wr ns nl nv K wishes full half vs views rsize rows)
    {two one missed always : Nat → Int64} {trial first sos : Nat → Int32} {fsh few perf : Int32} :
    OK (f_X2_searchAll (nI ns) (nI nl) K wishes full half two one missed trial vs views first fsh few perf always rsize rows sos) (fun o => RT ok W C wr ns nl nv (nst ns nl) o) := by
  have r7 := rd_le (nl := nl) (l := 0) h6
  have rp := rd_pos ns nl 0
  have ch : f_X2_choices (nI ns) (nI nl) (0 : Int32) = nI (rd ns nl 0 - 1) := c_choices (l := 0) h4 (by decide)
  unfold f_X2_searchAll f_X2_searchAll_J18
  refine ok_bnd (P := fun u => ∀ q, q < 3 → u q = (281474976710655 : Int64)) ?_ (fun al hal => ?_)
  · refine ok_lp (fun k s => s.1 = nI k ∧ ∀ q, q < k → s.2 q = (281474976710655 : Int64)) 3 (fun k s hk hJ => Or.inl ?_) (fun s hJ => ?_) ⟨rfl, fun q hq => absurd hq (Nat.not_lt_zero q)⟩
    · obtain ⟨e, h1⟩ := hJ
      unfold f_X2_searchAll_S18
      rw [e, if_neg (ge_3 hk), chk_n hk (by decide), nm_s, nI_clamp (by omega), nm_s, nI_1]
      refine ⟨_, rfl, rfl, fun q hq => ?_⟩
      show vp_updL _ _ _ _ = _
      rw [updL_at]
      by_cases y : q = k
      · rw [if_pos y]
      · rw [if_neg y]; exact h1 q (by omega)
    · obtain ⟨e, h1⟩ := hJ
      unfold f_X2_searchAll_S18
      rw [e, if_pos gl_3]
      exact ⟨_, rfl, h1⟩
  · have bw : ∀ i, i < 64 → bl (281474976710655 : Int64) i = decide (i < 48) := by decide +kernel
    unfold f_X2_searchAll_J38 f_X2_searchAll_J40
    refine ok_bnd (P := fun o => RT ok W C wr ns nl nv (nst ns nl) o) ?_ (fun z hz => ⟨_, rfl, hz⟩)
    refine ok_lp (fun a s => s.1 = nI a - 1 ∧ RT ok W C wr ns nl nv (a * rd ns nl 1 * rd ns nl 2 * rd ns nl 3) s.2) (rd ns nl 0) (fun a s ha hJ => Or.inl ?_) (fun s hJ => ?_) ⟨rfl, ?_⟩
    · obtain ⟨e, hR⟩ := hJ
      unfold f_X2_searchAll_S40
      rw [e, nm_s, ch, if_neg (mt (sh_end (by omega) (by omega)).mp (by omega)), chk_eq (vp_dec0 (by decide)), nm_s]
      unfold f_X2_searchAll_J58
      obtain ⟨o, eo, ho⟩ := c_loopB h6 h4 hW ha (s.2.1, s.2.2.1, s.2.2.2.1, upd s.2.2.2.2.1 ((0 : Int32)).toNatClampNeg (nI a - 1), s.2.2.2.2.2) (upl0 s.2.2.2.2.1 (nI a - 1)).2 hR
      rw [eo, bnd_s]
      unfold f_X2_searchAll_J192
      rw [nm_s, sh_nx]
      exact ⟨_, rfl, rfl, ho⟩
    · obtain ⟨e, hR⟩ := hJ
      unfold f_X2_searchAll_S40
      rw [e, nm_s, ch, if_pos ((sh_end (by omega) (by omega)).mpr (by omega))]
      exact ⟨_, rfl, hR⟩
    · rw [Nat.zero_mul, Nat.zero_mul, Nat.zero_mul]
      refine ⟨rfl, rfl, fun q => absurd rfl q, rfl, fun _ p hp => ?_, fun q hq i hi => ?_⟩
      · dsimp only
        rw [hal (p / 48) (by omega), bw _ (by omega), decide_eq_true (by omega)]
        rfl
      · dsimp only
        rw [hal q hq]
        by_cases i64 : i < 64
        · rw [bw i i64, decide_eq_false (by omega)]
        · exact bl_big (by omega)
