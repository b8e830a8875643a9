/-! ===== weighing one setting ===== -/
theorem c_keepAlw {missed always : Nat → Int64} : OK (f_X2_keepAlwaysMissed missed always) (fun a => ∀ q, q < 3 → a q = (always q &&& missed q)) := by
  unfold f_X2_keepAlwaysMissed f_X2_keepAlwaysMissed_J2
  refine ok_bnd (P := fun a => ∀ q, q < 3 → a q = (always q &&& missed q)) ?_ (fun z hz => ⟨_, rfl, hz⟩)
  refine ok_lp (fun k s => s.1 = nI k ∧ (∀ q, q < k → s.2 q = (always q &&& missed q)) ∧ ∀ q, k ≤ q → s.2 q = always q) 3 (fun k s hk hJ => Or.inl ?_) (fun s hJ => ?_) ⟨rfl, fun q hq => absurd hq (Nat.not_lt_zero q), fun _ _ => rfl⟩
  · obtain ⟨e, h1, h2⟩ := hJ
    unfold f_X2_keepAlwaysMissed_S2
    rw [e, if_neg (ge_3 hk), chk_n hk (by decide), chk_n hk (by decide), chk_n hk (by decide), nm_s, nI_clamp (by omega), nm_s, nI_1, h2 k (Nat.le_refl _)]
    refine ⟨_, rfl, rfl, fun q hq => ?_, fun q hq => ?_⟩
    · show vp_updL _ _ _ _ = _
      rw [updL_at]
      by_cases x : q = k
      · subst x; rw [if_pos rfl]
      · rw [if_neg x]; exact h1 q (by omega)
    · show vp_updL _ _ _ _ = _
      rw [updL_at, if_neg (by omega)]
      exact h2 q (by omega)
  · obtain ⟨e, h1, h2⟩ := hJ
    unfold f_X2_keepAlwaysMissed_S2
    rw [e, if_pos gl_3]
    exact ⟨_, rfl, h1⟩
def Sk (V : Nat → Nat → Nat → Nat → Nat) (u : Nat → Nat → Nat) (f : Nat → Int32) (n : Nat) : Nat := fb_sm (fun k => nW (V k) f (u k)) n
theorem Sk_le (V : Nat → Nat → Nat → Nat → Nat) (u : Nat → Nat → Nat) (f : Nat → Int32) (n : Nat) : Sk V u f n ≤ n * 144 := fb_sm_bound (fun k _ => nW_le _ _ _)
theorem Sk_mono (V : Nat → Nat → Nat → Nat → Nat) (u : Nat → Nat → Nat) (f : Nat → Int32) {n m : Nat} (h : n ≤ m) : Sk V u f n ≤ Sk V u f m := by
  have := fb_sm_mono (fun k => nW (V k) f (u k)) n (m - n)
  rwa [show n + (m - n) = m by omega] at this
theorem Sk_cong {V : Nat → Nat → Nat → Nat → Nat} {u : Nat → Nat → Nat} {f g : Nat → Int32} (h : ∀ l, l < 4 → f l = g l) (n : Nat) : Sk V u f n = Sk V u g n := fb_sm_cong (fun k _ => nW_cong h _)
theorem Zs_le {ok : Nat → Bool} {W : Nat → Nat} {C : Nat → Int32} (h : ∀ m, W m < 1000000) : ∀ m, (Zs ok W C m).1 ≤ 1000000 := by
  intro m
  induction m with
  | zero => exact Nat.le_refl _
  | succ m ih =>
    show (if _ then _ else _ : Nat × Int32 × Nat).1 ≤ _
    split
    · exact Nat.le_of_lt (h m)
    · exact ih
theorem c_weighs {rows K w : Nat → Int32} {wishes full half : Nat → Int64} {vs : Nat → Int32} {ns nl nr nv : Nat} {cc : Nat → Nat} {V : Nat → Nat → Nat → Nat → Nat} {u : Nat → Nat → Nat} (h6 : ns ≤ 6) (h4 : nl ≤ 4) (h20 : nr ≤ 20) (hv6 : nv ≤ 6) (hRu : RuO ns nl nr rows w)
    (hV : ∀ k, k < nv → vs k = nI (cc k) ∧ cc k < 6 ∧ TU w wishes (cc k) (u k) ∧ ∀ l, l < nl → ∀ s, s < ns → FH full half (72 * k + 18 * l + 3 * s) (V k l s)) (h2 : ∀ k l s p, V k l s p ≤ 2) :
    WH (okm rows K ns nl nr) (fun m => Sk V u (stm ns nl m) nv) (fun m => cnt4 (stm ns nl m) 4) (fun m p => wrb (V 0) (stm ns nl m) (u 0) p) ns nl nv K wishes full half vs (nI nv) (nI nr) rows := by
  refine ⟨fun m hm => ?_, fun m r trial ht hn hR => ?_⟩
  · unfold okm at hm
    rw [Bool.and_eq_true] at hm
    exact hm.1
  · have hset := (stm_set h6 hn).cong ht
    obtain ⟨pu, ep, hp⟩ := c_permit (sos := r.2.2.2.2.2.2.2.2.2) (K := K) hset h6 h4 hRu h20
    rw [perm_cong ht] at hp
    have hfw : (Zs (okm rows K ns nl nr) (fun m => Sk V u (stm ns nl m) nv) (fun m => cnt4 (stm ns nl m) 4) m).1 ≤ 1000000 := Zs_le (fun m => by have := Sk_le V u (stm ns nl m) nv; omega) m
    obtain ⟨r1, r2, r3, r4, r5, r6⟩ := hR
    unfold f_X2_weigh
    rw [ep, bnd_s, hp]
    by_cases z : perm rows K (stm ns nl m) nr = 0
    · rw [if_pos z]
      refine ⟨_, rfl, RS.skip ⟨r1, r2, r3, r4, r5, r6⟩ ?_⟩
      unfold okm
      rw [hn, decide_eq_true z]; rfl
    · have hok : okm rows K ns nl nr m = true := by unfold okm; rw [hn, decide_eq_false z]; rfl
      rw [if_neg z]
      unfold f_X2_weigh_J29
      have hS : ∀ k, k ≤ nv → Sk V u (stm ns nl m) k ≤ 864 := fun k hk => by have := Sk_le V u (stm ns nl m) k; omega
      refine ok_bnd (P := fun y => ∃ M, y.1 = nI M ∧ M ≤ 864 ∧ (M = Sk V u (stm ns nl m) nv ∨ ((Zs (okm rows K ns nl nr) (fun m => Sk V u (stm ns nl m) nv) (fun m => cnt4 (stm ns nl m) 4) m).1 < M ∧ M ≤ Sk V u (stm ns nl m) nv)) ∧ (1 ≤ nv → ∀ p, p < 144 → bl (y.2.2.2.2 (p / 48)) (p % 48) = (als (okm rows K ns nl nr) (fun m p => wrb (V 0) (stm ns nl m) (u 0) p) m p && wrb (V 0) (stm ns nl m) (u 0) p)) ∧ ∀ q, q < 3 → ∀ i, 48 ≤ i → bl (y.2.2.2.2 q) i = false) ?_ (fun y hy => ?_)
      · refine ok_lp (fun k s => s.1 = nI (Sk V u (stm ns nl m) k) ∧ s.2.1 = nI k ∧ (k = 0 → s.2.2.2.2.2 = r.2.2.2.2.2.2.2.2.1) ∧ (1 ≤ k → ∀ p, p < 144 → bl (s.2.2.2.2.2 (p / 48)) (p % 48) = (als (okm rows K ns nl nr) (fun m p => wrb (V 0) (stm ns nl m) (u 0) p) m p && wrb (V 0) (stm ns nl m) (u 0) p)) ∧ ∀ q, q < 3 → ∀ i, 48 ≤ i → bl (s.2.2.2.2.2 q) i = false) nv (fun k s hk hJ => ?_) (fun s hJ => ?_) ⟨rfl, rfl, fun _ => rfl, fun h => absurd h (by omega), r6⟩
        · obtain ⟨q1, q2, q3, q4, q5⟩ := hJ
          have hSk := hS k (by omega)
          obtain ⟨v1, v2, v3, v4⟩ := hV k hk
          unfold f_X2_weigh_S29
          rw [q1, q2, r1, if_neg (nI_ge hk (by omega))]
          by_cases y : (Zs (okm rows K ns nl nr) (fun m => Sk V u (stm ns nl m) nv) (fun m => cnt4 (stm ns nl m) 4) m).1 < Sk V u (stm ns nl m) k
          · rw [if_pos (nI_lt y (by omega))]
            have k1 : 1 ≤ k := by
              rcases (show k = 0 ∨ 1 ≤ k by omega) with e | e
              · subst e; exact absurd y (Nat.not_lt_zero _)
              · exact e
            exact Or.inr ⟨_, rfl, _, rfl, hSk, Or.inr ⟨y, Sk_mono V u _ (by omega)⟩, fun _ => q4 k1, q5⟩
          · rw [if_neg (nI_nlt (by omega) (by omega)), chk_n (by omega) (by decide), nI_clamp (by omega), v1]
            obtain ⟨o, eo, ho, hM⟩ := c_misses (two := s.2.2.1) (one := s.2.2.2.1) (missed := s.2.2.2.2.1) (v := k) (by omega) v2 (hset.six h6) (fun l s hl hs e => v4 l (hset.at6 h6 hl hs e).1 s (hset.at6 h6 hl hs e).2) (h2 k) v3
            rw [eo, bnd_s, ho, nW_cong ht, nm_s, nI_add]
            have eS : Sk V u (stm ns nl m) k + nW (V k) (stm ns nl m) (u k) = Sk V u (stm ns nl m) (k + 1) := rfl
            rw [eS]
            unfold f_X2_weigh_J74
            by_cases k0 : k = 0
            · subst k0
              rw [if_pos (show nI 0 = (0 : Int32) from rfl)]
              obtain ⟨al, ea, ha⟩ := c_keepAlw (missed := o.2.2.2) (always := s.2.2.2.2.2)
              rw [ea, bnd_s, nm_s, nI_1]
              refine Or.inl ⟨_, rfl, rfl, rfl, fun q => absurd q (by omega), fun _ p hp => ?_, fun q hq i hi => ?_⟩
              · show bl (al (p / 48)) (p % 48) = _
                rw [ha (p / 48) (by omega), bl_and, q3 rfl, r5 (by omega) p hp, hM.1 p hp]
                unfold wrb
                rw [SN_cong ht]
              · show bl (al q) i = _
                rw [ha q hq, bl_and, q5 q hq i hi, Bool.false_and]
            · rw [if_neg (nI_ne0 (by omega) (by omega)), nm_s, nI_1]
              exact Or.inl ⟨_, rfl, rfl, rfl, fun q => absurd q (by omega), fun _ => q4 (by omega), q5⟩
        · obtain ⟨q1, q2, q3, q4, q5⟩ := hJ
          unfold f_X2_weigh_S29
          rw [q1, q2, if_pos (Int32.le_refl _)]
          exact ⟨_, rfl, _, rfl, hS nv (Nat.le_refl _), Or.inl rfl, q4, q5⟩
      · obtain ⟨M, y1, y2, y3, y4, y5⟩ := hy
        have eC : f_X4_sheetsIn trial 4 = some (cnt4 (stm ns nl m) 4) := by rw [c_sheetsIn, cnt4_cong ht 4 (by decide)]
        have epf : pfs (okm rows K ns nl nr) (fun m => Sk V u (stm ns nl m) nv) (m + 1) = pfs (okm rows K ns nl nr) (fun m => Sk V u (stm ns nl m) nv) m + (if M = 0 then 1 else 0) := by
          unfold pfs
          rw [fb_ct_succ, hok, Bool.true_and]
          congr 1
          by_cases q : M = 0
          · rw [if_pos q, decide_eq_true (by dsimp only; omega)]; rfl
          · rw [if_neg q, decide_eq_false (by dsimp only; omega)]; rfl
        have eal : ∀ p, als (okm rows K ns nl nr) (fun m p => wrb (V 0) (stm ns nl m) (u 0) p) (m + 1) p = (als (okm rows K ns nl nr) (fun m p => wrb (V 0) (stm ns nl m) (u 0) p) m p && wrb (V 0) (stm ns nl m) (u 0) p) := fun p => by
          show (_ && (!okm rows K ns nl nr m || _)) = _
          rw [hok]; rfl
        have fin : ∀ pf', pf' = nI (pfs (okm rows K ns nl nr) (fun m => Sk V u (stm ns nl m) nv) (m + 1)) → OK (f_X2_weigh_J94 K wishes full half trial vs (nI nv) (nI nr) rows (nI M) y.2.1 y.2.2.1 y.2.2.2.1 r.2.2.2.2.1 r.2.2.2.2.2.1 r.2.2.2.2.2.2.1 pf' y.2.2.2.2 pu.2) (fun o => RS (okm rows K ns nl nr) (fun m => Sk V u (stm ns nl m) nv) (fun m => cnt4 (stm ns nl m) 4) (fun m p => wrb (V 0) (stm ns nl m) (u 0) p) (stm ns nl) nv (m + 1) o.2.2.2.1 o.2.2.2.2.1 o.2.2.2.2.2.1 o.2.2.2.2.2.2.1 o.2.2.2.2.2.2.2.1) := by
          intro pf' epf'
          unfold f_X2_weigh_J94 f_X2_weigh_J126
          rw [eC, bnd_s, r1, r2, gd_eq (by decide), nm_s]
          have stay : Zs (okm rows K ns nl nr) (fun m => Sk V u (stm ns nl m) nv) (fun m => cnt4 (stm ns nl m) 4) (m + 1) = Zs (okm rows K ns nl nr) (fun m => Sk V u (stm ns nl m) nv) (fun m => cnt4 (stm ns nl m) 4) m → RS (okm rows K ns nl nr) (fun m => Sk V u (stm ns nl m) nv) (fun m => cnt4 (stm ns nl m) 4) (fun m p => wrb (V 0) (stm ns nl m) (u 0) p) (stm ns nl) nv (m + 1) r.2.2.2.2.1 (Zs (okm rows K ns nl nr) (fun m => Sk V u (stm ns nl m) nv) (fun m => cnt4 (stm ns nl m) 4) m).2.1 (nI (Zs (okm rows K ns nl nr) (fun m => Sk V u (stm ns nl m) nv) (fun m => cnt4 (stm ns nl m) 4) m).1) pf' y.2.2.2.2 := fun ez => by
            unfold RS
            rw [ez]
            exact ⟨rfl, rfl, r3, epf', fun h p hp => (y4 h p hp).trans (eal p).symm, y5⟩
          have take : M = Sk V u (stm ns nl m) nv → Zs (okm rows K ns nl nr) (fun m => Sk V u (stm ns nl m) nv) (fun m => cnt4 (stm ns nl m) 4) (m + 1) = (Sk V u (stm ns nl m) nv, cnt4 (stm ns nl m) 4, m + 1) → RS (okm rows K ns nl nr) (fun m => Sk V u (stm ns nl m) nv) (fun m => cnt4 (stm ns nl m) 4) (fun m p => wrb (V 0) (stm ns nl m) (u 0) p) (stm ns nl) nv (m + 1) (va_cpy trial r.2.2.2.2.1 ((0 : Int32)).toNatClampNeg ((0 : Int32)).toNatClampNeg ((4 : Int32)).toNatClampNeg) (cnt4 (stm ns nl m) 4) (nI M) pf' y.2.2.2.2 := fun em ez => by
            unfold RS
            rw [ez, em]
            refine ⟨rfl, rfl, fun _ l hl => ?_, epf', fun h p hp => (y4 h p hp).trans (eal p).symm, y5⟩
            exact (cp0 trial r.2.2.2.2.1 4 l hl).trans (ht l hl)
          generalize hZ : Zs (okm rows K ns nl nr) (fun m => Sk V u (stm ns nl m) nv) (fun m => cnt4 (stm ns nl m) 4) m = Z at *
          have ez : Zs (okm rows K ns nl nr) (fun m => Sk V u (stm ns nl m) nv) (fun m => cnt4 (stm ns nl m) 4) (m + 1) = if okm rows K ns nl nr m = true ∧ (Sk V u (stm ns nl m) nv < Z.1 ∨ (Sk V u (stm ns nl m) nv = Z.1 ∧ cnt4 (stm ns nl m) 4 < Z.2.1)) then (Sk V u (stm ns nl m) nv, cnt4 (stm ns nl m) 4, m + 1) else Z := by
            rw [← hZ]; rfl
          by_cases a1 : M < Z.1
          · rw [if_pos (nI_lt a1 (by omega))]
            refine ⟨_, rfl, take (by omega) ?_⟩
            rw [ez, if_pos ⟨hok, Or.inl (by omega)⟩]
          · rw [if_neg (nI_nlt (by omega) (by omega))]
            by_cases a2 : M = Z.1
            · rw [if_pos (by rw [a2])]
              by_cases a3 : Z.2.1 ≤ cnt4 (stm ns nl m) 4
              · rw [if_pos a3]
                refine ⟨_, rfl, stay ?_⟩
                rw [ez, if_neg]
                rintro ⟨_, q | ⟨_, q⟩⟩
                · omega
                · exact absurd (Int32.lt_of_lt_of_le q a3) Int32.lt_irrefl
              · rw [if_neg a3]
                refine ⟨_, rfl, take (by omega) ?_⟩
                rw [ez, if_pos ⟨hok, Or.inr ⟨by omega, Int32.not_le.mp a3⟩⟩]
            · rw [if_neg (mt (nI_eq (by omega) (by omega)).mp a2)]
              refine ⟨_, rfl, stay ?_⟩
              rw [ez, if_neg]
              rintro ⟨_, q | ⟨q, _⟩⟩ <;> omega
        unfold f_X2_weigh_J80
        rw [y1]
        by_cases q : M = 0
        · rw [if_pos (by rw [q]; rfl), nm_s]
          refine fin _ ?_
          rw [r4, nI_1, epf, if_pos q]
        · rw [if_neg (nI_ne0 (by omega) (by omega))]
          refine fin _ ?_
          rw [r4, epf, if_neg q]
          rfl
