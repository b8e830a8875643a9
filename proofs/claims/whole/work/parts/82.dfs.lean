/-! ===== order: the model's search ===== -/
theorem git_cong {c : Nat → Nat → Nat} {n : Nat} : ∀ j (U U' : Nat → Bool) a, (∀ i, i < n → U i = U' i) → (git c n j (U, a)).2 = (git c n j (U', a)).2 ∧ ∀ i, i < n → (git c n j (U, a)).1 i = (git c n j (U', a)).1 i := by
  intro j
  induction j with
  | zero => intro U U' a h; exact ⟨rfl, h⟩
  | succ j ih =>
    intro U U' a h
    obtain ⟨h1, h2⟩ := ih U U' a h
    show (gs c n (git c n j (U, a))).2 = (gs c n (git c n j (U', a))).2 ∧ ∀ i, i < n → (gs c n (git c n j (U, a))).1 i = (gs c n (git c n j (U', a))).1 i
    unfold gs
    rw [h1, pk_cong h2]
    cases e : pk c n (git c n j (U', a)).1 (git c n j (U', a)).2 with
    | none => exact ⟨h1, h2⟩
    | some p => exact ⟨rfl, sb_cong h2⟩
theorem pth_cong {c : Nat → Nat → Nat} {n d a : Nat} {q : Nat → Nat} {U U' : Nat → Bool} (h : ∀ i, i < n → U i = U' i) : pth c n d q U a = pth c n d q U' a := by
  funext j
  unfold pth
  rw [(git_cong (j - d + 1) U U' a h).1]
theorem sub_add1 (x : Int32) : x - 1 + 1 = x := by rw [Int32.sub_eq_add_neg, Int32.add_assoc, show (-1 : Int32) + 1 = 0 from rfl, Int32.add_zero]
noncomputable def bk (M d : Nat) (q : Nat → Nat) : Int32 := if d = 1 then nI M else nI M &&& (((1 : Int32) <<< (nI (q (d - 1)) &&& 31)) ^^^ (-1 : Int32))
theorem m_up {w st pl apt od sm bo : Nat → Int32} {n M d : Nat} {q : Nat → Nat} {bst : Int32} (h1 : 1 ≤ d) (h9 : d ≤ 9) (ho : od (d - 1) = nI (q (d - 1))) : f_X8_orders_J143 w (nI n) st pl apt bst (nI M) (nI d) od sm bo = some (.inl (bst, bk M d q, nI (d - 1), od, sm, bo)) := by
  unfold f_X8_orders_J143 bk
  rw [nm_s, show nI d + (-1 : Int32) = nI (d - 1) by rw [← Int32.sub_eq_add_neg]; exact pk_sub (b := 1) h1]
  by_cases e : d = 1
  · rw [if_pos e, if_pos (show nI (d - 1) ≤ 0 by rw [e]; decide)]
  · rw [if_neg e, if_neg (show ¬ nI (d - 1) ≤ 0 from nI_ge (a := 0) (by omega) (by omega)), chk_n (by omega) (by decide), nm_s, nI_clamp (by omega), ho]
theorem dfs {w st pl apt : Nat → Int32} {c : Nat → Nat → Nat} {n : Nat} (hc : ∀ i j, c i j ≤ 12) (hap : ∀ i j, i < n → j < n → apt (8 * i + j) = nI (c i j)) (hn : n ≤ 8) : ∀ r d, d + r = n → 1 ≤ d → ∀ (q sums : Nat → Nat) (M : Nat) (x : Option Nat × (Nat → Nat)) (bst : Int32) (od sm bo : Nat → Int32), (∀ i, i < d → od i = nI (q i) ∧ q i < n ∧ sm i = nI (sums i) ∧ sums i ≤ 12 * i) → M < 256 → cnf (UB M) n = r → (d < n → od d = -1) → BS n x bst bo → ∃ bst' od' sm' bo', BS n (up2 x (sums (d - 1) + LL c n (UB M) (q (d - 1))) (pth c n d q (UB M) (q (d - 1)))) bst' bo' ∧ (∀ i, i < d → od' i = od i ∧ sm' i = sm i) ∧ ∀ R, lp (fun q => f_X8_orders_S78 w (nI n) st pl apt q.1 q.2.1 q.2.2.1 q.2.2.2.1 q.2.2.2.2.1 q.2.2.2.2.2) (bst', bk M d q, nI (d - 1), od', sm', bo') = some R → lp (fun q => f_X8_orders_S78 w (nI n) st pl apt q.1 q.2.1 q.2.2.1 q.2.2.2.1 q.2.2.2.2.1 q.2.2.2.2.2) (bst, nI M, nI d, od, sm, bo) = some R := by
  intro r
  induction r with
  | zero =>
    intro d hd h1 q sums M x bst od sm bo hq hM hcn _ hB
    obtain rfl : d = n := hd
    have hL : LL c d (UB M) (q (d - 1)) = 0 := by
      rw [LL_eq hn, show pk c d (UB M) (q (d - 1)) = none from pick_none d (cnf_0 d hcn)]
    obtain ⟨o1, o2, o3, o4⟩ := hq (d - 1) (by omega)
    rw [hL, Nat.add_zero]
    have hpt : ∀ j, j < d → pth c d d q (UB M) (q (d - 1)) j = q j := fun j hj => if_pos hj
    have e0 : ¬ nI d ≤ 0 := nI_ge (a := 0) (by omega) (by omega)
    obtain ⟨r, er, hr⟩ := m_keep (w := w) (st := st) (pl := pl) (apt := apt) (sm := sm) (bo := bo) (od := od) (bst := nI (sums (d - 1))) (l3 := nI M) (l4 := nI d) hn
    have take : f_X8_orders_J105 w (nI d) st pl apt (nI M) (nI d) od sm bo = some (.inl (nI (sums (d - 1)), bk M d q, nI (d - 1), od, sm, r)) := by
      unfold f_X8_orders_J105 f_X8_orders_J117
      rw [show nI d - (1 : Int32) = nI (d - 1) from pk_sub (b := 1) h1, chk_n (by omega) (by decide), nm_s, nI_clamp (by omega), o3, er, bnd_s, m_up h1 (by omega) o1]
    have bsn : BS d (some (sums (d - 1)), pth c d d q (UB M) (q (d - 1))) (nI (sums (d - 1))) r := by
      refine ⟨(fun z => by cases z), fun b hb => ?_⟩
      have eb : sums (d - 1) = b := Option.some.inj hb
      rw [← eb]
      refine ⟨rfl, by omega, fun j hj => ?_⟩
      rw [hr j hj, (hq j hj).1]
      show _ = nI (pth c d d q (UB M) (q (d - 1)) j)
      rw [hpt j hj]
    cases ex : x.1 with
    | none =>
      rw [up2_n ex]
      refine ⟨_, _, _, _, bsn, fun _ _ => ⟨rfl, rfl⟩, fun R hR => lp_go ?_ hR⟩
      show f_X8_orders_S78 w (nI d) st pl apt bst (nI M) (nI d) od sm bo = _
      unfold f_X8_orders_S78
      rw [if_neg e0, if_pos rfl, hB.1 ex, if_pos (by decide), take]
    | some b =>
      obtain ⟨g1, g2, g3⟩ := hB.2 b ex
      rw [up2_s ex]
      by_cases z : sums (d - 1) < b
      · rw [if_pos z]
        refine ⟨_, _, _, _, bsn, fun _ _ => ⟨rfl, rfl⟩, fun R hR => lp_go ?_ hR⟩
        show f_X8_orders_S78 w (nI d) st pl apt bst (nI M) (nI d) od sm bo = _
        unfold f_X8_orders_S78
        rw [if_neg e0, if_pos rfl, g1, if_neg (show ¬ nI b < 0 from nI_nlt (b := 0) (Nat.zero_le _) (by omega)), show nI d - (1 : Int32) = nI (d - 1) from pk_sub (b := 1) h1, chk_n (by omega) (by decide), nI_clamp (by omega), o3, if_neg (nI_ge z (by omega)), take]
      · rw [if_neg z]
        refine ⟨_, _, _, _, hB, fun _ _ => ⟨rfl, rfl⟩, fun R hR => lp_go ?_ hR⟩
        show f_X8_orders_S78 w (nI d) st pl apt bst (nI M) (nI d) od sm bo = _
        unfold f_X8_orders_S78
        rw [if_neg e0, if_pos rfl, g1, if_neg (show ¬ nI b < 0 from nI_nlt (b := 0) (Nat.zero_le _) (by omega)), show nI d - (1 : Int32) = nI (d - 1) from pk_sub (b := 1) h1, chk_n (by omega) (by decide), nI_clamp (by omega), o3, if_pos (nI_le (by omega) (by omega)), m_up h1 (by omega) o1]
  | succ r ih =>
    intro d hd h1 q sums M x bst od sm bo hq hM hcn hod hB
    have hdn : d < n := by omega
    rw [← res_step x hn (show 0 < cnf (UB M) n by omega)]
    have inner : ∀ e k, n - k ≤ e → k ≤ n → ∀ (bst : Int32) (od sm bo : Nat → Int32), (∀ i, i < d → od i = nI (q i) ∧ q i < n ∧ sm i = nI (sums i) ∧ sums i ≤ 12 * i) → od d = nI k - 1 → BS n (fo (fun k => sums (d - 1) + c (q (d - 1)) k + LL c n (sb (UB M) k) k) (fun k => pth c n (d + 1) (fun j => if j = d then k else q j) (sb (UB M) k) k) (UB M) x k) bst bo → ∃ bst' od' sm' bo', BS n (fo (fun k => sums (d - 1) + c (q (d - 1)) k + LL c n (sb (UB M) k) k) (fun k => pth c n (d + 1) (fun j => if j = d then k else q j) (sb (UB M) k) k) (UB M) x n) bst' bo' ∧ (∀ i, i < d → od' i = od i ∧ sm' i = sm i) ∧ ∀ R, lp (fun q => f_X8_orders_S78 w (nI n) st pl apt q.1 q.2.1 q.2.2.1 q.2.2.2.1 q.2.2.2.2.1 q.2.2.2.2.2) (bst', bk M d q, nI (d - 1), od', sm', bo') = some R → lp (fun q => f_X8_orders_S78 w (nI n) st pl apt q.1 q.2.1 q.2.2.1 q.2.2.2.1 q.2.2.2.2.1 q.2.2.2.2.2) (bst, nI M, nI d, od, sm, bo) = some R := by
      intro e
      induction e with
      | zero =>
        intro k hk1 hk2 bst od sm bo hq2 hod2 hB2
        obtain rfl : k = n := by omega
        obtain ⟨o1, o2, o3, o4⟩ := hq2 (d - 1) (by omega)
        refine ⟨bst, upd (upd od d (nI k)) d (nI (rn (UB M) k k)), sm, bo, hB2, fun i hi => ⟨by rw [upd_ne (by omega), upd_ne (by omega)], rfl⟩, fun R hR => lp_go ?_ hR⟩
        have hr : rn (UB M) k k = k := rn_stop (Or.inr (Nat.le_refl _))
        show f_X8_orders_S78 w (nI k) st pl apt bst (nI M) (nI d) od sm bo = _
        unfold f_X8_orders_S78 f_X8_orders_J179
        rw [if_neg (show ¬ nI d ≤ 0 from nI_ge (a := 0) (by omega) (by omega)), if_neg (mt (nI_eq (by omega) (by omega)).mp (by omega)), chk_n (by omega) (by decide), chk_n (by omega) (by decide), nm_s, nI_clamp (by omega), hod2, show nI k - 1 + 1 = nI k from sub_add1 _, m_skipU hn hM (by omega) (Nat.le_refl _) (upd_same _ _ _), bnd_s]
        unfold f_X8_orders_J218
        rw [chk_n (by omega) (by decide), nI_clamp (by omega), upd_same, hr, if_neg (Int32.lt_irrefl)]
        exact m_up (n := k) (w := w) (st := st) (pl := pl) (apt := apt) h1 (by omega) (by rw [upd_ne (by omega), upd_ne (by omega)]; exact o1)
      | succ e ihe =>
        intro k hk1 hk2 bst od sm bo hq hod hB
        obtain ⟨o1, o2, o3, o4⟩ := hq (d - 1) (by omega)
        obtain ⟨r1, r2, r3, r4⟩ := rn_facts (UB M) hk2
        have hfo := fo_skip (v := fun k => sums (d - 1) + c (q (d - 1)) k + LL c n (sb (UB M) k) k) (P := fun k => pth c n (d + 1) (fun j => if j = d then k else q j) (sb (UB M) k) k) (U := UB M) (x := x) (k := k) (rn (UB M) n k - k) (fun i h1 h2 => r3 i h1 (by omega))
        rw [show k + (rn (UB M) n k - k) = rn (UB M) n k by omega] at hfo
        rw [← hfo] at hB
        have st1 : f_X8_orders_S78 w (nI n) st pl apt bst (nI M) (nI d) od sm bo = f_X8_orders_J218 w (nI n) st pl apt bst (nI M) (nI d) (upd (upd od d (nI k)) d (nI (rn (UB M) n k))) sm bo := by
          unfold f_X8_orders_S78 f_X8_orders_J179
          rw [if_neg (show ¬ nI d ≤ 0 from nI_ge (a := 0) (by omega) (by omega)), if_neg (mt (nI_eq (by omega) (by omega)).mp (by omega)), chk_n (by omega) (by decide), chk_n (by omega) (by decide), nm_s, nI_clamp (by omega), hod, show nI k - 1 + 1 = nI k from sub_add1 _, m_skipU hn hM (by omega) hk2 (upd_same _ _ _), bnd_s]
        generalize rn (UB M) n k = k' at r1 r2 r4 hB st1
        have os : ∀ i, i < d → upd (upd od d (nI k)) d (nI k') i = od i := fun i hi => by rw [upd_ne (by omega), upd_ne (by omega)]
        by_cases z : k' < n
        · have hz : M / 2 ^ k' % 2 = 0 := UB_f.mp (r4 z)
          obtain ⟨t1, t2, t3⟩ := or_tab M hM k' (by omega) hz
          have hck := hc (q (d - 1)) k'
          have hub : ∀ i, i < n → UB (M + 2 ^ k') i = sb (UB M) k' i := fun i hi => UB_sb hM (by omega) hz i (by omega)
          have hcs := cnf_sb (r4 z) n
          rw [if_pos z] at hcs
          obtain ⟨bst1, od1, sm1, bo1, g1, g2, g3⟩ := ih (d + 1) (by omega) (by omega) (fun j => if j = d then k' else q j) (fun j => if j = d then sums (d - 1) + c (q (d - 1)) k' else sums j) (M + 2 ^ k') _ bst (upd (upd (upd od d (nI k)) d (nI k')) (d + 1) (-1)) (upd sm d (nI (sums (d - 1) + c (q (d - 1)) k'))) bo (fun i hi => by
            by_cases e : i = d
            · subst e
              rw [upd_ne (by omega), upd_same, upd_same, if_pos rfl, if_pos rfl]
              exact ⟨rfl, z, rfl, by omega⟩
            · rw [upd_ne (by omega), os i (by omega), upd_ne e, if_neg e, if_neg e]
              exact hq i (by omega)) t2 (by rw [cnf_cong n hub]; omega) (fun _ => upd_same _ _ _) hB
          rw [Nat.add_sub_cancel, if_pos rfl, if_pos rfl, LL_cong hub, pth_cong hub] at g1
          have hfo1 : fo (fun k => sums (d - 1) + c (q (d - 1)) k + LL c n (sb (UB M) k) k) (fun k => pth c n (d + 1) (fun j => if j = d then k else q j) (sb (UB M) k) k) (UB M) x (k' + 1) = up2 (fo (fun k => sums (d - 1) + c (q (d - 1)) k + LL c n (sb (UB M) k) k) (fun k => pth c n (d + 1) (fun j => if j = d then k else q j) (sb (UB M) k) k) (UB M) x k') (sums (d - 1) + c (q (d - 1)) k' + LL c n (sb (UB M) k') k') (pth c n (d + 1) (fun j => if j = d then k' else q j) (sb (UB M) k') k') := by
            show (if UB M k' = true then _ else _) = _
            rw [if_neg (by rw [r4 z]; decide)]
          rw [← hfo1] at g1
          obtain ⟨bst2, od2, sm2, bo2, j1, j2, j3⟩ := ihe (k' + 1) (by omega) (by omega) bst1 od1 sm1 bo1 (fun i hi => by
            rw [(g2 i (by omega)).1, (g2 i (by omega)).2, upd_ne (by omega), os i hi, upd_ne (by omega)]
            exact hq i hi) (by rw [(g2 d (by omega)).1, upd_ne (by omega), upd_same]; exact (pk_sub (a := k' + 1) (b := 1) (by omega)).symm) g1
          refine ⟨bst2, od2, sm2, bo2, j1, fun i hi => ?_, fun R hR => lp_go ?_ (g3 R ?_)⟩
          · rw [(j2 i hi).1, (j2 i hi).2, (g2 i (by omega)).1, (g2 i (by omega)).2, upd_ne (by omega), os i hi, upd_ne (by omega)]
            exact ⟨rfl, rfl⟩
          · refine st1.trans ?_
            unfold f_X8_orders_J218
            rw [chk_n (by omega) (by decide), nI_clamp (by omega), upd_same, if_pos (nI_lt z (by omega)), chk_n (by omega) (by decide), t1, nm_s, show nI d - (1 : Int32) = nI (d - 1) from pk_sub (b := 1) h1, chk_n (by omega) (by decide), chk_n (by omega) (by decide), chk_n (by omega) (by decide), nI_clamp (by omega), os (d - 1) (by omega), o1, show (8 : Int32) * nI (q (d - 1)) + nI k' = nI (8 * q (d - 1) + k') by rw [show (8 : Int32) = nI 8 from rfl, pk_mul, nI_add], chk_n (by omega) (by decide), chk_n (by omega) (by decide), nm_s, nm_s, nI_1, chk_n (by omega) (by decide), nm_s, nI_clamp (by omega), nI_clamp (by omega), o3, hap _ _ o2 z, nI_add]
          · have eb : bk (M + 2 ^ k') (d + 1) (fun j => if j = d then k' else q j) = nI M := by
              unfold bk
              rw [if_neg (by omega), Nat.add_sub_cancel]
              show nI (M + 2 ^ k') &&& (((1 : Int32) <<< (nI (if d = d then k' else q d) &&& 31)) ^^^ (-1 : Int32)) = nI M
              rw [if_pos rfl]
              exact t3
            rw [eb, Nat.add_sub_cancel]
            exact j3 R hR
        · obtain rfl : k' = n := by omega
          refine ⟨bst, _, sm, bo, hB, fun i hi => ⟨os i hi, rfl⟩, fun R hR => lp_go (st1.trans ?_) hR⟩
          unfold f_X8_orders_J218
          rw [chk_n (by omega) (by decide), nI_clamp (by omega), upd_same, if_neg (Int32.lt_irrefl)]
          exact m_up (n := k') (w := w) (st := st) (pl := pl) (apt := apt) h1 (by omega) (by rw [os (d - 1) (by omega)]; exact o1)
    exact inner n 0 (by omega) (Nat.zero_le _) bst od sm bo hq (by rw [hod hdn]; rfl) hB
