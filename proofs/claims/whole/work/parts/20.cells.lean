theorem nd_X0_beside : yX0_beside.cls ≠ "java/lang/invoke/MethodHandle" ∧ yX0_beside.cls ≠ "java/lang/invoke/VarHandle" ∧ (parseMethodDescriptor yX0_beside.desc).map (fun d => d.parameters.length) = some 1 := by decide +kernel
def rm_c_X0_beside : Room := { frames := 0, cells := 0, slots := 0, locals := 0 }
set_option maxRecDepth 100000 in
set_option maxHeartbeats 4000000 in
theorem c_X0_beside (l : Launch) (D : va_G) (ca : Nat → ClassId) (a0 : Int32) (u : Int32) (hf : f_X0_beside a0 = u) : CR l yX0_beside cX0_beside 2 (some .int) rm_c_X0_beside [.int a0] D ca [] (some (.int u)) := by
  refine CR_of (by decide) (Nat.le_of_ble_eq_true rfl) ?_
  intro p e s m args below meth c ls Q hx hb hml hown htg hP hK hl hQ hr hk
  replace hown : s.vm.findClass "LampSheets$Cells" = some m.cls := hown
  replace hl : lv_has ls 2 [(0, .int a0)] := hl
  unfold f_X0_beside at hf
  refine lv_iload_n hx hb dX0_beside_0 rfl (lv_at hl 0 rfl) ?_
  refine lv_ldc hx hb hown (htg _ mw723) dX0_beside_1 ?_
  refine lv_iand hx hb dX0_beside_3 ?_
  refine lv_iconst (v := (1 : Int32)) hx hb dX0_beside_4 (by decide) ?_
  refine lv_ishl hx hb dX0_beside_5 ?_
  refine lv_iload_n hx hb dX0_beside_6 rfl (lv_at hl 0 rfl) ?_
  refine lv_ldc hx hb hown (htg _ mw724) dX0_beside_7 ?_
  refine lv_iand hx hb dX0_beside_9 ?_
  refine lv_iconst (v := (1 : Int32)) hx hb dX0_beside_10 (by decide) ?_
  refine lv_ishr hx hb dX0_beside_11 ?_
  refine lv_ior hx hb dX0_beside_12 ?_
  refine lv_topi (fun x1 ex1 => ?_)
  replace hf := nm_at ex1 hf
  refine lv_istore_n (lv' := [(1, .int x1), (0, .int a0)]) hx hb dX0_beside_13 rfl hl (by decide) rfl (fun ls hl => ?_)
  refine lv_iload_n hx hb dX0_beside_14 rfl (lv_at hl 0 rfl) ?_
  refine lv_iload_n hx hb dX0_beside_15 rfl (lv_at hl 1 rfl) ?_
  refine lv_iconst (v := (5 : Int32)) hx hb dX0_beside_16 (by decide) ?_
  refine lv_ishl hx hb dX0_beside_17 ?_
  refine lv_ior hx hb dX0_beside_18 ?_
  refine lv_iload_n hx hb dX0_beside_19 rfl (lv_at hl 1 rfl) ?_
  refine lv_iconst (v := (5 : Int32)) hx hb dX0_beside_20 (by decide) ?_
  refine lv_ishr hx hb dX0_beside_21 ?_
  refine lv_ior hx hb dX0_beside_22 ?_
  refine lv_ldc hx hb hown (htg _ mw725) dX0_beside_23 ?_
  refine lv_iand hx hb dX0_beside_25 ?_
  exact ret_i hQ hx hb hr hk dX0_beside_26 (by cases hf; rfl)
theorem nd_X0_joined : yX0_joined.cls ≠ "java/lang/invoke/MethodHandle" ∧ yX0_joined.cls ≠ "java/lang/invoke/VarHandle" ∧ (parseMethodDescriptor yX0_joined.desc).map (fun d => d.parameters.length) = some 2 := by decide +kernel
def rm_c_X0_joined : Room := { frames := 1, cells := 0, slots := 0, locals := 21 }
set_option maxRecDepth 100000 in
set_option maxHeartbeats 4000000 in
theorem c_X0_joined (l : Launch) (D : va_G) (ca : Nat → ClassId) (a0 : Int32) (a1 : Int32) (u : Int32) (hf : f_X0_joined a0 a1 = some u) : CR l yX0_joined cX0_joined 5 (some .int) rm_c_X0_joined [.int a0, .int a1] D ca [] (some (.int u)) := by
  refine CR_of (by decide) (Nat.le_of_ble_eq_true rfl) ?_
  intro p e s m args below meth c ls Q hx hb hml hown htg hP hK hl hQ hr hk
  replace hown : s.vm.findClass "LampSheets$Cells" = some m.cls := hown
  replace hl : lv_has ls 5 [(0, .int a0), (1, .int a1)] := hl
  unfold f_X0_joined at hf
  have J39 : ∀ (l2 : Int32) (ls : Array Slot), f_X0_joined_J39 a0 a1 l2 = some u → lv_has ls 5 [(2, .int l2)] → W p l e rm_c_X0_joined s m args below meth c s.heap [] 0 0 Q (F0 m 39 ls []) := by
    intro l2 ls hf hl
    unfold f_X0_joined_J39 at hf
    refine lv_iload_n hx hb dX0_joined_39 rfl (lv_at hl 0 rfl) ?_
    exact ret_i hQ hx hb hr hk dX0_joined_40 (by cases hf; rfl)
  have J28 : ∀ (l2 : Int32) (ls : Array Slot), f_X0_joined_J28 a0 a1 l2 = some u → lv_has ls 5 [(2, .int l2)] → W p l e rm_c_X0_joined s m args below meth c s.heap [] 0 0 Q (F0 m 28 ls []) := by
    intro l2 ls hf hl
    unfold f_X0_joined_J28 at hf
    refine lv_iload_n hx hb dX0_joined_28 rfl (lv_at hl 0 rfl) ?_
    exact ret_i hQ hx hb hr hk dX0_joined_29 (by cases hf; rfl)
  have J6 : ∀ (l2 : Int32) (l3 : Int32) (ls : Array Slot), f_X0_joined_J6 a0 a1 l2 l3 = some u → lv_has ls 5 [(1, .int a1), (2, .int l2), (3, .int l3)] → W p l e rm_c_X0_joined s m args below meth c s.heap [] 0 0 Q (F0 m 6 ls []) := by
    intro l2 l3 ls hf hl
    unfold f_X0_joined_J6 at hf
    obtain ⟨ex, hlp, hf⟩ := bnd_some hf
    obtain ⟨n, hn⟩ := lp_some hlp
    have X6_28 : ∀ (l2 : Int32) (ls : Array Slot), (Sum.inl l2) = ex → lv_has ls 5 [(2, .int l2)] → W p l e rm_c_X0_joined s m args below meth c s.heap [] 0 0 Q (F0 m 28 ls []) := by
      intro l2 ls hE hl
      have hf := hf
      rw [← hE] at hf
      replace hf : f_X0_joined_J28 a0 a1 l2 = some u := hf
      exact J28 l2 ls hf (lv_sub hl [0] rfl)
    have X6_39 : ∀ (l2 : Int32) (ls : Array Slot), (Sum.inr l2) = ex → lv_has ls 5 [(2, .int l2)] → W p l e rm_c_X0_joined s m args below meth c s.heap [] 0 0 Q (F0 m 39 ls []) := by
      intro l2 ls hE hl
      have hf := hf
      rw [← hE] at hf
      replace hf : f_X0_joined_J39 a0 a1 l2 = some u := hf
      exact J39 l2 ls hf (lv_sub hl [0] rfl)
    have L : ∀ (n : Nat) (l2 : Int32) (l3 : Int32) (ls : Array Slot), itr (fun q => f_X0_joined_S6 a0 a1 q.1 q.2) n (l2, l3) = some ex → lv_has ls 5 [(1, .int a1), (2, .int l2), (3, .int l3)] → W p l e rm_c_X0_joined s m args below meth c s.heap [] 0 0 Q (F0 m 6 ls []) := by
      intro n
      induction n with
      | zero => intro l2 l3 ls hn; cases hn
      | succ n ih =>
        intro l2 l3 ls hn hl
        obtain ⟨o, hf, hg, he⟩ := itr_s hn
        replace hf : f_X0_joined_S6 a0 a1 l2 l3 = some o := hf
        unfold f_X0_joined_S6 at hf
        refine lv_iload_n hx hb dX0_joined_6 rfl (lv_at hl 2 rfl) ?_
        refine lv_bipush (v := (25 : Int32)) hx hb dX0_joined_7 (by decide) ?_
        refine lv_icmp_ge (tgt := 39) hx hb dX0_joined_9 (by decide) (fun hc => ?_) (fun hc => ?_)
        · rw [if_pos hc] at hf
          exact X6_39 l2 ls (he _ (Option.some.inj hf).symm) (lv_sub hl [1] rfl)
        · rw [if_neg hc] at hf
          refine lv_iload_n hx hb dX0_joined_12 rfl (lv_at hl 1 rfl) ?_
          refine lv_iload_n hx hb dX0_joined_13 rfl (lv_at hl 1 rfl) ?_
          obtain ⟨u3, hu3⟩ : ∃ z, z = (f_X0_beside l2) := ⟨_, rfl⟩
          replace hf := nm_at hu3 hf
          refine k_SR (av := [.int l2]) (rest := [.int l2]) (st1 := [.int u3, .int l2]) ⟨hx, hb, hml, hown, htg⟩ (c_X0_beside l D ca l2 u3 hu3.symm) mw722 mw720 mw96 mw721 nd_X0_beside ⟨Nat.le_of_ble_eq_true rfl, Nat.le_of_ble_eq_true rfl⟩ rfl rfl hK P_nil hl.1 rfl (Nat.le_of_ble_eq_true rfl) dX0_joined_14 ⟨Nat.le_of_ble_eq_true rfl, Nat.le_of_ble_eq_true rfl⟩ rfl ?_
          refine lv_ior hx hb dX0_joined_17 ?_
          refine lv_iload_n hx hb dX0_joined_18 rfl (lv_at hl 0 rfl) ?_
          refine lv_iand hx hb dX0_joined_19 ?_
          refine lv_topi (fun x4 ex4 => ?_)
          replace hf := nm_at ex4 hf
          refine lv_istore (lv' := [(4, .int x4), (1, .int a1), (2, .int l2), (3, .int l3)]) hx hb dX0_joined_20 hl (by decide) rfl (fun ls hl => ?_)
          refine lv_iload hx hb dX0_joined_22 (lv_at hl 0 rfl) ?_
          refine lv_iload_n hx hb dX0_joined_24 rfl (lv_at hl 2 rfl) ?_
          refine lv_icmp_ne (tgt := 30) hx hb dX0_joined_25 (by decide) (fun hc => ?_) (fun hc => ?_)
          · rw [if_neg hc] at hf
            refine lv_iload hx hb dX0_joined_30 (lv_at hl 0 rfl) ?_
            refine lv_istore_n (lv' := [(2, .int x4), (4, .int x4), (1, .int a1), (3, .int l3)]) hx hb dX0_joined_32 rfl hl (by decide) rfl (fun ls hl => ?_)
            obtain ⟨x5, ex5⟩ : ∃ y : Int32, y = (l3 + (1 : Int32)) := ⟨_, rfl⟩
            replace hf := nm_at ex5 hf
            refine lv_iinc (v := x5) (lv' := [(3, .int x5), (2, .int x4), (4, .int x4), (1, .int a1)]) hx hb dX0_joined_33 hl (k := 3) rfl (by rw [ex5]; rfl) (by decide) rfl (fun ls hl => ?_)
            refine lv_goto (tgt := 6) hx hb dX0_joined_36 (by decide) ?_
            exact ih x4 x5 ls (hg _ (Option.some.inj hf).symm) (lv_sub hl [3, 1, 0] rfl)
          · rw [if_pos hc] at hf
            exact X6_28 l2 ls (he _ (Option.some.inj hf).symm) (lv_sub hl [2] rfl)
    exact L n l2 l3 ls hn hl
  refine lv_iload_n hx hb dX0_joined_0 rfl (lv_at hl 0 rfl) ?_
  refine lv_iload_n hx hb dX0_joined_1 rfl (lv_at hl 1 rfl) ?_
  refine lv_iand hx hb dX0_joined_2 ?_
  refine lv_topi (fun x6 ex6 => ?_)
  replace hf := nm_at ex6 hf
  refine lv_istore_n (lv' := [(2, .int x6), (0, .int a0), (1, .int a1)]) hx hb dX0_joined_3 rfl hl (by decide) rfl (fun ls hl => ?_)
  refine lv_iconst (v := (0 : Int32)) hx hb dX0_joined_4 (by decide) ?_
  refine lv_istore_n (lv' := [(3, .int (0 : Int32)), (2, .int x6), (0, .int a0), (1, .int a1)]) hx hb dX0_joined_5 rfl hl (by decide) rfl (fun ls hl => ?_)
  exact J6 x6 (0 : Int32) ls hf (lv_sub hl [3, 1, 0] rfl)
theorem nd_X0_fallen : yX0_fallen.cls ≠ "java/lang/invoke/MethodHandle" ∧ yX0_fallen.cls ≠ "java/lang/invoke/VarHandle" ∧ (parseMethodDescriptor yX0_fallen.desc).map (fun d => d.parameters.length) = some 1 := by decide +kernel
def rm_c_X0_fallen : Room := { frames := 2, cells := 0, slots := 0, locals := 45 }
set_option maxRecDepth 100000 in
set_option maxHeartbeats 4000000 in
theorem c_X0_fallen (l : Launch) (D : va_G) (ca : Nat → ClassId) (a0 : Int32) (u : Int32) (hf : f_X0_fallen a0 = some u) : CR l yX0_fallen cX0_fallen 1 (some .int) rm_c_X0_fallen [.int a0] D ca [] (some (.int u)) := by
  refine CR_of (by decide) (Nat.le_of_ble_eq_true rfl) ?_
  intro p e s m args below meth c ls Q hx hb hml hown htg hP hK hl hQ hr hk
  replace hown : s.vm.findClass "LampSheets$Cells" = some m.cls := hown
  replace hl : lv_has ls 1 [(0, .int a0)] := hl
  unfold f_X0_fallen at hf
  refine lv_iload_n hx hb dX0_fallen_0 rfl (lv_at hl 0 rfl) ?_
  refine lv_ldc hx hb hown (htg _ mw716) dX0_fallen_1 ?_
  refine lv_iload_n hx hb dX0_fallen_3 rfl (lv_at hl 0 rfl) ?_
  obtain ⟨u1, hu1, hf⟩ := bnd_some hf
  refine k_SR (av := [.int (33080895 : Int32), .int a0]) (rest := [.int a0]) (st1 := [.int u1, .int a0]) ⟨hx, hb, hml, hown, htg⟩ (c_X0_joined l D ca (33080895 : Int32) a0 u1 hu1) mw719 mw717 mw96 mw718 nd_X0_joined ⟨Nat.le_of_ble_eq_true rfl, Nat.le_of_ble_eq_true rfl⟩ rfl rfl hK P_nil hl.1 rfl (Nat.le_of_ble_eq_true rfl) dX0_fallen_4 ⟨Nat.le_of_ble_eq_true rfl, Nat.le_of_ble_eq_true rfl⟩ rfl ?_
  refine lv_iconst (v := (-1 : Int32)) hx hb dX0_fallen_7 (by decide) ?_
  refine lv_ixor hx hb dX0_fallen_8 ?_
  refine lv_iand hx hb dX0_fallen_9 ?_
  exact ret_i hQ hx hb hr hk dX0_fallen_10 (by cases hf; rfl)
theorem nd_X0_partsOf : yX0_partsOf.cls ≠ "java/lang/invoke/MethodHandle" ∧ yX0_partsOf.cls ≠ "java/lang/invoke/VarHandle" ∧ (parseMethodDescriptor yX0_partsOf.desc).map (fun d => d.parameters.length) = some 1 := by decide +kernel
def rm_c_X0_partsOf : Room := { frames := 2, cells := 0, slots := 0, locals := 45 }
set_option maxRecDepth 100000 in
set_option maxHeartbeats 4000000 in
theorem c_X0_partsOf (l : Launch) (D : va_G) (ca : Nat → ClassId) (a0 : Int32) (u : Int32) (hf : f_X0_partsOf a0 = some u) : CR l yX0_partsOf cX0_partsOf 4 (some .int) rm_c_X0_partsOf [.int a0] D ca [] (some (.int u)) := by
  refine CR_of (by decide) (Nat.le_of_ble_eq_true rfl) ?_
  intro p e s m args below meth c ls Q hx hb hml hown htg hP hK hl hQ hr hk
  replace hown : s.vm.findClass "LampSheets$Cells" = some m.cls := hown
  replace hl : lv_has ls 4 [(0, .int a0)] := hl
  unfold f_X0_partsOf at hf
  have J38 : ∀ (l2 : Int32) (ls : Array Slot), f_X0_partsOf_J38 a0 l2 = some u → lv_has ls 4 [(2, .int l2)] → W p l e rm_c_X0_partsOf s m args below meth c s.heap [] 0 0 Q (F0 m 38 ls []) := by
    intro l2 ls hf hl
    unfold f_X0_partsOf_J38 at hf
    refine lv_iload_n hx hb dX0_partsOf_38 rfl (lv_at hl 0 rfl) ?_
    exact ret_i hQ hx hb hr hk dX0_partsOf_39 (by cases hf; rfl)
  have J6 : ∀ (l1 : Int32) (l2 : Int32) (l3 : Int32) (ls : Array Slot), f_X0_partsOf_J6 a0 l1 l2 l3 = some u → lv_has ls 4 [(1, .int l1), (2, .int l2), (3, .int l3)] → W p l e rm_c_X0_partsOf s m args below meth c s.heap [] 0 0 Q (F0 m 6 ls []) := by
    intro l1 l2 l3 ls hf hl
    unfold f_X0_partsOf_J6 at hf
    obtain ⟨ex, hlp, hf⟩ := bnd_some hf
    obtain ⟨n, hn⟩ := lp_some hlp
    have X6_38 : ∀ (l2 : Int32) (ls : Array Slot), l2 = ex → lv_has ls 4 [(2, .int l2)] → W p l e rm_c_X0_partsOf s m args below meth c s.heap [] 0 0 Q (F0 m 38 ls []) := by
      intro l2 ls hE hl
      have hf := hf
      rw [← hE] at hf
      replace hf : f_X0_partsOf_J38 a0 l2 = some u := hf
      exact J38 l2 ls hf (lv_sub hl [0] rfl)
    have L : ∀ (n : Nat) (l1 : Int32) (l2 : Int32) (l3 : Int32) (ls : Array Slot), itr (fun q => f_X0_partsOf_S6 a0 q.1 q.2.1 q.2.2) n (l1, l2, l3) = some ex → lv_has ls 4 [(1, .int l1), (2, .int l2), (3, .int l3)] → W p l e rm_c_X0_partsOf s m args below meth c s.heap [] 0 0 Q (F0 m 6 ls []) := by
      intro n
      induction n with
      | zero => intro l1 l2 l3 ls hn; cases hn
      | succ n ih =>
        intro l1 l2 l3 ls hn hl
        obtain ⟨o, hf, hg, he⟩ := itr_s hn
        replace hf : f_X0_partsOf_S6 a0 l1 l2 l3 = some o := hf
        unfold f_X0_partsOf_S6 at hf
        refine lv_iload_n hx hb dX0_partsOf_6 rfl (lv_at hl 2 rfl) ?_
        refine lv_bipush (v := (25 : Int32)) hx hb dX0_partsOf_7 (by decide) ?_
        refine lv_icmp_ge (tgt := 38) hx hb dX0_partsOf_9 (by decide) (fun hc => ?_) (fun hc => ?_)
        · rw [if_pos hc] at hf
          exact X6_38 l2 ls (he _ (Option.some.inj hf).symm) (lv_sub hl [1] rfl)
        · rw [if_neg hc] at hf
          refine lv_iload_n hx hb dX0_partsOf_12 rfl (lv_at hl 0 rfl) ?_
          refine lv_if_eq (tgt := 38) hx hb dX0_partsOf_13 (by decide) (fun hc => ?_) (fun hc => ?_)
          · rw [if_pos hc] at hf
            exact X6_38 l2 ls (he _ (Option.some.inj hf).symm) (lv_sub hl [1] rfl)
          · rw [if_neg hc] at hf
            refine lv_iload_n hx hb dX0_partsOf_16 rfl (lv_at hl 0 rfl) ?_
            refine lv_iload_n hx hb dX0_partsOf_17 rfl (lv_at hl 0 rfl) ?_
            refine lv_iload_n hx hb dX0_partsOf_18 rfl (lv_at hl 0 rfl) ?_
            refine lv_ineg hx hb dX0_partsOf_19 ?_
            refine lv_iand hx hb dX0_partsOf_20 ?_
            refine lv_iload_n hx hb dX0_partsOf_21 rfl (lv_at hl 0 rfl) ?_
            obtain ⟨u2, hu2, hf⟩ := bnd_some hf
            refine k_SR (av := [.int (l1 &&& (-l1)), .int l1]) (rest := [.int l1]) (st1 := [.int u2, .int l1]) ⟨hx, hb, hml, hown, htg⟩ (c_X0_joined l D ca (l1 &&& (-l1)) l1 u2 hu2) mw719 mw717 mw96 mw718 nd_X0_joined ⟨Nat.le_of_ble_eq_true rfl, Nat.le_of_ble_eq_true rfl⟩ rfl rfl hK P_nil hl.1 rfl (Nat.le_of_ble_eq_true rfl) dX0_partsOf_22 ⟨Nat.le_of_ble_eq_true rfl, Nat.le_of_ble_eq_true rfl⟩ rfl ?_
            refine lv_iconst (v := (-1 : Int32)) hx hb dX0_partsOf_25 (by decide) ?_
            refine lv_ixor hx hb dX0_partsOf_26 ?_
            refine lv_iand hx hb dX0_partsOf_27 ?_
            refine lv_topi (fun x3 ex3 => ?_)
            replace hf := nm_at ex3 hf
            refine lv_istore_n (lv' := [(1, .int x3), (2, .int l2), (3, .int l3)]) hx hb dX0_partsOf_28 rfl hl (by decide) rfl (fun ls hl => ?_)
            obtain ⟨x4, ex4⟩ : ∃ y : Int32, y = (l2 + (1 : Int32)) := ⟨_, rfl⟩
            replace hf := nm_at ex4 hf
            refine lv_iinc (v := x4) (lv' := [(2, .int x4), (1, .int x3), (3, .int l3)]) hx hb dX0_partsOf_29 hl (k := 1) rfl (by rw [ex4]; rfl) (by decide) rfl (fun ls hl => ?_)
            obtain ⟨x5, ex5⟩ : ∃ y : Int32, y = (l3 + (1 : Int32)) := ⟨_, rfl⟩
            replace hf := nm_at ex5 hf
            refine lv_iinc (v := x5) (lv' := [(3, .int x5), (2, .int x4), (1, .int x3)]) hx hb dX0_partsOf_32 hl (k := 2) rfl (by rw [ex5]; rfl) (by decide) rfl (fun ls hl => ?_)
            refine lv_goto (tgt := 6) hx hb dX0_partsOf_35 (by decide) ?_
            exact ih x3 x4 x5 ls (hg _ (Option.some.inj hf).symm) (lv_sub hl [2, 1, 0] rfl)
    exact L n l1 l2 l3 ls hn hl
  refine lv_iload_n hx hb dX0_partsOf_0 rfl (lv_at hl 0 rfl) ?_
  refine lv_istore_n (lv' := [(1, .int a0), (0, .int a0)]) hx hb dX0_partsOf_1 rfl hl (by decide) rfl (fun ls hl => ?_)
  refine lv_iconst (v := (0 : Int32)) hx hb dX0_partsOf_2 (by decide) ?_
  refine lv_istore_n (lv' := [(2, .int (0 : Int32)), (1, .int a0), (0, .int a0)]) hx hb dX0_partsOf_3 rfl hl (by decide) rfl (fun ls hl => ?_)
  refine lv_iconst (v := (0 : Int32)) hx hb dX0_partsOf_4 (by decide) ?_
  refine lv_istore_n (lv' := [(3, .int (0 : Int32)), (2, .int (0 : Int32)), (1, .int a0), (0, .int a0)]) hx hb dX0_partsOf_5 rfl hl (by decide) rfl (fun ls hl => ?_)
  exact J6 a0 (0 : Int32) (0 : Int32) ls hf (lv_sub hl [2, 1, 0] rfl)
theorem nd_J6_bitCount_0f7a4 : yJ6_bitCount_0f7a4.cls ≠ "java/lang/invoke/MethodHandle" ∧ yJ6_bitCount_0f7a4.cls ≠ "java/lang/invoke/VarHandle" ∧ (parseMethodDescriptor yJ6_bitCount_0f7a4.desc).map (fun d => d.parameters.length) = some 1 := by decide +kernel
def rm_c_J6_bitCount_0f7a4 : Room := { frames := 0, cells := 0, slots := 0, locals := 0 }
set_option maxRecDepth 100000 in
set_option maxHeartbeats 4000000 in
theorem c_J6_bitCount_0f7a4 (l : Launch) (D : va_G) (ca : Nat → ClassId) (a0 : Int32) (u : Int32) (hf : f_J6_bitCount_0f7a4 a0 = u) : CR l yJ6_bitCount_0f7a4 cJ6_bitCount_0f7a4 1 (some .int) rm_c_J6_bitCount_0f7a4 [.int a0] D ca [] (some (.int u)) := by
  refine CR_of (by decide) (Nat.le_of_ble_eq_true rfl) ?_
  intro p e s m args below meth c ls Q hx hb hml hown htg hP hK hl hQ hr hk
  replace hown : s.vm.findClass "java/lang/Integer" = some m.cls := hown
  replace hl : lv_has ls 1 [(0, .int a0)] := hl
  unfold f_J6_bitCount_0f7a4 at hf
  refine lv_iload_n hx hb dJ6_bitCount_0f7a4_0 rfl (lv_at hl 0 rfl) ?_
  refine lv_iload_n hx hb dJ6_bitCount_0f7a4_1 rfl (lv_at hl 0 rfl) ?_
  refine lv_iconst (v := (1 : Int32)) hx hb dJ6_bitCount_0f7a4_2 (by decide) ?_
  refine lv_iushr hx hb dJ6_bitCount_0f7a4_3 rfl ?_
  refine lv_ldcw hx hb hown (htg _ mw460) dJ6_bitCount_0f7a4_4 ?_
  refine lv_iand hx hb dJ6_bitCount_0f7a4_7 ?_
  refine lv_isub hx hb dJ6_bitCount_0f7a4_8 ?_
  refine lv_topi (fun x1 ex1 => ?_)
  replace hf := nm_at ex1 hf
  refine lv_istore_n (lv' := [(0, .int x1)]) hx hb dJ6_bitCount_0f7a4_9 rfl hl (by decide) rfl (fun ls hl => ?_)
  refine lv_iload_n hx hb dJ6_bitCount_0f7a4_10 rfl (lv_at hl 0 rfl) ?_
  refine lv_ldcw hx hb hown (htg _ mw461) dJ6_bitCount_0f7a4_11 ?_
  refine lv_iand hx hb dJ6_bitCount_0f7a4_14 ?_
  refine lv_iload_n hx hb dJ6_bitCount_0f7a4_15 rfl (lv_at hl 0 rfl) ?_
  refine lv_iconst (v := (2 : Int32)) hx hb dJ6_bitCount_0f7a4_16 (by decide) ?_
  refine lv_iushr hx hb dJ6_bitCount_0f7a4_17 rfl ?_
  refine lv_ldcw hx hb hown (htg _ mw461) dJ6_bitCount_0f7a4_18 ?_
  refine lv_iand hx hb dJ6_bitCount_0f7a4_21 ?_
  refine lv_iadd hx hb dJ6_bitCount_0f7a4_22 ?_
  refine lv_topi (fun x2 ex2 => ?_)
  replace hf := nm_at ex2 hf
  refine lv_istore_n (lv' := [(0, .int x2)]) hx hb dJ6_bitCount_0f7a4_23 rfl hl (by decide) rfl (fun ls hl => ?_)
  refine lv_iload_n hx hb dJ6_bitCount_0f7a4_24 rfl (lv_at hl 0 rfl) ?_
  refine lv_iload_n hx hb dJ6_bitCount_0f7a4_25 rfl (lv_at hl 0 rfl) ?_
  refine lv_iconst (v := (4 : Int32)) hx hb dJ6_bitCount_0f7a4_26 (by decide) ?_
  refine lv_iushr hx hb dJ6_bitCount_0f7a4_27 rfl ?_
  refine lv_iadd hx hb dJ6_bitCount_0f7a4_28 ?_
  refine lv_ldcw hx hb hown (htg _ mw462) dJ6_bitCount_0f7a4_29 ?_
  refine lv_iand hx hb dJ6_bitCount_0f7a4_32 ?_
  refine lv_topi (fun x3 ex3 => ?_)
  replace hf := nm_at ex3 hf
  refine lv_istore_n (lv' := [(0, .int x3)]) hx hb dJ6_bitCount_0f7a4_33 rfl hl (by decide) rfl (fun ls hl => ?_)
  refine lv_iload_n hx hb dJ6_bitCount_0f7a4_34 rfl (lv_at hl 0 rfl) ?_
  refine lv_iload_n hx hb dJ6_bitCount_0f7a4_35 rfl (lv_at hl 0 rfl) ?_
  refine lv_bipush (v := (8 : Int32)) hx hb dJ6_bitCount_0f7a4_36 (by decide) ?_
  refine lv_iushr hx hb dJ6_bitCount_0f7a4_38 rfl ?_
  refine lv_iadd hx hb dJ6_bitCount_0f7a4_39 ?_
  refine lv_topi (fun x4 ex4 => ?_)
  replace hf := nm_at ex4 hf
  refine lv_istore_n (lv' := [(0, .int x4)]) hx hb dJ6_bitCount_0f7a4_40 rfl hl (by decide) rfl (fun ls hl => ?_)
  refine lv_iload_n hx hb dJ6_bitCount_0f7a4_41 rfl (lv_at hl 0 rfl) ?_
  refine lv_iload_n hx hb dJ6_bitCount_0f7a4_42 rfl (lv_at hl 0 rfl) ?_
  refine lv_bipush (v := (16 : Int32)) hx hb dJ6_bitCount_0f7a4_43 (by decide) ?_
  refine lv_iushr hx hb dJ6_bitCount_0f7a4_45 rfl ?_
  refine lv_iadd hx hb dJ6_bitCount_0f7a4_46 ?_
  refine lv_topi (fun x5 ex5 => ?_)
  replace hf := nm_at ex5 hf
  refine lv_istore_n (lv' := [(0, .int x5)]) hx hb dJ6_bitCount_0f7a4_47 rfl hl (by decide) rfl (fun ls hl => ?_)
  refine lv_iload_n hx hb dJ6_bitCount_0f7a4_48 rfl (lv_at hl 0 rfl) ?_
  refine lv_bipush (v := (63 : Int32)) hx hb dJ6_bitCount_0f7a4_49 (by decide) ?_
  refine lv_iand hx hb dJ6_bitCount_0f7a4_51 ?_
  exact ret_i hQ hx hb hr hk dJ6_bitCount_0f7a4_52 (by cases hf; rfl)
theorem nd_X0_nextOfAsManyBits : yX0_nextOfAsManyBits.cls ≠ "java/lang/invoke/MethodHandle" ∧ yX0_nextOfAsManyBits.cls ≠ "java/lang/invoke/VarHandle" ∧ (parseMethodDescriptor yX0_nextOfAsManyBits.desc).map (fun d => d.parameters.length) = some 1 := by decide +kernel
def rm_c_X0_nextOfAsManyBits : Room := { frames := 1, cells := 0, slots := 0, locals := 20 }
set_option maxRecDepth 100000 in
set_option maxHeartbeats 4000000 in
theorem c_X0_nextOfAsManyBits (l : Launch) (D : va_G) (ca : Nat → ClassId) (a0 : Int32) (u : Int32) (hf : f_X0_nextOfAsManyBits a0 = u) : CR l yX0_nextOfAsManyBits cX0_nextOfAsManyBits 4 (some .int) rm_c_X0_nextOfAsManyBits [.int a0] D ca [] (some (.int u)) := by
  refine CR_of (by decide) (Nat.le_of_ble_eq_true rfl) ?_
  intro p e s m args below meth c ls Q hx hb hml hown htg hP hK hl hQ hr hk
  replace hown : s.vm.findClass "LampSheets$Cells" = some m.cls := hown
  replace hl : lv_has ls 4 [(0, .int a0)] := hl
  unfold f_X0_nextOfAsManyBits at hf
  refine lv_iload_n hx hb dX0_nextOfAsManyBits_0 rfl (lv_at hl 0 rfl) ?_
  refine lv_iload_n hx hb dX0_nextOfAsManyBits_1 rfl (lv_at hl 0 rfl) ?_
  refine lv_ineg hx hb dX0_nextOfAsManyBits_2 ?_
  refine lv_iand hx hb dX0_nextOfAsManyBits_3 ?_
  refine lv_topi (fun x1 ex1 => ?_)
  replace hf := nm_at ex1 hf
  refine lv_istore_n (lv' := [(1, .int x1), (0, .int a0)]) hx hb dX0_nextOfAsManyBits_4 rfl hl (by decide) rfl (fun ls hl => ?_)
  refine lv_iload_n hx hb dX0_nextOfAsManyBits_5 rfl (lv_at hl 1 rfl) ?_
  refine lv_iload_n hx hb dX0_nextOfAsManyBits_6 rfl (lv_at hl 0 rfl) ?_
  refine lv_iadd hx hb dX0_nextOfAsManyBits_7 ?_
  refine lv_topi (fun x2 ex2 => ?_)
  replace hf := nm_at ex2 hf
  refine lv_istore_n (lv' := [(2, .int x2), (1, .int x1), (0, .int a0)]) hx hb dX0_nextOfAsManyBits_8 rfl hl (by decide) rfl (fun ls hl => ?_)
  refine lv_iload_n hx hb dX0_nextOfAsManyBits_9 rfl (lv_at hl 2 rfl) ?_
  refine lv_iload_n hx hb dX0_nextOfAsManyBits_10 rfl (lv_at hl 0 rfl) ?_
  refine lv_iconst (v := (-1 : Int32)) hx hb dX0_nextOfAsManyBits_11 (by decide) ?_
  refine lv_ixor hx hb dX0_nextOfAsManyBits_12 ?_
  refine lv_iand hx hb dX0_nextOfAsManyBits_13 ?_
  obtain ⟨u3, hu3⟩ : ∃ z, z = (f_J6_bitCount_0f7a4 (a0 &&& (x2 ^^^ (-1 : Int32)))) := ⟨_, rfl⟩
  replace hf := nm_at hu3 hf
  refine k_SR (av := [.int (a0 &&& (x2 ^^^ (-1 : Int32)))]) (rest := []) (st1 := [.int u3]) ⟨hx, hb, hml, hown, htg⟩ (c_J6_bitCount_0f7a4 l D ca (a0 &&& (x2 ^^^ (-1 : Int32))) u3 hu3.symm) mw459 mw793 mw99 mw458 nd_J6_bitCount_0f7a4 ⟨Nat.le_of_ble_eq_true rfl, Nat.le_of_ble_eq_true rfl⟩ rfl rfl hK P_nil hl.1 rfl (Nat.le_of_ble_eq_true rfl) dX0_nextOfAsManyBits_14 ⟨Nat.le_of_ble_eq_true rfl, Nat.le_of_ble_eq_true rfl⟩ rfl ?_
  refine lv_iconst (v := (1 : Int32)) hx hb dX0_nextOfAsManyBits_17 (by decide) ?_
  refine lv_isub hx hb dX0_nextOfAsManyBits_18 ?_
  refine lv_topi (fun x4 ex4 => ?_)
  replace hf := nm_at ex4 hf
  refine lv_istore_n (lv' := [(3, .int x4), (2, .int x2), (1, .int x1), (0, .int a0)]) hx hb dX0_nextOfAsManyBits_19 rfl hl (by decide) rfl (fun ls hl => ?_)
  refine lv_iload_n hx hb dX0_nextOfAsManyBits_20 rfl (lv_at hl 1 rfl) ?_
  refine lv_iconst (v := (1 : Int32)) hx hb dX0_nextOfAsManyBits_21 (by decide) ?_
  refine lv_iload_n hx hb dX0_nextOfAsManyBits_22 rfl (lv_at hl 0 rfl) ?_
  refine lv_ishl hx hb dX0_nextOfAsManyBits_23 ?_
  refine lv_iconst (v := (1 : Int32)) hx hb dX0_nextOfAsManyBits_24 (by decide) ?_
  refine lv_isub hx hb dX0_nextOfAsManyBits_25 ?_
  refine lv_ior hx hb dX0_nextOfAsManyBits_26 ?_
  exact ret_i hQ hx hb hr hk dX0_nextOfAsManyBits_27 (by cases hf; rfl)
theorem nd_X0_holdersOf : yX0_holdersOf.cls ≠ "java/lang/invoke/MethodHandle" ∧ yX0_holdersOf.cls ≠ "java/lang/invoke/VarHandle" ∧ (parseMethodDescriptor yX0_holdersOf.desc).map (fun d => d.parameters.length) = some 2 := by decide +kernel
def rm_c_X0_holdersOf : Room := { frames := 3, cells := 0, slots := 0, locals := 65 }
set_option maxRecDepth 100000 in
set_option maxHeartbeats 4000000 in
theorem c_X0_holdersOf (l : Launch) (D : va_G) (ca : Nat → ClassId) (a0 : Int32) (a1 : Int32) (u : Int32) (hf : f_X0_holdersOf a0 a1 = some u) : CR l yX0_holdersOf cX0_holdersOf 4 (some .int) rm_c_X0_holdersOf [.int a0, .int a1] D ca [] (some (.int u)) := by
  refine CR_of (by decide) (Nat.le_of_ble_eq_true rfl) ?_
  intro p e s m args below meth c ls Q hx hb hml hown htg hP hK hl hQ hr hk
  replace hown : s.vm.findClass "LampSheets$Cells" = some m.cls := hown
  replace hl : lv_has ls 4 [(0, .int a0), (1, .int a1)] := hl
  unfold f_X0_holdersOf at hf
  have J58 : ∀ (ls : Array Slot), f_X0_holdersOf_J58 a0 a1 = some u → lv_has ls 4 [] → W p l e rm_c_X0_holdersOf s m args below meth c s.heap [] 0 0 Q (F0 m 58 ls []) := by
    intro  ls hf hl
    unfold f_X0_holdersOf_J58 at hf
    refine lv_iconst (v := (-1 : Int32)) hx hb dX0_holdersOf_58 (by decide) ?_
    exact ret_i hQ hx hb hr hk dX0_holdersOf_59 (by cases hf; rfl)
  have J45 : ∀ (ls : Array Slot), f_X0_holdersOf_J45 a0 a1 = some u → lv_has ls 4 [] → W p l e rm_c_X0_holdersOf s m args below meth c s.heap [] 0 0 Q (F0 m 45 ls []) := by
    intro  ls hf hl
    unfold f_X0_holdersOf_J45 at hf
    refine lv_iconst (v := (-1 : Int32)) hx hb dX0_holdersOf_45 (by decide) ?_
    exact ret_i hQ hx hb hr hk dX0_holdersOf_46 (by cases hf; rfl)
  have J39 : ∀ (l2 : Int32) (ls : Array Slot), f_X0_holdersOf_J39 a0 a1 l2 = some u → lv_has ls 4 [(2, .int l2)] → W p l e rm_c_X0_holdersOf s m args below meth c s.heap [] 0 0 Q (F0 m 39 ls []) := by
    intro l2 ls hf hl
    unfold f_X0_holdersOf_J39 at hf
    refine lv_iload_n hx hb dX0_holdersOf_39 rfl (lv_at hl 0 rfl) ?_
    exact ret_i hQ hx hb hr hk dX0_holdersOf_40 (by cases hf; rfl)
  have J8 : ∀ (l2 : Int32) (l3 : Int32) (ls : Array Slot), f_X0_holdersOf_J8 a0 a1 l2 l3 = some u → lv_has ls 4 [(1, .int a1), (2, .int l2), (3, .int l3)] → W p l e rm_c_X0_holdersOf s m args below meth c s.heap [] 0 0 Q (F0 m 8 ls []) := by
    intro l2 l3 ls hf hl
    unfold f_X0_holdersOf_J8 at hf
    obtain ⟨ex, hlp, hf⟩ := bnd_some hf
    obtain ⟨n, hn⟩ := lp_some hlp
    have X8_39 : ∀ (l2 : Int32) (ls : Array Slot), (Sum.inl l2) = ex → lv_has ls 4 [(2, .int l2)] → W p l e rm_c_X0_holdersOf s m args below meth c s.heap [] 0 0 Q (F0 m 39 ls []) := by
      intro l2 ls hE hl
      have hf := hf
      rw [← hE] at hf
      replace hf : f_X0_holdersOf_J39 a0 a1 l2 = some u := hf
      exact J39 l2 ls hf (lv_sub hl [0] rfl)
    have X8_45 : ∀ (ls : Array Slot), (Sum.inr (Sum.inl ())) = ex → lv_has ls 4 [] → W p l e rm_c_X0_holdersOf s m args below meth c s.heap [] 0 0 Q (F0 m 45 ls []) := by
      intro  ls hE hl
      have hf := hf
      rw [← hE] at hf
      replace hf : f_X0_holdersOf_J45 a0 a1 = some u := hf
      exact J45  ls hf (lv_sub hl [] rfl)
    have X8_58 : ∀ (ls : Array Slot), (Sum.inr (Sum.inr ())) = ex → lv_has ls 4 [] → W p l e rm_c_X0_holdersOf s m args below meth c s.heap [] 0 0 Q (F0 m 58 ls []) := by
      intro  ls hE hl
      have hf := hf
      rw [← hE] at hf
      replace hf : f_X0_holdersOf_J58 a0 a1 = some u := hf
      exact J58  ls hf (lv_sub hl [] rfl)
    have L : ∀ (n : Nat) (l2 : Int32) (l3 : Int32) (ls : Array Slot), itr (fun q => f_X0_holdersOf_S8 a0 a1 q.1 q.2) n (l2, l3) = some ex → lv_has ls 4 [(1, .int a1), (2, .int l2), (3, .int l3)] → W p l e rm_c_X0_holdersOf s m args below meth c s.heap [] 0 0 Q (F0 m 8 ls []) := by
      intro n
      induction n with
      | zero => intro l2 l3 ls hn; cases hn
      | succ n ih =>
        intro l2 l3 ls hn hl
        obtain ⟨o, hf, hg, he⟩ := itr_s hn
        replace hf : f_X0_holdersOf_S8 a0 a1 l2 l3 = some o := hf
        have J41 : ∀ (l2 : Int32) (l3 : Int32) (ls : Array Slot), f_X0_holdersOf_J41 a0 a1 l2 l3 = some o → lv_has ls 4 [(1, .int a1), (2, .int l2), (3, .int l3)] → W p l e rm_c_X0_holdersOf s m args below meth c s.heap [] 0 0 Q (F0 m 41 ls []) := by
          intro l2 l3 ls hf hl
          unfold f_X0_holdersOf_J41 at hf
          refine lv_iload_n hx hb dX0_holdersOf_41 rfl (lv_at hl 1 rfl) ?_
          refine lv_if_ne (tgt := 47) hx hb dX0_holdersOf_42 (by decide) (fun hc => ?_) (fun hc => ?_)
          · rw [if_neg hc] at hf
            refine lv_iload_n hx hb dX0_holdersOf_47 rfl (lv_at hl 1 rfl) ?_
            obtain ⟨u4, hu4⟩ : ∃ z, z = (f_X0_nextOfAsManyBits l2) := ⟨_, rfl⟩
            replace hf := nm_at hu4 hf
            refine k_SR (av := [.int l2]) (rest := []) (st1 := [.int u4]) ⟨hx, hb, hml, hown, htg⟩ (c_X0_nextOfAsManyBits l D ca l2 u4 hu4.symm) mw792 mw790 mw96 mw791 nd_X0_nextOfAsManyBits ⟨Nat.le_of_ble_eq_true rfl, Nat.le_of_ble_eq_true rfl⟩ rfl rfl hK P_nil hl.1 rfl (Nat.le_of_ble_eq_true rfl) dX0_holdersOf_48 ⟨Nat.le_of_ble_eq_true rfl, Nat.le_of_ble_eq_true rfl⟩ rfl ?_
            refine lv_istore_n (lv' := [(2, .int u4), (1, .int a1), (3, .int l3)]) hx hb dX0_holdersOf_51 rfl hl (by decide) rfl (fun ls hl => ?_)
            obtain ⟨x5, ex5⟩ : ∃ y : Int32, y = (l3 + (1 : Int32)) := ⟨_, rfl⟩
            replace hf := nm_at ex5 hf
            refine lv_iinc (v := x5) (lv' := [(3, .int x5), (2, .int u4), (1, .int a1)]) hx hb dX0_holdersOf_52 hl (k := 2) rfl (by rw [ex5]; rfl) (by decide) rfl (fun ls hl => ?_)
            refine lv_goto (tgt := 8) hx hb dX0_holdersOf_55 (by decide) ?_
            exact ih u4 x5 ls (hg _ (Option.some.inj hf).symm) (lv_sub hl [2, 1, 0] rfl)
          · rw [if_pos hc] at hf
            exact X8_45  ls (he _ (Option.some.inj hf).symm) (lv_sub hl [] rfl)
        unfold f_X0_holdersOf_S8 at hf
        refine lv_iload_n hx hb dX0_holdersOf_8 rfl (lv_at hl 2 rfl) ?_
        refine lv_sipush (v := (12650 : Int32)) hx hb dX0_holdersOf_9 (by decide) ?_
        refine lv_icmp_ge (tgt := 58) hx hb dX0_holdersOf_12 (by decide) (fun hc => ?_) (fun hc => ?_)
        · rw [if_pos hc] at hf
          exact X8_58  ls (he _ (Option.some.inj hf).symm) (lv_sub hl [] rfl)
        · rw [if_neg hc] at hf
          refine lv_iload_n hx hb dX0_holdersOf_15 rfl (lv_at hl 1 rfl) ?_
          refine lv_ldc hx hb hown (htg _ mw725) dX0_holdersOf_16 ?_
          refine lv_icmp_gt (tgt := 58) hx hb dX0_holdersOf_18 (by decide) (fun hc => ?_) (fun hc => ?_)
          · rw [if_pos hc] at hf
            exact X8_58  ls (he _ (Option.some.inj hf).symm) (lv_sub hl [] rfl)
          · rw [if_neg hc] at hf
            refine lv_iload_n hx hb dX0_holdersOf_21 rfl (lv_at hl 1 rfl) ?_
            refine lv_iload_n hx hb dX0_holdersOf_22 rfl (lv_at hl 0 rfl) ?_
            refine lv_ldc hx hb hown (htg _ mw788) dX0_holdersOf_23 ?_
            refine lv_ior hx hb dX0_holdersOf_25 ?_
            refine lv_iand hx hb dX0_holdersOf_26 ?_
            refine lv_if_ne (tgt := 41) hx hb dX0_holdersOf_27 (by decide) (fun hc => ?_) (fun hc => ?_)
            · rw [if_neg hc] at hf
              exact J41 l2 l3 ls hf (lv_sub hl [0, 1, 2] rfl)
            · rw [if_pos hc] at hf
              refine lv_iload_n hx hb dX0_holdersOf_30 rfl (lv_at hl 0 rfl) ?_
              refine lv_iload_n hx hb dX0_holdersOf_31 rfl (lv_at hl 1 rfl) ?_
              refine lv_ior hx hb dX0_holdersOf_32 ?_
              obtain ⟨u6, hu6, hf⟩ := bnd_some hf
              refine k_SR (av := [.int (a1 ||| l2)]) (rest := []) (st1 := [.int u6]) ⟨hx, hb, hml, hown, htg⟩ (c_X0_fallen l D ca (a1 ||| l2) u6 hu6) mw715 mw789 mw96 mw714 nd_X0_fallen ⟨Nat.le_of_ble_eq_true rfl, Nat.le_of_ble_eq_true rfl⟩ rfl rfl hK P_nil hl.1 rfl (Nat.le_of_ble_eq_true rfl) dX0_holdersOf_33 ⟨Nat.le_of_ble_eq_true rfl, Nat.le_of_ble_eq_true rfl⟩ rfl ?_
              refine lv_if_ne (tgt := 41) hx hb dX0_holdersOf_36 (by decide) (fun hc => ?_) (fun hc => ?_)
              · rw [if_neg hc] at hf
                exact J41 l2 l3 ls hf (lv_sub hl [0, 1, 2] rfl)
              · rw [if_pos hc] at hf
                exact X8_39 l2 ls (he _ (Option.some.inj hf).symm) (lv_sub hl [1] rfl)
    exact L n l2 l3 ls hn hl
  refine lv_iconst (v := (1 : Int32)) hx hb dX0_holdersOf_0 (by decide) ?_
  refine lv_iload_n hx hb dX0_holdersOf_1 rfl (lv_at hl 0 rfl) ?_
  refine lv_ishl hx hb dX0_holdersOf_2 ?_
  refine lv_iconst (v := (1 : Int32)) hx hb dX0_holdersOf_3 (by decide) ?_
  refine lv_isub hx hb dX0_holdersOf_4 ?_
  refine lv_topi (fun x7 ex7 => ?_)
  replace hf := nm_at ex7 hf
  refine lv_istore_n (lv' := [(2, .int x7), (0, .int a0), (1, .int a1)]) hx hb dX0_holdersOf_5 rfl hl (by decide) rfl (fun ls hl => ?_)
  refine lv_iconst (v := (0 : Int32)) hx hb dX0_holdersOf_6 (by decide) ?_
  refine lv_istore_n (lv' := [(3, .int (0 : Int32)), (2, .int x7), (0, .int a0), (1, .int a1)]) hx hb dX0_holdersOf_7 rfl hl (by decide) rfl (fun ls hl => ?_)
  exact J8 x7 (0 : Int32) ls hf (lv_sub hl [3, 1, 0] rfl)
theorem nd_X0_holders : yX0_holders.cls ≠ "java/lang/invoke/MethodHandle" ∧ yX0_holders.cls ≠ "java/lang/invoke/VarHandle" ∧ (parseMethodDescriptor yX0_holders.desc).map (fun d => d.parameters.length) = some 1 := by decide +kernel
def rm_c_X0_holders : Room := { frames := 4, cells := 0, slots := 0, locals := 88 }
set_option maxRecDepth 100000 in
set_option maxHeartbeats 4000000 in
theorem c_X0_holders (l : Launch) (D : va_G) (ca : Nat → ClassId) (a0 : Int32) (u : Int32) (hf : f_X0_holders a0 = some u) : CR l yX0_holders cX0_holders 3 (some .int) rm_c_X0_holders [.int a0] D ca [] (some (.int u)) := by
  refine CR_of (by decide) (Nat.le_of_ble_eq_true rfl) ?_
  intro p e s m args below meth c ls Q hx hb hml hown htg hP hK hl hQ hr hk
  replace hown : s.vm.findClass "LampSheets$Cells" = some m.cls := hown
  replace hl : lv_has ls 3 [(0, .int a0)] := hl
  unfold f_X0_holders at hf
  have J26 : ∀ (ls : Array Slot), f_X0_holders_J26 a0 = some u → lv_has ls 3 [] → W p l e rm_c_X0_holders s m args below meth c s.heap [] 0 0 Q (F0 m 26 ls []) := by
    intro  ls hf hl
    unfold f_X0_holders_J26 at hf
    refine lv_iconst (v := (-1 : Int32)) hx hb dX0_holders_26 (by decide) ?_
    exact ret_i hQ hx hb hr hk dX0_holders_27 (by cases hf; rfl)
  have J18 : ∀ (l2 : Int32) (ls : Array Slot), f_X0_holders_J18 a0 l2 = some u → lv_has ls 3 [(2, .int l2)] → W p l e rm_c_X0_holders s m args below meth c s.heap [] 0 0 Q (F0 m 18 ls []) := by
    intro l2 ls hf hl
    unfold f_X0_holders_J18 at hf
    refine lv_iload_n hx hb dX0_holders_18 rfl (lv_at hl 0 rfl) ?_
    exact ret_i hQ hx hb hr hk dX0_holders_19 (by cases hf; rfl)
  have J2 : ∀ (l1 : Int32) (ls : Array Slot), f_X0_holders_J2 a0 l1 = some u → lv_has ls 3 [(0, .int a0), (1, .int l1)] → W p l e rm_c_X0_holders s m args below meth c s.heap [] 0 0 Q (F0 m 2 ls []) := by
    intro l1 ls hf hl
    unfold f_X0_holders_J2 at hf
    obtain ⟨ex, hlp, hf⟩ := bnd_some hf
    obtain ⟨n, hn⟩ := lp_some hlp
    have X2_18 : ∀ (l2 : Int32) (ls : Array Slot), (Sum.inl l2) = ex → lv_has ls 3 [(2, .int l2)] → W p l e rm_c_X0_holders s m args below meth c s.heap [] 0 0 Q (F0 m 18 ls []) := by
      intro l2 ls hE hl
      have hf := hf
      rw [← hE] at hf
      replace hf : f_X0_holders_J18 a0 l2 = some u := hf
      exact J18 l2 ls hf (lv_sub hl [0] rfl)
    have X2_26 : ∀ (ls : Array Slot), (Sum.inr ()) = ex → lv_has ls 3 [] → W p l e rm_c_X0_holders s m args below meth c s.heap [] 0 0 Q (F0 m 26 ls []) := by
      intro  ls hE hl
      have hf := hf
      rw [← hE] at hf
      replace hf : f_X0_holders_J26 a0 = some u := hf
      exact J26  ls hf (lv_sub hl [] rfl)
    have L : ∀ (n : Nat) (l1 : Int32) (ls : Array Slot), itr (fun q => f_X0_holders_S2 a0 q) n l1 = some ex → lv_has ls 3 [(0, .int a0), (1, .int l1)] → W p l e rm_c_X0_holders s m args below meth c s.heap [] 0 0 Q (F0 m 2 ls []) := by
      intro n
      induction n with
      | zero => intro l1 ls hn; cases hn
      | succ n ih =>
        intro l1 ls hn hl
        obtain ⟨o, hf, hg, he⟩ := itr_s hn
        replace hf : f_X0_holders_S2 a0 l1 = some o := hf
        unfold f_X0_holders_S2 at hf
        refine lv_iload_n hx hb dX0_holders_2 rfl (lv_at hl 1 rfl) ?_
        refine lv_iconst (v := (4 : Int32)) hx hb dX0_holders_3 (by decide) ?_
        refine lv_icmp_gt (tgt := 26) hx hb dX0_holders_4 (by decide) (fun hc => ?_) (fun hc => ?_)
        · rw [if_pos hc] at hf
          exact X2_26  ls (he _ (Option.some.inj hf).symm) (lv_sub hl [] rfl)
        · rw [if_neg hc] at hf
          refine lv_iload_n hx hb dX0_holders_7 rfl (lv_at hl 1 rfl) ?_
          refine lv_iload_n hx hb dX0_holders_8 rfl (lv_at hl 0 rfl) ?_
          obtain ⟨u3, hu3, hf⟩ := bnd_some hf
          refine k_SR (av := [.int l1, .int a0]) (rest := []) (st1 := [.int u3]) ⟨hx, hb, hml, hown, htg⟩ (c_X0_holdersOf l D ca l1 a0 u3 hu3) mw787 mw785 mw96 mw786 nd_X0_holdersOf ⟨Nat.le_of_ble_eq_true rfl, Nat.le_of_ble_eq_true rfl⟩ rfl rfl hK P_nil hl.1 rfl (Nat.le_of_ble_eq_true rfl) dX0_holders_9 ⟨Nat.le_of_ble_eq_true rfl, Nat.le_of_ble_eq_true rfl⟩ rfl ?_
          refine lv_istore_n (lv' := [(2, .int u3), (0, .int a0), (1, .int l1)]) hx hb dX0_holders_12 rfl hl (by decide) rfl (fun ls hl => ?_)
          refine lv_iload_n hx hb dX0_holders_13 rfl (lv_at hl 0 rfl) ?_
          refine lv_iconst (v := (-1 : Int32)) hx hb dX0_holders_14 (by decide) ?_
          refine lv_icmp_eq (tgt := 20) hx hb dX0_holders_15 (by decide) (fun hc => ?_) (fun hc => ?_)
          · rw [if_pos hc] at hf
            obtain ⟨x4, ex4⟩ : ∃ y : Int32, y = (l1 + (1 : Int32)) := ⟨_, rfl⟩
            replace hf := nm_at ex4 hf
            refine lv_iinc (v := x4) (lv' := [(1, .int x4), (2, .int u3), (0, .int a0)]) hx hb dX0_holders_20 hl (k := 2) rfl (by rw [ex4]; rfl) (by decide) rfl (fun ls hl => ?_)
            refine lv_goto (tgt := 2) hx hb dX0_holders_23 (by decide) ?_
            exact ih x4 ls (hg _ (Option.some.inj hf).symm) (lv_sub hl [2, 0] rfl)
          · rw [if_neg hc] at hf
            exact X2_18 u3 ls (he _ (Option.some.inj hf).symm) (lv_sub hl [0] rfl)
    exact L n l1 ls hn hl
  refine lv_iconst (v := (0 : Int32)) hx hb dX0_holders_0 (by decide) ?_
  refine lv_istore_n (lv' := [(1, .int (0 : Int32)), (0, .int a0)]) hx hb dX0_holders_1 rfl hl (by decide) rfl (fun ls hl => ?_)
  exact J2 (0 : Int32) ls hf (lv_sub hl [1, 0] rfl)
theorem nd_X0_frayCell : yX0_frayCell.cls ≠ "java/lang/invoke/MethodHandle" ∧ yX0_frayCell.cls ≠ "java/lang/invoke/VarHandle" ∧ (parseMethodDescriptor yX0_frayCell.desc).map (fun d => d.parameters.length) = some 1 := by decide +kernel
def rm_c_X0_frayCell : Room := { frames := 1, cells := 0, slots := 0, locals := 21 }
set_option maxRecDepth 100000 in
set_option maxHeartbeats 4000000 in
theorem c_X0_frayCell (l : Launch) (D : va_G) (ca : Nat → ClassId) (a0 : Int32) (u : Int32) (hf : f_X0_frayCell a0 = u) : CR l yX0_frayCell cX0_frayCell 2 (some .int) rm_c_X0_frayCell [.int a0] D ca [] (some (.int u)) := by
  refine CR_of (by decide) (Nat.le_of_ble_eq_true rfl) ?_
  intro p e s m args below meth c ls Q hx hb hml hown htg hP hK hl hQ hr hk
  replace hown : s.vm.findClass "LampSheets$Cells" = some m.cls := hown
  replace hl : lv_has ls 2 [(0, .int a0)] := hl
  unfold f_X0_frayCell at hf
  refine lv_iload_n hx hb dX0_frayCell_0 rfl (lv_at hl 0 rfl) ?_
  refine lv_ldc hx hb hown (htg _ mw725) dX0_frayCell_1 ?_
  refine lv_iload_n hx hb dX0_frayCell_3 rfl (lv_at hl 0 rfl) ?_
  refine lv_iconst (v := (-1 : Int32)) hx hb dX0_frayCell_4 (by decide) ?_
  refine lv_ixor hx hb dX0_frayCell_5 ?_
  refine lv_iand hx hb dX0_frayCell_6 ?_
  obtain ⟨u1, hu1⟩ : ∃ z, z = (f_X0_beside ((33554431 : Int32) &&& (a0 ^^^ (-1 : Int32)))) := ⟨_, rfl⟩
  replace hf := nm_at hu1 hf
  refine k_SR (av := [.int ((33554431 : Int32) &&& (a0 ^^^ (-1 : Int32)))]) (rest := [.int a0]) (st1 := [.int u1, .int a0]) ⟨hx, hb, hml, hown, htg⟩ (c_X0_beside l D ca ((33554431 : Int32) &&& (a0 ^^^ (-1 : Int32))) u1 hu1.symm) mw722 mw720 mw96 mw721 nd_X0_beside ⟨Nat.le_of_ble_eq_true rfl, Nat.le_of_ble_eq_true rfl⟩ rfl rfl hK P_nil hl.1 rfl (Nat.le_of_ble_eq_true rfl) dX0_frayCell_7 ⟨Nat.le_of_ble_eq_true rfl, Nat.le_of_ble_eq_true rfl⟩ rfl ?_
  refine lv_iand hx hb dX0_frayCell_10 ?_
  refine lv_topi (fun x2 ex2 => ?_)
  replace hf := nm_at ex2 hf
  refine lv_istore_n (lv' := [(1, .int x2), (0, .int a0)]) hx hb dX0_frayCell_11 rfl hl (by decide) rfl (fun ls hl => ?_)
  refine lv_iload_n hx hb dX0_frayCell_12 rfl (lv_at hl 0 rfl) ?_
  refine lv_iload_n hx hb dX0_frayCell_13 rfl (lv_at hl 0 rfl) ?_
  refine lv_ineg hx hb dX0_frayCell_14 ?_
  refine lv_iand hx hb dX0_frayCell_15 ?_
  exact ret_i hQ hx hb hr hk dX0_frayCell_16 (by cases hf; rfl)
theorem nd_X0_fraysTillFallen : yX0_fraysTillFallen.cls ≠ "java/lang/invoke/MethodHandle" ∧ yX0_fraysTillFallen.cls ≠ "java/lang/invoke/VarHandle" ∧ (parseMethodDescriptor yX0_fraysTillFallen.desc).map (fun d => d.parameters.length) = some 1 := by decide +kernel
def rm_c_X0_fraysTillFallen : Room := { frames := 3, cells := 0, slots := 0, locals := 65 }
set_option maxRecDepth 100000 in
set_option maxHeartbeats 4000000 in
theorem c_X0_fraysTillFallen (l : Launch) (D : va_G) (ca : Nat → ClassId) (a0 : Int32) (u : Int32) (hf : f_X0_fraysTillFallen a0 = some u) : CR l yX0_fraysTillFallen cX0_fraysTillFallen 4 (some .int) rm_c_X0_fraysTillFallen [.int a0] D ca [] (some (.int u)) := by
  refine CR_of (by decide) (Nat.le_of_ble_eq_true rfl) ?_
  intro p e s m args below meth c ls Q hx hb hml hown htg hP hK hl hQ hr hk
  replace hown : s.vm.findClass "LampSheets$Cells" = some m.cls := hown
  replace hl : lv_has ls 4 [(0, .int a0)] := hl
  unfold f_X0_fraysTillFallen at hf
  have J42 : ∀ (ls : Array Slot), f_X0_fraysTillFallen_J42 a0 = some u → lv_has ls 4 [] → W p l e rm_c_X0_fraysTillFallen s m args below meth c s.heap [] 0 0 Q (F0 m 42 ls []) := by
    intro  ls hf hl
    unfold f_X0_fraysTillFallen_J42 at hf
    refine lv_iconst (v := (-1 : Int32)) hx hb dX0_fraysTillFallen_42 (by decide) ?_
    exact ret_i hQ hx hb hr hk dX0_fraysTillFallen_43 (by cases hf; rfl)
  have J28 : ∀ (ls : Array Slot), f_X0_fraysTillFallen_J28 a0 = some u → lv_has ls 4 [] → W p l e rm_c_X0_fraysTillFallen s m args below meth c s.heap [] 0 0 Q (F0 m 28 ls []) := by
    intro  ls hf hl
    unfold f_X0_fraysTillFallen_J28 at hf
    refine lv_iconst (v := (-1 : Int32)) hx hb dX0_fraysTillFallen_28 (by decide) ?_
    exact ret_i hQ hx hb hr hk dX0_fraysTillFallen_29 (by cases hf; rfl)
  have J17 : ∀ (l2 : Int32) (ls : Array Slot), f_X0_fraysTillFallen_J17 a0 l2 = some u → lv_has ls 4 [(2, .int l2)] → W p l e rm_c_X0_fraysTillFallen s m args below meth c s.heap [] 0 0 Q (F0 m 17 ls []) := by
    intro l2 ls hf hl
    unfold f_X0_fraysTillFallen_J17 at hf
    refine lv_iload_n hx hb dX0_fraysTillFallen_17 rfl (lv_at hl 0 rfl) ?_
    exact ret_i hQ hx hb hr hk dX0_fraysTillFallen_18 (by cases hf; rfl)
  have J4 : ∀ (l1 : Int32) (l2 : Int32) (ls : Array Slot), f_X0_fraysTillFallen_J4 a0 l1 l2 = some u → lv_has ls 4 [(1, .int l1), (2, .int l2)] → W p l e rm_c_X0_fraysTillFallen s m args below meth c s.heap [] 0 0 Q (F0 m 4 ls []) := by
    intro l1 l2 ls hf hl
    unfold f_X0_fraysTillFallen_J4 at hf
    obtain ⟨ex, hlp, hf⟩ := bnd_some hf
    obtain ⟨n, hn⟩ := lp_some hlp
    have X4_17 : ∀ (l2 : Int32) (ls : Array Slot), (Sum.inl l2) = ex → lv_has ls 4 [(2, .int l2)] → W p l e rm_c_X0_fraysTillFallen s m args below meth c s.heap [] 0 0 Q (F0 m 17 ls []) := by
      intro l2 ls hE hl
      have hf := hf
      rw [← hE] at hf
      replace hf : f_X0_fraysTillFallen_J17 a0 l2 = some u := hf
      exact J17 l2 ls hf (lv_sub hl [0] rfl)
    have X4_28 : ∀ (ls : Array Slot), (Sum.inr (Sum.inl ())) = ex → lv_has ls 4 [] → W p l e rm_c_X0_fraysTillFallen s m args below meth c s.heap [] 0 0 Q (F0 m 28 ls []) := by
      intro  ls hE hl
      have hf := hf
      rw [← hE] at hf
      replace hf : f_X0_fraysTillFallen_J28 a0 = some u := hf
      exact J28  ls hf (lv_sub hl [] rfl)
    have X4_42 : ∀ (ls : Array Slot), (Sum.inr (Sum.inr ())) = ex → lv_has ls 4 [] → W p l e rm_c_X0_fraysTillFallen s m args below meth c s.heap [] 0 0 Q (F0 m 42 ls []) := by
      intro  ls hE hl
      have hf := hf
      rw [← hE] at hf
      replace hf : f_X0_fraysTillFallen_J42 a0 = some u := hf
      exact J42  ls hf (lv_sub hl [] rfl)
    have L : ∀ (n : Nat) (l1 : Int32) (l2 : Int32) (ls : Array Slot), itr (fun q => f_X0_fraysTillFallen_S4 a0 q.1 q.2) n (l1, l2) = some ex → lv_has ls 4 [(1, .int l1), (2, .int l2)] → W p l e rm_c_X0_fraysTillFallen s m args below meth c s.heap [] 0 0 Q (F0 m 4 ls []) := by
      intro n
      induction n with
      | zero => intro l1 l2 ls hn; cases hn
      | succ n ih =>
        intro l1 l2 ls hn hl
        obtain ⟨o, hf, hg, he⟩ := itr_s hn
        replace hf : f_X0_fraysTillFallen_S4 a0 l1 l2 = some o := hf
        unfold f_X0_fraysTillFallen_S4 at hf
        refine lv_iload_n hx hb dX0_fraysTillFallen_4 rfl (lv_at hl 1 rfl) ?_
        refine lv_bipush (v := (25 : Int32)) hx hb dX0_fraysTillFallen_5 (by decide) ?_
        refine lv_icmp_gt (tgt := 42) hx hb dX0_fraysTillFallen_7 (by decide) (fun hc => ?_) (fun hc => ?_)
        · rw [if_pos hc] at hf
          exact X4_42  ls (he _ (Option.some.inj hf).symm) (lv_sub hl [] rfl)
        · rw [if_neg hc] at hf
          refine lv_iload_n hx hb dX0_fraysTillFallen_10 rfl (lv_at hl 0 rfl) ?_
          obtain ⟨u4, hu4, hf⟩ := bnd_some hf
          refine k_SR (av := [.int l1]) (rest := []) (st1 := [.int u4]) ⟨hx, hb, hml, hown, htg⟩ (c_X0_fallen l D ca l1 u4 hu4) mw715 mw789 mw96 mw714 nd_X0_fallen ⟨Nat.le_of_ble_eq_true rfl, Nat.le_of_ble_eq_true rfl⟩ rfl rfl hK P_nil hl.1 rfl (Nat.le_of_ble_eq_true rfl) dX0_fraysTillFallen_11 ⟨Nat.le_of_ble_eq_true rfl, Nat.le_of_ble_eq_true rfl⟩ rfl ?_
          refine lv_if_eq (tgt := 19) hx hb dX0_fraysTillFallen_14 (by decide) (fun hc => ?_) (fun hc => ?_)
          · rw [if_pos hc] at hf
            refine lv_iload_n hx hb dX0_fraysTillFallen_19 rfl (lv_at hl 0 rfl) ?_
            obtain ⟨u5, hu5⟩ : ∃ z, z = (f_X0_frayCell l1) := ⟨_, rfl⟩
            replace hf := nm_at hu5 hf
            refine k_SR (av := [.int l1]) (rest := []) (st1 := [.int u5]) ⟨hx, hb, hml, hown, htg⟩ (c_X0_frayCell l D ca l1 u5 hu5.symm) mw1041 mw1039 mw96 mw1040 nd_X0_frayCell ⟨Nat.le_of_ble_eq_true rfl, Nat.le_of_ble_eq_true rfl⟩ rfl rfl hK P_nil hl.1 rfl (Nat.le_of_ble_eq_true rfl) dX0_fraysTillFallen_20 ⟨Nat.le_of_ble_eq_true rfl, Nat.le_of_ble_eq_true rfl⟩ rfl ?_
            refine lv_istore_n (lv' := [(3, .int u5), (1, .int l1), (2, .int l2)]) hx hb dX0_fraysTillFallen_23 rfl hl (by decide) rfl (fun ls hl => ?_)
            refine lv_iload_n hx hb dX0_fraysTillFallen_24 rfl (lv_at hl 0 rfl) ?_
            refine lv_if_ne (tgt := 30) hx hb dX0_fraysTillFallen_25 (by decide) (fun hc => ?_) (fun hc => ?_)
            · rw [if_neg hc] at hf
              refine lv_iload_n hx hb dX0_fraysTillFallen_30 rfl (lv_at hl 1 rfl) ?_
              refine lv_iload_n hx hb dX0_fraysTillFallen_31 rfl (lv_at hl 0 rfl) ?_
              refine lv_iconst (v := (-1 : Int32)) hx hb dX0_fraysTillFallen_32 (by decide) ?_
              refine lv_ixor hx hb dX0_fraysTillFallen_33 ?_
              refine lv_iand hx hb dX0_fraysTillFallen_34 ?_
              refine lv_topi (fun x6 ex6 => ?_)
              replace hf := nm_at ex6 hf
              refine lv_istore_n (lv' := [(1, .int x6), (3, .int u5), (2, .int l2)]) hx hb dX0_fraysTillFallen_35 rfl hl (by decide) rfl (fun ls hl => ?_)
              obtain ⟨x7, ex7⟩ : ∃ y : Int32, y = (l2 + (1 : Int32)) := ⟨_, rfl⟩
              replace hf := nm_at ex7 hf
              refine lv_iinc (v := x7) (lv' := [(2, .int x7), (1, .int x6), (3, .int u5)]) hx hb dX0_fraysTillFallen_36 hl (k := 2) rfl (by rw [ex7]; rfl) (by decide) rfl (fun ls hl => ?_)
              refine lv_goto (tgt := 4) hx hb dX0_fraysTillFallen_39 (by decide) ?_
              exact ih x6 x7 ls (hg _ (Option.some.inj hf).symm) (lv_sub hl [1, 0] rfl)
            · rw [if_pos hc] at hf
              exact X4_28  ls (he _ (Option.some.inj hf).symm) (lv_sub hl [] rfl)
          · rw [if_neg hc] at hf
            exact X4_17 l2 ls (he _ (Option.some.inj hf).symm) (lv_sub hl [1] rfl)
    exact L n l1 l2 ls hn hl
  refine lv_iload_n hx hb dX0_fraysTillFallen_0 rfl (lv_at hl 0 rfl) ?_
  refine lv_istore_n (lv' := [(1, .int a0), (0, .int a0)]) hx hb dX0_fraysTillFallen_1 rfl hl (by decide) rfl (fun ls hl => ?_)
  refine lv_iconst (v := (0 : Int32)) hx hb dX0_fraysTillFallen_2 (by decide) ?_
  refine lv_istore_n (lv' := [(2, .int (0 : Int32)), (1, .int a0), (0, .int a0)]) hx hb dX0_fraysTillFallen_3 rfl hl (by decide) rfl (fun ls hl => ?_)
  exact J4 a0 (0 : Int32) ls hf (lv_sub hl [1, 0] rfl)
theorem nd_X0_box : yX0_box.cls ≠ "java/lang/invoke/MethodHandle" ∧ yX0_box.cls ≠ "java/lang/invoke/VarHandle" ∧ (parseMethodDescriptor yX0_box.desc).map (fun d => d.parameters.length) = some 4 := by decide +kernel
def rm_c_X0_box : Room := { frames := 0, cells := 0, slots := 0, locals := 0 }
set_option maxRecDepth 100000 in
set_option maxHeartbeats 4000000 in
theorem c_X0_box (l : Launch) (D : va_G) (ca : Nat → ClassId) (a0 : Int32) (a1 : Int32) (a2 : Int32) (a3 : Int32) (u : Int32) (hf : f_X0_box a0 a1 a2 a3 = some u) : CR l yX0_box cX0_box 7 (some .int) rm_c_X0_box [.int a0, .int a1, .int a2, .int a3] D ca [] (some (.int u)) := by
  refine CR_of (by decide) (Nat.le_of_ble_eq_true rfl) ?_
  intro p e s m args below meth c ls Q hx hb hml hown htg hP hK hl hQ hr hk
  replace hown : s.vm.findClass "LampSheets$Cells" = some m.cls := hown
  replace hl : lv_has ls 7 [(0, .int a0), (1, .int a1), (2, .int a2), (3, .int a3)] := hl
  unfold f_X0_box at hf
  have J41 : ∀ (l5 : Int32) (ls : Array Slot), f_X0_box_J41 a0 a1 a2 a3 l5 = some u → lv_has ls 7 [(5, .int l5)] → W p l e rm_c_X0_box s m args below meth c s.heap [] 0 0 Q (F0 m 41 ls []) := by
    intro l5 ls hf hl
    unfold f_X0_box_J41 at hf
    refine lv_iload hx hb dX0_box_41 (lv_at hl 0 rfl) ?_
    exact ret_i hQ hx hb hr hk dX0_box_43 (by cases hf; rfl)
  have J15 : ∀ (l4 : Int32) (l5 : Int32) (l6 : Int32) (ls : Array Slot), f_X0_box_J15 a0 a1 a2 a3 l4 l5 l6 = some u → lv_has ls 7 [(1, .int a1), (3, .int a3), (4, .int l4), (5, .int l5), (6, .int l6)] → W p l e rm_c_X0_box s m args below meth c s.heap [] 0 0 Q (F0 m 15 ls []) := by
    intro l4 l5 l6 ls hf hl
    unfold f_X0_box_J15 at hf
    obtain ⟨ex, hlp, hf⟩ := bnd_some hf
    obtain ⟨n, hn⟩ := lp_some hlp
    have X15_41 : ∀ (l5 : Int32) (ls : Array Slot), l5 = ex → lv_has ls 7 [(5, .int l5)] → W p l e rm_c_X0_box s m args below meth c s.heap [] 0 0 Q (F0 m 41 ls []) := by
      intro l5 ls hE hl
      have hf := hf
      rw [← hE] at hf
      replace hf : f_X0_box_J41 a0 a1 a2 a3 l5 = some u := hf
      exact J41 l5 ls hf (lv_sub hl [0] rfl)
    have L : ∀ (n : Nat) (l5 : Int32) (l6 : Int32) (ls : Array Slot), itr (fun q => f_X0_box_S15 a0 a1 a2 a3 l4 q.1 q.2) n (l5, l6) = some ex → lv_has ls 7 [(1, .int a1), (3, .int a3), (4, .int l4), (5, .int l5), (6, .int l6)] → W p l e rm_c_X0_box s m args below meth c s.heap [] 0 0 Q (F0 m 15 ls []) := by
      intro n
      induction n with
      | zero => intro l5 l6 ls hn; cases hn
      | succ n ih =>
        intro l5 l6 ls hn hl
        obtain ⟨o, hf, hg, he⟩ := itr_s hn
        replace hf : f_X0_box_S15 a0 a1 a2 a3 l4 l5 l6 = some o := hf
        unfold f_X0_box_S15 at hf
        refine lv_iload hx hb dX0_box_15 (lv_at hl 4 rfl) ?_
        refine lv_iload_n hx hb dX0_box_17 rfl (lv_at hl 0 rfl) ?_
        refine lv_iload_n hx hb dX0_box_18 rfl (lv_at hl 1 rfl) ?_
        refine lv_iadd hx hb dX0_box_19 ?_
        refine lv_icmp_ge (tgt := 41) hx hb dX0_box_20 (by decide) (fun hc => ?_) (fun hc => ?_)
        · rw [if_pos hc] at hf
          exact X15_41 l5 ls (he _ (Option.some.inj hf).symm) (lv_sub hl [3] rfl)
        · rw [if_neg hc] at hf
          refine lv_iload hx hb dX0_box_23 (lv_at hl 3 rfl) ?_
          refine lv_iload hx hb dX0_box_25 (lv_at hl 2 rfl) ?_
          refine lv_iconst (v := (5 : Int32)) hx hb dX0_box_27 (by decide) ?_
          refine lv_iload hx hb dX0_box_28 (lv_at hl 4 rfl) ?_
          refine lv_imul hx hb dX0_box_30 ?_
          refine lv_ishl hx hb dX0_box_31 ?_
          refine lv_ior hx hb dX0_box_32 ?_
          refine lv_topi (fun x2 ex2 => ?_)
          replace hf := nm_at ex2 hf
          refine lv_istore (lv' := [(5, .int x2), (1, .int a1), (3, .int a3), (4, .int l4), (6, .int l6)]) hx hb dX0_box_33 hl (by decide) rfl (fun ls hl => ?_)
          obtain ⟨x3, ex3⟩ : ∃ y : Int32, y = (l6 + (1 : Int32)) := ⟨_, rfl⟩
          replace hf := nm_at ex3 hf
          refine lv_iinc (v := x3) (lv' := [(6, .int x3), (5, .int x2), (1, .int a1), (3, .int a3), (4, .int l4)]) hx hb dX0_box_35 hl (k := 4) rfl (by rw [ex3]; rfl) (by decide) rfl (fun ls hl => ?_)
          refine lv_goto (tgt := 15) hx hb dX0_box_38 (by decide) ?_
          exact ih x2 x3 ls (hg _ (Option.some.inj hf).symm) (lv_sub hl [2, 3, 4, 1, 0] rfl)
    exact L n l5 l6 ls hn hl
  refine lv_iconst (v := (1 : Int32)) hx hb dX0_box_0 (by decide) ?_
  refine lv_iload_n hx hb dX0_box_1 rfl (lv_at hl 2 rfl) ?_
  refine lv_ishl hx hb dX0_box_2 ?_
  refine lv_iconst (v := (1 : Int32)) hx hb dX0_box_3 (by decide) ?_
  refine lv_isub hx hb dX0_box_4 ?_
  refine lv_iload_n hx hb dX0_box_5 rfl (lv_at hl 0 rfl) ?_
  refine lv_ishl hx hb dX0_box_6 ?_
  refine lv_topi (fun x4 ex4 => ?_)
  replace hf := nm_at ex4 hf
  refine lv_istore (lv' := [(4, .int x4), (0, .int a0), (1, .int a1), (2, .int a2), (3, .int a3)]) hx hb dX0_box_7 hl (by decide) rfl (fun ls hl => ?_)
  refine lv_iconst (v := (0 : Int32)) hx hb dX0_box_9 (by decide) ?_
  refine lv_istore (lv' := [(5, .int (0 : Int32)), (4, .int x4), (0, .int a0), (1, .int a1), (2, .int a2), (3, .int a3)]) hx hb dX0_box_10 hl (by decide) rfl (fun ls hl => ?_)
  refine lv_iload_n hx hb dX0_box_12 rfl (lv_at hl 3 rfl) ?_
  refine lv_istore (lv' := [(6, .int a1), (5, .int (0 : Int32)), (4, .int x4), (0, .int a0), (1, .int a1), (2, .int a2), (3, .int a3)]) hx hb dX0_box_13 hl (by decide) rfl (fun ls hl => ?_)
  exact J15 x4 (0 : Int32) a1 ls hf (lv_sub hl [4, 6, 2, 1, 0] rfl)
theorem nd_X0_turned : yX0_turned.cls ≠ "java/lang/invoke/MethodHandle" ∧ yX0_turned.cls ≠ "java/lang/invoke/VarHandle" ∧ (parseMethodDescriptor yX0_turned.desc).map (fun d => d.parameters.length) = some 1 := by decide +kernel
def rm_c_X0_turned : Room := { frames := 0, cells := 0, slots := 0, locals := 0 }
set_option maxRecDepth 100000 in
set_option maxHeartbeats 4000000 in
theorem c_X0_turned (l : Launch) (D : va_G) (ca : Nat → ClassId) (a0 : Int32) (u : Int32) (hf : f_X0_turned a0 = some u) : CR l yX0_turned cX0_turned 4 (some .int) rm_c_X0_turned [.int a0] D ca [] (some (.int u)) := by
  refine CR_of (by decide) (Nat.le_of_ble_eq_true rfl) ?_
  intro p e s m args below meth c ls Q hx hb hml hown htg hP hK hl hQ hr hk
  replace hown : s.vm.findClass "LampSheets$Cells" = some m.cls := hown
  replace hl : lv_has ls 4 [(0, .int a0)] := hl
  unfold f_X0_turned at hf
  have J48 : ∀ (l1 : Int32) (ls : Array Slot), f_X0_turned_J48 a0 l1 = some u → lv_has ls 4 [(1, .int l1)] → W p l e rm_c_X0_turned s m args below meth c s.heap [] 0 0 Q (F0 m 48 ls []) := by
    intro l1 ls hf hl
    unfold f_X0_turned_J48 at hf
    refine lv_iload_n hx hb dX0_turned_48 rfl (lv_at hl 0 rfl) ?_
    exact ret_i hQ hx hb hr hk dX0_turned_49 (by cases hf; rfl)
  have J4 : ∀ (l1 : Int32) (l2 : Int32) (ls : Array Slot), f_X0_turned_J4 a0 l1 l2 = some u → lv_has ls 4 [(0, .int a0), (1, .int l1), (2, .int l2)] → W p l e rm_c_X0_turned s m args below meth c s.heap [] 0 0 Q (F0 m 4 ls []) := by
    intro l1 l2 ls hf hl
    unfold f_X0_turned_J4 at hf
    obtain ⟨ex, hlp, hf⟩ := bnd_some hf
    obtain ⟨n, hn⟩ := lp_some hlp
    have X4_48 : ∀ (l1 : Int32) (ls : Array Slot), l1 = ex → lv_has ls 4 [(1, .int l1)] → W p l e rm_c_X0_turned s m args below meth c s.heap [] 0 0 Q (F0 m 48 ls []) := by
      intro l1 ls hE hl
      have hf := hf
      rw [← hE] at hf
      replace hf : f_X0_turned_J48 a0 l1 = some u := hf
      exact J48 l1 ls hf (lv_sub hl [0] rfl)
    have L : ∀ (n : Nat) (l1 : Int32) (l2 : Int32) (ls : Array Slot), itr (fun q => f_X0_turned_S4 a0 q.1 q.2) n (l1, l2) = some ex → lv_has ls 4 [(0, .int a0), (1, .int l1), (2, .int l2)] → W p l e rm_c_X0_turned s m args below meth c s.heap [] 0 0 Q (F0 m 4 ls []) := by
      intro n
      induction n with
      | zero => intro l1 l2 ls hn; cases hn
      | succ n ih =>
        intro l1 l2 ls hn hl
        obtain ⟨o, hf, hg, he⟩ := itr_s hn
        replace hf : f_X0_turned_S4 a0 l1 l2 = some o := hf
        have J42 : ∀ (l1 : Int32) (l2 : Int32) (ls : Array Slot), f_X0_turned_J42 a0 l1 l2 = some o → lv_has ls 4 [(0, .int a0), (1, .int l1), (2, .int l2)] → W p l e rm_c_X0_turned s m args below meth c s.heap [] 0 0 Q (F0 m 42 ls []) := by
          intro l1 l2 ls hf hl
          unfold f_X0_turned_J42 at hf
          obtain ⟨x2, ex2⟩ : ∃ y : Int32, y = (l2 + (1 : Int32)) := ⟨_, rfl⟩
          replace hf := nm_at ex2 hf
          refine lv_iinc (v := x2) (lv' := [(2, .int x2), (0, .int a0), (1, .int l1)]) hx hb dX0_turned_42 hl (k := 2) rfl (by rw [ex2]; rfl) (by decide) rfl (fun ls hl => ?_)
          refine lv_goto (tgt := 4) hx hb dX0_turned_45 (by decide) ?_
          exact ih l1 x2 ls (hg _ (Option.some.inj hf).symm) (lv_sub hl [1, 2, 0] rfl)
        have J11 : ∀ (l1 : Int32) (l2 : Int32) (l3 : Int32) (ls : Array Slot), f_X0_turned_J11 a0 l1 l2 l3 = some o → lv_has ls 4 [(0, .int a0), (1, .int l1), (2, .int l2), (3, .int l3)] → W p l e rm_c_X0_turned s m args below meth c s.heap [] 0 0 Q (F0 m 11 ls []) := by
          intro l1 l2 l3 ls hf hl
          unfold f_X0_turned_J11 at hf
          obtain ⟨ex, hlp, hf⟩ := bnd_some hf
          obtain ⟨n, hn⟩ := lp_some hlp
          have X11_42 : ∀ (l1 : Int32) (ls : Array Slot), l1 = ex → lv_has ls 4 [(0, .int a0), (1, .int l1), (2, .int l2)] → W p l e rm_c_X0_turned s m args below meth c s.heap [] 0 0 Q (F0 m 42 ls []) := by
            intro l1 ls hE hl
            have hf := hf
            rw [← hE] at hf
            replace hf : f_X0_turned_J42 a0 l1 l2 = some o := hf
            exact J42 l1 l2 ls hf (lv_sub hl [0, 1, 2] rfl)
          have L : ∀ (n : Nat) (l1 : Int32) (l3 : Int32) (ls : Array Slot), itr (fun q => f_X0_turned_S11 a0 l2 q.1 q.2) n (l1, l3) = some ex → lv_has ls 4 [(0, .int a0), (1, .int l1), (2, .int l2), (3, .int l3)] → W p l e rm_c_X0_turned s m args below meth c s.heap [] 0 0 Q (F0 m 11 ls []) := by
            intro n
            induction n with
            | zero => intro l1 l3 ls hn; cases hn
            | succ n ih =>
              intro l1 l3 ls hn hl
              obtain ⟨o, hf, hg, he⟩ := itr_s hn
              replace hf : f_X0_turned_S11 a0 l2 l1 l3 = some o := hf
              unfold f_X0_turned_S11 at hf
              refine lv_iload_n hx hb dX0_turned_11 rfl (lv_at hl 3 rfl) ?_
              refine lv_iconst (v := (5 : Int32)) hx hb dX0_turned_12 (by decide) ?_
              refine lv_icmp_ge (tgt := 42) hx hb dX0_turned_13 (by decide) (fun hc => ?_) (fun hc => ?_)
              · rw [if_pos hc] at hf
                exact X11_42 l1 ls (he _ (Option.some.inj hf).symm) (lv_sub hl [0, 1, 2] rfl)
              · rw [if_neg hc] at hf
                refine lv_iload_n hx hb dX0_turned_16 rfl (lv_at hl 1 rfl) ?_
                refine lv_iload_n hx hb dX0_turned_17 rfl (lv_at hl 0 rfl) ?_
                refine lv_iconst (v := (5 : Int32)) hx hb dX0_turned_18 (by decide) ?_
                refine lv_iconst (v := (4 : Int32)) hx hb dX0_turned_19 (by decide) ?_
                refine lv_iload_n hx hb dX0_turned_20 rfl (lv_at hl 3 rfl) ?_
                refine lv_isub hx hb dX0_turned_21 ?_
                refine lv_imul hx hb dX0_turned_22 ?_
                refine lv_iload_n hx hb dX0_turned_23 rfl (lv_at hl 2 rfl) ?_
                refine lv_iadd hx hb dX0_turned_24 ?_
                refine lv_ishr hx hb dX0_turned_25 ?_
                refine lv_iconst (v := (1 : Int32)) hx hb dX0_turned_26 (by decide) ?_
                refine lv_iand hx hb dX0_turned_27 ?_
                refine lv_iconst (v := (5 : Int32)) hx hb dX0_turned_28 (by decide) ?_
                refine lv_iload_n hx hb dX0_turned_29 rfl (lv_at hl 2 rfl) ?_
                refine lv_imul hx hb dX0_turned_30 ?_
                refine lv_iload_n hx hb dX0_turned_31 rfl (lv_at hl 3 rfl) ?_
                refine lv_iadd hx hb dX0_turned_32 ?_
                refine lv_ishl hx hb dX0_turned_33 ?_
                refine lv_ior hx hb dX0_turned_34 ?_
                refine lv_topi (fun x4 ex4 => ?_)
                replace hf := nm_at ex4 hf
                refine lv_istore_n (lv' := [(1, .int x4), (0, .int a0), (2, .int l2), (3, .int l3)]) hx hb dX0_turned_35 rfl hl (by decide) rfl (fun ls hl => ?_)
                obtain ⟨x5, ex5⟩ : ∃ y : Int32, y = (l3 + (1 : Int32)) := ⟨_, rfl⟩
                replace hf := nm_at ex5 hf
                refine lv_iinc (v := x5) (lv' := [(3, .int x5), (1, .int x4), (0, .int a0), (2, .int l2)]) hx hb dX0_turned_36 hl (k := 3) rfl (by rw [ex5]; rfl) (by decide) rfl (fun ls hl => ?_)
                refine lv_goto (tgt := 11) hx hb dX0_turned_39 (by decide) ?_
                exact ih x4 x5 ls (hg _ (Option.some.inj hf).symm) (lv_sub hl [2, 1, 3, 0] rfl)
          exact L n l1 l3 ls hn hl
        unfold f_X0_turned_S4 at hf
        refine lv_iload_n hx hb dX0_turned_4 rfl (lv_at hl 2 rfl) ?_
        refine lv_iconst (v := (5 : Int32)) hx hb dX0_turned_5 (by decide) ?_
        refine lv_icmp_ge (tgt := 48) hx hb dX0_turned_6 (by decide) (fun hc => ?_) (fun hc => ?_)
        · rw [if_pos hc] at hf
          exact X4_48 l1 ls (he _ (Option.some.inj hf).symm) (lv_sub hl [1] rfl)
        · rw [if_neg hc] at hf
          refine lv_iconst (v := (0 : Int32)) hx hb dX0_turned_9 (by decide) ?_
          refine lv_istore_n (lv' := [(3, .int (0 : Int32)), (0, .int a0), (1, .int l1), (2, .int l2)]) hx hb dX0_turned_10 rfl hl (by decide) rfl (fun ls hl => ?_)
          exact J11 l1 l2 (0 : Int32) ls hf (lv_sub hl [1, 2, 3, 0] rfl)
    exact L n l1 l2 ls hn hl
  refine lv_iconst (v := (0 : Int32)) hx hb dX0_turned_0 (by decide) ?_
  refine lv_istore_n (lv' := [(1, .int (0 : Int32)), (0, .int a0)]) hx hb dX0_turned_1 rfl hl (by decide) rfl (fun ls hl => ?_)
  refine lv_iconst (v := (0 : Int32)) hx hb dX0_turned_2 (by decide) ?_
  refine lv_istore_n (lv' := [(2, .int (0 : Int32)), (1, .int (0 : Int32)), (0, .int a0)]) hx hb dX0_turned_3 rfl hl (by decide) rfl (fun ls hl => ?_)
  exact J4 (0 : Int32) (0 : Int32) ls hf (lv_sub hl [2, 1, 0] rfl)
theorem nd_X0_flipped : yX0_flipped.cls ≠ "java/lang/invoke/MethodHandle" ∧ yX0_flipped.cls ≠ "java/lang/invoke/VarHandle" ∧ (parseMethodDescriptor yX0_flipped.desc).map (fun d => d.parameters.length) = some 1 := by decide +kernel
def rm_c_X0_flipped : Room := { frames := 0, cells := 0, slots := 0, locals := 0 }
set_option maxRecDepth 100000 in
set_option maxHeartbeats 4000000 in
theorem c_X0_flipped (l : Launch) (D : va_G) (ca : Nat → ClassId) (a0 : Int32) (u : Int32) (hf : f_X0_flipped a0 = some u) : CR l yX0_flipped cX0_flipped 3 (some .int) rm_c_X0_flipped [.int a0] D ca [] (some (.int u)) := by
  refine CR_of (by decide) (Nat.le_of_ble_eq_true rfl) ?_
  intro p e s m args below meth c ls Q hx hb hml hown htg hP hK hl hQ hr hk
  replace hown : s.vm.findClass "LampSheets$Cells" = some m.cls := hown
  replace hl : lv_has ls 3 [(0, .int a0)] := hl
  unfold f_X0_flipped at hf
  have J28 : ∀ (l1 : Int32) (ls : Array Slot), f_X0_flipped_J28 a0 l1 = some u → lv_has ls 3 [(1, .int l1)] → W p l e rm_c_X0_flipped s m args below meth c s.heap [] 0 0 Q (F0 m 28 ls []) := by
    intro l1 ls hf hl
    unfold f_X0_flipped_J28 at hf
    refine lv_iload_n hx hb dX0_flipped_28 rfl (lv_at hl 0 rfl) ?_
    exact ret_i hQ hx hb hr hk dX0_flipped_29 (by cases hf; rfl)
  have J4 : ∀ (l1 : Int32) (l2 : Int32) (ls : Array Slot), f_X0_flipped_J4 a0 l1 l2 = some u → lv_has ls 3 [(0, .int a0), (1, .int l1), (2, .int l2)] → W p l e rm_c_X0_flipped s m args below meth c s.heap [] 0 0 Q (F0 m 4 ls []) := by
    intro l1 l2 ls hf hl
    unfold f_X0_flipped_J4 at hf
    obtain ⟨ex, hlp, hf⟩ := bnd_some hf
    obtain ⟨n, hn⟩ := lp_some hlp
    have X4_28 : ∀ (l1 : Int32) (ls : Array Slot), l1 = ex → lv_has ls 3 [(1, .int l1)] → W p l e rm_c_X0_flipped s m args below meth c s.heap [] 0 0 Q (F0 m 28 ls []) := by
      intro l1 ls hE hl
      have hf := hf
      rw [← hE] at hf
      replace hf : f_X0_flipped_J28 a0 l1 = some u := hf
      exact J28 l1 ls hf (lv_sub hl [0] rfl)
    have L : ∀ (n : Nat) (l1 : Int32) (l2 : Int32) (ls : Array Slot), itr (fun q => f_X0_flipped_S4 a0 q.1 q.2) n (l1, l2) = some ex → lv_has ls 3 [(0, .int a0), (1, .int l1), (2, .int l2)] → W p l e rm_c_X0_flipped s m args below meth c s.heap [] 0 0 Q (F0 m 4 ls []) := by
      intro n
      induction n with
      | zero => intro l1 l2 ls hn; cases hn
      | succ n ih =>
        intro l1 l2 ls hn hl
        obtain ⟨o, hf, hg, he⟩ := itr_s hn
        replace hf : f_X0_flipped_S4 a0 l1 l2 = some o := hf
        unfold f_X0_flipped_S4 at hf
        refine lv_iload_n hx hb dX0_flipped_4 rfl (lv_at hl 2 rfl) ?_
        refine lv_iconst (v := (5 : Int32)) hx hb dX0_flipped_5 (by decide) ?_
        refine lv_icmp_ge (tgt := 28) hx hb dX0_flipped_6 (by decide) (fun hc => ?_) (fun hc => ?_)
        · rw [if_pos hc] at hf
          exact X4_28 l1 ls (he _ (Option.some.inj hf).symm) (lv_sub hl [1] rfl)
        · rw [if_neg hc] at hf
          refine lv_iload_n hx hb dX0_flipped_9 rfl (lv_at hl 1 rfl) ?_
          refine lv_iload_n hx hb dX0_flipped_10 rfl (lv_at hl 0 rfl) ?_
          refine lv_iconst (v := (4 : Int32)) hx hb dX0_flipped_11 (by decide) ?_
          refine lv_iload_n hx hb dX0_flipped_12 rfl (lv_at hl 2 rfl) ?_
          refine lv_isub hx hb dX0_flipped_13 ?_
          refine lv_ishr hx hb dX0_flipped_14 ?_
          refine lv_ldc hx hb hown (htg _ mw676) dX0_flipped_15 ?_
          refine lv_iand hx hb dX0_flipped_17 ?_
          refine lv_iload_n hx hb dX0_flipped_18 rfl (lv_at hl 2 rfl) ?_
          refine lv_ishl hx hb dX0_flipped_19 ?_
          refine lv_ior hx hb dX0_flipped_20 ?_
          refine lv_topi (fun x2 ex2 => ?_)
          replace hf := nm_at ex2 hf
          refine lv_istore_n (lv' := [(1, .int x2), (0, .int a0), (2, .int l2)]) hx hb dX0_flipped_21 rfl hl (by decide) rfl (fun ls hl => ?_)
          obtain ⟨x3, ex3⟩ : ∃ y : Int32, y = (l2 + (1 : Int32)) := ⟨_, rfl⟩
          replace hf := nm_at ex3 hf
          refine lv_iinc (v := x3) (lv' := [(2, .int x3), (1, .int x2), (0, .int a0)]) hx hb dX0_flipped_22 hl (k := 2) rfl (by rw [ex3]; rfl) (by decide) rfl (fun ls hl => ?_)
          refine lv_goto (tgt := 4) hx hb dX0_flipped_25 (by decide) ?_
          exact ih x2 x3 ls (hg _ (Option.some.inj hf).symm) (lv_sub hl [2, 1, 0] rfl)
    exact L n l1 l2 ls hn hl
  refine lv_iconst (v := (0 : Int32)) hx hb dX0_flipped_0 (by decide) ?_
  refine lv_istore_n (lv' := [(1, .int (0 : Int32)), (0, .int a0)]) hx hb dX0_flipped_1 rfl hl (by decide) rfl (fun ls hl => ?_)
  refine lv_iconst (v := (0 : Int32)) hx hb dX0_flipped_2 (by decide) ?_
  refine lv_istore_n (lv' := [(2, .int (0 : Int32)), (1, .int (0 : Int32)), (0, .int a0)]) hx hb dX0_flipped_3 rfl hl (by decide) rfl (fun ls hl => ?_)
  exact J4 (0 : Int32) (0 : Int32) ls hf (lv_sub hl [2, 1, 0] rfl)
theorem nd_X0_boxRound : yX0_boxRound.cls ≠ "java/lang/invoke/MethodHandle" ∧ yX0_boxRound.cls ≠ "java/lang/invoke/VarHandle" ∧ (parseMethodDescriptor yX0_boxRound.desc).map (fun d => d.parameters.length) = some 1 := by decide +kernel
def rm_c_X0_boxRound : Room := { frames := 0, cells := 0, slots := 0, locals := 0 }
set_option maxRecDepth 100000 in
set_option maxHeartbeats 4000000 in
theorem c_X0_boxRound (l : Launch) (D : va_G) (ca : Nat → ClassId) (a0 : Int32) (u : Int32) (hf : f_X0_boxRound a0 = some u) : CR l yX0_boxRound cX0_boxRound 9 (some .int) rm_c_X0_boxRound [.int a0] D ca [] (some (.int u)) := by
  refine CR_of (by decide) (Nat.le_of_ble_eq_true rfl) ?_
  intro p e s m args below meth c ls Q hx hb hml hown htg hP hK hl hQ hr hk
  replace hown : s.vm.findClass "LampSheets$Cells" = some m.cls := hown
  replace hl : lv_has ls 9 [(0, .int a0)] := hl
  unfold f_X0_boxRound at hf
  have J133 : ∀ (l5 : Int32) (ls : Array Slot), f_X0_boxRound_J133 a0 l5 = some u → lv_has ls 9 [(5, .int l5)] → W p l e rm_c_X0_boxRound s m args below meth c s.heap [] 0 0 Q (F0 m 133 ls []) := by
    intro l5 ls hf hl
    unfold f_X0_boxRound_J133 at hf
    refine lv_iload hx hb dX0_boxRound_133 (lv_at hl 0 rfl) ?_
    exact ret_i hQ hx hb hr hk dX0_boxRound_135 (by cases hf; rfl)
  have J61 : ∀ (l4 : Int32) (l5 : Int32) (l6 : Int32) (ls : Array Slot), f_X0_boxRound_J61 a0 l4 l5 l6 = some u → lv_has ls 9 [(0, .int a0), (4, .int l4), (5, .int l5), (6, .int l6)] → W p l e rm_c_X0_boxRound s m args below meth c s.heap [] 0 0 Q (F0 m 61 ls []) := by
    intro l4 l5 l6 ls hf hl
    unfold f_X0_boxRound_J61 at hf
    obtain ⟨ex, hlp, hf⟩ := bnd_some hf
    obtain ⟨n, hn⟩ := lp_some hlp
    have X61_133 : ∀ (l5 : Int32) (ls : Array Slot), l5 = ex → lv_has ls 9 [(5, .int l5)] → W p l e rm_c_X0_boxRound s m args below meth c s.heap [] 0 0 Q (F0 m 133 ls []) := by
      intro l5 ls hE hl
      have hf := hf
      rw [← hE] at hf
      replace hf : f_X0_boxRound_J133 a0 l5 = some u := hf
      exact J133 l5 ls hf (lv_sub hl [0] rfl)
    have L : ∀ (n : Nat) (l5 : Int32) (l6 : Int32) (ls : Array Slot), itr (fun q => f_X0_boxRound_S61 a0 l4 q.1 q.2) n (l5, l6) = some ex → lv_has ls 9 [(0, .int a0), (4, .int l4), (5, .int l5), (6, .int l6)] → W p l e rm_c_X0_boxRound s m args below meth c s.heap [] 0 0 Q (F0 m 61 ls []) := by
      intro n
      induction n with
      | zero => intro l5 l6 ls hn; cases hn
      | succ n ih =>
        intro l5 l6 ls hn hl
        obtain ⟨o, hf, hg, he⟩ := itr_s hn
        replace hf : f_X0_boxRound_S61 a0 l4 l5 l6 = some o := hf
        have J127 : ∀ (l5 : Int32) (l6 : Int32) (ls : Array Slot), f_X0_boxRound_J127 a0 l4 l5 l6 = some o → lv_has ls 9 [(0, .int a0), (4, .int l4), (5, .int l5), (6, .int l6)] → W p l e rm_c_X0_boxRound s m args below meth c s.heap [] 0 0 Q (F0 m 127 ls []) := by
          intro l5 l6 ls hf hl
          unfold f_X0_boxRound_J127 at hf
          obtain ⟨x2, ex2⟩ : ∃ y : Int32, y = (l6 + (1 : Int32)) := ⟨_, rfl⟩
          replace hf := nm_at ex2 hf
          refine lv_iinc (v := x2) (lv' := [(6, .int x2), (0, .int a0), (4, .int l4), (5, .int l5)]) hx hb dX0_boxRound_127 hl (k := 3) rfl (by rw [ex2]; rfl) (by decide) rfl (fun ls hl => ?_)
          refine lv_goto (tgt := 61) hx hb dX0_boxRound_130 (by decide) ?_
          exact ih l5 x2 ls (hg _ (Option.some.inj hf).symm) (lv_sub hl [1, 2, 3, 0] rfl)
        have J103 : ∀ (l5 : Int32) (l6 : Int32) (l7 : Int32) (s0 : Int32) (ls : Array Slot), f_X0_boxRound_J103 a0 l4 l5 l6 l7 s0 = some o → lv_has ls 9 [(0, .int a0), (4, .int l4), (5, .int l5), (6, .int l6), (7, .int l7)] → W p l e rm_c_X0_boxRound s m args below meth c s.heap [] 0 0 Q (F0 m 103 ls [.int s0]) := by
          intro l5 l6 l7 s0 ls hf hl
          unfold f_X0_boxRound_J103 at hf
          refine lv_istore (lv' := [(8, .int s0), (0, .int a0), (4, .int l4), (5, .int l5), (6, .int l6), (7, .int l7)]) hx hb dX0_boxRound_103 hl (by decide) rfl (fun ls hl => ?_)
          refine lv_iload hx hb dX0_boxRound_105 (lv_at hl 5 rfl) ?_
          refine lv_if_eq (tgt := 127) hx hb dX0_boxRound_107 (by decide) (fun hc => ?_) (fun hc => ?_)
          · rw [if_pos hc] at hf
            exact J127 l5 l6 ls hf (lv_sub hl [1, 2, 3, 4] rfl)
          · rw [if_neg hc] at hf
            refine lv_iload hx hb dX0_boxRound_110 (lv_at hl 0 rfl) ?_
            refine lv_if_eq (tgt := 127) hx hb dX0_boxRound_112 (by decide) (fun hc => ?_) (fun hc => ?_)
            · rw [if_pos hc] at hf
              exact J127 l5 l6 ls hf (lv_sub hl [1, 2, 3, 4] rfl)
            · rw [if_neg hc] at hf
              refine lv_iload hx hb dX0_boxRound_115 (lv_at hl 3 rfl) ?_
              refine lv_iload hx hb dX0_boxRound_117 (lv_at hl 2 rfl) ?_
              refine lv_iconst (v := (5 : Int32)) hx hb dX0_boxRound_119 (by decide) ?_
              refine lv_iload hx hb dX0_boxRound_120 (lv_at hl 4 rfl) ?_
              refine lv_imul hx hb dX0_boxRound_122 ?_
              refine lv_ishl hx hb dX0_boxRound_123 ?_
              refine lv_ior hx hb dX0_boxRound_124 ?_
              refine lv_topi (fun x3 ex3 => ?_)
              replace hf := nm_at ex3 hf
              refine lv_istore (lv' := [(5, .int x3), (8, .int s0), (0, .int a0), (4, .int l4), (6, .int l6), (7, .int l7)]) hx hb dX0_boxRound_125 hl (by decide) rfl (fun ls hl => ?_)
              exact J127 x3 l6 ls hf (lv_sub hl [2, 3, 0, 4] rfl)
        have J87 : ∀ (l5 : Int32) (l6 : Int32) (s0 : Int32) (ls : Array Slot), f_X0_boxRound_J87 a0 l4 l5 l6 s0 = some o → lv_has ls 9 [(0, .int a0), (4, .int l4), (5, .int l5), (6, .int l6)] → W p l e rm_c_X0_boxRound s m args below meth c s.heap [] 0 0 Q (F0 m 87 ls [.int s0]) := by
          intro l5 l6 s0 ls hf hl
          unfold f_X0_boxRound_J87 at hf
          refine lv_istore (lv' := [(7, .int s0), (0, .int a0), (4, .int l4), (5, .int l5), (6, .int l6)]) hx hb dX0_boxRound_87 hl (by decide) rfl (fun ls hl => ?_)
          refine lv_iload_n hx hb dX0_boxRound_89 rfl (lv_at hl 1 rfl) ?_
          refine lv_iconst (v := (5 : Int32)) hx hb dX0_boxRound_90 (by decide) ?_
          refine lv_iload hx hb dX0_boxRound_91 (lv_at hl 4 rfl) ?_
          refine lv_imul hx hb dX0_boxRound_93 ?_
          refine lv_ishr hx hb dX0_boxRound_94 ?_
          refine lv_if_eq (tgt := 102) hx hb dX0_boxRound_95 (by decide) (fun hc => ?_) (fun hc => ?_)
          · rw [if_pos hc] at hf
            refine lv_iconst (v := (0 : Int32)) hx hb dX0_boxRound_102 (by decide) ?_
            exact J103 l5 l6 s0 (0 : Int32) ls hf (lv_sub hl [1, 2, 3, 4, 0] rfl)
          · rw [if_neg hc] at hf
            refine lv_iconst (v := (1 : Int32)) hx hb dX0_boxRound_98 (by decide) ?_
            refine lv_goto (tgt := 103) hx hb dX0_boxRound_99 (by decide) ?_
            exact J103 l5 l6 s0 (1 : Int32) ls hf (lv_sub hl [1, 2, 3, 4, 0] rfl)
        unfold f_X0_boxRound_S61 at hf
        refine lv_iload hx hb dX0_boxRound_61 (lv_at hl 3 rfl) ?_
        refine lv_iconst (v := (5 : Int32)) hx hb dX0_boxRound_63 (by decide) ?_
        refine lv_icmp_ge (tgt := 133) hx hb dX0_boxRound_64 (by decide) (fun hc => ?_) (fun hc => ?_)
        · rw [if_pos hc] at hf
          exact X61_133 l5 ls (he _ (Option.some.inj hf).symm) (lv_sub hl [2] rfl)
        · rw [if_neg hc] at hf
          refine lv_iload_n hx hb dX0_boxRound_67 rfl (lv_at hl 0 rfl) ?_
          refine lv_iconst (v := (1 : Int32)) hx hb dX0_boxRound_68 (by decide) ?_
          refine lv_iconst (v := (5 : Int32)) hx hb dX0_boxRound_69 (by decide) ?_
          refine lv_iload hx hb dX0_boxRound_70 (lv_at hl 3 rfl) ?_
          refine lv_imul hx hb dX0_boxRound_72 ?_
          refine lv_iconst (v := (5 : Int32)) hx hb dX0_boxRound_73 (by decide) ?_
          refine lv_iadd hx hb dX0_boxRound_74 ?_
          refine lv_ishl hx hb dX0_boxRound_75 ?_
          refine lv_iconst (v := (1 : Int32)) hx hb dX0_boxRound_76 (by decide) ?_
          refine lv_isub hx hb dX0_boxRound_77 ?_
          refine lv_iand hx hb dX0_boxRound_78 ?_
          refine lv_if_eq (tgt := 86) hx hb dX0_boxRound_79 (by decide) (fun hc => ?_) (fun hc => ?_)
          · rw [if_pos hc] at hf
            refine lv_iconst (v := (0 : Int32)) hx hb dX0_boxRound_86 (by decide) ?_
            exact J87 l5 l6 (0 : Int32) ls hf (lv_sub hl [0, 1, 2, 3] rfl)
          · rw [if_neg hc] at hf
            refine lv_iconst (v := (1 : Int32)) hx hb dX0_boxRound_82 (by decide) ?_
            refine lv_goto (tgt := 87) hx hb dX0_boxRound_83 (by decide) ?_
            exact J87 l5 l6 (1 : Int32) ls hf (lv_sub hl [0, 1, 2, 3] rfl)
    exact L n l5 l6 ls hn hl
  have J26 : ∀ (l1 : Int32) (ls : Array Slot), f_X0_boxRound_J26 a0 l1 = some u → lv_has ls 9 [(0, .int a0), (1, .int l1)] → W p l e rm_c_X0_boxRound s m args below meth c s.heap [] 0 0 Q (F0 m 26 ls []) := by
    intro l1 ls hf hl
    unfold f_X0_boxRound_J26 at hf
    refine lv_iload_n hx hb dX0_boxRound_26 rfl (lv_at hl 1 rfl) ?_
    refine lv_iload_n hx hb dX0_boxRound_27 rfl (lv_at hl 1 rfl) ?_
    refine lv_ineg hx hb dX0_boxRound_28 ?_
    refine lv_iand hx hb dX0_boxRound_29 ?_
    refine lv_topi (fun x4 ex4 => ?_)
    replace hf := nm_at ex4 hf
    refine lv_istore_n (lv' := [(2, .int x4), (0, .int a0), (1, .int l1)]) hx hb dX0_boxRound_30 rfl hl (by decide) rfl (fun ls hl => ?_)
    refine lv_iload_n hx hb dX0_boxRound_31 rfl (lv_at hl 2 rfl) ?_
    refine lv_iload_n hx hb dX0_boxRound_32 rfl (lv_at hl 2 rfl) ?_
    refine lv_iconst (v := (1 : Int32)) hx hb dX0_boxRound_33 (by decide) ?_
    refine lv_ishr hx hb dX0_boxRound_34 ?_
    refine lv_ior hx hb dX0_boxRound_35 ?_
    refine lv_topi (fun x5 ex5 => ?_)
    replace hf := nm_at ex5 hf
    refine lv_istore_n (lv' := [(3, .int x5), (2, .int x4), (0, .int a0), (1, .int l1)]) hx hb dX0_boxRound_36 rfl hl (by decide) rfl (fun ls hl => ?_)
    refine lv_iload_n hx hb dX0_boxRound_37 rfl (lv_at hl 0 rfl) ?_
    refine lv_iload_n hx hb dX0_boxRound_38 rfl (lv_at hl 0 rfl) ?_
    refine lv_iconst (v := (2 : Int32)) hx hb dX0_boxRound_39 (by decide) ?_
    refine lv_ishr hx hb dX0_boxRound_40 ?_
    refine lv_ior hx hb dX0_boxRound_41 ?_
    refine lv_topi (fun x6 ex6 => ?_)
    replace hf := nm_at ex6 hf
    refine lv_istore_n (lv' := [(3, .int x6), (2, .int x4), (0, .int a0), (1, .int l1)]) hx hb dX0_boxRound_42 rfl hl (by decide) rfl (fun ls hl => ?_)
    refine lv_iload_n hx hb dX0_boxRound_43 rfl (lv_at hl 0 rfl) ?_
    refine lv_iload_n hx hb dX0_boxRound_44 rfl (lv_at hl 0 rfl) ?_
    refine lv_iconst (v := (4 : Int32)) hx hb dX0_boxRound_45 (by decide) ?_
    refine lv_ishr hx hb dX0_boxRound_46 ?_
    refine lv_ior hx hb dX0_boxRound_47 ?_
    refine lv_topi (fun x7 ex7 => ?_)
    replace hf := nm_at ex7 hf
    refine lv_istore_n (lv' := [(3, .int x7), (2, .int x4), (0, .int a0), (1, .int l1)]) hx hb dX0_boxRound_48 rfl hl (by decide) rfl (fun ls hl => ?_)
    refine lv_iload_n hx hb dX0_boxRound_49 rfl (lv_at hl 0 rfl) ?_
    refine lv_iload_n hx hb dX0_boxRound_50 rfl (lv_at hl 1 rfl) ?_
    refine lv_ineg hx hb dX0_boxRound_51 ?_
    refine lv_iand hx hb dX0_boxRound_52 ?_
    refine lv_topi (fun x8 ex8 => ?_)
    replace hf := nm_at ex8 hf
    refine lv_istore (lv' := [(4, .int x8), (3, .int x7), (2, .int x4), (0, .int a0), (1, .int l1)]) hx hb dX0_boxRound_53 hl (by decide) rfl (fun ls hl => ?_)
    refine lv_iconst (v := (0 : Int32)) hx hb dX0_boxRound_55 (by decide) ?_
    refine lv_istore (lv' := [(5, .int (0 : Int32)), (4, .int x8), (3, .int x7), (2, .int x4), (0, .int a0), (1, .int l1)]) hx hb dX0_boxRound_56 hl (by decide) rfl (fun ls hl => ?_)
    refine lv_iconst (v := (0 : Int32)) hx hb dX0_boxRound_58 (by decide) ?_
    refine lv_istore (lv' := [(6, .int (0 : Int32)), (5, .int (0 : Int32)), (4, .int x8), (3, .int x7), (2, .int x4), (0, .int a0), (1, .int l1)]) hx hb dX0_boxRound_59 hl (by decide) rfl (fun ls hl => ?_)
    exact J61 x8 (0 : Int32) (0 : Int32) ls hf (lv_sub hl [5, 2, 1, 0] rfl)
  have J4 : ∀ (l1 : Int32) (l2 : Int32) (ls : Array Slot), f_X0_boxRound_J4 a0 l1 l2 = some u → lv_has ls 9 [(0, .int a0), (1, .int l1), (2, .int l2)] → W p l e rm_c_X0_boxRound s m args below meth c s.heap [] 0 0 Q (F0 m 4 ls []) := by
    intro l1 l2 ls hf hl
    unfold f_X0_boxRound_J4 at hf
    obtain ⟨ex, hlp, hf⟩ := bnd_some hf
    obtain ⟨n, hn⟩ := lp_some hlp
    have X4_26 : ∀ (l1 : Int32) (ls : Array Slot), l1 = ex → lv_has ls 9 [(0, .int a0), (1, .int l1)] → W p l e rm_c_X0_boxRound s m args below meth c s.heap [] 0 0 Q (F0 m 26 ls []) := by
      intro l1 ls hE hl
      have hf := hf
      rw [← hE] at hf
      replace hf : f_X0_boxRound_J26 a0 l1 = some u := hf
      exact J26 l1 ls hf (lv_sub hl [0, 1] rfl)
    have L : ∀ (n : Nat) (l1 : Int32) (l2 : Int32) (ls : Array Slot), itr (fun q => f_X0_boxRound_S4 a0 q.1 q.2) n (l1, l2) = some ex → lv_has ls 9 [(0, .int a0), (1, .int l1), (2, .int l2)] → W p l e rm_c_X0_boxRound s m args below meth c s.heap [] 0 0 Q (F0 m 4 ls []) := by
      intro n
      induction n with
      | zero => intro l1 l2 ls hn; cases hn
      | succ n ih =>
        intro l1 l2 ls hn hl
        obtain ⟨o, hf, hg, he⟩ := itr_s hn
        replace hf : f_X0_boxRound_S4 a0 l1 l2 = some o := hf
        unfold f_X0_boxRound_S4 at hf
        refine lv_iload_n hx hb dX0_boxRound_4 rfl (lv_at hl 2 rfl) ?_
        refine lv_iconst (v := (5 : Int32)) hx hb dX0_boxRound_5 (by decide) ?_
        refine lv_icmp_ge (tgt := 26) hx hb dX0_boxRound_6 (by decide) (fun hc => ?_) (fun hc => ?_)
        · rw [if_pos hc] at hf
          exact X4_26 l1 ls (he _ (Option.some.inj hf).symm) (lv_sub hl [0, 1] rfl)
        · rw [if_neg hc] at hf
          refine lv_iload_n hx hb dX0_boxRound_9 rfl (lv_at hl 1 rfl) ?_
          refine lv_iload_n hx hb dX0_boxRound_10 rfl (lv_at hl 0 rfl) ?_
          refine lv_iconst (v := (5 : Int32)) hx hb dX0_boxRound_11 (by decide) ?_
          refine lv_iload_n hx hb dX0_boxRound_12 rfl (lv_at hl 2 rfl) ?_
          refine lv_imul hx hb dX0_boxRound_13 ?_
          refine lv_ishr hx hb dX0_boxRound_14 ?_
          refine lv_bipush (v := (31 : Int32)) hx hb dX0_boxRound_15 (by decide) ?_
          refine lv_iand hx hb dX0_boxRound_17 ?_
          refine lv_ior hx hb dX0_boxRound_18 ?_
          refine lv_topi (fun x10 ex10 => ?_)
          replace hf := nm_at ex10 hf
          refine lv_istore_n (lv' := [(1, .int x10), (0, .int a0), (2, .int l2)]) hx hb dX0_boxRound_19 rfl hl (by decide) rfl (fun ls hl => ?_)
          obtain ⟨x11, ex11⟩ : ∃ y : Int32, y = (l2 + (1 : Int32)) := ⟨_, rfl⟩
          replace hf := nm_at ex11 hf
          refine lv_iinc (v := x11) (lv' := [(2, .int x11), (1, .int x10), (0, .int a0)]) hx hb dX0_boxRound_20 hl (k := 2) rfl (by rw [ex11]; rfl) (by decide) rfl (fun ls hl => ?_)
          refine lv_goto (tgt := 4) hx hb dX0_boxRound_23 (by decide) ?_
          exact ih x10 x11 ls (hg _ (Option.some.inj hf).symm) (lv_sub hl [2, 1, 0] rfl)
    exact L n l1 l2 ls hn hl
  refine lv_iconst (v := (0 : Int32)) hx hb dX0_boxRound_0 (by decide) ?_
  refine lv_istore_n (lv' := [(1, .int (0 : Int32)), (0, .int a0)]) hx hb dX0_boxRound_1 rfl hl (by decide) rfl (fun ls hl => ?_)
  refine lv_iconst (v := (0 : Int32)) hx hb dX0_boxRound_2 (by decide) ?_
  refine lv_istore_n (lv' := [(2, .int (0 : Int32)), (1, .int (0 : Int32)), (0, .int a0)]) hx hb dX0_boxRound_3 rfl hl (by decide) rfl (fun ls hl => ?_)
  exact J4 (0 : Int32) (0 : Int32) ls hf (lv_sub hl [2, 1, 0] rfl)
theorem nd_X0_inOneStroke : yX0_inOneStroke.cls ≠ "java/lang/invoke/MethodHandle" ∧ yX0_inOneStroke.cls ≠ "java/lang/invoke/VarHandle" ∧ (parseMethodDescriptor yX0_inOneStroke.desc).map (fun d => d.parameters.length) = some 4 := by decide +kernel
def rm_c_X0_inOneStroke : Room := { frames := 1, cells := 0, slots := 0, locals := 28 }
set_option maxRecDepth 100000 in
set_option maxHeartbeats 4000000 in
theorem c_X0_inOneStroke (l : Launch) (D : va_G) (ca : Nat → ClassId) (a0 : Int32) (a1 : Int32) (a2 : Int32) (a3 : Int32) (u : Int32) (hf : f_X0_inOneStroke a0 a1 a2 a3 = some u) : CR l yX0_inOneStroke cX0_inOneStroke 7 (some .boolean) rm_c_X0_inOneStroke [.int a0, .int a1, .int a2, .int a3] D ca [] (some (.int u)) := by
  refine CR_of (by decide) (Nat.le_of_ble_eq_true rfl) ?_
  intro p e s m args below meth c ls Q hx hb hml hown htg hP hK hl hQ hr hk
  replace hown : s.vm.findClass "LampSheets$Cells" = some m.cls := hown
  replace hl : lv_has ls 7 [(0, .int a0), (1, .int a1), (2, .int a2), (3, .int a3)] := hl
  unfold f_X0_inOneStroke at hf
  have J74 : ∀ (l5 : Int32) (l6 : Int32) (ls : Array Slot), f_X0_inOneStroke_J74 a0 a1 a2 a3 l5 l6 = some u → lv_has ls 7 [(1, .int a1), (5, .int l5), (6, .int l6)] → W p l e rm_c_X0_inOneStroke s m args below meth c s.heap [] 0 0 Q (F0 m 74 ls []) := by
    intro l5 l6 ls hf hl
    unfold f_X0_inOneStroke_J74 at hf
    refine lv_iload hx hb dX0_inOneStroke_74 (lv_at hl 1 rfl) ?_
    refine lv_if_eq (tgt := 92) hx hb dX0_inOneStroke_76 (by decide) (fun hc => ?_) (fun hc => ?_)
    · rw [if_pos hc] at hf
      refine lv_iconst (v := (0 : Int32)) hx hb dX0_inOneStroke_92 (by decide) ?_
      exact ret_z hQ hx hb hr hk dX0_inOneStroke_93 (by cases hf; rfl) rfl
    · rw [if_neg hc] at hf
      refine lv_iload hx hb dX0_inOneStroke_79 (lv_at hl 2 rfl) ?_
      refine lv_iload_n hx hb dX0_inOneStroke_81 rfl (lv_at hl 0 rfl) ?_
      refine lv_iconst (v := (-1 : Int32)) hx hb dX0_inOneStroke_82 (by decide) ?_
      refine lv_ixor hx hb dX0_inOneStroke_83 ?_
      refine lv_iand hx hb dX0_inOneStroke_84 ?_
      refine lv_if_ne (tgt := 92) hx hb dX0_inOneStroke_85 (by decide) (fun hc => ?_) (fun hc => ?_)
      · rw [if_neg hc] at hf
        refine lv_iconst (v := (0 : Int32)) hx hb dX0_inOneStroke_92 (by decide) ?_
        exact ret_z hQ hx hb hr hk dX0_inOneStroke_93 (by cases hf; rfl) rfl
      · rw [if_pos hc] at hf
        refine lv_iconst (v := (1 : Int32)) hx hb dX0_inOneStroke_88 (by decide) ?_
        refine lv_goto (tgt := 93) hx hb dX0_inOneStroke_89 (by decide) ?_
        exact ret_z hQ hx hb hr hk dX0_inOneStroke_93 (by cases hf; rfl) rfl
  have J54 : ∀ (l4 : Int32) (l5 : Int32) (ls : Array Slot), f_X0_inOneStroke_J54 a0 a1 a2 a3 l4 l5 = some u → lv_has ls 7 [(0, .int a0), (1, .int a1), (4, .int l4), (5, .int l5)] → W p l e rm_c_X0_inOneStroke s m args below meth c s.heap [] 0 0 Q (F0 m 54 ls []) := by
    intro l4 l5 ls hf hl
    unfold f_X0_inOneStroke_J54 at hf
    refine lv_iload_n hx hb dX0_inOneStroke_54 rfl (lv_at hl 0 rfl) ?_
    refine lv_iload_n hx hb dX0_inOneStroke_55 rfl (lv_at hl 1 rfl) ?_
    refine lv_ixor hx hb dX0_inOneStroke_56 ?_
    obtain ⟨u1, hu1, hf⟩ := bnd_some hf
    refine k_SR (av := [.int (a0 ^^^ a1)]) (rest := []) (st1 := [.int u1]) ⟨hx, hb, hml, hown, htg⟩ (c_X0_boxRound l D ca (a0 ^^^ a1) u1 hu1) mw1094 mw1092 mw96 mw1093 nd_X0_boxRound ⟨Nat.le_of_ble_eq_true rfl, Nat.le_of_ble_eq_true rfl⟩ rfl rfl hK P_nil hl.1 rfl (Nat.le_of_ble_eq_true rfl) dX0_inOneStroke_57 ⟨Nat.le_of_ble_eq_true rfl, Nat.le_of_ble_eq_true rfl⟩ rfl ?_
    refine lv_istore (lv' := [(6, .int u1), (0, .int a0), (1, .int a1), (4, .int l4), (5, .int l5)]) hx hb dX0_inOneStroke_60 hl (by decide) rfl (fun ls hl => ?_)
    refine lv_iload hx hb dX0_inOneStroke_62 (lv_at hl 3 rfl) ?_
    refine lv_if_eq (tgt := 74) hx hb dX0_inOneStroke_64 (by decide) (fun hc => ?_) (fun hc => ?_)
    · rw [if_pos hc] at hf
      exact J74 l5 u1 ls hf (lv_sub hl [2, 4, 0] rfl)
    · rw [if_neg hc] at hf
      refine lv_iload hx hb dX0_inOneStroke_67 (lv_at hl 0 rfl) ?_
      refine lv_iload_n hx hb dX0_inOneStroke_69 rfl (lv_at hl 2 rfl) ?_
      refine lv_iand hx hb dX0_inOneStroke_70 ?_
      refine lv_if_eq (tgt := 88) hx hb dX0_inOneStroke_71 (by decide) (fun hc => ?_) (fun hc => ?_)
      · rw [if_pos hc] at hf
        refine lv_iconst (v := (1 : Int32)) hx hb dX0_inOneStroke_88 (by decide) ?_
        refine lv_goto (tgt := 93) hx hb dX0_inOneStroke_89 (by decide) ?_
        exact ret_z hQ hx hb hr hk dX0_inOneStroke_93 (by cases hf; rfl) rfl
      · rw [if_neg hc] at hf
        exact J74 l5 u1 ls hf (lv_sub hl [2, 4, 0] rfl)
  have J40 : ∀ (l4 : Int32) (s0 : Int32) (ls : Array Slot), f_X0_inOneStroke_J40 a0 a1 a2 a3 l4 s0 = some u → lv_has ls 7 [(0, .int a0), (1, .int a1), (4, .int l4)] → W p l e rm_c_X0_inOneStroke s m args below meth c s.heap [] 0 0 Q (F0 m 40 ls [.int s0]) := by
    intro l4 s0 ls hf hl
    unfold f_X0_inOneStroke_J40 at hf
    refine lv_istore (lv' := [(5, .int s0), (0, .int a0), (1, .int a1), (4, .int l4)]) hx hb dX0_inOneStroke_40 hl (by decide) rfl (fun ls hl => ?_)
    refine lv_iload hx hb dX0_inOneStroke_42 (lv_at hl 3 rfl) ?_
    refine lv_if_ne (tgt := 54) hx hb dX0_inOneStroke_44 (by decide) (fun hc => ?_) (fun hc => ?_)
    · rw [if_neg hc] at hf
      exact J54 l4 s0 ls hf (lv_sub hl [1, 2, 3, 0] rfl)
    · rw [if_pos hc] at hf
      refine lv_iload hx hb dX0_inOneStroke_47 (lv_at hl 0 rfl) ?_
      refine lv_if_ne (tgt := 54) hx hb dX0_inOneStroke_49 (by decide) (fun hc => ?_) (fun hc => ?_)
      · rw [if_neg hc] at hf
        exact J54 l4 s0 ls hf (lv_sub hl [1, 2, 3, 0] rfl)
      · rw [if_pos hc] at hf
        refine lv_iconst (v := (0 : Int32)) hx hb dX0_inOneStroke_52 (by decide) ?_
        exact ret_z hQ hx hb hr hk dX0_inOneStroke_53 (by cases hf; rfl) rfl
  have J25 : ∀ (s0 : Int32) (ls : Array Slot), f_X0_inOneStroke_J25 a0 a1 a2 a3 s0 = some u → lv_has ls 7 [(0, .int a0), (1, .int a1)] → W p l e rm_c_X0_inOneStroke s m args below meth c s.heap [] 0 0 Q (F0 m 25 ls [.int s0]) := by
    intro s0 ls hf hl
    unfold f_X0_inOneStroke_J25 at hf
    refine lv_istore (lv' := [(4, .int s0), (0, .int a0), (1, .int a1)]) hx hb dX0_inOneStroke_25 hl (by decide) rfl (fun ls hl => ?_)
    refine lv_iload_n hx hb dX0_inOneStroke_27 rfl (lv_at hl 1 rfl) ?_
    refine lv_iload_n hx hb dX0_inOneStroke_28 rfl (lv_at hl 2 rfl) ?_
    refine lv_iconst (v := (-1 : Int32)) hx hb dX0_inOneStroke_29 (by decide) ?_
    refine lv_ixor hx hb dX0_inOneStroke_30 ?_
    refine lv_iand hx hb dX0_inOneStroke_31 ?_
    refine lv_if_ne (tgt := 39) hx hb dX0_inOneStroke_32 (by decide) (fun hc => ?_) (fun hc => ?_)
    · rw [if_neg hc] at hf
      refine lv_iconst (v := (0 : Int32)) hx hb dX0_inOneStroke_39 (by decide) ?_
      exact J40 s0 (0 : Int32) ls hf (lv_sub hl [1, 2, 0] rfl)
    · rw [if_pos hc] at hf
      refine lv_iconst (v := (1 : Int32)) hx hb dX0_inOneStroke_35 (by decide) ?_
      refine lv_goto (tgt := 40) hx hb dX0_inOneStroke_36 (by decide) ?_
      exact J40 s0 (1 : Int32) ls hf (lv_sub hl [1, 2, 0] rfl)
  refine lv_iload_n hx hb dX0_inOneStroke_0 rfl (lv_at hl 0 rfl) ?_
  refine lv_iload_n hx hb dX0_inOneStroke_1 rfl (lv_at hl 2 rfl) ?_
  refine lv_icmp_eq (tgt := 10) hx hb dX0_inOneStroke_2 (by decide) (fun hc => ?_) (fun hc => ?_)
  · rw [if_pos hc] at hf
    refine lv_iconst (v := (1 : Int32)) hx hb dX0_inOneStroke_10 (by decide) ?_
    exact ret_z hQ hx hb hr hk dX0_inOneStroke_11 (by cases hf; rfl) rfl
  · rw [if_neg hc] at hf
    refine lv_iload_n hx hb dX0_inOneStroke_5 rfl (lv_at hl 0 rfl) ?_
    refine lv_iload_n hx hb dX0_inOneStroke_6 rfl (lv_at hl 3 rfl) ?_
    refine lv_icmp_ne (tgt := 12) hx hb dX0_inOneStroke_7 (by decide) (fun hc => ?_) (fun hc => ?_)
    · rw [if_neg hc] at hf
      refine lv_iload_n hx hb dX0_inOneStroke_12 rfl (lv_at hl 1 rfl) ?_
      refine lv_iload_n hx hb dX0_inOneStroke_13 rfl (lv_at hl 0 rfl) ?_
      refine lv_iconst (v := (-1 : Int32)) hx hb dX0_inOneStroke_14 (by decide) ?_
      refine lv_ixor hx hb dX0_inOneStroke_15 ?_
      refine lv_iand hx hb dX0_inOneStroke_16 ?_
      refine lv_if_ne (tgt := 24) hx hb dX0_inOneStroke_17 (by decide) (fun hc => ?_) (fun hc => ?_)
      · rw [if_neg hc] at hf
        refine lv_iconst (v := (0 : Int32)) hx hb dX0_inOneStroke_24 (by decide) ?_
        exact J25 (0 : Int32) ls hf (lv_sub hl [0, 1] rfl)
      · rw [if_pos hc] at hf
        refine lv_iconst (v := (1 : Int32)) hx hb dX0_inOneStroke_20 (by decide) ?_
        refine lv_goto (tgt := 25) hx hb dX0_inOneStroke_21 (by decide) ?_
        exact J25 (1 : Int32) ls hf (lv_sub hl [0, 1] rfl)
    · rw [if_pos hc] at hf
      refine lv_iconst (v := (1 : Int32)) hx hb dX0_inOneStroke_10 (by decide) ?_
      exact ret_z hQ hx hb hr hk dX0_inOneStroke_11 (by cases hf; rfl) rfl
theorem nd_X0_byBoxOfLines : yX0_byBoxOfLines.cls ≠ "java/lang/invoke/MethodHandle" ∧ yX0_byBoxOfLines.cls ≠ "java/lang/invoke/VarHandle" ∧ (parseMethodDescriptor yX0_byBoxOfLines.desc).map (fun d => d.parameters.length) = some 6 := by decide +kernel
def rm_c_X0_byBoxOfLines : Room := { frames := 2, cells := 0, slots := 0, locals := 54 }
set_option maxRecDepth 100000 in
set_option maxHeartbeats 4000000 in
theorem c_X0_byBoxOfLines (l : Launch) (D : va_G) (ca : Nat → ClassId) (a0 : Int32) (a1 : Int32) (a2 : Int32) (a3 : Int32) (a4 : Int32) (a5 : Int32) (u : Int32) (hf : f_X0_byBoxOfLines a0 a1 a2 a3 a4 a5 = some u) : CR l yX0_byBoxOfLines cX0_byBoxOfLines 9 (some .boolean) rm_c_X0_byBoxOfLines [.int a0, .int a1, .int a2, .int a3, .int a4, .int a5] D ca [] (some (.int u)) := by
  refine CR_of (by decide) (Nat.le_of_ble_eq_true rfl) ?_
  intro p e s m args below meth c ls Q hx hb hml hown htg hP hK hl hQ hr hk
  replace hown : s.vm.findClass "LampSheets$Cells" = some m.cls := hown
  replace hl : lv_has ls 9 [(0, .int a0), (1, .int a1), (2, .int a2), (3, .int a3), (4, .int a4), (5, .int a5)] := hl
  unfold f_X0_byBoxOfLines at hf
  have J78 : ∀ (ls : Array Slot), f_X0_byBoxOfLines_J78 a0 a1 a2 a3 a4 a5 = some u → lv_has ls 9 [] → W p l e rm_c_X0_byBoxOfLines s m args below meth c s.heap [] 0 0 Q (F0 m 78 ls []) := by
    intro  ls hf hl
    unfold f_X0_byBoxOfLines_J78 at hf
    refine lv_iconst (v := (0 : Int32)) hx hb dX0_byBoxOfLines_78 (by decide) ?_
    exact ret_z hQ hx hb hr hk dX0_byBoxOfLines_79 (by cases hf; rfl) rfl
  have J64 : ∀ (ls : Array Slot), f_X0_byBoxOfLines_J64 a0 a1 a2 a3 a4 a5 = some u → lv_has ls 9 [] → W p l e rm_c_X0_byBoxOfLines s m args below meth c s.heap [] 0 0 Q (F0 m 64 ls []) := by
    intro  ls hf hl
    unfold f_X0_byBoxOfLines_J64 at hf
    refine lv_iconst (v := (1 : Int32)) hx hb dX0_byBoxOfLines_64 (by decide) ?_
    exact ret_z hQ hx hb hr hk dX0_byBoxOfLines_65 (by cases hf; rfl) rfl
  have J3 : ∀ (l6 : Int32) (ls : Array Slot), f_X0_byBoxOfLines_J3 a0 a1 a2 a3 a4 a5 l6 = some u → lv_has ls 9 [(0, .int a0), (1, .int a1), (2, .int a2), (3, .int a3), (4, .int a4), (5, .int a5), (6, .int l6)] → W p l e rm_c_X0_byBoxOfLines s m args below meth c s.heap [] 0 0 Q (F0 m 3 ls []) := by
    intro l6 ls hf hl
    unfold f_X0_byBoxOfLines_J3 at hf
    obtain ⟨ex, hlp, hf⟩ := bnd_some hf
    obtain ⟨n, hn⟩ := lp_some hlp
    have X3_64 : ∀ (ls : Array Slot), (Sum.inl ()) = ex → lv_has ls 9 [] → W p l e rm_c_X0_byBoxOfLines s m args below meth c s.heap [] 0 0 Q (F0 m 64 ls []) := by
      intro  ls hE hl
      have hf := hf
      rw [← hE] at hf
      replace hf : f_X0_byBoxOfLines_J64 a0 a1 a2 a3 a4 a5 = some u := hf
      exact J64  ls hf (lv_sub hl [] rfl)
    have X3_78 : ∀ (ls : Array Slot), (Sum.inr ()) = ex → lv_has ls 9 [] → W p l e rm_c_X0_byBoxOfLines s m args below meth c s.heap [] 0 0 Q (F0 m 78 ls []) := by
      intro  ls hE hl
      have hf := hf
      rw [← hE] at hf
      replace hf : f_X0_byBoxOfLines_J78 a0 a1 a2 a3 a4 a5 = some u := hf
      exact J78  ls hf (lv_sub hl [] rfl)
    have L : ∀ (n : Nat) (l6 : Int32) (ls : Array Slot), itr (fun q => f_X0_byBoxOfLines_S3 a0 a1 a2 a3 a4 a5 q) n l6 = some ex → lv_has ls 9 [(0, .int a0), (1, .int a1), (2, .int a2), (3, .int a3), (4, .int a4), (5, .int a5), (6, .int l6)] → W p l e rm_c_X0_byBoxOfLines s m args below meth c s.heap [] 0 0 Q (F0 m 3 ls []) := by
      intro n
      induction n with
      | zero => intro l6 ls hn; cases hn
      | succ n ih =>
        intro l6 ls hn hl
        obtain ⟨o, hf, hg, he⟩ := itr_s hn
        replace hf : f_X0_byBoxOfLines_S3 a0 a1 a2 a3 a4 a5 l6 = some o := hf
        have J72 : ∀ (l6 : Int32) (ls : Array Slot), f_X0_byBoxOfLines_J72 a0 a1 a2 a3 a4 a5 l6 = some o → lv_has ls 9 [(0, .int a0), (1, .int a1), (2, .int a2), (3, .int a3), (4, .int a4), (5, .int a5), (6, .int l6)] → W p l e rm_c_X0_byBoxOfLines s m args below meth c s.heap [] 0 0 Q (F0 m 72 ls []) := by
          intro l6 ls hf hl
          unfold f_X0_byBoxOfLines_J72 at hf
          obtain ⟨x3, ex3⟩ : ∃ y : Int32, y = (l6 + (1 : Int32)) := ⟨_, rfl⟩
          replace hf := nm_at ex3 hf
          refine lv_iinc (v := x3) (lv' := [(6, .int x3), (0, .int a0), (1, .int a1), (2, .int a2), (3, .int a3), (4, .int a4), (5, .int a5)]) hx hb dX0_byBoxOfLines_72 hl (k := 6) rfl (by rw [ex3]; rfl) (by decide) rfl (fun ls hl => ?_)
          refine lv_goto (tgt := 3) hx hb dX0_byBoxOfLines_75 (by decide) ?_
          exact ih x3 ls (hg _ (Option.some.inj hf).symm) (lv_sub hl [1, 2, 3, 4, 5, 6, 0] rfl)
        have J12 : ∀ (l6 : Int32) (l7 : Int32) (ls : Array Slot), f_X0_byBoxOfLines_J12 a0 a1 a2 a3 a4 a5 l6 l7 = some o → lv_has ls 9 [(0, .int a0), (1, .int a1), (2, .int a2), (3, .int a3), (4, .int a4), (5, .int a5), (6, .int l6), (7, .int l7)] → W p l e rm_c_X0_byBoxOfLines s m args below meth c s.heap [] 0 0 Q (F0 m 12 ls []) := by
          intro l6 l7 ls hf hl
          unfold f_X0_byBoxOfLines_J12 at hf
          obtain ⟨ex, hlp, hf⟩ := bnd_some hf
          obtain ⟨n, hn⟩ := lp_some hlp
          have X12_64 : ∀ (ls : Array Slot), (Sum.inl ()) = ex → lv_has ls 9 [] → W p l e rm_c_X0_byBoxOfLines s m args below meth c s.heap [] 0 0 Q (F0 m 64 ls []) := by
            intro  ls hE hl
            have hf := hf
            rw [← hE] at hf
            replace hf : some (.inr (Sum.inl ())) = some o := hf
            exact X3_64  ls (he _ (Option.some.inj hf).symm) (lv_sub hl [] rfl)
          have X12_72 : ∀ (ls : Array Slot), (Sum.inr ()) = ex → lv_has ls 9 [(0, .int a0), (1, .int a1), (2, .int a2), (3, .int a3), (4, .int a4), (5, .int a5), (6, .int l6)] → W p l e rm_c_X0_byBoxOfLines s m args below meth c s.heap [] 0 0 Q (F0 m 72 ls []) := by
            intro  ls hE hl
            have hf := hf
            rw [← hE] at hf
            replace hf : f_X0_byBoxOfLines_J72 a0 a1 a2 a3 a4 a5 l6 = some o := hf
            exact J72 l6 ls hf (lv_sub hl [0, 1, 2, 3, 4, 5, 6] rfl)
          have L : ∀ (n : Nat) (l7 : Int32) (ls : Array Slot), itr (fun q => f_X0_byBoxOfLines_S12 a0 a1 a2 a3 a4 a5 l6 q) n l7 = some ex → lv_has ls 9 [(0, .int a0), (1, .int a1), (2, .int a2), (3, .int a3), (4, .int a4), (5, .int a5), (6, .int l6), (7, .int l7)] → W p l e rm_c_X0_byBoxOfLines s m args below meth c s.heap [] 0 0 Q (F0 m 12 ls []) := by
            intro n
            induction n with
            | zero => intro l7 ls hn; cases hn
            | succ n ih =>
              intro l7 ls hn hl
              obtain ⟨o, hf, hg, he⟩ := itr_s hn
              replace hf : f_X0_byBoxOfLines_S12 a0 a1 a2 a3 a4 a5 l6 l7 = some o := hf
              unfold f_X0_byBoxOfLines_S12 at hf
              refine lv_iload hx hb dX0_byBoxOfLines_12 (lv_at hl 7 rfl) ?_
              refine lv_iconst (v := (5 : Int32)) hx hb dX0_byBoxOfLines_14 (by decide) ?_
              refine lv_iload hx hb dX0_byBoxOfLines_15 (lv_at hl 6 rfl) ?_
              refine lv_isub hx hb dX0_byBoxOfLines_17 ?_
              refine lv_icmp_gt (tgt := 72) hx hb dX0_byBoxOfLines_18 (by decide) (fun hc => ?_) (fun hc => ?_)
              · rw [if_pos hc] at hf
                exact X12_72  ls (he _ (Option.some.inj hf).symm) (lv_sub hl [0, 1, 2, 3, 4, 5, 6] rfl)
              · rw [if_neg hc] at hf
                refine lv_iload hx hb dX0_byBoxOfLines_21 (lv_at hl 6 rfl) ?_
                refine lv_iload_n hx hb dX0_byBoxOfLines_23 rfl (lv_at hl 2 rfl) ?_
                refine lv_iload hx hb dX0_byBoxOfLines_24 (lv_at hl 7 rfl) ?_
                refine lv_iload_n hx hb dX0_byBoxOfLines_26 rfl (lv_at hl 3 rfl) ?_
                obtain ⟨u6, hu6, hf⟩ := bnd_some hf
                refine k_SR (av := [.int l6, .int a2, .int l7, .int a3]) (rest := []) (st1 := [.int u6]) ⟨hx, hb, hml, hown, htg⟩ (c_X0_box l D ca l6 a2 l7 a3 u6 hu6) mw679 mw1098 mw96 mw678 nd_X0_box ⟨Nat.le_of_ble_eq_true rfl, Nat.le_of_ble_eq_true rfl⟩ rfl rfl hK P_nil hl.1 rfl (Nat.le_of_ble_eq_true rfl) dX0_byBoxOfLines_27 ⟨Nat.le_of_ble_eq_true rfl, Nat.le_of_ble_eq_true rfl⟩ rfl ?_
                refine lv_istore (lv' := [(8, .int u6), (0, .int a0), (1, .int a1), (2, .int a2), (3, .int a3), (4, .int a4), (5, .int a5), (6, .int l6), (7, .int l7)]) hx hb dX0_byBoxOfLines_30 hl (by decide) rfl (fun ls hl => ?_)
                refine lv_iload_n hx hb dX0_byBoxOfLines_32 rfl (lv_at hl 1 rfl) ?_
                refine lv_iload hx hb dX0_byBoxOfLines_33 (lv_at hl 0 rfl) ?_
                refine lv_iconst (v := (-1 : Int32)) hx hb dX0_byBoxOfLines_35 (by decide) ?_
                refine lv_ixor hx hb dX0_byBoxOfLines_36 ?_
                refine lv_iand hx hb dX0_byBoxOfLines_37 ?_
                refine lv_iload_n hx hb dX0_byBoxOfLines_38 rfl (lv_at hl 2 rfl) ?_
                refine lv_iload hx hb dX0_byBoxOfLines_39 (lv_at hl 5 rfl) ?_
                refine lv_iload hx hb dX0_byBoxOfLines_41 (lv_at hl 6 rfl) ?_
                obtain ⟨u7, hu7, hf⟩ := bnd_some hf
                refine k_SR (av := [.int (a0 &&& (u6 ^^^ (-1 : Int32))), .int a1, .int a4, .int a5]) (rest := []) (st1 := [.int u7]) ⟨hx, hb, hml, hown, htg⟩ (c_X0_inOneStroke l D ca (a0 &&& (u6 ^^^ (-1 : Int32))) a1 a4 a5 u7 hu7) mw1091 mw1089 mw96 mw1090 nd_X0_inOneStroke ⟨Nat.le_of_ble_eq_true rfl, Nat.le_of_ble_eq_true rfl⟩ rfl rfl hK P_nil hl.1 rfl (Nat.le_of_ble_eq_true rfl) dX0_byBoxOfLines_43 ⟨Nat.le_of_ble_eq_true rfl, Nat.le_of_ble_eq_true rfl⟩ rfl ?_
                refine lv_if_ne (tgt := 64) hx hb dX0_byBoxOfLines_46 (by decide) (fun hc => ?_) (fun hc => ?_)
                · rw [if_neg hc] at hf
                  exact X12_64  ls (he _ (Option.some.inj hf).symm) (lv_sub hl [] rfl)
                · rw [if_pos hc] at hf
                  refine lv_iload_n hx hb dX0_byBoxOfLines_49 rfl (lv_at hl 1 rfl) ?_
                  refine lv_iload hx hb dX0_byBoxOfLines_50 (lv_at hl 0 rfl) ?_
                  refine lv_ior hx hb dX0_byBoxOfLines_52 ?_
                  refine lv_iload_n hx hb dX0_byBoxOfLines_53 rfl (lv_at hl 2 rfl) ?_
                  refine lv_iload hx hb dX0_byBoxOfLines_54 (lv_at hl 5 rfl) ?_
                  refine lv_iload hx hb dX0_byBoxOfLines_56 (lv_at hl 6 rfl) ?_
                  obtain ⟨u8, hu8, hf⟩ := bnd_some hf
                  refine k_SR (av := [.int (a0 ||| u6), .int a1, .int a4, .int a5]) (rest := []) (st1 := [.int u8]) ⟨hx, hb, hml, hown, htg⟩ (c_X0_inOneStroke l D ca (a0 ||| u6) a1 a4 a5 u8 hu8) mw1091 mw1089 mw96 mw1090 nd_X0_inOneStroke ⟨Nat.le_of_ble_eq_true rfl, Nat.le_of_ble_eq_true rfl⟩ rfl rfl hK P_nil hl.1 rfl (Nat.le_of_ble_eq_true rfl) dX0_byBoxOfLines_58 ⟨Nat.le_of_ble_eq_true rfl, Nat.le_of_ble_eq_true rfl⟩ rfl ?_
                  refine lv_if_eq (tgt := 66) hx hb dX0_byBoxOfLines_61 (by decide) (fun hc => ?_) (fun hc => ?_)
                  · rw [if_pos hc] at hf
                    obtain ⟨x9, ex9⟩ : ∃ y : Int32, y = (l7 + (1 : Int32)) := ⟨_, rfl⟩
                    replace hf := nm_at ex9 hf
                    refine lv_iinc (v := x9) (lv' := [(7, .int x9), (8, .int u6), (0, .int a0), (1, .int a1), (2, .int a2), (3, .int a3), (4, .int a4), (5, .int a5), (6, .int l6)]) hx hb dX0_byBoxOfLines_66 hl (k := 8) rfl (by rw [ex9]; rfl) (by decide) rfl (fun ls hl => ?_)
                    refine lv_goto (tgt := 12) hx hb dX0_byBoxOfLines_69 (by decide) ?_
                    exact ih x9 ls (hg _ (Option.some.inj hf).symm) (lv_sub hl [2, 3, 4, 5, 6, 7, 8, 0] rfl)
                  · rw [if_neg hc] at hf
                    exact X12_64  ls (he _ (Option.some.inj hf).symm) (lv_sub hl [] rfl)
          exact L n l7 ls hn hl
        unfold f_X0_byBoxOfLines_S3 at hf
        refine lv_iload hx hb dX0_byBoxOfLines_3 (lv_at hl 6 rfl) ?_
        refine lv_iconst (v := (5 : Int32)) hx hb dX0_byBoxOfLines_5 (by decide) ?_
        refine lv_icmp_ge (tgt := 78) hx hb dX0_byBoxOfLines_6 (by decide) (fun hc => ?_) (fun hc => ?_)
        · rw [if_pos hc] at hf
          exact X3_78  ls (he _ (Option.some.inj hf).symm) (lv_sub hl [] rfl)
        · rw [if_neg hc] at hf
          refine lv_iconst (v := (1 : Int32)) hx hb dX0_byBoxOfLines_9 (by decide) ?_
          refine lv_istore (lv' := [(7, .int (1 : Int32)), (0, .int a0), (1, .int a1), (2, .int a2), (3, .int a3), (4, .int a4), (5, .int a5), (6, .int l6)]) hx hb dX0_byBoxOfLines_10 hl (by decide) rfl (fun ls hl => ?_)
          exact J12 l6 (1 : Int32) ls hf (lv_sub hl [1, 2, 3, 4, 5, 6, 7, 0] rfl)
    exact L n l6 ls hn hl
  refine lv_iconst (v := (0 : Int32)) hx hb dX0_byBoxOfLines_0 (by decide) ?_
  refine lv_istore (lv' := [(6, .int (0 : Int32)), (0, .int a0), (1, .int a1), (2, .int a2), (3, .int a3), (4, .int a4), (5, .int a5)]) hx hb dX0_byBoxOfLines_1 hl (by decide) rfl (fun ls hl => ?_)
  exact J3 (0 : Int32) ls hf (lv_sub hl [1, 2, 3, 4, 5, 6, 0] rfl)
theorem nd_X0_fewestStrokes : yX0_fewestStrokes.cls ≠ "java/lang/invoke/MethodHandle" ∧ yX0_fewestStrokes.cls ≠ "java/lang/invoke/VarHandle" ∧ (parseMethodDescriptor yX0_fewestStrokes.desc).map (fun d => d.parameters.length) = some 2 := by decide +kernel
def rm_c_X0_fewestStrokes : Room := { frames := 3, cells := 0, slots := 0, locals := 82 }
set_option maxRecDepth 100000 in
set_option maxHeartbeats 4000000 in
theorem c_X0_fewestStrokes (l : Launch) (D : va_G) (ca : Nat → ClassId) (a0 : Int32) (a1 : Int32) (u : Int32) (hf : f_X0_fewestStrokes a0 a1 = some u) : CR l yX0_fewestStrokes cX0_fewestStrokes 6 (some .int) rm_c_X0_fewestStrokes [.int a0, .int a1] D ca [] (some (.int u)) := by
  refine CR_of (by decide) (Nat.le_of_ble_eq_true rfl) ?_
  intro p e s m args below meth c ls Q hx hb hml hown htg hP hK hl hQ hr hk
  replace hown : s.vm.findClass "LampSheets$Cells" = some m.cls := hown
  replace hl : lv_has ls 6 [(0, .int a0), (1, .int a1)] := hl
  unfold f_X0_fewestStrokes at hf
  have J112 : ∀ (ls : Array Slot), f_X0_fewestStrokes_J112 a0 a1 = some u → lv_has ls 6 [] → W p l e rm_c_X0_fewestStrokes s m args below meth c s.heap [] 0 0 Q (F0 m 112 ls []) := by
    intro  ls hf hl
    unfold f_X0_fewestStrokes_J112 at hf
    refine lv_iconst (v := (-1 : Int32)) hx hb dX0_fewestStrokes_112 (by decide) ?_
    exact ret_i hQ hx hb hr hk dX0_fewestStrokes_113 (by cases hf; rfl)
  have J98 : ∀ (ls : Array Slot), f_X0_fewestStrokes_J98 a0 a1 = some u → lv_has ls 6 [] → W p l e rm_c_X0_fewestStrokes s m args below meth c s.heap [] 0 0 Q (F0 m 98 ls []) := by
    intro  ls hf hl
    unfold f_X0_fewestStrokes_J98 at hf
    refine lv_iconst (v := (2 : Int32)) hx hb dX0_fewestStrokes_98 (by decide) ?_
    exact ret_i hQ hx hb hr hk dX0_fewestStrokes_99 (by cases hf; rfl)
  have J66 : ∀ (l2 : Int32) (l3 : Int32) (l4 : Int32) (ls : Array Slot), f_X0_fewestStrokes_J66 a0 a1 l2 l3 l4 = some u → lv_has ls 6 [(0, .int a0), (1, .int a1), (2, .int l2), (3, .int l3), (4, .int l4)] → W p l e rm_c_X0_fewestStrokes s m args below meth c s.heap [] 0 0 Q (F0 m 66 ls []) := by
    intro l2 l3 l4 ls hf hl
    unfold f_X0_fewestStrokes_J66 at hf
    obtain ⟨ex, hlp, hf⟩ := bnd_some hf
    obtain ⟨n, hn⟩ := lp_some hlp
    have X66_98 : ∀ (ls : Array Slot), (Sum.inl ()) = ex → lv_has ls 6 [] → W p l e rm_c_X0_fewestStrokes s m args below meth c s.heap [] 0 0 Q (F0 m 98 ls []) := by
      intro  ls hE hl
      have hf := hf
      rw [← hE] at hf
      replace hf : f_X0_fewestStrokes_J98 a0 a1 = some u := hf
      exact J98  ls hf (lv_sub hl [] rfl)
    have X66_112 : ∀ (ls : Array Slot), (Sum.inr ()) = ex → lv_has ls 6 [] → W p l e rm_c_X0_fewestStrokes s m args below meth c s.heap [] 0 0 Q (F0 m 112 ls []) := by
      intro  ls hE hl
      have hf := hf
      rw [← hE] at hf
      replace hf : f_X0_fewestStrokes_J112 a0 a1 = some u := hf
      exact J112  ls hf (lv_sub hl [] rfl)
    have L : ∀ (n : Nat) (l4 : Int32) (ls : Array Slot), itr (fun q => f_X0_fewestStrokes_S66 a0 a1 l2 l3 q) n l4 = some ex → lv_has ls 6 [(0, .int a0), (1, .int a1), (2, .int l2), (3, .int l3), (4, .int l4)] → W p l e rm_c_X0_fewestStrokes s m args below meth c s.heap [] 0 0 Q (F0 m 66 ls []) := by
      intro n
      induction n with
      | zero => intro l4 ls hn; cases hn
      | succ n ih =>
        intro l4 ls hn hl
        obtain ⟨o, hf, hg, he⟩ := itr_s hn
        replace hf : f_X0_fewestStrokes_S66 a0 a1 l2 l3 l4 = some o := hf
        have J106 : ∀ (l4 : Int32) (ls : Array Slot), f_X0_fewestStrokes_J106 a0 a1 l2 l3 l4 = some o → lv_has ls 6 [(0, .int a0), (1, .int a1), (2, .int l2), (3, .int l3), (4, .int l4)] → W p l e rm_c_X0_fewestStrokes s m args below meth c s.heap [] 0 0 Q (F0 m 106 ls []) := by
          intro l4 ls hf hl
          unfold f_X0_fewestStrokes_J106 at hf
          obtain ⟨x3, ex3⟩ : ∃ y : Int32, y = (l4 + (1 : Int32)) := ⟨_, rfl⟩
          replace hf := nm_at ex3 hf
          refine lv_iinc (v := x3) (lv' := [(4, .int x3), (0, .int a0), (1, .int a1), (2, .int l2), (3, .int l3)]) hx hb dX0_fewestStrokes_106 hl (k := 4) rfl (by rw [ex3]; rfl) (by decide) rfl (fun ls hl => ?_)
          refine lv_goto (tgt := 66) hx hb dX0_fewestStrokes_109 (by decide) ?_
          exact ih x3 ls (hg _ (Option.some.inj hf).symm) (lv_sub hl [1, 2, 3, 4, 0] rfl)
        have J75 : ∀ (l4 : Int32) (l5 : Int32) (ls : Array Slot), f_X0_fewestStrokes_J75 a0 a1 l2 l3 l4 l5 = some o → lv_has ls 6 [(0, .int a0), (1, .int a1), (2, .int l2), (3, .int l3), (4, .int l4), (5, .int l5)] → W p l e rm_c_X0_fewestStrokes s m args below meth c s.heap [] 0 0 Q (F0 m 75 ls []) := by
          intro l4 l5 ls hf hl
          unfold f_X0_fewestStrokes_J75 at hf
          obtain ⟨ex, hlp, hf⟩ := bnd_some hf
          obtain ⟨n, hn⟩ := lp_some hlp
          have X75_98 : ∀ (ls : Array Slot), (Sum.inl ()) = ex → lv_has ls 6 [] → W p l e rm_c_X0_fewestStrokes s m args below meth c s.heap [] 0 0 Q (F0 m 98 ls []) := by
            intro  ls hE hl
            have hf := hf
            rw [← hE] at hf
            replace hf : some (.inr (Sum.inl ())) = some o := hf
            exact X66_98  ls (he _ (Option.some.inj hf).symm) (lv_sub hl [] rfl)
          have X75_106 : ∀ (ls : Array Slot), (Sum.inr ()) = ex → lv_has ls 6 [(0, .int a0), (1, .int a1), (2, .int l2), (3, .int l3), (4, .int l4)] → W p l e rm_c_X0_fewestStrokes s m args below meth c s.heap [] 0 0 Q (F0 m 106 ls []) := by
            intro  ls hE hl
            have hf := hf
            rw [← hE] at hf
            replace hf : f_X0_fewestStrokes_J106 a0 a1 l2 l3 l4 = some o := hf
            exact J106 l4 ls hf (lv_sub hl [0, 1, 2, 3, 4] rfl)
          have L : ∀ (n : Nat) (l5 : Int32) (ls : Array Slot), itr (fun q => f_X0_fewestStrokes_S75 a0 a1 l2 l3 l4 q) n l5 = some ex → lv_has ls 6 [(0, .int a0), (1, .int a1), (2, .int l2), (3, .int l3), (4, .int l4), (5, .int l5)] → W p l e rm_c_X0_fewestStrokes s m args below meth c s.heap [] 0 0 Q (F0 m 75 ls []) := by
            intro n
            induction n with
            | zero => intro l5 ls hn; cases hn
            | succ n ih =>
              intro l5 ls hn hl
              obtain ⟨o, hf, hg, he⟩ := itr_s hn
              replace hf : f_X0_fewestStrokes_S75 a0 a1 l2 l3 l4 l5 = some o := hf
              unfold f_X0_fewestStrokes_S75 at hf
              refine lv_iload hx hb dX0_fewestStrokes_75 (lv_at hl 5 rfl) ?_
              refine lv_iconst (v := (5 : Int32)) hx hb dX0_fewestStrokes_77 (by decide) ?_
              refine lv_iload hx hb dX0_fewestStrokes_78 (lv_at hl 4 rfl) ?_
              refine lv_isub hx hb dX0_fewestStrokes_80 ?_
              refine lv_icmp_gt (tgt := 106) hx hb dX0_fewestStrokes_81 (by decide) (fun hc => ?_) (fun hc => ?_)
              · rw [if_pos hc] at hf
                exact X75_106  ls (he _ (Option.some.inj hf).symm) (lv_sub hl [0, 1, 2, 3, 4] rfl)
              · rw [if_neg hc] at hf
                refine lv_iload_n hx hb dX0_fewestStrokes_84 rfl (lv_at hl 0 rfl) ?_
                refine lv_iload_n hx hb dX0_fewestStrokes_85 rfl (lv_at hl 1 rfl) ?_
                refine lv_iload hx hb dX0_fewestStrokes_86 (lv_at hl 4 rfl) ?_
                refine lv_iload hx hb dX0_fewestStrokes_88 (lv_at hl 5 rfl) ?_
                refine lv_iload_n hx hb dX0_fewestStrokes_90 rfl (lv_at hl 2 rfl) ?_
                refine lv_iload_n hx hb dX0_fewestStrokes_91 rfl (lv_at hl 3 rfl) ?_
                obtain ⟨u6, hu6, hf⟩ := bnd_some hf
                refine k_SR (av := [.int a0, .int a1, .int l4, .int l5, .int l2, .int l3]) (rest := []) (st1 := [.int u6]) ⟨hx, hb, hml, hown, htg⟩ (c_X0_byBoxOfLines l D ca a0 a1 l4 l5 l2 l3 u6 hu6) mw1097 mw1095 mw96 mw1096 nd_X0_byBoxOfLines ⟨Nat.le_of_ble_eq_true rfl, Nat.le_of_ble_eq_true rfl⟩ rfl rfl hK P_nil hl.1 rfl (Nat.le_of_ble_eq_true rfl) dX0_fewestStrokes_92 ⟨Nat.le_of_ble_eq_true rfl, Nat.le_of_ble_eq_true rfl⟩ rfl ?_
                refine lv_if_eq (tgt := 100) hx hb dX0_fewestStrokes_95 (by decide) (fun hc => ?_) (fun hc => ?_)
                · rw [if_pos hc] at hf
                  obtain ⟨x7, ex7⟩ : ∃ y : Int32, y = (l5 + (1 : Int32)) := ⟨_, rfl⟩
                  replace hf := nm_at ex7 hf
                  refine lv_iinc (v := x7) (lv' := [(5, .int x7), (0, .int a0), (1, .int a1), (2, .int l2), (3, .int l3), (4, .int l4)]) hx hb dX0_fewestStrokes_100 hl (k := 5) rfl (by rw [ex7]; rfl) (by decide) rfl (fun ls hl => ?_)
                  refine lv_goto (tgt := 75) hx hb dX0_fewestStrokes_103 (by decide) ?_
                  exact ih x7 ls (hg _ (Option.some.inj hf).symm) (lv_sub hl [1, 2, 3, 4, 5, 0] rfl)
                · rw [if_neg hc] at hf
                  exact X75_98  ls (he _ (Option.some.inj hf).symm) (lv_sub hl [] rfl)
          exact L n l5 ls hn hl
        unfold f_X0_fewestStrokes_S66 at hf
        refine lv_iload hx hb dX0_fewestStrokes_66 (lv_at hl 4 rfl) ?_
        refine lv_iconst (v := (5 : Int32)) hx hb dX0_fewestStrokes_68 (by decide) ?_
        refine lv_icmp_ge (tgt := 112) hx hb dX0_fewestStrokes_69 (by decide) (fun hc => ?_) (fun hc => ?_)
        · rw [if_pos hc] at hf
          exact X66_112  ls (he _ (Option.some.inj hf).symm) (lv_sub hl [] rfl)
        · rw [if_neg hc] at hf
          refine lv_iconst (v := (1 : Int32)) hx hb dX0_fewestStrokes_72 (by decide) ?_
          refine lv_istore (lv' := [(5, .int (1 : Int32)), (0, .int a0), (1, .int a1), (2, .int l2), (3, .int l3), (4, .int l4)]) hx hb dX0_fewestStrokes_73 hl (by decide) rfl (fun ls hl => ?_)
          exact J75 l4 (1 : Int32) ls hf (lv_sub hl [1, 2, 3, 4, 5, 0] rfl)
    exact L n l4 ls hn hl
  refine lv_iload_n hx hb dX0_fewestStrokes_0 rfl (lv_at hl 0 rfl) ?_
  refine lv_iload_n hx hb dX0_fewestStrokes_1 rfl (lv_at hl 1 rfl) ?_
  refine lv_icmp_ne (tgt := 7) hx hb dX0_fewestStrokes_2 (by decide) (fun hc => ?_) (fun hc => ?_)
  · rw [if_neg hc] at hf
    refine lv_iload_n hx hb dX0_fewestStrokes_7 rfl (lv_at hl 1 rfl) ?_
    obtain ⟨u8, hu8, hf⟩ := bnd_some hf
    refine k_SR (av := [.int a1]) (rest := []) (st1 := [.int u8]) ⟨hx, hb, hml, hown, htg⟩ (c_X0_turned l D ca a1 u8 hu8) mw672 mw1087 mw96 mw671 nd_X0_turned ⟨Nat.le_of_ble_eq_true rfl, Nat.le_of_ble_eq_true rfl⟩ rfl rfl hK P_nil hl.1 rfl (Nat.le_of_ble_eq_true rfl) dX0_fewestStrokes_8 ⟨Nat.le_of_ble_eq_true rfl, Nat.le_of_ble_eq_true rfl⟩ rfl ?_
    obtain ⟨u9, hu9, hf⟩ := bnd_some hf
    refine k_SR (av := [.int u8]) (rest := []) (st1 := [.int u9]) ⟨hx, hb, hml, hown, htg⟩ (c_X0_turned l D ca u8 u9 hu9) mw672 mw1087 mw96 mw671 nd_X0_turned ⟨Nat.le_of_ble_eq_true rfl, Nat.le_of_ble_eq_true rfl⟩ rfl rfl hK P_nil hl.1 rfl (Nat.le_of_ble_eq_true rfl) dX0_fewestStrokes_11 ⟨Nat.le_of_ble_eq_true rfl, Nat.le_of_ble_eq_true rfl⟩ rfl ?_
    obtain ⟨u10, hu10, hf⟩ := bnd_some hf
    refine k_SR (av := [.int u9]) (rest := []) (st1 := [.int u10]) ⟨hx, hb, hml, hown, htg⟩ (c_X0_turned l D ca u9 u10 hu10) mw672 mw1087 mw96 mw671 nd_X0_turned ⟨Nat.le_of_ble_eq_true rfl, Nat.le_of_ble_eq_true rfl⟩ rfl rfl hK P_nil hl.1 rfl (Nat.le_of_ble_eq_true rfl) dX0_fewestStrokes_14 ⟨Nat.le_of_ble_eq_true rfl, Nat.le_of_ble_eq_true rfl⟩ rfl ?_
    refine lv_istore_n (lv' := [(2, .int u10), (0, .int a0), (1, .int a1)]) hx hb dX0_fewestStrokes_17 rfl hl (by decide) rfl (fun ls hl => ?_)
    refine lv_iload_n hx hb dX0_fewestStrokes_18 rfl (lv_at hl 2 rfl) ?_
    obtain ⟨u11, hu11, hf⟩ := bnd_some hf
    refine k_SR (av := [.int a1]) (rest := []) (st1 := [.int u11]) ⟨hx, hb, hml, hown, htg⟩ (c_X0_flipped l D ca a1 u11 hu11) mw675 mw1088 mw96 mw674 nd_X0_flipped ⟨Nat.le_of_ble_eq_true rfl, Nat.le_of_ble_eq_true rfl⟩ rfl rfl hK P_nil hl.1 rfl (Nat.le_of_ble_eq_true rfl) dX0_fewestStrokes_19 ⟨Nat.le_of_ble_eq_true rfl, Nat.le_of_ble_eq_true rfl⟩ rfl ?_
    refine lv_istore_n (lv' := [(3, .int u11), (2, .int u10), (0, .int a0), (1, .int a1)]) hx hb dX0_fewestStrokes_22 rfl hl (by decide) rfl (fun ls hl => ?_)
    refine lv_iload_n hx hb dX0_fewestStrokes_23 rfl (lv_at hl 2 rfl) ?_
    refine lv_iload_n hx hb dX0_fewestStrokes_24 rfl (lv_at hl 3 rfl) ?_
    refine lv_iload_n hx hb dX0_fewestStrokes_25 rfl (lv_at hl 1 rfl) ?_
    refine lv_iload_n hx hb dX0_fewestStrokes_26 rfl (lv_at hl 0 rfl) ?_
    obtain ⟨u12, hu12, hf⟩ := bnd_some hf
    refine k_SR (av := [.int a0, .int a1, .int u10, .int u11]) (rest := []) (st1 := [.int u12]) ⟨hx, hb, hml, hown, htg⟩ (c_X0_inOneStroke l D ca a0 a1 u10 u11 u12 hu12) mw1091 mw1089 mw96 mw1090 nd_X0_inOneStroke ⟨Nat.le_of_ble_eq_true rfl, Nat.le_of_ble_eq_true rfl⟩ rfl rfl hK P_nil hl.1 rfl (Nat.le_of_ble_eq_true rfl) dX0_fewestStrokes_27 ⟨Nat.le_of_ble_eq_true rfl, Nat.le_of_ble_eq_true rfl⟩ rfl ?_
    refine lv_if_eq (tgt := 35) hx hb dX0_fewestStrokes_30 (by decide) (fun hc => ?_) (fun hc => ?_)
    · rw [if_pos hc] at hf
      refine lv_iload_n hx hb dX0_fewestStrokes_35 rfl (lv_at hl 2 rfl) ?_
      obtain ⟨u13, hu13, hf⟩ := bnd_some hf
      refine k_SR (av := [.int a0]) (rest := []) (st1 := [.int u13]) ⟨hx, hb, hml, hown, htg⟩ (c_X0_turned l D ca a0 u13 hu13) mw672 mw1087 mw96 mw671 nd_X0_turned ⟨Nat.le_of_ble_eq_true rfl, Nat.le_of_ble_eq_true rfl⟩ rfl rfl hK P_nil hl.1 rfl (Nat.le_of_ble_eq_true rfl) dX0_fewestStrokes_36 ⟨Nat.le_of_ble_eq_true rfl, Nat.le_of_ble_eq_true rfl⟩ rfl ?_
      refine lv_iload_n hx hb dX0_fewestStrokes_39 rfl (lv_at hl 3 rfl) ?_
      refine lv_iload_n hx hb dX0_fewestStrokes_40 rfl (lv_at hl 1 rfl) ?_
      refine lv_iload_n hx hb dX0_fewestStrokes_41 rfl (lv_at hl 0 rfl) ?_
      obtain ⟨u14, hu14, hf⟩ := bnd_some hf
      refine k_SR (av := [.int u13, .int a1, .int u10, .int u11]) (rest := []) (st1 := [.int u14]) ⟨hx, hb, hml, hown, htg⟩ (c_X0_inOneStroke l D ca u13 a1 u10 u11 u14 hu14) mw1091 mw1089 mw96 mw1090 nd_X0_inOneStroke ⟨Nat.le_of_ble_eq_true rfl, Nat.le_of_ble_eq_true rfl⟩ rfl rfl hK P_nil hl.1 rfl (Nat.le_of_ble_eq_true rfl) dX0_fewestStrokes_42 ⟨Nat.le_of_ble_eq_true rfl, Nat.le_of_ble_eq_true rfl⟩ rfl ?_
      refine lv_if_ne (tgt := 61) hx hb dX0_fewestStrokes_45 (by decide) (fun hc => ?_) (fun hc => ?_)
      · rw [if_neg hc] at hf
        refine lv_iconst (v := (2 : Int32)) hx hb dX0_fewestStrokes_61 (by decide) ?_
        exact ret_i hQ hx hb hr hk dX0_fewestStrokes_62 (by cases hf; rfl)
      · rw [if_pos hc] at hf
        refine lv_iload_n hx hb dX0_fewestStrokes_48 rfl (lv_at hl 2 rfl) ?_
        obtain ⟨u15, hu15, hf⟩ := bnd_some hf
        refine k_SR (av := [.int a0]) (rest := []) (st1 := [.int u15]) ⟨hx, hb, hml, hown, htg⟩ (c_X0_flipped l D ca a0 u15 hu15) mw675 mw1088 mw96 mw674 nd_X0_flipped ⟨Nat.le_of_ble_eq_true rfl, Nat.le_of_ble_eq_true rfl⟩ rfl rfl hK P_nil hl.1 rfl (Nat.le_of_ble_eq_true rfl) dX0_fewestStrokes_49 ⟨Nat.le_of_ble_eq_true rfl, Nat.le_of_ble_eq_true rfl⟩ rfl ?_
        refine lv_iload_n hx hb dX0_fewestStrokes_52 rfl (lv_at hl 3 rfl) ?_
        refine lv_iload_n hx hb dX0_fewestStrokes_53 rfl (lv_at hl 1 rfl) ?_
        refine lv_iload_n hx hb dX0_fewestStrokes_54 rfl (lv_at hl 0 rfl) ?_
        obtain ⟨u16, hu16, hf⟩ := bnd_some hf
        refine k_SR (av := [.int u15, .int a1, .int u10, .int u11]) (rest := []) (st1 := [.int u16]) ⟨hx, hb, hml, hown, htg⟩ (c_X0_inOneStroke l D ca u15 a1 u10 u11 u16 hu16) mw1091 mw1089 mw96 mw1090 nd_X0_inOneStroke ⟨Nat.le_of_ble_eq_true rfl, Nat.le_of_ble_eq_true rfl⟩ rfl rfl hK P_nil hl.1 rfl (Nat.le_of_ble_eq_true rfl) dX0_fewestStrokes_55 ⟨Nat.le_of_ble_eq_true rfl, Nat.le_of_ble_eq_true rfl⟩ rfl ?_
        refine lv_if_eq (tgt := 63) hx hb dX0_fewestStrokes_58 (by decide) (fun hc => ?_) (fun hc => ?_)
        · rw [if_pos hc] at hf
          refine lv_iconst (v := (0 : Int32)) hx hb dX0_fewestStrokes_63 (by decide) ?_
          refine lv_istore (lv' := [(4, .int (0 : Int32)), (3, .int u11), (2, .int u10), (0, .int a0), (1, .int a1)]) hx hb dX0_fewestStrokes_64 hl (by decide) rfl (fun ls hl => ?_)
          exact J66 u10 u11 (0 : Int32) ls hf (lv_sub hl [3, 4, 2, 1, 0] rfl)
        · rw [if_neg hc] at hf
          refine lv_iconst (v := (2 : Int32)) hx hb dX0_fewestStrokes_61 (by decide) ?_
          exact ret_i hQ hx hb hr hk dX0_fewestStrokes_62 (by cases hf; rfl)
    · rw [if_neg hc] at hf
      refine lv_iconst (v := (1 : Int32)) hx hb dX0_fewestStrokes_33 (by decide) ?_
      exact ret_i hQ hx hb hr hk dX0_fewestStrokes_34 (by cases hf; rfl)
  · rw [if_pos hc] at hf
    refine lv_iconst (v := (0 : Int32)) hx hb dX0_fewestStrokes_5 (by decide) ?_
    exact ret_i hQ hx hb hr hk dX0_fewestStrokes_6 (by cases hf; rfl)
theorem nd_J13_bitCount_95d88 : yJ13_bitCount_95d88.cls ≠ "java/lang/invoke/MethodHandle" ∧ yJ13_bitCount_95d88.cls ≠ "java/lang/invoke/VarHandle" ∧ (parseMethodDescriptor yJ13_bitCount_95d88.desc).map (fun d => d.parameters.length) = some 1 := by decide +kernel
def rm_c_J13_bitCount_95d88 : Room := { frames := 0, cells := 0, slots := 0, locals := 0 }
set_option maxRecDepth 100000 in
set_option maxHeartbeats 4000000 in
theorem c_J13_bitCount_95d88 (l : Launch) (D : va_G) (ca : Nat → ClassId) (a0 : Int64) (u : Int32) (hf : f_J13_bitCount_95d88 a0 = u) : CR l yJ13_bitCount_95d88 cJ13_bitCount_95d88 2 (some .int) rm_c_J13_bitCount_95d88 [.long a0] D ca [] (some (.int u)) := by
  refine CR_of (by decide) (Nat.le_of_ble_eq_true rfl) ?_
  intro p e s m args below meth c ls Q hx hb hml hown htg hP hK hl hQ hr hk
  replace hown : s.vm.findClass "java/lang/Long" = some m.cls := hown
  replace hl : lv_has ls 2 [(0, .long a0)] := hl
  unfold f_J13_bitCount_95d88 at hf
  refine lv_lload_n hx hb dJ13_bitCount_95d88_0 rfl (lv_at hl 0 rfl) ?_
  refine lv_lload_n hx hb dJ13_bitCount_95d88_1 rfl (lv_at hl 0 rfl) ?_
  refine lv_iconst (v := (1 : Int32)) hx hb dJ13_bitCount_95d88_2 (by decide) ?_
  refine lv_lushr hx hb dJ13_bitCount_95d88_3 rfl ?_
  refine lv_ldc2 hx hb hown (htg _ mw912) dJ13_bitCount_95d88_4 ?_
  refine lv_land hx hb dJ13_bitCount_95d88_7 ?_
  refine lv_lsub hx hb dJ13_bitCount_95d88_8 ?_
  refine lv_topl (fun x1 ex1 => ?_)
  replace hf := nm_at ex1 hf
  refine lv_lstore_n (lv' := [(0, .long x1)]) hx hb dJ13_bitCount_95d88_9 rfl hl (by decide) rfl (fun ls hl => ?_)
  refine lv_lload_n hx hb dJ13_bitCount_95d88_10 rfl (lv_at hl 0 rfl) ?_
  refine lv_ldc2 hx hb hown (htg _ mw913) dJ13_bitCount_95d88_11 ?_
  refine lv_land hx hb dJ13_bitCount_95d88_14 ?_
  refine lv_lload_n hx hb dJ13_bitCount_95d88_15 rfl (lv_at hl 0 rfl) ?_
  refine lv_iconst (v := (2 : Int32)) hx hb dJ13_bitCount_95d88_16 (by decide) ?_
  refine lv_lushr hx hb dJ13_bitCount_95d88_17 rfl ?_
  refine lv_ldc2 hx hb hown (htg _ mw913) dJ13_bitCount_95d88_18 ?_
  refine lv_land hx hb dJ13_bitCount_95d88_21 ?_
  refine lv_ladd hx hb dJ13_bitCount_95d88_22 ?_
  refine lv_topl (fun x2 ex2 => ?_)
  replace hf := nm_at ex2 hf
  refine lv_lstore_n (lv' := [(0, .long x2)]) hx hb dJ13_bitCount_95d88_23 rfl hl (by decide) rfl (fun ls hl => ?_)
  refine lv_lload_n hx hb dJ13_bitCount_95d88_24 rfl (lv_at hl 0 rfl) ?_
  refine lv_lload_n hx hb dJ13_bitCount_95d88_25 rfl (lv_at hl 0 rfl) ?_
  refine lv_iconst (v := (4 : Int32)) hx hb dJ13_bitCount_95d88_26 (by decide) ?_
  refine lv_lushr hx hb dJ13_bitCount_95d88_27 rfl ?_
  refine lv_ladd hx hb dJ13_bitCount_95d88_28 ?_
  refine lv_ldc2 hx hb hown (htg _ mw914) dJ13_bitCount_95d88_29 ?_
  refine lv_land hx hb dJ13_bitCount_95d88_32 ?_
  refine lv_topl (fun x3 ex3 => ?_)
  replace hf := nm_at ex3 hf
  refine lv_lstore_n (lv' := [(0, .long x3)]) hx hb dJ13_bitCount_95d88_33 rfl hl (by decide) rfl (fun ls hl => ?_)
  refine lv_lload_n hx hb dJ13_bitCount_95d88_34 rfl (lv_at hl 0 rfl) ?_
  refine lv_lload_n hx hb dJ13_bitCount_95d88_35 rfl (lv_at hl 0 rfl) ?_
  refine lv_bipush (v := (8 : Int32)) hx hb dJ13_bitCount_95d88_36 (by decide) ?_
  refine lv_lushr hx hb dJ13_bitCount_95d88_38 rfl ?_
  refine lv_ladd hx hb dJ13_bitCount_95d88_39 ?_
  refine lv_topl (fun x4 ex4 => ?_)
  replace hf := nm_at ex4 hf
  refine lv_lstore_n (lv' := [(0, .long x4)]) hx hb dJ13_bitCount_95d88_40 rfl hl (by decide) rfl (fun ls hl => ?_)
  refine lv_lload_n hx hb dJ13_bitCount_95d88_41 rfl (lv_at hl 0 rfl) ?_
  refine lv_lload_n hx hb dJ13_bitCount_95d88_42 rfl (lv_at hl 0 rfl) ?_
  refine lv_bipush (v := (16 : Int32)) hx hb dJ13_bitCount_95d88_43 (by decide) ?_
  refine lv_lushr hx hb dJ13_bitCount_95d88_45 rfl ?_
  refine lv_ladd hx hb dJ13_bitCount_95d88_46 ?_
  refine lv_topl (fun x5 ex5 => ?_)
  replace hf := nm_at ex5 hf
  refine lv_lstore_n (lv' := [(0, .long x5)]) hx hb dJ13_bitCount_95d88_47 rfl hl (by decide) rfl (fun ls hl => ?_)
  refine lv_lload_n hx hb dJ13_bitCount_95d88_48 rfl (lv_at hl 0 rfl) ?_
  refine lv_lload_n hx hb dJ13_bitCount_95d88_49 rfl (lv_at hl 0 rfl) ?_
  refine lv_bipush (v := (32 : Int32)) hx hb dJ13_bitCount_95d88_50 (by decide) ?_
  refine lv_lushr hx hb dJ13_bitCount_95d88_52 rfl ?_
  refine lv_ladd hx hb dJ13_bitCount_95d88_53 ?_
  refine lv_topl (fun x6 ex6 => ?_)
  replace hf := nm_at ex6 hf
  refine lv_lstore_n (lv' := [(0, .long x6)]) hx hb dJ13_bitCount_95d88_54 rfl hl (by decide) rfl (fun ls hl => ?_)
  refine lv_lload_n hx hb dJ13_bitCount_95d88_55 rfl (lv_at hl 0 rfl) ?_
  refine lv_l2i hx hb dJ13_bitCount_95d88_56 rfl ?_
  refine lv_bipush (v := (127 : Int32)) hx hb dJ13_bitCount_95d88_57 (by decide) ?_
  refine lv_iand hx hb dJ13_bitCount_95d88_59 ?_
  exact ret_i hQ hx hb hr hk dJ13_bitCount_95d88_60 (by cases hf; rfl)
theorem nd_J9_floorDiv_7cf53 : yJ9_floorDiv_7cf53.cls ≠ "java/lang/invoke/MethodHandle" ∧ yJ9_floorDiv_7cf53.cls ≠ "java/lang/invoke/VarHandle" ∧ (parseMethodDescriptor yJ9_floorDiv_7cf53.desc).map (fun d => d.parameters.length) = some 2 := by decide +kernel
def rm_c_J9_floorDiv_7cf53 : Room := { frames := 0, cells := 0, slots := 0, locals := 0 }
set_option maxRecDepth 100000 in
set_option maxHeartbeats 4000000 in
theorem c_J9_floorDiv_7cf53 (l : Launch) (D : va_G) (ca : Nat → ClassId) (a0 : Int32) (a1 : Int32) (u : Int32) (hf : f_J9_floorDiv_7cf53 a0 a1 = some u) : CR l yJ9_floorDiv_7cf53 cJ9_floorDiv_7cf53 3 (some .int) rm_c_J9_floorDiv_7cf53 [.int a0, .int a1] D ca [] (some (.int u)) := by
  refine CR_ofF (by decide +kernel) (Nat.le_of_ble_eq_true rfl) ?_
  intro p e s m args below meth c ls Q hx hb hml hown htg hP hK hl hQ hr hk
  replace hown : s.vm.findClass "java/lang/Math" = some m.cls := hown
  replace hl : lv_has ls 3 [(0, .int a0), (1, .int a1)] := hl
  unfold f_J9_floorDiv_7cf53 at hf
  refine lv_iload_n hx hb dJ9_floorDiv_7cf53_0 rfl (lv_at hl 0 rfl) ?_
  refine lv_iload_n hx hb dJ9_floorDiv_7cf53_1 rfl (lv_at hl 1 rfl) ?_
  obtain ⟨h1, hf⟩ := gd_some hf
  refine lv_idiv hx hb dJ9_floorDiv_7cf53_2 (of_decide_eq_true h1) ?_
  refine lv_topi (fun x2 ex2 => ?_)
  replace hf := nm_at ex2 hf
  refine lv_istore_n (lv' := [(2, .int x2), (0, .int a0), (1, .int a1)]) hx hb dJ9_floorDiv_7cf53_3 rfl hl (by decide) rfl (fun ls hl => ?_)
  refine lv_iload_n hx hb dJ9_floorDiv_7cf53_4 rfl (lv_at hl 1 rfl) ?_
  refine lv_iload_n hx hb dJ9_floorDiv_7cf53_5 rfl (lv_at hl 2 rfl) ?_
  refine lv_ixor hx hb dJ9_floorDiv_7cf53_6 ?_
  refine lv_if_ge (tgt := 21) hx hb dJ9_floorDiv_7cf53_7 (by decide) (fun hc => ?_) (fun hc => ?_)
  · rw [if_pos hc] at hf
    refine lv_iload_n hx hb dJ9_floorDiv_7cf53_21 rfl (lv_at hl 0 rfl) ?_
    exact ret_i hQ hx hb hr hk dJ9_floorDiv_7cf53_22 (by cases hf; rfl)
  · rw [if_neg hc] at hf
    refine lv_iload_n hx hb dJ9_floorDiv_7cf53_10 rfl (lv_at hl 0 rfl) ?_
    refine lv_iload_n hx hb dJ9_floorDiv_7cf53_11 rfl (lv_at hl 2 rfl) ?_
    refine lv_imul hx hb dJ9_floorDiv_7cf53_12 ?_
    refine lv_iload_n hx hb dJ9_floorDiv_7cf53_13 rfl (lv_at hl 1 rfl) ?_
    refine lv_icmp_eq (tgt := 21) hx hb dJ9_floorDiv_7cf53_14 (by decide) (fun hc => ?_) (fun hc => ?_)
    · rw [if_pos hc] at hf
      refine lv_iload_n hx hb dJ9_floorDiv_7cf53_21 rfl (lv_at hl 0 rfl) ?_
      exact ret_i hQ hx hb hr hk dJ9_floorDiv_7cf53_22 (by cases hf; rfl)
    · rw [if_neg hc] at hf
      refine lv_iload_n hx hb dJ9_floorDiv_7cf53_17 rfl (lv_at hl 0 rfl) ?_
      refine lv_iconst (v := (1 : Int32)) hx hb dJ9_floorDiv_7cf53_18 (by decide) ?_
      refine lv_isub hx hb dJ9_floorDiv_7cf53_19 ?_
      exact ret_i hQ hx hb hr hk dJ9_floorDiv_7cf53_20 (by cases hf; rfl)
theorem nd_J9_abs_0f7a4 : yJ9_abs_0f7a4.cls ≠ "java/lang/invoke/MethodHandle" ∧ yJ9_abs_0f7a4.cls ≠ "java/lang/invoke/VarHandle" ∧ (parseMethodDescriptor yJ9_abs_0f7a4.desc).map (fun d => d.parameters.length) = some 1 := by decide +kernel
def rm_c_J9_abs_0f7a4 : Room := { frames := 0, cells := 0, slots := 0, locals := 0 }
set_option maxRecDepth 100000 in
set_option maxHeartbeats 4000000 in
theorem c_J9_abs_0f7a4 (l : Launch) (D : va_G) (ca : Nat → ClassId) (a0 : Int32) (u : Int32) (hf : f_J9_abs_0f7a4 a0 = u) : CR l yJ9_abs_0f7a4 cJ9_abs_0f7a4 1 (some .int) rm_c_J9_abs_0f7a4 [.int a0] D ca [] (some (.int u)) := by
  refine CR_ofF (by decide +kernel) (Nat.le_of_ble_eq_true rfl) ?_
  intro p e s m args below meth c ls Q hx hb hml hown htg hP hK hl hQ hr hk
  replace hown : s.vm.findClass "java/lang/Math" = some m.cls := hown
  replace hl : lv_has ls 1 [(0, .int a0)] := hl
  unfold f_J9_abs_0f7a4 at hf
  refine lv_iload_n hx hb dJ9_abs_0f7a4_0 rfl (lv_at hl 0 rfl) ?_
  refine lv_if_ge (tgt := 9) hx hb dJ9_abs_0f7a4_1 (by decide) (fun hc => ?_) (fun hc => ?_)
  · rw [if_pos hc] at hf
    refine lv_iload_n hx hb dJ9_abs_0f7a4_9 rfl (lv_at hl 0 rfl) ?_
    exact ret_i hQ hx hb hr hk dJ9_abs_0f7a4_10 (by cases hf; rfl)
  · rw [if_neg hc] at hf
    refine lv_iload_n hx hb dJ9_abs_0f7a4_4 rfl (lv_at hl 0 rfl) ?_
    refine lv_ineg hx hb dJ9_abs_0f7a4_5 ?_
    refine lv_goto (tgt := 10) hx hb dJ9_abs_0f7a4_6 (by decide) ?_
    exact ret_i hQ hx hb hr hk dJ9_abs_0f7a4_10 (by cases hf; rfl)
theorem nd_J9_min_7cf53 : yJ9_min_7cf53.cls ≠ "java/lang/invoke/MethodHandle" ∧ yJ9_min_7cf53.cls ≠ "java/lang/invoke/VarHandle" ∧ (parseMethodDescriptor yJ9_min_7cf53.desc).map (fun d => d.parameters.length) = some 2 := by decide +kernel
def rm_c_J9_min_7cf53 : Room := { frames := 0, cells := 0, slots := 0, locals := 0 }
set_option maxRecDepth 100000 in
set_option maxHeartbeats 4000000 in
theorem c_J9_min_7cf53 (l : Launch) (D : va_G) (ca : Nat → ClassId) (a0 : Int32) (a1 : Int32) (u : Int32) (hf : f_J9_min_7cf53 a0 a1 = u) : CR l yJ9_min_7cf53 cJ9_min_7cf53 2 (some .int) rm_c_J9_min_7cf53 [.int a0, .int a1] D ca [] (some (.int u)) := by
  refine CR_ofF (by decide +kernel) (Nat.le_of_ble_eq_true rfl) ?_
  intro p e s m args below meth c ls Q hx hb hml hown htg hP hK hl hQ hr hk
  replace hown : s.vm.findClass "java/lang/Math" = some m.cls := hown
  replace hl : lv_has ls 2 [(0, .int a0), (1, .int a1)] := hl
  unfold f_J9_min_7cf53 at hf
  refine lv_iload_n hx hb dJ9_min_7cf53_0 rfl (lv_at hl 0 rfl) ?_
  refine lv_iload_n hx hb dJ9_min_7cf53_1 rfl (lv_at hl 1 rfl) ?_
  refine lv_icmp_gt (tgt := 9) hx hb dJ9_min_7cf53_2 (by decide) (fun hc => ?_) (fun hc => ?_)
  · rw [if_pos hc] at hf
    refine lv_iload_n hx hb dJ9_min_7cf53_9 rfl (lv_at hl 1 rfl) ?_
    exact ret_i hQ hx hb hr hk dJ9_min_7cf53_10 (by cases hf; rfl)
  · rw [if_neg hc] at hf
    refine lv_iload_n hx hb dJ9_min_7cf53_5 rfl (lv_at hl 0 rfl) ?_
    refine lv_goto (tgt := 10) hx hb dJ9_min_7cf53_6 (by decide) ?_
    exact ret_i hQ hx hb hr hk dJ9_min_7cf53_10 (by cases hf; rfl)
