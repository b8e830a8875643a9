/-! ===== the JDK's String members over the constants that are compared ===== -/
theorem wb_len : ∀ k, k < 24 → (wb k).length < 10 := by decide +kernel
theorem wb_shr : ∀ k, k < 24 → Int32.ofNat (wb k).length >>> ((0 : Int32) &&& 31) = nI (wb k).length := by decide +kernel
/-- the char at i -/
def chr (k : Nat) (i : Int32) : Int32 := ((((wb k).getD i.toNatClampNeg 0) &&& 255).toUInt32 % 65536).toInt32
section U4
variable {p : Program} {l : Launch} {e : Env} {R : Room} {s : State} {m : MethodId} {args : Array Value} {below : List Frame} {meth : Method} {c : Code} {cc : ByteArray} {v : Option Value} {Q : State → Prop} {pc : Nat} {ls : Array Slot}
theorem ret_t {x : Int32} {ty : FieldType} (hQ : ∀ g : JFrame, W p l e R s m args below meth c s.heap [] 0 0 (MQ below (QR v) args s 0 0 (fun _ => False)) g → W p l e R s m args below meth c s.heap [] 0 0 Q g)
    (hx : p.tables.exec = Jvm.exec) (hb : c.code = cc) (hr : meth.sig.returnType = some ty) (hk : meth.locks = false) (hd : decode cc pc = .ok (.ireturn, 1)) (hv : v = some (.int x)) (hn : narrow ty (.int x) = .int x) : W p l e R s m args below meth c s.heap [] 0 0 Q (F0 m pc ls [.int x]) :=
  hQ _ (W.zret hx hb hr hn (fun t ht _ => ⟨by rw [hv], ht⟩) (fun q h => by cases h) hd hk)
theorem ret_a {a : Nat} {rt : FieldType} (hrt : (∃ n, rt = .object n) ∨ ∃ t, rt = .array t) (hQ : ∀ g : JFrame, W p l e R s m args below meth c s.heap [] 0 0 (MQ below (QR v) args s 0 0 (fun _ => False)) g → W p l e R s m args below meth c s.heap [] 0 0 Q g)
    (hx : p.tables.exec = Jvm.exec) (hb : c.code = cc) (hr : meth.sig.returnType = some rt) (hk : meth.locks = false) (hd : decode cc pc = .ok (.areturn, 1)) (hv : v = some (.ref a)) : W p l e R s m args below meth c s.heap [] 0 0 Q (F0 m pc ls [.ref a]) :=
  hQ _ (W.aret hx hb hr hrt (Or.inr ⟨a, rfl⟩) (fun t ht _ => ⟨by rw [hv], ht⟩) (fun q h => by cases h) hd hk)
end U4
theorem nd_J0_length_8abf5 : yJ0_length_8abf5.cls ≠ "java/lang/invoke/MethodHandle" ∧ yJ0_length_8abf5.cls ≠ "java/lang/invoke/VarHandle" ∧ (parseMethodDescriptor yJ0_length_8abf5.desc).map (fun d => d.parameters.length) = some 0 := by decide +kernel
theorem nd_J0_charAt_5068e : yJ0_charAt_5068e.cls ≠ "java/lang/invoke/MethodHandle" ∧ yJ0_charAt_5068e.cls ≠ "java/lang/invoke/VarHandle" ∧ (parseMethodDescriptor yJ0_charAt_5068e.desc).map (fun d => d.parameters.length) = some 1 := by decide +kernel
theorem nd_J0_coder_7d493 : yJ0_coder_7d493.cls ≠ "java/lang/invoke/MethodHandle" ∧ yJ0_coder_7d493.cls ≠ "java/lang/invoke/VarHandle" ∧ (parseMethodDescriptor yJ0_coder_7d493.desc).map (fun d => d.parameters.length) = some 0 := by decide +kernel
theorem nd_J0_isLatin1_aae02 : yJ0_isLatin1_aae02.cls ≠ "java/lang/invoke/MethodHandle" ∧ yJ0_isLatin1_aae02.cls ≠ "java/lang/invoke/VarHandle" ∧ (parseMethodDescriptor yJ0_isLatin1_aae02.desc).map (fun d => d.parameters.length) = some 0 := by decide +kernel
theorem nd_J0_checkIndex_df160 : yJ0_checkIndex_df160.cls ≠ "java/lang/invoke/MethodHandle" ∧ yJ0_checkIndex_df160.cls ≠ "java/lang/invoke/VarHandle" ∧ (parseMethodDescriptor yJ0_checkIndex_df160.desc).map (fun d => d.parameters.length) = some 2 := by decide +kernel
theorem nd_J1_charAt_3b067 : yJ1_charAt_3b067.cls ≠ "java/lang/invoke/MethodHandle" ∧ yJ1_charAt_3b067.cls ≠ "java/lang/invoke/VarHandle" ∧ (parseMethodDescriptor yJ1_charAt_3b067.desc).map (fun d => d.parameters.length) = some 2 := by decide +kernel
theorem nd_J3_checkIndex_8e157 : yJ3_checkIndex_8e157.cls ≠ "java/lang/invoke/MethodHandle" ∧ yJ3_checkIndex_8e157.cls ≠ "java/lang/invoke/VarHandle" ∧ (parseMethodDescriptor yJ3_checkIndex_8e157.desc).map (fun d => d.parameters.length) = some 3 := by decide +kernel
def rm_s0 : Room := { frames := 0, cells := 0, slots := 0, locals := 0 }
theorem c_J3_null (l : Launch) (D : va_G) (ca : Nat → ClassId) (i n : Int32) (h0 : ¬ i < 0) (h1 : i < n) : CR l yJ3_checkIndex_8e157 cJ3_checkIndex_8e157 3 (some .int) rm_s0 [.int i, .int n, .null] D ca [] (some (.int i)) := by
  refine CR_of (by decide) (Nat.le_of_ble_eq_true rfl) ?_
  intro p e s m args below meth c ls Q hx hb hml hown htg hP hK hl hQ hr hk
  replace hl : lv_has ls 3 [(0, .int i), (1, .int n), (2, .null)] := hl
  refine lv_iload_n hx hb dJ3_checkIndex_8e157_0 rfl (lv_at hl 0 rfl) ?_
  refine lv_if_lt (tgt := 9) hx hb dJ3_checkIndex_8e157_1 (by decide) (fun hc => absurd hc h0) (fun hc => ?_)
  refine lv_iload_n hx hb dJ3_checkIndex_8e157_4 rfl (lv_at hl 0 rfl) ?_
  refine lv_iload_n hx hb dJ3_checkIndex_8e157_5 rfl (lv_at hl 1 rfl) ?_
  refine lv_icmp_lt (tgt := 16) hx hb dJ3_checkIndex_8e157_6 (by decide) (fun hc => ?_) (fun hc => absurd h1 hc)
  refine lv_iload_n hx hb dJ3_checkIndex_8e157_16 rfl (lv_at hl 0 rfl) ?_
  exact ret_i hQ hx hb hr hk dJ3_checkIndex_8e157_17 rfl
theorem c_J3_ref (l : Launch) (D : va_G) (ca : Nat → ClassId) (i n : Int32) (t : Nat) (h0 : ¬ i < 0) (h1 : i < n) : CR l yJ3_checkIndex_8e157 cJ3_checkIndex_8e157 3 (some .int) rm_s0 [.int i, .int n, .ref t] D ca [] (some (.int i)) := by
  refine CR_of (by decide) (Nat.le_of_ble_eq_true rfl) ?_
  intro p e s m args below meth c ls Q hx hb hml hown htg hP hK hl hQ hr hk
  replace hl : lv_has ls 3 [(0, .int i), (1, .int n), (2, .ref t)] := hl
  refine lv_iload_n hx hb dJ3_checkIndex_8e157_0 rfl (lv_at hl 0 rfl) ?_
  refine lv_if_lt (tgt := 9) hx hb dJ3_checkIndex_8e157_1 (by decide) (fun hc => absurd hc h0) (fun hc => ?_)
  refine lv_iload_n hx hb dJ3_checkIndex_8e157_4 rfl (lv_at hl 0 rfl) ?_
  refine lv_iload_n hx hb dJ3_checkIndex_8e157_5 rfl (lv_at hl 1 rfl) ?_
  refine lv_icmp_lt (tgt := 16) hx hb dJ3_checkIndex_8e157_6 (by decide) (fun hc => ?_) (fun hc => absurd h1 hc)
  refine lv_iload_n hx hb dJ3_checkIndex_8e157_16 rfl (lv_at hl 0 rfl) ?_
  exact ret_i hQ hx hb hr hk dJ3_checkIndex_8e157_17 rfl
def rm_s1 : Room := { frames := 1, cells := 0, slots := 0, locals := 22 }
theorem c_J0_checkIndex (l : Launch) (D : va_G) (ca : Nat → ClassId) (K : (Nat → Nat) × (Nat → Nat)) (A : Nat → Prop) (i n : Int32) (h0 : ¬ i < 0) (h1 : i < n) : CRx l yJ0_checkIndex_df160 cJ0_checkIndex_df160 2 none rm_s1 [.int i, .int n] D ca K A [] none := by
  refine CRx_of (by decide) (Nat.le_of_ble_eq_true rfl) ?_
  intro p e s m args below meth c ls Q hx hb hml hown htg hP hK hX hl hQ hr hk
  replace hown : s.vm.findClass "java/lang/String" = some m.cls := hown
  replace hl : lv_has ls 2 [(0, .int i), (1, .int n)] := hl
  refine lv_iload_n hx hb dJ0_checkIndex_df160_0 rfl (lv_at hl 0 rfl) ?_
  refine lv_iload_n hx hb dJ0_checkIndex_df160_1 rfl (lv_at hl 1 rfl) ?_
  rcases hX.2.2.1 with hZ | ⟨t, hZ⟩
  · refine va_gets hx hb hZ va_S.rf hown (htg _ mw612) (fun _ h => h) dJ0_checkIndex_df160_2 ?_
    refine k_SR (av := [.int i, .int n, .null]) (rest := []) (st1 := [.int i]) ⟨hx, hb, hml, hown, htg⟩ (c_J3_null l D ca i n h0 h1) mw616 mw614 mw93 mw615 nd_J3_checkIndex_8e157 ⟨Nat.le_of_ble_eq_true rfl, Nat.le_of_ble_eq_true rfl⟩ rfl rfl hK P_nil hl.1 rfl (Nat.le_of_ble_eq_true rfl) dJ0_checkIndex_df160_5 ⟨Nat.le_of_ble_eq_true rfl, Nat.le_of_ble_eq_true rfl⟩ rfl ?_
    refine lv_pop hx hb dJ0_checkIndex_df160_8 rfl ?_
    exact ret_v hQ hx hb hr hk dJ0_checkIndex_df160_9 rfl
  · refine va_gets hx hb hZ va_S.rf hown (htg _ mw612) (fun _ h => h) dJ0_checkIndex_df160_2 ?_
    refine k_SR (av := [.int i, .int n, .ref t]) (rest := []) (st1 := [.int i]) ⟨hx, hb, hml, hown, htg⟩ (c_J3_ref l D ca i n t h0 h1) mw616 mw614 mw93 mw615 nd_J3_checkIndex_8e157 ⟨Nat.le_of_ble_eq_true rfl, Nat.le_of_ble_eq_true rfl⟩ rfl rfl hK P_nil hl.1 rfl (Nat.le_of_ble_eq_true rfl) dJ0_checkIndex_df160_5 ⟨Nat.le_of_ble_eq_true rfl, Nat.le_of_ble_eq_true rfl⟩ rfl ?_
    refine lv_pop hx hb dJ0_checkIndex_df160_8 rfl ?_
    exact ret_v hQ hx hb hr hk dJ0_checkIndex_df160_9 rfl
def rm_s2 : Room := { frames := 2, cells := 0, slots := 0, locals := 43 }
theorem c_J1_charAt (l : Launch) (D : va_G) (ca : Nat → ClassId) (K : (Nat → Nat) × (Nat → Nat)) (A : Nat → Prop) (k : Nat) (hk0 : k < 24) (i : Int32) (hi : vp_in i (wb k).length) : CRx l yJ1_charAt_3b067 cJ1_charAt_3b067 2 (some .char) rm_s2 [.ref (K.2 k), .int i] D ca K A [] (some (.int (chr k i))) := by
  refine CRx_of (by decide) (Nat.le_of_ble_eq_true rfl) ?_
  intro p e s m args below meth c ls Q hx hb hml hown htg hP hK hX hl hQ hr hk
  replace hown : s.vm.findClass "java/lang/StringLatin1" = some m.cls := hown
  replace hl : lv_has ls 2 [(0, .ref (K.2 k)), (1, .int i)] := hl
  have hn := wb_len k hk0
  have h1 : i < nI (wb k).length := by
    obtain ⟨j, hj, rfl⟩ := vp_in_of hi (by omega)
    exact nI_lt hj (by omega)
  have h0 : ¬ i < 0 := fun h => hi (Or.inl h)
  refine lv_iload_n hx hb dJ1_charAt_3b067_0 rfl (lv_at hl 1 rfl) ?_
  refine lv_aload_n hx hb dJ1_charAt_3b067_1 rfl (lv_at hl 0 rfl) ?_
  refine va_tlen hx hb (hX.1 k hk0).2.2.2 va_S.rf (v := nI (wb k).length) rfl dJ1_charAt_3b067_2 ?_
  refine k_SRx (av := [.int i, .int (nI (wb k).length)]) (rest := []) (st1 := []) ⟨hx, hb, hml, hown, htg⟩ (c_J0_checkIndex l D ca K A i (nI (wb k).length) h0 h1) mw611 mw609 mw91 mw610 nd_J0_checkIndex_df160 ⟨Nat.le_of_ble_eq_true rfl, Nat.le_of_ble_eq_true rfl⟩ rfl rfl hK hX P_nil hl.1 rfl (Nat.le_of_ble_eq_true rfl) dJ1_charAt_3b067_3 ⟨Nat.le_of_ble_eq_true rfl, Nat.le_of_ble_eq_true rfl⟩ rfl ?_
  refine lv_aload_n hx hb dJ1_charAt_3b067_6 rfl (lv_at hl 0 rfl) ?_
  refine lv_iload_n hx hb dJ1_charAt_3b067_7 rfl (lv_at hl 1 rfl) ?_
  refine va_tb hx hb (hX.1 k hk0).2.2.2 va_S.rf hi rfl dJ1_charAt_3b067_8 ?_
  refine lv_sipush (v := (255 : Int32)) hx hb dJ1_charAt_3b067_9 (by decide) ?_
  refine lv_iand hx hb dJ1_charAt_3b067_12 ?_
  refine lv_i2c hx hb dJ1_charAt_3b067_13 rfl ?_
  exact ret_t hQ hx hb hr hk dJ1_charAt_3b067_14 rfl (pk_nc _)
theorem c_J0_coder (l : Launch) (D : va_G) (ca : Nat → ClassId) (K : (Nat → Nat) × (Nat → Nat)) (A : Nat → Prop) (k : Nat) (hk0 : k < 24) : CRx l yJ0_coder_7d493 cJ0_coder_7d493 1 (some .byte) rm_s0 [.ref (K.1 k)] D ca K A [] (some (.int 0)) := by
  refine CRx_of (by decide) (Nat.le_of_ble_eq_true rfl) ?_
  intro p e s m args below meth c ls Q hx hb hml hown htg hP hK hX hl hQ hr hk
  replace hown : s.vm.findClass "java/lang/String" = some m.cls := hown
  replace hl : lv_has ls 1 [(0, .ref (K.1 k))] := hl
  refine va_gets hx hb hX.2.1 va_S.rf hown (htg _ mw596) (fun _ h => h) dJ0_coder_7d493_0 ?_
  refine lv_if_eq (tgt := 13) hx hb dJ0_coder_7d493_3 (by decide) (fun hc => absurd hc (by decide)) (fun hc => ?_)
  refine lv_aload_n hx hb dJ0_coder_7d493_6 rfl (lv_at hl 0 rfl) ?_
  refine vk_getf hx hb (hX.1 k hk0).2.1 va_S.rf hown (htg _ mw1823) (fun _ h => h) dJ0_coder_7d493_7 ?_
  refine lv_goto (tgt := 14) hx hb dJ0_coder_7d493_10 (by decide) ?_
  exact ret_t hQ hx hb hr hk dJ0_coder_7d493_14 rfl rfl
theorem c_J0_isLatin1 (l : Launch) (D : va_G) (ca : Nat → ClassId) (K : (Nat → Nat) × (Nat → Nat)) (A : Nat → Prop) (k : Nat) (hk0 : k < 24) : CRx l yJ0_isLatin1_aae02 cJ0_isLatin1_aae02 1 (some .boolean) rm_s0 [.ref (K.1 k)] D ca K A [] (some (.int 1)) := by
  refine CRx_of (by decide) (Nat.le_of_ble_eq_true rfl) ?_
  intro p e s m args below meth c ls Q hx hb hml hown htg hP hK hX hl hQ hr hk
  replace hown : s.vm.findClass "java/lang/String" = some m.cls := hown
  replace hl : lv_has ls 1 [(0, .ref (K.1 k))] := hl
  refine va_gets hx hb hX.2.1 va_S.rf hown (htg _ mw596) (fun _ h => h) dJ0_isLatin1_aae02_0 ?_
  refine lv_if_eq (tgt := 17) hx hb dJ0_isLatin1_aae02_3 (by decide) (fun hc => absurd hc (by decide)) (fun hc => ?_)
  refine lv_aload_n hx hb dJ0_isLatin1_aae02_6 rfl (lv_at hl 0 rfl) ?_
  refine vk_getf hx hb (hX.1 k hk0).2.1 va_S.rf hown (htg _ mw1823) (fun _ h => h) dJ0_isLatin1_aae02_7 ?_
  refine lv_if_ne (tgt := 17) hx hb dJ0_isLatin1_aae02_10 (by decide) (fun hc => absurd rfl hc) (fun hc => ?_)
  refine lv_iconst (v := (1 : Int32)) hx hb dJ0_isLatin1_aae02_13 (by decide) ?_
  refine lv_goto (tgt := 18) hx hb dJ0_isLatin1_aae02_14 (by decide) ?_
  exact ret_z hQ hx hb hr hk dJ0_isLatin1_aae02_18 rfl rfl
def rm_sl : Room := { frames := 1, cells := 0, slots := 0, locals := 20 }
theorem c_J0_length (l : Launch) (D : va_G) (ca : Nat → ClassId) (K : (Nat → Nat) × (Nat → Nat)) (A : Nat → Prop) (k : Nat) (hk0 : k < 24) : CRx l yJ0_length_8abf5 cJ0_length_8abf5 1 (some .int) rm_sl [.ref (K.1 k)] D ca K A [] (some (.int (nI (wb k).length))) := by
  refine CRx_of (by decide) (Nat.le_of_ble_eq_true rfl) ?_
  intro p e s m args below meth c ls Q hx hb hml hown htg hP hK hX hl hQ hr hk
  replace hown : s.vm.findClass "java/lang/String" = some m.cls := hown
  replace hl : lv_has ls 1 [(0, .ref (K.1 k))] := hl
  refine lv_aload_n hx hb dJ0_length_8abf5_0 rfl (lv_at hl 0 rfl) ?_
  refine vk_getf hx hb (hX.1 k hk0).2.2.1 va_S.rf hown (htg _ mw1822) (fun _ h => h) dJ0_length_8abf5_1 ?_
  refine va_tlen hx hb (hX.1 k hk0).2.2.2 va_S.rf (v := Int32.ofNat (wb k).length) rfl dJ0_length_8abf5_4 ?_
  refine lv_aload_n hx hb dJ0_length_8abf5_5 rfl (lv_at hl 0 rfl) ?_
  refine k_SVx (av := []) (rest := [.int (Int32.ofNat (wb k).length)]) (st1 := [.int (0 : Int32), .int (Int32.ofNat (wb k).length)]) ⟨hx, hb, hml, hown, htg⟩ (c_J0_coder l D ca K A k hk0) hk0 rfl mw595 mw592 mw91 mw593 mw594 nd_J0_coder_7d493 ⟨Nat.le_of_ble_eq_true rfl, Nat.le_of_ble_eq_true rfl⟩ rfl rfl hK hX P_nil hl.1 rfl (Nat.le_of_ble_eq_true rfl) dJ0_length_8abf5_6 ⟨Nat.le_of_ble_eq_true rfl, Nat.le_of_ble_eq_true rfl⟩ rfl ?_
  refine lv_ishr hx hb dJ0_length_8abf5_9 ?_
  exact ret_i hQ hx hb hr hk dJ0_length_8abf5_10 (by rw [wb_shr k hk0])
def rm_sc : Room := { frames := 3, cells := 0, slots := 0, locals := 64 }
theorem c_J0_charAt (l : Launch) (D : va_G) (ca : Nat → ClassId) (K : (Nat → Nat) × (Nat → Nat)) (A : Nat → Prop) (k : Nat) (hk0 : k < 24) (i : Int32) (hi : vp_in i (wb k).length) : CRx l yJ0_charAt_5068e cJ0_charAt_5068e 2 (some .char) rm_sc [.ref (K.1 k), .int i] D ca K A [] (some (.int (chr k i))) := by
  refine CRx_of (by decide) (Nat.le_of_ble_eq_true rfl) ?_
  intro p e s m args below meth c ls Q hx hb hml hown htg hP hK hX hl hQ hr hk
  replace hown : s.vm.findClass "java/lang/String" = some m.cls := hown
  replace hl : lv_has ls 2 [(0, .ref (K.1 k)), (1, .int i)] := hl
  refine lv_aload_n hx hb dJ0_charAt_5068e_0 rfl (lv_at hl 0 rfl) ?_
  refine k_SVx (av := []) (rest := []) (st1 := [.int (1 : Int32)]) ⟨hx, hb, hml, hown, htg⟩ (c_J0_isLatin1 l D ca K A k hk0) hk0 rfl mw605 mw602 mw91 mw603 mw604 nd_J0_isLatin1_aae02 ⟨Nat.le_of_ble_eq_true rfl, Nat.le_of_ble_eq_true rfl⟩ rfl rfl hK hX P_nil hl.1 rfl (Nat.le_of_ble_eq_true rfl) dJ0_charAt_5068e_1 ⟨Nat.le_of_ble_eq_true rfl, Nat.le_of_ble_eq_true rfl⟩ rfl ?_
  refine lv_if_eq (tgt := 16) hx hb dJ0_charAt_5068e_4 (by decide) (fun hc => absurd hc (by decide)) (fun hc => ?_)
  refine lv_aload_n hx hb dJ0_charAt_5068e_7 rfl (lv_at hl 0 rfl) ?_
  refine vk_getf hx hb (hX.1 k hk0).2.2.1 va_S.rf hown (htg _ mw1822) (fun _ h => h) dJ0_charAt_5068e_8 ?_
  refine lv_iload_n hx hb dJ0_charAt_5068e_11 rfl (lv_at hl 1 rfl) ?_
  refine k_SRx (av := [.ref (K.2 k), .int i]) (rest := []) (st1 := [.int (chr k i)]) ⟨hx, hb, hml, hown, htg⟩ (c_J1_charAt l D ca K A k hk0 i hi) mw608 mw606 mw92 mw607 nd_J1_charAt_3b067 ⟨Nat.le_of_ble_eq_true rfl, Nat.le_of_ble_eq_true rfl⟩ rfl rfl hK hX P_nil hl.1 rfl (Nat.le_of_ble_eq_true rfl) dJ0_charAt_5068e_12 ⟨Nat.le_of_ble_eq_true rfl, Nat.le_of_ble_eq_true rfl⟩ rfl ?_
  exact ret_t hQ hx hb hr hk dJ0_charAt_5068e_15 rfl (pk_nc _)
