def hd0 (h : Nat) (q : Nat → Nat) : Nat → Nat := fun i => match i with
  | 0 => h
  | i + 1 => q i
theorem vp_dec {i : Int32} {n : Nat} (h : ¬ (i < 0 ∨ n ≤ i.toNatClampNeg)) : vp_in i n := h
def rm_n_X5_init : Room := { frames := 1, cells := 2, slots := 500, locals := 30 }
theorem nd_X5_init : yX5_init.cls ≠ "java/lang/invoke/MethodHandle" ∧ yX5_init.cls ≠ "java/lang/invoke/VarHandle" ∧ (parseMethodDescriptor yX5_init.desc).map (fun d => d.parameters.length) = some 0 := by decide +kernel
set_option maxRecDepth 100000 in
set_option maxHeartbeats 8000000 in
theorem n_X5_init (l : Launch) (D : va_G) (ca : Nat → ClassId) (A : Nat → Prop) (h0 : Nat) (hD : va_D A [(h0, .inr (4, [.null, .int 0, .int 0, .null, .int 0, .int 0, .int 0, .int 0, .int 0, .int 0]))]) : CN l yX5_init cX5_init 1 rm_n_X5_init [.ref h0] D ca A [(h0, .inr (4, [.null, .int 0, .int 0, .null, .int 0, .int 0, .int 0, .int 0, .int 0, .int 0]))] (fun q => [(h0, .inr (4, [.ref (q 0), .int 0, .int (-1), .ref (q 1), .int 0, .int 0, .int 0, .int 0, .int 0, .int 0])),
    ((q 0), .inl (ca 0, 400, .inl (fun _ => 0))),
    ((q 1), .inl (ca 0, 100, .inl (fun _ => 0)))]) 2 500 := by
  refine CN_of (by decide) rfl (Nat.le_of_ble_eq_true rfl) hD ?_
  intro p e s m args below meth c ls Q hx hb hml hown htg hw hK hN hA hl hQ hr hk hin2
  replace hown : s.vm.findClass "LampSheets$Tape" = some m.cls := hown
  replace hl : lv_has ls 1 [(0, .ref h0)] := hl
  refine lv_aload_n hx hb dX5_init_0 rfl (lv_at hl 0 rfl) ?_
  refine r_obj hx hb hml hl.1 hown htg mw116 mw109 mw110 dX5_init_1 (Nat.le_of_ble_eq_true rfl) (Nat.le_of_ble_eq_true rfl) ?_
  refine lv_aload_n hx hb dX5_init_4 rfl (lv_at hl 0 rfl) ?_
  refine lv_sipush (v := (400 : Int32)) hx hb dX5_init_5 (by decide) ?_
  refine r_newa (a0 := (400, .inl (fun _ => 0))) (ty := .int) 0 hx hb htg mw155 rfl rfl (fun _ => rfl) hK hw hA (fun _ => rfl) (by decide) (by decide) (by decide) (Nat.le_of_ble_eq_true rfl) (Nat.le_of_ble_eq_true rfl) dX5_init_8 (fun q1 H hw => ?_)
  replace hw : Wd D A s.heap [(h0, .inr (4, [.null, .int 0, .int 0, .null, .int 0, .int 0, .int 0, .int 0, .int 0, .int 0])),
    (q1, .inl (ca 0, 400, .inl (fun _ => 0)))] H _ := hw
  refine r_putF (C := RX5) (T := TX5) (N := 10) (ws' := [(h0, .inr (4, [.ref q1, .int 0, .int 0, .null, .int 0, .int 0, .int 0, .int 0, .int 0, .int 0])),
    (q1, .inl (ca 0, 400, .inl (fun _ => 0)))]) hx hb htg iX5 tyX5 tyX5_ok nmX5 hown hin2 hK hw 0 rfl rfl 0 (by decide) mw117 rfl rfl rfl rfl (Nat.le_of_ble_eq_true rfl) dX5_init_10 rfl (fun H locs hw => ?_)
  refine lv_aload_n hx hb dX5_init_13 rfl (lv_at hl 0 rfl) ?_
  refine lv_iconst (v := (0 : Int32)) hx hb dX5_init_14 (by decide) ?_
  refine r_put (C := RX5) (T := TX5) (N := 10) (ws' := [(h0, .inr (4, [.ref q1, .int 0, .int 0, .null, .int 0, .int 0, .int 0, .int 0, .int 0, .int 0])),
    (q1, .inl (ca 0, 400, .inl (fun _ => 0)))]) hx hb htg iX5 tyX5 tyX5_ok nmX5 hown hK hw 0 rfl rfl 1 (by decide) mw118 rfl rfl rfl (Nat.le_of_ble_eq_true rfl) dX5_init_15 rfl (fun H locs hw => ?_)
  refine lv_aload_n hx hb dX5_init_18 rfl (lv_at hl 0 rfl) ?_
  refine lv_iconst (v := (-1 : Int32)) hx hb dX5_init_19 (by decide) ?_
  refine r_put (C := RX5) (T := TX5) (N := 10) (ws' := [(h0, .inr (4, [.ref q1, .int 0, .int (-1), .null, .int 0, .int 0, .int 0, .int 0, .int 0, .int 0])),
    (q1, .inl (ca 0, 400, .inl (fun _ => 0)))]) hx hb htg iX5 tyX5 tyX5_ok nmX5 hown hK hw 0 rfl rfl 2 (by decide) mw120 rfl rfl rfl (Nat.le_of_ble_eq_true rfl) dX5_init_20 rfl (fun H locs hw => ?_)
  refine lv_aload_n hx hb dX5_init_23 rfl (lv_at hl 0 rfl) ?_
  refine lv_bipush (v := (100 : Int32)) hx hb dX5_init_24 (by decide) ?_
  refine r_newa (a0 := (100, .inl (fun _ => 0))) (ty := .int) 0 hx hb htg mw155 rfl rfl (fun _ => rfl) hK hw hA (fun _ => rfl) (by decide) (by decide) (by decide) (Nat.le_of_ble_eq_true rfl) (Nat.le_of_ble_eq_true rfl) dX5_init_26 (fun q2 H hw => ?_)
  replace hw : Wd D A s.heap [(h0, .inr (4, [.ref q1, .int 0, .int (-1), .null, .int 0, .int 0, .int 0, .int 0, .int 0, .int 0])),
    (q1, .inl (ca 0, 400, .inl (fun _ => 0))),
    (q2, .inl (ca 0, 100, .inl (fun _ => 0)))] H _ := hw
  refine r_putF (C := RX5) (T := TX5) (N := 10) (ws' := [(h0, .inr (4, [.ref q1, .int 0, .int (-1), .ref q2, .int 0, .int 0, .int 0, .int 0, .int 0, .int 0])),
    (q1, .inl (ca 0, 400, .inl (fun _ => 0))),
    (q2, .inl (ca 0, 100, .inl (fun _ => 0)))]) hx hb htg iX5 tyX5 tyX5_ok nmX5 hown hin2 hK hw 0 rfl rfl 3 (by decide) mw122 rfl rfl rfl rfl (Nat.le_of_ble_eq_true rfl) dX5_init_28 rfl (fun H locs hw => ?_)
  refine lv_aload_n hx hb dX5_init_31 rfl (lv_at hl 0 rfl) ?_
  refine lv_iconst (v := (0 : Int32)) hx hb dX5_init_32 (by decide) ?_
  refine r_put (C := RX5) (T := TX5) (N := 10) (ws' := [(h0, .inr (4, [.ref q1, .int 0, .int (-1), .ref q2, .int 0, .int 0, .int 0, .int 0, .int 0, .int 0])),
    (q1, .inl (ca 0, 400, .inl (fun _ => 0))),
    (q2, .inl (ca 0, 100, .inl (fun _ => 0)))]) hx hb htg iX5 tyX5 tyX5_ok nmX5 hown hK hw 0 rfl rfl 4 (by decide) mw125 rfl rfl rfl (Nat.le_of_ble_eq_true rfl) dX5_init_33 rfl (fun H locs hw => ?_)
  exact retn (fun i => ([q1, q2] : List Nat).getD i 0) hQ hx hb hr hk dX5_init_36 hw

def rm_n_X1_init : Room := { frames := 1, cells := 2, slots := 66, locals := 30 }
theorem nd_X1_init : yX1_init.cls ≠ "java/lang/invoke/MethodHandle" ∧ yX1_init.cls ≠ "java/lang/invoke/VarHandle" ∧ (parseMethodDescriptor yX1_init.desc).map (fun d => d.parameters.length) = some 0 := by decide +kernel
set_option maxRecDepth 100000 in
set_option maxHeartbeats 8000000 in
theorem n_X1_init (l : Launch) (D : va_G) (ca : Nat → ClassId) (A : Nat → Prop) (h0 : Nat) (hD : va_D A [(h0, .inr (0, [.int 0, .null, .null]))]) : CN l yX1_init cX1_init 1 rm_n_X1_init [.ref h0] D ca A [(h0, .inr (0, [.int 0, .null, .null]))] (fun q => [(h0, .inr (0, [.int 0, .ref (q 0), .ref (q 1)])),
    ((q 0), .inl (ca 0, 60, .inl (fun _ => 0))),
    ((q 1), .inl (ca 0, 6, .inl (fun _ => 0)))]) 2 66 := by
  refine CN_of (by decide) rfl (Nat.le_of_ble_eq_true rfl) hD ?_
  intro p e s m args below meth c ls Q hx hb hml hown htg hw hK hN hA hl hQ hr hk hin2
  replace hown : s.vm.findClass "LampSheets$Rules" = some m.cls := hown
  replace hl : lv_has ls 1 [(0, .ref h0)] := hl
  refine lv_aload_n hx hb dX1_init_0 rfl (lv_at hl 0 rfl) ?_
  refine r_obj hx hb hml hl.1 hown htg mw167 mw109 mw110 dX1_init_1 (Nat.le_of_ble_eq_true rfl) (Nat.le_of_ble_eq_true rfl) ?_
  refine lv_aload_n hx hb dX1_init_4 rfl (lv_at hl 0 rfl) ?_
  refine lv_iconst (v := (0 : Int32)) hx hb dX1_init_5 (by decide) ?_
  refine r_put (C := RX1) (T := TX1) (N := 3) (ws' := [(h0, .inr (0, [.int 0, .null, .null]))]) hx hb htg iX1 tyX1 tyX1_ok nmX1 hown hK hw 0 rfl rfl 0 (by decide) mw168 rfl rfl rfl (Nat.le_of_ble_eq_true rfl) dX1_init_6 rfl (fun H locs hw => ?_)
  refine lv_aload_n hx hb dX1_init_9 rfl (lv_at hl 0 rfl) ?_
  refine lv_bipush (v := (60 : Int32)) hx hb dX1_init_10 (by decide) ?_
  refine r_newa (a0 := (60, .inl (fun _ => 0))) (ty := .int) 0 hx hb htg mw155 rfl rfl (fun _ => rfl) hK hw hA (fun _ => rfl) (by decide) (by decide) (by decide) (Nat.le_of_ble_eq_true rfl) (Nat.le_of_ble_eq_true rfl) dX1_init_12 (fun q1 H hw => ?_)
  replace hw : Wd D A s.heap [(h0, .inr (0, [.int 0, .null, .null])),
    (q1, .inl (ca 0, 60, .inl (fun _ => 0)))] H _ := hw
  refine r_putF (C := RX1) (T := TX1) (N := 3) (ws' := [(h0, .inr (0, [.int 0, .ref q1, .null])),
    (q1, .inl (ca 0, 60, .inl (fun _ => 0)))]) hx hb htg iX1 tyX1 tyX1_ok nmX1 hown hin2 hK hw 0 rfl rfl 1 (by decide) mw170 rfl rfl rfl rfl (Nat.le_of_ble_eq_true rfl) dX1_init_14 rfl (fun H locs hw => ?_)
  refine lv_aload_n hx hb dX1_init_17 rfl (lv_at hl 0 rfl) ?_
  refine lv_bipush (v := (6 : Int32)) hx hb dX1_init_18 (by decide) ?_
  refine r_newa (a0 := (6, .inl (fun _ => 0))) (ty := .int) 0 hx hb htg mw155 rfl rfl (fun _ => rfl) hK hw hA (fun _ => rfl) (by decide) (by decide) (by decide) (Nat.le_of_ble_eq_true rfl) (Nat.le_of_ble_eq_true rfl) dX1_init_20 (fun q2 H hw => ?_)
  replace hw : Wd D A s.heap [(h0, .inr (0, [.int 0, .ref q1, .null])),
    (q1, .inl (ca 0, 60, .inl (fun _ => 0))),
    (q2, .inl (ca 0, 6, .inl (fun _ => 0)))] H _ := hw
  refine r_putF (C := RX1) (T := TX1) (N := 3) (ws' := [(h0, .inr (0, [.int 0, .ref q1, .ref q2])),
    (q1, .inl (ca 0, 60, .inl (fun _ => 0))),
    (q2, .inl (ca 0, 6, .inl (fun _ => 0)))]) hx hb htg iX1 tyX1 tyX1_ok nmX1 hown hin2 hK hw 0 rfl rfl 2 (by decide) mw171 rfl rfl rfl rfl (Nat.le_of_ble_eq_true rfl) dX1_init_22 rfl (fun H locs hw => ?_)
  exact retn (fun i => ([q1, q2] : List Nat).getD i 0) hQ hx hb hr hk dX1_init_25 hw

def rm_n_X4_init : Room := { frames := 2, cells := 14, slots := 229, locals := 50 }
theorem nd_X4_init : yX4_init.cls ≠ "java/lang/invoke/MethodHandle" ∧ yX4_init.cls ≠ "java/lang/invoke/VarHandle" ∧ (parseMethodDescriptor yX4_init.desc).map (fun d => d.parameters.length) = some 0 := by decide +kernel
set_option maxRecDepth 100000 in
set_option maxHeartbeats 8000000 in
theorem n_X4_init (l : Launch) (D : va_G) (ca : Nat → ClassId) (A : Nat → Prop) (h0 : Nat) (hD : va_D A [(h0, .inr (3, [.int 0, .null, .null, .null, .null, .int 0, .null, .null, .null, .null, .int 0, .null, .null, .int 0, .null, .int 0, .null, .int 0, .int 0]))]) : CN l yX4_init cX4_init 2 rm_n_X4_init [.ref h0] D ca A [(h0, .inr (3, [.int 0, .null, .null, .null, .null, .int 0, .null, .null, .null, .null, .int 0, .null, .null, .int 0, .null, .int 0, .null, .int 0, .int 0]))] (fun q => [(h0, .inr (3, [.int 0, .ref (q 0), .ref (q 1), .ref (q 2), .ref (q 3), .int 0, .ref (q 4), .ref (q 5), .ref (q 6), .ref (q 7), .int 0, .ref (q 8), .ref (q 9), .int 0, .ref (q 12), .int 0, .ref (q 13), .int 0, .int 2])),
    ((q 0), .inl (ca 0, 6, .inl (fun _ => 0))),
    ((q 1), .inl (ca 0, 6, .inl (fun _ => 0))),
    ((q 2), .inl (ca 0, 6, .inl (fun _ => 0))),
    ((q 3), .inl (ca 0, 6, .inl (fun _ => 0))),
    ((q 4), .inl (ca 0, 4, .inl (fun _ => 0))),
    ((q 5), .inl (ca 0, 4, .inl (fun _ => 0))),
    ((q 6), .inl (ca 0, 4, .inl (fun _ => 0))),
    ((q 7), .inl (ca 0, 4, .inl (upd (upd (upd (upd (fun _ => 0) 0 (-1)) 1 (-1)) 2 (-1)) 3 (-1)))),
    ((q 8), .inl (ca 1, 54, .inr (.inl (fun _ => 0)))),
    ((q 9), .inr (0, [.int 0, .ref (q 10), .ref (q 11)])),
    ((q 10), .inl (ca 0, 60, .inl (fun _ => 0))),
    ((q 11), .inl (ca 0, 6, .inl (fun _ => 0))),
    ((q 12), .inl (ca 0, 48, .inl (fun _ => 0))),
    ((q 13), .inl (ca 0, 18, .inl (fun _ => 0)))]) 14 229 := by
  refine CN_of (by decide) rfl (Nat.le_of_ble_eq_true rfl) hD ?_
  intro p e s m args below meth c ls Q hx hb hml hown htg hw hK hN hA hl hQ hr hk hin2
  replace hown : s.vm.findClass "LampSheets$State" = some m.cls := hown
  replace hl : lv_has ls 2 [(0, .ref h0)] := hl
  refine lv_aload_n hx hb dX4_init_0 rfl (lv_at hl 0 rfl) ?_
  refine r_obj hx hb hml hl.1 hown htg mw161 mw109 mw110 dX4_init_1 (Nat.le_of_ble_eq_true rfl) (Nat.le_of_ble_eq_true rfl) ?_
  refine lv_aload_n hx hb dX4_init_4 rfl (lv_at hl 0 rfl) ?_
  refine lv_iconst (v := (0 : Int32)) hx hb dX4_init_5 (by decide) ?_
  refine r_put (C := RX4) (T := TX4) (N := 19) (ws' := [(h0, .inr (3, [.int 0, .null, .null, .null, .null, .int 0, .null, .null, .null, .null, .int 0, .null, .null, .int 0, .null, .int 0, .null, .int 0, .int 0]))]) hx hb htg iX4 tyX4 tyX4_ok nmX4 hown hK hw 0 rfl rfl 0 (by decide) mw180 rfl rfl rfl (Nat.le_of_ble_eq_true rfl) dX4_init_6 rfl (fun H locs hw => ?_)
  refine lv_aload_n hx hb dX4_init_9 rfl (lv_at hl 0 rfl) ?_
  refine lv_bipush (v := (6 : Int32)) hx hb dX4_init_10 (by decide) ?_
  refine r_newa (a0 := (6, .inl (fun _ => 0))) (ty := .int) 0 hx hb htg mw155 rfl rfl (fun _ => rfl) hK hw hA (fun _ => rfl) (by decide) (by decide) (by decide) (Nat.le_of_ble_eq_true rfl) (Nat.le_of_ble_eq_true rfl) dX4_init_12 (fun q1 H hw => ?_)
  replace hw : Wd D A s.heap [(h0, .inr (3, [.int 0, .null, .null, .null, .null, .int 0, .null, .null, .null, .null, .int 0, .null, .null, .int 0, .null, .int 0, .null, .int 0, .int 0])),
    (q1, .inl (ca 0, 6, .inl (fun _ => 0)))] H _ := hw
  refine r_putF (C := RX4) (T := TX4) (N := 19) (ws' := [(h0, .inr (3, [.int 0, .ref q1, .null, .null, .null, .int 0, .null, .null, .null, .null, .int 0, .null, .null, .int 0, .null, .int 0, .null, .int 0, .int 0])),
    (q1, .inl (ca 0, 6, .inl (fun _ => 0)))]) hx hb htg iX4 tyX4 tyX4_ok nmX4 hown hin2 hK hw 0 rfl rfl 1 (by decide) mw184 rfl rfl rfl rfl (Nat.le_of_ble_eq_true rfl) dX4_init_14 rfl (fun H locs hw => ?_)
  refine lv_aload_n hx hb dX4_init_17 rfl (lv_at hl 0 rfl) ?_
  refine lv_bipush (v := (6 : Int32)) hx hb dX4_init_18 (by decide) ?_
  refine r_newa (a0 := (6, .inl (fun _ => 0))) (ty := .int) 0 hx hb htg mw155 rfl rfl (fun _ => rfl) hK hw hA (fun _ => rfl) (by decide) (by decide) (by decide) (Nat.le_of_ble_eq_true rfl) (Nat.le_of_ble_eq_true rfl) dX4_init_20 (fun q2 H hw => ?_)
  replace hw : Wd D A s.heap [(h0, .inr (3, [.int 0, .ref q1, .null, .null, .null, .int 0, .null, .null, .null, .null, .int 0, .null, .null, .int 0, .null, .int 0, .null, .int 0, .int 0])),
    (q1, .inl (ca 0, 6, .inl (fun _ => 0))),
    (q2, .inl (ca 0, 6, .inl (fun _ => 0)))] H _ := hw
  refine r_putF (C := RX4) (T := TX4) (N := 19) (ws' := [(h0, .inr (3, [.int 0, .ref q1, .ref q2, .null, .null, .int 0, .null, .null, .null, .null, .int 0, .null, .null, .int 0, .null, .int 0, .null, .int 0, .int 0])),
    (q1, .inl (ca 0, 6, .inl (fun _ => 0))),
    (q2, .inl (ca 0, 6, .inl (fun _ => 0)))]) hx hb htg iX4 tyX4 tyX4_ok nmX4 hown hin2 hK hw 0 rfl rfl 2 (by decide) mw187 rfl rfl rfl rfl (Nat.le_of_ble_eq_true rfl) dX4_init_22 rfl (fun H locs hw => ?_)
  refine lv_aload_n hx hb dX4_init_25 rfl (lv_at hl 0 rfl) ?_
  refine lv_bipush (v := (6 : Int32)) hx hb dX4_init_26 (by decide) ?_
  refine r_newa (a0 := (6, .inl (fun _ => 0))) (ty := .int) 0 hx hb htg mw155 rfl rfl (fun _ => rfl) hK hw hA (fun _ => rfl) (by decide) (by decide) (by decide) (Nat.le_of_ble_eq_true rfl) (Nat.le_of_ble_eq_true rfl) dX4_init_28 (fun q3 H hw => ?_)
  replace hw : Wd D A s.heap [(h0, .inr (3, [.int 0, .ref q1, .ref q2, .null, .null, .int 0, .null, .null, .null, .null, .int 0, .null, .null, .int 0, .null, .int 0, .null, .int 0, .int 0])),
    (q1, .inl (ca 0, 6, .inl (fun _ => 0))),
    (q2, .inl (ca 0, 6, .inl (fun _ => 0))),
    (q3, .inl (ca 0, 6, .inl (fun _ => 0)))] H _ := hw
  refine r_putF (C := RX4) (T := TX4) (N := 19) (ws' := [(h0, .inr (3, [.int 0, .ref q1, .ref q2, .ref q3, .null, .int 0, .null, .null, .null, .null, .int 0, .null, .null, .int 0, .null, .int 0, .null, .int 0, .int 0])),
    (q1, .inl (ca 0, 6, .inl (fun _ => 0))),
    (q2, .inl (ca 0, 6, .inl (fun _ => 0))),
    (q3, .inl (ca 0, 6, .inl (fun _ => 0)))]) hx hb htg iX4 tyX4 tyX4_ok nmX4 hown hin2 hK hw 0 rfl rfl 3 (by decide) mw189 rfl rfl rfl rfl (Nat.le_of_ble_eq_true rfl) dX4_init_30 rfl (fun H locs hw => ?_)
  refine lv_aload_n hx hb dX4_init_33 rfl (lv_at hl 0 rfl) ?_
  refine lv_bipush (v := (6 : Int32)) hx hb dX4_init_34 (by decide) ?_
  refine r_newa (a0 := (6, .inl (fun _ => 0))) (ty := .int) 0 hx hb htg mw155 rfl rfl (fun _ => rfl) hK hw hA (fun _ => rfl) (by decide) (by decide) (by decide) (Nat.le_of_ble_eq_true rfl) (Nat.le_of_ble_eq_true rfl) dX4_init_36 (fun q4 H hw => ?_)
  replace hw : Wd D A s.heap [(h0, .inr (3, [.int 0, .ref q1, .ref q2, .ref q3, .null, .int 0, .null, .null, .null, .null, .int 0, .null, .null, .int 0, .null, .int 0, .null, .int 0, .int 0])),
    (q1, .inl (ca 0, 6, .inl (fun _ => 0))),
    (q2, .inl (ca 0, 6, .inl (fun _ => 0))),
    (q3, .inl (ca 0, 6, .inl (fun _ => 0))),
    (q4, .inl (ca 0, 6, .inl (fun _ => 0)))] H _ := hw
  refine r_putF (C := RX4) (T := TX4) (N := 19) (ws' := [(h0, .inr (3, [.int 0, .ref q1, .ref q2, .ref q3, .ref q4, .int 0, .null, .null, .null, .null, .int 0, .null, .null, .int 0, .null, .int 0, .null, .int 0, .int 0])),
    (q1, .inl (ca 0, 6, .inl (fun _ => 0))),
    (q2, .inl (ca 0, 6, .inl (fun _ => 0))),
    (q3, .inl (ca 0, 6, .inl (fun _ => 0))),
    (q4, .inl (ca 0, 6, .inl (fun _ => 0)))]) hx hb htg iX4 tyX4 tyX4_ok nmX4 hown hin2 hK hw 0 rfl rfl 4 (by decide) mw190 rfl rfl rfl rfl (Nat.le_of_ble_eq_true rfl) dX4_init_38 rfl (fun H locs hw => ?_)
  refine lv_aload_n hx hb dX4_init_41 rfl (lv_at hl 0 rfl) ?_
  refine lv_iconst (v := (0 : Int32)) hx hb dX4_init_42 (by decide) ?_
  refine r_put (C := RX4) (T := TX4) (N := 19) (ws' := [(h0, .inr (3, [.int 0, .ref q1, .ref q2, .ref q3, .ref q4, .int 0, .null, .null, .null, .null, .int 0, .null, .null, .int 0, .null, .int 0, .null, .int 0, .int 0])),
    (q1, .inl (ca 0, 6, .inl (fun _ => 0))),
    (q2, .inl (ca 0, 6, .inl (fun _ => 0))),
    (q3, .inl (ca 0, 6, .inl (fun _ => 0))),
    (q4, .inl (ca 0, 6, .inl (fun _ => 0)))]) hx hb htg iX4 tyX4 tyX4_ok nmX4 hown hK hw 0 rfl rfl 5 (by decide) mw192 rfl rfl rfl (Nat.le_of_ble_eq_true rfl) dX4_init_43 rfl (fun H locs hw => ?_)
  refine lv_aload_n hx hb dX4_init_46 rfl (lv_at hl 0 rfl) ?_
  refine lv_iconst (v := (4 : Int32)) hx hb dX4_init_47 (by decide) ?_
  refine r_newa (a0 := (4, .inl (fun _ => 0))) (ty := .int) 0 hx hb htg mw155 rfl rfl (fun _ => rfl) hK hw hA (fun _ => rfl) (by decide) (by decide) (by decide) (Nat.le_of_ble_eq_true rfl) (Nat.le_of_ble_eq_true rfl) dX4_init_48 (fun q5 H hw => ?_)
  replace hw : Wd D A s.heap [(h0, .inr (3, [.int 0, .ref q1, .ref q2, .ref q3, .ref q4, .int 0, .null, .null, .null, .null, .int 0, .null, .null, .int 0, .null, .int 0, .null, .int 0, .int 0])),
    (q1, .inl (ca 0, 6, .inl (fun _ => 0))),
    (q2, .inl (ca 0, 6, .inl (fun _ => 0))),
    (q3, .inl (ca 0, 6, .inl (fun _ => 0))),
    (q4, .inl (ca 0, 6, .inl (fun _ => 0))),
    (q5, .inl (ca 0, 4, .inl (fun _ => 0)))] H _ := hw
  refine r_putF (C := RX4) (T := TX4) (N := 19) (ws' := [(h0, .inr (3, [.int 0, .ref q1, .ref q2, .ref q3, .ref q4, .int 0, .ref q5, .null, .null, .null, .int 0, .null, .null, .int 0, .null, .int 0, .null, .int 0, .int 0])),
    (q1, .inl (ca 0, 6, .inl (fun _ => 0))),
    (q2, .inl (ca 0, 6, .inl (fun _ => 0))),
    (q3, .inl (ca 0, 6, .inl (fun _ => 0))),
    (q4, .inl (ca 0, 6, .inl (fun _ => 0))),
    (q5, .inl (ca 0, 4, .inl (fun _ => 0)))]) hx hb htg iX4 tyX4 tyX4_ok nmX4 hown hin2 hK hw 0 rfl rfl 6 (by decide) mw196 rfl rfl rfl rfl (Nat.le_of_ble_eq_true rfl) dX4_init_50 rfl (fun H locs hw => ?_)
  refine lv_aload_n hx hb dX4_init_53 rfl (lv_at hl 0 rfl) ?_
  refine lv_iconst (v := (4 : Int32)) hx hb dX4_init_54 (by decide) ?_
  refine r_newa (a0 := (4, .inl (fun _ => 0))) (ty := .int) 0 hx hb htg mw155 rfl rfl (fun _ => rfl) hK hw hA (fun _ => rfl) (by decide) (by decide) (by decide) (Nat.le_of_ble_eq_true rfl) (Nat.le_of_ble_eq_true rfl) dX4_init_55 (fun q6 H hw => ?_)
  replace hw : Wd D A s.heap [(h0, .inr (3, [.int 0, .ref q1, .ref q2, .ref q3, .ref q4, .int 0, .ref q5, .null, .null, .null, .int 0, .null, .null, .int 0, .null, .int 0, .null, .int 0, .int 0])),
    (q1, .inl (ca 0, 6, .inl (fun _ => 0))),
    (q2, .inl (ca 0, 6, .inl (fun _ => 0))),
    (q3, .inl (ca 0, 6, .inl (fun _ => 0))),
    (q4, .inl (ca 0, 6, .inl (fun _ => 0))),
    (q5, .inl (ca 0, 4, .inl (fun _ => 0))),
    (q6, .inl (ca 0, 4, .inl (fun _ => 0)))] H _ := hw
  refine r_putF (C := RX4) (T := TX4) (N := 19) (ws' := [(h0, .inr (3, [.int 0, .ref q1, .ref q2, .ref q3, .ref q4, .int 0, .ref q5, .ref q6, .null, .null, .int 0, .null, .null, .int 0, .null, .int 0, .null, .int 0, .int 0])),
    (q1, .inl (ca 0, 6, .inl (fun _ => 0))),
    (q2, .inl (ca 0, 6, .inl (fun _ => 0))),
    (q3, .inl (ca 0, 6, .inl (fun _ => 0))),
    (q4, .inl (ca 0, 6, .inl (fun _ => 0))),
    (q5, .inl (ca 0, 4, .inl (fun _ => 0))),
    (q6, .inl (ca 0, 4, .inl (fun _ => 0)))]) hx hb htg iX4 tyX4 tyX4_ok nmX4 hown hin2 hK hw 0 rfl rfl 7 (by decide) mw200 rfl rfl rfl rfl (Nat.le_of_ble_eq_true rfl) dX4_init_57 rfl (fun H locs hw => ?_)
  refine lv_aload_n hx hb dX4_init_60 rfl (lv_at hl 0 rfl) ?_
  refine lv_iconst (v := (4 : Int32)) hx hb dX4_init_61 (by decide) ?_
  refine r_newa (a0 := (4, .inl (fun _ => 0))) (ty := .int) 0 hx hb htg mw155 rfl rfl (fun _ => rfl) hK hw hA (fun _ => rfl) (by decide) (by decide) (by decide) (Nat.le_of_ble_eq_true rfl) (Nat.le_of_ble_eq_true rfl) dX4_init_62 (fun q7 H hw => ?_)
  replace hw : Wd D A s.heap [(h0, .inr (3, [.int 0, .ref q1, .ref q2, .ref q3, .ref q4, .int 0, .ref q5, .ref q6, .null, .null, .int 0, .null, .null, .int 0, .null, .int 0, .null, .int 0, .int 0])),
    (q1, .inl (ca 0, 6, .inl (fun _ => 0))),
    (q2, .inl (ca 0, 6, .inl (fun _ => 0))),
    (q3, .inl (ca 0, 6, .inl (fun _ => 0))),
    (q4, .inl (ca 0, 6, .inl (fun _ => 0))),
    (q5, .inl (ca 0, 4, .inl (fun _ => 0))),
    (q6, .inl (ca 0, 4, .inl (fun _ => 0))),
    (q7, .inl (ca 0, 4, .inl (fun _ => 0)))] H _ := hw
  refine r_putF (C := RX4) (T := TX4) (N := 19) (ws' := [(h0, .inr (3, [.int 0, .ref q1, .ref q2, .ref q3, .ref q4, .int 0, .ref q5, .ref q6, .ref q7, .null, .int 0, .null, .null, .int 0, .null, .int 0, .null, .int 0, .int 0])),
    (q1, .inl (ca 0, 6, .inl (fun _ => 0))),
    (q2, .inl (ca 0, 6, .inl (fun _ => 0))),
    (q3, .inl (ca 0, 6, .inl (fun _ => 0))),
    (q4, .inl (ca 0, 6, .inl (fun _ => 0))),
    (q5, .inl (ca 0, 4, .inl (fun _ => 0))),
    (q6, .inl (ca 0, 4, .inl (fun _ => 0))),
    (q7, .inl (ca 0, 4, .inl (fun _ => 0)))]) hx hb htg iX4 tyX4 tyX4_ok nmX4 hown hin2 hK hw 0 rfl rfl 8 (by decide) mw202 rfl rfl rfl rfl (Nat.le_of_ble_eq_true rfl) dX4_init_64 rfl (fun H locs hw => ?_)
  refine lv_aload_n hx hb dX4_init_67 rfl (lv_at hl 0 rfl) ?_
  refine lv_iconst (v := (4 : Int32)) hx hb dX4_init_68 (by decide) ?_
  refine r_newa (a0 := (4, .inl (fun _ => 0))) (ty := .int) 0 hx hb htg mw155 rfl rfl (fun _ => rfl) hK hw hA (fun _ => rfl) (by decide) (by decide) (by decide) (Nat.le_of_ble_eq_true rfl) (Nat.le_of_ble_eq_true rfl) dX4_init_69 (fun q8 H hw => ?_)
  replace hw : Wd D A s.heap [(h0, .inr (3, [.int 0, .ref q1, .ref q2, .ref q3, .ref q4, .int 0, .ref q5, .ref q6, .ref q7, .null, .int 0, .null, .null, .int 0, .null, .int 0, .null, .int 0, .int 0])),
    (q1, .inl (ca 0, 6, .inl (fun _ => 0))),
    (q2, .inl (ca 0, 6, .inl (fun _ => 0))),
    (q3, .inl (ca 0, 6, .inl (fun _ => 0))),
    (q4, .inl (ca 0, 6, .inl (fun _ => 0))),
    (q5, .inl (ca 0, 4, .inl (fun _ => 0))),
    (q6, .inl (ca 0, 4, .inl (fun _ => 0))),
    (q7, .inl (ca 0, 4, .inl (fun _ => 0))),
    (q8, .inl (ca 0, 4, .inl (fun _ => 0)))] H _ := hw
  refine r_putF (C := RX4) (T := TX4) (N := 19) (ws' := [(h0, .inr (3, [.int 0, .ref q1, .ref q2, .ref q3, .ref q4, .int 0, .ref q5, .ref q6, .ref q7, .ref q8, .int 0, .null, .null, .int 0, .null, .int 0, .null, .int 0, .int 0])),
    (q1, .inl (ca 0, 6, .inl (fun _ => 0))),
    (q2, .inl (ca 0, 6, .inl (fun _ => 0))),
    (q3, .inl (ca 0, 6, .inl (fun _ => 0))),
    (q4, .inl (ca 0, 6, .inl (fun _ => 0))),
    (q5, .inl (ca 0, 4, .inl (fun _ => 0))),
    (q6, .inl (ca 0, 4, .inl (fun _ => 0))),
    (q7, .inl (ca 0, 4, .inl (fun _ => 0))),
    (q8, .inl (ca 0, 4, .inl (fun _ => 0)))]) hx hb htg iX4 tyX4 tyX4_ok nmX4 hown hin2 hK hw 0 rfl rfl 9 (by decide) mw204 rfl rfl rfl rfl (Nat.le_of_ble_eq_true rfl) dX4_init_71 rfl (fun H locs hw => ?_)
  refine lv_aload_n hx hb dX4_init_74 rfl (lv_at hl 0 rfl) ?_
  refine lv_iconst (v := (0 : Int32)) hx hb dX4_init_75 (by decide) ?_
  refine r_put (C := RX4) (T := TX4) (N := 19) (ws' := [(h0, .inr (3, [.int 0, .ref q1, .ref q2, .ref q3, .ref q4, .int 0, .ref q5, .ref q6, .ref q7, .ref q8, .int 0, .null, .null, .int 0, .null, .int 0, .null, .int 0, .int 0])),
    (q1, .inl (ca 0, 6, .inl (fun _ => 0))),
    (q2, .inl (ca 0, 6, .inl (fun _ => 0))),
    (q3, .inl (ca 0, 6, .inl (fun _ => 0))),
    (q4, .inl (ca 0, 6, .inl (fun _ => 0))),
    (q5, .inl (ca 0, 4, .inl (fun _ => 0))),
    (q6, .inl (ca 0, 4, .inl (fun _ => 0))),
    (q7, .inl (ca 0, 4, .inl (fun _ => 0))),
    (q8, .inl (ca 0, 4, .inl (fun _ => 0)))]) hx hb htg iX4 tyX4 tyX4_ok nmX4 hown hK hw 0 rfl rfl 10 (by decide) mw207 rfl rfl rfl (Nat.le_of_ble_eq_true rfl) dX4_init_76 rfl (fun H locs hw => ?_)
  refine lv_aload_n hx hb dX4_init_79 rfl (lv_at hl 0 rfl) ?_
  refine lv_bipush (v := (54 : Int32)) hx hb dX4_init_80 (by decide) ?_
  refine r_newa (a0 := (54, .inr (.inl (fun _ => 0)))) (ty := .long) 1 hx hb htg mw179 rfl rfl (fun _ => rfl) hK hw hA (fun _ => rfl) (by decide) (by decide) (by decide) (Nat.le_of_ble_eq_true rfl) (Nat.le_of_ble_eq_true rfl) dX4_init_82 (fun q9 H hw => ?_)
  replace hw : Wd D A s.heap [(h0, .inr (3, [.int 0, .ref q1, .ref q2, .ref q3, .ref q4, .int 0, .ref q5, .ref q6, .ref q7, .ref q8, .int 0, .null, .null, .int 0, .null, .int 0, .null, .int 0, .int 0])),
    (q1, .inl (ca 0, 6, .inl (fun _ => 0))),
    (q2, .inl (ca 0, 6, .inl (fun _ => 0))),
    (q3, .inl (ca 0, 6, .inl (fun _ => 0))),
    (q4, .inl (ca 0, 6, .inl (fun _ => 0))),
    (q5, .inl (ca 0, 4, .inl (fun _ => 0))),
    (q6, .inl (ca 0, 4, .inl (fun _ => 0))),
    (q7, .inl (ca 0, 4, .inl (fun _ => 0))),
    (q8, .inl (ca 0, 4, .inl (fun _ => 0))),
    (q9, .inl (ca 1, 54, .inr (.inl (fun _ => 0))))] H _ := hw
  refine r_putF (C := RX4) (T := TX4) (N := 19) (ws' := [(h0, .inr (3, [.int 0, .ref q1, .ref q2, .ref q3, .ref q4, .int 0, .ref q5, .ref q6, .ref q7, .ref q8, .int 0, .ref q9, .null, .int 0, .null, .int 0, .null, .int 0, .int 0])),
    (q1, .inl (ca 0, 6, .inl (fun _ => 0))),
    (q2, .inl (ca 0, 6, .inl (fun _ => 0))),
    (q3, .inl (ca 0, 6, .inl (fun _ => 0))),
    (q4, .inl (ca 0, 6, .inl (fun _ => 0))),
    (q5, .inl (ca 0, 4, .inl (fun _ => 0))),
    (q6, .inl (ca 0, 4, .inl (fun _ => 0))),
    (q7, .inl (ca 0, 4, .inl (fun _ => 0))),
    (q8, .inl (ca 0, 4, .inl (fun _ => 0))),
    (q9, .inl (ca 1, 54, .inr (.inl (fun _ => 0))))]) hx hb htg iX4 tyX4 tyX4_ok nmX4 hown hin2 hK hw 0 rfl rfl 11 (by decide) mw209 rfl rfl rfl rfl (Nat.le_of_ble_eq_true rfl) dX4_init_84 rfl (fun H locs hw => ?_)
  refine lv_aload_n hx hb dX4_init_87 rfl (lv_at hl 0 rfl) ?_
  refine r_new (C := RX1) (T := TX1) (N := 3) (ci := 0) (fs := [.int 0, .null, .null]) hx hb htg iX1 tyX1 tyX1_ok hown mw162 mw163 mw82 hK hw hA rfl (by decide +kernel) (Nat.le_of_ble_eq_true rfl) (Nat.le_of_ble_eq_true rfl) dX4_init_88 (fun q10 H hw => ?_)
  replace hw : Wd D A s.heap [(h0, .inr (3, [.int 0, .ref q1, .ref q2, .ref q3, .ref q4, .int 0, .ref q5, .ref q6, .ref q7, .ref q8, .int 0, .ref q9, .null, .int 0, .null, .int 0, .null, .int 0, .int 0])),
    (q1, .inl (ca 0, 6, .inl (fun _ => 0))),
    (q2, .inl (ca 0, 6, .inl (fun _ => 0))),
    (q3, .inl (ca 0, 6, .inl (fun _ => 0))),
    (q4, .inl (ca 0, 6, .inl (fun _ => 0))),
    (q5, .inl (ca 0, 4, .inl (fun _ => 0))),
    (q6, .inl (ca 0, 4, .inl (fun _ => 0))),
    (q7, .inl (ca 0, 4, .inl (fun _ => 0))),
    (q8, .inl (ca 0, 4, .inl (fun _ => 0))),
    (q9, .inl (ca 1, 54, .inr (.inl (fun _ => 0)))),
    (q10, .inr (0, [.int 0, .null, .null]))] H _ := hw
  refine lv_dup hx hb dX4_init_91 rfl ?_
  refine k_NN (av := []) (rest := [.ref q10, .ref h0]) (wc := [(q10, .inr (0, [.int 0, .null, .null]))]) (wr := [(h0, .inr (3, [.int 0, .ref q1, .ref q2, .ref q3, .ref q4, .int 0, .ref q5, .ref q6, .ref q7, .ref q8, .int 0, .ref q9, .null, .int 0, .null, .int 0, .null, .int 0, .int 0])),
    (q1, .inl (ca 0, 6, .inl (fun _ => 0))),
    (q2, .inl (ca 0, 6, .inl (fun _ => 0))),
    (q3, .inl (ca 0, 6, .inl (fun _ => 0))),
    (q4, .inl (ca 0, 6, .inl (fun _ => 0))),
    (q5, .inl (ca 0, 4, .inl (fun _ => 0))),
    (q6, .inl (ca 0, 4, .inl (fun _ => 0))),
    (q7, .inl (ca 0, 4, .inl (fun _ => 0))),
    (q8, .inl (ca 0, 4, .inl (fun _ => 0))),
    (q9, .inl (ca 1, 54, .inr (.inl (fun _ => 0))))]) ⟨hx, hb, hml, hown, htg⟩ [10] [0, 1, 2, 3, 4, 5, 6, 7, 8, 9] rfl rfl rfl rfl (by decide) (fun hD9 => n_X1_init l D ca _ q10 hD9) mw166 hN.2.1 mw82 mw165 rfl nd_X1_init ⟨Nat.le_of_ble_eq_true rfl, Nat.le_of_ble_eq_true rfl⟩ rfl rfl hK hN hw hA hl.1 rfl (Nat.le_of_ble_eq_true rfl) dX4_init_92 ⟨Nat.le_of_ble_eq_true rfl, Nat.le_of_ble_eq_true rfl⟩ (fun z11 H locs hw => ?_)
  replace hw : Wd D A s.heap [(h0, .inr (3, [.int 0, .ref q1, .ref q2, .ref q3, .ref q4, .int 0, .ref q5, .ref q6, .ref q7, .ref q8, .int 0, .ref q9, .null, .int 0, .null, .int 0, .null, .int 0, .int 0])),
    (q1, .inl (ca 0, 6, .inl (fun _ => 0))),
    (q2, .inl (ca 0, 6, .inl (fun _ => 0))),
    (q3, .inl (ca 0, 6, .inl (fun _ => 0))),
    (q4, .inl (ca 0, 6, .inl (fun _ => 0))),
    (q5, .inl (ca 0, 4, .inl (fun _ => 0))),
    (q6, .inl (ca 0, 4, .inl (fun _ => 0))),
    (q7, .inl (ca 0, 4, .inl (fun _ => 0))),
    (q8, .inl (ca 0, 4, .inl (fun _ => 0))),
    (q9, .inl (ca 1, 54, .inr (.inl (fun _ => 0)))),
    (q10, .inr (0, [.int 0, .ref (z11 0), .ref (z11 1)])),
    ((z11 0), .inl (ca 0, 60, .inl (fun _ => 0))),
    ((z11 1), .inl (ca 0, 6, .inl (fun _ => 0)))] H _ := hw
  refine r_putF (C := RX4) (T := TX4) (N := 19) (ws' := [(h0, .inr (3, [.int 0, .ref q1, .ref q2, .ref q3, .ref q4, .int 0, .ref q5, .ref q6, .ref q7, .ref q8, .int 0, .ref q9, .ref q10, .int 0, .null, .int 0, .null, .int 0, .int 0])),
    (q1, .inl (ca 0, 6, .inl (fun _ => 0))),
    (q2, .inl (ca 0, 6, .inl (fun _ => 0))),
    (q3, .inl (ca 0, 6, .inl (fun _ => 0))),
    (q4, .inl (ca 0, 6, .inl (fun _ => 0))),
    (q5, .inl (ca 0, 4, .inl (fun _ => 0))),
    (q6, .inl (ca 0, 4, .inl (fun _ => 0))),
    (q7, .inl (ca 0, 4, .inl (fun _ => 0))),
    (q8, .inl (ca 0, 4, .inl (fun _ => 0))),
    (q9, .inl (ca 1, 54, .inr (.inl (fun _ => 0)))),
    (q10, .inr (0, [.int 0, .ref (z11 0), .ref (z11 1)])),
    ((z11 0), .inl (ca 0, 60, .inl (fun _ => 0))),
    ((z11 1), .inl (ca 0, 6, .inl (fun _ => 0)))]) hx hb htg iX4 tyX4 tyX4_ok nmX4 hown hin2 hK hw 0 rfl rfl 12 (by decide) mw211 rfl rfl rfl rfl (Nat.le_of_ble_eq_true rfl) dX4_init_95 rfl (fun H locs hw => ?_)
  refine lv_aload_n hx hb dX4_init_98 rfl (lv_at hl 0 rfl) ?_
  refine lv_iconst (v := (0 : Int32)) hx hb dX4_init_99 (by decide) ?_
  refine r_put (C := RX4) (T := TX4) (N := 19) (ws' := [(h0, .inr (3, [.int 0, .ref q1, .ref q2, .ref q3, .ref q4, .int 0, .ref q5, .ref q6, .ref q7, .ref q8, .int 0, .ref q9, .ref q10, .int 0, .null, .int 0, .null, .int 0, .int 0])),
    (q1, .inl (ca 0, 6, .inl (fun _ => 0))),
    (q2, .inl (ca 0, 6, .inl (fun _ => 0))),
    (q3, .inl (ca 0, 6, .inl (fun _ => 0))),
    (q4, .inl (ca 0, 6, .inl (fun _ => 0))),
    (q5, .inl (ca 0, 4, .inl (fun _ => 0))),
    (q6, .inl (ca 0, 4, .inl (fun _ => 0))),
    (q7, .inl (ca 0, 4, .inl (fun _ => 0))),
    (q8, .inl (ca 0, 4, .inl (fun _ => 0))),
    (q9, .inl (ca 1, 54, .inr (.inl (fun _ => 0)))),
    (q10, .inr (0, [.int 0, .ref (z11 0), .ref (z11 1)])),
    ((z11 0), .inl (ca 0, 60, .inl (fun _ => 0))),
    ((z11 1), .inl (ca 0, 6, .inl (fun _ => 0)))]) hx hb htg iX4 tyX4 tyX4_ok nmX4 hown hK hw 0 rfl rfl 13 (by decide) mw214 rfl rfl rfl (Nat.le_of_ble_eq_true rfl) dX4_init_100 rfl (fun H locs hw => ?_)
  refine lv_aload_n hx hb dX4_init_103 rfl (lv_at hl 0 rfl) ?_
  refine lv_bipush (v := (48 : Int32)) hx hb dX4_init_104 (by decide) ?_
  refine r_newa (a0 := (48, .inl (fun _ => 0))) (ty := .int) 0 hx hb htg mw155 rfl rfl (fun _ => rfl) hK hw hA (fun _ => rfl) (by decide) (by decide) (by decide) (Nat.le_of_ble_eq_true rfl) (Nat.le_of_ble_eq_true rfl) dX4_init_106 (fun q12 H hw => ?_)
  replace hw : Wd D A s.heap [(h0, .inr (3, [.int 0, .ref q1, .ref q2, .ref q3, .ref q4, .int 0, .ref q5, .ref q6, .ref q7, .ref q8, .int 0, .ref q9, .ref q10, .int 0, .null, .int 0, .null, .int 0, .int 0])),
    (q1, .inl (ca 0, 6, .inl (fun _ => 0))),
    (q2, .inl (ca 0, 6, .inl (fun _ => 0))),
    (q3, .inl (ca 0, 6, .inl (fun _ => 0))),
    (q4, .inl (ca 0, 6, .inl (fun _ => 0))),
    (q5, .inl (ca 0, 4, .inl (fun _ => 0))),
    (q6, .inl (ca 0, 4, .inl (fun _ => 0))),
    (q7, .inl (ca 0, 4, .inl (fun _ => 0))),
    (q8, .inl (ca 0, 4, .inl (fun _ => 0))),
    (q9, .inl (ca 1, 54, .inr (.inl (fun _ => 0)))),
    (q10, .inr (0, [.int 0, .ref (z11 0), .ref (z11 1)])),
    ((z11 0), .inl (ca 0, 60, .inl (fun _ => 0))),
    ((z11 1), .inl (ca 0, 6, .inl (fun _ => 0))),
    (q12, .inl (ca 0, 48, .inl (fun _ => 0)))] H _ := hw
  refine r_putF (C := RX4) (T := TX4) (N := 19) (ws' := [(h0, .inr (3, [.int 0, .ref q1, .ref q2, .ref q3, .ref q4, .int 0, .ref q5, .ref q6, .ref q7, .ref q8, .int 0, .ref q9, .ref q10, .int 0, .ref q12, .int 0, .null, .int 0, .int 0])),
    (q1, .inl (ca 0, 6, .inl (fun _ => 0))),
    (q2, .inl (ca 0, 6, .inl (fun _ => 0))),
    (q3, .inl (ca 0, 6, .inl (fun _ => 0))),
    (q4, .inl (ca 0, 6, .inl (fun _ => 0))),
    (q5, .inl (ca 0, 4, .inl (fun _ => 0))),
    (q6, .inl (ca 0, 4, .inl (fun _ => 0))),
    (q7, .inl (ca 0, 4, .inl (fun _ => 0))),
    (q8, .inl (ca 0, 4, .inl (fun _ => 0))),
    (q9, .inl (ca 1, 54, .inr (.inl (fun _ => 0)))),
    (q10, .inr (0, [.int 0, .ref (z11 0), .ref (z11 1)])),
    ((z11 0), .inl (ca 0, 60, .inl (fun _ => 0))),
    ((z11 1), .inl (ca 0, 6, .inl (fun _ => 0))),
    (q12, .inl (ca 0, 48, .inl (fun _ => 0)))]) hx hb htg iX4 tyX4 tyX4_ok nmX4 hown hin2 hK hw 0 rfl rfl 14 (by decide) mw217 rfl rfl rfl rfl (Nat.le_of_ble_eq_true rfl) dX4_init_108 rfl (fun H locs hw => ?_)
  refine lv_aload_n hx hb dX4_init_111 rfl (lv_at hl 0 rfl) ?_
  refine lv_iconst (v := (0 : Int32)) hx hb dX4_init_112 (by decide) ?_
  refine r_put (C := RX4) (T := TX4) (N := 19) (ws' := [(h0, .inr (3, [.int 0, .ref q1, .ref q2, .ref q3, .ref q4, .int 0, .ref q5, .ref q6, .ref q7, .ref q8, .int 0, .ref q9, .ref q10, .int 0, .ref q12, .int 0, .null, .int 0, .int 0])),
    (q1, .inl (ca 0, 6, .inl (fun _ => 0))),
    (q2, .inl (ca 0, 6, .inl (fun _ => 0))),
    (q3, .inl (ca 0, 6, .inl (fun _ => 0))),
    (q4, .inl (ca 0, 6, .inl (fun _ => 0))),
    (q5, .inl (ca 0, 4, .inl (fun _ => 0))),
    (q6, .inl (ca 0, 4, .inl (fun _ => 0))),
    (q7, .inl (ca 0, 4, .inl (fun _ => 0))),
    (q8, .inl (ca 0, 4, .inl (fun _ => 0))),
    (q9, .inl (ca 1, 54, .inr (.inl (fun _ => 0)))),
    (q10, .inr (0, [.int 0, .ref (z11 0), .ref (z11 1)])),
    ((z11 0), .inl (ca 0, 60, .inl (fun _ => 0))),
    ((z11 1), .inl (ca 0, 6, .inl (fun _ => 0))),
    (q12, .inl (ca 0, 48, .inl (fun _ => 0)))]) hx hb htg iX4 tyX4 tyX4_ok nmX4 hown hK hw 0 rfl rfl 15 (by decide) mw219 rfl rfl rfl (Nat.le_of_ble_eq_true rfl) dX4_init_113 rfl (fun H locs hw => ?_)
  refine lv_aload_n hx hb dX4_init_116 rfl (lv_at hl 0 rfl) ?_
  refine lv_bipush (v := (18 : Int32)) hx hb dX4_init_117 (by decide) ?_
  refine r_newa (a0 := (18, .inl (fun _ => 0))) (ty := .int) 0 hx hb htg mw155 rfl rfl (fun _ => rfl) hK hw hA (fun _ => rfl) (by decide) (by decide) (by decide) (Nat.le_of_ble_eq_true rfl) (Nat.le_of_ble_eq_true rfl) dX4_init_119 (fun q13 H hw => ?_)
  replace hw : Wd D A s.heap [(h0, .inr (3, [.int 0, .ref q1, .ref q2, .ref q3, .ref q4, .int 0, .ref q5, .ref q6, .ref q7, .ref q8, .int 0, .ref q9, .ref q10, .int 0, .ref q12, .int 0, .null, .int 0, .int 0])),
    (q1, .inl (ca 0, 6, .inl (fun _ => 0))),
    (q2, .inl (ca 0, 6, .inl (fun _ => 0))),
    (q3, .inl (ca 0, 6, .inl (fun _ => 0))),
    (q4, .inl (ca 0, 6, .inl (fun _ => 0))),
    (q5, .inl (ca 0, 4, .inl (fun _ => 0))),
    (q6, .inl (ca 0, 4, .inl (fun _ => 0))),
    (q7, .inl (ca 0, 4, .inl (fun _ => 0))),
    (q8, .inl (ca 0, 4, .inl (fun _ => 0))),
    (q9, .inl (ca 1, 54, .inr (.inl (fun _ => 0)))),
    (q10, .inr (0, [.int 0, .ref (z11 0), .ref (z11 1)])),
    ((z11 0), .inl (ca 0, 60, .inl (fun _ => 0))),
    ((z11 1), .inl (ca 0, 6, .inl (fun _ => 0))),
    (q12, .inl (ca 0, 48, .inl (fun _ => 0))),
    (q13, .inl (ca 0, 18, .inl (fun _ => 0)))] H _ := hw
  refine r_putF (C := RX4) (T := TX4) (N := 19) (ws' := [(h0, .inr (3, [.int 0, .ref q1, .ref q2, .ref q3, .ref q4, .int 0, .ref q5, .ref q6, .ref q7, .ref q8, .int 0, .ref q9, .ref q10, .int 0, .ref q12, .int 0, .ref q13, .int 0, .int 0])),
    (q1, .inl (ca 0, 6, .inl (fun _ => 0))),
    (q2, .inl (ca 0, 6, .inl (fun _ => 0))),
    (q3, .inl (ca 0, 6, .inl (fun _ => 0))),
    (q4, .inl (ca 0, 6, .inl (fun _ => 0))),
    (q5, .inl (ca 0, 4, .inl (fun _ => 0))),
    (q6, .inl (ca 0, 4, .inl (fun _ => 0))),
    (q7, .inl (ca 0, 4, .inl (fun _ => 0))),
    (q8, .inl (ca 0, 4, .inl (fun _ => 0))),
    (q9, .inl (ca 1, 54, .inr (.inl (fun _ => 0)))),
    (q10, .inr (0, [.int 0, .ref (z11 0), .ref (z11 1)])),
    ((z11 0), .inl (ca 0, 60, .inl (fun _ => 0))),
    ((z11 1), .inl (ca 0, 6, .inl (fun _ => 0))),
    (q12, .inl (ca 0, 48, .inl (fun _ => 0))),
    (q13, .inl (ca 0, 18, .inl (fun _ => 0)))]) hx hb htg iX4 tyX4 tyX4_ok nmX4 hown hin2 hK hw 0 rfl rfl 16 (by decide) mw222 rfl rfl rfl rfl (Nat.le_of_ble_eq_true rfl) dX4_init_121 rfl (fun H locs hw => ?_)
  refine lv_aload_n hx hb dX4_init_124 rfl (lv_at hl 0 rfl) ?_
  refine lv_iconst (v := (0 : Int32)) hx hb dX4_init_125 (by decide) ?_
  refine r_put (C := RX4) (T := TX4) (N := 19) (ws' := [(h0, .inr (3, [.int 0, .ref q1, .ref q2, .ref q3, .ref q4, .int 0, .ref q5, .ref q6, .ref q7, .ref q8, .int 0, .ref q9, .ref q10, .int 0, .ref q12, .int 0, .ref q13, .int 0, .int 0])),
    (q1, .inl (ca 0, 6, .inl (fun _ => 0))),
    (q2, .inl (ca 0, 6, .inl (fun _ => 0))),
    (q3, .inl (ca 0, 6, .inl (fun _ => 0))),
    (q4, .inl (ca 0, 6, .inl (fun _ => 0))),
    (q5, .inl (ca 0, 4, .inl (fun _ => 0))),
    (q6, .inl (ca 0, 4, .inl (fun _ => 0))),
    (q7, .inl (ca 0, 4, .inl (fun _ => 0))),
    (q8, .inl (ca 0, 4, .inl (fun _ => 0))),
    (q9, .inl (ca 1, 54, .inr (.inl (fun _ => 0)))),
    (q10, .inr (0, [.int 0, .ref (z11 0), .ref (z11 1)])),
    ((z11 0), .inl (ca 0, 60, .inl (fun _ => 0))),
    ((z11 1), .inl (ca 0, 6, .inl (fun _ => 0))),
    (q12, .inl (ca 0, 48, .inl (fun _ => 0))),
    (q13, .inl (ca 0, 18, .inl (fun _ => 0)))]) hx hb htg iX4 tyX4 tyX4_ok nmX4 hown hK hw 0 rfl rfl 17 (by decide) mw224 rfl rfl rfl (Nat.le_of_ble_eq_true rfl) dX4_init_126 rfl (fun H locs hw => ?_)
  refine lv_aload_n hx hb dX4_init_129 rfl (lv_at hl 0 rfl) ?_
  refine lv_iconst (v := (2 : Int32)) hx hb dX4_init_130 (by decide) ?_
  refine r_put (C := RX4) (T := TX4) (N := 19) (ws' := [(h0, .inr (3, [.int 0, .ref q1, .ref q2, .ref q3, .ref q4, .int 0, .ref q5, .ref q6, .ref q7, .ref q8, .int 0, .ref q9, .ref q10, .int 0, .ref q12, .int 0, .ref q13, .int 0, .int 2])),
    (q1, .inl (ca 0, 6, .inl (fun _ => 0))),
    (q2, .inl (ca 0, 6, .inl (fun _ => 0))),
    (q3, .inl (ca 0, 6, .inl (fun _ => 0))),
    (q4, .inl (ca 0, 6, .inl (fun _ => 0))),
    (q5, .inl (ca 0, 4, .inl (fun _ => 0))),
    (q6, .inl (ca 0, 4, .inl (fun _ => 0))),
    (q7, .inl (ca 0, 4, .inl (fun _ => 0))),
    (q8, .inl (ca 0, 4, .inl (fun _ => 0))),
    (q9, .inl (ca 1, 54, .inr (.inl (fun _ => 0)))),
    (q10, .inr (0, [.int 0, .ref (z11 0), .ref (z11 1)])),
    ((z11 0), .inl (ca 0, 60, .inl (fun _ => 0))),
    ((z11 1), .inl (ca 0, 6, .inl (fun _ => 0))),
    (q12, .inl (ca 0, 48, .inl (fun _ => 0))),
    (q13, .inl (ca 0, 18, .inl (fun _ => 0)))]) hx hb htg iX4 tyX4 tyX4_ok nmX4 hown hK hw 0 rfl rfl 18 (by decide) mw227 rfl rfl rfl (Nat.le_of_ble_eq_true rfl) dX4_init_131 rfl (fun H locs hw => ?_)
  refine lv_iconst (v := (0 : Int32)) hx hb dX4_init_134 (by decide) ?_
  refine lv_istore_n (lv' := [(1, .int (0 : Int32)), (0, .ref h0)]) hx hb dX4_init_135 rfl hl (by decide) rfl (fun ls hl => ?_)
  refine lv_iload_n hx hb dX4_init_136 rfl (lv_at hl 0 rfl) ?_
  refine lv_iconst (v := (4 : Int32)) hx hb dX4_init_137 (by decide) ?_
  refine lv_icmp_ge (tgt := 154) hx hb dX4_init_138 (by decide) (fun hc => absurd hc (by decide)) (fun hc => ?_)
  refine lv_aload_n hx hb dX4_init_141 rfl (lv_at hl 1 rfl) ?_
  refine r_get (C := RX4) (T := TX4) (N := 19) hx hb htg iX4 hown hK hw.1 0 rfl rfl 9 (by decide) mw204 rfl dX4_init_142 ?_
  refine lv_iload_n hx hb dX4_init_145 rfl (lv_at hl 0 rfl) ?_
  refine lv_iconst (v := (-1 : Int32)) hx hb dX4_init_146 (by decide) ?_
  refine r_iast (ws'' := fun g14 => [(h0, .inr (3, [.int 0, .ref q1, .ref q2, .ref q3, .ref q4, .int 0, .ref q5, .ref q6, .ref q7, .ref q8, .int 0, .ref q9, .ref q10, .int 0, .ref q12, .int 0, .ref q13, .int 0, .int 2])),
    (q1, .inl (ca 0, 6, .inl (fun _ => 0))),
    (q2, .inl (ca 0, 6, .inl (fun _ => 0))),
    (q3, .inl (ca 0, 6, .inl (fun _ => 0))),
    (q4, .inl (ca 0, 6, .inl (fun _ => 0))),
    (q5, .inl (ca 0, 4, .inl (fun _ => 0))),
    (q6, .inl (ca 0, 4, .inl (fun _ => 0))),
    (q7, .inl (ca 0, 4, .inl (fun _ => 0))),
    (q8, .inl (ca 0, 4, .inl g14)),
    (q9, .inl (ca 1, 54, .inr (.inl (fun _ => 0)))),
    (q10, .inr (0, [.int 0, .ref (z11 0), .ref (z11 1)])),
    ((z11 0), .inl (ca 0, 60, .inl (fun _ => 0))),
    ((z11 1), .inl (ca 0, 6, .inl (fun _ => 0))),
    (q12, .inl (ca 0, 48, .inl (fun _ => 0))),
    (q13, .inl (ca 0, 18, .inl (fun _ => 0)))]) hx hb hK hw 8 rfl rfl (vp_dec (by decide)) dX4_init_147 (fun _ => rfl) (fun g14 H locs eg14 hw => ?_)
  replace eg14 : g14 = (upd (fun _ => 0) 0 (-1)) := eg14
  subst eg14
  refine lv_iinc (v := (1 : Int32)) (lv' := [(1, .int (1 : Int32)), (0, .ref h0)]) hx hb dX4_init_148 hl (k := 0) rfl (by decide) (by decide) rfl (fun ls hl => ?_)
  refine lv_goto (tgt := 136) hx hb dX4_init_151 (by decide) ?_
  refine lv_iload_n hx hb dX4_init_136 rfl (lv_at hl 0 rfl) ?_
  refine lv_iconst (v := (4 : Int32)) hx hb dX4_init_137 (by decide) ?_
  refine lv_icmp_ge (tgt := 154) hx hb dX4_init_138 (by decide) (fun hc => absurd hc (by decide)) (fun hc => ?_)
  refine lv_aload_n hx hb dX4_init_141 rfl (lv_at hl 1 rfl) ?_
  refine r_get (C := RX4) (T := TX4) (N := 19) hx hb htg iX4 hown hK hw.1 0 rfl rfl 9 (by decide) mw204 rfl dX4_init_142 ?_
  refine lv_iload_n hx hb dX4_init_145 rfl (lv_at hl 0 rfl) ?_
  refine lv_iconst (v := (-1 : Int32)) hx hb dX4_init_146 (by decide) ?_
  refine r_iast (ws'' := fun g15 => [(h0, .inr (3, [.int 0, .ref q1, .ref q2, .ref q3, .ref q4, .int 0, .ref q5, .ref q6, .ref q7, .ref q8, .int 0, .ref q9, .ref q10, .int 0, .ref q12, .int 0, .ref q13, .int 0, .int 2])),
    (q1, .inl (ca 0, 6, .inl (fun _ => 0))),
    (q2, .inl (ca 0, 6, .inl (fun _ => 0))),
    (q3, .inl (ca 0, 6, .inl (fun _ => 0))),
    (q4, .inl (ca 0, 6, .inl (fun _ => 0))),
    (q5, .inl (ca 0, 4, .inl (fun _ => 0))),
    (q6, .inl (ca 0, 4, .inl (fun _ => 0))),
    (q7, .inl (ca 0, 4, .inl (fun _ => 0))),
    (q8, .inl (ca 0, 4, .inl g15)),
    (q9, .inl (ca 1, 54, .inr (.inl (fun _ => 0)))),
    (q10, .inr (0, [.int 0, .ref (z11 0), .ref (z11 1)])),
    ((z11 0), .inl (ca 0, 60, .inl (fun _ => 0))),
    ((z11 1), .inl (ca 0, 6, .inl (fun _ => 0))),
    (q12, .inl (ca 0, 48, .inl (fun _ => 0))),
    (q13, .inl (ca 0, 18, .inl (fun _ => 0)))]) hx hb hK hw 8 rfl rfl (vp_dec (by decide)) dX4_init_147 (fun _ => rfl) (fun g15 H locs eg15 hw => ?_)
  replace eg15 : g15 = (upd (upd (fun _ => 0) 0 (-1)) 1 (-1)) := eg15
  subst eg15
  refine lv_iinc (v := (2 : Int32)) (lv' := [(1, .int (2 : Int32)), (0, .ref h0)]) hx hb dX4_init_148 hl (k := 0) rfl (by decide) (by decide) rfl (fun ls hl => ?_)
  refine lv_goto (tgt := 136) hx hb dX4_init_151 (by decide) ?_
  refine lv_iload_n hx hb dX4_init_136 rfl (lv_at hl 0 rfl) ?_
  refine lv_iconst (v := (4 : Int32)) hx hb dX4_init_137 (by decide) ?_
  refine lv_icmp_ge (tgt := 154) hx hb dX4_init_138 (by decide) (fun hc => absurd hc (by decide)) (fun hc => ?_)
  refine lv_aload_n hx hb dX4_init_141 rfl (lv_at hl 1 rfl) ?_
  refine r_get (C := RX4) (T := TX4) (N := 19) hx hb htg iX4 hown hK hw.1 0 rfl rfl 9 (by decide) mw204 rfl dX4_init_142 ?_
  refine lv_iload_n hx hb dX4_init_145 rfl (lv_at hl 0 rfl) ?_
  refine lv_iconst (v := (-1 : Int32)) hx hb dX4_init_146 (by decide) ?_
  refine r_iast (ws'' := fun g16 => [(h0, .inr (3, [.int 0, .ref q1, .ref q2, .ref q3, .ref q4, .int 0, .ref q5, .ref q6, .ref q7, .ref q8, .int 0, .ref q9, .ref q10, .int 0, .ref q12, .int 0, .ref q13, .int 0, .int 2])),
    (q1, .inl (ca 0, 6, .inl (fun _ => 0))),
    (q2, .inl (ca 0, 6, .inl (fun _ => 0))),
    (q3, .inl (ca 0, 6, .inl (fun _ => 0))),
    (q4, .inl (ca 0, 6, .inl (fun _ => 0))),
    (q5, .inl (ca 0, 4, .inl (fun _ => 0))),
    (q6, .inl (ca 0, 4, .inl (fun _ => 0))),
    (q7, .inl (ca 0, 4, .inl (fun _ => 0))),
    (q8, .inl (ca 0, 4, .inl g16)),
    (q9, .inl (ca 1, 54, .inr (.inl (fun _ => 0)))),
    (q10, .inr (0, [.int 0, .ref (z11 0), .ref (z11 1)])),
    ((z11 0), .inl (ca 0, 60, .inl (fun _ => 0))),
    ((z11 1), .inl (ca 0, 6, .inl (fun _ => 0))),
    (q12, .inl (ca 0, 48, .inl (fun _ => 0))),
    (q13, .inl (ca 0, 18, .inl (fun _ => 0)))]) hx hb hK hw 8 rfl rfl (vp_dec (by decide)) dX4_init_147 (fun _ => rfl) (fun g16 H locs eg16 hw => ?_)
  replace eg16 : g16 = (upd (upd (upd (fun _ => 0) 0 (-1)) 1 (-1)) 2 (-1)) := eg16
  subst eg16
  refine lv_iinc (v := (3 : Int32)) (lv' := [(1, .int (3 : Int32)), (0, .ref h0)]) hx hb dX4_init_148 hl (k := 0) rfl (by decide) (by decide) rfl (fun ls hl => ?_)
  refine lv_goto (tgt := 136) hx hb dX4_init_151 (by decide) ?_
  refine lv_iload_n hx hb dX4_init_136 rfl (lv_at hl 0 rfl) ?_
  refine lv_iconst (v := (4 : Int32)) hx hb dX4_init_137 (by decide) ?_
  refine lv_icmp_ge (tgt := 154) hx hb dX4_init_138 (by decide) (fun hc => absurd hc (by decide)) (fun hc => ?_)
  refine lv_aload_n hx hb dX4_init_141 rfl (lv_at hl 1 rfl) ?_
  refine r_get (C := RX4) (T := TX4) (N := 19) hx hb htg iX4 hown hK hw.1 0 rfl rfl 9 (by decide) mw204 rfl dX4_init_142 ?_
  refine lv_iload_n hx hb dX4_init_145 rfl (lv_at hl 0 rfl) ?_
  refine lv_iconst (v := (-1 : Int32)) hx hb dX4_init_146 (by decide) ?_
  refine r_iast (ws'' := fun g17 => [(h0, .inr (3, [.int 0, .ref q1, .ref q2, .ref q3, .ref q4, .int 0, .ref q5, .ref q6, .ref q7, .ref q8, .int 0, .ref q9, .ref q10, .int 0, .ref q12, .int 0, .ref q13, .int 0, .int 2])),
    (q1, .inl (ca 0, 6, .inl (fun _ => 0))),
    (q2, .inl (ca 0, 6, .inl (fun _ => 0))),
    (q3, .inl (ca 0, 6, .inl (fun _ => 0))),
    (q4, .inl (ca 0, 6, .inl (fun _ => 0))),
    (q5, .inl (ca 0, 4, .inl (fun _ => 0))),
    (q6, .inl (ca 0, 4, .inl (fun _ => 0))),
    (q7, .inl (ca 0, 4, .inl (fun _ => 0))),
    (q8, .inl (ca 0, 4, .inl g17)),
    (q9, .inl (ca 1, 54, .inr (.inl (fun _ => 0)))),
    (q10, .inr (0, [.int 0, .ref (z11 0), .ref (z11 1)])),
    ((z11 0), .inl (ca 0, 60, .inl (fun _ => 0))),
    ((z11 1), .inl (ca 0, 6, .inl (fun _ => 0))),
    (q12, .inl (ca 0, 48, .inl (fun _ => 0))),
    (q13, .inl (ca 0, 18, .inl (fun _ => 0)))]) hx hb hK hw 8 rfl rfl (vp_dec (by decide)) dX4_init_147 (fun _ => rfl) (fun g17 H locs eg17 hw => ?_)
  replace eg17 : g17 = (upd (upd (upd (upd (fun _ => 0) 0 (-1)) 1 (-1)) 2 (-1)) 3 (-1)) := eg17
  subst eg17
  refine lv_iinc (v := (4 : Int32)) (lv' := [(1, .int (4 : Int32)), (0, .ref h0)]) hx hb dX4_init_148 hl (k := 0) rfl (by decide) (by decide) rfl (fun ls hl => ?_)
  refine lv_goto (tgt := 136) hx hb dX4_init_151 (by decide) ?_
  refine lv_iload_n hx hb dX4_init_136 rfl (lv_at hl 0 rfl) ?_
  refine lv_iconst (v := (4 : Int32)) hx hb dX4_init_137 (by decide) ?_
  refine lv_icmp_ge (tgt := 154) hx hb dX4_init_138 (by decide) (fun hc => ?_) (fun hc => absurd (by decide) hc)
  exact retn (fun i => ([q1, q2, q3, q4, q5, q6, q7, q8, q9, q10, (z11 0), (z11 1), q12, q13] : List Nat).getD i 0) hQ hx hb hr hk dX4_init_154 hw

def rm_n_X3_init : Room := { frames := 1, cells := 9, slots := 909, locals := 30 }
theorem nd_X3_init : yX3_init.cls ≠ "java/lang/invoke/MethodHandle" ∧ yX3_init.cls ≠ "java/lang/invoke/VarHandle" ∧ (parseMethodDescriptor yX3_init.desc).map (fun d => d.parameters.length) = some 1 := by decide +kernel
set_option maxRecDepth 100000 in
set_option maxHeartbeats 8000000 in
theorem n_X3_init (l : Launch) (D : va_G) (ca : Nat → ClassId) (A : Nat → Prop) (h0 : Nat) (b1 : Nat) (hD : va_D A [(h0, .inr (2, [.null, .null, .null, .null, .null, .null, .null, .null, .null, .null]))]) : CN l yX3_init cX3_init 2 rm_n_X3_init [.ref h0, .ref b1] D ca A [(h0, .inr (2, [.null, .null, .null, .null, .null, .null, .null, .null, .null, .null]))] (fun q => [(h0, .inr (2, [.ref b1, .ref (q 0), .ref (q 1), .ref (q 2), .ref (q 3), .ref (q 4), .ref (q 5), .ref (q 6), .ref (q 7), .ref (q 8)])),
    ((q 0), .inl (ca 1, 432, .inr (.inl (fun _ => 0)))),
    ((q 1), .inl (ca 1, 432, .inr (.inl (fun _ => 0)))),
    ((q 2), .inl (ca 0, 15, .inl (fun _ => 0))),
    ((q 3), .inl (ca 0, 15, .inl (fun _ => 0))),
    ((q 4), .inl (ca 1, 3, .inr (.inl (fun _ => 0)))),
    ((q 5), .inl (ca 1, 3, .inr (.inl (fun _ => 0)))),
    ((q 6), .inl (ca 1, 3, .inr (.inl (fun _ => 0)))),
    ((q 7), .inl (ca 1, 3, .inr (.inl (fun _ => 0)))),
    ((q 8), .inl (ca 1, 3, .inr (.inl (fun _ => 0))))]) 9 909 := by
  refine CN_of (by decide) rfl (Nat.le_of_ble_eq_true rfl) hD ?_
  intro p e s m args below meth c ls Q hx hb hml hown htg hw hK hN hA hl hQ hr hk hin2
  replace hown : s.vm.findClass "LampSheets$Stage" = some m.cls := hown
  replace hl : lv_has ls 2 [(0, .ref h0), (1, .ref b1)] := hl
  refine lv_aload_n hx hb dX3_init_0 rfl (lv_at hl 0 rfl) ?_
  refine r_obj hx hb hml hl.1 hown htg mw273 mw109 mw110 dX3_init_1 (Nat.le_of_ble_eq_true rfl) (Nat.le_of_ble_eq_true rfl) ?_
  refine lv_aload_n hx hb dX3_init_4 rfl (lv_at hl 0 rfl) ?_
  refine lv_sipush (v := (432 : Int32)) hx hb dX3_init_5 (by decide) ?_
  refine r_newa (a0 := (432, .inr (.inl (fun _ => 0)))) (ty := .long) 1 hx hb htg mw179 rfl rfl (fun _ => rfl) hK hw hA (fun _ => rfl) (by decide) (by decide) (by decide) (Nat.le_of_ble_eq_true rfl) (Nat.le_of_ble_eq_true rfl) dX3_init_8 (fun q1 H hw => ?_)
  replace hw : Wd D A s.heap [(h0, .inr (2, [.null, .null, .null, .null, .null, .null, .null, .null, .null, .null])),
    (q1, .inl (ca 1, 432, .inr (.inl (fun _ => 0))))] H _ := hw
  refine r_putF (C := RX3) (T := TX3) (N := 10) (ws' := [(h0, .inr (2, [.null, .ref q1, .null, .null, .null, .null, .null, .null, .null, .null])),
    (q1, .inl (ca 1, 432, .inr (.inl (fun _ => 0))))]) hx hb htg iX3 tyX3 tyX3_ok nmX3 hown hin2 hK hw 0 rfl rfl 1 (by decide) mw275 rfl rfl rfl rfl (Nat.le_of_ble_eq_true rfl) dX3_init_10 rfl (fun H locs hw => ?_)
  refine lv_aload_n hx hb dX3_init_13 rfl (lv_at hl 0 rfl) ?_
  refine lv_sipush (v := (432 : Int32)) hx hb dX3_init_14 (by decide) ?_
  refine r_newa (a0 := (432, .inr (.inl (fun _ => 0)))) (ty := .long) 1 hx hb htg mw179 rfl rfl (fun _ => rfl) hK hw hA (fun _ => rfl) (by decide) (by decide) (by decide) (Nat.le_of_ble_eq_true rfl) (Nat.le_of_ble_eq_true rfl) dX3_init_17 (fun q2 H hw => ?_)
  replace hw : Wd D A s.heap [(h0, .inr (2, [.null, .ref q1, .null, .null, .null, .null, .null, .null, .null, .null])),
    (q1, .inl (ca 1, 432, .inr (.inl (fun _ => 0)))),
    (q2, .inl (ca 1, 432, .inr (.inl (fun _ => 0))))] H _ := hw
  refine r_putF (C := RX3) (T := TX3) (N := 10) (ws' := [(h0, .inr (2, [.null, .ref q1, .ref q2, .null, .null, .null, .null, .null, .null, .null])),
    (q1, .inl (ca 1, 432, .inr (.inl (fun _ => 0)))),
    (q2, .inl (ca 1, 432, .inr (.inl (fun _ => 0))))]) hx hb htg iX3 tyX3 tyX3_ok nmX3 hown hin2 hK hw 0 rfl rfl 2 (by decide) mw276 rfl rfl rfl rfl (Nat.le_of_ble_eq_true rfl) dX3_init_19 rfl (fun H locs hw => ?_)
  refine lv_aload_n hx hb dX3_init_22 rfl (lv_at hl 0 rfl) ?_
  refine lv_bipush (v := (15 : Int32)) hx hb dX3_init_23 (by decide) ?_
  refine r_newa (a0 := (15, .inl (fun _ => 0))) (ty := .int) 0 hx hb htg mw155 rfl rfl (fun _ => rfl) hK hw hA (fun _ => rfl) (by decide) (by decide) (by decide) (Nat.le_of_ble_eq_true rfl) (Nat.le_of_ble_eq_true rfl) dX3_init_25 (fun q3 H hw => ?_)
  replace hw : Wd D A s.heap [(h0, .inr (2, [.null, .ref q1, .ref q2, .null, .null, .null, .null, .null, .null, .null])),
    (q1, .inl (ca 1, 432, .inr (.inl (fun _ => 0)))),
    (q2, .inl (ca 1, 432, .inr (.inl (fun _ => 0)))),
    (q3, .inl (ca 0, 15, .inl (fun _ => 0)))] H _ := hw
  refine r_putF (C := RX3) (T := TX3) (N := 10) (ws' := [(h0, .inr (2, [.null, .ref q1, .ref q2, .ref q3, .null, .null, .null, .null, .null, .null])),
    (q1, .inl (ca 1, 432, .inr (.inl (fun _ => 0)))),
    (q2, .inl (ca 1, 432, .inr (.inl (fun _ => 0)))),
    (q3, .inl (ca 0, 15, .inl (fun _ => 0)))]) hx hb htg iX3 tyX3 tyX3_ok nmX3 hown hin2 hK hw 0 rfl rfl 3 (by decide) mw277 rfl rfl rfl rfl (Nat.le_of_ble_eq_true rfl) dX3_init_27 rfl (fun H locs hw => ?_)
  refine lv_aload_n hx hb dX3_init_30 rfl (lv_at hl 0 rfl) ?_
  refine lv_bipush (v := (15 : Int32)) hx hb dX3_init_31 (by decide) ?_
  refine r_newa (a0 := (15, .inl (fun _ => 0))) (ty := .int) 0 hx hb htg mw155 rfl rfl (fun _ => rfl) hK hw hA (fun _ => rfl) (by decide) (by decide) (by decide) (Nat.le_of_ble_eq_true rfl) (Nat.le_of_ble_eq_true rfl) dX3_init_33 (fun q4 H hw => ?_)
  replace hw : Wd D A s.heap [(h0, .inr (2, [.null, .ref q1, .ref q2, .ref q3, .null, .null, .null, .null, .null, .null])),
    (q1, .inl (ca 1, 432, .inr (.inl (fun _ => 0)))),
    (q2, .inl (ca 1, 432, .inr (.inl (fun _ => 0)))),
    (q3, .inl (ca 0, 15, .inl (fun _ => 0))),
    (q4, .inl (ca 0, 15, .inl (fun _ => 0)))] H _ := hw
  refine r_putF (C := RX3) (T := TX3) (N := 10) (ws' := [(h0, .inr (2, [.null, .ref q1, .ref q2, .ref q3, .ref q4, .null, .null, .null, .null, .null])),
    (q1, .inl (ca 1, 432, .inr (.inl (fun _ => 0)))),
    (q2, .inl (ca 1, 432, .inr (.inl (fun _ => 0)))),
    (q3, .inl (ca 0, 15, .inl (fun _ => 0))),
    (q4, .inl (ca 0, 15, .inl (fun _ => 0)))]) hx hb htg iX3 tyX3 tyX3_ok nmX3 hown hin2 hK hw 0 rfl rfl 4 (by decide) mw278 rfl rfl rfl rfl (Nat.le_of_ble_eq_true rfl) dX3_init_35 rfl (fun H locs hw => ?_)
  refine lv_aload_n hx hb dX3_init_38 rfl (lv_at hl 0 rfl) ?_
  refine lv_iconst (v := (3 : Int32)) hx hb dX3_init_39 (by decide) ?_
  refine r_newa (a0 := (3, .inr (.inl (fun _ => 0)))) (ty := .long) 1 hx hb htg mw179 rfl rfl (fun _ => rfl) hK hw hA (fun _ => rfl) (by decide) (by decide) (by decide) (Nat.le_of_ble_eq_true rfl) (Nat.le_of_ble_eq_true rfl) dX3_init_40 (fun q5 H hw => ?_)
  replace hw : Wd D A s.heap [(h0, .inr (2, [.null, .ref q1, .ref q2, .ref q3, .ref q4, .null, .null, .null, .null, .null])),
    (q1, .inl (ca 1, 432, .inr (.inl (fun _ => 0)))),
    (q2, .inl (ca 1, 432, .inr (.inl (fun _ => 0)))),
    (q3, .inl (ca 0, 15, .inl (fun _ => 0))),
    (q4, .inl (ca 0, 15, .inl (fun _ => 0))),
    (q5, .inl (ca 1, 3, .inr (.inl (fun _ => 0))))] H _ := hw
  refine r_putF (C := RX3) (T := TX3) (N := 10) (ws' := [(h0, .inr (2, [.null, .ref q1, .ref q2, .ref q3, .ref q4, .ref q5, .null, .null, .null, .null])),
    (q1, .inl (ca 1, 432, .inr (.inl (fun _ => 0)))),
    (q2, .inl (ca 1, 432, .inr (.inl (fun _ => 0)))),
    (q3, .inl (ca 0, 15, .inl (fun _ => 0))),
    (q4, .inl (ca 0, 15, .inl (fun _ => 0))),
    (q5, .inl (ca 1, 3, .inr (.inl (fun _ => 0))))]) hx hb htg iX3 tyX3 tyX3_ok nmX3 hown hin2 hK hw 0 rfl rfl 5 (by decide) mw279 rfl rfl rfl rfl (Nat.le_of_ble_eq_true rfl) dX3_init_42 rfl (fun H locs hw => ?_)
  refine lv_aload_n hx hb dX3_init_45 rfl (lv_at hl 0 rfl) ?_
  refine lv_iconst (v := (3 : Int32)) hx hb dX3_init_46 (by decide) ?_
  refine r_newa (a0 := (3, .inr (.inl (fun _ => 0)))) (ty := .long) 1 hx hb htg mw179 rfl rfl (fun _ => rfl) hK hw hA (fun _ => rfl) (by decide) (by decide) (by decide) (Nat.le_of_ble_eq_true rfl) (Nat.le_of_ble_eq_true rfl) dX3_init_47 (fun q6 H hw => ?_)
  replace hw : Wd D A s.heap [(h0, .inr (2, [.null, .ref q1, .ref q2, .ref q3, .ref q4, .ref q5, .null, .null, .null, .null])),
    (q1, .inl (ca 1, 432, .inr (.inl (fun _ => 0)))),
    (q2, .inl (ca 1, 432, .inr (.inl (fun _ => 0)))),
    (q3, .inl (ca 0, 15, .inl (fun _ => 0))),
    (q4, .inl (ca 0, 15, .inl (fun _ => 0))),
    (q5, .inl (ca 1, 3, .inr (.inl (fun _ => 0)))),
    (q6, .inl (ca 1, 3, .inr (.inl (fun _ => 0))))] H _ := hw
  refine r_putF (C := RX3) (T := TX3) (N := 10) (ws' := [(h0, .inr (2, [.null, .ref q1, .ref q2, .ref q3, .ref q4, .ref q5, .ref q6, .null, .null, .null])),
    (q1, .inl (ca 1, 432, .inr (.inl (fun _ => 0)))),
    (q2, .inl (ca 1, 432, .inr (.inl (fun _ => 0)))),
    (q3, .inl (ca 0, 15, .inl (fun _ => 0))),
    (q4, .inl (ca 0, 15, .inl (fun _ => 0))),
    (q5, .inl (ca 1, 3, .inr (.inl (fun _ => 0)))),
    (q6, .inl (ca 1, 3, .inr (.inl (fun _ => 0))))]) hx hb htg iX3 tyX3 tyX3_ok nmX3 hown hin2 hK hw 0 rfl rfl 6 (by decide) mw280 rfl rfl rfl rfl (Nat.le_of_ble_eq_true rfl) dX3_init_49 rfl (fun H locs hw => ?_)
  refine lv_aload_n hx hb dX3_init_52 rfl (lv_at hl 0 rfl) ?_
  refine lv_iconst (v := (3 : Int32)) hx hb dX3_init_53 (by decide) ?_
  refine r_newa (a0 := (3, .inr (.inl (fun _ => 0)))) (ty := .long) 1 hx hb htg mw179 rfl rfl (fun _ => rfl) hK hw hA (fun _ => rfl) (by decide) (by decide) (by decide) (Nat.le_of_ble_eq_true rfl) (Nat.le_of_ble_eq_true rfl) dX3_init_54 (fun q7 H hw => ?_)
  replace hw : Wd D A s.heap [(h0, .inr (2, [.null, .ref q1, .ref q2, .ref q3, .ref q4, .ref q5, .ref q6, .null, .null, .null])),
    (q1, .inl (ca 1, 432, .inr (.inl (fun _ => 0)))),
    (q2, .inl (ca 1, 432, .inr (.inl (fun _ => 0)))),
    (q3, .inl (ca 0, 15, .inl (fun _ => 0))),
    (q4, .inl (ca 0, 15, .inl (fun _ => 0))),
    (q5, .inl (ca 1, 3, .inr (.inl (fun _ => 0)))),
    (q6, .inl (ca 1, 3, .inr (.inl (fun _ => 0)))),
    (q7, .inl (ca 1, 3, .inr (.inl (fun _ => 0))))] H _ := hw
  refine r_putF (C := RX3) (T := TX3) (N := 10) (ws' := [(h0, .inr (2, [.null, .ref q1, .ref q2, .ref q3, .ref q4, .ref q5, .ref q6, .ref q7, .null, .null])),
    (q1, .inl (ca 1, 432, .inr (.inl (fun _ => 0)))),
    (q2, .inl (ca 1, 432, .inr (.inl (fun _ => 0)))),
    (q3, .inl (ca 0, 15, .inl (fun _ => 0))),
    (q4, .inl (ca 0, 15, .inl (fun _ => 0))),
    (q5, .inl (ca 1, 3, .inr (.inl (fun _ => 0)))),
    (q6, .inl (ca 1, 3, .inr (.inl (fun _ => 0)))),
    (q7, .inl (ca 1, 3, .inr (.inl (fun _ => 0))))]) hx hb htg iX3 tyX3 tyX3_ok nmX3 hown hin2 hK hw 0 rfl rfl 7 (by decide) mw281 rfl rfl rfl rfl (Nat.le_of_ble_eq_true rfl) dX3_init_56 rfl (fun H locs hw => ?_)
  refine lv_aload_n hx hb dX3_init_59 rfl (lv_at hl 0 rfl) ?_
  refine lv_iconst (v := (3 : Int32)) hx hb dX3_init_60 (by decide) ?_
  refine r_newa (a0 := (3, .inr (.inl (fun _ => 0)))) (ty := .long) 1 hx hb htg mw179 rfl rfl (fun _ => rfl) hK hw hA (fun _ => rfl) (by decide) (by decide) (by decide) (Nat.le_of_ble_eq_true rfl) (Nat.le_of_ble_eq_true rfl) dX3_init_61 (fun q8 H hw => ?_)
  replace hw : Wd D A s.heap [(h0, .inr (2, [.null, .ref q1, .ref q2, .ref q3, .ref q4, .ref q5, .ref q6, .ref q7, .null, .null])),
    (q1, .inl (ca 1, 432, .inr (.inl (fun _ => 0)))),
    (q2, .inl (ca 1, 432, .inr (.inl (fun _ => 0)))),
    (q3, .inl (ca 0, 15, .inl (fun _ => 0))),
    (q4, .inl (ca 0, 15, .inl (fun _ => 0))),
    (q5, .inl (ca 1, 3, .inr (.inl (fun _ => 0)))),
    (q6, .inl (ca 1, 3, .inr (.inl (fun _ => 0)))),
    (q7, .inl (ca 1, 3, .inr (.inl (fun _ => 0)))),
    (q8, .inl (ca 1, 3, .inr (.inl (fun _ => 0))))] H _ := hw
  refine r_putF (C := RX3) (T := TX3) (N := 10) (ws' := [(h0, .inr (2, [.null, .ref q1, .ref q2, .ref q3, .ref q4, .ref q5, .ref q6, .ref q7, .ref q8, .null])),
    (q1, .inl (ca 1, 432, .inr (.inl (fun _ => 0)))),
    (q2, .inl (ca 1, 432, .inr (.inl (fun _ => 0)))),
    (q3, .inl (ca 0, 15, .inl (fun _ => 0))),
    (q4, .inl (ca 0, 15, .inl (fun _ => 0))),
    (q5, .inl (ca 1, 3, .inr (.inl (fun _ => 0)))),
    (q6, .inl (ca 1, 3, .inr (.inl (fun _ => 0)))),
    (q7, .inl (ca 1, 3, .inr (.inl (fun _ => 0)))),
    (q8, .inl (ca 1, 3, .inr (.inl (fun _ => 0))))]) hx hb htg iX3 tyX3 tyX3_ok nmX3 hown hin2 hK hw 0 rfl rfl 8 (by decide) mw282 rfl rfl rfl rfl (Nat.le_of_ble_eq_true rfl) dX3_init_63 rfl (fun H locs hw => ?_)
  refine lv_aload_n hx hb dX3_init_66 rfl (lv_at hl 0 rfl) ?_
  refine lv_iconst (v := (3 : Int32)) hx hb dX3_init_67 (by decide) ?_
  refine r_newa (a0 := (3, .inr (.inl (fun _ => 0)))) (ty := .long) 1 hx hb htg mw179 rfl rfl (fun _ => rfl) hK hw hA (fun _ => rfl) (by decide) (by decide) (by decide) (Nat.le_of_ble_eq_true rfl) (Nat.le_of_ble_eq_true rfl) dX3_init_68 (fun q9 H hw => ?_)
  replace hw : Wd D A s.heap [(h0, .inr (2, [.null, .ref q1, .ref q2, .ref q3, .ref q4, .ref q5, .ref q6, .ref q7, .ref q8, .null])),
    (q1, .inl (ca 1, 432, .inr (.inl (fun _ => 0)))),
    (q2, .inl (ca 1, 432, .inr (.inl (fun _ => 0)))),
    (q3, .inl (ca 0, 15, .inl (fun _ => 0))),
    (q4, .inl (ca 0, 15, .inl (fun _ => 0))),
    (q5, .inl (ca 1, 3, .inr (.inl (fun _ => 0)))),
    (q6, .inl (ca 1, 3, .inr (.inl (fun _ => 0)))),
    (q7, .inl (ca 1, 3, .inr (.inl (fun _ => 0)))),
    (q8, .inl (ca 1, 3, .inr (.inl (fun _ => 0)))),
    (q9, .inl (ca 1, 3, .inr (.inl (fun _ => 0))))] H _ := hw
  refine r_putF (C := RX3) (T := TX3) (N := 10) (ws' := [(h0, .inr (2, [.null, .ref q1, .ref q2, .ref q3, .ref q4, .ref q5, .ref q6, .ref q7, .ref q8, .ref q9])),
    (q1, .inl (ca 1, 432, .inr (.inl (fun _ => 0)))),
    (q2, .inl (ca 1, 432, .inr (.inl (fun _ => 0)))),
    (q3, .inl (ca 0, 15, .inl (fun _ => 0))),
    (q4, .inl (ca 0, 15, .inl (fun _ => 0))),
    (q5, .inl (ca 1, 3, .inr (.inl (fun _ => 0)))),
    (q6, .inl (ca 1, 3, .inr (.inl (fun _ => 0)))),
    (q7, .inl (ca 1, 3, .inr (.inl (fun _ => 0)))),
    (q8, .inl (ca 1, 3, .inr (.inl (fun _ => 0)))),
    (q9, .inl (ca 1, 3, .inr (.inl (fun _ => 0))))]) hx hb htg iX3 tyX3 tyX3_ok nmX3 hown hin2 hK hw 0 rfl rfl 9 (by decide) mw283 rfl rfl rfl rfl (Nat.le_of_ble_eq_true rfl) dX3_init_70 rfl (fun H locs hw => ?_)
  refine lv_aload_n hx hb dX3_init_73 rfl (lv_at hl 0 rfl) ?_
  refine lv_aload_n hx hb dX3_init_74 rfl (lv_at hl 1 rfl) ?_
  refine r_putF (C := RX3) (T := TX3) (N := 10) (ws' := [(h0, .inr (2, [.ref b1, .ref q1, .ref q2, .ref q3, .ref q4, .ref q5, .ref q6, .ref q7, .ref q8, .ref q9])),
    (q1, .inl (ca 1, 432, .inr (.inl (fun _ => 0)))),
    (q2, .inl (ca 1, 432, .inr (.inl (fun _ => 0)))),
    (q3, .inl (ca 0, 15, .inl (fun _ => 0))),
    (q4, .inl (ca 0, 15, .inl (fun _ => 0))),
    (q5, .inl (ca 1, 3, .inr (.inl (fun _ => 0)))),
    (q6, .inl (ca 1, 3, .inr (.inl (fun _ => 0)))),
    (q7, .inl (ca 1, 3, .inr (.inl (fun _ => 0)))),
    (q8, .inl (ca 1, 3, .inr (.inl (fun _ => 0)))),
    (q9, .inl (ca 1, 3, .inr (.inl (fun _ => 0))))]) hx hb htg iX3 tyX3 tyX3_ok nmX3 hown hin2 hK hw 0 rfl rfl 0 (by decide) mw274 rfl rfl rfl rfl (Nat.le_of_ble_eq_true rfl) dX3_init_75 rfl (fun H locs hw => ?_)
  exact retn (fun i => ([q1, q2, q3, q4, q5, q6, q7, q8, q9] : List Nat).getD i 0) hQ hx hb hr hk dX3_init_78 hw

def rm_n_X2_init : Room := { frames := 1, cells := 4, slots := 17, locals := 30 }
theorem nd_X2_init : yX2_init.cls ≠ "java/lang/invoke/MethodHandle" ∧ yX2_init.cls ≠ "java/lang/invoke/VarHandle" ∧ (parseMethodDescriptor yX2_init.desc).map (fun d => d.parameters.length) = some 2 := by decide +kernel
set_option maxRecDepth 100000 in
set_option maxHeartbeats 8000000 in
theorem n_X2_init (l : Launch) (D : va_G) (ca : Nat → ClassId) (A : Nat → Prop) (h0 : Nat) (b1 : Nat) (b2 : Nat) (hD : va_D A [(h0, .inr (1, [.null, .null, .null, .null, .int 0, .null, .int 0, .int 0, .int 0, .null]))]) : CN l yX2_init cX2_init 3 rm_n_X2_init [.ref h0, .ref b1, .ref b2] D ca A [(h0, .inr (1, [.null, .null, .null, .null, .int 0, .null, .int 0, .int 0, .int 0, .null]))] (fun q => [(h0, .inr (1, [.ref b1, .ref b2, .ref (q 0), .ref (q 1), .int 0, .ref (q 2), .int 0, .int 0, .int 0, .ref (q 3)])),
    ((q 0), .inl (ca 0, 4, .inl (fun _ => 0))),
    ((q 1), .inl (ca 0, 6, .inl (fun _ => 0))),
    ((q 2), .inl (ca 0, 4, .inl (fun _ => 0))),
    ((q 3), .inl (ca 1, 3, .inr (.inl (fun _ => 0))))]) 4 17 := by
  refine CN_of (by decide) rfl (Nat.le_of_ble_eq_true rfl) hD ?_
  intro p e s m args below meth c ls Q hx hb hml hown htg hw hK hN hA hl hQ hr hk hin2
  replace hown : s.vm.findClass "LampSheets$Search" = some m.cls := hown
  replace hl : lv_has ls 3 [(0, .ref h0), (1, .ref b1), (2, .ref b2)] := hl
  refine lv_aload_n hx hb dX2_init_0 rfl (lv_at hl 0 rfl) ?_
  refine r_obj hx hb hml hl.1 hown htg mw311 mw109 mw110 dX2_init_1 (Nat.le_of_ble_eq_true rfl) (Nat.le_of_ble_eq_true rfl) ?_
  refine lv_aload_n hx hb dX2_init_4 rfl (lv_at hl 0 rfl) ?_
  refine lv_iconst (v := (4 : Int32)) hx hb dX2_init_5 (by decide) ?_
  refine r_newa (a0 := (4, .inl (fun _ => 0))) (ty := .int) 0 hx hb htg mw155 rfl rfl (fun _ => rfl) hK hw hA (fun _ => rfl) (by decide) (by decide) (by decide) (Nat.le_of_ble_eq_true rfl) (Nat.le_of_ble_eq_true rfl) dX2_init_6 (fun q1 H hw => ?_)
  replace hw : Wd D A s.heap [(h0, .inr (1, [.null, .null, .null, .null, .int 0, .null, .int 0, .int 0, .int 0, .null])),
    (q1, .inl (ca 0, 4, .inl (fun _ => 0)))] H _ := hw
  refine r_putF (C := RX2) (T := TX2) (N := 10) (ws' := [(h0, .inr (1, [.null, .null, .ref q1, .null, .int 0, .null, .int 0, .int 0, .int 0, .null])),
    (q1, .inl (ca 0, 4, .inl (fun _ => 0)))]) hx hb htg iX2 tyX2 tyX2_ok nmX2 hown hin2 hK hw 0 rfl rfl 2 (by decide) mw314 rfl rfl rfl rfl (Nat.le_of_ble_eq_true rfl) dX2_init_8 rfl (fun H locs hw => ?_)
  refine lv_aload_n hx hb dX2_init_11 rfl (lv_at hl 0 rfl) ?_
  refine lv_bipush (v := (6 : Int32)) hx hb dX2_init_12 (by decide) ?_
  refine r_newa (a0 := (6, .inl (fun _ => 0))) (ty := .int) 0 hx hb htg mw155 rfl rfl (fun _ => rfl) hK hw hA (fun _ => rfl) (by decide) (by decide) (by decide) (Nat.le_of_ble_eq_true rfl) (Nat.le_of_ble_eq_true rfl) dX2_init_14 (fun q2 H hw => ?_)
  replace hw : Wd D A s.heap [(h0, .inr (1, [.null, .null, .ref q1, .null, .int 0, .null, .int 0, .int 0, .int 0, .null])),
    (q1, .inl (ca 0, 4, .inl (fun _ => 0))),
    (q2, .inl (ca 0, 6, .inl (fun _ => 0)))] H _ := hw
  refine r_putF (C := RX2) (T := TX2) (N := 10) (ws' := [(h0, .inr (1, [.null, .null, .ref q1, .ref q2, .int 0, .null, .int 0, .int 0, .int 0, .null])),
    (q1, .inl (ca 0, 4, .inl (fun _ => 0))),
    (q2, .inl (ca 0, 6, .inl (fun _ => 0)))]) hx hb htg iX2 tyX2 tyX2_ok nmX2 hown hin2 hK hw 0 rfl rfl 3 (by decide) mw315 rfl rfl rfl rfl (Nat.le_of_ble_eq_true rfl) dX2_init_16 rfl (fun H locs hw => ?_)
  refine lv_aload_n hx hb dX2_init_19 rfl (lv_at hl 0 rfl) ?_
  refine lv_iconst (v := (0 : Int32)) hx hb dX2_init_20 (by decide) ?_
  refine r_put (C := RX2) (T := TX2) (N := 10) (ws' := [(h0, .inr (1, [.null, .null, .ref q1, .ref q2, .int 0, .null, .int 0, .int 0, .int 0, .null])),
    (q1, .inl (ca 0, 4, .inl (fun _ => 0))),
    (q2, .inl (ca 0, 6, .inl (fun _ => 0)))]) hx hb htg iX2 tyX2 tyX2_ok nmX2 hown hK hw 0 rfl rfl 4 (by decide) mw316 rfl rfl rfl (Nat.le_of_ble_eq_true rfl) dX2_init_21 rfl (fun H locs hw => ?_)
  refine lv_aload_n hx hb dX2_init_24 rfl (lv_at hl 0 rfl) ?_
  refine lv_iconst (v := (4 : Int32)) hx hb dX2_init_25 (by decide) ?_
  refine r_newa (a0 := (4, .inl (fun _ => 0))) (ty := .int) 0 hx hb htg mw155 rfl rfl (fun _ => rfl) hK hw hA (fun _ => rfl) (by decide) (by decide) (by decide) (Nat.le_of_ble_eq_true rfl) (Nat.le_of_ble_eq_true rfl) dX2_init_26 (fun q3 H hw => ?_)
  replace hw : Wd D A s.heap [(h0, .inr (1, [.null, .null, .ref q1, .ref q2, .int 0, .null, .int 0, .int 0, .int 0, .null])),
    (q1, .inl (ca 0, 4, .inl (fun _ => 0))),
    (q2, .inl (ca 0, 6, .inl (fun _ => 0))),
    (q3, .inl (ca 0, 4, .inl (fun _ => 0)))] H _ := hw
  refine r_putF (C := RX2) (T := TX2) (N := 10) (ws' := [(h0, .inr (1, [.null, .null, .ref q1, .ref q2, .int 0, .ref q3, .int 0, .int 0, .int 0, .null])),
    (q1, .inl (ca 0, 4, .inl (fun _ => 0))),
    (q2, .inl (ca 0, 6, .inl (fun _ => 0))),
    (q3, .inl (ca 0, 4, .inl (fun _ => 0)))]) hx hb htg iX2 tyX2 tyX2_ok nmX2 hown hin2 hK hw 0 rfl rfl 5 (by decide) mw317 rfl rfl rfl rfl (Nat.le_of_ble_eq_true rfl) dX2_init_28 rfl (fun H locs hw => ?_)
  refine lv_aload_n hx hb dX2_init_31 rfl (lv_at hl 0 rfl) ?_
  refine lv_iconst (v := (3 : Int32)) hx hb dX2_init_32 (by decide) ?_
  refine r_newa (a0 := (3, .inr (.inl (fun _ => 0)))) (ty := .long) 1 hx hb htg mw179 rfl rfl (fun _ => rfl) hK hw hA (fun _ => rfl) (by decide) (by decide) (by decide) (Nat.le_of_ble_eq_true rfl) (Nat.le_of_ble_eq_true rfl) dX2_init_33 (fun q4 H hw => ?_)
  replace hw : Wd D A s.heap [(h0, .inr (1, [.null, .null, .ref q1, .ref q2, .int 0, .ref q3, .int 0, .int 0, .int 0, .null])),
    (q1, .inl (ca 0, 4, .inl (fun _ => 0))),
    (q2, .inl (ca 0, 6, .inl (fun _ => 0))),
    (q3, .inl (ca 0, 4, .inl (fun _ => 0))),
    (q4, .inl (ca 1, 3, .inr (.inl (fun _ => 0))))] H _ := hw
  refine r_putF (C := RX2) (T := TX2) (N := 10) (ws' := [(h0, .inr (1, [.null, .null, .ref q1, .ref q2, .int 0, .ref q3, .int 0, .int 0, .int 0, .ref q4])),
    (q1, .inl (ca 0, 4, .inl (fun _ => 0))),
    (q2, .inl (ca 0, 6, .inl (fun _ => 0))),
    (q3, .inl (ca 0, 4, .inl (fun _ => 0))),
    (q4, .inl (ca 1, 3, .inr (.inl (fun _ => 0))))]) hx hb htg iX2 tyX2 tyX2_ok nmX2 hown hin2 hK hw 0 rfl rfl 9 (by decide) mw324 rfl rfl rfl rfl (Nat.le_of_ble_eq_true rfl) dX2_init_35 rfl (fun H locs hw => ?_)
  refine lv_aload_n hx hb dX2_init_38 rfl (lv_at hl 0 rfl) ?_
  refine lv_aload_n hx hb dX2_init_39 rfl (lv_at hl 1 rfl) ?_
  refine r_putF (C := RX2) (T := TX2) (N := 10) (ws' := [(h0, .inr (1, [.ref b1, .null, .ref q1, .ref q2, .int 0, .ref q3, .int 0, .int 0, .int 0, .ref q4])),
    (q1, .inl (ca 0, 4, .inl (fun _ => 0))),
    (q2, .inl (ca 0, 6, .inl (fun _ => 0))),
    (q3, .inl (ca 0, 4, .inl (fun _ => 0))),
    (q4, .inl (ca 1, 3, .inr (.inl (fun _ => 0))))]) hx hb htg iX2 tyX2 tyX2_ok nmX2 hown hin2 hK hw 0 rfl rfl 0 (by decide) mw312 rfl rfl rfl rfl (Nat.le_of_ble_eq_true rfl) dX2_init_40 rfl (fun H locs hw => ?_)
  refine lv_aload_n hx hb dX2_init_43 rfl (lv_at hl 0 rfl) ?_
  refine lv_aload_n hx hb dX2_init_44 rfl (lv_at hl 2 rfl) ?_
  refine r_putF (C := RX2) (T := TX2) (N := 10) (ws' := [(h0, .inr (1, [.ref b1, .ref b2, .ref q1, .ref q2, .int 0, .ref q3, .int 0, .int 0, .int 0, .ref q4])),
    (q1, .inl (ca 0, 4, .inl (fun _ => 0))),
    (q2, .inl (ca 0, 6, .inl (fun _ => 0))),
    (q3, .inl (ca 0, 4, .inl (fun _ => 0))),
    (q4, .inl (ca 1, 3, .inr (.inl (fun _ => 0))))]) hx hb htg iX2 tyX2 tyX2_ok nmX2 hown hin2 hK hw 0 rfl rfl 1 (by decide) mw313 rfl rfl rfl rfl (Nat.le_of_ble_eq_true rfl) dX2_init_45 rfl (fun H locs hw => ?_)
  exact retn (fun i => ([q1, q2, q3, q4] : List Nat).getD i 0) hQ hx hb hr hk dX2_init_48 hw

def rm_n_X6_init : Room := { frames := 1, cells := 2, slots := 1088, locals := 30 }
theorem nd_X6_init : yX6_init.cls ≠ "java/lang/invoke/MethodHandle" ∧ yX6_init.cls ≠ "java/lang/invoke/VarHandle" ∧ (parseMethodDescriptor yX6_init.desc).map (fun d => d.parameters.length) = some 0 := by decide +kernel
set_option maxRecDepth 100000 in
set_option maxHeartbeats 8000000 in
theorem n_X6_init (l : Launch) (D : va_G) (ca : Nat → ClassId) (A : Nat → Prop) (h0 : Nat) (hD : va_D A [(h0, .inr (5, [.null, .null, .int 0]))]) : CN l yX6_init cX6_init 1 rm_n_X6_init [.ref h0] D ca A [(h0, .inr (5, [.null, .null, .int 0]))] (fun q => [(h0, .inr (5, [.ref (q 0), .ref (q 1), .int 0])),
    ((q 0), .inl (ca 0, 1024, .inl (fun _ => 0))),
    ((q 1), .inl (ca 0, 64, .inl (fun _ => 0)))]) 2 1088 := by
  refine CN_of (by decide) rfl (Nat.le_of_ble_eq_true rfl) hD ?_
  intro p e s m args below meth c ls Q hx hb hml hown htg hw hK hN hA hl hQ hr hk hin2
  replace hown : s.vm.findClass "LampSheets$Tour" = some m.cls := hown
  replace hl : lv_has ls 1 [(0, .ref h0)] := hl
  refine lv_aload_n hx hb dX6_init_0 rfl (lv_at hl 0 rfl) ?_
  refine r_obj hx hb hml hl.1 hown htg mw351 mw109 mw110 dX6_init_1 (Nat.le_of_ble_eq_true rfl) (Nat.le_of_ble_eq_true rfl) ?_
  refine lv_aload_n hx hb dX6_init_4 rfl (lv_at hl 0 rfl) ?_
  refine lv_sipush (v := (1024 : Int32)) hx hb dX6_init_5 (by decide) ?_
  refine r_newa (a0 := (1024, .inl (fun _ => 0))) (ty := .int) 0 hx hb htg mw155 rfl rfl (fun _ => rfl) hK hw hA (fun _ => rfl) (by decide) (by decide) (by decide) (Nat.le_of_ble_eq_true rfl) (Nat.le_of_ble_eq_true rfl) dX6_init_8 (fun q1 H hw => ?_)
  replace hw : Wd D A s.heap [(h0, .inr (5, [.null, .null, .int 0])),
    (q1, .inl (ca 0, 1024, .inl (fun _ => 0)))] H _ := hw
  refine r_putF (C := RX6) (T := TX6) (N := 3) (ws' := [(h0, .inr (5, [.ref q1, .null, .int 0])),
    (q1, .inl (ca 0, 1024, .inl (fun _ => 0)))]) hx hb htg iX6 tyX6 tyX6_ok nmX6 hown hin2 hK hw 0 rfl rfl 0 (by decide) mw352 rfl rfl rfl rfl (Nat.le_of_ble_eq_true rfl) dX6_init_10 rfl (fun H locs hw => ?_)
  refine lv_aload_n hx hb dX6_init_13 rfl (lv_at hl 0 rfl) ?_
  refine lv_bipush (v := (64 : Int32)) hx hb dX6_init_14 (by decide) ?_
  refine r_newa (a0 := (64, .inl (fun _ => 0))) (ty := .int) 0 hx hb htg mw155 rfl rfl (fun _ => rfl) hK hw hA (fun _ => rfl) (by decide) (by decide) (by decide) (Nat.le_of_ble_eq_true rfl) (Nat.le_of_ble_eq_true rfl) dX6_init_16 (fun q2 H hw => ?_)
  replace hw : Wd D A s.heap [(h0, .inr (5, [.ref q1, .null, .int 0])),
    (q1, .inl (ca 0, 1024, .inl (fun _ => 0))),
    (q2, .inl (ca 0, 64, .inl (fun _ => 0)))] H _ := hw
  refine r_putF (C := RX6) (T := TX6) (N := 3) (ws' := [(h0, .inr (5, [.ref q1, .ref q2, .int 0])),
    (q1, .inl (ca 0, 1024, .inl (fun _ => 0))),
    (q2, .inl (ca 0, 64, .inl (fun _ => 0)))]) hx hb htg iX6 tyX6 tyX6_ok nmX6 hown hin2 hK hw 0 rfl rfl 1 (by decide) mw353 rfl rfl rfl rfl (Nat.le_of_ble_eq_true rfl) dX6_init_18 rfl (fun H locs hw => ?_)
  refine lv_aload_n hx hb dX6_init_21 rfl (lv_at hl 0 rfl) ?_
  refine lv_iconst (v := (0 : Int32)) hx hb dX6_init_22 (by decide) ?_
  refine r_put (C := RX6) (T := TX6) (N := 3) (ws' := [(h0, .inr (5, [.ref q1, .ref q2, .int 0])),
    (q1, .inl (ca 0, 1024, .inl (fun _ => 0))),
    (q2, .inl (ca 0, 64, .inl (fun _ => 0)))]) hx hb htg iX6 tyX6 tyX6_ok nmX6 hown hK hw 0 rfl rfl 2 (by decide) mw354 rfl rfl rfl (Nat.le_of_ble_eq_true rfl) dX6_init_23 rfl (fun H locs hw => ?_)
  exact retn (fun i => ([q1, q2] : List Nat).getD i 0) hQ hx hb hr hk dX6_init_26 hw

def rm_n_X7_init : Room := { frames := 3, cells := 51, slots := 3043, locals := 71 }
theorem nd_X7_init : yX7_init.cls ≠ "java/lang/invoke/MethodHandle" ∧ yX7_init.cls ≠ "java/lang/invoke/VarHandle" ∧ (parseMethodDescriptor yX7_init.desc).map (fun d => d.parameters.length) = some 0 := by decide +kernel
set_option maxRecDepth 100000 in
set_option maxHeartbeats 8000000 in
theorem n_X7_init (l : Launch) (D : va_G) (ca : Nat → ClassId) (A : Nat → Prop) (h0 : Nat) (hD : va_D A [(h0, .inr (6, [.null, .null, .null, .null, .null, .null, .int 0]))]) : CN l yX7_init cX7_init 1 rm_n_X7_init [.ref h0] D ca A [(h0, .inr (6, [.null, .null, .null, .null, .null, .null, .int 0]))] (fun q => (wC ca (hd0 h0 q) 0 (fun _ => 0) 0 (-1) (fun _ => 0) 0 0 0 0 0 0 0 (fun _ => 0) (fun _ => 0) (fun _ => 0) (fun _ => 0) 0 (fun _ => 0) (fun _ => 0) (fun _ => 0) (upd (upd (upd (upd (fun _ => 0) 0 (-1)) 1 (-1)) 2 (-1)) 3 (-1)) 0 (fun _ => 0) 0 (fun _ => 0) 0 (fun _ => 0) 0 2 0 (fun _ => 0) (fun _ => 0) (fun _ => 0) (fun _ => 0) 0 (fun _ => 0) (fun _ => 0) (fun _ => 0) (upd (upd (upd (upd (fun _ => 0) 0 (-1)) 1 (-1)) 2 (-1)) 3 (-1)) 0 (fun _ => 0) 0 (fun _ => 0) 0 (fun _ => 0) 0 2 (fun _ => 0) (fun _ => 0) (fun _ => 0) (fun _ => 0) (fun _ => 0) (fun _ => 0) (fun _ => 0) (fun _ => 0) (fun _ => 0) (fun _ => 0) (fun _ => 0) 0 (fun _ => 0) 0 0 0 (fun _ => 0) (fun _ => 0) (fun _ => 0) 0 0 (fun _ => 0) (fun _ => 0) 0 (fun _ => 0) (fun _ => 0))) 51 3043 := by
  refine CN_of (by decide) rfl (Nat.le_of_ble_eq_true rfl) hD ?_
  intro p e s m args below meth c ls Q hx hb hml hown htg hw hK hN hA hl hQ hr hk hin2
  replace hown : s.vm.findClass "LampSheets" = some m.cls := hown
  replace hl : lv_has ls 1 [(0, .ref h0)] := hl
  refine lv_aload_n hx hb dX7_init_0 rfl (lv_at hl 0 rfl) ?_
  refine r_obj hx hb hml hl.1 hown htg mw108 mw109 mw110 dX7_init_1 (Nat.le_of_ble_eq_true rfl) (Nat.le_of_ble_eq_true rfl) ?_
  refine lv_aload_n hx hb dX7_init_4 rfl (lv_at hl 0 rfl) ?_
  refine r_new (C := RX5) (T := TX5) (N := 10) (ci := 4) (fs := [.null, .int 0, .int 0, .null, .int 0, .int 0, .int 0, .int 0, .int 0, .int 0]) hx hb htg iX5 tyX5 tyX5_ok hown mw111 mw112 mw80 hK hw hA rfl (by decide +kernel) (Nat.le_of_ble_eq_true rfl) (Nat.le_of_ble_eq_true rfl) dX7_init_5 (fun q1 H hw => ?_)
  replace hw : Wd D A s.heap [(h0, .inr (6, [.null, .null, .null, .null, .null, .null, .int 0])),
    (q1, .inr (4, [.null, .int 0, .int 0, .null, .int 0, .int 0, .int 0, .int 0, .int 0, .int 0]))] H _ := hw
  refine lv_dup hx hb dX7_init_8 rfl ?_
  refine k_NN (av := []) (rest := [.ref q1, .ref h0]) (wc := [(q1, .inr (4, [.null, .int 0, .int 0, .null, .int 0, .int 0, .int 0, .int 0, .int 0, .int 0]))]) (wr := [(h0, .inr (6, [.null, .null, .null, .null, .null, .null, .int 0]))]) ⟨hx, hb, hml, hown, htg⟩ [1] [0] rfl rfl rfl rfl (by decide) (fun hD9 => n_X5_init l D ca _ q1 hD9) mw115 hN.1 mw80 mw114 rfl nd_X5_init ⟨Nat.le_of_ble_eq_true rfl, Nat.le_of_ble_eq_true rfl⟩ rfl rfl hK hN hw hA hl.1 rfl (Nat.le_of_ble_eq_true rfl) dX7_init_9 ⟨Nat.le_of_ble_eq_true rfl, Nat.le_of_ble_eq_true rfl⟩ (fun z2 H locs hw => ?_)
  replace hw : Wd D A s.heap [(h0, .inr (6, [.null, .null, .null, .null, .null, .null, .int 0])),
    (q1, .inr (4, [.ref (z2 0), .int 0, .int (-1), .ref (z2 1), .int 0, .int 0, .int 0, .int 0, .int 0, .int 0])),
    ((z2 0), .inl (ca 0, 400, .inl (fun _ => 0))),
    ((z2 1), .inl (ca 0, 100, .inl (fun _ => 0)))] H _ := hw
  refine r_putF (C := RX7) (T := TX7) (N := 7) (ws' := [(h0, .inr (6, [.ref q1, .null, .null, .null, .null, .null, .int 0])),
    (q1, .inr (4, [.ref (z2 0), .int 0, .int (-1), .ref (z2 1), .int 0, .int 0, .int 0, .int 0, .int 0, .int 0])),
    ((z2 0), .inl (ca 0, 400, .inl (fun _ => 0))),
    ((z2 1), .inl (ca 0, 100, .inl (fun _ => 0)))]) hx hb htg iX7 tyX7 tyX7_ok nmX7 hown hin2 hK hw 0 rfl rfl 0 (by decide) mw362 rfl rfl rfl rfl (Nat.le_of_ble_eq_true rfl) dX7_init_12 rfl (fun H locs hw => ?_)
  refine lv_aload_n hx hb dX7_init_15 rfl (lv_at hl 0 rfl) ?_
  refine r_new (C := RX4) (T := TX4) (N := 19) (ci := 3) (fs := [.int 0, .null, .null, .null, .null, .int 0, .null, .null, .null, .null, .int 0, .null, .null, .int 0, .null, .int 0, .null, .int 0, .int 0]) hx hb htg iX4 tyX4 tyX4_ok hown mw156 mw157 mw81 hK hw hA rfl (by decide +kernel) (Nat.le_of_ble_eq_true rfl) (Nat.le_of_ble_eq_true rfl) dX7_init_16 (fun q3 H hw => ?_)
  replace hw : Wd D A s.heap [(h0, .inr (6, [.ref q1, .null, .null, .null, .null, .null, .int 0])),
    (q1, .inr (4, [.ref (z2 0), .int 0, .int (-1), .ref (z2 1), .int 0, .int 0, .int 0, .int 0, .int 0, .int 0])),
    ((z2 0), .inl (ca 0, 400, .inl (fun _ => 0))),
    ((z2 1), .inl (ca 0, 100, .inl (fun _ => 0))),
    (q3, .inr (3, [.int 0, .null, .null, .null, .null, .int 0, .null, .null, .null, .null, .int 0, .null, .null, .int 0, .null, .int 0, .null, .int 0, .int 0]))] H _ := hw
  refine lv_dup hx hb dX7_init_19 rfl ?_
  refine k_N (av := []) (rest := [.ref q3, .ref h0]) (wc := [(q3, .inr (3, [.int 0, .null, .null, .null, .null, .int 0, .null, .null, .null, .null, .int 0, .null, .null, .int 0, .null, .int 0, .null, .int 0, .int 0]))]) (wr := [(h0, .inr (6, [.ref q1, .null, .null, .null, .null, .null, .int 0])),
    (q1, .inr (4, [.ref (z2 0), .int 0, .int (-1), .ref (z2 1), .int 0, .int 0, .int 0, .int 0, .int 0, .int 0])),
    ((z2 0), .inl (ca 0, 400, .inl (fun _ => 0))),
    ((z2 1), .inl (ca 0, 100, .inl (fun _ => 0)))]) ⟨hx, hb, hml, hown, htg⟩ [4] [0, 1, 2, 3] rfl rfl rfl rfl (by decide) (fun hD9 => n_X4_init l D ca _ q3 hD9) mw160 mw158 mw81 mw159 rfl nd_X4_init ⟨Nat.le_of_ble_eq_true rfl, Nat.le_of_ble_eq_true rfl⟩ rfl rfl hK hN hw hA hl.1 rfl (Nat.le_of_ble_eq_true rfl) dX7_init_20 ⟨Nat.le_of_ble_eq_true rfl, Nat.le_of_ble_eq_true rfl⟩ (fun z4 H locs hw => ?_)
  replace hw : Wd D A s.heap [(h0, .inr (6, [.ref q1, .null, .null, .null, .null, .null, .int 0])),
    (q1, .inr (4, [.ref (z2 0), .int 0, .int (-1), .ref (z2 1), .int 0, .int 0, .int 0, .int 0, .int 0, .int 0])),
    ((z2 0), .inl (ca 0, 400, .inl (fun _ => 0))),
    ((z2 1), .inl (ca 0, 100, .inl (fun _ => 0))),
    (q3, .inr (3, [.int 0, .ref (z4 0), .ref (z4 1), .ref (z4 2), .ref (z4 3), .int 0, .ref (z4 4), .ref (z4 5), .ref (z4 6), .ref (z4 7), .int 0, .ref (z4 8), .ref (z4 9), .int 0, .ref (z4 12), .int 0, .ref (z4 13), .int 0, .int 2])),
    ((z4 0), .inl (ca 0, 6, .inl (fun _ => 0))),
    ((z4 1), .inl (ca 0, 6, .inl (fun _ => 0))),
    ((z4 2), .inl (ca 0, 6, .inl (fun _ => 0))),
    ((z4 3), .inl (ca 0, 6, .inl (fun _ => 0))),
    ((z4 4), .inl (ca 0, 4, .inl (fun _ => 0))),
    ((z4 5), .inl (ca 0, 4, .inl (fun _ => 0))),
    ((z4 6), .inl (ca 0, 4, .inl (fun _ => 0))),
    ((z4 7), .inl (ca 0, 4, .inl (upd (upd (upd (upd (fun _ => 0) 0 (-1)) 1 (-1)) 2 (-1)) 3 (-1)))),
    ((z4 8), .inl (ca 1, 54, .inr (.inl (fun _ => 0)))),
    ((z4 9), .inr (0, [.int 0, .ref (z4 10), .ref (z4 11)])),
    ((z4 10), .inl (ca 0, 60, .inl (fun _ => 0))),
    ((z4 11), .inl (ca 0, 6, .inl (fun _ => 0))),
    ((z4 12), .inl (ca 0, 48, .inl (fun _ => 0))),
    ((z4 13), .inl (ca 0, 18, .inl (fun _ => 0)))] H _ := hw
  refine r_putF (C := RX7) (T := TX7) (N := 7) (ws' := [(h0, .inr (6, [.ref q1, .ref q3, .null, .null, .null, .null, .int 0])),
    (q1, .inr (4, [.ref (z2 0), .int 0, .int (-1), .ref (z2 1), .int 0, .int 0, .int 0, .int 0, .int 0, .int 0])),
    ((z2 0), .inl (ca 0, 400, .inl (fun _ => 0))),
    ((z2 1), .inl (ca 0, 100, .inl (fun _ => 0))),
    (q3, .inr (3, [.int 0, .ref (z4 0), .ref (z4 1), .ref (z4 2), .ref (z4 3), .int 0, .ref (z4 4), .ref (z4 5), .ref (z4 6), .ref (z4 7), .int 0, .ref (z4 8), .ref (z4 9), .int 0, .ref (z4 12), .int 0, .ref (z4 13), .int 0, .int 2])),
    ((z4 0), .inl (ca 0, 6, .inl (fun _ => 0))),
    ((z4 1), .inl (ca 0, 6, .inl (fun _ => 0))),
    ((z4 2), .inl (ca 0, 6, .inl (fun _ => 0))),
    ((z4 3), .inl (ca 0, 6, .inl (fun _ => 0))),
    ((z4 4), .inl (ca 0, 4, .inl (fun _ => 0))),
    ((z4 5), .inl (ca 0, 4, .inl (fun _ => 0))),
    ((z4 6), .inl (ca 0, 4, .inl (fun _ => 0))),
    ((z4 7), .inl (ca 0, 4, .inl (upd (upd (upd (upd (fun _ => 0) 0 (-1)) 1 (-1)) 2 (-1)) 3 (-1)))),
    ((z4 8), .inl (ca 1, 54, .inr (.inl (fun _ => 0)))),
    ((z4 9), .inr (0, [.int 0, .ref (z4 10), .ref (z4 11)])),
    ((z4 10), .inl (ca 0, 60, .inl (fun _ => 0))),
    ((z4 11), .inl (ca 0, 6, .inl (fun _ => 0))),
    ((z4 12), .inl (ca 0, 48, .inl (fun _ => 0))),
    ((z4 13), .inl (ca 0, 18, .inl (fun _ => 0)))]) hx hb htg iX7 tyX7 tyX7_ok nmX7 hown hin2 hK hw 0 rfl rfl 1 (by decide) mw363 rfl rfl rfl rfl (Nat.le_of_ble_eq_true rfl) dX7_init_23 rfl (fun H locs hw => ?_)
  refine lv_aload_n hx hb dX7_init_26 rfl (lv_at hl 0 rfl) ?_
  refine r_new (C := RX4) (T := TX4) (N := 19) (ci := 3) (fs := [.int 0, .null, .null, .null, .null, .int 0, .null, .null, .null, .null, .int 0, .null, .null, .int 0, .null, .int 0, .null, .int 0, .int 0]) hx hb htg iX4 tyX4 tyX4_ok hown mw156 mw157 mw81 hK hw hA rfl (by decide +kernel) (Nat.le_of_ble_eq_true rfl) (Nat.le_of_ble_eq_true rfl) dX7_init_27 (fun q5 H hw => ?_)
  replace hw : Wd D A s.heap [(h0, .inr (6, [.ref q1, .ref q3, .null, .null, .null, .null, .int 0])),
    (q1, .inr (4, [.ref (z2 0), .int 0, .int (-1), .ref (z2 1), .int 0, .int 0, .int 0, .int 0, .int 0, .int 0])),
    ((z2 0), .inl (ca 0, 400, .inl (fun _ => 0))),
    ((z2 1), .inl (ca 0, 100, .inl (fun _ => 0))),
    (q3, .inr (3, [.int 0, .ref (z4 0), .ref (z4 1), .ref (z4 2), .ref (z4 3), .int 0, .ref (z4 4), .ref (z4 5), .ref (z4 6), .ref (z4 7), .int 0, .ref (z4 8), .ref (z4 9), .int 0, .ref (z4 12), .int 0, .ref (z4 13), .int 0, .int 2])),
    ((z4 0), .inl (ca 0, 6, .inl (fun _ => 0))),
    ((z4 1), .inl (ca 0, 6, .inl (fun _ => 0))),
    ((z4 2), .inl (ca 0, 6, .inl (fun _ => 0))),
    ((z4 3), .inl (ca 0, 6, .inl (fun _ => 0))),
    ((z4 4), .inl (ca 0, 4, .inl (fun _ => 0))),
    ((z4 5), .inl (ca 0, 4, .inl (fun _ => 0))),
    ((z4 6), .inl (ca 0, 4, .inl (fun _ => 0))),
    ((z4 7), .inl (ca 0, 4, .inl (upd (upd (upd (upd (fun _ => 0) 0 (-1)) 1 (-1)) 2 (-1)) 3 (-1)))),
    ((z4 8), .inl (ca 1, 54, .inr (.inl (fun _ => 0)))),
    ((z4 9), .inr (0, [.int 0, .ref (z4 10), .ref (z4 11)])),
    ((z4 10), .inl (ca 0, 60, .inl (fun _ => 0))),
    ((z4 11), .inl (ca 0, 6, .inl (fun _ => 0))),
    ((z4 12), .inl (ca 0, 48, .inl (fun _ => 0))),
    ((z4 13), .inl (ca 0, 18, .inl (fun _ => 0))),
    (q5, .inr (3, [.int 0, .null, .null, .null, .null, .int 0, .null, .null, .null, .null, .int 0, .null, .null, .int 0, .null, .int 0, .null, .int 0, .int 0]))] H _ := hw
  refine lv_dup hx hb dX7_init_30 rfl ?_
  refine k_N (av := []) (rest := [.ref q5, .ref h0]) (wc := [(q5, .inr (3, [.int 0, .null, .null, .null, .null, .int 0, .null, .null, .null, .null, .int 0, .null, .null, .int 0, .null, .int 0, .null, .int 0, .int 0]))]) (wr := [(h0, .inr (6, [.ref q1, .ref q3, .null, .null, .null, .null, .int 0])),
    (q1, .inr (4, [.ref (z2 0), .int 0, .int (-1), .ref (z2 1), .int 0, .int 0, .int 0, .int 0, .int 0, .int 0])),
    ((z2 0), .inl (ca 0, 400, .inl (fun _ => 0))),
    ((z2 1), .inl (ca 0, 100, .inl (fun _ => 0))),
    (q3, .inr (3, [.int 0, .ref (z4 0), .ref (z4 1), .ref (z4 2), .ref (z4 3), .int 0, .ref (z4 4), .ref (z4 5), .ref (z4 6), .ref (z4 7), .int 0, .ref (z4 8), .ref (z4 9), .int 0, .ref (z4 12), .int 0, .ref (z4 13), .int 0, .int 2])),
    ((z4 0), .inl (ca 0, 6, .inl (fun _ => 0))),
    ((z4 1), .inl (ca 0, 6, .inl (fun _ => 0))),
    ((z4 2), .inl (ca 0, 6, .inl (fun _ => 0))),
    ((z4 3), .inl (ca 0, 6, .inl (fun _ => 0))),
    ((z4 4), .inl (ca 0, 4, .inl (fun _ => 0))),
    ((z4 5), .inl (ca 0, 4, .inl (fun _ => 0))),
    ((z4 6), .inl (ca 0, 4, .inl (fun _ => 0))),
    ((z4 7), .inl (ca 0, 4, .inl (upd (upd (upd (upd (fun _ => 0) 0 (-1)) 1 (-1)) 2 (-1)) 3 (-1)))),
    ((z4 8), .inl (ca 1, 54, .inr (.inl (fun _ => 0)))),
    ((z4 9), .inr (0, [.int 0, .ref (z4 10), .ref (z4 11)])),
    ((z4 10), .inl (ca 0, 60, .inl (fun _ => 0))),
    ((z4 11), .inl (ca 0, 6, .inl (fun _ => 0))),
    ((z4 12), .inl (ca 0, 48, .inl (fun _ => 0))),
    ((z4 13), .inl (ca 0, 18, .inl (fun _ => 0)))]) ⟨hx, hb, hml, hown, htg⟩ [19] [0, 1, 2, 3, 4, 5, 6, 7, 8, 9, 10, 11, 12, 13, 14, 15, 16, 17, 18] rfl rfl rfl rfl (by decide) (fun hD9 => n_X4_init l D ca _ q5 hD9) mw160 mw158 mw81 mw159 rfl nd_X4_init ⟨Nat.le_of_ble_eq_true rfl, Nat.le_of_ble_eq_true rfl⟩ rfl rfl hK hN hw hA hl.1 rfl (Nat.le_of_ble_eq_true rfl) dX7_init_31 ⟨Nat.le_of_ble_eq_true rfl, Nat.le_of_ble_eq_true rfl⟩ (fun z6 H locs hw => ?_)
  replace hw : Wd D A s.heap [(h0, .inr (6, [.ref q1, .ref q3, .null, .null, .null, .null, .int 0])),
    (q1, .inr (4, [.ref (z2 0), .int 0, .int (-1), .ref (z2 1), .int 0, .int 0, .int 0, .int 0, .int 0, .int 0])),
    ((z2 0), .inl (ca 0, 400, .inl (fun _ => 0))),
    ((z2 1), .inl (ca 0, 100, .inl (fun _ => 0))),
    (q3, .inr (3, [.int 0, .ref (z4 0), .ref (z4 1), .ref (z4 2), .ref (z4 3), .int 0, .ref (z4 4), .ref (z4 5), .ref (z4 6), .ref (z4 7), .int 0, .ref (z4 8), .ref (z4 9), .int 0, .ref (z4 12), .int 0, .ref (z4 13), .int 0, .int 2])),
    ((z4 0), .inl (ca 0, 6, .inl (fun _ => 0))),
    ((z4 1), .inl (ca 0, 6, .inl (fun _ => 0))),
    ((z4 2), .inl (ca 0, 6, .inl (fun _ => 0))),
    ((z4 3), .inl (ca 0, 6, .inl (fun _ => 0))),
    ((z4 4), .inl (ca 0, 4, .inl (fun _ => 0))),
    ((z4 5), .inl (ca 0, 4, .inl (fun _ => 0))),
    ((z4 6), .inl (ca 0, 4, .inl (fun _ => 0))),
    ((z4 7), .inl (ca 0, 4, .inl (upd (upd (upd (upd (fun _ => 0) 0 (-1)) 1 (-1)) 2 (-1)) 3 (-1)))),
    ((z4 8), .inl (ca 1, 54, .inr (.inl (fun _ => 0)))),
    ((z4 9), .inr (0, [.int 0, .ref (z4 10), .ref (z4 11)])),
    ((z4 10), .inl (ca 0, 60, .inl (fun _ => 0))),
    ((z4 11), .inl (ca 0, 6, .inl (fun _ => 0))),
    ((z4 12), .inl (ca 0, 48, .inl (fun _ => 0))),
    ((z4 13), .inl (ca 0, 18, .inl (fun _ => 0))),
    (q5, .inr (3, [.int 0, .ref (z6 0), .ref (z6 1), .ref (z6 2), .ref (z6 3), .int 0, .ref (z6 4), .ref (z6 5), .ref (z6 6), .ref (z6 7), .int 0, .ref (z6 8), .ref (z6 9), .int 0, .ref (z6 12), .int 0, .ref (z6 13), .int 0, .int 2])),
    ((z6 0), .inl (ca 0, 6, .inl (fun _ => 0))),
    ((z6 1), .inl (ca 0, 6, .inl (fun _ => 0))),
    ((z6 2), .inl (ca 0, 6, .inl (fun _ => 0))),
    ((z6 3), .inl (ca 0, 6, .inl (fun _ => 0))),
    ((z6 4), .inl (ca 0, 4, .inl (fun _ => 0))),
    ((z6 5), .inl (ca 0, 4, .inl (fun _ => 0))),
    ((z6 6), .inl (ca 0, 4, .inl (fun _ => 0))),
    ((z6 7), .inl (ca 0, 4, .inl (upd (upd (upd (upd (fun _ => 0) 0 (-1)) 1 (-1)) 2 (-1)) 3 (-1)))),
    ((z6 8), .inl (ca 1, 54, .inr (.inl (fun _ => 0)))),
    ((z6 9), .inr (0, [.int 0, .ref (z6 10), .ref (z6 11)])),
    ((z6 10), .inl (ca 0, 60, .inl (fun _ => 0))),
    ((z6 11), .inl (ca 0, 6, .inl (fun _ => 0))),
    ((z6 12), .inl (ca 0, 48, .inl (fun _ => 0))),
    ((z6 13), .inl (ca 0, 18, .inl (fun _ => 0)))] H _ := hw
  refine r_putF (C := RX7) (T := TX7) (N := 7) (ws' := [(h0, .inr (6, [.ref q1, .ref q3, .ref q5, .null, .null, .null, .int 0])),
    (q1, .inr (4, [.ref (z2 0), .int 0, .int (-1), .ref (z2 1), .int 0, .int 0, .int 0, .int 0, .int 0, .int 0])),
    ((z2 0), .inl (ca 0, 400, .inl (fun _ => 0))),
    ((z2 1), .inl (ca 0, 100, .inl (fun _ => 0))),
    (q3, .inr (3, [.int 0, .ref (z4 0), .ref (z4 1), .ref (z4 2), .ref (z4 3), .int 0, .ref (z4 4), .ref (z4 5), .ref (z4 6), .ref (z4 7), .int 0, .ref (z4 8), .ref (z4 9), .int 0, .ref (z4 12), .int 0, .ref (z4 13), .int 0, .int 2])),
    ((z4 0), .inl (ca 0, 6, .inl (fun _ => 0))),
    ((z4 1), .inl (ca 0, 6, .inl (fun _ => 0))),
    ((z4 2), .inl (ca 0, 6, .inl (fun _ => 0))),
    ((z4 3), .inl (ca 0, 6, .inl (fun _ => 0))),
    ((z4 4), .inl (ca 0, 4, .inl (fun _ => 0))),
    ((z4 5), .inl (ca 0, 4, .inl (fun _ => 0))),
    ((z4 6), .inl (ca 0, 4, .inl (fun _ => 0))),
    ((z4 7), .inl (ca 0, 4, .inl (upd (upd (upd (upd (fun _ => 0) 0 (-1)) 1 (-1)) 2 (-1)) 3 (-1)))),
    ((z4 8), .inl (ca 1, 54, .inr (.inl (fun _ => 0)))),
    ((z4 9), .inr (0, [.int 0, .ref (z4 10), .ref (z4 11)])),
    ((z4 10), .inl (ca 0, 60, .inl (fun _ => 0))),
    ((z4 11), .inl (ca 0, 6, .inl (fun _ => 0))),
    ((z4 12), .inl (ca 0, 48, .inl (fun _ => 0))),
    ((z4 13), .inl (ca 0, 18, .inl (fun _ => 0))),
    (q5, .inr (3, [.int 0, .ref (z6 0), .ref (z6 1), .ref (z6 2), .ref (z6 3), .int 0, .ref (z6 4), .ref (z6 5), .ref (z6 6), .ref (z6 7), .int 0, .ref (z6 8), .ref (z6 9), .int 0, .ref (z6 12), .int 0, .ref (z6 13), .int 0, .int 2])),
    ((z6 0), .inl (ca 0, 6, .inl (fun _ => 0))),
    ((z6 1), .inl (ca 0, 6, .inl (fun _ => 0))),
    ((z6 2), .inl (ca 0, 6, .inl (fun _ => 0))),
    ((z6 3), .inl (ca 0, 6, .inl (fun _ => 0))),
    ((z6 4), .inl (ca 0, 4, .inl (fun _ => 0))),
    ((z6 5), .inl (ca 0, 4, .inl (fun _ => 0))),
    ((z6 6), .inl (ca 0, 4, .inl (fun _ => 0))),
    ((z6 7), .inl (ca 0, 4, .inl (upd (upd (upd (upd (fun _ => 0) 0 (-1)) 1 (-1)) 2 (-1)) 3 (-1)))),
    ((z6 8), .inl (ca 1, 54, .inr (.inl (fun _ => 0)))),
    ((z6 9), .inr (0, [.int 0, .ref (z6 10), .ref (z6 11)])),
    ((z6 10), .inl (ca 0, 60, .inl (fun _ => 0))),
    ((z6 11), .inl (ca 0, 6, .inl (fun _ => 0))),
    ((z6 12), .inl (ca 0, 48, .inl (fun _ => 0))),
    ((z6 13), .inl (ca 0, 18, .inl (fun _ => 0)))]) hx hb htg iX7 tyX7 tyX7_ok nmX7 hown hin2 hK hw 0 rfl rfl 2 (by decide) mw364 rfl rfl rfl rfl (Nat.le_of_ble_eq_true rfl) dX7_init_34 rfl (fun H locs hw => ?_)
  refine lv_aload_n hx hb dX7_init_37 rfl (lv_at hl 0 rfl) ?_
  refine r_new (C := RX3) (T := TX3) (N := 10) (ci := 2) (fs := [.null, .null, .null, .null, .null, .null, .null, .null, .null, .null]) hx hb htg iX3 tyX3 tyX3_ok hown mw268 mw269 mw83 hK hw hA rfl (by decide +kernel) (Nat.le_of_ble_eq_true rfl) (Nat.le_of_ble_eq_true rfl) dX7_init_38 (fun q7 H hw => ?_)
  replace hw : Wd D A s.heap [(h0, .inr (6, [.ref q1, .ref q3, .ref q5, .null, .null, .null, .int 0])),
    (q1, .inr (4, [.ref (z2 0), .int 0, .int (-1), .ref (z2 1), .int 0, .int 0, .int 0, .int 0, .int 0, .int 0])),
    ((z2 0), .inl (ca 0, 400, .inl (fun _ => 0))),
    ((z2 1), .inl (ca 0, 100, .inl (fun _ => 0))),
    (q3, .inr (3, [.int 0, .ref (z4 0), .ref (z4 1), .ref (z4 2), .ref (z4 3), .int 0, .ref (z4 4), .ref (z4 5), .ref (z4 6), .ref (z4 7), .int 0, .ref (z4 8), .ref (z4 9), .int 0, .ref (z4 12), .int 0, .ref (z4 13), .int 0, .int 2])),
    ((z4 0), .inl (ca 0, 6, .inl (fun _ => 0))),
    ((z4 1), .inl (ca 0, 6, .inl (fun _ => 0))),
    ((z4 2), .inl (ca 0, 6, .inl (fun _ => 0))),
    ((z4 3), .inl (ca 0, 6, .inl (fun _ => 0))),
    ((z4 4), .inl (ca 0, 4, .inl (fun _ => 0))),
    ((z4 5), .inl (ca 0, 4, .inl (fun _ => 0))),
    ((z4 6), .inl (ca 0, 4, .inl (fun _ => 0))),
    ((z4 7), .inl (ca 0, 4, .inl (upd (upd (upd (upd (fun _ => 0) 0 (-1)) 1 (-1)) 2 (-1)) 3 (-1)))),
    ((z4 8), .inl (ca 1, 54, .inr (.inl (fun _ => 0)))),
    ((z4 9), .inr (0, [.int 0, .ref (z4 10), .ref (z4 11)])),
    ((z4 10), .inl (ca 0, 60, .inl (fun _ => 0))),
    ((z4 11), .inl (ca 0, 6, .inl (fun _ => 0))),
    ((z4 12), .inl (ca 0, 48, .inl (fun _ => 0))),
    ((z4 13), .inl (ca 0, 18, .inl (fun _ => 0))),
    (q5, .inr (3, [.int 0, .ref (z6 0), .ref (z6 1), .ref (z6 2), .ref (z6 3), .int 0, .ref (z6 4), .ref (z6 5), .ref (z6 6), .ref (z6 7), .int 0, .ref (z6 8), .ref (z6 9), .int 0, .ref (z6 12), .int 0, .ref (z6 13), .int 0, .int 2])),
    ((z6 0), .inl (ca 0, 6, .inl (fun _ => 0))),
    ((z6 1), .inl (ca 0, 6, .inl (fun _ => 0))),
    ((z6 2), .inl (ca 0, 6, .inl (fun _ => 0))),
    ((z6 3), .inl (ca 0, 6, .inl (fun _ => 0))),
    ((z6 4), .inl (ca 0, 4, .inl (fun _ => 0))),
    ((z6 5), .inl (ca 0, 4, .inl (fun _ => 0))),
    ((z6 6), .inl (ca 0, 4, .inl (fun _ => 0))),
    ((z6 7), .inl (ca 0, 4, .inl (upd (upd (upd (upd (fun _ => 0) 0 (-1)) 1 (-1)) 2 (-1)) 3 (-1)))),
    ((z6 8), .inl (ca 1, 54, .inr (.inl (fun _ => 0)))),
    ((z6 9), .inr (0, [.int 0, .ref (z6 10), .ref (z6 11)])),
    ((z6 10), .inl (ca 0, 60, .inl (fun _ => 0))),
    ((z6 11), .inl (ca 0, 6, .inl (fun _ => 0))),
    ((z6 12), .inl (ca 0, 48, .inl (fun _ => 0))),
    ((z6 13), .inl (ca 0, 18, .inl (fun _ => 0))),
    (q7, .inr (2, [.null, .null, .null, .null, .null, .null, .null, .null, .null, .null]))] H _ := hw
  refine lv_dup hx hb dX7_init_41 rfl ?_
  refine lv_aload_n hx hb dX7_init_42 rfl (lv_at hl 0 rfl) ?_
  refine r_get (C := RX7) (T := TX7) (N := 7) hx hb htg iX7 hown hK hw.1 0 rfl rfl 1 (by decide) mw363 rfl dX7_init_43 ?_
  refine k_N (av := [.ref q3]) (rest := [.ref q7, .ref h0]) (wc := [(q7, .inr (2, [.null, .null, .null, .null, .null, .null, .null, .null, .null, .null]))]) (wr := [(h0, .inr (6, [.ref q1, .ref q3, .ref q5, .null, .null, .null, .int 0])),
    (q1, .inr (4, [.ref (z2 0), .int 0, .int (-1), .ref (z2 1), .int 0, .int 0, .int 0, .int 0, .int 0, .int 0])),
    ((z2 0), .inl (ca 0, 400, .inl (fun _ => 0))),
    ((z2 1), .inl (ca 0, 100, .inl (fun _ => 0))),
    (q3, .inr (3, [.int 0, .ref (z4 0), .ref (z4 1), .ref (z4 2), .ref (z4 3), .int 0, .ref (z4 4), .ref (z4 5), .ref (z4 6), .ref (z4 7), .int 0, .ref (z4 8), .ref (z4 9), .int 0, .ref (z4 12), .int 0, .ref (z4 13), .int 0, .int 2])),
    ((z4 0), .inl (ca 0, 6, .inl (fun _ => 0))),
    ((z4 1), .inl (ca 0, 6, .inl (fun _ => 0))),
    ((z4 2), .inl (ca 0, 6, .inl (fun _ => 0))),
    ((z4 3), .inl (ca 0, 6, .inl (fun _ => 0))),
    ((z4 4), .inl (ca 0, 4, .inl (fun _ => 0))),
    ((z4 5), .inl (ca 0, 4, .inl (fun _ => 0))),
    ((z4 6), .inl (ca 0, 4, .inl (fun _ => 0))),
    ((z4 7), .inl (ca 0, 4, .inl (upd (upd (upd (upd (fun _ => 0) 0 (-1)) 1 (-1)) 2 (-1)) 3 (-1)))),
    ((z4 8), .inl (ca 1, 54, .inr (.inl (fun _ => 0)))),
    ((z4 9), .inr (0, [.int 0, .ref (z4 10), .ref (z4 11)])),
    ((z4 10), .inl (ca 0, 60, .inl (fun _ => 0))),
    ((z4 11), .inl (ca 0, 6, .inl (fun _ => 0))),
    ((z4 12), .inl (ca 0, 48, .inl (fun _ => 0))),
    ((z4 13), .inl (ca 0, 18, .inl (fun _ => 0))),
    (q5, .inr (3, [.int 0, .ref (z6 0), .ref (z6 1), .ref (z6 2), .ref (z6 3), .int 0, .ref (z6 4), .ref (z6 5), .ref (z6 6), .ref (z6 7), .int 0, .ref (z6 8), .ref (z6 9), .int 0, .ref (z6 12), .int 0, .ref (z6 13), .int 0, .int 2])),
    ((z6 0), .inl (ca 0, 6, .inl (fun _ => 0))),
    ((z6 1), .inl (ca 0, 6, .inl (fun _ => 0))),
    ((z6 2), .inl (ca 0, 6, .inl (fun _ => 0))),
    ((z6 3), .inl (ca 0, 6, .inl (fun _ => 0))),
    ((z6 4), .inl (ca 0, 4, .inl (fun _ => 0))),
    ((z6 5), .inl (ca 0, 4, .inl (fun _ => 0))),
    ((z6 6), .inl (ca 0, 4, .inl (fun _ => 0))),
    ((z6 7), .inl (ca 0, 4, .inl (upd (upd (upd (upd (fun _ => 0) 0 (-1)) 1 (-1)) 2 (-1)) 3 (-1)))),
    ((z6 8), .inl (ca 1, 54, .inr (.inl (fun _ => 0)))),
    ((z6 9), .inr (0, [.int 0, .ref (z6 10), .ref (z6 11)])),
    ((z6 10), .inl (ca 0, 60, .inl (fun _ => 0))),
    ((z6 11), .inl (ca 0, 6, .inl (fun _ => 0))),
    ((z6 12), .inl (ca 0, 48, .inl (fun _ => 0))),
    ((z6 13), .inl (ca 0, 18, .inl (fun _ => 0)))]) ⟨hx, hb, hml, hown, htg⟩ [34] [0, 1, 2, 3, 4, 5, 6, 7, 8, 9, 10, 11, 12, 13, 14, 15, 16, 17, 18, 19, 20, 21, 22, 23, 24, 25, 26, 27, 28, 29, 30, 31, 32, 33] rfl rfl rfl rfl (by decide) (fun hD9 => n_X3_init l D ca _ q7 q3 hD9) mw272 mw270 mw83 mw271 rfl nd_X3_init ⟨Nat.le_of_ble_eq_true rfl, Nat.le_of_ble_eq_true rfl⟩ rfl rfl hK hN hw hA hl.1 rfl (Nat.le_of_ble_eq_true rfl) dX7_init_46 ⟨Nat.le_of_ble_eq_true rfl, Nat.le_of_ble_eq_true rfl⟩ (fun z8 H locs hw => ?_)
  replace hw : Wd D A s.heap [(h0, .inr (6, [.ref q1, .ref q3, .ref q5, .null, .null, .null, .int 0])),
    (q1, .inr (4, [.ref (z2 0), .int 0, .int (-1), .ref (z2 1), .int 0, .int 0, .int 0, .int 0, .int 0, .int 0])),
    ((z2 0), .inl (ca 0, 400, .inl (fun _ => 0))),
    ((z2 1), .inl (ca 0, 100, .inl (fun _ => 0))),
    (q3, .inr (3, [.int 0, .ref (z4 0), .ref (z4 1), .ref (z4 2), .ref (z4 3), .int 0, .ref (z4 4), .ref (z4 5), .ref (z4 6), .ref (z4 7), .int 0, .ref (z4 8), .ref (z4 9), .int 0, .ref (z4 12), .int 0, .ref (z4 13), .int 0, .int 2])),
    ((z4 0), .inl (ca 0, 6, .inl (fun _ => 0))),
    ((z4 1), .inl (ca 0, 6, .inl (fun _ => 0))),
    ((z4 2), .inl (ca 0, 6, .inl (fun _ => 0))),
    ((z4 3), .inl (ca 0, 6, .inl (fun _ => 0))),
    ((z4 4), .inl (ca 0, 4, .inl (fun _ => 0))),
    ((z4 5), .inl (ca 0, 4, .inl (fun _ => 0))),
    ((z4 6), .inl (ca 0, 4, .inl (fun _ => 0))),
    ((z4 7), .inl (ca 0, 4, .inl (upd (upd (upd (upd (fun _ => 0) 0 (-1)) 1 (-1)) 2 (-1)) 3 (-1)))),
    ((z4 8), .inl (ca 1, 54, .inr (.inl (fun _ => 0)))),
    ((z4 9), .inr (0, [.int 0, .ref (z4 10), .ref (z4 11)])),
    ((z4 10), .inl (ca 0, 60, .inl (fun _ => 0))),
    ((z4 11), .inl (ca 0, 6, .inl (fun _ => 0))),
    ((z4 12), .inl (ca 0, 48, .inl (fun _ => 0))),
    ((z4 13), .inl (ca 0, 18, .inl (fun _ => 0))),
    (q5, .inr (3, [.int 0, .ref (z6 0), .ref (z6 1), .ref (z6 2), .ref (z6 3), .int 0, .ref (z6 4), .ref (z6 5), .ref (z6 6), .ref (z6 7), .int 0, .ref (z6 8), .ref (z6 9), .int 0, .ref (z6 12), .int 0, .ref (z6 13), .int 0, .int 2])),
    ((z6 0), .inl (ca 0, 6, .inl (fun _ => 0))),
    ((z6 1), .inl (ca 0, 6, .inl (fun _ => 0))),
    ((z6 2), .inl (ca 0, 6, .inl (fun _ => 0))),
    ((z6 3), .inl (ca 0, 6, .inl (fun _ => 0))),
    ((z6 4), .inl (ca 0, 4, .inl (fun _ => 0))),
    ((z6 5), .inl (ca 0, 4, .inl (fun _ => 0))),
    ((z6 6), .inl (ca 0, 4, .inl (fun _ => 0))),
    ((z6 7), .inl (ca 0, 4, .inl (upd (upd (upd (upd (fun _ => 0) 0 (-1)) 1 (-1)) 2 (-1)) 3 (-1)))),
    ((z6 8), .inl (ca 1, 54, .inr (.inl (fun _ => 0)))),
    ((z6 9), .inr (0, [.int 0, .ref (z6 10), .ref (z6 11)])),
    ((z6 10), .inl (ca 0, 60, .inl (fun _ => 0))),
    ((z6 11), .inl (ca 0, 6, .inl (fun _ => 0))),
    ((z6 12), .inl (ca 0, 48, .inl (fun _ => 0))),
    ((z6 13), .inl (ca 0, 18, .inl (fun _ => 0))),
    (q7, .inr (2, [.ref q3, .ref (z8 0), .ref (z8 1), .ref (z8 2), .ref (z8 3), .ref (z8 4), .ref (z8 5), .ref (z8 6), .ref (z8 7), .ref (z8 8)])),
    ((z8 0), .inl (ca 1, 432, .inr (.inl (fun _ => 0)))),
    ((z8 1), .inl (ca 1, 432, .inr (.inl (fun _ => 0)))),
    ((z8 2), .inl (ca 0, 15, .inl (fun _ => 0))),
    ((z8 3), .inl (ca 0, 15, .inl (fun _ => 0))),
    ((z8 4), .inl (ca 1, 3, .inr (.inl (fun _ => 0)))),
    ((z8 5), .inl (ca 1, 3, .inr (.inl (fun _ => 0)))),
    ((z8 6), .inl (ca 1, 3, .inr (.inl (fun _ => 0)))),
    ((z8 7), .inl (ca 1, 3, .inr (.inl (fun _ => 0)))),
    ((z8 8), .inl (ca 1, 3, .inr (.inl (fun _ => 0))))] H _ := hw
  refine r_putF (C := RX7) (T := TX7) (N := 7) (ws' := [(h0, .inr (6, [.ref q1, .ref q3, .ref q5, .ref q7, .null, .null, .int 0])),
    (q1, .inr (4, [.ref (z2 0), .int 0, .int (-1), .ref (z2 1), .int 0, .int 0, .int 0, .int 0, .int 0, .int 0])),
    ((z2 0), .inl (ca 0, 400, .inl (fun _ => 0))),
    ((z2 1), .inl (ca 0, 100, .inl (fun _ => 0))),
    (q3, .inr (3, [.int 0, .ref (z4 0), .ref (z4 1), .ref (z4 2), .ref (z4 3), .int 0, .ref (z4 4), .ref (z4 5), .ref (z4 6), .ref (z4 7), .int 0, .ref (z4 8), .ref (z4 9), .int 0, .ref (z4 12), .int 0, .ref (z4 13), .int 0, .int 2])),
    ((z4 0), .inl (ca 0, 6, .inl (fun _ => 0))),
    ((z4 1), .inl (ca 0, 6, .inl (fun _ => 0))),
    ((z4 2), .inl (ca 0, 6, .inl (fun _ => 0))),
    ((z4 3), .inl (ca 0, 6, .inl (fun _ => 0))),
    ((z4 4), .inl (ca 0, 4, .inl (fun _ => 0))),
    ((z4 5), .inl (ca 0, 4, .inl (fun _ => 0))),
    ((z4 6), .inl (ca 0, 4, .inl (fun _ => 0))),
    ((z4 7), .inl (ca 0, 4, .inl (upd (upd (upd (upd (fun _ => 0) 0 (-1)) 1 (-1)) 2 (-1)) 3 (-1)))),
    ((z4 8), .inl (ca 1, 54, .inr (.inl (fun _ => 0)))),
    ((z4 9), .inr (0, [.int 0, .ref (z4 10), .ref (z4 11)])),
    ((z4 10), .inl (ca 0, 60, .inl (fun _ => 0))),
    ((z4 11), .inl (ca 0, 6, .inl (fun _ => 0))),
    ((z4 12), .inl (ca 0, 48, .inl (fun _ => 0))),
    ((z4 13), .inl (ca 0, 18, .inl (fun _ => 0))),
    (q5, .inr (3, [.int 0, .ref (z6 0), .ref (z6 1), .ref (z6 2), .ref (z6 3), .int 0, .ref (z6 4), .ref (z6 5), .ref (z6 6), .ref (z6 7), .int 0, .ref (z6 8), .ref (z6 9), .int 0, .ref (z6 12), .int 0, .ref (z6 13), .int 0, .int 2])),
    ((z6 0), .inl (ca 0, 6, .inl (fun _ => 0))),
    ((z6 1), .inl (ca 0, 6, .inl (fun _ => 0))),
    ((z6 2), .inl (ca 0, 6, .inl (fun _ => 0))),
    ((z6 3), .inl (ca 0, 6, .inl (fun _ => 0))),
    ((z6 4), .inl (ca 0, 4, .inl (fun _ => 0))),
    ((z6 5), .inl (ca 0, 4, .inl (fun _ => 0))),
    ((z6 6), .inl (ca 0, 4, .inl (fun _ => 0))),
    ((z6 7), .inl (ca 0, 4, .inl (upd (upd (upd (upd (fun _ => 0) 0 (-1)) 1 (-1)) 2 (-1)) 3 (-1)))),
    ((z6 8), .inl (ca 1, 54, .inr (.inl (fun _ => 0)))),
    ((z6 9), .inr (0, [.int 0, .ref (z6 10), .ref (z6 11)])),
    ((z6 10), .inl (ca 0, 60, .inl (fun _ => 0))),
    ((z6 11), .inl (ca 0, 6, .inl (fun _ => 0))),
    ((z6 12), .inl (ca 0, 48, .inl (fun _ => 0))),
    ((z6 13), .inl (ca 0, 18, .inl (fun _ => 0))),
    (q7, .inr (2, [.ref q3, .ref (z8 0), .ref (z8 1), .ref (z8 2), .ref (z8 3), .ref (z8 4), .ref (z8 5), .ref (z8 6), .ref (z8 7), .ref (z8 8)])),
    ((z8 0), .inl (ca 1, 432, .inr (.inl (fun _ => 0)))),
    ((z8 1), .inl (ca 1, 432, .inr (.inl (fun _ => 0)))),
    ((z8 2), .inl (ca 0, 15, .inl (fun _ => 0))),
    ((z8 3), .inl (ca 0, 15, .inl (fun _ => 0))),
    ((z8 4), .inl (ca 1, 3, .inr (.inl (fun _ => 0)))),
    ((z8 5), .inl (ca 1, 3, .inr (.inl (fun _ => 0)))),
    ((z8 6), .inl (ca 1, 3, .inr (.inl (fun _ => 0)))),
    ((z8 7), .inl (ca 1, 3, .inr (.inl (fun _ => 0)))),
    ((z8 8), .inl (ca 1, 3, .inr (.inl (fun _ => 0))))]) hx hb htg iX7 tyX7 tyX7_ok nmX7 hown hin2 hK hw 0 rfl rfl 3 (by decide) mw365 rfl rfl rfl rfl (Nat.le_of_ble_eq_true rfl) dX7_init_49 rfl (fun H locs hw => ?_)
  refine lv_aload_n hx hb dX7_init_52 rfl (lv_at hl 0 rfl) ?_
  refine r_new (C := RX2) (T := TX2) (N := 10) (ci := 1) (fs := [.null, .null, .null, .null, .int 0, .null, .int 0, .int 0, .int 0, .null]) hx hb htg iX2 tyX2 tyX2_ok hown mw306 mw307 mw84 hK hw hA rfl (by decide +kernel) (Nat.le_of_ble_eq_true rfl) (Nat.le_of_ble_eq_true rfl) dX7_init_53 (fun q9 H hw => ?_)
  replace hw : Wd D A s.heap [(h0, .inr (6, [.ref q1, .ref q3, .ref q5, .ref q7, .null, .null, .int 0])),
    (q1, .inr (4, [.ref (z2 0), .int 0, .int (-1), .ref (z2 1), .int 0, .int 0, .int 0, .int 0, .int 0, .int 0])),
    ((z2 0), .inl (ca 0, 400, .inl (fun _ => 0))),
    ((z2 1), .inl (ca 0, 100, .inl (fun _ => 0))),
    (q3, .inr (3, [.int 0, .ref (z4 0), .ref (z4 1), .ref (z4 2), .ref (z4 3), .int 0, .ref (z4 4), .ref (z4 5), .ref (z4 6), .ref (z4 7), .int 0, .ref (z4 8), .ref (z4 9), .int 0, .ref (z4 12), .int 0, .ref (z4 13), .int 0, .int 2])),
    ((z4 0), .inl (ca 0, 6, .inl (fun _ => 0))),
    ((z4 1), .inl (ca 0, 6, .inl (fun _ => 0))),
    ((z4 2), .inl (ca 0, 6, .inl (fun _ => 0))),
    ((z4 3), .inl (ca 0, 6, .inl (fun _ => 0))),
    ((z4 4), .inl (ca 0, 4, .inl (fun _ => 0))),
    ((z4 5), .inl (ca 0, 4, .inl (fun _ => 0))),
    ((z4 6), .inl (ca 0, 4, .inl (fun _ => 0))),
    ((z4 7), .inl (ca 0, 4, .inl (upd (upd (upd (upd (fun _ => 0) 0 (-1)) 1 (-1)) 2 (-1)) 3 (-1)))),
    ((z4 8), .inl (ca 1, 54, .inr (.inl (fun _ => 0)))),
    ((z4 9), .inr (0, [.int 0, .ref (z4 10), .ref (z4 11)])),
    ((z4 10), .inl (ca 0, 60, .inl (fun _ => 0))),
    ((z4 11), .inl (ca 0, 6, .inl (fun _ => 0))),
    ((z4 12), .inl (ca 0, 48, .inl (fun _ => 0))),
    ((z4 13), .inl (ca 0, 18, .inl (fun _ => 0))),
    (q5, .inr (3, [.int 0, .ref (z6 0), .ref (z6 1), .ref (z6 2), .ref (z6 3), .int 0, .ref (z6 4), .ref (z6 5), .ref (z6 6), .ref (z6 7), .int 0, .ref (z6 8), .ref (z6 9), .int 0, .ref (z6 12), .int 0, .ref (z6 13), .int 0, .int 2])),
    ((z6 0), .inl (ca 0, 6, .inl (fun _ => 0))),
    ((z6 1), .inl (ca 0, 6, .inl (fun _ => 0))),
    ((z6 2), .inl (ca 0, 6, .inl (fun _ => 0))),
    ((z6 3), .inl (ca 0, 6, .inl (fun _ => 0))),
    ((z6 4), .inl (ca 0, 4, .inl (fun _ => 0))),
    ((z6 5), .inl (ca 0, 4, .inl (fun _ => 0))),
    ((z6 6), .inl (ca 0, 4, .inl (fun _ => 0))),
    ((z6 7), .inl (ca 0, 4, .inl (upd (upd (upd (upd (fun _ => 0) 0 (-1)) 1 (-1)) 2 (-1)) 3 (-1)))),
    ((z6 8), .inl (ca 1, 54, .inr (.inl (fun _ => 0)))),
    ((z6 9), .inr (0, [.int 0, .ref (z6 10), .ref (z6 11)])),
    ((z6 10), .inl (ca 0, 60, .inl (fun _ => 0))),
    ((z6 11), .inl (ca 0, 6, .inl (fun _ => 0))),
    ((z6 12), .inl (ca 0, 48, .inl (fun _ => 0))),
    ((z6 13), .inl (ca 0, 18, .inl (fun _ => 0))),
    (q7, .inr (2, [.ref q3, .ref (z8 0), .ref (z8 1), .ref (z8 2), .ref (z8 3), .ref (z8 4), .ref (z8 5), .ref (z8 6), .ref (z8 7), .ref (z8 8)])),
    ((z8 0), .inl (ca 1, 432, .inr (.inl (fun _ => 0)))),
    ((z8 1), .inl (ca 1, 432, .inr (.inl (fun _ => 0)))),
    ((z8 2), .inl (ca 0, 15, .inl (fun _ => 0))),
    ((z8 3), .inl (ca 0, 15, .inl (fun _ => 0))),
    ((z8 4), .inl (ca 1, 3, .inr (.inl (fun _ => 0)))),
    ((z8 5), .inl (ca 1, 3, .inr (.inl (fun _ => 0)))),
    ((z8 6), .inl (ca 1, 3, .inr (.inl (fun _ => 0)))),
    ((z8 7), .inl (ca 1, 3, .inr (.inl (fun _ => 0)))),
    ((z8 8), .inl (ca 1, 3, .inr (.inl (fun _ => 0)))),
    (q9, .inr (1, [.null, .null, .null, .null, .int 0, .null, .int 0, .int 0, .int 0, .null]))] H _ := hw
  refine lv_dup hx hb dX7_init_56 rfl ?_
  refine lv_aload_n hx hb dX7_init_57 rfl (lv_at hl 0 rfl) ?_
  refine r_get (C := RX7) (T := TX7) (N := 7) hx hb htg iX7 hown hK hw.1 0 rfl rfl 1 (by decide) mw363 rfl dX7_init_58 ?_
  refine lv_aload_n hx hb dX7_init_61 rfl (lv_at hl 0 rfl) ?_
  refine r_get (C := RX7) (T := TX7) (N := 7) hx hb htg iX7 hown hK hw.1 0 rfl rfl 3 (by decide) mw365 rfl dX7_init_62 ?_
  refine k_N (av := [.ref q3, .ref q7]) (rest := [.ref q9, .ref h0]) (wc := [(q9, .inr (1, [.null, .null, .null, .null, .int 0, .null, .int 0, .int 0, .int 0, .null]))]) (wr := [(h0, .inr (6, [.ref q1, .ref q3, .ref q5, .ref q7, .null, .null, .int 0])),
    (q1, .inr (4, [.ref (z2 0), .int 0, .int (-1), .ref (z2 1), .int 0, .int 0, .int 0, .int 0, .int 0, .int 0])),
    ((z2 0), .inl (ca 0, 400, .inl (fun _ => 0))),
    ((z2 1), .inl (ca 0, 100, .inl (fun _ => 0))),
    (q3, .inr (3, [.int 0, .ref (z4 0), .ref (z4 1), .ref (z4 2), .ref (z4 3), .int 0, .ref (z4 4), .ref (z4 5), .ref (z4 6), .ref (z4 7), .int 0, .ref (z4 8), .ref (z4 9), .int 0, .ref (z4 12), .int 0, .ref (z4 13), .int 0, .int 2])),
    ((z4 0), .inl (ca 0, 6, .inl (fun _ => 0))),
    ((z4 1), .inl (ca 0, 6, .inl (fun _ => 0))),
    ((z4 2), .inl (ca 0, 6, .inl (fun _ => 0))),
    ((z4 3), .inl (ca 0, 6, .inl (fun _ => 0))),
    ((z4 4), .inl (ca 0, 4, .inl (fun _ => 0))),
    ((z4 5), .inl (ca 0, 4, .inl (fun _ => 0))),
    ((z4 6), .inl (ca 0, 4, .inl (fun _ => 0))),
    ((z4 7), .inl (ca 0, 4, .inl (upd (upd (upd (upd (fun _ => 0) 0 (-1)) 1 (-1)) 2 (-1)) 3 (-1)))),
    ((z4 8), .inl (ca 1, 54, .inr (.inl (fun _ => 0)))),
    ((z4 9), .inr (0, [.int 0, .ref (z4 10), .ref (z4 11)])),
    ((z4 10), .inl (ca 0, 60, .inl (fun _ => 0))),
    ((z4 11), .inl (ca 0, 6, .inl (fun _ => 0))),
    ((z4 12), .inl (ca 0, 48, .inl (fun _ => 0))),
    ((z4 13), .inl (ca 0, 18, .inl (fun _ => 0))),
    (q5, .inr (3, [.int 0, .ref (z6 0), .ref (z6 1), .ref (z6 2), .ref (z6 3), .int 0, .ref (z6 4), .ref (z6 5), .ref (z6 6), .ref (z6 7), .int 0, .ref (z6 8), .ref (z6 9), .int 0, .ref (z6 12), .int 0, .ref (z6 13), .int 0, .int 2])),
    ((z6 0), .inl (ca 0, 6, .inl (fun _ => 0))),
    ((z6 1), .inl (ca 0, 6, .inl (fun _ => 0))),
    ((z6 2), .inl (ca 0, 6, .inl (fun _ => 0))),
    ((z6 3), .inl (ca 0, 6, .inl (fun _ => 0))),
    ((z6 4), .inl (ca 0, 4, .inl (fun _ => 0))),
    ((z6 5), .inl (ca 0, 4, .inl (fun _ => 0))),
    ((z6 6), .inl (ca 0, 4, .inl (fun _ => 0))),
    ((z6 7), .inl (ca 0, 4, .inl (upd (upd (upd (upd (fun _ => 0) 0 (-1)) 1 (-1)) 2 (-1)) 3 (-1)))),
    ((z6 8), .inl (ca 1, 54, .inr (.inl (fun _ => 0)))),
    ((z6 9), .inr (0, [.int 0, .ref (z6 10), .ref (z6 11)])),
    ((z6 10), .inl (ca 0, 60, .inl (fun _ => 0))),
    ((z6 11), .inl (ca 0, 6, .inl (fun _ => 0))),
    ((z6 12), .inl (ca 0, 48, .inl (fun _ => 0))),
    ((z6 13), .inl (ca 0, 18, .inl (fun _ => 0))),
    (q7, .inr (2, [.ref q3, .ref (z8 0), .ref (z8 1), .ref (z8 2), .ref (z8 3), .ref (z8 4), .ref (z8 5), .ref (z8 6), .ref (z8 7), .ref (z8 8)])),
    ((z8 0), .inl (ca 1, 432, .inr (.inl (fun _ => 0)))),
    ((z8 1), .inl (ca 1, 432, .inr (.inl (fun _ => 0)))),
    ((z8 2), .inl (ca 0, 15, .inl (fun _ => 0))),
    ((z8 3), .inl (ca 0, 15, .inl (fun _ => 0))),
    ((z8 4), .inl (ca 1, 3, .inr (.inl (fun _ => 0)))),
    ((z8 5), .inl (ca 1, 3, .inr (.inl (fun _ => 0)))),
    ((z8 6), .inl (ca 1, 3, .inr (.inl (fun _ => 0)))),
    ((z8 7), .inl (ca 1, 3, .inr (.inl (fun _ => 0)))),
    ((z8 8), .inl (ca 1, 3, .inr (.inl (fun _ => 0))))]) ⟨hx, hb, hml, hown, htg⟩ [44] [0, 1, 2, 3, 4, 5, 6, 7, 8, 9, 10, 11, 12, 13, 14, 15, 16, 17, 18, 19, 20, 21, 22, 23, 24, 25, 26, 27, 28, 29, 30, 31, 32, 33, 34, 35, 36, 37, 38, 39, 40, 41, 42, 43] rfl rfl rfl rfl (by decide) (fun hD9 => n_X2_init l D ca _ q9 q3 q7 hD9) mw310 mw308 mw84 mw309 rfl nd_X2_init ⟨Nat.le_of_ble_eq_true rfl, Nat.le_of_ble_eq_true rfl⟩ rfl rfl hK hN hw hA hl.1 rfl (Nat.le_of_ble_eq_true rfl) dX7_init_65 ⟨Nat.le_of_ble_eq_true rfl, Nat.le_of_ble_eq_true rfl⟩ (fun z10 H locs hw => ?_)
  replace hw : Wd D A s.heap [(h0, .inr (6, [.ref q1, .ref q3, .ref q5, .ref q7, .null, .null, .int 0])),
    (q1, .inr (4, [.ref (z2 0), .int 0, .int (-1), .ref (z2 1), .int 0, .int 0, .int 0, .int 0, .int 0, .int 0])),
    ((z2 0), .inl (ca 0, 400, .inl (fun _ => 0))),
    ((z2 1), .inl (ca 0, 100, .inl (fun _ => 0))),
    (q3, .inr (3, [.int 0, .ref (z4 0), .ref (z4 1), .ref (z4 2), .ref (z4 3), .int 0, .ref (z4 4), .ref (z4 5), .ref (z4 6), .ref (z4 7), .int 0, .ref (z4 8), .ref (z4 9), .int 0, .ref (z4 12), .int 0, .ref (z4 13), .int 0, .int 2])),
    ((z4 0), .inl (ca 0, 6, .inl (fun _ => 0))),
    ((z4 1), .inl (ca 0, 6, .inl (fun _ => 0))),
    ((z4 2), .inl (ca 0, 6, .inl (fun _ => 0))),
    ((z4 3), .inl (ca 0, 6, .inl (fun _ => 0))),
    ((z4 4), .inl (ca 0, 4, .inl (fun _ => 0))),
    ((z4 5), .inl (ca 0, 4, .inl (fun _ => 0))),
    ((z4 6), .inl (ca 0, 4, .inl (fun _ => 0))),
    ((z4 7), .inl (ca 0, 4, .inl (upd (upd (upd (upd (fun _ => 0) 0 (-1)) 1 (-1)) 2 (-1)) 3 (-1)))),
    ((z4 8), .inl (ca 1, 54, .inr (.inl (fun _ => 0)))),
    ((z4 9), .inr (0, [.int 0, .ref (z4 10), .ref (z4 11)])),
    ((z4 10), .inl (ca 0, 60, .inl (fun _ => 0))),
    ((z4 11), .inl (ca 0, 6, .inl (fun _ => 0))),
    ((z4 12), .inl (ca 0, 48, .inl (fun _ => 0))),
    ((z4 13), .inl (ca 0, 18, .inl (fun _ => 0))),
    (q5, .inr (3, [.int 0, .ref (z6 0), .ref (z6 1), .ref (z6 2), .ref (z6 3), .int 0, .ref (z6 4), .ref (z6 5), .ref (z6 6), .ref (z6 7), .int 0, .ref (z6 8), .ref (z6 9), .int 0, .ref (z6 12), .int 0, .ref (z6 13), .int 0, .int 2])),
    ((z6 0), .inl (ca 0, 6, .inl (fun _ => 0))),
    ((z6 1), .inl (ca 0, 6, .inl (fun _ => 0))),
    ((z6 2), .inl (ca 0, 6, .inl (fun _ => 0))),
    ((z6 3), .inl (ca 0, 6, .inl (fun _ => 0))),
    ((z6 4), .inl (ca 0, 4, .inl (fun _ => 0))),
    ((z6 5), .inl (ca 0, 4, .inl (fun _ => 0))),
    ((z6 6), .inl (ca 0, 4, .inl (fun _ => 0))),
    ((z6 7), .inl (ca 0, 4, .inl (upd (upd (upd (upd (fun _ => 0) 0 (-1)) 1 (-1)) 2 (-1)) 3 (-1)))),
    ((z6 8), .inl (ca 1, 54, .inr (.inl (fun _ => 0)))),
    ((z6 9), .inr (0, [.int 0, .ref (z6 10), .ref (z6 11)])),
    ((z6 10), .inl (ca 0, 60, .inl (fun _ => 0))),
    ((z6 11), .inl (ca 0, 6, .inl (fun _ => 0))),
    ((z6 12), .inl (ca 0, 48, .inl (fun _ => 0))),
    ((z6 13), .inl (ca 0, 18, .inl (fun _ => 0))),
    (q7, .inr (2, [.ref q3, .ref (z8 0), .ref (z8 1), .ref (z8 2), .ref (z8 3), .ref (z8 4), .ref (z8 5), .ref (z8 6), .ref (z8 7), .ref (z8 8)])),
    ((z8 0), .inl (ca 1, 432, .inr (.inl (fun _ => 0)))),
    ((z8 1), .inl (ca 1, 432, .inr (.inl (fun _ => 0)))),
    ((z8 2), .inl (ca 0, 15, .inl (fun _ => 0))),
    ((z8 3), .inl (ca 0, 15, .inl (fun _ => 0))),
    ((z8 4), .inl (ca 1, 3, .inr (.inl (fun _ => 0)))),
    ((z8 5), .inl (ca 1, 3, .inr (.inl (fun _ => 0)))),
    ((z8 6), .inl (ca 1, 3, .inr (.inl (fun _ => 0)))),
    ((z8 7), .inl (ca 1, 3, .inr (.inl (fun _ => 0)))),
    ((z8 8), .inl (ca 1, 3, .inr (.inl (fun _ => 0)))),
    (q9, .inr (1, [.ref q3, .ref q7, .ref (z10 0), .ref (z10 1), .int 0, .ref (z10 2), .int 0, .int 0, .int 0, .ref (z10 3)])),
    ((z10 0), .inl (ca 0, 4, .inl (fun _ => 0))),
    ((z10 1), .inl (ca 0, 6, .inl (fun _ => 0))),
    ((z10 2), .inl (ca 0, 4, .inl (fun _ => 0))),
    ((z10 3), .inl (ca 1, 3, .inr (.inl (fun _ => 0))))] H _ := hw
  refine r_putF (C := RX7) (T := TX7) (N := 7) (ws' := [(h0, .inr (6, [.ref q1, .ref q3, .ref q5, .ref q7, .ref q9, .null, .int 0])),
    (q1, .inr (4, [.ref (z2 0), .int 0, .int (-1), .ref (z2 1), .int 0, .int 0, .int 0, .int 0, .int 0, .int 0])),
    ((z2 0), .inl (ca 0, 400, .inl (fun _ => 0))),
    ((z2 1), .inl (ca 0, 100, .inl (fun _ => 0))),
    (q3, .inr (3, [.int 0, .ref (z4 0), .ref (z4 1), .ref (z4 2), .ref (z4 3), .int 0, .ref (z4 4), .ref (z4 5), .ref (z4 6), .ref (z4 7), .int 0, .ref (z4 8), .ref (z4 9), .int 0, .ref (z4 12), .int 0, .ref (z4 13), .int 0, .int 2])),
    ((z4 0), .inl (ca 0, 6, .inl (fun _ => 0))),
    ((z4 1), .inl (ca 0, 6, .inl (fun _ => 0))),
    ((z4 2), .inl (ca 0, 6, .inl (fun _ => 0))),
    ((z4 3), .inl (ca 0, 6, .inl (fun _ => 0))),
    ((z4 4), .inl (ca 0, 4, .inl (fun _ => 0))),
    ((z4 5), .inl (ca 0, 4, .inl (fun _ => 0))),
    ((z4 6), .inl (ca 0, 4, .inl (fun _ => 0))),
    ((z4 7), .inl (ca 0, 4, .inl (upd (upd (upd (upd (fun _ => 0) 0 (-1)) 1 (-1)) 2 (-1)) 3 (-1)))),
    ((z4 8), .inl (ca 1, 54, .inr (.inl (fun _ => 0)))),
    ((z4 9), .inr (0, [.int 0, .ref (z4 10), .ref (z4 11)])),
    ((z4 10), .inl (ca 0, 60, .inl (fun _ => 0))),
    ((z4 11), .inl (ca 0, 6, .inl (fun _ => 0))),
    ((z4 12), .inl (ca 0, 48, .inl (fun _ => 0))),
    ((z4 13), .inl (ca 0, 18, .inl (fun _ => 0))),
    (q5, .inr (3, [.int 0, .ref (z6 0), .ref (z6 1), .ref (z6 2), .ref (z6 3), .int 0, .ref (z6 4), .ref (z6 5), .ref (z6 6), .ref (z6 7), .int 0, .ref (z6 8), .ref (z6 9), .int 0, .ref (z6 12), .int 0, .ref (z6 13), .int 0, .int 2])),
    ((z6 0), .inl (ca 0, 6, .inl (fun _ => 0))),
    ((z6 1), .inl (ca 0, 6, .inl (fun _ => 0))),
    ((z6 2), .inl (ca 0, 6, .inl (fun _ => 0))),
    ((z6 3), .inl (ca 0, 6, .inl (fun _ => 0))),
    ((z6 4), .inl (ca 0, 4, .inl (fun _ => 0))),
    ((z6 5), .inl (ca 0, 4, .inl (fun _ => 0))),
    ((z6 6), .inl (ca 0, 4, .inl (fun _ => 0))),
    ((z6 7), .inl (ca 0, 4, .inl (upd (upd (upd (upd (fun _ => 0) 0 (-1)) 1 (-1)) 2 (-1)) 3 (-1)))),
    ((z6 8), .inl (ca 1, 54, .inr (.inl (fun _ => 0)))),
    ((z6 9), .inr (0, [.int 0, .ref (z6 10), .ref (z6 11)])),
    ((z6 10), .inl (ca 0, 60, .inl (fun _ => 0))),
    ((z6 11), .inl (ca 0, 6, .inl (fun _ => 0))),
    ((z6 12), .inl (ca 0, 48, .inl (fun _ => 0))),
    ((z6 13), .inl (ca 0, 18, .inl (fun _ => 0))),
    (q7, .inr (2, [.ref q3, .ref (z8 0), .ref (z8 1), .ref (z8 2), .ref (z8 3), .ref (z8 4), .ref (z8 5), .ref (z8 6), .ref (z8 7), .ref (z8 8)])),
    ((z8 0), .inl (ca 1, 432, .inr (.inl (fun _ => 0)))),
    ((z8 1), .inl (ca 1, 432, .inr (.inl (fun _ => 0)))),
    ((z8 2), .inl (ca 0, 15, .inl (fun _ => 0))),
    ((z8 3), .inl (ca 0, 15, .inl (fun _ => 0))),
    ((z8 4), .inl (ca 1, 3, .inr (.inl (fun _ => 0)))),
    ((z8 5), .inl (ca 1, 3, .inr (.inl (fun _ => 0)))),
    ((z8 6), .inl (ca 1, 3, .inr (.inl (fun _ => 0)))),
    ((z8 7), .inl (ca 1, 3, .inr (.inl (fun _ => 0)))),
    ((z8 8), .inl (ca 1, 3, .inr (.inl (fun _ => 0)))),
    (q9, .inr (1, [.ref q3, .ref q7, .ref (z10 0), .ref (z10 1), .int 0, .ref (z10 2), .int 0, .int 0, .int 0, .ref (z10 3)])),
    ((z10 0), .inl (ca 0, 4, .inl (fun _ => 0))),
    ((z10 1), .inl (ca 0, 6, .inl (fun _ => 0))),
    ((z10 2), .inl (ca 0, 4, .inl (fun _ => 0))),
    ((z10 3), .inl (ca 1, 3, .inr (.inl (fun _ => 0))))]) hx hb htg iX7 tyX7 tyX7_ok nmX7 hown hin2 hK hw 0 rfl rfl 4 (by decide) mw366 rfl rfl rfl rfl (Nat.le_of_ble_eq_true rfl) dX7_init_68 rfl (fun H locs hw => ?_)
  refine lv_aload_n hx hb dX7_init_71 rfl (lv_at hl 0 rfl) ?_
  refine r_new (C := RX6) (T := TX6) (N := 3) (ci := 5) (fs := [.null, .null, .int 0]) hx hb htg iX6 tyX6 tyX6_ok hown mw346 mw347 mw85 hK hw hA rfl (by decide +kernel) (Nat.le_of_ble_eq_true rfl) (Nat.le_of_ble_eq_true rfl) dX7_init_72 (fun q11 H hw => ?_)
  replace hw : Wd D A s.heap [(h0, .inr (6, [.ref q1, .ref q3, .ref q5, .ref q7, .ref q9, .null, .int 0])),
    (q1, .inr (4, [.ref (z2 0), .int 0, .int (-1), .ref (z2 1), .int 0, .int 0, .int 0, .int 0, .int 0, .int 0])),
    ((z2 0), .inl (ca 0, 400, .inl (fun _ => 0))),
    ((z2 1), .inl (ca 0, 100, .inl (fun _ => 0))),
    (q3, .inr (3, [.int 0, .ref (z4 0), .ref (z4 1), .ref (z4 2), .ref (z4 3), .int 0, .ref (z4 4), .ref (z4 5), .ref (z4 6), .ref (z4 7), .int 0, .ref (z4 8), .ref (z4 9), .int 0, .ref (z4 12), .int 0, .ref (z4 13), .int 0, .int 2])),
    ((z4 0), .inl (ca 0, 6, .inl (fun _ => 0))),
    ((z4 1), .inl (ca 0, 6, .inl (fun _ => 0))),
    ((z4 2), .inl (ca 0, 6, .inl (fun _ => 0))),
    ((z4 3), .inl (ca 0, 6, .inl (fun _ => 0))),
    ((z4 4), .inl (ca 0, 4, .inl (fun _ => 0))),
    ((z4 5), .inl (ca 0, 4, .inl (fun _ => 0))),
    ((z4 6), .inl (ca 0, 4, .inl (fun _ => 0))),
    ((z4 7), .inl (ca 0, 4, .inl (upd (upd (upd (upd (fun _ => 0) 0 (-1)) 1 (-1)) 2 (-1)) 3 (-1)))),
    ((z4 8), .inl (ca 1, 54, .inr (.inl (fun _ => 0)))),
    ((z4 9), .inr (0, [.int 0, .ref (z4 10), .ref (z4 11)])),
    ((z4 10), .inl (ca 0, 60, .inl (fun _ => 0))),
    ((z4 11), .inl (ca 0, 6, .inl (fun _ => 0))),
    ((z4 12), .inl (ca 0, 48, .inl (fun _ => 0))),
    ((z4 13), .inl (ca 0, 18, .inl (fun _ => 0))),
    (q5, .inr (3, [.int 0, .ref (z6 0), .ref (z6 1), .ref (z6 2), .ref (z6 3), .int 0, .ref (z6 4), .ref (z6 5), .ref (z6 6), .ref (z6 7), .int 0, .ref (z6 8), .ref (z6 9), .int 0, .ref (z6 12), .int 0, .ref (z6 13), .int 0, .int 2])),
    ((z6 0), .inl (ca 0, 6, .inl (fun _ => 0))),
    ((z6 1), .inl (ca 0, 6, .inl (fun _ => 0))),
    ((z6 2), .inl (ca 0, 6, .inl (fun _ => 0))),
    ((z6 3), .inl (ca 0, 6, .inl (fun _ => 0))),
    ((z6 4), .inl (ca 0, 4, .inl (fun _ => 0))),
    ((z6 5), .inl (ca 0, 4, .inl (fun _ => 0))),
    ((z6 6), .inl (ca 0, 4, .inl (fun _ => 0))),
    ((z6 7), .inl (ca 0, 4, .inl (upd (upd (upd (upd (fun _ => 0) 0 (-1)) 1 (-1)) 2 (-1)) 3 (-1)))),
    ((z6 8), .inl (ca 1, 54, .inr (.inl (fun _ => 0)))),
    ((z6 9), .inr (0, [.int 0, .ref (z6 10), .ref (z6 11)])),
    ((z6 10), .inl (ca 0, 60, .inl (fun _ => 0))),
    ((z6 11), .inl (ca 0, 6, .inl (fun _ => 0))),
    ((z6 12), .inl (ca 0, 48, .inl (fun _ => 0))),
    ((z6 13), .inl (ca 0, 18, .inl (fun _ => 0))),
    (q7, .inr (2, [.ref q3, .ref (z8 0), .ref (z8 1), .ref (z8 2), .ref (z8 3), .ref (z8 4), .ref (z8 5), .ref (z8 6), .ref (z8 7), .ref (z8 8)])),
    ((z8 0), .inl (ca 1, 432, .inr (.inl (fun _ => 0)))),
    ((z8 1), .inl (ca 1, 432, .inr (.inl (fun _ => 0)))),
    ((z8 2), .inl (ca 0, 15, .inl (fun _ => 0))),
    ((z8 3), .inl (ca 0, 15, .inl (fun _ => 0))),
    ((z8 4), .inl (ca 1, 3, .inr (.inl (fun _ => 0)))),
    ((z8 5), .inl (ca 1, 3, .inr (.inl (fun _ => 0)))),
    ((z8 6), .inl (ca 1, 3, .inr (.inl (fun _ => 0)))),
    ((z8 7), .inl (ca 1, 3, .inr (.inl (fun _ => 0)))),
    ((z8 8), .inl (ca 1, 3, .inr (.inl (fun _ => 0)))),
    (q9, .inr (1, [.ref q3, .ref q7, .ref (z10 0), .ref (z10 1), .int 0, .ref (z10 2), .int 0, .int 0, .int 0, .ref (z10 3)])),
    ((z10 0), .inl (ca 0, 4, .inl (fun _ => 0))),
    ((z10 1), .inl (ca 0, 6, .inl (fun _ => 0))),
    ((z10 2), .inl (ca 0, 4, .inl (fun _ => 0))),
    ((z10 3), .inl (ca 1, 3, .inr (.inl (fun _ => 0)))),
    (q11, .inr (5, [.null, .null, .int 0]))] H _ := hw
  refine lv_dup hx hb dX7_init_75 rfl ?_
  refine k_NN (av := []) (rest := [.ref q11, .ref h0]) (wc := [(q11, .inr (5, [.null, .null, .int 0]))]) (wr := [(h0, .inr (6, [.ref q1, .ref q3, .ref q5, .ref q7, .ref q9, .null, .int 0])),
    (q1, .inr (4, [.ref (z2 0), .int 0, .int (-1), .ref (z2 1), .int 0, .int 0, .int 0, .int 0, .int 0, .int 0])),
    ((z2 0), .inl (ca 0, 400, .inl (fun _ => 0))),
    ((z2 1), .inl (ca 0, 100, .inl (fun _ => 0))),
    (q3, .inr (3, [.int 0, .ref (z4 0), .ref (z4 1), .ref (z4 2), .ref (z4 3), .int 0, .ref (z4 4), .ref (z4 5), .ref (z4 6), .ref (z4 7), .int 0, .ref (z4 8), .ref (z4 9), .int 0, .ref (z4 12), .int 0, .ref (z4 13), .int 0, .int 2])),
    ((z4 0), .inl (ca 0, 6, .inl (fun _ => 0))),
    ((z4 1), .inl (ca 0, 6, .inl (fun _ => 0))),
    ((z4 2), .inl (ca 0, 6, .inl (fun _ => 0))),
    ((z4 3), .inl (ca 0, 6, .inl (fun _ => 0))),
    ((z4 4), .inl (ca 0, 4, .inl (fun _ => 0))),
    ((z4 5), .inl (ca 0, 4, .inl (fun _ => 0))),
    ((z4 6), .inl (ca 0, 4, .inl (fun _ => 0))),
    ((z4 7), .inl (ca 0, 4, .inl (upd (upd (upd (upd (fun _ => 0) 0 (-1)) 1 (-1)) 2 (-1)) 3 (-1)))),
    ((z4 8), .inl (ca 1, 54, .inr (.inl (fun _ => 0)))),
    ((z4 9), .inr (0, [.int 0, .ref (z4 10), .ref (z4 11)])),
    ((z4 10), .inl (ca 0, 60, .inl (fun _ => 0))),
    ((z4 11), .inl (ca 0, 6, .inl (fun _ => 0))),
    ((z4 12), .inl (ca 0, 48, .inl (fun _ => 0))),
    ((z4 13), .inl (ca 0, 18, .inl (fun _ => 0))),
    (q5, .inr (3, [.int 0, .ref (z6 0), .ref (z6 1), .ref (z6 2), .ref (z6 3), .int 0, .ref (z6 4), .ref (z6 5), .ref (z6 6), .ref (z6 7), .int 0, .ref (z6 8), .ref (z6 9), .int 0, .ref (z6 12), .int 0, .ref (z6 13), .int 0, .int 2])),
    ((z6 0), .inl (ca 0, 6, .inl (fun _ => 0))),
    ((z6 1), .inl (ca 0, 6, .inl (fun _ => 0))),
    ((z6 2), .inl (ca 0, 6, .inl (fun _ => 0))),
    ((z6 3), .inl (ca 0, 6, .inl (fun _ => 0))),
    ((z6 4), .inl (ca 0, 4, .inl (fun _ => 0))),
    ((z6 5), .inl (ca 0, 4, .inl (fun _ => 0))),
    ((z6 6), .inl (ca 0, 4, .inl (fun _ => 0))),
    ((z6 7), .inl (ca 0, 4, .inl (upd (upd (upd (upd (fun _ => 0) 0 (-1)) 1 (-1)) 2 (-1)) 3 (-1)))),
    ((z6 8), .inl (ca 1, 54, .inr (.inl (fun _ => 0)))),
    ((z6 9), .inr (0, [.int 0, .ref (z6 10), .ref (z6 11)])),
    ((z6 10), .inl (ca 0, 60, .inl (fun _ => 0))),
    ((z6 11), .inl (ca 0, 6, .inl (fun _ => 0))),
    ((z6 12), .inl (ca 0, 48, .inl (fun _ => 0))),
    ((z6 13), .inl (ca 0, 18, .inl (fun _ => 0))),
    (q7, .inr (2, [.ref q3, .ref (z8 0), .ref (z8 1), .ref (z8 2), .ref (z8 3), .ref (z8 4), .ref (z8 5), .ref (z8 6), .ref (z8 7), .ref (z8 8)])),
    ((z8 0), .inl (ca 1, 432, .inr (.inl (fun _ => 0)))),
    ((z8 1), .inl (ca 1, 432, .inr (.inl (fun _ => 0)))),
    ((z8 2), .inl (ca 0, 15, .inl (fun _ => 0))),
    ((z8 3), .inl (ca 0, 15, .inl (fun _ => 0))),
    ((z8 4), .inl (ca 1, 3, .inr (.inl (fun _ => 0)))),
    ((z8 5), .inl (ca 1, 3, .inr (.inl (fun _ => 0)))),
    ((z8 6), .inl (ca 1, 3, .inr (.inl (fun _ => 0)))),
    ((z8 7), .inl (ca 1, 3, .inr (.inl (fun _ => 0)))),
    ((z8 8), .inl (ca 1, 3, .inr (.inl (fun _ => 0)))),
    (q9, .inr (1, [.ref q3, .ref q7, .ref (z10 0), .ref (z10 1), .int 0, .ref (z10 2), .int 0, .int 0, .int 0, .ref (z10 3)])),
    ((z10 0), .inl (ca 0, 4, .inl (fun _ => 0))),
    ((z10 1), .inl (ca 0, 6, .inl (fun _ => 0))),
    ((z10 2), .inl (ca 0, 4, .inl (fun _ => 0))),
    ((z10 3), .inl (ca 1, 3, .inr (.inl (fun _ => 0))))]) ⟨hx, hb, hml, hown, htg⟩ [49] [0, 1, 2, 3, 4, 5, 6, 7, 8, 9, 10, 11, 12, 13, 14, 15, 16, 17, 18, 19, 20, 21, 22, 23, 24, 25, 26, 27, 28, 29, 30, 31, 32, 33, 34, 35, 36, 37, 38, 39, 40, 41, 42, 43, 44, 45, 46, 47, 48] rfl rfl rfl rfl (by decide) (fun hD9 => n_X6_init l D ca _ q11 hD9) mw350 hN.2.2 mw85 mw349 rfl nd_X6_init ⟨Nat.le_of_ble_eq_true rfl, Nat.le_of_ble_eq_true rfl⟩ rfl rfl hK hN hw hA hl.1 rfl (Nat.le_of_ble_eq_true rfl) dX7_init_76 ⟨Nat.le_of_ble_eq_true rfl, Nat.le_of_ble_eq_true rfl⟩ (fun z12 H locs hw => ?_)
  replace hw : Wd D A s.heap [(h0, .inr (6, [.ref q1, .ref q3, .ref q5, .ref q7, .ref q9, .null, .int 0])),
    (q1, .inr (4, [.ref (z2 0), .int 0, .int (-1), .ref (z2 1), .int 0, .int 0, .int 0, .int 0, .int 0, .int 0])),
    ((z2 0), .inl (ca 0, 400, .inl (fun _ => 0))),
    ((z2 1), .inl (ca 0, 100, .inl (fun _ => 0))),
    (q3, .inr (3, [.int 0, .ref (z4 0), .ref (z4 1), .ref (z4 2), .ref (z4 3), .int 0, .ref (z4 4), .ref (z4 5), .ref (z4 6), .ref (z4 7), .int 0, .ref (z4 8), .ref (z4 9), .int 0, .ref (z4 12), .int 0, .ref (z4 13), .int 0, .int 2])),
    ((z4 0), .inl (ca 0, 6, .inl (fun _ => 0))),
    ((z4 1), .inl (ca 0, 6, .inl (fun _ => 0))),
    ((z4 2), .inl (ca 0, 6, .inl (fun _ => 0))),
    ((z4 3), .inl (ca 0, 6, .inl (fun _ => 0))),
    ((z4 4), .inl (ca 0, 4, .inl (fun _ => 0))),
    ((z4 5), .inl (ca 0, 4, .inl (fun _ => 0))),
    ((z4 6), .inl (ca 0, 4, .inl (fun _ => 0))),
    ((z4 7), .inl (ca 0, 4, .inl (upd (upd (upd (upd (fun _ => 0) 0 (-1)) 1 (-1)) 2 (-1)) 3 (-1)))),
    ((z4 8), .inl (ca 1, 54, .inr (.inl (fun _ => 0)))),
    ((z4 9), .inr (0, [.int 0, .ref (z4 10), .ref (z4 11)])),
    ((z4 10), .inl (ca 0, 60, .inl (fun _ => 0))),
    ((z4 11), .inl (ca 0, 6, .inl (fun _ => 0))),
    ((z4 12), .inl (ca 0, 48, .inl (fun _ => 0))),
    ((z4 13), .inl (ca 0, 18, .inl (fun _ => 0))),
    (q5, .inr (3, [.int 0, .ref (z6 0), .ref (z6 1), .ref (z6 2), .ref (z6 3), .int 0, .ref (z6 4), .ref (z6 5), .ref (z6 6), .ref (z6 7), .int 0, .ref (z6 8), .ref (z6 9), .int 0, .ref (z6 12), .int 0, .ref (z6 13), .int 0, .int 2])),
    ((z6 0), .inl (ca 0, 6, .inl (fun _ => 0))),
    ((z6 1), .inl (ca 0, 6, .inl (fun _ => 0))),
    ((z6 2), .inl (ca 0, 6, .inl (fun _ => 0))),
    ((z6 3), .inl (ca 0, 6, .inl (fun _ => 0))),
    ((z6 4), .inl (ca 0, 4, .inl (fun _ => 0))),
    ((z6 5), .inl (ca 0, 4, .inl (fun _ => 0))),
    ((z6 6), .inl (ca 0, 4, .inl (fun _ => 0))),
    ((z6 7), .inl (ca 0, 4, .inl (upd (upd (upd (upd (fun _ => 0) 0 (-1)) 1 (-1)) 2 (-1)) 3 (-1)))),
    ((z6 8), .inl (ca 1, 54, .inr (.inl (fun _ => 0)))),
    ((z6 9), .inr (0, [.int 0, .ref (z6 10), .ref (z6 11)])),
    ((z6 10), .inl (ca 0, 60, .inl (fun _ => 0))),
    ((z6 11), .inl (ca 0, 6, .inl (fun _ => 0))),
    ((z6 12), .inl (ca 0, 48, .inl (fun _ => 0))),
    ((z6 13), .inl (ca 0, 18, .inl (fun _ => 0))),
    (q7, .inr (2, [.ref q3, .ref (z8 0), .ref (z8 1), .ref (z8 2), .ref (z8 3), .ref (z8 4), .ref (z8 5), .ref (z8 6), .ref (z8 7), .ref (z8 8)])),
    ((z8 0), .inl (ca 1, 432, .inr (.inl (fun _ => 0)))),
    ((z8 1), .inl (ca 1, 432, .inr (.inl (fun _ => 0)))),
    ((z8 2), .inl (ca 0, 15, .inl (fun _ => 0))),
    ((z8 3), .inl (ca 0, 15, .inl (fun _ => 0))),
    ((z8 4), .inl (ca 1, 3, .inr (.inl (fun _ => 0)))),
    ((z8 5), .inl (ca 1, 3, .inr (.inl (fun _ => 0)))),
    ((z8 6), .inl (ca 1, 3, .inr (.inl (fun _ => 0)))),
    ((z8 7), .inl (ca 1, 3, .inr (.inl (fun _ => 0)))),
    ((z8 8), .inl (ca 1, 3, .inr (.inl (fun _ => 0)))),
    (q9, .inr (1, [.ref q3, .ref q7, .ref (z10 0), .ref (z10 1), .int 0, .ref (z10 2), .int 0, .int 0, .int 0, .ref (z10 3)])),
    ((z10 0), .inl (ca 0, 4, .inl (fun _ => 0))),
    ((z10 1), .inl (ca 0, 6, .inl (fun _ => 0))),
    ((z10 2), .inl (ca 0, 4, .inl (fun _ => 0))),
    ((z10 3), .inl (ca 1, 3, .inr (.inl (fun _ => 0)))),
    (q11, .inr (5, [.ref (z12 0), .ref (z12 1), .int 0])),
    ((z12 0), .inl (ca 0, 1024, .inl (fun _ => 0))),
    ((z12 1), .inl (ca 0, 64, .inl (fun _ => 0)))] H _ := hw
  refine r_putF (C := RX7) (T := TX7) (N := 7) (ws' := [(h0, .inr (6, [.ref q1, .ref q3, .ref q5, .ref q7, .ref q9, .ref q11, .int 0])),
    (q1, .inr (4, [.ref (z2 0), .int 0, .int (-1), .ref (z2 1), .int 0, .int 0, .int 0, .int 0, .int 0, .int 0])),
    ((z2 0), .inl (ca 0, 400, .inl (fun _ => 0))),
    ((z2 1), .inl (ca 0, 100, .inl (fun _ => 0))),
    (q3, .inr (3, [.int 0, .ref (z4 0), .ref (z4 1), .ref (z4 2), .ref (z4 3), .int 0, .ref (z4 4), .ref (z4 5), .ref (z4 6), .ref (z4 7), .int 0, .ref (z4 8), .ref (z4 9), .int 0, .ref (z4 12), .int 0, .ref (z4 13), .int 0, .int 2])),
    ((z4 0), .inl (ca 0, 6, .inl (fun _ => 0))),
    ((z4 1), .inl (ca 0, 6, .inl (fun _ => 0))),
    ((z4 2), .inl (ca 0, 6, .inl (fun _ => 0))),
    ((z4 3), .inl (ca 0, 6, .inl (fun _ => 0))),
    ((z4 4), .inl (ca 0, 4, .inl (fun _ => 0))),
    ((z4 5), .inl (ca 0, 4, .inl (fun _ => 0))),
    ((z4 6), .inl (ca 0, 4, .inl (fun _ => 0))),
    ((z4 7), .inl (ca 0, 4, .inl (upd (upd (upd (upd (fun _ => 0) 0 (-1)) 1 (-1)) 2 (-1)) 3 (-1)))),
    ((z4 8), .inl (ca 1, 54, .inr (.inl (fun _ => 0)))),
    ((z4 9), .inr (0, [.int 0, .ref (z4 10), .ref (z4 11)])),
    ((z4 10), .inl (ca 0, 60, .inl (fun _ => 0))),
    ((z4 11), .inl (ca 0, 6, .inl (fun _ => 0))),
    ((z4 12), .inl (ca 0, 48, .inl (fun _ => 0))),
    ((z4 13), .inl (ca 0, 18, .inl (fun _ => 0))),
    (q5, .inr (3, [.int 0, .ref (z6 0), .ref (z6 1), .ref (z6 2), .ref (z6 3), .int 0, .ref (z6 4), .ref (z6 5), .ref (z6 6), .ref (z6 7), .int 0, .ref (z6 8), .ref (z6 9), .int 0, .ref (z6 12), .int 0, .ref (z6 13), .int 0, .int 2])),
    ((z6 0), .inl (ca 0, 6, .inl (fun _ => 0))),
    ((z6 1), .inl (ca 0, 6, .inl (fun _ => 0))),
    ((z6 2), .inl (ca 0, 6, .inl (fun _ => 0))),
    ((z6 3), .inl (ca 0, 6, .inl (fun _ => 0))),
    ((z6 4), .inl (ca 0, 4, .inl (fun _ => 0))),
    ((z6 5), .inl (ca 0, 4, .inl (fun _ => 0))),
    ((z6 6), .inl (ca 0, 4, .inl (fun _ => 0))),
    ((z6 7), .inl (ca 0, 4, .inl (upd (upd (upd (upd (fun _ => 0) 0 (-1)) 1 (-1)) 2 (-1)) 3 (-1)))),
    ((z6 8), .inl (ca 1, 54, .inr (.inl (fun _ => 0)))),
    ((z6 9), .inr (0, [.int 0, .ref (z6 10), .ref (z6 11)])),
    ((z6 10), .inl (ca 0, 60, .inl (fun _ => 0))),
    ((z6 11), .inl (ca 0, 6, .inl (fun _ => 0))),
    ((z6 12), .inl (ca 0, 48, .inl (fun _ => 0))),
    ((z6 13), .inl (ca 0, 18, .inl (fun _ => 0))),
    (q7, .inr (2, [.ref q3, .ref (z8 0), .ref (z8 1), .ref (z8 2), .ref (z8 3), .ref (z8 4), .ref (z8 5), .ref (z8 6), .ref (z8 7), .ref (z8 8)])),
    ((z8 0), .inl (ca 1, 432, .inr (.inl (fun _ => 0)))),
    ((z8 1), .inl (ca 1, 432, .inr (.inl (fun _ => 0)))),
    ((z8 2), .inl (ca 0, 15, .inl (fun _ => 0))),
    ((z8 3), .inl (ca 0, 15, .inl (fun _ => 0))),
    ((z8 4), .inl (ca 1, 3, .inr (.inl (fun _ => 0)))),
    ((z8 5), .inl (ca 1, 3, .inr (.inl (fun _ => 0)))),
    ((z8 6), .inl (ca 1, 3, .inr (.inl (fun _ => 0)))),
    ((z8 7), .inl (ca 1, 3, .inr (.inl (fun _ => 0)))),
    ((z8 8), .inl (ca 1, 3, .inr (.inl (fun _ => 0)))),
    (q9, .inr (1, [.ref q3, .ref q7, .ref (z10 0), .ref (z10 1), .int 0, .ref (z10 2), .int 0, .int 0, .int 0, .ref (z10 3)])),
    ((z10 0), .inl (ca 0, 4, .inl (fun _ => 0))),
    ((z10 1), .inl (ca 0, 6, .inl (fun _ => 0))),
    ((z10 2), .inl (ca 0, 4, .inl (fun _ => 0))),
    ((z10 3), .inl (ca 1, 3, .inr (.inl (fun _ => 0)))),
    (q11, .inr (5, [.ref (z12 0), .ref (z12 1), .int 0])),
    ((z12 0), .inl (ca 0, 1024, .inl (fun _ => 0))),
    ((z12 1), .inl (ca 0, 64, .inl (fun _ => 0)))]) hx hb htg iX7 tyX7 tyX7_ok nmX7 hown hin2 hK hw 0 rfl rfl 5 (by decide) mw367 rfl rfl rfl rfl (Nat.le_of_ble_eq_true rfl) dX7_init_79 rfl (fun H locs hw => ?_)
  refine lv_aload_n hx hb dX7_init_82 rfl (lv_at hl 0 rfl) ?_
  refine lv_iconst (v := (0 : Int32)) hx hb dX7_init_83 (by decide) ?_
  refine r_put (C := RX7) (T := TX7) (N := 7) (ws' := [(h0, .inr (6, [.ref q1, .ref q3, .ref q5, .ref q7, .ref q9, .ref q11, .int 0])),
    (q1, .inr (4, [.ref (z2 0), .int 0, .int (-1), .ref (z2 1), .int 0, .int 0, .int 0, .int 0, .int 0, .int 0])),
    ((z2 0), .inl (ca 0, 400, .inl (fun _ => 0))),
    ((z2 1), .inl (ca 0, 100, .inl (fun _ => 0))),
    (q3, .inr (3, [.int 0, .ref (z4 0), .ref (z4 1), .ref (z4 2), .ref (z4 3), .int 0, .ref (z4 4), .ref (z4 5), .ref (z4 6), .ref (z4 7), .int 0, .ref (z4 8), .ref (z4 9), .int 0, .ref (z4 12), .int 0, .ref (z4 13), .int 0, .int 2])),
    ((z4 0), .inl (ca 0, 6, .inl (fun _ => 0))),
    ((z4 1), .inl (ca 0, 6, .inl (fun _ => 0))),
    ((z4 2), .inl (ca 0, 6, .inl (fun _ => 0))),
    ((z4 3), .inl (ca 0, 6, .inl (fun _ => 0))),
    ((z4 4), .inl (ca 0, 4, .inl (fun _ => 0))),
    ((z4 5), .inl (ca 0, 4, .inl (fun _ => 0))),
    ((z4 6), .inl (ca 0, 4, .inl (fun _ => 0))),
    ((z4 7), .inl (ca 0, 4, .inl (upd (upd (upd (upd (fun _ => 0) 0 (-1)) 1 (-1)) 2 (-1)) 3 (-1)))),
    ((z4 8), .inl (ca 1, 54, .inr (.inl (fun _ => 0)))),
    ((z4 9), .inr (0, [.int 0, .ref (z4 10), .ref (z4 11)])),
    ((z4 10), .inl (ca 0, 60, .inl (fun _ => 0))),
    ((z4 11), .inl (ca 0, 6, .inl (fun _ => 0))),
    ((z4 12), .inl (ca 0, 48, .inl (fun _ => 0))),
    ((z4 13), .inl (ca 0, 18, .inl (fun _ => 0))),
    (q5, .inr (3, [.int 0, .ref (z6 0), .ref (z6 1), .ref (z6 2), .ref (z6 3), .int 0, .ref (z6 4), .ref (z6 5), .ref (z6 6), .ref (z6 7), .int 0, .ref (z6 8), .ref (z6 9), .int 0, .ref (z6 12), .int 0, .ref (z6 13), .int 0, .int 2])),
    ((z6 0), .inl (ca 0, 6, .inl (fun _ => 0))),
    ((z6 1), .inl (ca 0, 6, .inl (fun _ => 0))),
    ((z6 2), .inl (ca 0, 6, .inl (fun _ => 0))),
    ((z6 3), .inl (ca 0, 6, .inl (fun _ => 0))),
    ((z6 4), .inl (ca 0, 4, .inl (fun _ => 0))),
    ((z6 5), .inl (ca 0, 4, .inl (fun _ => 0))),
    ((z6 6), .inl (ca 0, 4, .inl (fun _ => 0))),
    ((z6 7), .inl (ca 0, 4, .inl (upd (upd (upd (upd (fun _ => 0) 0 (-1)) 1 (-1)) 2 (-1)) 3 (-1)))),
    ((z6 8), .inl (ca 1, 54, .inr (.inl (fun _ => 0)))),
    ((z6 9), .inr (0, [.int 0, .ref (z6 10), .ref (z6 11)])),
    ((z6 10), .inl (ca 0, 60, .inl (fun _ => 0))),
    ((z6 11), .inl (ca 0, 6, .inl (fun _ => 0))),
    ((z6 12), .inl (ca 0, 48, .inl (fun _ => 0))),
    ((z6 13), .inl (ca 0, 18, .inl (fun _ => 0))),
    (q7, .inr (2, [.ref q3, .ref (z8 0), .ref (z8 1), .ref (z8 2), .ref (z8 3), .ref (z8 4), .ref (z8 5), .ref (z8 6), .ref (z8 7), .ref (z8 8)])),
    ((z8 0), .inl (ca 1, 432, .inr (.inl (fun _ => 0)))),
    ((z8 1), .inl (ca 1, 432, .inr (.inl (fun _ => 0)))),
    ((z8 2), .inl (ca 0, 15, .inl (fun _ => 0))),
    ((z8 3), .inl (ca 0, 15, .inl (fun _ => 0))),
    ((z8 4), .inl (ca 1, 3, .inr (.inl (fun _ => 0)))),
    ((z8 5), .inl (ca 1, 3, .inr (.inl (fun _ => 0)))),
    ((z8 6), .inl (ca 1, 3, .inr (.inl (fun _ => 0)))),
    ((z8 7), .inl (ca 1, 3, .inr (.inl (fun _ => 0)))),
    ((z8 8), .inl (ca 1, 3, .inr (.inl (fun _ => 0)))),
    (q9, .inr (1, [.ref q3, .ref q7, .ref (z10 0), .ref (z10 1), .int 0, .ref (z10 2), .int 0, .int 0, .int 0, .ref (z10 3)])),
    ((z10 0), .inl (ca 0, 4, .inl (fun _ => 0))),
    ((z10 1), .inl (ca 0, 6, .inl (fun _ => 0))),
    ((z10 2), .inl (ca 0, 4, .inl (fun _ => 0))),
    ((z10 3), .inl (ca 1, 3, .inr (.inl (fun _ => 0)))),
    (q11, .inr (5, [.ref (z12 0), .ref (z12 1), .int 0])),
    ((z12 0), .inl (ca 0, 1024, .inl (fun _ => 0))),
    ((z12 1), .inl (ca 0, 64, .inl (fun _ => 0)))]) hx hb htg iX7 tyX7 tyX7_ok nmX7 hown hK hw 0 rfl rfl 6 (by decide) mw368 rfl rfl rfl (Nat.le_of_ble_eq_true rfl) dX7_init_84 rfl (fun H locs hw => ?_)
  replace hw := hw.perm (ws' := (wC ca (fun i => ([h0, q1, q3, q5, q7, q9, q11, (z4 9), (z6 9), (z2 0), (z2 1), (z4 0), (z4 1), (z4 2), (z4 3), (z4 4), (z4 5), (z4 6), (z4 7), (z4 8), (z4 12), (z4 13), (z6 0), (z6 1), (z6 2), (z6 3), (z6 4), (z6 5), (z6 6), (z6 7), (z6 8), (z6 12), (z6 13), (z8 0), (z8 1), (z8 2), (z8 3), (z8 4), (z8 5), (z8 6), (z8 7), (z8 8), (z10 0), (z10 1), (z10 2), (z10 3), (z12 0), (z12 1), (z4 10), (z4 11), (z6 10), (z6 11)] : List Nat).getD i 0) 0 (fun _ => 0) 0 (-1) (fun _ => 0) 0 0 0 0 0 0 0 (fun _ => 0) (fun _ => 0) (fun _ => 0) (fun _ => 0) 0 (fun _ => 0) (fun _ => 0) (fun _ => 0) (upd (upd (upd (upd (fun _ => 0) 0 (-1)) 1 (-1)) 2 (-1)) 3 (-1)) 0 (fun _ => 0) 0 (fun _ => 0) 0 (fun _ => 0) 0 2 0 (fun _ => 0) (fun _ => 0) (fun _ => 0) (fun _ => 0) 0 (fun _ => 0) (fun _ => 0) (fun _ => 0) (upd (upd (upd (upd (fun _ => 0) 0 (-1)) 1 (-1)) 2 (-1)) 3 (-1)) 0 (fun _ => 0) 0 (fun _ => 0) 0 (fun _ => 0) 0 2 (fun _ => 0) (fun _ => 0) (fun _ => 0) (fun _ => 0) (fun _ => 0) (fun _ => 0) (fun _ => 0) (fun _ => 0) (fun _ => 0) (fun _ => 0) (fun _ => 0) 0 (fun _ => 0) 0 0 0 (fun _ => 0) (fun _ => 0) (fun _ => 0) 0 0 (fun _ => 0) (fun _ => 0) 0 (fun _ => 0) (fun _ => 0))) [0, 1, 4, 19, 34, 44, 49, 14, 29, 2, 3, 5, 6, 7, 8, 9, 10, 11, 12, 13, 17, 18, 20, 21, 22, 23, 24, 25, 26, 27, 28, 32, 33, 35, 36, 37, 38, 39, 40, 41, 42, 43, 45, 46, 47, 48, 50, 51, 15, 16, 30, 31] rfl rfl
  exact retn (fun i => ([q1, q3, q5, q7, q9, q11, (z4 9), (z6 9), (z2 0), (z2 1), (z4 0), (z4 1), (z4 2), (z4 3), (z4 4), (z4 5), (z4 6), (z4 7), (z4 8), (z4 12), (z4 13), (z6 0), (z6 1), (z6 2), (z6 3), (z6 4), (z6 5), (z6 6), (z6 7), (z6 8), (z6 12), (z6 13), (z8 0), (z8 1), (z8 2), (z8 3), (z8 4), (z8 5), (z8 6), (z8 7), (z8 8), (z10 0), (z10 1), (z10 2), (z10 3), (z12 0), (z12 1), (z4 10), (z4 11), (z6 10), (z6 11)] : List Nat).getD i 0) hQ hx hb hr hk dX7_init_87 hw

def rm_n_X8_init : Room := { frames := 1, cells := 15, slots := 9095, locals := 30 }
theorem nd_X8_init : yX8_init.cls ≠ "java/lang/invoke/MethodHandle" ∧ yX8_init.cls ≠ "java/lang/invoke/VarHandle" ∧ (parseMethodDescriptor yX8_init.desc).map (fun d => d.parameters.length) = some 0 := by decide +kernel
set_option maxRecDepth 100000 in
set_option maxHeartbeats 8000000 in
theorem n_X8_init (l : Launch) (D : va_G) (ca : Nat → ClassId) (A : Nat → Prop) (h0 : Nat) (hD : va_D A [(h0, .inr (7, [.int 0, .null, .null, .int 0, .null, .int 0, .int 0, .int 0, .int 0, .int 0, .null, .int 0, .int 0, .int 0, .int 0, .int 0, .null, .int 0, .null, .null, .int 0, .int 0, .int 0, .null, .null, .null, .null, .null, .null, .null, .null]))]) : CN l yX8_init cX8_init 2 rm_n_X8_init [.ref h0] D ca A [(h0, .inr (7, [.int 0, .null, .null, .int 0, .null, .int 0, .int 0, .int 0, .int 0, .int 0, .null, .int 0, .int 0, .int 0, .int 0, .int 0, .null, .int 0, .null, .null, .int 0, .int 0, .int 0, .null, .null, .null, .null, .null, .null, .null, .null]))] (fun q => (wM ca (hd0 h0 q) 0 (upd (upd (upd (upd (upd (fun _ => 0) 6 2) 44 (-1)) 45 (-1)) 46 (-1)) 47 (-1)) (fun _ => 0) 0 (fun _ => 0) 0 0 0 0 (-1) (fun _ => 0) 0 0 0 0 0 (fun _ => 0) 0 (fun _ => 0) (fun _ => 0) 0 0 0 (fun _ => 0) (fun _ => 0) (fun _ => 0) (fun _ => 0) (fun _ => 0) (fun _ => 0) (fun _ => 0) (fun _ => 0))) 15 9095 := by
  refine CN_of (by decide) rfl (Nat.le_of_ble_eq_true rfl) hD ?_
  intro p e s m args below meth c ls Q hx hb hml hown htg hw hK hN hA hl hQ hr hk hin2
  replace hown : s.vm.findClass "LampSheetsModel" = some m.cls := hown
  replace hl : lv_has ls 2 [(0, .ref h0)] := hl
  refine lv_aload_n hx hb dX8_init_0 rfl (lv_at hl 0 rfl) ?_
  refine r_obj hx hb hml hl.1 hown htg mw1266 mw109 mw110 dX8_init_1 (Nat.le_of_ble_eq_true rfl) (Nat.le_of_ble_eq_true rfl) ?_
  refine lv_aload_n hx hb dX8_init_4 rfl (lv_at hl 0 rfl) ?_
  refine lv_sipush (v := (1182 : Int32)) hx hb dX8_init_5 (by decide) ?_
  refine r_newa (a0 := (1182, .inl (fun _ => 0))) (ty := .int) 0 hx hb htg mw155 rfl rfl (fun _ => rfl) hK hw hA (fun _ => rfl) (by decide) (by decide) (by decide) (Nat.le_of_ble_eq_true rfl) (Nat.le_of_ble_eq_true rfl) dX8_init_8 (fun q1 H hw => ?_)
  replace hw : Wd D A s.heap [(h0, .inr (7, [.int 0, .null, .null, .int 0, .null, .int 0, .int 0, .int 0, .int 0, .int 0, .null, .int 0, .int 0, .int 0, .int 0, .int 0, .null, .int 0, .null, .null, .int 0, .int 0, .int 0, .null, .null, .null, .null, .null, .null, .null, .null])),
    (q1, .inl (ca 0, 1182, .inl (fun _ => 0)))] H _ := hw
  refine r_putF (C := RX8) (T := TX8) (N := 31) (ws' := [(h0, .inr (7, [.int 0, .ref q1, .null, .int 0, .null, .int 0, .int 0, .int 0, .int 0, .int 0, .null, .int 0, .int 0, .int 0, .int 0, .int 0, .null, .int 0, .null, .null, .int 0, .int 0, .int 0, .null, .null, .null, .null, .null, .null, .null, .null])),
    (q1, .inl (ca 0, 1182, .inl (fun _ => 0)))]) hx hb htg iX8 tyX8 tyX8_ok nmX8 hown hin2 hK hw 0 rfl rfl 1 (by decide) mw1268 rfl rfl rfl rfl (Nat.le_of_ble_eq_true rfl) dX8_init_10 rfl (fun H locs hw => ?_)
  refine lv_aload_n hx hb dX8_init_13 rfl (lv_at hl 0 rfl) ?_
  refine lv_sipush (v := (1038 : Int32)) hx hb dX8_init_14 (by decide) ?_
  refine r_newa (a0 := (1038, .inl (fun _ => 0))) (ty := .int) 0 hx hb htg mw155 rfl rfl (fun _ => rfl) hK hw hA (fun _ => rfl) (by decide) (by decide) (by decide) (Nat.le_of_ble_eq_true rfl) (Nat.le_of_ble_eq_true rfl) dX8_init_17 (fun q2 H hw => ?_)
  replace hw : Wd D A s.heap [(h0, .inr (7, [.int 0, .ref q1, .null, .int 0, .null, .int 0, .int 0, .int 0, .int 0, .int 0, .null, .int 0, .int 0, .int 0, .int 0, .int 0, .null, .int 0, .null, .null, .int 0, .int 0, .int 0, .null, .null, .null, .null, .null, .null, .null, .null])),
    (q1, .inl (ca 0, 1182, .inl (fun _ => 0))),
    (q2, .inl (ca 0, 1038, .inl (fun _ => 0)))] H _ := hw
  refine r_putF (C := RX8) (T := TX8) (N := 31) (ws' := [(h0, .inr (7, [.int 0, .ref q1, .ref q2, .int 0, .null, .int 0, .int 0, .int 0, .int 0, .int 0, .null, .int 0, .int 0, .int 0, .int 0, .int 0, .null, .int 0, .null, .null, .int 0, .int 0, .int 0, .null, .null, .null, .null, .null, .null, .null, .null])),
    (q1, .inl (ca 0, 1182, .inl (fun _ => 0))),
    (q2, .inl (ca 0, 1038, .inl (fun _ => 0)))]) hx hb htg iX8 tyX8 tyX8_ok nmX8 hown hin2 hK hw 0 rfl rfl 2 (by decide) mw1269 rfl rfl rfl rfl (Nat.le_of_ble_eq_true rfl) dX8_init_19 rfl (fun H locs hw => ?_)
  refine lv_aload_n hx hb dX8_init_22 rfl (lv_at hl 0 rfl) ?_
  refine lv_sipush (v := (400 : Int32)) hx hb dX8_init_23 (by decide) ?_
  refine r_newa (a0 := (400, .inl (fun _ => 0))) (ty := .byte) 2 hx hb htg mw544 rfl rfl (fun _ => rfl) hK hw hA (fun _ => rfl) (by decide) (by decide) (by decide) (Nat.le_of_ble_eq_true rfl) (Nat.le_of_ble_eq_true rfl) dX8_init_26 (fun q3 H hw => ?_)
  replace hw : Wd D A s.heap [(h0, .inr (7, [.int 0, .ref q1, .ref q2, .int 0, .null, .int 0, .int 0, .int 0, .int 0, .int 0, .null, .int 0, .int 0, .int 0, .int 0, .int 0, .null, .int 0, .null, .null, .int 0, .int 0, .int 0, .null, .null, .null, .null, .null, .null, .null, .null])),
    (q1, .inl (ca 0, 1182, .inl (fun _ => 0))),
    (q2, .inl (ca 0, 1038, .inl (fun _ => 0))),
    (q3, .inl (ca 2, 400, .inl (fun _ => 0)))] H _ := hw
  refine r_putF (C := RX8) (T := TX8) (N := 31) (ws' := [(h0, .inr (7, [.int 0, .ref q1, .ref q2, .int 0, .ref q3, .int 0, .int 0, .int 0, .int 0, .int 0, .null, .int 0, .int 0, .int 0, .int 0, .int 0, .null, .int 0, .null, .null, .int 0, .int 0, .int 0, .null, .null, .null, .null, .null, .null, .null, .null])),
    (q1, .inl (ca 0, 1182, .inl (fun _ => 0))),
    (q2, .inl (ca 0, 1038, .inl (fun _ => 0))),
    (q3, .inl (ca 2, 400, .inl (fun _ => 0)))]) hx hb htg iX8 tyX8 tyX8_ok nmX8 hown hin2 hK hw 0 rfl rfl 4 (by decide) mw1271 rfl rfl rfl rfl (Nat.le_of_ble_eq_true rfl) dX8_init_28 rfl (fun H locs hw => ?_)
  refine lv_aload_n hx hb dX8_init_31 rfl (lv_at hl 0 rfl) ?_
  refine lv_iconst (v := (-1 : Int32)) hx hb dX8_init_32 (by decide) ?_
  refine r_put (C := RX8) (T := TX8) (N := 31) (ws' := [(h0, .inr (7, [.int 0, .ref q1, .ref q2, .int 0, .ref q3, .int 0, .int 0, .int 0, .int 0, .int (-1), .null, .int 0, .int 0, .int 0, .int 0, .int 0, .null, .int 0, .null, .null, .int 0, .int 0, .int 0, .null, .null, .null, .null, .null, .null, .null, .null])),
    (q1, .inl (ca 0, 1182, .inl (fun _ => 0))),
    (q2, .inl (ca 0, 1038, .inl (fun _ => 0))),
    (q3, .inl (ca 2, 400, .inl (fun _ => 0)))]) hx hb htg iX8 tyX8 tyX8_ok nmX8 hown hK hw 0 rfl rfl 9 (by decide) mw1276 rfl rfl rfl (Nat.le_of_ble_eq_true rfl) dX8_init_33 rfl (fun H locs hw => ?_)
  refine lv_aload_n hx hb dX8_init_36 rfl (lv_at hl 0 rfl) ?_
  refine lv_iconst (v := (5 : Int32)) hx hb dX8_init_37 (by decide) ?_
  refine r_newa (a0 := (5, .inl (fun _ => 0))) (ty := .int) 0 hx hb htg mw155 rfl rfl (fun _ => rfl) hK hw hA (fun _ => rfl) (by decide) (by decide) (by decide) (Nat.le_of_ble_eq_true rfl) (Nat.le_of_ble_eq_true rfl) dX8_init_38 (fun q4 H hw => ?_)
  replace hw : Wd D A s.heap [(h0, .inr (7, [.int 0, .ref q1, .ref q2, .int 0, .ref q3, .int 0, .int 0, .int 0, .int 0, .int (-1), .null, .int 0, .int 0, .int 0, .int 0, .int 0, .null, .int 0, .null, .null, .int 0, .int 0, .int 0, .null, .null, .null, .null, .null, .null, .null, .null])),
    (q1, .inl (ca 0, 1182, .inl (fun _ => 0))),
    (q2, .inl (ca 0, 1038, .inl (fun _ => 0))),
    (q3, .inl (ca 2, 400, .inl (fun _ => 0))),
    (q4, .inl (ca 0, 5, .inl (fun _ => 0)))] H _ := hw
  refine r_putF (C := RX8) (T := TX8) (N := 31) (ws' := [(h0, .inr (7, [.int 0, .ref q1, .ref q2, .int 0, .ref q3, .int 0, .int 0, .int 0, .int 0, .int (-1), .ref q4, .int 0, .int 0, .int 0, .int 0, .int 0, .null, .int 0, .null, .null, .int 0, .int 0, .int 0, .null, .null, .null, .null, .null, .null, .null, .null])),
    (q1, .inl (ca 0, 1182, .inl (fun _ => 0))),
    (q2, .inl (ca 0, 1038, .inl (fun _ => 0))),
    (q3, .inl (ca 2, 400, .inl (fun _ => 0))),
    (q4, .inl (ca 0, 5, .inl (fun _ => 0)))]) hx hb htg iX8 tyX8 tyX8_ok nmX8 hown hin2 hK hw 0 rfl rfl 10 (by decide) mw1277 rfl rfl rfl rfl (Nat.le_of_ble_eq_true rfl) dX8_init_40 rfl (fun H locs hw => ?_)
  refine lv_aload_n hx hb dX8_init_43 rfl (lv_at hl 0 rfl) ?_
  refine lv_sipush (v := (225 : Int32)) hx hb dX8_init_44 (by decide) ?_
  refine r_newa (a0 := (225, .inl (fun _ => 0))) (ty := .int) 0 hx hb htg mw155 rfl rfl (fun _ => rfl) hK hw hA (fun _ => rfl) (by decide) (by decide) (by decide) (Nat.le_of_ble_eq_true rfl) (Nat.le_of_ble_eq_true rfl) dX8_init_47 (fun q5 H hw => ?_)
  replace hw : Wd D A s.heap [(h0, .inr (7, [.int 0, .ref q1, .ref q2, .int 0, .ref q3, .int 0, .int 0, .int 0, .int 0, .int (-1), .ref q4, .int 0, .int 0, .int 0, .int 0, .int 0, .null, .int 0, .null, .null, .int 0, .int 0, .int 0, .null, .null, .null, .null, .null, .null, .null, .null])),
    (q1, .inl (ca 0, 1182, .inl (fun _ => 0))),
    (q2, .inl (ca 0, 1038, .inl (fun _ => 0))),
    (q3, .inl (ca 2, 400, .inl (fun _ => 0))),
    (q4, .inl (ca 0, 5, .inl (fun _ => 0))),
    (q5, .inl (ca 0, 225, .inl (fun _ => 0)))] H _ := hw
  refine r_putF (C := RX8) (T := TX8) (N := 31) (ws' := [(h0, .inr (7, [.int 0, .ref q1, .ref q2, .int 0, .ref q3, .int 0, .int 0, .int 0, .int 0, .int (-1), .ref q4, .int 0, .int 0, .int 0, .int 0, .int 0, .ref q5, .int 0, .null, .null, .int 0, .int 0, .int 0, .null, .null, .null, .null, .null, .null, .null, .null])),
    (q1, .inl (ca 0, 1182, .inl (fun _ => 0))),
    (q2, .inl (ca 0, 1038, .inl (fun _ => 0))),
    (q3, .inl (ca 2, 400, .inl (fun _ => 0))),
    (q4, .inl (ca 0, 5, .inl (fun _ => 0))),
    (q5, .inl (ca 0, 225, .inl (fun _ => 0)))]) hx hb htg iX8 tyX8 tyX8_ok nmX8 hown hin2 hK hw 0 rfl rfl 16 (by decide) mw1283 rfl rfl rfl rfl (Nat.le_of_ble_eq_true rfl) dX8_init_49 rfl (fun H locs hw => ?_)
  refine lv_aload_n hx hb dX8_init_52 rfl (lv_at hl 0 rfl) ?_
  refine lv_sipush (v := (3456 : Int32)) hx hb dX8_init_53 (by decide) ?_
  refine r_newa (a0 := (3456, .inl (fun _ => 0))) (ty := .byte) 2 hx hb htg mw544 rfl rfl (fun _ => rfl) hK hw hA (fun _ => rfl) (by decide) (by decide) (by decide) (Nat.le_of_ble_eq_true rfl) (Nat.le_of_ble_eq_true rfl) dX8_init_56 (fun q6 H hw => ?_)
  replace hw : Wd D A s.heap [(h0, .inr (7, [.int 0, .ref q1, .ref q2, .int 0, .ref q3, .int 0, .int 0, .int 0, .int 0, .int (-1), .ref q4, .int 0, .int 0, .int 0, .int 0, .int 0, .ref q5, .int 0, .null, .null, .int 0, .int 0, .int 0, .null, .null, .null, .null, .null, .null, .null, .null])),
    (q1, .inl (ca 0, 1182, .inl (fun _ => 0))),
    (q2, .inl (ca 0, 1038, .inl (fun _ => 0))),
    (q3, .inl (ca 2, 400, .inl (fun _ => 0))),
    (q4, .inl (ca 0, 5, .inl (fun _ => 0))),
    (q5, .inl (ca 0, 225, .inl (fun _ => 0))),
    (q6, .inl (ca 2, 3456, .inl (fun _ => 0)))] H _ := hw
  refine r_putF (C := RX8) (T := TX8) (N := 31) (ws' := [(h0, .inr (7, [.int 0, .ref q1, .ref q2, .int 0, .ref q3, .int 0, .int 0, .int 0, .int 0, .int (-1), .ref q4, .int 0, .int 0, .int 0, .int 0, .int 0, .ref q5, .int 0, .ref q6, .null, .int 0, .int 0, .int 0, .null, .null, .null, .null, .null, .null, .null, .null])),
    (q1, .inl (ca 0, 1182, .inl (fun _ => 0))),
    (q2, .inl (ca 0, 1038, .inl (fun _ => 0))),
    (q3, .inl (ca 2, 400, .inl (fun _ => 0))),
    (q4, .inl (ca 0, 5, .inl (fun _ => 0))),
    (q5, .inl (ca 0, 225, .inl (fun _ => 0))),
    (q6, .inl (ca 2, 3456, .inl (fun _ => 0)))]) hx hb htg iX8 tyX8 tyX8_ok nmX8 hown hin2 hK hw 0 rfl rfl 18 (by decide) mw1285 rfl rfl rfl rfl (Nat.le_of_ble_eq_true rfl) dX8_init_58 rfl (fun H locs hw => ?_)
  refine lv_aload_n hx hb dX8_init_61 rfl (lv_at hl 0 rfl) ?_
  refine lv_iconst (v := (4 : Int32)) hx hb dX8_init_62 (by decide) ?_
  refine r_newa (a0 := (4, .inl (fun _ => 0))) (ty := .int) 0 hx hb htg mw155 rfl rfl (fun _ => rfl) hK hw hA (fun _ => rfl) (by decide) (by decide) (by decide) (Nat.le_of_ble_eq_true rfl) (Nat.le_of_ble_eq_true rfl) dX8_init_63 (fun q7 H hw => ?_)
  replace hw : Wd D A s.heap [(h0, .inr (7, [.int 0, .ref q1, .ref q2, .int 0, .ref q3, .int 0, .int 0, .int 0, .int 0, .int (-1), .ref q4, .int 0, .int 0, .int 0, .int 0, .int 0, .ref q5, .int 0, .ref q6, .null, .int 0, .int 0, .int 0, .null, .null, .null, .null, .null, .null, .null, .null])),
    (q1, .inl (ca 0, 1182, .inl (fun _ => 0))),
    (q2, .inl (ca 0, 1038, .inl (fun _ => 0))),
    (q3, .inl (ca 2, 400, .inl (fun _ => 0))),
    (q4, .inl (ca 0, 5, .inl (fun _ => 0))),
    (q5, .inl (ca 0, 225, .inl (fun _ => 0))),
    (q6, .inl (ca 2, 3456, .inl (fun _ => 0))),
    (q7, .inl (ca 0, 4, .inl (fun _ => 0)))] H _ := hw
  refine r_putF (C := RX8) (T := TX8) (N := 31) (ws' := [(h0, .inr (7, [.int 0, .ref q1, .ref q2, .int 0, .ref q3, .int 0, .int 0, .int 0, .int 0, .int (-1), .ref q4, .int 0, .int 0, .int 0, .int 0, .int 0, .ref q5, .int 0, .ref q6, .ref q7, .int 0, .int 0, .int 0, .null, .null, .null, .null, .null, .null, .null, .null])),
    (q1, .inl (ca 0, 1182, .inl (fun _ => 0))),
    (q2, .inl (ca 0, 1038, .inl (fun _ => 0))),
    (q3, .inl (ca 2, 400, .inl (fun _ => 0))),
    (q4, .inl (ca 0, 5, .inl (fun _ => 0))),
    (q5, .inl (ca 0, 225, .inl (fun _ => 0))),
    (q6, .inl (ca 2, 3456, .inl (fun _ => 0))),
    (q7, .inl (ca 0, 4, .inl (fun _ => 0)))]) hx hb htg iX8 tyX8 tyX8_ok nmX8 hown hin2 hK hw 0 rfl rfl 19 (by decide) mw1286 rfl rfl rfl rfl (Nat.le_of_ble_eq_true rfl) dX8_init_65 rfl (fun H locs hw => ?_)
  refine lv_aload_n hx hb dX8_init_68 rfl (lv_at hl 0 rfl) ?_
  refine lv_sipush (v := (144 : Int32)) hx hb dX8_init_69 (by decide) ?_
  refine r_newa (a0 := (144, .inl (fun _ => 0))) (ty := .boolean) 3 hx hb htg mw1361 rfl rfl (fun _ => rfl) hK hw hA (fun _ => rfl) (by decide) (by decide) (by decide) (Nat.le_of_ble_eq_true rfl) (Nat.le_of_ble_eq_true rfl) dX8_init_72 (fun q8 H hw => ?_)
  replace hw : Wd D A s.heap [(h0, .inr (7, [.int 0, .ref q1, .ref q2, .int 0, .ref q3, .int 0, .int 0, .int 0, .int 0, .int (-1), .ref q4, .int 0, .int 0, .int 0, .int 0, .int 0, .ref q5, .int 0, .ref q6, .ref q7, .int 0, .int 0, .int 0, .null, .null, .null, .null, .null, .null, .null, .null])),
    (q1, .inl (ca 0, 1182, .inl (fun _ => 0))),
    (q2, .inl (ca 0, 1038, .inl (fun _ => 0))),
    (q3, .inl (ca 2, 400, .inl (fun _ => 0))),
    (q4, .inl (ca 0, 5, .inl (fun _ => 0))),
    (q5, .inl (ca 0, 225, .inl (fun _ => 0))),
    (q6, .inl (ca 2, 3456, .inl (fun _ => 0))),
    (q7, .inl (ca 0, 4, .inl (fun _ => 0))),
    (q8, .inl (ca 3, 144, .inl (fun _ => 0)))] H _ := hw
  refine r_putF (C := RX8) (T := TX8) (N := 31) (ws' := [(h0, .inr (7, [.int 0, .ref q1, .ref q2, .int 0, .ref q3, .int 0, .int 0, .int 0, .int 0, .int (-1), .ref q4, .int 0, .int 0, .int 0, .int 0, .int 0, .ref q5, .int 0, .ref q6, .ref q7, .int 0, .int 0, .int 0, .ref q8, .null, .null, .null, .null, .null, .null, .null])),
    (q1, .inl (ca 0, 1182, .inl (fun _ => 0))),
    (q2, .inl (ca 0, 1038, .inl (fun _ => 0))),
    (q3, .inl (ca 2, 400, .inl (fun _ => 0))),
    (q4, .inl (ca 0, 5, .inl (fun _ => 0))),
    (q5, .inl (ca 0, 225, .inl (fun _ => 0))),
    (q6, .inl (ca 2, 3456, .inl (fun _ => 0))),
    (q7, .inl (ca 0, 4, .inl (fun _ => 0))),
    (q8, .inl (ca 3, 144, .inl (fun _ => 0)))]) hx hb htg iX8 tyX8 tyX8_ok nmX8 hown hin2 hK hw 0 rfl rfl 23 (by decide) mw1290 rfl rfl rfl rfl (Nat.le_of_ble_eq_true rfl) dX8_init_74 rfl (fun H locs hw => ?_)
  refine lv_aload_n hx hb dX8_init_77 rfl (lv_at hl 0 rfl) ?_
  refine lv_sipush (v := (144 : Int32)) hx hb dX8_init_78 (by decide) ?_
  refine r_newa (a0 := (144, .inl (fun _ => 0))) (ty := .int) 0 hx hb htg mw155 rfl rfl (fun _ => rfl) hK hw hA (fun _ => rfl) (by decide) (by decide) (by decide) (Nat.le_of_ble_eq_true rfl) (Nat.le_of_ble_eq_true rfl) dX8_init_81 (fun q9 H hw => ?_)
  replace hw : Wd D A s.heap [(h0, .inr (7, [.int 0, .ref q1, .ref q2, .int 0, .ref q3, .int 0, .int 0, .int 0, .int 0, .int (-1), .ref q4, .int 0, .int 0, .int 0, .int 0, .int 0, .ref q5, .int 0, .ref q6, .ref q7, .int 0, .int 0, .int 0, .ref q8, .null, .null, .null, .null, .null, .null, .null])),
    (q1, .inl (ca 0, 1182, .inl (fun _ => 0))),
    (q2, .inl (ca 0, 1038, .inl (fun _ => 0))),
    (q3, .inl (ca 2, 400, .inl (fun _ => 0))),
    (q4, .inl (ca 0, 5, .inl (fun _ => 0))),
    (q5, .inl (ca 0, 225, .inl (fun _ => 0))),
    (q6, .inl (ca 2, 3456, .inl (fun _ => 0))),
    (q7, .inl (ca 0, 4, .inl (fun _ => 0))),
    (q8, .inl (ca 3, 144, .inl (fun _ => 0))),
    (q9, .inl (ca 0, 144, .inl (fun _ => 0)))] H _ := hw
  refine r_putF (C := RX8) (T := TX8) (N := 31) (ws' := [(h0, .inr (7, [.int 0, .ref q1, .ref q2, .int 0, .ref q3, .int 0, .int 0, .int 0, .int 0, .int (-1), .ref q4, .int 0, .int 0, .int 0, .int 0, .int 0, .ref q5, .int 0, .ref q6, .ref q7, .int 0, .int 0, .int 0, .ref q8, .ref q9, .null, .null, .null, .null, .null, .null])),
    (q1, .inl (ca 0, 1182, .inl (fun _ => 0))),
    (q2, .inl (ca 0, 1038, .inl (fun _ => 0))),
    (q3, .inl (ca 2, 400, .inl (fun _ => 0))),
    (q4, .inl (ca 0, 5, .inl (fun _ => 0))),
    (q5, .inl (ca 0, 225, .inl (fun _ => 0))),
    (q6, .inl (ca 2, 3456, .inl (fun _ => 0))),
    (q7, .inl (ca 0, 4, .inl (fun _ => 0))),
    (q8, .inl (ca 3, 144, .inl (fun _ => 0))),
    (q9, .inl (ca 0, 144, .inl (fun _ => 0)))]) hx hb htg iX8 tyX8 tyX8_ok nmX8 hown hin2 hK hw 0 rfl rfl 24 (by decide) mw1291 rfl rfl rfl rfl (Nat.le_of_ble_eq_true rfl) dX8_init_83 rfl (fun H locs hw => ?_)
  refine lv_aload_n hx hb dX8_init_86 rfl (lv_at hl 0 rfl) ?_
  refine lv_bipush (v := (6 : Int32)) hx hb dX8_init_87 (by decide) ?_
  refine r_newa (a0 := (6, .inl (fun _ => 0))) (ty := .int) 0 hx hb htg mw155 rfl rfl (fun _ => rfl) hK hw hA (fun _ => rfl) (by decide) (by decide) (by decide) (Nat.le_of_ble_eq_true rfl) (Nat.le_of_ble_eq_true rfl) dX8_init_89 (fun q10 H hw => ?_)
  replace hw : Wd D A s.heap [(h0, .inr (7, [.int 0, .ref q1, .ref q2, .int 0, .ref q3, .int 0, .int 0, .int 0, .int 0, .int (-1), .ref q4, .int 0, .int 0, .int 0, .int 0, .int 0, .ref q5, .int 0, .ref q6, .ref q7, .int 0, .int 0, .int 0, .ref q8, .ref q9, .null, .null, .null, .null, .null, .null])),
    (q1, .inl (ca 0, 1182, .inl (fun _ => 0))),
    (q2, .inl (ca 0, 1038, .inl (fun _ => 0))),
    (q3, .inl (ca 2, 400, .inl (fun _ => 0))),
    (q4, .inl (ca 0, 5, .inl (fun _ => 0))),
    (q5, .inl (ca 0, 225, .inl (fun _ => 0))),
    (q6, .inl (ca 2, 3456, .inl (fun _ => 0))),
    (q7, .inl (ca 0, 4, .inl (fun _ => 0))),
    (q8, .inl (ca 3, 144, .inl (fun _ => 0))),
    (q9, .inl (ca 0, 144, .inl (fun _ => 0))),
    (q10, .inl (ca 0, 6, .inl (fun _ => 0)))] H _ := hw
  refine r_putF (C := RX8) (T := TX8) (N := 31) (ws' := [(h0, .inr (7, [.int 0, .ref q1, .ref q2, .int 0, .ref q3, .int 0, .int 0, .int 0, .int 0, .int (-1), .ref q4, .int 0, .int 0, .int 0, .int 0, .int 0, .ref q5, .int 0, .ref q6, .ref q7, .int 0, .int 0, .int 0, .ref q8, .ref q9, .ref q10, .null, .null, .null, .null, .null])),
    (q1, .inl (ca 0, 1182, .inl (fun _ => 0))),
    (q2, .inl (ca 0, 1038, .inl (fun _ => 0))),
    (q3, .inl (ca 2, 400, .inl (fun _ => 0))),
    (q4, .inl (ca 0, 5, .inl (fun _ => 0))),
    (q5, .inl (ca 0, 225, .inl (fun _ => 0))),
    (q6, .inl (ca 2, 3456, .inl (fun _ => 0))),
    (q7, .inl (ca 0, 4, .inl (fun _ => 0))),
    (q8, .inl (ca 3, 144, .inl (fun _ => 0))),
    (q9, .inl (ca 0, 144, .inl (fun _ => 0))),
    (q10, .inl (ca 0, 6, .inl (fun _ => 0)))]) hx hb htg iX8 tyX8 tyX8_ok nmX8 hown hin2 hK hw 0 rfl rfl 25 (by decide) mw1292 rfl rfl rfl rfl (Nat.le_of_ble_eq_true rfl) dX8_init_91 rfl (fun H locs hw => ?_)
  refine lv_aload_n hx hb dX8_init_94 rfl (lv_at hl 0 rfl) ?_
  refine lv_bipush (v := (9 : Int32)) hx hb dX8_init_95 (by decide) ?_
  refine r_newa (a0 := (9, .inl (fun _ => 0))) (ty := .int) 0 hx hb htg mw155 rfl rfl (fun _ => rfl) hK hw hA (fun _ => rfl) (by decide) (by decide) (by decide) (Nat.le_of_ble_eq_true rfl) (Nat.le_of_ble_eq_true rfl) dX8_init_97 (fun q11 H hw => ?_)
  replace hw : Wd D A s.heap [(h0, .inr (7, [.int 0, .ref q1, .ref q2, .int 0, .ref q3, .int 0, .int 0, .int 0, .int 0, .int (-1), .ref q4, .int 0, .int 0, .int 0, .int 0, .int 0, .ref q5, .int 0, .ref q6, .ref q7, .int 0, .int 0, .int 0, .ref q8, .ref q9, .ref q10, .null, .null, .null, .null, .null])),
    (q1, .inl (ca 0, 1182, .inl (fun _ => 0))),
    (q2, .inl (ca 0, 1038, .inl (fun _ => 0))),
    (q3, .inl (ca 2, 400, .inl (fun _ => 0))),
    (q4, .inl (ca 0, 5, .inl (fun _ => 0))),
    (q5, .inl (ca 0, 225, .inl (fun _ => 0))),
    (q6, .inl (ca 2, 3456, .inl (fun _ => 0))),
    (q7, .inl (ca 0, 4, .inl (fun _ => 0))),
    (q8, .inl (ca 3, 144, .inl (fun _ => 0))),
    (q9, .inl (ca 0, 144, .inl (fun _ => 0))),
    (q10, .inl (ca 0, 6, .inl (fun _ => 0))),
    (q11, .inl (ca 0, 9, .inl (fun _ => 0)))] H _ := hw
  refine r_putF (C := RX8) (T := TX8) (N := 31) (ws' := [(h0, .inr (7, [.int 0, .ref q1, .ref q2, .int 0, .ref q3, .int 0, .int 0, .int 0, .int 0, .int (-1), .ref q4, .int 0, .int 0, .int 0, .int 0, .int 0, .ref q5, .int 0, .ref q6, .ref q7, .int 0, .int 0, .int 0, .ref q8, .ref q9, .ref q10, .ref q11, .null, .null, .null, .null])),
    (q1, .inl (ca 0, 1182, .inl (fun _ => 0))),
    (q2, .inl (ca 0, 1038, .inl (fun _ => 0))),
    (q3, .inl (ca 2, 400, .inl (fun _ => 0))),
    (q4, .inl (ca 0, 5, .inl (fun _ => 0))),
    (q5, .inl (ca 0, 225, .inl (fun _ => 0))),
    (q6, .inl (ca 2, 3456, .inl (fun _ => 0))),
    (q7, .inl (ca 0, 4, .inl (fun _ => 0))),
    (q8, .inl (ca 3, 144, .inl (fun _ => 0))),
    (q9, .inl (ca 0, 144, .inl (fun _ => 0))),
    (q10, .inl (ca 0, 6, .inl (fun _ => 0))),
    (q11, .inl (ca 0, 9, .inl (fun _ => 0)))]) hx hb htg iX8 tyX8 tyX8_ok nmX8 hown hin2 hK hw 0 rfl rfl 26 (by decide) mw1293 rfl rfl rfl rfl (Nat.le_of_ble_eq_true rfl) dX8_init_99 rfl (fun H locs hw => ?_)
  refine lv_aload_n hx hb dX8_init_102 rfl (lv_at hl 0 rfl) ?_
  refine lv_bipush (v := (9 : Int32)) hx hb dX8_init_103 (by decide) ?_
  refine r_newa (a0 := (9, .inl (fun _ => 0))) (ty := .int) 0 hx hb htg mw155 rfl rfl (fun _ => rfl) hK hw hA (fun _ => rfl) (by decide) (by decide) (by decide) (Nat.le_of_ble_eq_true rfl) (Nat.le_of_ble_eq_true rfl) dX8_init_105 (fun q12 H hw => ?_)
  replace hw : Wd D A s.heap [(h0, .inr (7, [.int 0, .ref q1, .ref q2, .int 0, .ref q3, .int 0, .int 0, .int 0, .int 0, .int (-1), .ref q4, .int 0, .int 0, .int 0, .int 0, .int 0, .ref q5, .int 0, .ref q6, .ref q7, .int 0, .int 0, .int 0, .ref q8, .ref q9, .ref q10, .ref q11, .null, .null, .null, .null])),
    (q1, .inl (ca 0, 1182, .inl (fun _ => 0))),
    (q2, .inl (ca 0, 1038, .inl (fun _ => 0))),
    (q3, .inl (ca 2, 400, .inl (fun _ => 0))),
    (q4, .inl (ca 0, 5, .inl (fun _ => 0))),
    (q5, .inl (ca 0, 225, .inl (fun _ => 0))),
    (q6, .inl (ca 2, 3456, .inl (fun _ => 0))),
    (q7, .inl (ca 0, 4, .inl (fun _ => 0))),
    (q8, .inl (ca 3, 144, .inl (fun _ => 0))),
    (q9, .inl (ca 0, 144, .inl (fun _ => 0))),
    (q10, .inl (ca 0, 6, .inl (fun _ => 0))),
    (q11, .inl (ca 0, 9, .inl (fun _ => 0))),
    (q12, .inl (ca 0, 9, .inl (fun _ => 0)))] H _ := hw
  refine r_putF (C := RX8) (T := TX8) (N := 31) (ws' := [(h0, .inr (7, [.int 0, .ref q1, .ref q2, .int 0, .ref q3, .int 0, .int 0, .int 0, .int 0, .int (-1), .ref q4, .int 0, .int 0, .int 0, .int 0, .int 0, .ref q5, .int 0, .ref q6, .ref q7, .int 0, .int 0, .int 0, .ref q8, .ref q9, .ref q10, .ref q11, .ref q12, .null, .null, .null])),
    (q1, .inl (ca 0, 1182, .inl (fun _ => 0))),
    (q2, .inl (ca 0, 1038, .inl (fun _ => 0))),
    (q3, .inl (ca 2, 400, .inl (fun _ => 0))),
    (q4, .inl (ca 0, 5, .inl (fun _ => 0))),
    (q5, .inl (ca 0, 225, .inl (fun _ => 0))),
    (q6, .inl (ca 2, 3456, .inl (fun _ => 0))),
    (q7, .inl (ca 0, 4, .inl (fun _ => 0))),
    (q8, .inl (ca 3, 144, .inl (fun _ => 0))),
    (q9, .inl (ca 0, 144, .inl (fun _ => 0))),
    (q10, .inl (ca 0, 6, .inl (fun _ => 0))),
    (q11, .inl (ca 0, 9, .inl (fun _ => 0))),
    (q12, .inl (ca 0, 9, .inl (fun _ => 0)))]) hx hb htg iX8 tyX8 tyX8_ok nmX8 hown hin2 hK hw 0 rfl rfl 27 (by decide) mw1294 rfl rfl rfl rfl (Nat.le_of_ble_eq_true rfl) dX8_init_107 rfl (fun H locs hw => ?_)
  refine lv_aload_n hx hb dX8_init_110 rfl (lv_at hl 0 rfl) ?_
  refine lv_bipush (v := (8 : Int32)) hx hb dX8_init_111 (by decide) ?_
  refine r_newa (a0 := (8, .inl (fun _ => 0))) (ty := .int) 0 hx hb htg mw155 rfl rfl (fun _ => rfl) hK hw hA (fun _ => rfl) (by decide) (by decide) (by decide) (Nat.le_of_ble_eq_true rfl) (Nat.le_of_ble_eq_true rfl) dX8_init_113 (fun q13 H hw => ?_)
  replace hw : Wd D A s.heap [(h0, .inr (7, [.int 0, .ref q1, .ref q2, .int 0, .ref q3, .int 0, .int 0, .int 0, .int 0, .int (-1), .ref q4, .int 0, .int 0, .int 0, .int 0, .int 0, .ref q5, .int 0, .ref q6, .ref q7, .int 0, .int 0, .int 0, .ref q8, .ref q9, .ref q10, .ref q11, .ref q12, .null, .null, .null])),
    (q1, .inl (ca 0, 1182, .inl (fun _ => 0))),
    (q2, .inl (ca 0, 1038, .inl (fun _ => 0))),
    (q3, .inl (ca 2, 400, .inl (fun _ => 0))),
    (q4, .inl (ca 0, 5, .inl (fun _ => 0))),
    (q5, .inl (ca 0, 225, .inl (fun _ => 0))),
    (q6, .inl (ca 2, 3456, .inl (fun _ => 0))),
    (q7, .inl (ca 0, 4, .inl (fun _ => 0))),
    (q8, .inl (ca 3, 144, .inl (fun _ => 0))),
    (q9, .inl (ca 0, 144, .inl (fun _ => 0))),
    (q10, .inl (ca 0, 6, .inl (fun _ => 0))),
    (q11, .inl (ca 0, 9, .inl (fun _ => 0))),
    (q12, .inl (ca 0, 9, .inl (fun _ => 0))),
    (q13, .inl (ca 0, 8, .inl (fun _ => 0)))] H _ := hw
  refine r_putF (C := RX8) (T := TX8) (N := 31) (ws' := [(h0, .inr (7, [.int 0, .ref q1, .ref q2, .int 0, .ref q3, .int 0, .int 0, .int 0, .int 0, .int (-1), .ref q4, .int 0, .int 0, .int 0, .int 0, .int 0, .ref q5, .int 0, .ref q6, .ref q7, .int 0, .int 0, .int 0, .ref q8, .ref q9, .ref q10, .ref q11, .ref q12, .ref q13, .null, .null])),
    (q1, .inl (ca 0, 1182, .inl (fun _ => 0))),
    (q2, .inl (ca 0, 1038, .inl (fun _ => 0))),
    (q3, .inl (ca 2, 400, .inl (fun _ => 0))),
    (q4, .inl (ca 0, 5, .inl (fun _ => 0))),
    (q5, .inl (ca 0, 225, .inl (fun _ => 0))),
    (q6, .inl (ca 2, 3456, .inl (fun _ => 0))),
    (q7, .inl (ca 0, 4, .inl (fun _ => 0))),
    (q8, .inl (ca 3, 144, .inl (fun _ => 0))),
    (q9, .inl (ca 0, 144, .inl (fun _ => 0))),
    (q10, .inl (ca 0, 6, .inl (fun _ => 0))),
    (q11, .inl (ca 0, 9, .inl (fun _ => 0))),
    (q12, .inl (ca 0, 9, .inl (fun _ => 0))),
    (q13, .inl (ca 0, 8, .inl (fun _ => 0)))]) hx hb htg iX8 tyX8 tyX8_ok nmX8 hown hin2 hK hw 0 rfl rfl 28 (by decide) mw1295 rfl rfl rfl rfl (Nat.le_of_ble_eq_true rfl) dX8_init_115 rfl (fun H locs hw => ?_)
  refine lv_aload_n hx hb dX8_init_118 rfl (lv_at hl 0 rfl) ?_
  refine lv_bipush (v := (64 : Int32)) hx hb dX8_init_119 (by decide) ?_
  refine r_newa (a0 := (64, .inl (fun _ => 0))) (ty := .int) 0 hx hb htg mw155 rfl rfl (fun _ => rfl) hK hw hA (fun _ => rfl) (by decide) (by decide) (by decide) (Nat.le_of_ble_eq_true rfl) (Nat.le_of_ble_eq_true rfl) dX8_init_121 (fun q14 H hw => ?_)
  replace hw : Wd D A s.heap [(h0, .inr (7, [.int 0, .ref q1, .ref q2, .int 0, .ref q3, .int 0, .int 0, .int 0, .int 0, .int (-1), .ref q4, .int 0, .int 0, .int 0, .int 0, .int 0, .ref q5, .int 0, .ref q6, .ref q7, .int 0, .int 0, .int 0, .ref q8, .ref q9, .ref q10, .ref q11, .ref q12, .ref q13, .null, .null])),
    (q1, .inl (ca 0, 1182, .inl (fun _ => 0))),
    (q2, .inl (ca 0, 1038, .inl (fun _ => 0))),
    (q3, .inl (ca 2, 400, .inl (fun _ => 0))),
    (q4, .inl (ca 0, 5, .inl (fun _ => 0))),
    (q5, .inl (ca 0, 225, .inl (fun _ => 0))),
    (q6, .inl (ca 2, 3456, .inl (fun _ => 0))),
    (q7, .inl (ca 0, 4, .inl (fun _ => 0))),
    (q8, .inl (ca 3, 144, .inl (fun _ => 0))),
    (q9, .inl (ca 0, 144, .inl (fun _ => 0))),
    (q10, .inl (ca 0, 6, .inl (fun _ => 0))),
    (q11, .inl (ca 0, 9, .inl (fun _ => 0))),
    (q12, .inl (ca 0, 9, .inl (fun _ => 0))),
    (q13, .inl (ca 0, 8, .inl (fun _ => 0))),
    (q14, .inl (ca 0, 64, .inl (fun _ => 0)))] H _ := hw
  refine r_putF (C := RX8) (T := TX8) (N := 31) (ws' := [(h0, .inr (7, [.int 0, .ref q1, .ref q2, .int 0, .ref q3, .int 0, .int 0, .int 0, .int 0, .int (-1), .ref q4, .int 0, .int 0, .int 0, .int 0, .int 0, .ref q5, .int 0, .ref q6, .ref q7, .int 0, .int 0, .int 0, .ref q8, .ref q9, .ref q10, .ref q11, .ref q12, .ref q13, .ref q14, .null])),
    (q1, .inl (ca 0, 1182, .inl (fun _ => 0))),
    (q2, .inl (ca 0, 1038, .inl (fun _ => 0))),
    (q3, .inl (ca 2, 400, .inl (fun _ => 0))),
    (q4, .inl (ca 0, 5, .inl (fun _ => 0))),
    (q5, .inl (ca 0, 225, .inl (fun _ => 0))),
    (q6, .inl (ca 2, 3456, .inl (fun _ => 0))),
    (q7, .inl (ca 0, 4, .inl (fun _ => 0))),
    (q8, .inl (ca 3, 144, .inl (fun _ => 0))),
    (q9, .inl (ca 0, 144, .inl (fun _ => 0))),
    (q10, .inl (ca 0, 6, .inl (fun _ => 0))),
    (q11, .inl (ca 0, 9, .inl (fun _ => 0))),
    (q12, .inl (ca 0, 9, .inl (fun _ => 0))),
    (q13, .inl (ca 0, 8, .inl (fun _ => 0))),
    (q14, .inl (ca 0, 64, .inl (fun _ => 0)))]) hx hb htg iX8 tyX8 tyX8_ok nmX8 hown hin2 hK hw 0 rfl rfl 29 (by decide) mw1296 rfl rfl rfl rfl (Nat.le_of_ble_eq_true rfl) dX8_init_123 rfl (fun H locs hw => ?_)
  refine lv_aload_n hx hb dX8_init_126 rfl (lv_at hl 0 rfl) ?_
  refine lv_sipush (v := (2401 : Int32)) hx hb dX8_init_127 (by decide) ?_
  refine r_newa (a0 := (2401, .inl (fun _ => 0))) (ty := .int) 0 hx hb htg mw155 rfl rfl (fun _ => rfl) hK hw hA (fun _ => rfl) (by decide) (by decide) (by decide) (Nat.le_of_ble_eq_true rfl) (Nat.le_of_ble_eq_true rfl) dX8_init_130 (fun q15 H hw => ?_)
  replace hw : Wd D A s.heap [(h0, .inr (7, [.int 0, .ref q1, .ref q2, .int 0, .ref q3, .int 0, .int 0, .int 0, .int 0, .int (-1), .ref q4, .int 0, .int 0, .int 0, .int 0, .int 0, .ref q5, .int 0, .ref q6, .ref q7, .int 0, .int 0, .int 0, .ref q8, .ref q9, .ref q10, .ref q11, .ref q12, .ref q13, .ref q14, .null])),
    (q1, .inl (ca 0, 1182, .inl (fun _ => 0))),
    (q2, .inl (ca 0, 1038, .inl (fun _ => 0))),
    (q3, .inl (ca 2, 400, .inl (fun _ => 0))),
    (q4, .inl (ca 0, 5, .inl (fun _ => 0))),
    (q5, .inl (ca 0, 225, .inl (fun _ => 0))),
    (q6, .inl (ca 2, 3456, .inl (fun _ => 0))),
    (q7, .inl (ca 0, 4, .inl (fun _ => 0))),
    (q8, .inl (ca 3, 144, .inl (fun _ => 0))),
    (q9, .inl (ca 0, 144, .inl (fun _ => 0))),
    (q10, .inl (ca 0, 6, .inl (fun _ => 0))),
    (q11, .inl (ca 0, 9, .inl (fun _ => 0))),
    (q12, .inl (ca 0, 9, .inl (fun _ => 0))),
    (q13, .inl (ca 0, 8, .inl (fun _ => 0))),
    (q14, .inl (ca 0, 64, .inl (fun _ => 0))),
    (q15, .inl (ca 0, 2401, .inl (fun _ => 0)))] H _ := hw
  refine r_putF (C := RX8) (T := TX8) (N := 31) (ws' := [(h0, .inr (7, [.int 0, .ref q1, .ref q2, .int 0, .ref q3, .int 0, .int 0, .int 0, .int 0, .int (-1), .ref q4, .int 0, .int 0, .int 0, .int 0, .int 0, .ref q5, .int 0, .ref q6, .ref q7, .int 0, .int 0, .int 0, .ref q8, .ref q9, .ref q10, .ref q11, .ref q12, .ref q13, .ref q14, .ref q15])),
    (q1, .inl (ca 0, 1182, .inl (fun _ => 0))),
    (q2, .inl (ca 0, 1038, .inl (fun _ => 0))),
    (q3, .inl (ca 2, 400, .inl (fun _ => 0))),
    (q4, .inl (ca 0, 5, .inl (fun _ => 0))),
    (q5, .inl (ca 0, 225, .inl (fun _ => 0))),
    (q6, .inl (ca 2, 3456, .inl (fun _ => 0))),
    (q7, .inl (ca 0, 4, .inl (fun _ => 0))),
    (q8, .inl (ca 3, 144, .inl (fun _ => 0))),
    (q9, .inl (ca 0, 144, .inl (fun _ => 0))),
    (q10, .inl (ca 0, 6, .inl (fun _ => 0))),
    (q11, .inl (ca 0, 9, .inl (fun _ => 0))),
    (q12, .inl (ca 0, 9, .inl (fun _ => 0))),
    (q13, .inl (ca 0, 8, .inl (fun _ => 0))),
    (q14, .inl (ca 0, 64, .inl (fun _ => 0))),
    (q15, .inl (ca 0, 2401, .inl (fun _ => 0)))]) hx hb htg iX8 tyX8 tyX8_ok nmX8 hown hin2 hK hw 0 rfl rfl 30 (by decide) mw1297 rfl rfl rfl rfl (Nat.le_of_ble_eq_true rfl) dX8_init_132 rfl (fun H locs hw => ?_)
  refine lv_aload_n hx hb dX8_init_135 rfl (lv_at hl 0 rfl) ?_
  refine r_get (C := RX8) (T := TX8) (N := 31) hx hb htg iX8 hown hK hw.1 0 rfl rfl 1 (by decide) mw1268 rfl dX8_init_136 ?_
  refine lv_bipush (v := (6 : Int32)) hx hb dX8_init_139 (by decide) ?_
  refine lv_iconst (v := (2 : Int32)) hx hb dX8_init_141 (by decide) ?_
  refine r_iast (ws'' := fun g16 => [(h0, .inr (7, [.int 0, .ref q1, .ref q2, .int 0, .ref q3, .int 0, .int 0, .int 0, .int 0, .int (-1), .ref q4, .int 0, .int 0, .int 0, .int 0, .int 0, .ref q5, .int 0, .ref q6, .ref q7, .int 0, .int 0, .int 0, .ref q8, .ref q9, .ref q10, .ref q11, .ref q12, .ref q13, .ref q14, .ref q15])),
    (q1, .inl (ca 0, 1182, .inl g16)),
    (q2, .inl (ca 0, 1038, .inl (fun _ => 0))),
    (q3, .inl (ca 2, 400, .inl (fun _ => 0))),
    (q4, .inl (ca 0, 5, .inl (fun _ => 0))),
    (q5, .inl (ca 0, 225, .inl (fun _ => 0))),
    (q6, .inl (ca 2, 3456, .inl (fun _ => 0))),
    (q7, .inl (ca 0, 4, .inl (fun _ => 0))),
    (q8, .inl (ca 3, 144, .inl (fun _ => 0))),
    (q9, .inl (ca 0, 144, .inl (fun _ => 0))),
    (q10, .inl (ca 0, 6, .inl (fun _ => 0))),
    (q11, .inl (ca 0, 9, .inl (fun _ => 0))),
    (q12, .inl (ca 0, 9, .inl (fun _ => 0))),
    (q13, .inl (ca 0, 8, .inl (fun _ => 0))),
    (q14, .inl (ca 0, 64, .inl (fun _ => 0))),
    (q15, .inl (ca 0, 2401, .inl (fun _ => 0)))]) hx hb hK hw 1 rfl rfl (vp_dec (by decide)) dX8_init_142 (fun _ => rfl) (fun g16 H locs eg16 hw => ?_)
  replace eg16 : g16 = (upd (fun _ => 0) 6 2) := eg16
  subst eg16
  refine lv_iconst (v := (0 : Int32)) hx hb dX8_init_143 (by decide) ?_
  refine lv_istore_n (lv' := [(1, .int (0 : Int32)), (0, .ref h0)]) hx hb dX8_init_144 rfl hl (by decide) rfl (fun ls hl => ?_)
  refine lv_iload_n hx hb dX8_init_145 rfl (lv_at hl 0 rfl) ?_
  refine lv_iconst (v := (4 : Int32)) hx hb dX8_init_146 (by decide) ?_
  refine lv_icmp_ge (tgt := 166) hx hb dX8_init_147 (by decide) (fun hc => absurd hc (by decide)) (fun hc => ?_)
  refine lv_aload_n hx hb dX8_init_150 rfl (lv_at hl 1 rfl) ?_
  refine r_get (C := RX8) (T := TX8) (N := 31) hx hb htg iX8 hown hK hw.1 0 rfl rfl 1 (by decide) mw1268 rfl dX8_init_151 ?_
  refine lv_bipush (v := (44 : Int32)) hx hb dX8_init_154 (by decide) ?_
  refine lv_iload_n hx hb dX8_init_156 rfl (lv_at hl 0 rfl) ?_
  refine lv_iadd hx hb dX8_init_157 ?_
  rw [show (44 : Int32) + (0 : Int32) = (44 : Int32) by decide]
  refine lv_iconst (v := (-1 : Int32)) hx hb dX8_init_158 (by decide) ?_
  refine r_iast (ws'' := fun g17 => [(h0, .inr (7, [.int 0, .ref q1, .ref q2, .int 0, .ref q3, .int 0, .int 0, .int 0, .int 0, .int (-1), .ref q4, .int 0, .int 0, .int 0, .int 0, .int 0, .ref q5, .int 0, .ref q6, .ref q7, .int 0, .int 0, .int 0, .ref q8, .ref q9, .ref q10, .ref q11, .ref q12, .ref q13, .ref q14, .ref q15])),
    (q1, .inl (ca 0, 1182, .inl g17)),
    (q2, .inl (ca 0, 1038, .inl (fun _ => 0))),
    (q3, .inl (ca 2, 400, .inl (fun _ => 0))),
    (q4, .inl (ca 0, 5, .inl (fun _ => 0))),
    (q5, .inl (ca 0, 225, .inl (fun _ => 0))),
    (q6, .inl (ca 2, 3456, .inl (fun _ => 0))),
    (q7, .inl (ca 0, 4, .inl (fun _ => 0))),
    (q8, .inl (ca 3, 144, .inl (fun _ => 0))),
    (q9, .inl (ca 0, 144, .inl (fun _ => 0))),
    (q10, .inl (ca 0, 6, .inl (fun _ => 0))),
    (q11, .inl (ca 0, 9, .inl (fun _ => 0))),
    (q12, .inl (ca 0, 9, .inl (fun _ => 0))),
    (q13, .inl (ca 0, 8, .inl (fun _ => 0))),
    (q14, .inl (ca 0, 64, .inl (fun _ => 0))),
    (q15, .inl (ca 0, 2401, .inl (fun _ => 0)))]) hx hb hK hw 1 rfl rfl (vp_dec (by decide)) dX8_init_159 (fun _ => rfl) (fun g17 H locs eg17 hw => ?_)
  replace eg17 : g17 = (upd (upd (fun _ => 0) 6 2) 44 (-1)) := eg17
  subst eg17
  refine lv_iinc (v := (1 : Int32)) (lv' := [(1, .int (1 : Int32)), (0, .ref h0)]) hx hb dX8_init_160 hl (k := 0) rfl (by decide) (by decide) rfl (fun ls hl => ?_)
  refine lv_goto (tgt := 145) hx hb dX8_init_163 (by decide) ?_
  refine lv_iload_n hx hb dX8_init_145 rfl (lv_at hl 0 rfl) ?_
  refine lv_iconst (v := (4 : Int32)) hx hb dX8_init_146 (by decide) ?_
  refine lv_icmp_ge (tgt := 166) hx hb dX8_init_147 (by decide) (fun hc => absurd hc (by decide)) (fun hc => ?_)
  refine lv_aload_n hx hb dX8_init_150 rfl (lv_at hl 1 rfl) ?_
  refine r_get (C := RX8) (T := TX8) (N := 31) hx hb htg iX8 hown hK hw.1 0 rfl rfl 1 (by decide) mw1268 rfl dX8_init_151 ?_
  refine lv_bipush (v := (44 : Int32)) hx hb dX8_init_154 (by decide) ?_
  refine lv_iload_n hx hb dX8_init_156 rfl (lv_at hl 0 rfl) ?_
  refine lv_iadd hx hb dX8_init_157 ?_
  rw [show (44 : Int32) + (1 : Int32) = (45 : Int32) by decide]
  refine lv_iconst (v := (-1 : Int32)) hx hb dX8_init_158 (by decide) ?_
  refine r_iast (ws'' := fun g18 => [(h0, .inr (7, [.int 0, .ref q1, .ref q2, .int 0, .ref q3, .int 0, .int 0, .int 0, .int 0, .int (-1), .ref q4, .int 0, .int 0, .int 0, .int 0, .int 0, .ref q5, .int 0, .ref q6, .ref q7, .int 0, .int 0, .int 0, .ref q8, .ref q9, .ref q10, .ref q11, .ref q12, .ref q13, .ref q14, .ref q15])),
    (q1, .inl (ca 0, 1182, .inl g18)),
    (q2, .inl (ca 0, 1038, .inl (fun _ => 0))),
    (q3, .inl (ca 2, 400, .inl (fun _ => 0))),
    (q4, .inl (ca 0, 5, .inl (fun _ => 0))),
    (q5, .inl (ca 0, 225, .inl (fun _ => 0))),
    (q6, .inl (ca 2, 3456, .inl (fun _ => 0))),
    (q7, .inl (ca 0, 4, .inl (fun _ => 0))),
    (q8, .inl (ca 3, 144, .inl (fun _ => 0))),
    (q9, .inl (ca 0, 144, .inl (fun _ => 0))),
    (q10, .inl (ca 0, 6, .inl (fun _ => 0))),
    (q11, .inl (ca 0, 9, .inl (fun _ => 0))),
    (q12, .inl (ca 0, 9, .inl (fun _ => 0))),
    (q13, .inl (ca 0, 8, .inl (fun _ => 0))),
    (q14, .inl (ca 0, 64, .inl (fun _ => 0))),
    (q15, .inl (ca 0, 2401, .inl (fun _ => 0)))]) hx hb hK hw 1 rfl rfl (vp_dec (by decide)) dX8_init_159 (fun _ => rfl) (fun g18 H locs eg18 hw => ?_)
  replace eg18 : g18 = (upd (upd (upd (fun _ => 0) 6 2) 44 (-1)) 45 (-1)) := eg18
  subst eg18
  refine lv_iinc (v := (2 : Int32)) (lv' := [(1, .int (2 : Int32)), (0, .ref h0)]) hx hb dX8_init_160 hl (k := 0) rfl (by decide) (by decide) rfl (fun ls hl => ?_)
  refine lv_goto (tgt := 145) hx hb dX8_init_163 (by decide) ?_
  refine lv_iload_n hx hb dX8_init_145 rfl (lv_at hl 0 rfl) ?_
  refine lv_iconst (v := (4 : Int32)) hx hb dX8_init_146 (by decide) ?_
  refine lv_icmp_ge (tgt := 166) hx hb dX8_init_147 (by decide) (fun hc => absurd hc (by decide)) (fun hc => ?_)
  refine lv_aload_n hx hb dX8_init_150 rfl (lv_at hl 1 rfl) ?_
  refine r_get (C := RX8) (T := TX8) (N := 31) hx hb htg iX8 hown hK hw.1 0 rfl rfl 1 (by decide) mw1268 rfl dX8_init_151 ?_
  refine lv_bipush (v := (44 : Int32)) hx hb dX8_init_154 (by decide) ?_
  refine lv_iload_n hx hb dX8_init_156 rfl (lv_at hl 0 rfl) ?_
  refine lv_iadd hx hb dX8_init_157 ?_
  rw [show (44 : Int32) + (2 : Int32) = (46 : Int32) by decide]
  refine lv_iconst (v := (-1 : Int32)) hx hb dX8_init_158 (by decide) ?_
  refine r_iast (ws'' := fun g19 => [(h0, .inr (7, [.int 0, .ref q1, .ref q2, .int 0, .ref q3, .int 0, .int 0, .int 0, .int 0, .int (-1), .ref q4, .int 0, .int 0, .int 0, .int 0, .int 0, .ref q5, .int 0, .ref q6, .ref q7, .int 0, .int 0, .int 0, .ref q8, .ref q9, .ref q10, .ref q11, .ref q12, .ref q13, .ref q14, .ref q15])),
    (q1, .inl (ca 0, 1182, .inl g19)),
    (q2, .inl (ca 0, 1038, .inl (fun _ => 0))),
    (q3, .inl (ca 2, 400, .inl (fun _ => 0))),
    (q4, .inl (ca 0, 5, .inl (fun _ => 0))),
    (q5, .inl (ca 0, 225, .inl (fun _ => 0))),
    (q6, .inl (ca 2, 3456, .inl (fun _ => 0))),
    (q7, .inl (ca 0, 4, .inl (fun _ => 0))),
    (q8, .inl (ca 3, 144, .inl (fun _ => 0))),
    (q9, .inl (ca 0, 144, .inl (fun _ => 0))),
    (q10, .inl (ca 0, 6, .inl (fun _ => 0))),
    (q11, .inl (ca 0, 9, .inl (fun _ => 0))),
    (q12, .inl (ca 0, 9, .inl (fun _ => 0))),
    (q13, .inl (ca 0, 8, .inl (fun _ => 0))),
    (q14, .inl (ca 0, 64, .inl (fun _ => 0))),
    (q15, .inl (ca 0, 2401, .inl (fun _ => 0)))]) hx hb hK hw 1 rfl rfl (vp_dec (by decide)) dX8_init_159 (fun _ => rfl) (fun g19 H locs eg19 hw => ?_)
  replace eg19 : g19 = (upd (upd (upd (upd (fun _ => 0) 6 2) 44 (-1)) 45 (-1)) 46 (-1)) := eg19
  subst eg19
  refine lv_iinc (v := (3 : Int32)) (lv' := [(1, .int (3 : Int32)), (0, .ref h0)]) hx hb dX8_init_160 hl (k := 0) rfl (by decide) (by decide) rfl (fun ls hl => ?_)
  refine lv_goto (tgt := 145) hx hb dX8_init_163 (by decide) ?_
  refine lv_iload_n hx hb dX8_init_145 rfl (lv_at hl 0 rfl) ?_
  refine lv_iconst (v := (4 : Int32)) hx hb dX8_init_146 (by decide) ?_
  refine lv_icmp_ge (tgt := 166) hx hb dX8_init_147 (by decide) (fun hc => absurd hc (by decide)) (fun hc => ?_)
  refine lv_aload_n hx hb dX8_init_150 rfl (lv_at hl 1 rfl) ?_
  refine r_get (C := RX8) (T := TX8) (N := 31) hx hb htg iX8 hown hK hw.1 0 rfl rfl 1 (by decide) mw1268 rfl dX8_init_151 ?_
  refine lv_bipush (v := (44 : Int32)) hx hb dX8_init_154 (by decide) ?_
  refine lv_iload_n hx hb dX8_init_156 rfl (lv_at hl 0 rfl) ?_
  refine lv_iadd hx hb dX8_init_157 ?_
  rw [show (44 : Int32) + (3 : Int32) = (47 : Int32) by decide]
  refine lv_iconst (v := (-1 : Int32)) hx hb dX8_init_158 (by decide) ?_
  refine r_iast (ws'' := fun g20 => [(h0, .inr (7, [.int 0, .ref q1, .ref q2, .int 0, .ref q3, .int 0, .int 0, .int 0, .int 0, .int (-1), .ref q4, .int 0, .int 0, .int 0, .int 0, .int 0, .ref q5, .int 0, .ref q6, .ref q7, .int 0, .int 0, .int 0, .ref q8, .ref q9, .ref q10, .ref q11, .ref q12, .ref q13, .ref q14, .ref q15])),
    (q1, .inl (ca 0, 1182, .inl g20)),
    (q2, .inl (ca 0, 1038, .inl (fun _ => 0))),
    (q3, .inl (ca 2, 400, .inl (fun _ => 0))),
    (q4, .inl (ca 0, 5, .inl (fun _ => 0))),
    (q5, .inl (ca 0, 225, .inl (fun _ => 0))),
    (q6, .inl (ca 2, 3456, .inl (fun _ => 0))),
    (q7, .inl (ca 0, 4, .inl (fun _ => 0))),
    (q8, .inl (ca 3, 144, .inl (fun _ => 0))),
    (q9, .inl (ca 0, 144, .inl (fun _ => 0))),
    (q10, .inl (ca 0, 6, .inl (fun _ => 0))),
    (q11, .inl (ca 0, 9, .inl (fun _ => 0))),
    (q12, .inl (ca 0, 9, .inl (fun _ => 0))),
    (q13, .inl (ca 0, 8, .inl (fun _ => 0))),
    (q14, .inl (ca 0, 64, .inl (fun _ => 0))),
    (q15, .inl (ca 0, 2401, .inl (fun _ => 0)))]) hx hb hK hw 1 rfl rfl (vp_dec (by decide)) dX8_init_159 (fun _ => rfl) (fun g20 H locs eg20 hw => ?_)
  replace eg20 : g20 = (upd (upd (upd (upd (upd (fun _ => 0) 6 2) 44 (-1)) 45 (-1)) 46 (-1)) 47 (-1)) := eg20
  subst eg20
  refine lv_iinc (v := (4 : Int32)) (lv' := [(1, .int (4 : Int32)), (0, .ref h0)]) hx hb dX8_init_160 hl (k := 0) rfl (by decide) (by decide) rfl (fun ls hl => ?_)
  refine lv_goto (tgt := 145) hx hb dX8_init_163 (by decide) ?_
  refine lv_iload_n hx hb dX8_init_145 rfl (lv_at hl 0 rfl) ?_
  refine lv_iconst (v := (4 : Int32)) hx hb dX8_init_146 (by decide) ?_
  refine lv_icmp_ge (tgt := 166) hx hb dX8_init_147 (by decide) (fun hc => ?_) (fun hc => absurd (by decide) hc)
  replace hw := hw.perm (ws' := (wM ca (fun i => ([h0, q1, q2, q3, q4, q5, q6, q7, q8, q9, q10, q11, q12, q13, q14, q15] : List Nat).getD i 0) 0 (upd (upd (upd (upd (upd (fun _ => 0) 6 2) 44 (-1)) 45 (-1)) 46 (-1)) 47 (-1)) (fun _ => 0) 0 (fun _ => 0) 0 0 0 0 (-1) (fun _ => 0) 0 0 0 0 0 (fun _ => 0) 0 (fun _ => 0) (fun _ => 0) 0 0 0 (fun _ => 0) (fun _ => 0) (fun _ => 0) (fun _ => 0) (fun _ => 0) (fun _ => 0) (fun _ => 0) (fun _ => 0))) [0, 1, 2, 3, 4, 5, 6, 7, 8, 9, 10, 11, 12, 13, 14, 15] rfl rfl
  exact retn (fun i => ([q1, q2, q3, q4, q5, q6, q7, q8, q9, q10, q11, q12, q13, q14, q15] : List Nat).getD i 0) hQ hx hb hr hk dX8_init_166 hw

