theorem pcsS (k m : Nat) : pcs (k + 1) m = 256 * pcs k (m / 256) + pc8 (m % 256) := rfl
theorem pcs2 (m : Nat) : pcs 2 m = 256 * pc8 (m / 256 % 256) + pc8 (m % 256) := by
  rw [pcsS, pcsS]
  show 256 * (256 * 0 + _) + _ = _
  rw [Nat.mul_zero, Nat.zero_add]
theorem sm8S (k m : Nat) : sm8 (k + 1) m = pc8 (m % 256) + sm8 k (m / 256) := rfl
theorem sm8_8 (n : Nat) : sm8 8 n = pc8 (n % 256) + (pc8 (n / 256 % 256) + (pc8 (n / 256 / 256 % 256) + (pc8 (n / 256 / 256 / 256 % 256) + (pc8 (n / 256 / 256 / 256 / 256 % 256) + (pc8 (n / 256 / 256 / 256 / 256 / 256 % 256) + (pc8 (n / 256 / 256 / 256 / 256 / 256 / 256 % 256) + pc8 (n / 256 / 256 / 256 / 256 / 256 / 256 / 256 % 256))))))) := by
  rw [sm8S, sm8S, sm8S, sm8S, sm8S, sm8S, sm8S, sm8S]
  rfl
theorem bc64 (x : Int64) : f_J13_bitCount_95d88 x = nI (fb_ct (bl x) 64) := by
  obtain ⟨n, hn, rfl⟩ := wb_of x
  have hc : fb_ct (bl (lN n)) 64 = sm8 8 n := by
    rw [← ct_sm8 8 n]
    refine fb_ct_cong (fun i hi => ?_)
    show (lN n).toBitVec.toNat.testBit i = _
    rw [wb_tn hn]
  obtain ⟨-, hp⟩ := pcs_run 8 n (by rw [show (256 : Nat) ^ 8 = 2 ^ 64 by decide]; exact hn)
  have P : ∀ m, pc8 (m % 256) ≤ 8 := fun m => (pq4 (m % 256) (Nat.mod_lt _ (by decide))).2.2.2.2.1
  obtain ⟨b1, b2, b3, e⟩ := fold8 (P n) (P (n / 256)) (P (n / 256 / 256)) (P (n / 256 / 256 / 256)) (P (n / 256 / 256 / 256 / 256)) (P (n / 256 / 256 / 256 / 256 / 256)) (P (n / 256 / 256 / 256 / 256 / 256 / 256)) (P (n / 256 / 256 / 256 / 256 / 256 / 256 / 256)) (w := pcs 8 n) (A1 := pcs 7 (n / 256)) (A2 := pcs 6 (n / 256 / 256)) (A3 := pcs 5 (n / 256 / 256 / 256)) (A4 := pcs 4 (n / 256 / 256 / 256 / 256)) (A5 := pcs 3 (n / 256 / 256 / 256 / 256 / 256)) (A6 := pcs 2 (n / 256 / 256 / 256 / 256 / 256 / 256)) (pcs2 _) (pcsS 2 _) (pcsS 3 _) (pcsS 4 _) (pcsS 5 _) (pcsS 6 _) (pcsS 7 _)
  have r55 : rep 85 8 = 6148914691236517205 := by decide +kernel
  have r33 : rep 51 8 = 3689348814741910323 := by decide +kernel
  have r0f : rep 15 8 = 1085102592571150095 := by decide +kernel
  have l1 : s1n 8 n < 2 ^ 64 := Nat.lt_of_le_of_lt (Nat.sub_le _ _) hn
  have l2 : s2n 8 (s1n 8 n) < 2 ^ 64 := by
    unfold s2n
    rw [r33]
    have a1 : (s1n 8 n &&& 3689348814741910323) ≤ 3689348814741910323 := Nat.and_le_right
    have a2 : (s1n 8 n / 4 &&& 3689348814741910323) ≤ 3689348814741910323 := Nat.and_le_right
    omega
  have x1 : lN n - ((((lN n).toUInt64 >>> (((1 : Int32)).toInt64.toUInt64 &&& Int64.toUInt64 63)).toInt64) &&& (6148914691236517205 : Int64)) = lN (s1n 8 n) := by
    rw [g_ushr (k := 1) (p := 2) (show ((1 : Int32)).toInt64.toUInt64 &&& Int64.toUInt64 63 = UInt64.ofNat 1 from wb_cu 1 (by decide)) (by decide) (by decide) hn, fa_litL, fb_andL, lN_sub (Nat.le_trans Nat.and_le_left (Nat.div_le_self _ _))]
    refine Eq.trans (b := lN (n - (n / 2 &&& 6148914691236517205))) rfl ?_
    rw [← r55]
    rfl
  have x2 : (lN (s1n 8 n) &&& (3689348814741910323 : Int64)) + ((((lN (s1n 8 n)).toUInt64 >>> (((2 : Int32)).toInt64.toUInt64 &&& Int64.toUInt64 63)).toInt64) &&& (3689348814741910323 : Int64)) = lN (s2n 8 (s1n 8 n)) := by
    rw [g_ushr (k := 2) (p := 4) (show ((2 : Int32)).toInt64.toUInt64 &&& Int64.toUInt64 63 = UInt64.ofNat 2 from wb_cu 2 (by decide)) (by decide) (by decide) l1, fa_litL, fb_andL, fb_andL, lN_add]
    refine Eq.trans (b := lN ((s1n 8 n &&& 3689348814741910323) + (s1n 8 n / 4 &&& 3689348814741910323))) rfl ?_
    rw [← r33]
    rfl
  have x3 : (lN (s2n 8 (s1n 8 n)) + (((lN (s2n 8 (s1n 8 n))).toUInt64 >>> (((4 : Int32)).toInt64.toUInt64 &&& Int64.toUInt64 63)).toInt64)) &&& (1085102592571150095 : Int64) = lN (pcs 8 n) := by
    rw [g_ushr (k := 4) (p := 16) (show ((4 : Int32)).toInt64.toUInt64 &&& Int64.toUInt64 63 = UInt64.ofNat 4 from wb_cu 4 (by decide)) (by decide) (by decide) l2, fa_litL, lN_add, fb_andL]
    refine Eq.trans (b := lN ((s2n 8 (s1n 8 n) + s2n 8 (s1n 8 n) / 16) &&& 1085102592571150095)) rfl ?_
    rw [← r0f, ← hp]
    rfl
  unfold f_J13_bitCount_95d88
  rw [nm_s, x1, nm_s, x2, nm_s, x3, nm_s, g_ushr (k := 8) (p := 256) (show ((8 : Int32)).toInt64.toUInt64 &&& Int64.toUInt64 63 = UInt64.ofNat 8 from wb_cu 8 (by decide)) (by decide) (by decide) (by omega), lN_add, nm_s, g_ushr (k := 16) (p := 65536) (show ((16 : Int32)).toInt64.toUInt64 &&& Int64.toUInt64 63 = UInt64.ofNat 16 from wb_cu 16 (by decide)) (by decide) (by decide) (by omega), lN_add, nm_s, g_ushr (k := 32) (p := 4294967296) (show ((32 : Int32)).toInt64.toUInt64 &&& Int64.toUInt64 63 = UInt64.ofNat 32 from wb_cu 32 (by decide)) (by decide) (by decide) (by omega), lN_add, lN_i, show (127 : Int32) = nI (2 ^ 7 - 1) from rfl, fa_mask, hc]
  rw [sm8_8, e]
theorem bc48 {x : Int64} (h : ∀ i, 48 ≤ i → bl x i = false) : f_J13_bitCount_95d88 x = nI (fb_ct (bl x) 48) := by
  rw [bc64, show 64 = 48 + 16 from rfl, fb_ct_split, show fb_ct (fun k => bl x (48 + k)) 16 = 0 from fb_ct_zero.mpr (fun k _ => h _ (by omega))]
  rfl
theorem ct3 (P : Nat → Bool) : fb_ct P 144 = fb_ct P 48 + fb_ct (fun k => P (48 + k)) 48 + fb_ct (fun k => P (96 + k)) 48 := by
  rw [show 144 = 48 + 48 + 48 from rfl, fb_ct_split, fb_ct_split]
