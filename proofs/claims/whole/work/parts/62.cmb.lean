/-! ===== bridges: all sets of n cells, in their order ===== -/
def cmb : Nat → Nat → List Nat
  | 0, _ => [0]
  | _ + 1, 0 => []
  | n + 1, k + 1 => cmb (n + 1) k ++ (cmb n k).map (fun y => y ^^^ 2 ^ k)
noncomputable def mNx (x : Int32) : Int32 := (((x ^^^ (x + (x &&& -x))).toUInt32 >>> (((2 : Int32)).toUInt32 &&& Int32.toUInt32 31)).toInt32) / (x &&& -x) ||| (x + (x &&& -x))
noncomputable def wlk : Nat → List Nat → Bool
  | a, [] => decide (a = 0) || (decide ((33554431 : Int32) < f_X0_nextOfAsManyBits (nI a)) && decide ((33554431 : Int32) < mNx (nI a)))
  | a, b :: t => match decide (f_X0_nextOfAsManyBits (nI a) = nI b) && decide (mNx (nI a) = nI b) with
    | true => wlk b t
    | false => false
theorem wlk1 : wlk 1 (cmb 1 25).tail = true := by decide +kernel
theorem wlk2 : wlk 3 (cmb 2 25).tail = true := by decide +kernel
theorem wlk3 : wlk 7 (cmb 3 25).tail = true := by decide +kernel
theorem wlk4 : wlk 15 (cmb 4 25).tail = true := by decide +kernel
theorem hd_tl {l : List Nat} {a : Nat} (h : l.head? = some a) : l = a :: l.tail := by
  cases l with
  | nil => cases h
  | cons b t => cases h; rfl
theorem cmb_hd : cmb 1 25 = 1 :: (cmb 1 25).tail ∧ cmb 2 25 = 3 :: (cmb 2 25).tail ∧ cmb 3 25 = 7 :: (cmb 3 25).tail ∧ cmb 4 25 = 15 :: (cmb 4 25).tail := ⟨hd_tl (by decide +kernel), hd_tl (by decide +kernel), hd_tl (by decide +kernel), hd_tl (by decide +kernel)⟩
theorem cmb_len : (cmb 1 25).length ≤ 12650 ∧ (cmb 2 25).length ≤ 12650 ∧ (cmb 3 25).length ≤ 12650 ∧ (cmb 4 25).length ≤ 12650 := by decide +kernel
