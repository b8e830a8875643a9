/-! ===== shaped: turns and flips come round ===== -/
theorem rho_tab : ∀ i, i < 25 → rho i < 25 ∧ rho (rho (rho (rho i))) = i := by decide +kernel
theorem phi_tab : ∀ i, i < 25 → phi i < 25 ∧ phi (phi i) = i := by decide +kernel
theorem tn_bt (x : Int32) {i : Nat} (hi : i < 25) : bt (tn x) i = bt x (rho i) := by
  unfold tn
  rw [mk_bt _ 25 (by decide) i (by omega), decide_eq_true hi, Bool.true_and]
theorem fl_bt (x : Int32) {i : Nat} (hi : i < 25) : bt (fl x) i = bt x (phi i) := by
  unfold fl
  rw [mk_bt _ 25 (by decide) i (by omega), decide_eq_true hi, Bool.true_and]
theorem bx_bt {x y w h i : Nat} (hi : i < 25) : bt (bx x y w h) i = inb x y w h i := by
  unfold bx
  rw [mk_bt _ 25 (by decide) i (by omega), decide_eq_true hi, Bool.true_and]
theorem tnr4 {x : Int32} (h : C25 x) : tn (tn (tn (tn x))) = x := C25.ext (mk_C25 _) h (fun i hi => by
  have r1 := (rho_tab i hi).1
  have r2 := (rho_tab _ r1).1
  have r3 := (rho_tab _ r2).1
  rw [tn_bt _ hi, tn_bt _ r1, tn_bt _ r2, tn_bt _ r3, (rho_tab i hi).2])
theorem flr2 {x : Int32} (h : C25 x) : fl (fl x) = x := C25.ext (mk_C25 _) h (fun i hi => by
  have r1 := (phi_tab i hi).1
  rw [fl_bt _ hi, fl_bt _ r1, (phi_tab i hi).2])
/-- a0 is the threefold turn of a1 iff a1 is the turn of a0 -/
theorem tn3_iff {x y : Int32} (hx : C25 x) (hy : C25 y) : x = tn (tn (tn y)) ↔ tn x = y := ⟨fun h => by rw [h, tnr4 hy], fun h => by rw [← h, tnr4 hx]⟩
theorem fl_iff {x y : Int32} (hx : C25 x) (hy : C25 y) : x = fl y ↔ fl x = y := ⟨fun h => by rw [h, flr2 hy], fun h => by rw [← h, flr2 hx]⟩
