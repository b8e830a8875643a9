theorem xa_of {L : List Cond} (h1 : ∀ w ∈ L.filter goodWord, w ∈ lw_tbl) (h2 : ∀ w ∈ L.filter (fun w => !goodWord w), w ∈ nbW) : ∀ w ∈ L, w ∈ gw ∨ w ∈ nbW := by
  intro w hw
  cases hg : goodWord w with
  | true => exact Or.inl (List.mem_filter.mpr ⟨h1 w (List.mem_filter.mpr ⟨hw, hg⟩), hg⟩)
  | false => exact Or.inr (h2 w (List.mem_filter.mpr ⟨hw, by rw [hg]; rfl⟩))
theorem xa0_74 : ∀ w ∈ vx_atS "LampSheets" 74 "java/lang/IllegalArgumentException" ["java/lang/RuntimeException", "java/lang/Exception"], w ∈ gw ∨ w ∈ nbW := xa_of (by decide +kernel) (by decide +kernel)
theorem xg0_74_70 : ∀ w ∈ Cond.classLink "LampSheets" 70 "java/lang/IllegalArgumentException" :: Cond.initialized "java/lang/IllegalArgumentException" :: vx_atS "LampSheets" 74 "java/lang/IllegalArgumentException" ["java/lang/RuntimeException", "java/lang/Exception"], vx_ot w = true := by decide +kernel
theorem xa1_114 : ∀ w ∈ vx_atS "LampSheets" 114 "java/lang/IllegalStateException" ["java/lang/RuntimeException", "java/lang/Exception"], w ∈ gw ∨ w ∈ nbW := xa_of (by decide +kernel) (by decide +kernel)
theorem xg1_114_110 : ∀ w ∈ Cond.classLink "LampSheets" 110 "java/lang/IllegalStateException" :: Cond.initialized "java/lang/IllegalStateException" :: vx_atS "LampSheets" 114 "java/lang/IllegalStateException" ["java/lang/RuntimeException", "java/lang/Exception"], vx_ot w = true := by decide +kernel
theorem xa2_367 : ∀ w ∈ vx_atS "LampSheets" 367 "java/lang/IndexOutOfBoundsException" ["java/lang/RuntimeException", "java/lang/Exception"], w ∈ gw ∨ w ∈ nbW := xa_of (by decide +kernel) (by decide +kernel)
theorem xg2_367_363 : ∀ w ∈ Cond.classLink "LampSheets" 363 "java/lang/IndexOutOfBoundsException" :: Cond.initialized "java/lang/IndexOutOfBoundsException" :: vx_atS "LampSheets" 367 "java/lang/IndexOutOfBoundsException" ["java/lang/RuntimeException", "java/lang/Exception"], vx_ot w = true := by decide +kernel
theorem xa3_88 : ∀ w ∈ vx_atS "LampSheets" 88 "java/lang/UnsupportedOperationException" ["java/lang/RuntimeException", "java/lang/Exception"], w ∈ gw ∨ w ∈ nbW := xa_of (by decide +kernel) (by decide +kernel)
theorem xg3_88_84 : ∀ w ∈ Cond.classLink "LampSheets" 84 "java/lang/UnsupportedOperationException" :: Cond.initialized "java/lang/UnsupportedOperationException" :: vx_atS "LampSheets" 88 "java/lang/UnsupportedOperationException" ["java/lang/RuntimeException", "java/lang/Exception"], vx_ot w = true := by decide +kernel
