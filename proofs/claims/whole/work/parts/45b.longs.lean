theorem fold8 {p0 p1 p2 p3 p4 p5 p6 p7 : Nat} (h0 : p0 ≤ 8) (h1 : p1 ≤ 8) (h2 : p2 ≤ 8) (h3 : p3 ≤ 8) (h4 : p4 ≤ 8) (h5 : p5 ≤ 8) (h6 : p6 ≤ 8) (h7 : p7 ≤ 8) {w A1 A2 A3 A4 A5 A6 : Nat} (g6 : A6 = 256 * p7 + p6) (g5 : A5 = 256 * A6 + p5) (g4 : A4 = 256 * A5 + p4) (g3 : A3 = 256 * A4 + p3) (g2 : A2 = 256 * A3 + p2) (g1 : A1 = 256 * A2 + p1) (hw : w = 256 * A1 + p0) :
    w < 2 ^ 60 ∧ w + w / 256 < 2 ^ 60 ∧ (w + w / 256) + (w + w / 256) / 65536 < 2 ^ 60 ∧ ((w + w / 256) + (w + w / 256) / 65536 + ((w + w / 256) + (w + w / 256) / 65536) / 4294967296) % 128 = p0 + (p1 + (p2 + (p3 + (p4 + (p5 + (p6 + p7)))))) := by
  have a6 : A6 ≤ 2056 := by omega
  have a5 : A5 ≤ 526344 := by omega
  have a4 : A4 ≤ 134744072 := by omega
  have a3 : A3 ≤ 34494482440 := by omega
  have a2 : A2 ≤ 8830587504648 := by omega
  have a1 : A1 ≤ 2260630401189896 := by omega
  have aw : w ≤ 578721382704613384 := by omega
  have e1 : w / 256 = A1 := by clear g1 g2 g3 g4 g5 g6; omega
  rw [e1]
  have e2 : w + A1 = 65536 * (A2 + A3) + (256 * (p1 + p2) + (p0 + p1)) := by clear e1 g3 g4 g5 g6; omega
  have e3 : (w + A1) / 65536 = A2 + A3 := by clear e1 g1 g2 g3 g4 g5 g6 hw; omega
  rw [e3]
  have e4 : A2 + A3 = 65536 * (A4 + A5) + (256 * (p3 + p4) + (p2 + p3)) := by clear e1 e2 e3 g1 hw g5 g6; omega
  have e5 : A4 + A5 = 65536 * (A6 + p7) + (256 * (p5 + p6) + (p4 + p5)) := by clear e1 e2 e3 e4 g1 g2 g3 hw; omega
  have e6 : w + A1 + (A2 + A3) = 4294967296 * (A4 + A5 + (A6 + p7)) + (65536 * (256 * (p3 + p4) + (p2 + p3)) + 65536 * (256 * (p5 + p6) + (p4 + p5)) + (256 * (p3 + p4) + (p2 + p3)) + (256 * (p1 + p2) + (p0 + p1))) := by
    clear e1 e3 g1 g2 g3 g4 g5 g6 hw; omega
  have e7 : (w + A1 + (A2 + A3)) / 4294967296 = A4 + A5 + (A6 + p7) := by
    rw [e6]; clear e1 e2 e3 e4 e5 e6 g1 g2 g3 g4 g5 g6 hw a1 a2 a3 a4 a5 a6 aw; omega
  rw [e7]
  refine ⟨by omega, by omega, by omega, ?_⟩
  rw [e6]
  clear e1 e2 e3 e4 e6 e7 g1 g2 g3 g4 g5 hw a1 a2 a3 a4 a5 a6 aw
  omega
