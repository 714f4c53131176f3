/-! THE BITS OF A NUMBER, COUNTED: the sum over the bytes -/
section PS
def f456 (u : Nat) : Nat := (u + u / 256) + (u + u / 256) / 65536 + ((u + u / 256) + (u + u / 256) / 65536) / 4294967296
theorem dv8 {b y : Nat} (h : b < 256) : (b + 256 * y) / 256 = y := by omega
theorem dv16 {b c y : Nat} (h : b < 256) (h' : c < 256) : (b + 256 * (c + 256 * y)) / 65536 = y := by
  rw [show (65536 : Nat) = 256 * 256 from rfl, ← Nat.div_div_eq_div_mul, dv8 h, dv8 h']
theorem dv32 {b c d e y : Nat} (h : b < 256) (h' : c < 256) (h2 : d < 256) (h3 : e < 256) : (b + 256 * (c + 256 * (d + 256 * (e + 256 * y)))) / 4294967296 = y := by
  rw [show (4294967296 : Nat) = 65536 * 65536 from rfl, ← Nat.div_div_eq_div_mul, dv16 h h', dv16 h2 h3]
theorem ad8 (b y c z : Nat) : (b + 256 * y) + (c + 256 * z) = (b + c) + 256 * (y + z) := by omega
theorem pop_sum (g0 g1 g2 g3 g4 g5 g6 g7 : Nat) (h0 : g0 ≤ 8) (h1 : g1 ≤ 8) (h2 : g2 ≤ 8) (h3 : g3 ≤ 8) (h4 : g4 ≤ 8) (h5 : g5 ≤ 8) (h6 : g6 ≤ 8) (h7 : g7 ≤ 8) : f456 (g0 + 256 * (g1 + 256 * (g2 + 256 * (g3 + 256 * (g4 + 256 * (g5 + 256 * (g6 + 256 * (g7 + 256 * 0)))))))) % 128 = g0 + (g1 + (g2 + (g3 + (g4 + (g5 + (g6 + g7)))))) := by
  have a1 : ∀ y, (g0 + 256 * y) + (g0 + 256 * y) / 256 = (g0 + 256 * y) + y := fun y => by rw [dv8 (by omega)]
  unfold f456
  rw [a1]
  have e1 : g0 + 256 * (g1 + 256 * (g2 + 256 * (g3 + 256 * (g4 + 256 * (g5 + 256 * (g6 + 256 * (g7 + 256 * 0))))))) + (g1 + 256 * (g2 + 256 * (g3 + 256 * (g4 + 256 * (g5 + 256 * (g6 + 256 * (g7 + 256 * 0))))))) = (g0 + g1) + 256 * ((g1 + g2) + 256 * ((g2 + g3) + 256 * ((g3 + g4) + 256 * ((g4 + g5) + 256 * ((g5 + g6) + 256 * ((g6 + g7) + 256 * ((g7 + 0) + 256 * 0))))))) := by
    rw [ad8, ad8, ad8, ad8, ad8, ad8, ad8, show g7 + 256 * 0 + 0 = (g7 + 0) + 256 * 0 from rfl]
  rw [e1, dv16 (by omega) (by omega)]
  have e2 : (g0 + g1) + 256 * ((g1 + g2) + 256 * ((g2 + g3) + 256 * ((g3 + g4) + 256 * ((g4 + g5) + 256 * ((g5 + g6) + 256 * ((g6 + g7) + 256 * ((g7 + 0) + 256 * 0))))))) + ((g2 + g3) + 256 * ((g3 + g4) + 256 * ((g4 + g5) + 256 * ((g5 + g6) + 256 * ((g6 + g7) + 256 * ((g7 + 0) + 256 * 0)))))) = (g0 + g1 + (g2 + g3)) + 256 * ((g1 + g2 + (g3 + g4)) + 256 * ((g2 + g3 + (g4 + g5)) + 256 * ((g3 + g4 + (g5 + g6)) + 256 * ((g4 + g5 + (g6 + g7)) + 256 * ((g5 + g6 + (g7 + 0)) + 256 * ((g6 + g7) + 256 * ((g7 + 0) + 256 * 0))))))) := by
    rw [ad8, ad8, ad8, ad8, ad8, ad8]; rfl
  rw [e2, dv32 (by omega) (by omega) (by omega) (by omega), ad8]
  generalize (g1 + g2 + (g3 + g4)) + 256 * ((g2 + g3 + (g4 + g5)) + 256 * ((g3 + g4 + (g5 + g6)) + 256 * ((g4 + g5 + (g6 + g7)) + 256 * ((g5 + g6 + (g7 + 0)) + 256 * ((g6 + g7) + 256 * ((g7 + 0) + 256 * 0)))))) + _ = z
  omega
theorem pop_nat {X : Nat} (h : X < 2 ^ 64) : f456 (gN 8 X) % 128 = pcN 64 X ∧ gN 8 X ≤ 578721382704613384 := by
  obtain ⟨b0, b1, b2, b3, b4, b5, b6, b7, h0, h1, h2, h3, h4, h5, h6, h7, rfl⟩ := bytes8 h
  rw [gN_8 b0 b1 b2 b3 b4 b5 b6 b7 h0 h1 h2 h3 h4 h5 h6 h7, pc64 b0 b1 b2 b3 b4 b5 b6 b7 h0 h1 h2 h3 h4 h5 h6 h7]
  have l0 := pc8_le b0 h0
  have l1 := pc8_le b1 h1
  have l2 := pc8_le b2 h2
  have l3 := pc8_le b3 h3
  have l4 := pc8_le b4 h4
  have l5 := pc8_le b5 h5
  have l6 := pc8_le b6 h6
  have l7 := pc8_le b7 h7
  refine ⟨pop_sum _ _ _ _ _ _ _ _ l0 l1 l2 l3 l4 l5 l6 l7, ?_⟩
  generalize pcN 8 b0 = g0 at *
  generalize pcN 8 b1 = g1 at *
  generalize pcN 8 b2 = g2 at *
  generalize pcN 8 b3 = g3 at *
  generalize pcN 8 b4 = g4 at *
  generalize pcN 8 b5 = g5 at *
  generalize pcN 8 b6 = g6 at *
  generalize pcN 8 b7 = g7 at *
  clear h
  omega
end PS
