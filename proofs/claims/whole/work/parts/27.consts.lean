section WC2
theorem le_8_4 : ((8, 4, 1, 3, 6, 2) : Nat × Nat × Nat × Nat × Nat × Nat) ∈ layL := by decide
theorem le_8_5 : ((8, 5, 2, 1, 13, 0) : Nat × Nat × Nat × Nat × Nat × Nat) ∈ layL := by decide
theorem le_7_0 : ((7, 0, 1, 3, 7, 3) : Nat × Nat × Nat × Nat × Nat × Nat) ∈ layL := by decide
theorem le_2_0 : ((2, 0, 1, 2, 1, 64) : Nat × Nat × Nat × Nat × Nat × Nat) ∈ layL := by decide
theorem le_5_0 : ((5, 0, 1, 2, 2, 425) : Nat × Nat × Nat × Nat × Nat × Nat) ∈ layL := by decide
theorem le_5_1 : ((5, 1, 2, 2, 3, 6) : Nat × Nat × Nat × Nat × Nat × Nat) ∈ layL := by decide
theorem le_0_0 : ((0, 0, 1, 1, 13, 0) : Nat × Nat × Nat × Nat × Nat × Nat) ∈ layL := by decide
theorem le_0_1 : ((0, 1, 2, 1, 13, 0) : Nat × Nat × Nat × Nat × Nat × Nat) ∈ layL := by decide
theorem le_0_2 : ((0, 2, 3, 2, 4, 16) : Nat × Nat × Nat × Nat × Nat × Nat) ∈ layL := by decide
theorem le_0_3 : ((0, 3, 4, 2, 5, 16) : Nat × Nat × Nat × Nat × Nat × Nat) ∈ layL := by decide
theorem le_0_4 : ((0, 4, 5, 3, 8, 2) : Nat × Nat × Nat × Nat × Nat × Nat) ∈ layL := by decide
theorem le_3_0 : ((3, 0, 1, 1, 5, 0) : Nat × Nat × Nat × Nat × Nat × Nat) ∈ layL := by decide
theorem le_3_1 : ((3, 1, 4, 1, 7, 0) : Nat × Nat × Nat × Nat × Nat × Nat) ∈ layL := by decide
theorem le_6_0 : ((6, 0, 1, 3, 9, 4) : Nat × Nat × Nat × Nat × Nat × Nat) ∈ layL := by decide
theorem le_10_0 : ((10, 0, 1, 1, 13, 0) : Nat × Nat × Nat × Nat × Nat × Nat) ∈ layL := by decide
theorem le_4_0 : ((4, 0, 1, 1, 13, 0) : Nat × Nat × Nat × Nat × Nat × Nat) ∈ layL := by decide
theorem le_1_0 : ((1, 0, 1, 1, 13, 0) : Nat × Nat × Nat × Nat × Nat × Nat) ∈ layL := by decide
theorem le_1_1 : ((1, 1, 2, 1, 13, 0) : Nat × Nat × Nat × Nat × Nat × Nat) ∈ layL := by decide
theorem le_9_0 : ((9, 0, 1, 1, 2, 0) : Nat × Nat × Nat × Nat × Nat × Nat) ∈ layL := by decide
theorem le_11_0 : ((11, 0, 1, 1, 10, 0) : Nat × Nat × Nat × Nat × Nat × Nat) ∈ layL := by decide
theorem le_11_1 : ((11, 1, 11, 1, 2, 0) : Nat × Nat × Nat × Nat × Nat × Nat) ∈ layL := by decide
theorem le_11_2 : ((11, 2, 13, 1, 4, 0) : Nat × Nat × Nat × Nat × Nat × Nat) ∈ layL := by decide
theorem le_11_3 : ((11, 3, 15, 1, 1, 0) : Nat × Nat × Nat × Nat × Nat × Nat) ∈ layL := by decide
theorem le_11_4 : ((11, 4, 18, 1, 9, 0) : Nat × Nat × Nat × Nat × Nat × Nat) ∈ layL := by decide
theorem le_11_5 : ((11, 5, 21, 1, 6, 0) : Nat × Nat × Nat × Nat × Nat × Nat) ∈ layL := by decide
theorem le_11_6 : ((11, 6, 27, 1, 5, 0) : Nat × Nat × Nat × Nat × Nat × Nat) ∈ layL := by decide
theorem le_11_7 : ((11, 7, 30, 1, 7, 0) : Nat × Nat × Nat × Nat × Nat × Nat) ∈ layL := by decide
theorem la_6 : ((6, 2, 2, 2, 1, 2, 0) : Nat × Nat × Nat × Nat × Nat × Nat × Nat) ∈ layA := by decide
theorem la_7 : ((7, 3, 1, 2, 1, 2, 0) : Nat × Nat × Nat × Nat × Nat × Nat × Nat) ∈ layA := by decide
theorem la_8 : ((8, 2, 1, 3, 1, 5, 0) : Nat × Nat × Nat × Nat × Nat × Nat × Nat) ∈ layA := by decide
theorem la_9 : ((9, 4, 1, 1, 2, 10, 40) : Nat × Nat × Nat × Nat × Nat × Nat × Nat) ∈ layA := by decide
theorem cc_1 : Int64.ofNat 1 = 1 := by decide
theorem cl_m1 : Int64.ofInt (-1) = (-1) := by decide
theorem cl_6148914691236517205 : Int64.ofInt 6148914691236517205 = 6148914691236517205 := by decide
theorem cl_3689348814741910323 : Int64.ofInt 3689348814741910323 = 3689348814741910323 := by decide
theorem cl_1085102592571150095 : Int64.ofInt 1085102592571150095 = 1085102592571150095 := by decide
theorem cb_32 : (Int8.ofInt 32).toInt32 = 32 := by decide
theorem cb_127 : (Int8.ofInt 127).toInt32 = 127 := by decide
theorem ci_2147483639 : Int32.ofInt 2147483639 = 2147483639 := by decide
theorem cb_31 : (Int8.ofInt 31).toInt32 = 31 := by decide
theorem cl_4294967295 : Int64.ofInt 4294967295 = 4294967295 := by decide
theorem cs_180 : (Int16.ofInt 180).toInt32 = 180 := by decide
theorem cs_11520 : (Int16.ofInt 11520).toInt32 = 11520 := by decide
theorem cs_240 : (Int16.ofInt 240).toInt32 = 240 := by decide
theorem cb_120 : (Int8.ofInt 120).toInt32 = 120 := by decide
theorem cs_640 : (Int16.ofInt 640).toInt32 = 640 := by decide
theorem cb_80 : (Int8.ofInt 80).toInt32 = 80 := by decide
theorem ci_34000 : Int32.ofInt 34000 = 34000 := by decide
theorem cs_560 : (Int16.ofInt 560).toInt32 = 560 := by decide
theorem cb_101 : (Int8.ofInt 101).toInt32 = 101 := by decide
theorem ci_42925 : Int32.ofInt 42925 = 42925 := by decide
theorem cs_303 : (Int16.ofInt 303).toInt32 = 303 := by decide
theorem cs_19392 : (Int16.ofInt 19392).toInt32 = 19392 := by decide
theorem wc_stB {m pc x y t n b n' : Nat} {z : Int} {L : List (Option Value)} {S : List Value} {σ : zSt} {P : Option Value → zSt → Prop} {v w : Int32} (hn : pc + 1 = n') (hc : zcode m pc = some (.bastore, x, y, z)) (ht : ztg σ b = (2, t, n)) (hty : siteTy t = .boolean) : wp m pc L (.int w :: .int v :: .ref b :: S) σ P ↔ ((zIn v n ∧ (w = 0 ∨ w = 1)) ∧ wp m n' L S (sai σ t b v.toNatClampNeg w) P) := by
  subst hn
  refine wp_cond (q := (pc + 1, L, S, sai σ t b v.toNatClampNeg w)) hc rfl (fun h => ?_) (fun h => ?_)
  · show zIst .boolean pc L (.int w :: .int v :: .ref b :: S) σ = _
    unfold zIst
    dsimp only
    rw [ht, if_pos ⟨rfl, hty, h.1, fun _ => h.2⟩]
  · show zIst .boolean pc L (.int w :: .int v :: .ref b :: S) σ = _
    unfold zIst
    dsimp only
    rw [ht, if_neg (fun g => h ⟨g.2.2.1, g.2.2.2 rfl⟩)]
end WC2
