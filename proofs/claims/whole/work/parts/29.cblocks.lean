theorem b58_16 {σ : zSt} {P : Option Value → zSt → Prop} (hC : CShape σ) {a0 : Nat} {x1 x2 : Int32} :
    wp 58 16 [some (.ref a0), some (.int x1), some (.int x2)] [] σ P ↔ (zIs σ a0 7 ∧ (zIn x2 3 ∧ wp 58 7 [some (.ref a0), some (.int x1), some (.int (x2 + 1))] [] (sfi σ 2 1 ((a0 + 1) + 1 + 2 * Int32.toNatClampNeg x2) (-1)) P)) := by
  refine (wp_s (n := 17) (zcode_of mc_58 (r := (.aload_n 0, 0, 0, 0)) rfl) rfl rfl).trans ?_
  refine (wc_is (zcode_of mc_58 (r := (.getfield 11, 7, 0, 0)) rfl)).trans (and_congr_right fun h1 => ?_)
  refine (wc_getR (n' := 20) (d := 1) rfl (zcode_of mc_58 (r := (.getfield 11, 7, 0, 0)) rfl) rfl hC le_7_0 rfl rfl rfl h1).trans ?_
  refine (wp_s (n := 21) (zcode_of mc_58 (r := (.iload_n 2, 0, 0, 0)) rfl) rfl rfl).trans ?_
  refine (wc_ald (n' := 22) rfl (zcode_of mc_58 (r := (.aaload, 0, 0, 0)) rfl) hC la_7 rfl rfl rfl rfl rfl (cs_T hC le_7_0 h1)).trans (and_congr_right fun h2 => ?_)
  refine (wp_ic (n' := 23) rfl (zcode_of mc_58 (r := (.iconst (-1), 0, 0, 0)) rfl) ci_m1).trans ?_
  refine (wc_putI (n' := 26) rfl (zcode_of mc_58 (r := (.putfield 35, 2, 1, 0)) rfl) rfl (zIs_of (cs_A hC la_7 (cs_T hC le_7_0 h1) h2))).trans ?_
  refine (wp_inc (n' := 29) rfl (zcode_of mc_58 (r := (.iinc 2 1, 0, 0, 0)) rfl) rfl rfl ci_1).trans ?_
  exact wp_goto (off := (-22)) (t := 7) (zcode_of mc_58 (r := (.goto (-22), 0, 0, 0)) rfl) (by decide)
theorem b58_32 {σ : zSt} {P : Option Value → zSt → Prop} {a0 : Nat} {x1 x2 : Int32} :
    wp 58 32 [some (.ref a0), some (.int x1), some (.int x2)] [] σ P ↔ P none σ := by
  exact wp_retV (zcode_of mc_58 (r := (.return_, 0, 0, 0)) rfl) rfl
theorem mc_59 : mCode 59 = zc_59 := rfl
theorem b59 {σ : zSt} {P : Option Value → zSt → Prop} {a0 : Nat} :
    wpM 59 [.ref a0] σ P ↔ wp 59 5 [some (.ref a0), some (.int 16), some (.int 0)] [] σ P := by
  show wp 59 0 [some (.ref a0), none, none] [] σ P ↔ _
  refine (wp_bp (n' := 2) rfl (zcode_of mc_59 (r := (.bipush 16, 0, 0, 0)) rfl) cb_16).trans ?_
  refine (wp_s (n := 3) (zcode_of mc_59 (r := (.istore_n 1, 0, 0, 0)) rfl) rfl rfl).trans ?_
  refine (wp_ic (n' := 4) rfl (zcode_of mc_59 (r := (.iconst 0, 0, 0, 0)) rfl) ci_0).trans ?_
  refine (wp_s (n := 5) (zcode_of mc_59 (r := (.istore_n 2, 0, 0, 0)) rfl) rfl rfl).trans ?_
  exact Iff.rfl
theorem b59_5 {σ : zSt} {P : Option Value → zSt → Prop} {a0 : Nat} {x1 x2 : Int32} :
    wp 59 5 [some (.ref a0), some (.int x1), some (.int x2)] [] σ P ↔ (zIs σ a0 7 ∧ (if (zfi σ 7 1 a0) ≤ x2 then wp 59 35 [some (.ref a0), some (.int x1), some (.int x2)] [] σ P else wp 59 13 [some (.ref a0), some (.int x1), some (.int x2)] [] σ P)) := by
  refine (wp_s (n := 6) (zcode_of mc_59 (r := (.iload_n 2, 0, 0, 0)) rfl) rfl rfl).trans ?_
  refine (wp_s (n := 7) (zcode_of mc_59 (r := (.aload_n 0, 0, 0, 0)) rfl) rfl rfl).trans ?_
  refine (wc_is (zcode_of mc_59 (r := (.getfield 17, 7, 1, 0)) rfl)).trans (and_congr_right fun h1 => ?_)
  refine (wc_getI (n' := 10) rfl (zcode_of mc_59 (r := (.getfield 17, 7, 1, 0)) rfl) rfl h1).trans ?_
  exact wp_jump (off := 25) (t := 35) (zcode_of mc_59 (r := (.if_icmp .ge 25, 0, 0, 0)) rfl) rfl rfl (by decide)
theorem b59_13 {σ : zSt} {P : Option Value → zSt → Prop} (hC : CShape σ) {a0 : Nat} {x1 x2 : Int32} :
    wp 59 13 [some (.ref a0), some (.int x1), some (.int x2)] [] σ P ↔ (zIs σ a0 7 ∧ (zIn x2 3 ∧ wp 59 5 [some (.ref a0), some (.int (x1 + (if 0 < (zfi σ 2 1 ((a0 + 1) + 1 + 2 * Int32.toNatClampNeg x2)) then (zfi σ 2 1 ((a0 + 1) + 1 + 2 * Int32.toNatClampNeg x2)) else 0))), some (.int (x2 + 1))] [] σ P)) := by
  refine (wp_s (n := 14) (zcode_of mc_59 (r := (.iload_n 1, 0, 0, 0)) rfl) rfl rfl).trans ?_
  refine (wp_ic (n' := 15) rfl (zcode_of mc_59 (r := (.iconst 0, 0, 0, 0)) rfl) ci_0).trans ?_
  refine (wp_s (n := 16) (zcode_of mc_59 (r := (.aload_n 0, 0, 0, 0)) rfl) rfl rfl).trans ?_
  refine (wc_is (zcode_of mc_59 (r := (.getfield 11, 7, 0, 0)) rfl)).trans (and_congr_right fun h1 => ?_)
  refine (wc_getR (n' := 19) (d := 1) rfl (zcode_of mc_59 (r := (.getfield 11, 7, 0, 0)) rfl) rfl hC le_7_0 rfl rfl rfl h1).trans ?_
  refine (wp_s (n := 20) (zcode_of mc_59 (r := (.iload_n 2, 0, 0, 0)) rfl) rfl rfl).trans ?_
  refine (wc_ald (n' := 21) rfl (zcode_of mc_59 (r := (.aaload, 0, 0, 0)) rfl) hC la_7 rfl rfl rfl rfl rfl (cs_T hC le_7_0 h1)).trans (and_congr_right fun h2 => ?_)
  refine (wc_getI (n' := 24) rfl (zcode_of mc_59 (r := (.getfield 35, 2, 1, 0)) rfl) rfl (zIs_of (cs_A hC la_7 (cs_T hC le_7_0 h1) h2))).trans ?_
  refine (wc_max (n' := 27) rfl (zcode_of mc_59 (r := (.invokestatic 38, 0, 8, 2)) rfl) (Nat.le_of_ble_eq_true rfl)).trans ?_
  refine (wp_s (n := 28) (zcode_of mc_59 (r := (.iadd, 0, 0, 0)) rfl) rfl rfl).trans ?_
  refine (wp_s (n := 29) (zcode_of mc_59 (r := (.istore_n 1, 0, 0, 0)) rfl) rfl rfl).trans ?_
  refine (wp_inc (n' := 32) rfl (zcode_of mc_59 (r := (.iinc 2 1, 0, 0, 0)) rfl) rfl rfl ci_1).trans ?_
  exact wp_goto (off := (-27)) (t := 5) (zcode_of mc_59 (r := (.goto (-27), 0, 0, 0)) rfl) (by decide)
theorem b59_35 {σ : zSt} {P : Option Value → zSt → Prop} {a0 : Nat} {x1 x2 : Int32} :
    wp 59 35 [some (.ref a0), some (.int x1), some (.int x2)] [] σ P ↔ P (some (.int x1)) σ := by
  refine (wp_s (n := 36) (zcode_of mc_59 (r := (.iload_n 1, 0, 0, 0)) rfl) rfl rfl).trans ?_
  exact wp_retI (zcode_of mc_59 (r := (.ireturn, 0, 0, 0)) rfl) rfl
theorem mc_60 : mCode 60 = zc_60 := rfl
theorem b60 {σ : zSt} {P : Option Value → zSt → Prop} {a0 : Nat} {x1 x2 x3 x4 : Int32} :
    wpM 60 [.ref a0, .int x1, .int x2, .int x3, .int x4] σ P ↔ ((¬ (2 : Int32) < 0 ∧ Int32.toNatClampNeg 2 * 4 ≤ 536870912) ∧ wp 60 9 [some (.ref a0), some (.int x1), some (.int x2), some (.int x3), some (.int x4), none] [.ref (znx σ), .ref a0] (zNewR σ 6 (Int32.toNatClampNeg 2)) P) := by
  show wp 60 0 [some (.ref a0), some (.int x1), some (.int x2), some (.int x3), some (.int x4), none] [] σ P ↔ _
  refine (wp_s (n := 1) (zcode_of mc_60 (r := (.aload_n 0, 0, 0, 0)) rfl) rfl rfl).trans ?_
  refine (wc_oi (n' := 4) rfl (zcode_of mc_60 (r := (.invokespecial 3, 0, 5, 0)) rfl) (Nat.le_of_ble_eq_true rfl)).trans ?_
  refine (wp_s (n := 5) (zcode_of mc_60 (r := (.aload_n 0, 0, 0, 0)) rfl) rfl rfl).trans ?_
  refine (wp_ic (n' := 6) rfl (zcode_of mc_60 (r := (.iconst 2, 0, 0, 0)) rfl) ci_2).trans ?_
  refine (wc_ana (n' := 9) rfl (zcode_of mc_60 (r := (.anewarray 9, 6, 0, 0)) rfl)).trans (and_congr_right fun h1 => ?_)
  exact Iff.rfl
theorem b60_9 {σ : zSt} {P : Option Value → zSt → Prop} {a0 s0 s1 : Nat} {x1 x2 x3 x4 : Int32} {u5 : Option Value} :
    wp 60 9 [some (.ref a0), some (.int x1), some (.int x2), some (.int x3), some (.int x4), u5] [.ref s0, .ref s1] σ P ↔ (zIs σ s1 8 ∧ wp 60 16 [some (.ref a0), some (.int x1), some (.int x2), some (.int x3), some (.int x4), u5] [.ref (znx (sfr σ 8 4 s1 (some s0))), .ref a0] (zNew (sfr σ 8 4 s1 (some s0)) 13) P) := by
  refine (wc_isP (zcode_of mc_60 (r := (.putfield 11, 8, 4, 0)) rfl)).trans (and_congr_right fun h1 => ?_)
  refine (wc_putR (n' := 12) rfl (zcode_of mc_60 (r := (.putfield 11, 8, 4, 0)) rfl) rfl h1).trans ?_
  refine (wp_s (n := 13) (zcode_of mc_60 (r := (.aload_n 0, 0, 0, 0)) rfl) rfl rfl).trans ?_
  refine (wc_new (σ := sfr σ 8 4 s1 (some s0)) (n' := 16) rfl (zcode_of mc_60 (r := (.new 17, 13, 0, 0)) rfl)).trans ?_
  exact Iff.rfl
theorem b60_16 {σ : zSt} {P : Option Value → zSt → Prop} {a0 s0 s1 : Nat} {x1 x2 x3 x4 : Int32} {u5 : Option Value} :
    wp 60 16 [some (.ref a0), some (.int x1), some (.int x2), some (.int x3), some (.int x4), u5] [.ref s0, .ref s1] σ P ↔ wpM 184 [.ref s0] σ (fun r τ => wp 60 20 [some (.ref a0), some (.int x1), some (.int x2), some (.int x3), some (.int x4), u5] (r.toList ++ [.ref s0, .ref s1]) τ P) := by
  refine (wp_s (n := 17) (zcode_of mc_60 (r := (.dup, 0, 0, 0)) rfl) rfl rfl).trans ?_
  exact wp_call (q := ([.ref s0], [.ref s0, .ref s1])) (zcode_of mc_60 (r := (.invokespecial 19, 184, 2, 0)) rfl) rfl (zCa_I (Nat.le_of_ble_eq_true rfl) rfl (Or.inl rfl)) ⟨Nat.le_of_ble_eq_true rfl, Nat.le_of_ble_eq_true rfl⟩
theorem b60_20 {σ : zSt} {P : Option Value → zSt → Prop} {a0 s0 s1 : Nat} {x1 x2 x3 x4 : Int32} {u5 : Option Value} :
    wp 60 20 [some (.ref a0), some (.int x1), some (.int x2), some (.int x3), some (.int x4), u5] [.ref s0, .ref s1] σ P ↔ (zIs σ s1 8 ∧ (zIs σ a0 8 ∧ (((x4 : Int32) = 0 ∨ (x4 : Int32) = 1) ∧ wp 60 52 [some (.ref a0), some (.int x1), some (.int x2), some (.int x3), some (.int x4), some (.int 0)] [] (sfi (sfi (sfi (sfi (sfi (sfr σ 8 5 s1 (some s0)) 8 6 a0 (-1)) 8 0 a0 x1) 8 1 a0 x2) 8 2 a0 x3) 8 3 a0 x4) P))) := by
  refine (wc_isP (zcode_of mc_60 (r := (.putfield 20, 8, 5, 0)) rfl)).trans (and_congr_right fun h1 => ?_)
  refine (wc_putR (n' := 23) rfl (zcode_of mc_60 (r := (.putfield 20, 8, 5, 0)) rfl) rfl h1).trans ?_
  refine (wp_s (n := 24) (zcode_of mc_60 (r := (.aload_n 0, 0, 0, 0)) rfl) rfl rfl).trans ?_
  refine (wp_ic (n' := 25) rfl (zcode_of mc_60 (r := (.iconst (-1), 0, 0, 0)) rfl) ci_m1).trans ?_
  refine (wc_isP (σ := sfr σ 8 5 s1 (some s0)) (zcode_of mc_60 (r := (.putfield 24, 8, 6, 0)) rfl)).trans (and_congr_right fun h2 => ?_)
  refine (wc_putI (σ := sfr σ 8 5 s1 (some s0)) (n' := 28) rfl (zcode_of mc_60 (r := (.putfield 24, 8, 6, 0)) rfl) rfl h2).trans ?_
  refine (wp_s (n := 29) (zcode_of mc_60 (r := (.aload_n 0, 0, 0, 0)) rfl) rfl rfl).trans ?_
  refine (wp_s (n := 30) (zcode_of mc_60 (r := (.iload_n 1, 0, 0, 0)) rfl) rfl rfl).trans ?_
  refine (wc_putI (σ := sfi (sfr σ 8 5 s1 (some s0)) 8 6 a0 (-1)) (n' := 33) rfl (zcode_of mc_60 (r := (.putfield 28, 8, 0, 0)) rfl) rfl h2).trans ?_
  refine (wp_s (n := 34) (zcode_of mc_60 (r := (.aload_n 0, 0, 0, 0)) rfl) rfl rfl).trans ?_
  refine (wp_s (n := 35) (zcode_of mc_60 (r := (.iload_n 2, 0, 0, 0)) rfl) rfl rfl).trans ?_
  refine (wc_putI (σ := sfi (sfi (sfr σ 8 5 s1 (some s0)) 8 6 a0 (-1)) 8 0 a0 x1) (n' := 38) rfl (zcode_of mc_60 (r := (.putfield 31, 8, 1, 0)) rfl) rfl h2).trans ?_
  refine (wp_s (n := 39) (zcode_of mc_60 (r := (.aload_n 0, 0, 0, 0)) rfl) rfl rfl).trans ?_
  refine (wp_s (n := 40) (zcode_of mc_60 (r := (.iload_n 3, 0, 0, 0)) rfl) rfl rfl).trans ?_
  refine (wc_putI (σ := sfi (sfi (sfi (sfr σ 8 5 s1 (some s0)) 8 6 a0 (-1)) 8 0 a0 x1) 8 1 a0 x2) (n' := 43) rfl (zcode_of mc_60 (r := (.putfield 34, 8, 2, 0)) rfl) rfl h2).trans ?_
  refine (wp_s (n := 44) (zcode_of mc_60 (r := (.aload_n 0, 0, 0, 0)) rfl) rfl rfl).trans ?_
  refine (wp_s (n := 46) (zcode_of mc_60 (r := (.iload 4, 0, 0, 0)) rfl) rfl rfl).trans ?_
  refine (wc_putZ (σ := sfi (sfi (sfi (sfi (sfr σ 8 5 s1 (some s0)) 8 6 a0 (-1)) 8 0 a0 x1) 8 1 a0 x2) 8 2 a0 x3) (n' := 49) rfl (zcode_of mc_60 (r := (.putfield 37, 8, 3, 0)) rfl) rfl h2).trans (and_congr_right fun h3 => ?_)
  refine (wp_ic (n' := 50) rfl (zcode_of mc_60 (r := (.iconst 0, 0, 0, 0)) rfl) ci_0).trans ?_
  refine (wp_s (n := 52) (zcode_of mc_60 (r := (.istore 5, 0, 0, 0)) rfl) rfl rfl).trans ?_
  exact Iff.rfl
theorem b60_52 {σ : zSt} {P : Option Value → zSt → Prop} {a0 : Nat} {x1 x2 x3 x4 x5 : Int32} :
    wp 60 52 [some (.ref a0), some (.int x1), some (.int x2), some (.int x3), some (.int x4), some (.int x5)] [] σ P ↔ (zIs σ a0 8 ∧ ((zfr σ 8 4 a0).isSome = true ∧ (((ztg σ (zrf σ 8 4 a0)).1 = 2 ∨ (ztg σ (zrf σ 8 4 a0)).1 = 3 ∨ (ztg σ (zrf σ 8 4 a0)).1 = 4 ∨ (ztg σ (zrf σ 8 4 a0)).1 = 5) ∧ (if (zln σ (zrf σ 8 4 a0)) ≤ x5 then wp 60 82 [some (.ref a0), some (.int x1), some (.int x2), some (.int x3), some (.int x4), some (.int x5)] [] σ P else wp 60 62 [some (.ref a0), some (.int x1), some (.int x2), some (.int x3), some (.int x4), some (.int x5)] [] σ P)))) := by
  refine (wp_s (n := 54) (zcode_of mc_60 (r := (.iload 5, 0, 0, 0)) rfl) rfl rfl).trans ?_
  refine (wp_s (n := 55) (zcode_of mc_60 (r := (.aload_n 0, 0, 0, 0)) rfl) rfl rfl).trans ?_
  refine (wc_is (zcode_of mc_60 (r := (.getfield 11, 8, 4, 0)) rfl)).trans (and_congr_right fun h1 => ?_)
  refine (wc_getE (n' := 58) rfl (zcode_of mc_60 (r := (.getfield 11, 8, 4, 0)) rfl) rfl h1).trans (and_congr_right fun h2 => ?_)
  refine (wc_len (n' := 59) rfl (zcode_of mc_60 (r := (.arraylength, 0, 0, 0)) rfl)).trans (and_congr_right fun h3 => ?_)
  exact wp_jump (off := 23) (t := 82) (zcode_of mc_60 (r := (.if_icmp .ge 23, 0, 0, 0)) rfl) rfl rfl (by decide)
theorem b60_62 {σ : zSt} {P : Option Value → zSt → Prop} {a0 : Nat} {x1 x2 x3 x4 x5 : Int32} :
    wp 60 62 [some (.ref a0), some (.int x1), some (.int x2), some (.int x3), some (.int x4), some (.int x5)] [] σ P ↔ (zIs σ a0 8 ∧ ((zfr σ 8 4 a0).isSome = true ∧ wp 60 71 [some (.ref a0), some (.int x1), some (.int x2), some (.int x3), some (.int x4), some (.int x5)] [.ref (znx σ), .int x5, .ref (zrf σ 8 4 a0)] (zNew σ 2) P)) := by
  refine (wp_s (n := 63) (zcode_of mc_60 (r := (.aload_n 0, 0, 0, 0)) rfl) rfl rfl).trans ?_
  refine (wc_is (zcode_of mc_60 (r := (.getfield 11, 8, 4, 0)) rfl)).trans (and_congr_right fun h1 => ?_)
  refine (wc_getE (n' := 66) rfl (zcode_of mc_60 (r := (.getfield 11, 8, 4, 0)) rfl) rfl h1).trans (and_congr_right fun h2 => ?_)
  refine (wp_s (n := 68) (zcode_of mc_60 (r := (.iload 5, 0, 0, 0)) rfl) rfl rfl).trans ?_
  refine (wc_new (n' := 71) rfl (zcode_of mc_60 (r := (.new 9, 2, 0, 0)) rfl)).trans ?_
  exact Iff.rfl
theorem b60_71 {σ : zSt} {P : Option Value → zSt → Prop} {a0 s0 s2 : Nat} {x1 x2 x3 x4 x5 s1 : Int32} :
    wp 60 71 [some (.ref a0), some (.int x1), some (.int x2), some (.int x3), some (.int x4), some (.int x5)] [.ref s0, .int s1, .ref s2] σ P ↔ wpM 14 [.ref s0] σ (fun r τ => wp 60 75 [some (.ref a0), some (.int x1), some (.int x2), some (.int x3), some (.int x4), some (.int x5)] (r.toList ++ [.ref s0, .int s1, .ref s2]) τ P) := by
  refine (wp_s (n := 72) (zcode_of mc_60 (r := (.dup, 0, 0, 0)) rfl) rfl rfl).trans ?_
  exact wp_call (q := ([.ref s0], [.ref s0, .int s1, .ref s2])) (zcode_of mc_60 (r := (.invokespecial 41, 14, 3, 0)) rfl) rfl (zCa_I (Nat.le_of_ble_eq_true rfl) rfl (Or.inr rfl)) ⟨Nat.le_of_ble_eq_true rfl, Nat.le_of_ble_eq_true rfl⟩
theorem b60_75 {σ : zSt} {P : Option Value → zSt → Prop} {a0 s0 s2 : Nat} {x1 x2 x3 x4 x5 s1 : Int32} :
    wp 60 75 [some (.ref a0), some (.int x1), some (.int x2), some (.int x3), some (.int x4), some (.int x5)] [.ref s0, .int s1, .ref s2] σ P ↔ (((ztg σ s2).1 = 3 ∧ zAsg (ztg σ s2).2.1 (ztg σ s0) = true ∧ zIn s1 (ztg σ s2).2.2) ∧ wp 60 52 [some (.ref a0), some (.int x1), some (.int x2), some (.int x3), some (.int x4), some (.int (x5 + 1))] [] (sar σ (ztg σ s2).2.1 s2 (Int32.toNatClampNeg s1) (some s0)) P) := by
  refine (wc_ast (n' := 76) rfl (zcode_of mc_60 (r := (.aastore, 0, 0, 0)) rfl)).trans (and_congr_right fun h1 => ?_)
  refine (wp_inc (n' := 79) rfl (zcode_of mc_60 (r := (.iinc 5 1, 0, 0, 0)) rfl) rfl rfl ci_1).trans ?_
  exact wp_goto (off := (-27)) (t := 52) (zcode_of mc_60 (r := (.goto (-27), 0, 0, 0)) rfl) (by decide)
theorem b60_82 {σ : zSt} {P : Option Value → zSt → Prop} {a0 : Nat} {x1 x2 x3 x4 x5 : Int32} :
    wp 60 82 [some (.ref a0), some (.int x1), some (.int x2), some (.int x3), some (.int x4), some (.int x5)] [] σ P ↔ P none σ := by
  exact wp_retV (zcode_of mc_60 (r := (.return_, 0, 0, 0)) rfl) rfl
theorem mc_61 : mCode 61 = zc_61 := rfl
theorem b61 {σ : zSt} {P : Option Value → zSt → Prop} {a0 a1 : Nat} :
    wpM 61 [.ref a0, .ref a1] σ P ↔ wp 61 2 [some (.ref a0), some (.ref a1), some (.int 0)] [] σ P := by
  show wp 61 0 [some (.ref a0), some (.ref a1), none] [] σ P ↔ _
  refine (wp_ic (n' := 1) rfl (zcode_of mc_61 (r := (.iconst 0, 0, 0, 0)) rfl) ci_0).trans ?_
  refine (wp_s (n := 2) (zcode_of mc_61 (r := (.istore_n 2, 0, 0, 0)) rfl) rfl rfl).trans ?_
  exact Iff.rfl
theorem b61_2 {σ : zSt} {P : Option Value → zSt → Prop} (hC : CShape σ) {a0 a1 : Nat} {x2 : Int32} :
    wp 61 2 [some (.ref a0), some (.ref a1), some (.int x2)] [] σ P ↔ (zIs σ a0 8 ∧ wpM 187 [.ref (a0 + 2)] σ (fun r τ => wp 61 10 [some (.ref a0), some (.ref a1), some (.int x2)] (r.toList ++ [.int x2]) τ P)) := by
  refine (wp_s (n := 3) (zcode_of mc_61 (r := (.iload_n 2, 0, 0, 0)) rfl) rfl rfl).trans ?_
  refine (wp_s (n := 4) (zcode_of mc_61 (r := (.aload_n 0, 0, 0, 0)) rfl) rfl rfl).trans ?_
  refine (wc_is (zcode_of mc_61 (r := (.getfield 20, 8, 5, 0)) rfl)).trans (and_congr_right fun h1 => ?_)
  refine (wc_getR (n' := 7) (d := 2) rfl (zcode_of mc_61 (r := (.getfield 20, 8, 5, 0)) rfl) rfl hC le_8_5 rfl rfl rfl h1).trans ?_
  exact wp_call (q := ([.ref (a0 + 2)], [.int x2])) (zcode_of mc_61 (r := (.invokevirtual 42, 187, 0, 0)) rfl) rfl (zCa_V (Nat.le_of_ble_eq_true rfl) rfl (zIs_of (cs_T hC le_8_5 h1))) ⟨Nat.le_of_ble_eq_true rfl, Nat.le_of_ble_eq_true rfl⟩
theorem b61_10 {σ : zSt} {P : Option Value → zSt → Prop} {a0 a1 : Nat} {x2 s0 s1 : Int32} :
    wp 61 10 [some (.ref a0), some (.ref a1), some (.int x2)] [.int s0, .int s1] σ P ↔ (if s0 ≤ s1 then wp 61 40 [some (.ref a0), some (.ref a1), some (.int x2)] [] σ P else wp 61 13 [some (.ref a0), some (.ref a1), some (.int x2)] [] σ P) := by
  exact wp_jump (off := 30) (t := 40) (zcode_of mc_61 (r := (.if_icmp .ge 30, 0, 0, 0)) rfl) rfl rfl (by decide)
theorem b61_13 {σ : zSt} {P : Option Value → zSt → Prop} (hC : CShape σ) {a0 a1 : Nat} {x2 : Int32} :
    wp 61 13 [some (.ref a0), some (.ref a1), some (.int x2)] [] σ P ↔ (zIs σ a0 8 ∧ wpM 190 [.ref (a0 + 2), .int x2] σ (fun r τ => wp 61 21 [some (.ref a0), some (.ref a1), some (.int x2)] (r.toList ++ []) τ P)) := by
  refine (wp_s (n := 14) (zcode_of mc_61 (r := (.aload_n 0, 0, 0, 0)) rfl) rfl rfl).trans ?_
  refine (wc_is (zcode_of mc_61 (r := (.getfield 20, 8, 5, 0)) rfl)).trans (and_congr_right fun h1 => ?_)
  refine (wc_getR (n' := 17) (d := 2) rfl (zcode_of mc_61 (r := (.getfield 20, 8, 5, 0)) rfl) rfl hC le_8_5 rfl rfl rfl h1).trans ?_
  refine (wp_s (n := 18) (zcode_of mc_61 (r := (.iload_n 2, 0, 0, 0)) rfl) rfl rfl).trans ?_
  exact wp_call (q := ([.ref (a0 + 2), .int x2], [])) (zcode_of mc_61 (r := (.invokevirtual 46, 190, 0, 1)) rfl) rfl (zCa_V (Nat.le_of_ble_eq_true rfl) rfl (zIs_of (cs_T hC le_8_5 h1))) ⟨Nat.le_of_ble_eq_true rfl, Nat.le_of_ble_eq_true rfl⟩
theorem b61_21 {σ : zSt} {P : Option Value → zSt → Prop} {a0 a1 s0 : Nat} {x2 : Int32} :
    wp 61 21 [some (.ref a0), some (.ref a1), some (.int x2)] [.ref s0] σ P ↔ (zIs σ s0 8 ∧ (zIs σ a1 8 ∧ (if (zfi σ 8 2 a1) ≤ (zfi σ 8 2 s0) then wp 61 40 [some (.ref a0), some (.ref a1), some (.int x2)] [] σ P else wp 61 34 [some (.ref a0), some (.ref a1), some (.int x2)] [] σ P))) := by
  refine (wc_chk (n' := 24) rfl (zcode_of mc_61 (r := (.checkcast 12, 8, 0, 0)) rfl)).trans (and_congr_right fun h1 => ?_)
  refine (wc_getI (n' := 27) rfl (zcode_of mc_61 (r := (.getfield 34, 8, 2, 0)) rfl) rfl h1).trans ?_
  refine (wp_s (n := 28) (zcode_of mc_61 (r := (.aload_n 1, 0, 0, 0)) rfl) rfl rfl).trans ?_
  refine (wc_is (zcode_of mc_61 (r := (.getfield 34, 8, 2, 0)) rfl)).trans (and_congr_right fun h2 => ?_)
  refine (wc_getI (n' := 31) rfl (zcode_of mc_61 (r := (.getfield 34, 8, 2, 0)) rfl) rfl h2).trans ?_
  exact wp_jump (off := 9) (t := 40) (zcode_of mc_61 (r := (.if_icmp .ge 9, 0, 0, 0)) rfl) rfl rfl (by decide)
theorem b61_34 {σ : zSt} {P : Option Value → zSt → Prop} {a0 a1 : Nat} {x2 : Int32} :
    wp 61 34 [some (.ref a0), some (.ref a1), some (.int x2)] [] σ P ↔ wp 61 2 [some (.ref a0), some (.ref a1), some (.int (x2 + 1))] [] σ P := by
  refine (wp_inc (n' := 37) rfl (zcode_of mc_61 (r := (.iinc 2 1, 0, 0, 0)) rfl) rfl rfl ci_1).trans ?_
  exact wp_goto (off := (-35)) (t := 2) (zcode_of mc_61 (r := (.goto (-35), 0, 0, 0)) rfl) (by decide)
theorem b61_40 {σ : zSt} {P : Option Value → zSt → Prop} (hC : CShape σ) {a0 a1 : Nat} {x2 : Int32} :
    wp 61 40 [some (.ref a0), some (.ref a1), some (.int x2)] [] σ P ↔ (zIs σ a0 8 ∧ wpM 193 [.ref (a0 + 2), .int x2, .ref a1] σ (fun r τ => wp 61 49 [some (.ref a0), some (.ref a1), some (.int x2)] (r.toList ++ []) τ P)) := by
  refine (wp_s (n := 41) (zcode_of mc_61 (r := (.aload_n 0, 0, 0, 0)) rfl) rfl rfl).trans ?_
  refine (wc_is (zcode_of mc_61 (r := (.getfield 20, 8, 5, 0)) rfl)).trans (and_congr_right fun h1 => ?_)
  refine (wc_getR (n' := 44) (d := 2) rfl (zcode_of mc_61 (r := (.getfield 20, 8, 5, 0)) rfl) rfl hC le_8_5 rfl rfl rfl h1).trans ?_
  refine (wp_s (n := 45) (zcode_of mc_61 (r := (.iload_n 2, 0, 0, 0)) rfl) rfl rfl).trans ?_
  refine (wp_s (n := 46) (zcode_of mc_61 (r := (.aload_n 1, 0, 0, 0)) rfl) rfl rfl).trans ?_
  exact wp_call (q := ([.ref (a0 + 2), .int x2, .ref a1], [])) (zcode_of mc_61 (r := (.invokevirtual 50, 193, 0, 2)) rfl) rfl (zCa_V (Nat.le_of_ble_eq_true rfl) rfl (zIs_of (cs_T hC le_8_5 h1))) ⟨Nat.le_of_ble_eq_true rfl, Nat.le_of_ble_eq_true rfl⟩
theorem b61_49 {σ : zSt} {P : Option Value → zSt → Prop} {a0 a1 : Nat} {x2 : Int32} :
    wp 61 49 [some (.ref a0), some (.ref a1), some (.int x2)] [] σ P ↔ P none σ := by
  exact wp_retV (zcode_of mc_61 (r := (.return_, 0, 0, 0)) rfl) rfl
theorem mc_62 : mCode 62 = zc_62 := rfl
theorem b62 {σ : zSt} {P : Option Value → zSt → Prop} {a0 : Nat} {x1 : Int32} :
    wpM 62 [.ref a0, .int x1] σ P ↔ (zIs σ a0 8 ∧ wp 62 7 [some (.ref a0), some (.int x1), some (.int 0)] [] (sfi σ 8 6 a0 x1) P) := by
  show wp 62 0 [some (.ref a0), some (.int x1), none] [] σ P ↔ _
  refine (wp_s (n := 1) (zcode_of mc_62 (r := (.aload_n 0, 0, 0, 0)) rfl) rfl rfl).trans ?_
  refine (wp_s (n := 2) (zcode_of mc_62 (r := (.iload_n 1, 0, 0, 0)) rfl) rfl rfl).trans ?_
  refine (wc_isP (zcode_of mc_62 (r := (.putfield 24, 8, 6, 0)) rfl)).trans (and_congr_right fun h1 => ?_)
  refine (wc_putI (n' := 5) rfl (zcode_of mc_62 (r := (.putfield 24, 8, 6, 0)) rfl) rfl h1).trans ?_
  refine (wp_ic (n' := 6) rfl (zcode_of mc_62 (r := (.iconst 0, 0, 0, 0)) rfl) ci_0).trans ?_
  refine (wp_s (n := 7) (zcode_of mc_62 (r := (.istore_n 2, 0, 0, 0)) rfl) rfl rfl).trans ?_
  exact Iff.rfl
theorem b62_7 {σ : zSt} {P : Option Value → zSt → Prop} (hC : CShape σ) {a0 : Nat} {x1 x2 : Int32} :
    wp 62 7 [some (.ref a0), some (.int x1), some (.int x2)] [] σ P ↔ (zIs σ a0 8 ∧ (((ztg σ (a0 + 1)).1 = 2 ∨ (ztg σ (a0 + 1)).1 = 3 ∨ (ztg σ (a0 + 1)).1 = 4 ∨ (ztg σ (a0 + 1)).1 = 5) ∧ (if (zln σ (a0 + 1)) ≤ x2 then wp 62 32 [some (.ref a0), some (.int x1), some (.int x2)] [] σ P else wp 62 16 [some (.ref a0), some (.int x1), some (.int x2)] [] σ P))) := by
  refine (wp_s (n := 8) (zcode_of mc_62 (r := (.iload_n 2, 0, 0, 0)) rfl) rfl rfl).trans ?_
  refine (wp_s (n := 9) (zcode_of mc_62 (r := (.aload_n 0, 0, 0, 0)) rfl) rfl rfl).trans ?_
  refine (wc_is (zcode_of mc_62 (r := (.getfield 11, 8, 4, 0)) rfl)).trans (and_congr_right fun h1 => ?_)
  refine (wc_getR (n' := 12) (d := 1) rfl (zcode_of mc_62 (r := (.getfield 11, 8, 4, 0)) rfl) rfl hC le_8_4 rfl rfl rfl h1).trans ?_
  refine (wc_len (n' := 13) rfl (zcode_of mc_62 (r := (.arraylength, 0, 0, 0)) rfl)).trans (and_congr_right fun h2 => ?_)
  exact wp_jump (off := 19) (t := 32) (zcode_of mc_62 (r := (.if_icmp .ge 19, 0, 0, 0)) rfl) rfl rfl (by decide)
theorem b62_16 {σ : zSt} {P : Option Value → zSt → Prop} (hC : CShape σ) {a0 : Nat} {x1 x2 : Int32} :
    wp 62 16 [some (.ref a0), some (.int x1), some (.int x2)] [] σ P ↔ (zIs σ a0 8 ∧ (zIn x2 2 ∧ wp 62 7 [some (.ref a0), some (.int x1), some (.int (x2 + 1))] [] (sfi σ 2 1 ((a0 + 1) + 2 + 2 * Int32.toNatClampNeg x2) (-1)) P)) := by
  refine (wp_s (n := 17) (zcode_of mc_62 (r := (.aload_n 0, 0, 0, 0)) rfl) rfl rfl).trans ?_
  refine (wc_is (zcode_of mc_62 (r := (.getfield 11, 8, 4, 0)) rfl)).trans (and_congr_right fun h1 => ?_)
  refine (wc_getR (n' := 20) (d := 1) rfl (zcode_of mc_62 (r := (.getfield 11, 8, 4, 0)) rfl) rfl hC le_8_4 rfl rfl rfl h1).trans ?_
  refine (wp_s (n := 21) (zcode_of mc_62 (r := (.iload_n 2, 0, 0, 0)) rfl) rfl rfl).trans ?_
  refine (wc_ald (n' := 22) rfl (zcode_of mc_62 (r := (.aaload, 0, 0, 0)) rfl) hC la_6 rfl rfl rfl rfl rfl (cs_T hC le_8_4 h1)).trans (and_congr_right fun h2 => ?_)
  refine (wp_ic (n' := 23) rfl (zcode_of mc_62 (r := (.iconst (-1), 0, 0, 0)) rfl) ci_m1).trans ?_
  refine (wc_putI (n' := 26) rfl (zcode_of mc_62 (r := (.putfield 54, 2, 1, 0)) rfl) rfl (zIs_of (cs_A hC la_6 (cs_T hC le_8_4 h1) h2))).trans ?_
  refine (wp_inc (n' := 29) rfl (zcode_of mc_62 (r := (.iinc 2 1, 0, 0, 0)) rfl) rfl rfl ci_1).trans ?_
  exact wp_goto (off := (-22)) (t := 7) (zcode_of mc_62 (r := (.goto (-22), 0, 0, 0)) rfl) (by decide)
theorem b62_32 {σ : zSt} {P : Option Value → zSt → Prop} {a0 : Nat} {x1 x2 : Int32} :
    wp 62 32 [some (.ref a0), some (.int x1), some (.int x2)] [] σ P ↔ P none σ := by
  exact wp_retV (zcode_of mc_62 (r := (.return_, 0, 0, 0)) rfl) rfl
theorem mc_63 : mCode 63 = zc_63 := rfl
theorem b63 {σ : zSt} {P : Option Value → zSt → Prop} {a0 : Nat} :
    wpM 63 [.ref a0] σ P ↔ (zIs σ a0 8 ∧ wpM 108 [.int (zfi σ 8 6 a0)] σ (fun r τ => wp 63 7 [some (.ref a0), none, none, none] (r.toList ++ []) τ P)) := by
  show wp 63 0 [some (.ref a0), none, none, none] [] σ P ↔ _
  refine (wp_s (n := 1) (zcode_of mc_63 (r := (.aload_n 0, 0, 0, 0)) rfl) rfl rfl).trans ?_
  refine (wc_is (zcode_of mc_63 (r := (.getfield 24, 8, 6, 0)) rfl)).trans (and_congr_right fun h1 => ?_)
  refine (wc_getI (n' := 4) rfl (zcode_of mc_63 (r := (.getfield 24, 8, 6, 0)) rfl) rfl h1).trans ?_
  exact wp_call (q := ([.int (zfi σ 8 6 a0)], [])) (zcode_of mc_63 (r := (.invokestatic 56, 108, 4, 1)) rfl) rfl rfl ⟨Nat.le_of_ble_eq_true rfl, Nat.le_of_ble_eq_true rfl⟩
theorem b63_7 {σ : zSt} {P : Option Value → zSt → Prop} {a0 : Nat} {s0 : Int64} {u1 u2 u3 : Option Value} :
    wp 63 7 [some (.ref a0), u1, u2, u3] [.long s0] σ P ↔ wp 63 10 [some (.ref a0), some (.long s0), none, some (.int 0)] [] σ P := by
  refine (wp_s (n := 8) (zcode_of mc_63 (r := (.lstore_n 1, 0, 0, 0)) rfl) rfl rfl).trans ?_
  refine (wp_ic (n' := 9) rfl (zcode_of mc_63 (r := (.iconst 0, 0, 0, 0)) rfl) ci_0).trans ?_
  refine (wp_s (n := 10) (zcode_of mc_63 (r := (.istore_n 3, 0, 0, 0)) rfl) rfl rfl).trans ?_
  exact Iff.rfl
theorem b63_10 {σ : zSt} {P : Option Value → zSt → Prop} (hC : CShape σ) {a0 : Nat} {x3 : Int32} {x1 : Int64} :
    wp 63 10 [some (.ref a0), some (.long x1), none, some (.int x3)] [] σ P ↔ (zIs σ a0 8 ∧ wpM 187 [.ref (a0 + 2)] σ (fun r τ => wp 63 18 [some (.ref a0), some (.long x1), none, some (.int x3)] (r.toList ++ [.int x3]) τ P)) := by
  refine (wp_s (n := 11) (zcode_of mc_63 (r := (.iload_n 3, 0, 0, 0)) rfl) rfl rfl).trans ?_
  refine (wp_s (n := 12) (zcode_of mc_63 (r := (.aload_n 0, 0, 0, 0)) rfl) rfl rfl).trans ?_
  refine (wc_is (zcode_of mc_63 (r := (.getfield 20, 8, 5, 0)) rfl)).trans (and_congr_right fun h1 => ?_)
  refine (wc_getR (n' := 15) (d := 2) rfl (zcode_of mc_63 (r := (.getfield 20, 8, 5, 0)) rfl) rfl hC le_8_5 rfl rfl rfl h1).trans ?_
  exact wp_call (q := ([.ref (a0 + 2)], [.int x3])) (zcode_of mc_63 (r := (.invokevirtual 42, 187, 0, 0)) rfl) rfl (zCa_V (Nat.le_of_ble_eq_true rfl) rfl (zIs_of (cs_T hC le_8_5 h1))) ⟨Nat.le_of_ble_eq_true rfl, Nat.le_of_ble_eq_true rfl⟩
theorem b63_18 {σ : zSt} {P : Option Value → zSt → Prop} {a0 : Nat} {x3 s0 s1 : Int32} {x1 : Int64} :
    wp 63 18 [some (.ref a0), some (.long x1), none, some (.int x3)] [.int s0, .int s1] σ P ↔ (if s0 ≤ s1 then wp 63 47 [some (.ref a0), some (.long x1), none, some (.int x3)] [] σ P else wp 63 21 [some (.ref a0), some (.long x1), none, some (.int x3)] [] σ P) := by
  exact wp_jump (off := 29) (t := 47) (zcode_of mc_63 (r := (.if_icmp .ge 29, 0, 0, 0)) rfl) rfl rfl (by decide)
theorem b63_21 {σ : zSt} {P : Option Value → zSt → Prop} (hC : CShape σ) {a0 : Nat} {x3 : Int32} {x1 : Int64} :
    wp 63 21 [some (.ref a0), some (.long x1), none, some (.int x3)] [] σ P ↔ (zIs σ a0 8 ∧ wpM 190 [.ref (a0 + 2), .int x3] σ (fun r τ => wp 63 30 [some (.ref a0), some (.long x1), none, some (.int x3)] (r.toList ++ [.long x1]) τ P)) := by
  refine (wp_s (n := 22) (zcode_of mc_63 (r := (.lload_n 1, 0, 0, 0)) rfl) rfl rfl).trans ?_
  refine (wp_s (n := 23) (zcode_of mc_63 (r := (.aload_n 0, 0, 0, 0)) rfl) rfl rfl).trans ?_
  refine (wc_is (zcode_of mc_63 (r := (.getfield 20, 8, 5, 0)) rfl)).trans (and_congr_right fun h1 => ?_)
  refine (wc_getR (n' := 26) (d := 2) rfl (zcode_of mc_63 (r := (.getfield 20, 8, 5, 0)) rfl) rfl hC le_8_5 rfl rfl rfl h1).trans ?_
  refine (wp_s (n := 27) (zcode_of mc_63 (r := (.iload_n 3, 0, 0, 0)) rfl) rfl rfl).trans ?_
  exact wp_call (q := ([.ref (a0 + 2), .int x3], [.long x1])) (zcode_of mc_63 (r := (.invokevirtual 46, 190, 0, 1)) rfl) rfl (zCa_V (Nat.le_of_ble_eq_true rfl) rfl (zIs_of (cs_T hC le_8_5 h1))) ⟨Nat.le_of_ble_eq_true rfl, Nat.le_of_ble_eq_true rfl⟩
theorem b63_30 {σ : zSt} {P : Option Value → zSt → Prop} {a0 s0 : Nat} {x3 : Int32} {x1 s1 : Int64} :
    wp 63 30 [some (.ref a0), some (.long x1), none, some (.int x3)] [.ref s0, .long s1] σ P ↔ (zIs σ s0 8 ∧ wpM 108 [.int (zfi σ 8 6 s0)] σ (fun r τ => wp 63 39 [some (.ref a0), some (.long x1), none, some (.int x3)] (r.toList ++ [.long s1]) τ P)) := by
  refine (wc_chk (n' := 33) rfl (zcode_of mc_63 (r := (.checkcast 12, 8, 0, 0)) rfl)).trans (and_congr_right fun h1 => ?_)
  refine (wc_getI (n' := 36) rfl (zcode_of mc_63 (r := (.getfield 24, 8, 6, 0)) rfl) rfl h1).trans ?_
  exact wp_call (q := ([.int (zfi σ 8 6 s0)], [.long s1])) (zcode_of mc_63 (r := (.invokestatic 56, 108, 4, 1)) rfl) rfl rfl ⟨Nat.le_of_ble_eq_true rfl, Nat.le_of_ble_eq_true rfl⟩
theorem b63_39 {σ : zSt} {P : Option Value → zSt → Prop} {a0 : Nat} {x3 : Int32} {x1 s0 s1 : Int64} :
    wp 63 39 [some (.ref a0), some (.long x1), none, some (.int x3)] [.long s0, .long s1] σ P ↔ wp 63 10 [some (.ref a0), some (.long (s1 ||| s0)), none, some (.int (x3 + 1))] [] σ P := by
  refine (wp_s (n := 40) (zcode_of mc_63 (r := (.lor, 0, 0, 0)) rfl) rfl rfl).trans ?_
  refine (wp_s (n := 41) (zcode_of mc_63 (r := (.lstore_n 1, 0, 0, 0)) rfl) rfl rfl).trans ?_
  refine (wp_inc (n' := 44) rfl (zcode_of mc_63 (r := (.iinc 3 1, 0, 0, 0)) rfl) rfl rfl ci_1).trans ?_
  exact wp_goto (off := (-34)) (t := 10) (zcode_of mc_63 (r := (.goto (-34), 0, 0, 0)) rfl) (by decide)
theorem b63_47 {σ : zSt} {P : Option Value → zSt → Prop} {a0 : Nat} {x3 : Int32} {x1 : Int64} :
    wp 63 47 [some (.ref a0), some (.long x1), none, some (.int x3)] [] σ P ↔ P (some (.long x1)) σ := by
  refine (wp_s (n := 48) (zcode_of mc_63 (r := (.lload_n 1, 0, 0, 0)) rfl) rfl rfl).trans ?_
  exact wp_retL (zcode_of mc_63 (r := (.lreturn, 0, 0, 0)) rfl) rfl
theorem mc_64 : mCode 64 = zc_64 := rfl
theorem b64 {σ : zSt} {P : Option Value → zSt → Prop} {a0 : Nat} {x1 : Int32} :
    wpM 64 [.ref a0, .int x1] σ P ↔ wp 64 4 [some (.ref a0), some (.int x1), some (.int 0), some (.int 0)] [] σ P := by
  show wp 64 0 [some (.ref a0), some (.int x1), none, none] [] σ P ↔ _
  refine (wp_ic (n' := 1) rfl (zcode_of mc_64 (r := (.iconst 0, 0, 0, 0)) rfl) ci_0).trans ?_
  refine (wp_s (n := 2) (zcode_of mc_64 (r := (.istore_n 2, 0, 0, 0)) rfl) rfl rfl).trans ?_
  refine (wp_ic (n' := 3) rfl (zcode_of mc_64 (r := (.iconst 0, 0, 0, 0)) rfl) ci_0).trans ?_
  refine (wp_s (n := 4) (zcode_of mc_64 (r := (.istore_n 3, 0, 0, 0)) rfl) rfl rfl).trans ?_
  exact Iff.rfl
theorem b64_4 {σ : zSt} {P : Option Value → zSt → Prop} (hC : CShape σ) {a0 : Nat} {x1 x2 x3 : Int32} :
    wp 64 4 [some (.ref a0), some (.int x1), some (.int x2), some (.int x3)] [] σ P ↔ (zIs σ a0 8 ∧ wpM 187 [.ref (a0 + 2)] σ (fun r τ => wp 64 12 [some (.ref a0), some (.int x1), some (.int x2), some (.int x3)] (r.toList ++ [.int x3]) τ P)) := by
  refine (wp_s (n := 5) (zcode_of mc_64 (r := (.iload_n 3, 0, 0, 0)) rfl) rfl rfl).trans ?_
  refine (wp_s (n := 6) (zcode_of mc_64 (r := (.aload_n 0, 0, 0, 0)) rfl) rfl rfl).trans ?_
  refine (wc_is (zcode_of mc_64 (r := (.getfield 20, 8, 5, 0)) rfl)).trans (and_congr_right fun h1 => ?_)
  refine (wc_getR (n' := 9) (d := 2) rfl (zcode_of mc_64 (r := (.getfield 20, 8, 5, 0)) rfl) rfl hC le_8_5 rfl rfl rfl h1).trans ?_
  exact wp_call (q := ([.ref (a0 + 2)], [.int x3])) (zcode_of mc_64 (r := (.invokevirtual 42, 187, 0, 0)) rfl) rfl (zCa_V (Nat.le_of_ble_eq_true rfl) rfl (zIs_of (cs_T hC le_8_5 h1))) ⟨Nat.le_of_ble_eq_true rfl, Nat.le_of_ble_eq_true rfl⟩
theorem b64_12 {σ : zSt} {P : Option Value → zSt → Prop} {a0 : Nat} {x1 x2 x3 s0 s1 : Int32} :
    wp 64 12 [some (.ref a0), some (.int x1), some (.int x2), some (.int x3)] [.int s0, .int s1] σ P ↔ (if s0 ≤ s1 then wp 64 46 [some (.ref a0), some (.int x1), some (.int x2), some (.int x3)] [] σ P else wp 64 15 [some (.ref a0), some (.int x1), some (.int x2), some (.int x3)] [] σ P) := by
  exact wp_jump (off := 34) (t := 46) (zcode_of mc_64 (r := (.if_icmp .ge 34, 0, 0, 0)) rfl) rfl rfl (by decide)
theorem b64_15 {σ : zSt} {P : Option Value → zSt → Prop} (hC : CShape σ) {a0 : Nat} {x1 x2 x3 : Int32} :
    wp 64 15 [some (.ref a0), some (.int x1), some (.int x2), some (.int x3)] [] σ P ↔ (zIs σ a0 8 ∧ wpM 190 [.ref (a0 + 2), .int x3] σ (fun r τ => wp 64 23 [some (.ref a0), some (.int x1), some (.int x2), some (.int x3)] (r.toList ++ []) τ P)) := by
  refine (wp_s (n := 16) (zcode_of mc_64 (r := (.aload_n 0, 0, 0, 0)) rfl) rfl rfl).trans ?_
  refine (wc_is (zcode_of mc_64 (r := (.getfield 20, 8, 5, 0)) rfl)).trans (and_congr_right fun h1 => ?_)
  refine (wc_getR (n' := 19) (d := 2) rfl (zcode_of mc_64 (r := (.getfield 20, 8, 5, 0)) rfl) rfl hC le_8_5 rfl rfl rfl h1).trans ?_
  refine (wp_s (n := 20) (zcode_of mc_64 (r := (.iload_n 3, 0, 0, 0)) rfl) rfl rfl).trans ?_
  exact wp_call (q := ([.ref (a0 + 2), .int x3], [])) (zcode_of mc_64 (r := (.invokevirtual 46, 190, 0, 1)) rfl) rfl (zCa_V (Nat.le_of_ble_eq_true rfl) rfl (zIs_of (cs_T hC le_8_5 h1))) ⟨Nat.le_of_ble_eq_true rfl, Nat.le_of_ble_eq_true rfl⟩
theorem b64_23 {σ : zSt} {P : Option Value → zSt → Prop} (hC : CShape σ) {a0 s0 : Nat} {x1 x2 x3 : Int32} :
    wp 64 23 [some (.ref a0), some (.int x1), some (.int x2), some (.int x3)] [.ref s0] σ P ↔ (zIs σ s0 8 ∧ (zIn x1 2 ∧ wpM 15 [.ref ((s0 + 1) + 2 + 2 * Int32.toNatClampNeg x1)] σ (fun r τ => wp 64 34 [some (.ref a0), some (.int x1), some (.int x2), some (.int x3)] (r.toList ++ []) τ P))) := by
  refine (wc_chk (n' := 26) rfl (zcode_of mc_64 (r := (.checkcast 12, 8, 0, 0)) rfl)).trans (and_congr_right fun h1 => ?_)
  refine (wc_getR (n' := 29) (d := 1) rfl (zcode_of mc_64 (r := (.getfield 11, 8, 4, 0)) rfl) rfl hC le_8_4 rfl rfl rfl h1).trans ?_
  refine (wp_s (n := 30) (zcode_of mc_64 (r := (.iload_n 1, 0, 0, 0)) rfl) rfl rfl).trans ?_
  refine (wc_ald (n' := 31) rfl (zcode_of mc_64 (r := (.aaload, 0, 0, 0)) rfl) hC la_6 rfl rfl rfl rfl rfl (cs_T hC le_8_4 h1)).trans (and_congr_right fun h2 => ?_)
  exact wp_call (q := ([.ref ((s0 + 1) + 2 + 2 * Int32.toNatClampNeg x1)], [])) (zcode_of mc_64 (r := (.invokevirtual 60, 15, 0, 0)) rfl) rfl (zCa_V (Nat.le_of_ble_eq_true rfl) rfl (zIs_of (cs_A hC la_6 (cs_T hC le_8_4 h1) h2))) ⟨Nat.le_of_ble_eq_true rfl, Nat.le_of_ble_eq_true rfl⟩
theorem b64_34 {σ : zSt} {P : Option Value → zSt → Prop} {a0 : Nat} {x1 x2 x3 s0 : Int32} :
    wp 64 34 [some (.ref a0), some (.int x1), some (.int x2), some (.int x3)] [.int s0] σ P ↔ (if ¬ s0 = 0 then wp 64 40 [some (.ref a0), some (.int x1), some (.int x2), some (.int x3)] [] σ P else wp 64 37 [some (.ref a0), some (.int x1), some (.int x2), some (.int x3)] [] σ P) := by
  exact wp_jump (off := 6) (t := 40) (zcode_of mc_64 (r := (.ifCond .ne 6, 0, 0, 0)) rfl) rfl rfl (by decide)
theorem b64_37 {σ : zSt} {P : Option Value → zSt → Prop} {a0 : Nat} {x1 x2 x3 : Int32} :
    wp 64 37 [some (.ref a0), some (.int x1), some (.int x2), some (.int x3)] [] σ P ↔ wp 64 40 [some (.ref a0), some (.int x1), some (.int (x2 + 1)), some (.int x3)] [] σ P := by
  refine (wp_inc (n' := 40) rfl (zcode_of mc_64 (r := (.iinc 2 1, 0, 0, 0)) rfl) rfl rfl ci_1).trans ?_
  exact Iff.rfl
theorem b64_40 {σ : zSt} {P : Option Value → zSt → Prop} {a0 : Nat} {x1 x2 x3 : Int32} :
    wp 64 40 [some (.ref a0), some (.int x1), some (.int x2), some (.int x3)] [] σ P ↔ wp 64 4 [some (.ref a0), some (.int x1), some (.int x2), some (.int (x3 + 1))] [] σ P := by
  refine (wp_inc (n' := 43) rfl (zcode_of mc_64 (r := (.iinc 3 1, 0, 0, 0)) rfl) rfl rfl ci_1).trans ?_
  exact wp_goto (off := (-39)) (t := 4) (zcode_of mc_64 (r := (.goto (-39), 0, 0, 0)) rfl) (by decide)
theorem b64_46 {σ : zSt} {P : Option Value → zSt → Prop} {a0 : Nat} {x1 x2 x3 : Int32} :
    wp 64 46 [some (.ref a0), some (.int x1), some (.int x2), some (.int x3)] [] σ P ↔ P (some (.int x2)) σ := by
  refine (wp_s (n := 47) (zcode_of mc_64 (r := (.iload_n 2, 0, 0, 0)) rfl) rfl rfl).trans ?_
  exact wp_retI (zcode_of mc_64 (r := (.ireturn, 0, 0, 0)) rfl) rfl
theorem mc_65 : mCode 65 = zc_65 := rfl
theorem b65 {σ : zSt} {P : Option Value → zSt → Prop} {a0 : Nat} :
    wpM 65 [.ref a0] σ P ↔ wp 65 8 [some (.ref a0)] [.ref (znx σ), .ref a0] (zNew σ 2) P := by
  show wp 65 0 [some (.ref a0)] [] σ P ↔ _
  refine (wp_s (n := 1) (zcode_of mc_65 (r := (.aload_n 0, 0, 0, 0)) rfl) rfl rfl).trans ?_
  refine (wc_oi (n' := 4) rfl (zcode_of mc_65 (r := (.invokespecial 3, 0, 5, 0)) rfl) (Nat.le_of_ble_eq_true rfl)).trans ?_
  refine (wp_s (n := 5) (zcode_of mc_65 (r := (.aload_n 0, 0, 0, 0)) rfl) rfl rfl).trans ?_
  refine (wc_new (n' := 8) rfl (zcode_of mc_65 (r := (.new 9, 2, 0, 0)) rfl)).trans ?_
  exact Iff.rfl
theorem b65_8 {σ : zSt} {P : Option Value → zSt → Prop} {a0 s0 s1 : Nat} :
    wp 65 8 [some (.ref a0)] [.ref s0, .ref s1] σ P ↔ wpM 14 [.ref s0] σ (fun r τ => wp 65 12 [some (.ref a0)] (r.toList ++ [.ref s0, .ref s1]) τ P) := by
  refine (wp_s (n := 9) (zcode_of mc_65 (r := (.dup, 0, 0, 0)) rfl) rfl rfl).trans ?_
  exact wp_call (q := ([.ref s0], [.ref s0, .ref s1])) (zcode_of mc_65 (r := (.invokespecial 11, 14, 3, 0)) rfl) rfl (zCa_I (Nat.le_of_ble_eq_true rfl) rfl (Or.inr rfl)) ⟨Nat.le_of_ble_eq_true rfl, Nat.le_of_ble_eq_true rfl⟩
theorem b65_12 {σ : zSt} {P : Option Value → zSt → Prop} {a0 s0 s1 : Nat} :
    wp 65 12 [some (.ref a0)] [.ref s0, .ref s1] σ P ↔ (zIs σ s1 9 ∧ (zIs σ a0 9 ∧ (((0 : Int32) = 0 ∨ (0 : Int32) = 1) ∧ P none (sfi (sfr σ 9 0 s1 (some s0)) 9 1 a0 0)))) := by
  refine (wc_isP (zcode_of mc_65 (r := (.putfield 12, 9, 0, 0)) rfl)).trans (and_congr_right fun h1 => ?_)
  refine (wc_putR (n' := 15) rfl (zcode_of mc_65 (r := (.putfield 12, 9, 0, 0)) rfl) rfl h1).trans ?_
  refine (wp_s (n := 16) (zcode_of mc_65 (r := (.aload_n 0, 0, 0, 0)) rfl) rfl rfl).trans ?_
  refine (wp_ic (n' := 17) rfl (zcode_of mc_65 (r := (.iconst 0, 0, 0, 0)) rfl) ci_0).trans ?_
  refine (wc_isP (σ := sfr σ 9 0 s1 (some s0)) (zcode_of mc_65 (r := (.putfield 18, 9, 1, 0)) rfl)).trans (and_congr_right fun h2 => ?_)
  refine (wc_putZ (σ := sfr σ 9 0 s1 (some s0)) (n' := 20) rfl (zcode_of mc_65 (r := (.putfield 18, 9, 1, 0)) rfl) rfl h2).trans (and_congr_right fun h3 => ?_)
  exact wp_retV (zcode_of mc_65 (r := (.return_, 0, 0, 0)) rfl) rfl
theorem mc_66 : mCode 66 = zc_66 := rfl
theorem b66 {σ : zSt} {P : Option Value → zSt → Prop} (hC : CShape σ) {a0 a1 a3 : Nat} {x2 : Int32} :
    wpM 66 [.ref a0, .ref a1, .int x2, .ref a3] σ P ↔ (zIs σ a1 0 ∧ wpM 187 [.ref (a1 + 2)] σ (fun r τ => wp 66 8 [some (.ref a0), some (.ref a1), some (.int x2), some (.ref a3), none, none] (r.toList ++ [.ref a3]) τ P)) := by
  show wp 66 0 [some (.ref a0), some (.ref a1), some (.int x2), some (.ref a3), none, none] [] σ P ↔ _
  refine (wp_s (n := 1) (zcode_of mc_66 (r := (.aload_n 3, 0, 0, 0)) rfl) rfl rfl).trans ?_
  refine (wp_s (n := 2) (zcode_of mc_66 (r := (.aload_n 1, 0, 0, 0)) rfl) rfl rfl).trans ?_
  refine (wc_is (zcode_of mc_66 (r := (.getfield 22, 0, 1, 0)) rfl)).trans (and_congr_right fun h1 => ?_)
  refine (wc_getR (n' := 5) (d := 2) rfl (zcode_of mc_66 (r := (.getfield 22, 0, 1, 0)) rfl) rfl hC le_0_1 rfl rfl rfl h1).trans ?_
  exact wp_call (q := ([.ref (a1 + 2)], [.ref a3])) (zcode_of mc_66 (r := (.invokevirtual 28, 187, 0, 0)) rfl) rfl (zCa_V (Nat.le_of_ble_eq_true rfl) rfl (zIs_of (cs_T hC le_0_1 h1))) ⟨Nat.le_of_ble_eq_true rfl, Nat.le_of_ble_eq_true rfl⟩
theorem b66_8 {σ : zSt} {P : Option Value → zSt → Prop} {a0 a1 a3 s1 : Nat} {x2 s0 : Int32} {u4 u5 : Option Value} :
    wp 66 8 [some (.ref a0), some (.ref a1), some (.int x2), some (.ref a3), u4, u5] [.int s0, .ref s1] σ P ↔ (zIs σ s1 7 ∧ wpM 57 [.ref s1, .int s0] σ (fun r τ => wp 66 11 [some (.ref a0), some (.ref a1), some (.int x2), some (.ref a3), u4, u5] (r.toList ++ []) τ P)) := by
  refine (wc_isV (cl := 7) (rest := []) (zcode_of mc_66 (r := (.invokevirtual 34, 57, 0, 1)) rfl) rfl rfl rfl).trans (and_congr_right fun h1 => ?_)
  exact wp_call (q := ([.ref s1, .int s0], [])) (zcode_of mc_66 (r := (.invokevirtual 34, 57, 0, 1)) rfl) rfl (zCa_V (Nat.le_of_ble_eq_true rfl) rfl h1) ⟨Nat.le_of_ble_eq_true rfl, Nat.le_of_ble_eq_true rfl⟩
theorem b66_11 {σ : zSt} {P : Option Value → zSt → Prop} (hC : CShape σ) {a0 a1 a3 : Nat} {x2 : Int32} {u4 u5 : Option Value} :
    wp 66 11 [some (.ref a0), some (.ref a1), some (.int x2), some (.ref a3), u4, u5] [] σ P ↔ (zIs σ a0 9 ∧ (((0 : Int32) = 0 ∨ (0 : Int32) = 1) ∧ wp 66 27 [some (.ref a0), some (.ref a1), some (.int x2), some (.ref a3), some (.int 0), u5] [] (sfi (sfi σ 2 1 (a0 + 1) 0) 9 1 a0 0) P)) := by
  refine (wp_s (n := 12) (zcode_of mc_66 (r := (.aload_n 0, 0, 0, 0)) rfl) rfl rfl).trans ?_
  refine (wc_is (zcode_of mc_66 (r := (.getfield 12, 9, 0, 0)) rfl)).trans (and_congr_right fun h1 => ?_)
  refine (wc_getR (n' := 15) (d := 1) rfl (zcode_of mc_66 (r := (.getfield 12, 9, 0, 0)) rfl) rfl hC le_9_0 rfl rfl rfl h1).trans ?_
  refine (wp_ic (n' := 16) rfl (zcode_of mc_66 (r := (.iconst 0, 0, 0, 0)) rfl) ci_0).trans ?_
  refine (wc_putI (n' := 19) rfl (zcode_of mc_66 (r := (.putfield 40, 2, 1, 0)) rfl) rfl (zIs_of (cs_T hC le_9_0 h1))).trans ?_
  refine (wp_s (n := 20) (zcode_of mc_66 (r := (.aload_n 0, 0, 0, 0)) rfl) rfl rfl).trans ?_
  refine (wp_ic (n' := 21) rfl (zcode_of mc_66 (r := (.iconst 0, 0, 0, 0)) rfl) ci_0).trans ?_
  refine (wc_putZ (σ := sfi σ 2 1 (a0 + 1) 0) (n' := 24) rfl (zcode_of mc_66 (r := (.putfield 18, 9, 1, 0)) rfl) rfl h1).trans (and_congr_right fun h2 => ?_)
  refine (wp_ic (n' := 25) rfl (zcode_of mc_66 (r := (.iconst 0, 0, 0, 0)) rfl) ci_0).trans ?_
  refine (wp_s (n := 27) (zcode_of mc_66 (r := (.istore 4, 0, 0, 0)) rfl) rfl rfl).trans ?_
  exact Iff.rfl
theorem b66_27 {σ : zSt} {P : Option Value → zSt → Prop} {a0 a1 a3 : Nat} {x2 x4 : Int32} {u5 : Option Value} :
    wp 66 27 [some (.ref a0), some (.ref a1), some (.int x2), some (.ref a3), some (.int x4), u5] [] σ P ↔ (zIs σ a1 0 ∧ (if (zfi σ 0 5 a1) ≤ x4 then wp 66 80 [some (.ref a0), some (.ref a1), some (.int x2), some (.ref a3), some (.int x4), u5] [] σ P else wp 66 36 [some (.ref a0), some (.ref a1), some (.int x2), some (.ref a3), some (.int x4), u5] [] σ P)) := by
  refine (wp_s (n := 29) (zcode_of mc_66 (r := (.iload 4, 0, 0, 0)) rfl) rfl rfl).trans ?_
  refine (wp_s (n := 30) (zcode_of mc_66 (r := (.aload_n 1, 0, 0, 0)) rfl) rfl rfl).trans ?_
  refine (wc_is (zcode_of mc_66 (r := (.getfield 43, 0, 5, 0)) rfl)).trans (and_congr_right fun h1 => ?_)
  refine (wc_getI (n' := 33) rfl (zcode_of mc_66 (r := (.getfield 43, 0, 5, 0)) rfl) rfl h1).trans ?_
  exact wp_jump (off := 47) (t := 80) (zcode_of mc_66 (r := (.if_icmp .ge 47, 0, 0, 0)) rfl) rfl rfl (by decide)
theorem b66_36 {σ : zSt} {P : Option Value → zSt → Prop} {a0 a1 a3 : Nat} {x2 x4 : Int32} {u5 : Option Value} :
    wp 66 36 [some (.ref a0), some (.ref a1), some (.int x2), some (.ref a3), some (.int x4), u5] [] σ P ↔ (zIs σ a0 9 ∧ (if (zfi σ 9 1 a0) = 0 then wp 66 51 [some (.ref a0), some (.ref a1), some (.int x2), some (.ref a3), some (.int x4), u5] [] σ P else wp 66 43 [some (.ref a0), some (.ref a1), some (.int x2), some (.ref a3), some (.int x4), u5] [] σ P)) := by
  refine (wp_s (n := 37) (zcode_of mc_66 (r := (.aload_n 0, 0, 0, 0)) rfl) rfl rfl).trans ?_
  refine (wc_is (zcode_of mc_66 (r := (.getfield 18, 9, 1, 0)) rfl)).trans (and_congr_right fun h1 => ?_)
  refine (wc_getI (n' := 40) rfl (zcode_of mc_66 (r := (.getfield 18, 9, 1, 0)) rfl) rfl h1).trans ?_
  exact wp_jump (off := 11) (t := 51) (zcode_of mc_66 (r := (.ifCond .eq 11, 0, 0, 0)) rfl) rfl rfl (by decide)
theorem b66_43 {σ : zSt} {P : Option Value → zSt → Prop} {a0 a1 a3 : Nat} {x2 x4 : Int32} {u5 : Option Value} :
    wp 66 43 [some (.ref a0), some (.ref a1), some (.int x2), some (.ref a3), some (.int x4), u5] [] σ P ↔ (zIs σ a0 9 ∧ (((0 : Int32) = 0 ∨ (0 : Int32) = 1) ∧ wp 66 74 [some (.ref a0), some (.ref a1), some (.int x2), some (.ref a3), some (.int x4), u5] [] (sfi σ 9 1 a0 0) P)) := by
  refine (wp_s (n := 44) (zcode_of mc_66 (r := (.aload_n 0, 0, 0, 0)) rfl) rfl rfl).trans ?_
  refine (wp_ic (n' := 45) rfl (zcode_of mc_66 (r := (.iconst 0, 0, 0, 0)) rfl) ci_0).trans ?_
  refine (wc_isP (zcode_of mc_66 (r := (.putfield 18, 9, 1, 0)) rfl)).trans (and_congr_right fun h1 => ?_)
  refine (wc_putZ (n' := 48) rfl (zcode_of mc_66 (r := (.putfield 18, 9, 1, 0)) rfl) rfl h1).trans (and_congr_right fun h2 => ?_)
  exact wp_goto (off := 26) (t := 74) (zcode_of mc_66 (r := (.goto 26, 0, 0, 0)) rfl) (by decide)
theorem b66_51 {σ : zSt} {P : Option Value → zSt → Prop} {a0 a1 a3 : Nat} {x2 x4 : Int32} {u5 : Option Value} :
    wp 66 51 [some (.ref a0), some (.ref a1), some (.int x2), some (.ref a3), some (.int x4), u5] [] σ P ↔ (zIs σ a0 9 ∧ wpM 67 [.ref a0, .ref a1, .int x4, .int x2, .ref a3] σ (fun r τ => wp 66 60 [some (.ref a0), some (.ref a1), some (.int x2), some (.ref a3), some (.int x4), u5] (r.toList ++ []) τ P)) := by
  refine (wp_s (n := 52) (zcode_of mc_66 (r := (.aload_n 0, 0, 0, 0)) rfl) rfl rfl).trans ?_
  refine (wp_s (n := 53) (zcode_of mc_66 (r := (.aload_n 1, 0, 0, 0)) rfl) rfl rfl).trans ?_
  refine (wp_s (n := 55) (zcode_of mc_66 (r := (.iload 4, 0, 0, 0)) rfl) rfl rfl).trans ?_
  refine (wp_s (n := 56) (zcode_of mc_66 (r := (.iload_n 2, 0, 0, 0)) rfl) rfl rfl).trans ?_
  refine (wp_s (n := 57) (zcode_of mc_66 (r := (.aload_n 3, 0, 0, 0)) rfl) rfl rfl).trans ?_
  refine (wc_isV (cl := 9) (rest := []) (zcode_of mc_66 (r := (.invokevirtual 46, 67, 0, 4)) rfl) rfl rfl rfl).trans (and_congr_right fun h1 => ?_)
  exact wp_call (q := ([.ref a0, .ref a1, .int x4, .int x2, .ref a3], [])) (zcode_of mc_66 (r := (.invokevirtual 46, 67, 0, 4)) rfl) rfl (zCa_V (Nat.le_of_ble_eq_true rfl) rfl h1) ⟨Nat.le_of_ble_eq_true rfl, Nat.le_of_ble_eq_true rfl⟩
theorem b66_60 {σ : zSt} {P : Option Value → zSt → Prop} {a0 a1 a3 : Nat} {x2 x4 s0 : Int32} {u5 : Option Value} :
    wp 66 60 [some (.ref a0), some (.ref a1), some (.int x2), some (.ref a3), some (.int x4), u5] [.int s0] σ P ↔ (if s0 = 0 then wp 66 74 [some (.ref a0), some (.ref a1), some (.int x2), some (.ref a3), some (.int x4), some (.int s0)] [] σ P else wp 66 67 [some (.ref a0), some (.ref a1), some (.int x2), some (.ref a3), some (.int x4), some (.int s0)] [] σ P) := by
  refine (wp_s (n := 62) (zcode_of mc_66 (r := (.istore 5, 0, 0, 0)) rfl) rfl rfl).trans ?_
  refine (wp_s (n := 64) (zcode_of mc_66 (r := (.iload 5, 0, 0, 0)) rfl) rfl rfl).trans ?_
  exact wp_jump (off := 10) (t := 74) (zcode_of mc_66 (r := (.ifCond .eq 10, 0, 0, 0)) rfl) rfl rfl (by decide)
theorem b66_67 {σ : zSt} {P : Option Value → zSt → Prop} {a0 a1 a3 : Nat} {x2 x4 x5 : Int32} :
    wp 66 67 [some (.ref a0), some (.ref a1), some (.int x2), some (.ref a3), some (.int x4), some (.int x5)] [] σ P ↔ (zIs σ a3 7 ∧ wpM 58 [.ref a3, .int x5] σ (fun r τ => wp 66 73 [some (.ref a0), some (.ref a1), some (.int x2), some (.ref a3), some (.int x4), some (.int x5)] (r.toList ++ []) τ P)) := by
  refine (wp_s (n := 68) (zcode_of mc_66 (r := (.aload_n 3, 0, 0, 0)) rfl) rfl rfl).trans ?_
  refine (wp_s (n := 70) (zcode_of mc_66 (r := (.iload 5, 0, 0, 0)) rfl) rfl rfl).trans ?_
  refine (wc_isV (cl := 7) (rest := []) (zcode_of mc_66 (r := (.invokevirtual 50, 58, 0, 1)) rfl) rfl rfl rfl).trans (and_congr_right fun h1 => ?_)
  exact wp_call (q := ([.ref a3, .int x5], [])) (zcode_of mc_66 (r := (.invokevirtual 50, 58, 0, 1)) rfl) rfl (zCa_V (Nat.le_of_ble_eq_true rfl) rfl h1) ⟨Nat.le_of_ble_eq_true rfl, Nat.le_of_ble_eq_true rfl⟩
theorem b66_73 {σ : zSt} {P : Option Value → zSt → Prop} {a0 a1 a3 : Nat} {x2 x4 x5 : Int32} :
    wp 66 73 [some (.ref a0), some (.ref a1), some (.int x2), some (.ref a3), some (.int x4), some (.int x5)] [] σ P ↔ P none σ := by
  exact wp_retV (zcode_of mc_66 (r := (.return_, 0, 0, 0)) rfl) rfl
theorem b66_74 {σ : zSt} {P : Option Value → zSt → Prop} {a0 a1 a3 : Nat} {x2 x4 : Int32} {u5 : Option Value} :
    wp 66 74 [some (.ref a0), some (.ref a1), some (.int x2), some (.ref a3), some (.int x4), u5] [] σ P ↔ wp 66 27 [some (.ref a0), some (.ref a1), some (.int x2), some (.ref a3), some (.int (x4 + 1)), u5] [] σ P := by
  refine (wp_inc (n' := 77) rfl (zcode_of mc_66 (r := (.iinc 4 1, 0, 0, 0)) rfl) rfl rfl ci_1).trans ?_
  exact wp_goto (off := (-50)) (t := 27) (zcode_of mc_66 (r := (.goto (-50), 0, 0, 0)) rfl) (by decide)
theorem b66_80 {σ : zSt} {P : Option Value → zSt → Prop} {a0 a1 a3 : Nat} {x2 x4 : Int32} {u5 : Option Value} :
    wp 66 80 [some (.ref a0), some (.ref a1), some (.int x2), some (.ref a3), some (.int x4), u5] [] σ P ↔ P none σ := by
  exact wp_retV (zcode_of mc_66 (r := (.return_, 0, 0, 0)) rfl) rfl
theorem mc_67 : mCode 67 = zc_67 := rfl
set_option maxRecDepth 20000 in
theorem b67 {σ : zSt} {P : Option Value → zSt → Prop} (hC : CShape σ) {a0 a1 a4 : Nat} {x2 x3 : Int32} :
    wpM 67 [.ref a0, .ref a1, .int x2, .int x3, .ref a4] σ P ↔ (zIs σ a1 0 ∧ (zIn x2 16 ∧ (zIn x2 16 ∧ (if (zai σ 4 (a1 + 3) (Int32.toNatClampNeg x2)) = 0 then wp 67 76 [some (.ref a0), some (.ref a1), some (.int x2), some (.int x3), some (.ref a4), some (.int (zai σ 5 (a1 + 4) (Int32.toNatClampNeg x2)))] [] σ P else if (zai σ 4 (a1 + 3) (Int32.toNatClampNeg x2)) = 1 then wp 67 85 [some (.ref a0), some (.ref a1), some (.int x2), some (.int x3), some (.ref a4), some (.int (zai σ 5 (a1 + 4) (Int32.toNatClampNeg x2)))] [] σ P else if (zai σ 4 (a1 + 3) (Int32.toNatClampNeg x2)) = 2 then wp 67 103 [some (.ref a0), some (.ref a1), some (.int x2), some (.int x3), some (.ref a4), some (.int (zai σ 5 (a1 + 4) (Int32.toNatClampNeg x2)))] [] σ P else if (zai σ 4 (a1 + 3) (Int32.toNatClampNeg x2)) = 3 then wp 67 112 [some (.ref a0), some (.ref a1), some (.int x2), some (.int x3), some (.ref a4), some (.int (zai σ 5 (a1 + 4) (Int32.toNatClampNeg x2)))] [] σ P else if (zai σ 4 (a1 + 3) (Int32.toNatClampNeg x2)) = 9 then wp 67 121 [some (.ref a0), some (.ref a1), some (.int x2), some (.int x3), some (.ref a4), some (.int (zai σ 5 (a1 + 4) (Int32.toNatClampNeg x2)))] [] σ P else if (zai σ 4 (a1 + 3) (Int32.toNatClampNeg x2)) = 11 then wp 67 130 [some (.ref a0), some (.ref a1), some (.int x2), some (.int x3), some (.ref a4), some (.int (zai σ 5 (a1 + 4) (Int32.toNatClampNeg x2)))] [] σ P else wp 67 132 [some (.ref a0), some (.ref a1), some (.int x2), some (.int x3), some (.ref a4), some (.int (zai σ 5 (a1 + 4) (Int32.toNatClampNeg x2)))] [] σ P)))) := by
  show wp 67 0 [some (.ref a0), some (.ref a1), some (.int x2), some (.int x3), some (.ref a4), none] [] σ P ↔ _
  refine (wp_s (n := 1) (zcode_of mc_67 (r := (.aload_n 1, 0, 0, 0)) rfl) rfl rfl).trans ?_
  refine (wc_is (zcode_of mc_67 (r := (.getfield 53, 0, 3, 0)) rfl)).trans (and_congr_right fun h1 => ?_)
  refine (wc_getR (n' := 4) (d := 4) rfl (zcode_of mc_67 (r := (.getfield 53, 0, 3, 0)) rfl) rfl hC le_0_3 rfl rfl rfl h1).trans ?_
  refine (wp_s (n := 5) (zcode_of mc_67 (r := (.iload_n 2, 0, 0, 0)) rfl) rfl rfl).trans ?_
  refine (wc_ld (n' := 6) rfl (zcode_of mc_67 (r := (.iaload, 0, 0, 0)) rfl) (cs_T hC le_0_3 h1) rfl).trans (and_congr_right fun h2 => ?_)
  refine (wp_s (n := 8) (zcode_of mc_67 (r := (.istore 5, 0, 0, 0)) rfl) rfl rfl).trans ?_
  refine (wp_s (n := 9) (zcode_of mc_67 (r := (.aload_n 1, 0, 0, 0)) rfl) rfl rfl).trans ?_
  refine (wc_getR (n' := 12) (d := 3) rfl (zcode_of mc_67 (r := (.getfield 57, 0, 2, 0)) rfl) rfl hC le_0_2 rfl rfl rfl h1).trans ?_
  refine (wp_s (n := 13) (zcode_of mc_67 (r := (.iload_n 2, 0, 0, 0)) rfl) rfl rfl).trans ?_
  refine (wc_ld (n' := 14) rfl (zcode_of mc_67 (r := (.iaload, 0, 0, 0)) rfl) (cs_T hC le_0_2 h1) rfl).trans (and_congr_right fun h3 => ?_)
  generalize hv9 : ((zai σ 4 (a1 + 3) (Int32.toNatClampNeg x2)) : Int32) = v9
  by_cases h100 : v9 = 0
  · rw [if_pos h100, h100]
    exact wp_swI (zcode_of mc_67 (r := (.tableswitch 118 0 11 #[62, 71, 89, 98, 118, 118, 118, 118, 118, 107, 118, 116], 0, 0, 0)) rfl) (t := 76) (by decide)
  rw [if_neg h100]
  by_cases h101 : v9 = 1
  · rw [if_pos h101, h101]
    exact wp_swI (zcode_of mc_67 (r := (.tableswitch 118 0 11 #[62, 71, 89, 98, 118, 118, 118, 118, 118, 107, 118, 116], 0, 0, 0)) rfl) (t := 85) (by decide)
  rw [if_neg h101]
  by_cases h102 : v9 = 2
  · rw [if_pos h102, h102]
    exact wp_swI (zcode_of mc_67 (r := (.tableswitch 118 0 11 #[62, 71, 89, 98, 118, 118, 118, 118, 118, 107, 118, 116], 0, 0, 0)) rfl) (t := 103) (by decide)
  rw [if_neg h102]
  by_cases h103 : v9 = 3
  · rw [if_pos h103, h103]
    exact wp_swI (zcode_of mc_67 (r := (.tableswitch 118 0 11 #[62, 71, 89, 98, 118, 118, 118, 118, 118, 107, 118, 116], 0, 0, 0)) rfl) (t := 112) (by decide)
  rw [if_neg h103]
  by_cases h109 : v9 = 9
  · rw [if_pos h109, h109]
    exact wp_swI (zcode_of mc_67 (r := (.tableswitch 118 0 11 #[62, 71, 89, 98, 118, 118, 118, 118, 118, 107, 118, 116], 0, 0, 0)) rfl) (t := 121) (by decide)
  rw [if_neg h109]
  by_cases h111 : v9 = 11
  · rw [if_pos h111, h111]
    exact wp_swI (zcode_of mc_67 (r := (.tableswitch 118 0 11 #[62, 71, 89, 98, 118, 118, 118, 118, 118, 107, 118, 116], 0, 0, 0)) rfl) (t := 130) (by decide)
  rw [if_neg h111]
  by_cases h104 : v9 = 4
  · rw [h104]
    exact wp_swI (zcode_of mc_67 (r := (.tableswitch 118 0 11 #[62, 71, 89, 98, 118, 118, 118, 118, 118, 107, 118, 116], 0, 0, 0)) rfl) (t := 132) (by decide)
  by_cases h105 : v9 = 5
  · rw [h105]
    exact wp_swI (zcode_of mc_67 (r := (.tableswitch 118 0 11 #[62, 71, 89, 98, 118, 118, 118, 118, 118, 107, 118, 116], 0, 0, 0)) rfl) (t := 132) (by decide)
  by_cases h106 : v9 = 6
  · rw [h106]
    exact wp_swI (zcode_of mc_67 (r := (.tableswitch 118 0 11 #[62, 71, 89, 98, 118, 118, 118, 118, 118, 107, 118, 116], 0, 0, 0)) rfl) (t := 132) (by decide)
  by_cases h107 : v9 = 7
  · rw [h107]
    exact wp_swI (zcode_of mc_67 (r := (.tableswitch 118 0 11 #[62, 71, 89, 98, 118, 118, 118, 118, 118, 107, 118, 116], 0, 0, 0)) rfl) (t := 132) (by decide)
  by_cases h108 : v9 = 8
  · rw [h108]
    exact wp_swI (zcode_of mc_67 (r := (.tableswitch 118 0 11 #[62, 71, 89, 98, 118, 118, 118, 118, 118, 107, 118, 116], 0, 0, 0)) rfl) (t := 132) (by decide)
  by_cases h110 : v9 = 10
  · rw [h110]
    exact wp_swI (zcode_of mc_67 (r := (.tableswitch 118 0 11 #[62, 71, 89, 98, 118, 118, 118, 118, 118, 107, 118, 116], 0, 0, 0)) rfl) (t := 132) (by decide)
  exact wp_swO (zcode_of mc_67 (r := (.tableswitch 118 0 11 #[62, 71, 89, 98, 118, 118, 118, 118, 118, 107, 118, 116], 0, 0, 0)) rfl) (t := 132) (by decide) (zsw_lo (fun k g1 g2 => by
    rcases (show k = 0 ∨ k = 1 ∨ k = 2 ∨ k = 3 ∨ k = 4 ∨ k = 5 ∨ k = 6 ∨ k = 7 ∨ k = 8 ∨ k = 9 ∨ k = 10 ∨ k = 11 by omega) with rfl | rfl | rfl | rfl | rfl | rfl | rfl | rfl | rfl | rfl | rfl | rfl
    · exact h100
    · exact h101
    · exact h102
    · exact h103
    · exact h104
    · exact h105
    · exact h106
    · exact h107
    · exact h108
    · exact h109
    · exact h110
    · exact h111) (by decide) (by decide))
theorem b67_76 {σ : zSt} {P : Option Value → zSt → Prop} {a0 a1 a4 : Nat} {x2 x3 x5 : Int32} :
    wp 67 76 [some (.ref a0), some (.ref a1), some (.int x2), some (.int x3), some (.ref a4), some (.int x5)] [] σ P ↔ (zIs σ a0 9 ∧ wpM 69 [.ref a0, .ref a1, .int x5, .int x3] σ (fun r τ => wp 67 84 [some (.ref a0), some (.ref a1), some (.int x2), some (.int x3), some (.ref a4), some (.int x5)] (r.toList ++ []) τ P)) := by
  refine (wp_s (n := 77) (zcode_of mc_67 (r := (.aload_n 0, 0, 0, 0)) rfl) rfl rfl).trans ?_
  refine (wp_s (n := 78) (zcode_of mc_67 (r := (.aload_n 1, 0, 0, 0)) rfl) rfl rfl).trans ?_
  refine (wp_s (n := 80) (zcode_of mc_67 (r := (.iload 5, 0, 0, 0)) rfl) rfl rfl).trans ?_
  refine (wp_s (n := 81) (zcode_of mc_67 (r := (.iload_n 3, 0, 0, 0)) rfl) rfl rfl).trans ?_
  refine (wc_isV (cl := 9) (rest := []) (zcode_of mc_67 (r := (.invokevirtual 60, 69, 0, 3)) rfl) rfl rfl rfl).trans (and_congr_right fun h1 => ?_)
  exact wp_call (q := ([.ref a0, .ref a1, .int x5, .int x3], [])) (zcode_of mc_67 (r := (.invokevirtual 60, 69, 0, 3)) rfl) rfl (zCa_V (Nat.le_of_ble_eq_true rfl) rfl h1) ⟨Nat.le_of_ble_eq_true rfl, Nat.le_of_ble_eq_true rfl⟩
theorem b67_84 {σ : zSt} {P : Option Value → zSt → Prop} {a0 a1 a4 : Nat} {x2 x3 x5 s0 : Int32} :
    wp 67 84 [some (.ref a0), some (.ref a1), some (.int x2), some (.int x3), some (.ref a4), some (.int x5)] [.int s0] σ P ↔ P (some (.int s0)) σ := by
  exact wp_retI (zcode_of mc_67 (r := (.ireturn, 0, 0, 0)) rfl) rfl
theorem b67_85 {σ : zSt} {P : Option Value → zSt → Prop} (hC : CShape σ) {a0 a1 a4 : Nat} {x2 x3 x5 : Int32} :
    wp 67 85 [some (.ref a0), some (.ref a1), some (.int x2), some (.int x3), some (.ref a4), some (.int x5)] [] σ P ↔ (zIs σ a0 9 ∧ wpM 16 [.ref (a0 + 1), .int x5] σ (fun r τ => wp 67 94 [some (.ref a0), some (.ref a1), some (.int x2), some (.int x3), some (.ref a4), some (.int x5)] (r.toList ++ []) τ P)) := by
  refine (wp_s (n := 86) (zcode_of mc_67 (r := (.aload_n 0, 0, 0, 0)) rfl) rfl rfl).trans ?_
  refine (wc_is (zcode_of mc_67 (r := (.getfield 12, 9, 0, 0)) rfl)).trans (and_congr_right fun h1 => ?_)
  refine (wc_getR (n' := 89) (d := 1) rfl (zcode_of mc_67 (r := (.getfield 12, 9, 0, 0)) rfl) rfl hC le_9_0 rfl rfl rfl h1).trans ?_
  refine (wp_s (n := 91) (zcode_of mc_67 (r := (.iload 5, 0, 0, 0)) rfl) rfl rfl).trans ?_
  exact wp_call (q := ([.ref (a0 + 1), .int x5], [])) (zcode_of mc_67 (r := (.invokevirtual 64, 16, 0, 1)) rfl) rfl (zCa_V (Nat.le_of_ble_eq_true rfl) rfl (zIs_of (cs_T hC le_9_0 h1))) ⟨Nat.le_of_ble_eq_true rfl, Nat.le_of_ble_eq_true rfl⟩
theorem b67_94 {σ : zSt} {P : Option Value → zSt → Prop} {a0 a1 a4 : Nat} {x2 x3 x5 s0 : Int32} :
    wp 67 94 [some (.ref a0), some (.ref a1), some (.int x2), some (.int x3), some (.ref a4), some (.int x5)] [.int s0] σ P ↔ (if s0 = 0 then wp 67 101 [some (.ref a0), some (.ref a1), some (.int x2), some (.int x3), some (.ref a4), some (.int x5)] [] σ P else wp 67 97 [some (.ref a0), some (.ref a1), some (.int x2), some (.int x3), some (.ref a4), some (.int x5)] [] σ P) := by
  exact wp_jump (off := 7) (t := 101) (zcode_of mc_67 (r := (.ifCond .eq 7, 0, 0, 0)) rfl) rfl rfl (by decide)
theorem b67_97 {σ : zSt} {P : Option Value → zSt → Prop} {a0 a1 a4 : Nat} {x2 x3 x5 : Int32} :
    wp 67 97 [some (.ref a0), some (.ref a1), some (.int x2), some (.int x3), some (.ref a4), some (.int x5)] [] σ P ↔ wp 67 102 [some (.ref a0), some (.ref a1), some (.int x2), some (.int x3), some (.ref a4), some (.int x5)] [.int 0] σ P := by
  refine (wp_ic (n' := 98) rfl (zcode_of mc_67 (r := (.iconst 0, 0, 0, 0)) rfl) ci_0).trans ?_
  exact wp_goto (off := 4) (t := 102) (zcode_of mc_67 (r := (.goto 4, 0, 0, 0)) rfl) (by decide)
theorem b67_101 {σ : zSt} {P : Option Value → zSt → Prop} {a0 a1 a4 : Nat} {x2 x3 x5 : Int32} :
    wp 67 101 [some (.ref a0), some (.ref a1), some (.int x2), some (.int x3), some (.ref a4), some (.int x5)] [] σ P ↔ wp 67 102 [some (.ref a0), some (.ref a1), some (.int x2), some (.int x3), some (.ref a4), some (.int x5)] [.int 2] σ P := by
  refine (wp_ic (n' := 102) rfl (zcode_of mc_67 (r := (.iconst 2, 0, 0, 0)) rfl) ci_2).trans ?_
  exact Iff.rfl
theorem b67_102 {σ : zSt} {P : Option Value → zSt → Prop} {a0 a1 a4 : Nat} {x2 x3 x5 s0 : Int32} :
    wp 67 102 [some (.ref a0), some (.ref a1), some (.int x2), some (.int x3), some (.ref a4), some (.int x5)] [.int s0] σ P ↔ P (some (.int s0)) σ := by
  exact wp_retI (zcode_of mc_67 (r := (.ireturn, 0, 0, 0)) rfl) rfl
theorem b67_103 {σ : zSt} {P : Option Value → zSt → Prop} {a0 a1 a4 : Nat} {x2 x3 x5 : Int32} :
    wp 67 103 [some (.ref a0), some (.ref a1), some (.int x2), some (.int x3), some (.ref a4), some (.int x5)] [] σ P ↔ (zIs σ a0 9 ∧ wpM 70 [.ref a0, .ref a1, .int x5, .int x3] σ (fun r τ => wp 67 111 [some (.ref a0), some (.ref a1), some (.int x2), some (.int x3), some (.ref a4), some (.int x5)] (r.toList ++ []) τ P)) := by
  refine (wp_s (n := 104) (zcode_of mc_67 (r := (.aload_n 0, 0, 0, 0)) rfl) rfl rfl).trans ?_
  refine (wp_s (n := 105) (zcode_of mc_67 (r := (.aload_n 1, 0, 0, 0)) rfl) rfl rfl).trans ?_
  refine (wp_s (n := 107) (zcode_of mc_67 (r := (.iload 5, 0, 0, 0)) rfl) rfl rfl).trans ?_
  refine (wp_s (n := 108) (zcode_of mc_67 (r := (.iload_n 3, 0, 0, 0)) rfl) rfl rfl).trans ?_
  refine (wc_isV (cl := 9) (rest := []) (zcode_of mc_67 (r := (.invokevirtual 68, 70, 0, 3)) rfl) rfl rfl rfl).trans (and_congr_right fun h1 => ?_)
  exact wp_call (q := ([.ref a0, .ref a1, .int x5, .int x3], [])) (zcode_of mc_67 (r := (.invokevirtual 68, 70, 0, 3)) rfl) rfl (zCa_V (Nat.le_of_ble_eq_true rfl) rfl h1) ⟨Nat.le_of_ble_eq_true rfl, Nat.le_of_ble_eq_true rfl⟩
theorem b67_111 {σ : zSt} {P : Option Value → zSt → Prop} {a0 a1 a4 : Nat} {x2 x3 x5 s0 : Int32} :
    wp 67 111 [some (.ref a0), some (.ref a1), some (.int x2), some (.int x3), some (.ref a4), some (.int x5)] [.int s0] σ P ↔ P (some (.int s0)) σ := by
  exact wp_retI (zcode_of mc_67 (r := (.ireturn, 0, 0, 0)) rfl) rfl
theorem b67_112 {σ : zSt} {P : Option Value → zSt → Prop} {a0 a1 a4 : Nat} {x2 x3 x5 : Int32} :
    wp 67 112 [some (.ref a0), some (.ref a1), some (.int x2), some (.int x3), some (.ref a4), some (.int x5)] [] σ P ↔ (zIs σ a0 9 ∧ wpM 71 [.ref a0, .ref a4, .int x5] σ (fun r τ => wp 67 120 [some (.ref a0), some (.ref a1), some (.int x2), some (.int x3), some (.ref a4), some (.int x5)] (r.toList ++ []) τ P)) := by
  refine (wp_s (n := 113) (zcode_of mc_67 (r := (.aload_n 0, 0, 0, 0)) rfl) rfl rfl).trans ?_
  refine (wp_s (n := 115) (zcode_of mc_67 (r := (.aload 4, 0, 0, 0)) rfl) rfl rfl).trans ?_
  refine (wp_s (n := 117) (zcode_of mc_67 (r := (.iload 5, 0, 0, 0)) rfl) rfl rfl).trans ?_
  refine (wc_isV (cl := 9) (rest := []) (zcode_of mc_67 (r := (.invokevirtual 71, 71, 0, 2)) rfl) rfl rfl rfl).trans (and_congr_right fun h1 => ?_)
  exact wp_call (q := ([.ref a0, .ref a4, .int x5], [])) (zcode_of mc_67 (r := (.invokevirtual 71, 71, 0, 2)) rfl) rfl (zCa_V (Nat.le_of_ble_eq_true rfl) rfl h1) ⟨Nat.le_of_ble_eq_true rfl, Nat.le_of_ble_eq_true rfl⟩
theorem b67_120 {σ : zSt} {P : Option Value → zSt → Prop} {a0 a1 a4 : Nat} {x2 x3 x5 s0 : Int32} :
    wp 67 120 [some (.ref a0), some (.ref a1), some (.int x2), some (.int x3), some (.ref a4), some (.int x5)] [.int s0] σ P ↔ P (some (.int s0)) σ := by
  exact wp_retI (zcode_of mc_67 (r := (.ireturn, 0, 0, 0)) rfl) rfl
theorem b67_121 {σ : zSt} {P : Option Value → zSt → Prop} {a0 a1 a4 : Nat} {x2 x3 x5 : Int32} :
    wp 67 121 [some (.ref a0), some (.ref a1), some (.int x2), some (.int x3), some (.ref a4), some (.int x5)] [] σ P ↔ (zIs σ a0 9 ∧ wpM 72 [.ref a0, .ref a1, .int x5, .int x3] σ (fun r τ => wp 67 129 [some (.ref a0), some (.ref a1), some (.int x2), some (.int x3), some (.ref a4), some (.int x5)] (r.toList ++ []) τ P)) := by
  refine (wp_s (n := 122) (zcode_of mc_67 (r := (.aload_n 0, 0, 0, 0)) rfl) rfl rfl).trans ?_
  refine (wp_s (n := 123) (zcode_of mc_67 (r := (.aload_n 1, 0, 0, 0)) rfl) rfl rfl).trans ?_
  refine (wp_s (n := 125) (zcode_of mc_67 (r := (.iload 5, 0, 0, 0)) rfl) rfl rfl).trans ?_
  refine (wp_s (n := 126) (zcode_of mc_67 (r := (.iload_n 3, 0, 0, 0)) rfl) rfl rfl).trans ?_
  refine (wc_isV (cl := 9) (rest := []) (zcode_of mc_67 (r := (.invokevirtual 75, 72, 0, 3)) rfl) rfl rfl rfl).trans (and_congr_right fun h1 => ?_)
  exact wp_call (q := ([.ref a0, .ref a1, .int x5, .int x3], [])) (zcode_of mc_67 (r := (.invokevirtual 75, 72, 0, 3)) rfl) rfl (zCa_V (Nat.le_of_ble_eq_true rfl) rfl h1) ⟨Nat.le_of_ble_eq_true rfl, Nat.le_of_ble_eq_true rfl⟩
theorem b67_129 {σ : zSt} {P : Option Value → zSt → Prop} {a0 a1 a4 : Nat} {x2 x3 x5 s0 : Int32} :
    wp 67 129 [some (.ref a0), some (.ref a1), some (.int x2), some (.int x3), some (.ref a4), some (.int x5)] [.int s0] σ P ↔ P (some (.int s0)) σ := by
  exact wp_retI (zcode_of mc_67 (r := (.ireturn, 0, 0, 0)) rfl) rfl
theorem b67_130 {σ : zSt} {P : Option Value → zSt → Prop} {a0 a1 a4 : Nat} {x2 x3 x5 : Int32} :
    wp 67 130 [some (.ref a0), some (.ref a1), some (.int x2), some (.int x3), some (.ref a4), some (.int x5)] [] σ P ↔ P (some (.int 5)) σ := by
  refine (wp_ic (n' := 131) rfl (zcode_of mc_67 (r := (.iconst 5, 0, 0, 0)) rfl) ci_5).trans ?_
  exact wp_retI (zcode_of mc_67 (r := (.ireturn, 0, 0, 0)) rfl) rfl
theorem b67_132 {σ : zSt} {P : Option Value → zSt → Prop} (hC : CShape σ) {a0 a1 a4 : Nat} {x2 x3 x5 : Int32} :
    wp 67 132 [some (.ref a0), some (.ref a1), some (.int x2), some (.int x3), some (.ref a4), some (.int x5)] [] σ P ↔ (zIs σ a1 0 ∧ (zIn x2 16 ∧ (zIs σ a0 9 ∧ wpM 68 [.ref a0, .int (zai σ 4 (a1 + 3) (Int32.toNatClampNeg x2)), .int x5] σ (fun r τ => wp 67 144 [some (.ref a0), some (.ref a1), some (.int x2), some (.int x3), some (.ref a4), some (.int x5)] (r.toList ++ []) τ P)))) := by
  refine (wp_s (n := 133) (zcode_of mc_67 (r := (.aload_n 0, 0, 0, 0)) rfl) rfl rfl).trans ?_
  refine (wp_s (n := 134) (zcode_of mc_67 (r := (.aload_n 1, 0, 0, 0)) rfl) rfl rfl).trans ?_
  refine (wc_is (zcode_of mc_67 (r := (.getfield 57, 0, 2, 0)) rfl)).trans (and_congr_right fun h1 => ?_)
  refine (wc_getR (n' := 137) (d := 3) rfl (zcode_of mc_67 (r := (.getfield 57, 0, 2, 0)) rfl) rfl hC le_0_2 rfl rfl rfl h1).trans ?_
  refine (wp_s (n := 138) (zcode_of mc_67 (r := (.iload_n 2, 0, 0, 0)) rfl) rfl rfl).trans ?_
  refine (wc_ld (n' := 139) rfl (zcode_of mc_67 (r := (.iaload, 0, 0, 0)) rfl) (cs_T hC le_0_2 h1) rfl).trans (and_congr_right fun h2 => ?_)
  refine (wp_s (n := 141) (zcode_of mc_67 (r := (.iload 5, 0, 0, 0)) rfl) rfl rfl).trans ?_
  refine (wc_isV (cl := 9) (rest := []) (zcode_of mc_67 (r := (.invokevirtual 78, 68, 0, 2)) rfl) rfl rfl rfl).trans (and_congr_right fun h3 => ?_)
  exact wp_call (q := ([.ref a0, .int (zai σ 4 (a1 + 3) (Int32.toNatClampNeg x2)), .int x5], [])) (zcode_of mc_67 (r := (.invokevirtual 78, 68, 0, 2)) rfl) rfl (zCa_V (Nat.le_of_ble_eq_true rfl) rfl h3) ⟨Nat.le_of_ble_eq_true rfl, Nat.le_of_ble_eq_true rfl⟩
theorem b67_144 {σ : zSt} {P : Option Value → zSt → Prop} {a0 a1 a4 : Nat} {x2 x3 x5 s0 : Int32} :
    wp 67 144 [some (.ref a0), some (.ref a1), some (.int x2), some (.int x3), some (.ref a4), some (.int x5)] [.int s0] σ P ↔ P (some (.int s0)) σ := by
  exact wp_retI (zcode_of mc_67 (r := (.ireturn, 0, 0, 0)) rfl) rfl
theorem mc_68 : mCode 68 = zc_68 := rfl
set_option maxRecDepth 20000 in
theorem b68 {σ : zSt} {P : Option Value → zSt → Prop} {a0 : Nat} {x1 x2 : Int32} :
    wpM 68 [.ref a0, .int x1, .int x2] σ P ↔ (if x1 = 4 then wp 68 52 [some (.ref a0), some (.int x1), some (.int x2)] [] σ P else if x1 = 5 then wp 68 61 [some (.ref a0), some (.int x1), some (.int x2)] [] σ P else if x1 = 6 then wp 68 70 [some (.ref a0), some (.int x1), some (.int x2)] [] σ P else if x1 = 7 then wp 68 86 [some (.ref a0), some (.int x1), some (.int x2)] [] σ P else if x1 = 8 then wp 68 102 [some (.ref a0), some (.int x1), some (.int x2)] [] σ P else if x1 = 10 then wp 68 112 [some (.ref a0), some (.int x1), some (.int x2)] [] σ P else if x1 = 12 then wp 68 121 [some (.ref a0), some (.int x1), some (.int x2)] [] σ P else wp 68 131 [some (.ref a0), some (.int x1), some (.int x2)] [] σ P) := by
  show wp 68 0 [some (.ref a0), some (.int x1), some (.int x2)] [] σ P ↔ _
  refine (wp_s (n := 1) (zcode_of mc_68 (r := (.iload_n 1, 0, 0, 0)) rfl) rfl rfl).trans ?_
  generalize hv9 : (x1 : Int32) = v9
  by_cases h104 : v9 = 4
  · rw [if_pos h104, h104]
    exact wp_swI (zcode_of mc_68 (r := (.tableswitch 130 4 12 #[51, 60, 69, 85, 101, 130, 111, 130, 120], 0, 0, 0)) rfl) (t := 52) (by decide)
  rw [if_neg h104]
  by_cases h105 : v9 = 5
  · rw [if_pos h105, h105]
    exact wp_swI (zcode_of mc_68 (r := (.tableswitch 130 4 12 #[51, 60, 69, 85, 101, 130, 111, 130, 120], 0, 0, 0)) rfl) (t := 61) (by decide)
  rw [if_neg h105]
  by_cases h106 : v9 = 6
  · rw [if_pos h106, h106]
    exact wp_swI (zcode_of mc_68 (r := (.tableswitch 130 4 12 #[51, 60, 69, 85, 101, 130, 111, 130, 120], 0, 0, 0)) rfl) (t := 70) (by decide)
  rw [if_neg h106]
  by_cases h107 : v9 = 7
  · rw [if_pos h107, h107]
    exact wp_swI (zcode_of mc_68 (r := (.tableswitch 130 4 12 #[51, 60, 69, 85, 101, 130, 111, 130, 120], 0, 0, 0)) rfl) (t := 86) (by decide)
  rw [if_neg h107]
  by_cases h108 : v9 = 8
  · rw [if_pos h108, h108]
    exact wp_swI (zcode_of mc_68 (r := (.tableswitch 130 4 12 #[51, 60, 69, 85, 101, 130, 111, 130, 120], 0, 0, 0)) rfl) (t := 102) (by decide)
  rw [if_neg h108]
  by_cases h110 : v9 = 10
  · rw [if_pos h110, h110]
    exact wp_swI (zcode_of mc_68 (r := (.tableswitch 130 4 12 #[51, 60, 69, 85, 101, 130, 111, 130, 120], 0, 0, 0)) rfl) (t := 112) (by decide)
  rw [if_neg h110]
  by_cases h112 : v9 = 12
  · rw [if_pos h112, h112]
    exact wp_swI (zcode_of mc_68 (r := (.tableswitch 130 4 12 #[51, 60, 69, 85, 101, 130, 111, 130, 120], 0, 0, 0)) rfl) (t := 121) (by decide)
  rw [if_neg h112]
  by_cases h109 : v9 = 9
  · rw [h109]
    exact wp_swI (zcode_of mc_68 (r := (.tableswitch 130 4 12 #[51, 60, 69, 85, 101, 130, 111, 130, 120], 0, 0, 0)) rfl) (t := 131) (by decide)
  by_cases h111 : v9 = 11
  · rw [h111]
    exact wp_swI (zcode_of mc_68 (r := (.tableswitch 130 4 12 #[51, 60, 69, 85, 101, 130, 111, 130, 120], 0, 0, 0)) rfl) (t := 131) (by decide)
  exact wp_swO (zcode_of mc_68 (r := (.tableswitch 130 4 12 #[51, 60, 69, 85, 101, 130, 111, 130, 120], 0, 0, 0)) rfl) (t := 131) (by decide) (zsw_lo (fun k g1 g2 => by
    rcases (show k = 4 ∨ k = 5 ∨ k = 6 ∨ k = 7 ∨ k = 8 ∨ k = 9 ∨ k = 10 ∨ k = 11 ∨ k = 12 by omega) with rfl | rfl | rfl | rfl | rfl | rfl | rfl | rfl | rfl
    · exact h104
    · exact h105
    · exact h106
    · exact h107
    · exact h108
    · exact h109
    · exact h110
    · exact h111
    · exact h112) (by decide) (by decide))
theorem b68_52 {σ : zSt} {P : Option Value → zSt → Prop} (hC : CShape σ) {a0 : Nat} {x1 x2 : Int32} :
    wp 68 52 [some (.ref a0), some (.int x1), some (.int x2)] [] σ P ↔ (zIs σ a0 9 ∧ wpM 20 [.ref (a0 + 1)] σ (fun r τ => wp 68 59 [some (.ref a0), some (.int x1), some (.int x2)] (r.toList ++ []) τ P)) := by
  refine (wp_s (n := 53) (zcode_of mc_68 (r := (.aload_n 0, 0, 0, 0)) rfl) rfl rfl).trans ?_
  refine (wc_is (zcode_of mc_68 (r := (.getfield 12, 9, 0, 0)) rfl)).trans (and_congr_right fun h1 => ?_)
  refine (wc_getR (n' := 56) (d := 1) rfl (zcode_of mc_68 (r := (.getfield 12, 9, 0, 0)) rfl) rfl hC le_9_0 rfl rfl rfl h1).trans ?_
  exact wp_call (q := ([.ref (a0 + 1)], [])) (zcode_of mc_68 (r := (.invokevirtual 82, 20, 0, 0)) rfl) rfl (zCa_V (Nat.le_of_ble_eq_true rfl) rfl (zIs_of (cs_T hC le_9_0 h1))) ⟨Nat.le_of_ble_eq_true rfl, Nat.le_of_ble_eq_true rfl⟩
theorem b68_59 {σ : zSt} {P : Option Value → zSt → Prop} {a0 : Nat} {x1 x2 : Int32} :
    wp 68 59 [some (.ref a0), some (.int x1), some (.int x2)] [] σ P ↔ P (some (.int 0)) σ := by
  refine (wp_ic (n' := 60) rfl (zcode_of mc_68 (r := (.iconst 0, 0, 0, 0)) rfl) ci_0).trans ?_
  exact wp_retI (zcode_of mc_68 (r := (.ireturn, 0, 0, 0)) rfl) rfl
theorem b68_61 {σ : zSt} {P : Option Value → zSt → Prop} (hC : CShape σ) {a0 : Nat} {x1 x2 : Int32} :
    wp 68 61 [some (.ref a0), some (.int x1), some (.int x2)] [] σ P ↔ (zIs σ a0 9 ∧ wpM 21 [.ref (a0 + 1)] σ (fun r τ => wp 68 68 [some (.ref a0), some (.int x1), some (.int x2)] (r.toList ++ []) τ P)) := by
  refine (wp_s (n := 62) (zcode_of mc_68 (r := (.aload_n 0, 0, 0, 0)) rfl) rfl rfl).trans ?_
  refine (wc_is (zcode_of mc_68 (r := (.getfield 12, 9, 0, 0)) rfl)).trans (and_congr_right fun h1 => ?_)
  refine (wc_getR (n' := 65) (d := 1) rfl (zcode_of mc_68 (r := (.getfield 12, 9, 0, 0)) rfl) rfl hC le_9_0 rfl rfl rfl h1).trans ?_
  exact wp_call (q := ([.ref (a0 + 1)], [])) (zcode_of mc_68 (r := (.invokevirtual 85, 21, 0, 0)) rfl) rfl (zCa_V (Nat.le_of_ble_eq_true rfl) rfl (zIs_of (cs_T hC le_9_0 h1))) ⟨Nat.le_of_ble_eq_true rfl, Nat.le_of_ble_eq_true rfl⟩
theorem b68_68 {σ : zSt} {P : Option Value → zSt → Prop} {a0 : Nat} {x1 x2 : Int32} :
    wp 68 68 [some (.ref a0), some (.int x1), some (.int x2)] [] σ P ↔ P (some (.int 0)) σ := by
  refine (wp_ic (n' := 69) rfl (zcode_of mc_68 (r := (.iconst 0, 0, 0, 0)) rfl) ci_0).trans ?_
  exact wp_retI (zcode_of mc_68 (r := (.ireturn, 0, 0, 0)) rfl) rfl
theorem b68_70 {σ : zSt} {P : Option Value → zSt → Prop} (hC : CShape σ) {a0 : Nat} {x1 x2 : Int32} :
    wp 68 70 [some (.ref a0), some (.int x1), some (.int x2)] [] σ P ↔ (zIs σ a0 9 ∧ wpM 23 [.ref (a0 + 1), .int (zfi σ 2 1 (a0 + 1))] σ (fun r τ => wp 68 84 [some (.ref a0), some (.int x1), some (.int x2)] (r.toList ++ []) τ P)) := by
  refine (wp_s (n := 71) (zcode_of mc_68 (r := (.aload_n 0, 0, 0, 0)) rfl) rfl rfl).trans ?_
  refine (wc_is (zcode_of mc_68 (r := (.getfield 12, 9, 0, 0)) rfl)).trans (and_congr_right fun h1 => ?_)
  refine (wc_getR (n' := 74) (d := 1) rfl (zcode_of mc_68 (r := (.getfield 12, 9, 0, 0)) rfl) rfl hC le_9_0 rfl rfl rfl h1).trans ?_
  refine (wp_s (n := 75) (zcode_of mc_68 (r := (.aload_n 0, 0, 0, 0)) rfl) rfl rfl).trans ?_
  refine (wc_getR (n' := 78) (d := 1) rfl (zcode_of mc_68 (r := (.getfield 12, 9, 0, 0)) rfl) rfl hC le_9_0 rfl rfl rfl h1).trans ?_
  refine (wc_getI (n' := 81) rfl (zcode_of mc_68 (r := (.getfield 40, 2, 1, 0)) rfl) rfl (zIs_of (cs_T hC le_9_0 h1))).trans ?_
  exact wp_call (q := ([.ref (a0 + 1), .int (zfi σ 2 1 (a0 + 1))], [])) (zcode_of mc_68 (r := (.invokevirtual 88, 23, 0, 1)) rfl) rfl (zCa_V (Nat.le_of_ble_eq_true rfl) rfl (zIs_of (cs_T hC le_9_0 h1))) ⟨Nat.le_of_ble_eq_true rfl, Nat.le_of_ble_eq_true rfl⟩
theorem b68_84 {σ : zSt} {P : Option Value → zSt → Prop} {a0 : Nat} {x1 x2 : Int32} :
    wp 68 84 [some (.ref a0), some (.int x1), some (.int x2)] [] σ P ↔ P (some (.int 0)) σ := by
  refine (wp_ic (n' := 85) rfl (zcode_of mc_68 (r := (.iconst 0, 0, 0, 0)) rfl) ci_0).trans ?_
  exact wp_retI (zcode_of mc_68 (r := (.ireturn, 0, 0, 0)) rfl) rfl
theorem b68_86 {σ : zSt} {P : Option Value → zSt → Prop} (hC : CShape σ) {a0 : Nat} {x1 x2 : Int32} :
    wp 68 86 [some (.ref a0), some (.int x1), some (.int x2)] [] σ P ↔ (zIs σ a0 9 ∧ wpM 22 [.ref (a0 + 1)] σ (fun r τ => wp 68 97 [some (.ref a0), some (.int x1), some (.int x2)] (r.toList ++ [.ref (a0 + 1)]) τ P)) := by
  refine (wp_s (n := 87) (zcode_of mc_68 (r := (.aload_n 0, 0, 0, 0)) rfl) rfl rfl).trans ?_
  refine (wc_is (zcode_of mc_68 (r := (.getfield 12, 9, 0, 0)) rfl)).trans (and_congr_right fun h1 => ?_)
  refine (wc_getR (n' := 90) (d := 1) rfl (zcode_of mc_68 (r := (.getfield 12, 9, 0, 0)) rfl) rfl hC le_9_0 rfl rfl rfl h1).trans ?_
  refine (wp_s (n := 91) (zcode_of mc_68 (r := (.aload_n 0, 0, 0, 0)) rfl) rfl rfl).trans ?_
  refine (wc_getR (n' := 94) (d := 1) rfl (zcode_of mc_68 (r := (.getfield 12, 9, 0, 0)) rfl) rfl hC le_9_0 rfl rfl rfl h1).trans ?_
  exact wp_call (q := ([.ref (a0 + 1)], [.ref (a0 + 1)])) (zcode_of mc_68 (r := (.invokevirtual 91, 22, 0, 0)) rfl) rfl (zCa_V (Nat.le_of_ble_eq_true rfl) rfl (zIs_of (cs_T hC le_9_0 h1))) ⟨Nat.le_of_ble_eq_true rfl, Nat.le_of_ble_eq_true rfl⟩
theorem b68_97 {σ : zSt} {P : Option Value → zSt → Prop} {a0 s1 : Nat} {x1 x2 s0 : Int32} :
    wp 68 97 [some (.ref a0), some (.int x1), some (.int x2)] [.int s0, .ref s1] σ P ↔ (zIs σ s1 2 ∧ wpM 23 [.ref s1, .int s0] σ (fun r τ => wp 68 100 [some (.ref a0), some (.int x1), some (.int x2)] (r.toList ++ []) τ P)) := by
  refine (wc_isV (cl := 2) (rest := []) (zcode_of mc_68 (r := (.invokevirtual 88, 23, 0, 1)) rfl) rfl rfl rfl).trans (and_congr_right fun h1 => ?_)
  exact wp_call (q := ([.ref s1, .int s0], [])) (zcode_of mc_68 (r := (.invokevirtual 88, 23, 0, 1)) rfl) rfl (zCa_V (Nat.le_of_ble_eq_true rfl) rfl h1) ⟨Nat.le_of_ble_eq_true rfl, Nat.le_of_ble_eq_true rfl⟩
theorem b68_100 {σ : zSt} {P : Option Value → zSt → Prop} {a0 : Nat} {x1 x2 : Int32} :
    wp 68 100 [some (.ref a0), some (.int x1), some (.int x2)] [] σ P ↔ P (some (.int 0)) σ := by
  refine (wp_ic (n' := 101) rfl (zcode_of mc_68 (r := (.iconst 0, 0, 0, 0)) rfl) ci_0).trans ?_
  exact wp_retI (zcode_of mc_68 (r := (.ireturn, 0, 0, 0)) rfl) rfl
theorem b68_102 {σ : zSt} {P : Option Value → zSt → Prop} (hC : CShape σ) {a0 : Nat} {x1 x2 : Int32} :
    wp 68 102 [some (.ref a0), some (.int x1), some (.int x2)] [] σ P ↔ (zIs σ a0 9 ∧ wpM 24 [.ref (a0 + 1), .int x2] σ (fun r τ => wp 68 110 [some (.ref a0), some (.int x1), some (.int x2)] (r.toList ++ []) τ P)) := by
  refine (wp_s (n := 103) (zcode_of mc_68 (r := (.aload_n 0, 0, 0, 0)) rfl) rfl rfl).trans ?_
  refine (wc_is (zcode_of mc_68 (r := (.getfield 12, 9, 0, 0)) rfl)).trans (and_congr_right fun h1 => ?_)
  refine (wc_getR (n' := 106) (d := 1) rfl (zcode_of mc_68 (r := (.getfield 12, 9, 0, 0)) rfl) rfl hC le_9_0 rfl rfl rfl h1).trans ?_
  refine (wp_s (n := 107) (zcode_of mc_68 (r := (.iload_n 2, 0, 0, 0)) rfl) rfl rfl).trans ?_
  exact wp_call (q := ([.ref (a0 + 1), .int x2], [])) (zcode_of mc_68 (r := (.invokevirtual 94, 24, 0, 1)) rfl) rfl (zCa_V (Nat.le_of_ble_eq_true rfl) rfl (zIs_of (cs_T hC le_9_0 h1))) ⟨Nat.le_of_ble_eq_true rfl, Nat.le_of_ble_eq_true rfl⟩
theorem b68_110 {σ : zSt} {P : Option Value → zSt → Prop} {a0 : Nat} {x1 x2 : Int32} :
    wp 68 110 [some (.ref a0), some (.int x1), some (.int x2)] [] σ P ↔ P (some (.int 0)) σ := by
  refine (wp_ic (n' := 111) rfl (zcode_of mc_68 (r := (.iconst 0, 0, 0, 0)) rfl) ci_0).trans ?_
  exact wp_retI (zcode_of mc_68 (r := (.ireturn, 0, 0, 0)) rfl) rfl
theorem b68_112 {σ : zSt} {P : Option Value → zSt → Prop} (hC : CShape σ) {a0 : Nat} {x1 x2 : Int32} :
    wp 68 112 [some (.ref a0), some (.int x1), some (.int x2)] [] σ P ↔ (zIs σ a0 9 ∧ wpM 25 [.ref (a0 + 1)] σ (fun r τ => wp 68 119 [some (.ref a0), some (.int x1), some (.int x2)] (r.toList ++ []) τ P)) := by
  refine (wp_s (n := 113) (zcode_of mc_68 (r := (.aload_n 0, 0, 0, 0)) rfl) rfl rfl).trans ?_
  refine (wc_is (zcode_of mc_68 (r := (.getfield 12, 9, 0, 0)) rfl)).trans (and_congr_right fun h1 => ?_)
  refine (wc_getR (n' := 116) (d := 1) rfl (zcode_of mc_68 (r := (.getfield 12, 9, 0, 0)) rfl) rfl hC le_9_0 rfl rfl rfl h1).trans ?_
  exact wp_call (q := ([.ref (a0 + 1)], [])) (zcode_of mc_68 (r := (.invokevirtual 97, 25, 0, 0)) rfl) rfl (zCa_V (Nat.le_of_ble_eq_true rfl) rfl (zIs_of (cs_T hC le_9_0 h1))) ⟨Nat.le_of_ble_eq_true rfl, Nat.le_of_ble_eq_true rfl⟩
theorem b68_119 {σ : zSt} {P : Option Value → zSt → Prop} {a0 : Nat} {x1 x2 : Int32} :
    wp 68 119 [some (.ref a0), some (.int x1), some (.int x2)] [] σ P ↔ P (some (.int 0)) σ := by
  refine (wp_ic (n' := 120) rfl (zcode_of mc_68 (r := (.iconst 0, 0, 0, 0)) rfl) ci_0).trans ?_
  exact wp_retI (zcode_of mc_68 (r := (.ireturn, 0, 0, 0)) rfl) rfl
theorem b68_121 {σ : zSt} {P : Option Value → zSt → Prop} (hC : CShape σ) {a0 : Nat} {x1 x2 : Int32} :
    wp 68 121 [some (.ref a0), some (.int x1), some (.int x2)] [] σ P ↔ (zIs σ a0 9 ∧ wpM 27 [.ref (a0 + 1), .int x2] σ (fun r τ => wp 68 129 [some (.ref a0), some (.int x1), some (.int x2)] (r.toList ++ []) τ P)) := by
  refine (wp_s (n := 122) (zcode_of mc_68 (r := (.aload_n 0, 0, 0, 0)) rfl) rfl rfl).trans ?_
  refine (wc_is (zcode_of mc_68 (r := (.getfield 12, 9, 0, 0)) rfl)).trans (and_congr_right fun h1 => ?_)
  refine (wc_getR (n' := 125) (d := 1) rfl (zcode_of mc_68 (r := (.getfield 12, 9, 0, 0)) rfl) rfl hC le_9_0 rfl rfl rfl h1).trans ?_
  refine (wp_s (n := 126) (zcode_of mc_68 (r := (.iload_n 2, 0, 0, 0)) rfl) rfl rfl).trans ?_
  exact wp_call (q := ([.ref (a0 + 1), .int x2], [])) (zcode_of mc_68 (r := (.invokevirtual 100, 27, 0, 1)) rfl) rfl (zCa_V (Nat.le_of_ble_eq_true rfl) rfl (zIs_of (cs_T hC le_9_0 h1))) ⟨Nat.le_of_ble_eq_true rfl, Nat.le_of_ble_eq_true rfl⟩
theorem b68_129 {σ : zSt} {P : Option Value → zSt → Prop} {a0 : Nat} {x1 x2 : Int32} :
    wp 68 129 [some (.ref a0), some (.int x1), some (.int x2)] [] σ P ↔ P (some (.int 0)) σ := by
  refine (wp_ic (n' := 130) rfl (zcode_of mc_68 (r := (.iconst 0, 0, 0, 0)) rfl) ci_0).trans ?_
  exact wp_retI (zcode_of mc_68 (r := (.ireturn, 0, 0, 0)) rfl) rfl
theorem b68_131 {σ : zSt} {P : Option Value → zSt → Prop} (hC : CShape σ) {a0 : Nat} {x1 x2 : Int32} :
    wp 68 131 [some (.ref a0), some (.int x1), some (.int x2)] [] σ P ↔ (zIs σ a0 9 ∧ wpM 17 [.ref (a0 + 1), .ref (a0 + 1)] σ (fun r τ => wp 68 142 [some (.ref a0), some (.int x1), some (.int x2)] (r.toList ++ []) τ P)) := by
  refine (wp_s (n := 132) (zcode_of mc_68 (r := (.aload_n 0, 0, 0, 0)) rfl) rfl rfl).trans ?_
  refine (wc_is (zcode_of mc_68 (r := (.getfield 12, 9, 0, 0)) rfl)).trans (and_congr_right fun h1 => ?_)
  refine (wc_getR (n' := 135) (d := 1) rfl (zcode_of mc_68 (r := (.getfield 12, 9, 0, 0)) rfl) rfl hC le_9_0 rfl rfl rfl h1).trans ?_
  refine (wp_s (n := 136) (zcode_of mc_68 (r := (.aload_n 0, 0, 0, 0)) rfl) rfl rfl).trans ?_
  refine (wc_getR (n' := 139) (d := 1) rfl (zcode_of mc_68 (r := (.getfield 12, 9, 0, 0)) rfl) rfl hC le_9_0 rfl rfl rfl h1).trans ?_
  exact wp_call (q := ([.ref (a0 + 1), .ref (a0 + 1)], [])) (zcode_of mc_68 (r := (.invokevirtual 103, 17, 0, 1)) rfl) rfl (zCa_V (Nat.le_of_ble_eq_true rfl) rfl (zIs_of (cs_T hC le_9_0 h1))) ⟨Nat.le_of_ble_eq_true rfl, Nat.le_of_ble_eq_true rfl⟩
theorem b68_142 {σ : zSt} {P : Option Value → zSt → Prop} {a0 : Nat} {x1 x2 s0 : Int32} :
    wp 68 142 [some (.ref a0), some (.int x1), some (.int x2)] [.int s0] σ P ↔ (if s0 = 0 then wp 68 149 [some (.ref a0), some (.int x1), some (.int x2)] [] σ P else wp 68 145 [some (.ref a0), some (.int x1), some (.int x2)] [] σ P) := by
  exact wp_jump (off := 7) (t := 149) (zcode_of mc_68 (r := (.ifCond .eq 7, 0, 0, 0)) rfl) rfl rfl (by decide)
theorem b68_145 {σ : zSt} {P : Option Value → zSt → Prop} {a0 : Nat} {x1 x2 : Int32} :
    wp 68 145 [some (.ref a0), some (.int x1), some (.int x2)] [] σ P ↔ wp 68 150 [some (.ref a0), some (.int x1), some (.int x2)] [.int 0] σ P := by
  refine (wp_ic (n' := 146) rfl (zcode_of mc_68 (r := (.iconst 0, 0, 0, 0)) rfl) ci_0).trans ?_
  exact wp_goto (off := 4) (t := 150) (zcode_of mc_68 (r := (.goto 4, 0, 0, 0)) rfl) (by decide)
theorem b68_149 {σ : zSt} {P : Option Value → zSt → Prop} {a0 : Nat} {x1 x2 : Int32} :
    wp 68 149 [some (.ref a0), some (.int x1), some (.int x2)] [] σ P ↔ wp 68 150 [some (.ref a0), some (.int x1), some (.int x2)] [.int 2] σ P := by
  refine (wp_ic (n' := 150) rfl (zcode_of mc_68 (r := (.iconst 2, 0, 0, 0)) rfl) ci_2).trans ?_
  exact Iff.rfl
theorem b68_150 {σ : zSt} {P : Option Value → zSt → Prop} {a0 : Nat} {x1 x2 s0 : Int32} :
    wp 68 150 [some (.ref a0), some (.int x1), some (.int x2)] [.int s0] σ P ↔ P (some (.int s0)) σ := by
  exact wp_retI (zcode_of mc_68 (r := (.ireturn, 0, 0, 0)) rfl) rfl
theorem mc_69 : mCode 69 = zc_69 := rfl
theorem b69 {σ : zSt} {P : Option Value → zSt → Prop} (hC : CShape σ) {a0 a1 : Nat} {x2 x3 : Int32} :
    wpM 69 [.ref a0, .ref a1, .int x2, .int x3] σ P ↔ (zIs σ a1 0 ∧ wpM 187 [.ref (a1 + 1)] σ (fun r τ => wp 69 8 [some (.ref a0), some (.ref a1), some (.int x2), some (.int x3), none] (r.toList ++ [.int x2]) τ P)) := by
  show wp 69 0 [some (.ref a0), some (.ref a1), some (.int x2), some (.int x3), none] [] σ P ↔ _
  refine (wp_s (n := 1) (zcode_of mc_69 (r := (.iload_n 2, 0, 0, 0)) rfl) rfl rfl).trans ?_
  refine (wp_s (n := 2) (zcode_of mc_69 (r := (.aload_n 1, 0, 0, 0)) rfl) rfl rfl).trans ?_
  refine (wc_is (zcode_of mc_69 (r := (.getfield 107, 0, 0, 0)) rfl)).trans (and_congr_right fun h1 => ?_)
  refine (wc_getR (n' := 5) (d := 1) rfl (zcode_of mc_69 (r := (.getfield 107, 0, 0, 0)) rfl) rfl hC le_0_0 rfl rfl rfl h1).trans ?_
  exact wp_call (q := ([.ref (a1 + 1)], [.int x2])) (zcode_of mc_69 (r := (.invokevirtual 28, 187, 0, 0)) rfl) rfl (zCa_V (Nat.le_of_ble_eq_true rfl) rfl (zIs_of (cs_T hC le_0_0 h1))) ⟨Nat.le_of_ble_eq_true rfl, Nat.le_of_ble_eq_true rfl⟩
theorem b69_8 {σ : zSt} {P : Option Value → zSt → Prop} {a0 a1 : Nat} {x2 x3 s0 s1 : Int32} {u4 : Option Value} :
    wp 69 8 [some (.ref a0), some (.ref a1), some (.int x2), some (.int x3), u4] [.int s0, .int s1] σ P ↔ (if s1 < s0 then wp 69 13 [some (.ref a0), some (.ref a1), some (.int x2), some (.int x3), u4] [] σ P else wp 69 11 [some (.ref a0), some (.ref a1), some (.int x2), some (.int x3), u4] [] σ P) := by
  exact wp_jump (off := 5) (t := 13) (zcode_of mc_69 (r := (.if_icmp .lt 5, 0, 0, 0)) rfl) rfl rfl (by decide)
theorem b69_11 {σ : zSt} {P : Option Value → zSt → Prop} {a0 a1 : Nat} {x2 x3 : Int32} {u4 : Option Value} :
    wp 69 11 [some (.ref a0), some (.ref a1), some (.int x2), some (.int x3), u4] [] σ P ↔ P (some (.int 3)) σ := by
  refine (wp_ic (n' := 12) rfl (zcode_of mc_69 (r := (.iconst 3, 0, 0, 0)) rfl) ci_3).trans ?_
  exact wp_retI (zcode_of mc_69 (r := (.ireturn, 0, 0, 0)) rfl) rfl
theorem b69_13 {σ : zSt} {P : Option Value → zSt → Prop} (hC : CShape σ) {a0 a1 : Nat} {x2 x3 : Int32} {u4 : Option Value} :
    wp 69 13 [some (.ref a0), some (.ref a1), some (.int x2), some (.int x3), u4] [] σ P ↔ (zIs σ a1 0 ∧ wpM 190 [.ref (a1 + 1), .int x2] σ (fun r τ => wp 69 21 [some (.ref a0), some (.ref a1), some (.int x2), some (.int x3), u4] (r.toList ++ []) τ P)) := by
  refine (wp_s (n := 14) (zcode_of mc_69 (r := (.aload_n 1, 0, 0, 0)) rfl) rfl rfl).trans ?_
  refine (wc_is (zcode_of mc_69 (r := (.getfield 107, 0, 0, 0)) rfl)).trans (and_congr_right fun h1 => ?_)
  refine (wc_getR (n' := 17) (d := 1) rfl (zcode_of mc_69 (r := (.getfield 107, 0, 0, 0)) rfl) rfl hC le_0_0 rfl rfl rfl h1).trans ?_
  refine (wp_s (n := 18) (zcode_of mc_69 (r := (.iload_n 2, 0, 0, 0)) rfl) rfl rfl).trans ?_
  exact wp_call (q := ([.ref (a1 + 1), .int x2], [])) (zcode_of mc_69 (r := (.invokevirtual 110, 190, 0, 1)) rfl) rfl (zCa_V (Nat.le_of_ble_eq_true rfl) rfl (zIs_of (cs_T hC le_0_0 h1))) ⟨Nat.le_of_ble_eq_true rfl, Nat.le_of_ble_eq_true rfl⟩
theorem b69_21 {σ : zSt} {P : Option Value → zSt → Prop} {a0 a1 s0 : Nat} {x2 x3 : Int32} {u4 : Option Value} :
    wp 69 21 [some (.ref a0), some (.ref a1), some (.int x2), some (.int x3), u4] [.ref s0] σ P ↔ (zIs σ s0 8 ∧ (if (zfi σ 8 3 s0) = 0 then wp 69 36 [some (.ref a0), some (.ref a1), some (.int x2), some (.int x3), some (.ref s0)] [] σ P else wp 69 34 [some (.ref a0), some (.ref a1), some (.int x2), some (.int x3), some (.ref s0)] [] σ P)) := by
  refine (wc_chk (n' := 24) rfl (zcode_of mc_69 (r := (.checkcast 114, 8, 0, 0)) rfl)).trans (and_congr_right fun h1 => ?_)
  refine (wp_s (n := 26) (zcode_of mc_69 (r := (.astore 4, 0, 0, 0)) rfl) rfl rfl).trans ?_
  refine (wp_s (n := 28) (zcode_of mc_69 (r := (.aload 4, 0, 0, 0)) rfl) rfl rfl).trans ?_
  refine (wc_getI (n' := 31) rfl (zcode_of mc_69 (r := (.getfield 116, 8, 3, 0)) rfl) rfl h1).trans ?_
  exact wp_jump (off := 5) (t := 36) (zcode_of mc_69 (r := (.ifCond .eq 5, 0, 0, 0)) rfl) rfl rfl (by decide)
theorem b69_34 {σ : zSt} {P : Option Value → zSt → Prop} {a0 a1 a4 : Nat} {x2 x3 : Int32} :
    wp 69 34 [some (.ref a0), some (.ref a1), some (.int x2), some (.int x3), some (.ref a4)] [] σ P ↔ P (some (.int 4)) σ := by
  refine (wp_ic (n' := 35) rfl (zcode_of mc_69 (r := (.iconst 4, 0, 0, 0)) rfl) ci_4).trans ?_
  exact wp_retI (zcode_of mc_69 (r := (.ireturn, 0, 0, 0)) rfl) rfl
theorem b69_36 {σ : zSt} {P : Option Value → zSt → Prop} (hC : CShape σ) {a0 a1 a4 : Nat} {x2 x3 : Int32} :
    wp 69 36 [some (.ref a0), some (.ref a1), some (.int x2), some (.int x3), some (.ref a4)] [] σ P ↔ (zIs σ a4 8 ∧ (zIn x3 2 ∧ wpM 15 [.ref ((a4 + 1) + 2 + 2 * Int32.toNatClampNeg x3)] σ (fun r τ => wp 69 46 [some (.ref a0), some (.ref a1), some (.int x2), some (.int x3), some (.ref a4)] (r.toList ++ []) τ P))) := by
  refine (wp_s (n := 38) (zcode_of mc_69 (r := (.aload 4, 0, 0, 0)) rfl) rfl rfl).trans ?_
  refine (wc_is (zcode_of mc_69 (r := (.getfield 119, 8, 4, 0)) rfl)).trans (and_congr_right fun h1 => ?_)
  refine (wc_getR (n' := 41) (d := 1) rfl (zcode_of mc_69 (r := (.getfield 119, 8, 4, 0)) rfl) rfl hC le_8_4 rfl rfl rfl h1).trans ?_
  refine (wp_s (n := 42) (zcode_of mc_69 (r := (.iload_n 3, 0, 0, 0)) rfl) rfl rfl).trans ?_
  refine (wc_ald (n' := 43) rfl (zcode_of mc_69 (r := (.aaload, 0, 0, 0)) rfl) hC la_6 rfl rfl rfl rfl rfl (cs_T hC le_8_4 h1)).trans (and_congr_right fun h2 => ?_)
  exact wp_call (q := ([.ref ((a4 + 1) + 2 + 2 * Int32.toNatClampNeg x3)], [])) (zcode_of mc_69 (r := (.invokevirtual 123, 15, 0, 0)) rfl) rfl (zCa_V (Nat.le_of_ble_eq_true rfl) rfl (zIs_of (cs_A hC la_6 (cs_T hC le_8_4 h1) h2))) ⟨Nat.le_of_ble_eq_true rfl, Nat.le_of_ble_eq_true rfl⟩
theorem b69_46 {σ : zSt} {P : Option Value → zSt → Prop} {a0 a1 a4 : Nat} {x2 x3 s0 : Int32} :
    wp 69 46 [some (.ref a0), some (.ref a1), some (.int x2), some (.int x3), some (.ref a4)] [.int s0] σ P ↔ (if s0 = 0 then wp 69 51 [some (.ref a0), some (.ref a1), some (.int x2), some (.int x3), some (.ref a4)] [] σ P else wp 69 49 [some (.ref a0), some (.ref a1), some (.int x2), some (.int x3), some (.ref a4)] [] σ P) := by
  exact wp_jump (off := 5) (t := 51) (zcode_of mc_69 (r := (.ifCond .eq 5, 0, 0, 0)) rfl) rfl rfl (by decide)
theorem b69_49 {σ : zSt} {P : Option Value → zSt → Prop} {a0 a1 a4 : Nat} {x2 x3 : Int32} :
    wp 69 49 [some (.ref a0), some (.ref a1), some (.int x2), some (.int x3), some (.ref a4)] [] σ P ↔ P (some (.int 1)) σ := by
  refine (wp_ic (n' := 50) rfl (zcode_of mc_69 (r := (.iconst 1, 0, 0, 0)) rfl) ci_1).trans ?_
  exact wp_retI (zcode_of mc_69 (r := (.ireturn, 0, 0, 0)) rfl) rfl
theorem b69_51 {σ : zSt} {P : Option Value → zSt → Prop} (hC : CShape σ) {a0 a1 a4 : Nat} {x2 x3 : Int32} :
    wp 69 51 [some (.ref a0), some (.ref a1), some (.int x2), some (.int x3), some (.ref a4)] [] σ P ↔ (zIs σ a0 9 ∧ (zIs σ a4 8 ∧ (zIn x3 2 ∧ wpM 17 [.ref (a0 + 1), .ref ((a4 + 1) + 2 + 2 * Int32.toNatClampNeg x3)] σ (fun r τ => wp 69 65 [some (.ref a0), some (.ref a1), some (.int x2), some (.int x3), some (.ref a4)] (r.toList ++ []) τ P)))) := by
  refine (wp_s (n := 52) (zcode_of mc_69 (r := (.aload_n 0, 0, 0, 0)) rfl) rfl rfl).trans ?_
  refine (wc_is (zcode_of mc_69 (r := (.getfield 12, 9, 0, 0)) rfl)).trans (and_congr_right fun h1 => ?_)
  refine (wc_getR (n' := 55) (d := 1) rfl (zcode_of mc_69 (r := (.getfield 12, 9, 0, 0)) rfl) rfl hC le_9_0 rfl rfl rfl h1).trans ?_
  refine (wp_s (n := 57) (zcode_of mc_69 (r := (.aload 4, 0, 0, 0)) rfl) rfl rfl).trans ?_
  refine (wc_is (zcode_of mc_69 (r := (.getfield 119, 8, 4, 0)) rfl)).trans (and_congr_right fun h2 => ?_)
  refine (wc_getR (n' := 60) (d := 1) rfl (zcode_of mc_69 (r := (.getfield 119, 8, 4, 0)) rfl) rfl hC le_8_4 rfl rfl rfl h2).trans ?_
  refine (wp_s (n := 61) (zcode_of mc_69 (r := (.iload_n 3, 0, 0, 0)) rfl) rfl rfl).trans ?_
  refine (wc_ald (n' := 62) rfl (zcode_of mc_69 (r := (.aaload, 0, 0, 0)) rfl) hC la_6 rfl rfl rfl rfl rfl (cs_T hC le_8_4 h2)).trans (and_congr_right fun h3 => ?_)
  exact wp_call (q := ([.ref (a0 + 1), .ref ((a4 + 1) + 2 + 2 * Int32.toNatClampNeg x3)], [])) (zcode_of mc_69 (r := (.invokevirtual 103, 17, 0, 1)) rfl) rfl (zCa_V (Nat.le_of_ble_eq_true rfl) rfl (zIs_of (cs_T hC le_9_0 h1))) ⟨Nat.le_of_ble_eq_true rfl, Nat.le_of_ble_eq_true rfl⟩
theorem b69_65 {σ : zSt} {P : Option Value → zSt → Prop} {a0 a1 a4 : Nat} {x2 x3 s0 : Int32} :
    wp 69 65 [some (.ref a0), some (.ref a1), some (.int x2), some (.int x3), some (.ref a4)] [.int s0] σ P ↔ (if s0 = 0 then wp 69 72 [some (.ref a0), some (.ref a1), some (.int x2), some (.int x3), some (.ref a4)] [] σ P else wp 69 68 [some (.ref a0), some (.ref a1), some (.int x2), some (.int x3), some (.ref a4)] [] σ P) := by
  exact wp_jump (off := 7) (t := 72) (zcode_of mc_69 (r := (.ifCond .eq 7, 0, 0, 0)) rfl) rfl rfl (by decide)
theorem b69_68 {σ : zSt} {P : Option Value → zSt → Prop} {a0 a1 a4 : Nat} {x2 x3 : Int32} :
    wp 69 68 [some (.ref a0), some (.ref a1), some (.int x2), some (.int x3), some (.ref a4)] [] σ P ↔ wp 69 73 [some (.ref a0), some (.ref a1), some (.int x2), some (.int x3), some (.ref a4)] [.int 0] σ P := by
  refine (wp_ic (n' := 69) rfl (zcode_of mc_69 (r := (.iconst 0, 0, 0, 0)) rfl) ci_0).trans ?_
  exact wp_goto (off := 4) (t := 73) (zcode_of mc_69 (r := (.goto 4, 0, 0, 0)) rfl) (by decide)
theorem b69_72 {σ : zSt} {P : Option Value → zSt → Prop} {a0 a1 a4 : Nat} {x2 x3 : Int32} :
    wp 69 72 [some (.ref a0), some (.ref a1), some (.int x2), some (.int x3), some (.ref a4)] [] σ P ↔ wp 69 73 [some (.ref a0), some (.ref a1), some (.int x2), some (.int x3), some (.ref a4)] [.int 2] σ P := by
  refine (wp_ic (n' := 73) rfl (zcode_of mc_69 (r := (.iconst 2, 0, 0, 0)) rfl) ci_2).trans ?_
  exact Iff.rfl
theorem b69_73 {σ : zSt} {P : Option Value → zSt → Prop} {a0 a1 a4 : Nat} {x2 x3 s0 : Int32} :
    wp 69 73 [some (.ref a0), some (.ref a1), some (.int x2), some (.int x3), some (.ref a4)] [.int s0] σ P ↔ P (some (.int s0)) σ := by
  exact wp_retI (zcode_of mc_69 (r := (.ireturn, 0, 0, 0)) rfl) rfl
theorem mc_70 : mCode 70 = zc_70 := rfl
theorem b70 {σ : zSt} {P : Option Value → zSt → Prop} (hC : CShape σ) {a0 a1 : Nat} {x2 x3 : Int32} :
    wpM 70 [.ref a0, .ref a1, .int x2, .int x3] σ P ↔ (zIs σ a1 0 ∧ wpM 187 [.ref (a1 + 1)] σ (fun r τ => wp 70 8 [some (.ref a0), some (.ref a1), some (.int x2), some (.int x3), none, none, none] (r.toList ++ [.int x2]) τ P)) := by
  show wp 70 0 [some (.ref a0), some (.ref a1), some (.int x2), some (.int x3), none, none, none] [] σ P ↔ _
  refine (wp_s (n := 1) (zcode_of mc_70 (r := (.iload_n 2, 0, 0, 0)) rfl) rfl rfl).trans ?_
  refine (wp_s (n := 2) (zcode_of mc_70 (r := (.aload_n 1, 0, 0, 0)) rfl) rfl rfl).trans ?_
  refine (wc_is (zcode_of mc_70 (r := (.getfield 107, 0, 0, 0)) rfl)).trans (and_congr_right fun h1 => ?_)
  refine (wc_getR (n' := 5) (d := 1) rfl (zcode_of mc_70 (r := (.getfield 107, 0, 0, 0)) rfl) rfl hC le_0_0 rfl rfl rfl h1).trans ?_
  exact wp_call (q := ([.ref (a1 + 1)], [.int x2])) (zcode_of mc_70 (r := (.invokevirtual 28, 187, 0, 0)) rfl) rfl (zCa_V (Nat.le_of_ble_eq_true rfl) rfl (zIs_of (cs_T hC le_0_0 h1))) ⟨Nat.le_of_ble_eq_true rfl, Nat.le_of_ble_eq_true rfl⟩
theorem b70_8 {σ : zSt} {P : Option Value → zSt → Prop} {a0 a1 : Nat} {x2 x3 s0 s1 : Int32} {u4 u5 u6 : Option Value} :
    wp 70 8 [some (.ref a0), some (.ref a1), some (.int x2), some (.int x3), u4, u5, u6] [.int s0, .int s1] σ P ↔ (if s1 < s0 then wp 70 13 [some (.ref a0), some (.ref a1), some (.int x2), some (.int x3), u4, u5, u6] [] σ P else wp 70 11 [some (.ref a0), some (.ref a1), some (.int x2), some (.int x3), u4, u5, u6] [] σ P) := by
  exact wp_jump (off := 5) (t := 13) (zcode_of mc_70 (r := (.if_icmp .lt 5, 0, 0, 0)) rfl) rfl rfl (by decide)
theorem b70_11 {σ : zSt} {P : Option Value → zSt → Prop} {a0 a1 : Nat} {x2 x3 : Int32} {u4 u5 u6 : Option Value} :
    wp 70 11 [some (.ref a0), some (.ref a1), some (.int x2), some (.int x3), u4, u5, u6] [] σ P ↔ P (some (.int 3)) σ := by
  refine (wp_ic (n' := 12) rfl (zcode_of mc_70 (r := (.iconst 3, 0, 0, 0)) rfl) ci_3).trans ?_
  exact wp_retI (zcode_of mc_70 (r := (.ireturn, 0, 0, 0)) rfl) rfl
theorem b70_13 {σ : zSt} {P : Option Value → zSt → Prop} (hC : CShape σ) {a0 a1 : Nat} {x2 x3 : Int32} {u4 u5 u6 : Option Value} :
    wp 70 13 [some (.ref a0), some (.ref a1), some (.int x2), some (.int x3), u4, u5, u6] [] σ P ↔ (zIs σ a1 0 ∧ wpM 190 [.ref (a1 + 1), .int x2] σ (fun r τ => wp 70 21 [some (.ref a0), some (.ref a1), some (.int x2), some (.int x3), u4, u5, u6] (r.toList ++ []) τ P)) := by
  refine (wp_s (n := 14) (zcode_of mc_70 (r := (.aload_n 1, 0, 0, 0)) rfl) rfl rfl).trans ?_
  refine (wc_is (zcode_of mc_70 (r := (.getfield 107, 0, 0, 0)) rfl)).trans (and_congr_right fun h1 => ?_)
  refine (wc_getR (n' := 17) (d := 1) rfl (zcode_of mc_70 (r := (.getfield 107, 0, 0, 0)) rfl) rfl hC le_0_0 rfl rfl rfl h1).trans ?_
  refine (wp_s (n := 18) (zcode_of mc_70 (r := (.iload_n 2, 0, 0, 0)) rfl) rfl rfl).trans ?_
  exact wp_call (q := ([.ref (a1 + 1), .int x2], [])) (zcode_of mc_70 (r := (.invokevirtual 110, 190, 0, 1)) rfl) rfl (zCa_V (Nat.le_of_ble_eq_true rfl) rfl (zIs_of (cs_T hC le_0_0 h1))) ⟨Nat.le_of_ble_eq_true rfl, Nat.le_of_ble_eq_true rfl⟩
theorem b70_21 {σ : zSt} {P : Option Value → zSt → Prop} {a0 a1 s0 : Nat} {x2 x3 : Int32} {u4 u5 u6 : Option Value} :
    wp 70 21 [some (.ref a0), some (.ref a1), some (.int x2), some (.int x3), u4, u5, u6] [.ref s0] σ P ↔ (zIs σ s0 8 ∧ (if ¬ (zfi σ 8 3 s0) = 0 then wp 70 36 [some (.ref a0), some (.ref a1), some (.int x2), some (.int x3), some (.ref s0), u5, u6] [] σ P else wp 70 34 [some (.ref a0), some (.ref a1), some (.int x2), some (.int x3), some (.ref s0), u5, u6] [] σ P)) := by
  refine (wc_chk (n' := 24) rfl (zcode_of mc_70 (r := (.checkcast 114, 8, 0, 0)) rfl)).trans (and_congr_right fun h1 => ?_)
  refine (wp_s (n := 26) (zcode_of mc_70 (r := (.astore 4, 0, 0, 0)) rfl) rfl rfl).trans ?_
  refine (wp_s (n := 28) (zcode_of mc_70 (r := (.aload 4, 0, 0, 0)) rfl) rfl rfl).trans ?_
  refine (wc_getI (n' := 31) rfl (zcode_of mc_70 (r := (.getfield 116, 8, 3, 0)) rfl) rfl h1).trans ?_
  exact wp_jump (off := 5) (t := 36) (zcode_of mc_70 (r := (.ifCond .ne 5, 0, 0, 0)) rfl) rfl rfl (by decide)
theorem b70_34 {σ : zSt} {P : Option Value → zSt → Prop} {a0 a1 a4 : Nat} {x2 x3 : Int32} {u5 u6 : Option Value} :
    wp 70 34 [some (.ref a0), some (.ref a1), some (.int x2), some (.int x3), some (.ref a4), u5, u6] [] σ P ↔ P (some (.int 4)) σ := by
  refine (wp_ic (n' := 35) rfl (zcode_of mc_70 (r := (.iconst 4, 0, 0, 0)) rfl) ci_4).trans ?_
  exact wp_retI (zcode_of mc_70 (r := (.ireturn, 0, 0, 0)) rfl) rfl
theorem b70_36 {σ : zSt} {P : Option Value → zSt → Prop} {a0 a1 a4 : Nat} {x2 x3 : Int32} {u5 u6 : Option Value} :
    wp 70 36 [some (.ref a0), some (.ref a1), some (.int x2), some (.int x3), some (.ref a4), u5, u6] [] σ P ↔ wp 70 39 [some (.ref a0), some (.ref a1), some (.int x2), some (.int x3), some (.ref a4), some (.int 0), u6] [] σ P := by
  refine (wp_ic (n' := 37) rfl (zcode_of mc_70 (r := (.iconst 0, 0, 0, 0)) rfl) ci_0).trans ?_
  refine (wp_s (n := 39) (zcode_of mc_70 (r := (.istore 5, 0, 0, 0)) rfl) rfl rfl).trans ?_
  exact Iff.rfl
theorem b70_39 {σ : zSt} {P : Option Value → zSt → Prop} (hC : CShape σ) {a0 a1 a4 : Nat} {x2 x3 x5 : Int32} {u6 : Option Value} :
    wp 70 39 [some (.ref a0), some (.ref a1), some (.int x2), some (.int x3), some (.ref a4), some (.int x5), u6] [] σ P ↔ (zIs σ a4 8 ∧ wpM 187 [.ref (a4 + 2)] σ (fun r τ => wp 70 49 [some (.ref a0), some (.ref a1), some (.int x2), some (.int x3), some (.ref a4), some (.int x5), u6] (r.toList ++ [.int x5]) τ P)) := by
  refine (wp_s (n := 41) (zcode_of mc_70 (r := (.iload 5, 0, 0, 0)) rfl) rfl rfl).trans ?_
  refine (wp_s (n := 43) (zcode_of mc_70 (r := (.aload 4, 0, 0, 0)) rfl) rfl rfl).trans ?_
  refine (wc_is (zcode_of mc_70 (r := (.getfield 127, 8, 5, 0)) rfl)).trans (and_congr_right fun h1 => ?_)
  refine (wc_getR (n' := 46) (d := 2) rfl (zcode_of mc_70 (r := (.getfield 127, 8, 5, 0)) rfl) rfl hC le_8_5 rfl rfl rfl h1).trans ?_
  exact wp_call (q := ([.ref (a4 + 2)], [.int x5])) (zcode_of mc_70 (r := (.invokevirtual 28, 187, 0, 0)) rfl) rfl (zCa_V (Nat.le_of_ble_eq_true rfl) rfl (zIs_of (cs_T hC le_8_5 h1))) ⟨Nat.le_of_ble_eq_true rfl, Nat.le_of_ble_eq_true rfl⟩
theorem b70_49 {σ : zSt} {P : Option Value → zSt → Prop} {a0 a1 a4 : Nat} {x2 x3 x5 s0 s1 : Int32} {u6 : Option Value} :
    wp 70 49 [some (.ref a0), some (.ref a1), some (.int x2), some (.int x3), some (.ref a4), some (.int x5), u6] [.int s0, .int s1] σ P ↔ (if s0 ≤ s1 then wp 70 106 [some (.ref a0), some (.ref a1), some (.int x2), some (.int x3), some (.ref a4), some (.int x5), u6] [] σ P else wp 70 52 [some (.ref a0), some (.ref a1), some (.int x2), some (.int x3), some (.ref a4), some (.int x5), u6] [] σ P) := by
  exact wp_jump (off := 57) (t := 106) (zcode_of mc_70 (r := (.if_icmp .ge 57, 0, 0, 0)) rfl) rfl rfl (by decide)
theorem b70_52 {σ : zSt} {P : Option Value → zSt → Prop} (hC : CShape σ) {a0 a1 a4 : Nat} {x2 x3 x5 : Int32} {u6 : Option Value} :
    wp 70 52 [some (.ref a0), some (.ref a1), some (.int x2), some (.int x3), some (.ref a4), some (.int x5), u6] [] σ P ↔ (zIs σ a4 8 ∧ wpM 190 [.ref (a4 + 2), .int x5] σ (fun r τ => wp 70 62 [some (.ref a0), some (.ref a1), some (.int x2), some (.int x3), some (.ref a4), some (.int x5), u6] (r.toList ++ []) τ P)) := by
  refine (wp_s (n := 54) (zcode_of mc_70 (r := (.aload 4, 0, 0, 0)) rfl) rfl rfl).trans ?_
  refine (wc_is (zcode_of mc_70 (r := (.getfield 127, 8, 5, 0)) rfl)).trans (and_congr_right fun h1 => ?_)
  refine (wc_getR (n' := 57) (d := 2) rfl (zcode_of mc_70 (r := (.getfield 127, 8, 5, 0)) rfl) rfl hC le_8_5 rfl rfl rfl h1).trans ?_
  refine (wp_s (n := 59) (zcode_of mc_70 (r := (.iload 5, 0, 0, 0)) rfl) rfl rfl).trans ?_
  exact wp_call (q := ([.ref (a4 + 2), .int x5], [])) (zcode_of mc_70 (r := (.invokevirtual 110, 190, 0, 1)) rfl) rfl (zCa_V (Nat.le_of_ble_eq_true rfl) rfl (zIs_of (cs_T hC le_8_5 h1))) ⟨Nat.le_of_ble_eq_true rfl, Nat.le_of_ble_eq_true rfl⟩
theorem b70_62 {σ : zSt} {P : Option Value → zSt → Prop} (hC : CShape σ) {a0 a1 a4 s0 : Nat} {x2 x3 x5 : Int32} {u6 : Option Value} :
    wp 70 62 [some (.ref a0), some (.ref a1), some (.int x2), some (.int x3), some (.ref a4), some (.int x5), u6] [.ref s0] σ P ↔ (zIs σ s0 8 ∧ (zIn x3 2 ∧ wpM 15 [.ref ((s0 + 1) + 2 + 2 * Int32.toNatClampNeg x3)] σ (fun r τ => wp 70 77 [some (.ref a0), some (.ref a1), some (.int x2), some (.int x3), some (.ref a4), some (.int x5), some (.ref s0)] (r.toList ++ []) τ P))) := by
  refine (wc_chk (n' := 65) rfl (zcode_of mc_70 (r := (.checkcast 114, 8, 0, 0)) rfl)).trans (and_congr_right fun h1 => ?_)
  refine (wp_s (n := 67) (zcode_of mc_70 (r := (.astore 6, 0, 0, 0)) rfl) rfl rfl).trans ?_
  refine (wp_s (n := 69) (zcode_of mc_70 (r := (.aload 6, 0, 0, 0)) rfl) rfl rfl).trans ?_
  refine (wc_getR (n' := 72) (d := 1) rfl (zcode_of mc_70 (r := (.getfield 119, 8, 4, 0)) rfl) rfl hC le_8_4 rfl rfl rfl h1).trans ?_
  refine (wp_s (n := 73) (zcode_of mc_70 (r := (.iload_n 3, 0, 0, 0)) rfl) rfl rfl).trans ?_
  refine (wc_ald (n' := 74) rfl (zcode_of mc_70 (r := (.aaload, 0, 0, 0)) rfl) hC la_6 rfl rfl rfl rfl rfl (cs_T hC le_8_4 h1)).trans (and_congr_right fun h2 => ?_)
  exact wp_call (q := ([.ref ((s0 + 1) + 2 + 2 * Int32.toNatClampNeg x3)], [])) (zcode_of mc_70 (r := (.invokevirtual 123, 15, 0, 0)) rfl) rfl (zCa_V (Nat.le_of_ble_eq_true rfl) rfl (zIs_of (cs_A hC la_6 (cs_T hC le_8_4 h1) h2))) ⟨Nat.le_of_ble_eq_true rfl, Nat.le_of_ble_eq_true rfl⟩
theorem b70_77 {σ : zSt} {P : Option Value → zSt → Prop} {a0 a1 a4 a6 : Nat} {x2 x3 x5 s0 : Int32} :
    wp 70 77 [some (.ref a0), some (.ref a1), some (.int x2), some (.int x3), some (.ref a4), some (.int x5), some (.ref a6)] [.int s0] σ P ↔ (if ¬ s0 = 0 then wp 70 100 [some (.ref a0), some (.ref a1), some (.int x2), some (.int x3), some (.ref a4), some (.int x5), some (.ref a6)] [] σ P else wp 70 80 [some (.ref a0), some (.ref a1), some (.int x2), some (.int x3), some (.ref a4), some (.int x5), some (.ref a6)] [] σ P) := by
  exact wp_jump (off := 23) (t := 100) (zcode_of mc_70 (r := (.ifCond .ne 23, 0, 0, 0)) rfl) rfl rfl (by decide)
theorem b70_80 {σ : zSt} {P : Option Value → zSt → Prop} (hC : CShape σ) {a0 a1 a4 a6 : Nat} {x2 x3 x5 : Int32} :
    wp 70 80 [some (.ref a0), some (.ref a1), some (.int x2), some (.int x3), some (.ref a4), some (.int x5), some (.ref a6)] [] σ P ↔ (zIs σ a0 9 ∧ (zIs σ a6 8 ∧ wpM 16 [.ref (a0 + 1), .int (96 + (zfi σ 8 2 a6))] σ (fun r τ => wp 70 95 [some (.ref a0), some (.ref a1), some (.int x2), some (.int x3), some (.ref a4), some (.int x5), some (.ref a6)] (r.toList ++ []) τ P))) := by
  refine (wp_s (n := 81) (zcode_of mc_70 (r := (.aload_n 0, 0, 0, 0)) rfl) rfl rfl).trans ?_
  refine (wc_is (zcode_of mc_70 (r := (.getfield 12, 9, 0, 0)) rfl)).trans (and_congr_right fun h1 => ?_)
  refine (wc_getR (n' := 84) (d := 1) rfl (zcode_of mc_70 (r := (.getfield 12, 9, 0, 0)) rfl) rfl hC le_9_0 rfl rfl rfl h1).trans ?_
  refine (wp_bp (n' := 86) rfl (zcode_of mc_70 (r := (.bipush 96, 0, 0, 0)) rfl) cb_96).trans ?_
  refine (wp_s (n := 88) (zcode_of mc_70 (r := (.aload 6, 0, 0, 0)) rfl) rfl rfl).trans ?_
  refine (wc_is (zcode_of mc_70 (r := (.getfield 130, 8, 2, 0)) rfl)).trans (and_congr_right fun h2 => ?_)
  refine (wc_getI (n' := 91) rfl (zcode_of mc_70 (r := (.getfield 130, 8, 2, 0)) rfl) rfl h2).trans ?_
  refine (wp_s (n := 92) (zcode_of mc_70 (r := (.iadd, 0, 0, 0)) rfl) rfl rfl).trans ?_
  exact wp_call (q := ([.ref (a0 + 1), .int (96 + (zfi σ 8 2 a6))], [])) (zcode_of mc_70 (r := (.invokevirtual 64, 16, 0, 1)) rfl) rfl (zCa_V (Nat.le_of_ble_eq_true rfl) rfl (zIs_of (cs_T hC le_9_0 h1))) ⟨Nat.le_of_ble_eq_true rfl, Nat.le_of_ble_eq_true rfl⟩
theorem b70_95 {σ : zSt} {P : Option Value → zSt → Prop} {a0 a1 a4 a6 : Nat} {x2 x3 x5 s0 : Int32} :
    wp 70 95 [some (.ref a0), some (.ref a1), some (.int x2), some (.int x3), some (.ref a4), some (.int x5), some (.ref a6)] [.int s0] σ P ↔ (if ¬ s0 = 0 then wp 70 100 [some (.ref a0), some (.ref a1), some (.int x2), some (.int x3), some (.ref a4), some (.int x5), some (.ref a6)] [] σ P else wp 70 98 [some (.ref a0), some (.ref a1), some (.int x2), some (.int x3), some (.ref a4), some (.int x5), some (.ref a6)] [] σ P) := by
  exact wp_jump (off := 5) (t := 100) (zcode_of mc_70 (r := (.ifCond .ne 5, 0, 0, 0)) rfl) rfl rfl (by decide)
theorem b70_98 {σ : zSt} {P : Option Value → zSt → Prop} {a0 a1 a4 a6 : Nat} {x2 x3 x5 : Int32} :
    wp 70 98 [some (.ref a0), some (.ref a1), some (.int x2), some (.int x3), some (.ref a4), some (.int x5), some (.ref a6)] [] σ P ↔ P (some (.int 2)) σ := by
  refine (wp_ic (n' := 99) rfl (zcode_of mc_70 (r := (.iconst 2, 0, 0, 0)) rfl) ci_2).trans ?_
  exact wp_retI (zcode_of mc_70 (r := (.ireturn, 0, 0, 0)) rfl) rfl
theorem b70_100 {σ : zSt} {P : Option Value → zSt → Prop} {a0 a1 a4 a6 : Nat} {x2 x3 x5 : Int32} :
    wp 70 100 [some (.ref a0), some (.ref a1), some (.int x2), some (.int x3), some (.ref a4), some (.int x5), some (.ref a6)] [] σ P ↔ wp 70 39 [some (.ref a0), some (.ref a1), some (.int x2), some (.int x3), some (.ref a4), some (.int (x5 + 1)), some (.ref a6)] [] σ P := by
  refine (wp_inc (n' := 103) rfl (zcode_of mc_70 (r := (.iinc 5 1, 0, 0, 0)) rfl) rfl rfl ci_1).trans ?_
  exact wp_goto (off := (-64)) (t := 39) (zcode_of mc_70 (r := (.goto (-64), 0, 0, 0)) rfl) (by decide)
theorem b70_106 {σ : zSt} {P : Option Value → zSt → Prop} {a0 a1 a4 : Nat} {x2 x3 x5 : Int32} {u6 : Option Value} :
    wp 70 106 [some (.ref a0), some (.ref a1), some (.int x2), some (.int x3), some (.ref a4), some (.int x5), u6] [] σ P ↔ P (some (.int 0)) σ := by
  refine (wp_ic (n' := 107) rfl (zcode_of mc_70 (r := (.iconst 0, 0, 0, 0)) rfl) ci_0).trans ?_
  exact wp_retI (zcode_of mc_70 (r := (.ireturn, 0, 0, 0)) rfl) rfl
theorem mc_71 : mCode 71 = zc_71 := rfl
theorem b71 {σ : zSt} {P : Option Value → zSt → Prop} {a0 a1 : Nat} {x2 : Int32} :
    wpM 71 [.ref a0, .ref a1, .int x2] σ P ↔ (zIs σ a1 7 ∧ (if x2 < (zfi σ 7 1 a1) then wp 71 10 [some (.ref a0), some (.ref a1), some (.int x2)] [] σ P else wp 71 8 [some (.ref a0), some (.ref a1), some (.int x2)] [] σ P)) := by
  show wp 71 0 [some (.ref a0), some (.ref a1), some (.int x2)] [] σ P ↔ _
  refine (wp_s (n := 1) (zcode_of mc_71 (r := (.iload_n 2, 0, 0, 0)) rfl) rfl rfl).trans ?_
  refine (wp_s (n := 2) (zcode_of mc_71 (r := (.aload_n 1, 0, 0, 0)) rfl) rfl rfl).trans ?_
  refine (wc_is (zcode_of mc_71 (r := (.getfield 133, 7, 1, 0)) rfl)).trans (and_congr_right fun h1 => ?_)
  refine (wc_getI (n' := 5) rfl (zcode_of mc_71 (r := (.getfield 133, 7, 1, 0)) rfl) rfl h1).trans ?_
  exact wp_jump (off := 5) (t := 10) (zcode_of mc_71 (r := (.if_icmp .lt 5, 0, 0, 0)) rfl) rfl rfl (by decide)
theorem b71_8 {σ : zSt} {P : Option Value → zSt → Prop} {a0 a1 : Nat} {x2 : Int32} :
    wp 71 8 [some (.ref a0), some (.ref a1), some (.int x2)] [] σ P ↔ P (some (.int 3)) σ := by
  refine (wp_ic (n' := 9) rfl (zcode_of mc_71 (r := (.iconst 3, 0, 0, 0)) rfl) ci_3).trans ?_
  exact wp_retI (zcode_of mc_71 (r := (.ireturn, 0, 0, 0)) rfl) rfl
theorem b71_10 {σ : zSt} {P : Option Value → zSt → Prop} (hC : CShape σ) {a0 a1 : Nat} {x2 : Int32} :
    wp 71 10 [some (.ref a0), some (.ref a1), some (.int x2)] [] σ P ↔ (zIs σ a1 7 ∧ (zIn x2 3 ∧ (zIs σ a0 9 ∧ wpM 18 [.ref ((a1 + 1) + 1 + 2 * Int32.toNatClampNeg x2), .ref (a0 + 1)] σ (fun r τ => wp 71 23 [some (.ref a0), some (.ref a1), some (.int x2)] (r.toList ++ []) τ P)))) := by
  refine (wp_s (n := 11) (zcode_of mc_71 (r := (.aload_n 1, 0, 0, 0)) rfl) rfl rfl).trans ?_
  refine (wc_is (zcode_of mc_71 (r := (.getfield 135, 7, 0, 0)) rfl)).trans (and_congr_right fun h1 => ?_)
  refine (wc_getR (n' := 14) (d := 1) rfl (zcode_of mc_71 (r := (.getfield 135, 7, 0, 0)) rfl) rfl hC le_7_0 rfl rfl rfl h1).trans ?_
  refine (wp_s (n := 15) (zcode_of mc_71 (r := (.iload_n 2, 0, 0, 0)) rfl) rfl rfl).trans ?_
  refine (wc_ald (n' := 16) rfl (zcode_of mc_71 (r := (.aaload, 0, 0, 0)) rfl) hC la_7 rfl rfl rfl rfl rfl (cs_T hC le_7_0 h1)).trans (and_congr_right fun h2 => ?_)
  refine (wp_s (n := 17) (zcode_of mc_71 (r := (.aload_n 0, 0, 0, 0)) rfl) rfl rfl).trans ?_
  refine (wc_is (zcode_of mc_71 (r := (.getfield 12, 9, 0, 0)) rfl)).trans (and_congr_right fun h3 => ?_)
  refine (wc_getR (n' := 20) (d := 1) rfl (zcode_of mc_71 (r := (.getfield 12, 9, 0, 0)) rfl) rfl hC le_9_0 rfl rfl rfl h3).trans ?_
  exact wp_call (q := ([.ref ((a1 + 1) + 1 + 2 * Int32.toNatClampNeg x2), .ref (a0 + 1)], [])) (zcode_of mc_71 (r := (.invokevirtual 136, 18, 0, 1)) rfl) rfl (zCa_V (Nat.le_of_ble_eq_true rfl) rfl (zIs_of (cs_A hC la_7 (cs_T hC le_7_0 h1) h2))) ⟨Nat.le_of_ble_eq_true rfl, Nat.le_of_ble_eq_true rfl⟩
theorem b71_23 {σ : zSt} {P : Option Value → zSt → Prop} (hC : CShape σ) {a0 a1 : Nat} {x2 : Int32} :
    wp 71 23 [some (.ref a0), some (.ref a1), some (.int x2)] [] σ P ↔ (zIs σ a0 9 ∧ P (some (.int 0)) (sfi σ 2 1 (a0 + 1) 0)) := by
  refine (wp_s (n := 24) (zcode_of mc_71 (r := (.aload_n 0, 0, 0, 0)) rfl) rfl rfl).trans ?_
  refine (wc_is (zcode_of mc_71 (r := (.getfield 12, 9, 0, 0)) rfl)).trans (and_congr_right fun h1 => ?_)
  refine (wc_getR (n' := 27) (d := 1) rfl (zcode_of mc_71 (r := (.getfield 12, 9, 0, 0)) rfl) rfl hC le_9_0 rfl rfl rfl h1).trans ?_
  refine (wp_ic (n' := 28) rfl (zcode_of mc_71 (r := (.iconst 0, 0, 0, 0)) rfl) ci_0).trans ?_
  refine (wc_putI (n' := 31) rfl (zcode_of mc_71 (r := (.putfield 40, 2, 1, 0)) rfl) rfl (zIs_of (cs_T hC le_9_0 h1))).trans ?_
  refine (wp_ic (n' := 32) rfl (zcode_of mc_71 (r := (.iconst 0, 0, 0, 0)) rfl) ci_0).trans ?_
  exact wp_retI (zcode_of mc_71 (r := (.ireturn, 0, 0, 0)) rfl) rfl
theorem mc_72 : mCode 72 = zc_72 := rfl
theorem b72 {σ : zSt} {P : Option Value → zSt → Prop} (hC : CShape σ) {a0 a1 : Nat} {x2 x3 : Int32} :
    wpM 72 [.ref a0, .ref a1, .int x2, .int x3] σ P ↔ (zIs σ a1 0 ∧ wpM 187 [.ref (a1 + 1)] σ (fun r τ => wp 72 8 [some (.ref a0), some (.ref a1), some (.int x2), some (.int x3), none] (r.toList ++ [.int x2]) τ P)) := by
  show wp 72 0 [some (.ref a0), some (.ref a1), some (.int x2), some (.int x3), none] [] σ P ↔ _
  refine (wp_s (n := 1) (zcode_of mc_72 (r := (.iload_n 2, 0, 0, 0)) rfl) rfl rfl).trans ?_
  refine (wp_s (n := 2) (zcode_of mc_72 (r := (.aload_n 1, 0, 0, 0)) rfl) rfl rfl).trans ?_
  refine (wc_is (zcode_of mc_72 (r := (.getfield 107, 0, 0, 0)) rfl)).trans (and_congr_right fun h1 => ?_)
  refine (wc_getR (n' := 5) (d := 1) rfl (zcode_of mc_72 (r := (.getfield 107, 0, 0, 0)) rfl) rfl hC le_0_0 rfl rfl rfl h1).trans ?_
  exact wp_call (q := ([.ref (a1 + 1)], [.int x2])) (zcode_of mc_72 (r := (.invokevirtual 28, 187, 0, 0)) rfl) rfl (zCa_V (Nat.le_of_ble_eq_true rfl) rfl (zIs_of (cs_T hC le_0_0 h1))) ⟨Nat.le_of_ble_eq_true rfl, Nat.le_of_ble_eq_true rfl⟩
theorem b72_8 {σ : zSt} {P : Option Value → zSt → Prop} {a0 a1 : Nat} {x2 x3 s0 s1 : Int32} {u4 : Option Value} :
    wp 72 8 [some (.ref a0), some (.ref a1), some (.int x2), some (.int x3), u4] [.int s0, .int s1] σ P ↔ (if s1 < s0 then wp 72 13 [some (.ref a0), some (.ref a1), some (.int x2), some (.int x3), u4] [] σ P else wp 72 11 [some (.ref a0), some (.ref a1), some (.int x2), some (.int x3), u4] [] σ P) := by
  exact wp_jump (off := 5) (t := 13) (zcode_of mc_72 (r := (.if_icmp .lt 5, 0, 0, 0)) rfl) rfl rfl (by decide)
theorem b72_11 {σ : zSt} {P : Option Value → zSt → Prop} {a0 a1 : Nat} {x2 x3 : Int32} {u4 : Option Value} :
    wp 72 11 [some (.ref a0), some (.ref a1), some (.int x2), some (.int x3), u4] [] σ P ↔ P (some (.int 3)) σ := by
  refine (wp_ic (n' := 12) rfl (zcode_of mc_72 (r := (.iconst 3, 0, 0, 0)) rfl) ci_3).trans ?_
  exact wp_retI (zcode_of mc_72 (r := (.ireturn, 0, 0, 0)) rfl) rfl
theorem b72_13 {σ : zSt} {P : Option Value → zSt → Prop} (hC : CShape σ) {a0 a1 : Nat} {x2 x3 : Int32} {u4 : Option Value} :
    wp 72 13 [some (.ref a0), some (.ref a1), some (.int x2), some (.int x3), u4] [] σ P ↔ (zIs σ a1 0 ∧ wpM 190 [.ref (a1 + 1), .int x2] σ (fun r τ => wp 72 21 [some (.ref a0), some (.ref a1), some (.int x2), some (.int x3), u4] (r.toList ++ []) τ P)) := by
  refine (wp_s (n := 14) (zcode_of mc_72 (r := (.aload_n 1, 0, 0, 0)) rfl) rfl rfl).trans ?_
  refine (wc_is (zcode_of mc_72 (r := (.getfield 107, 0, 0, 0)) rfl)).trans (and_congr_right fun h1 => ?_)
  refine (wc_getR (n' := 17) (d := 1) rfl (zcode_of mc_72 (r := (.getfield 107, 0, 0, 0)) rfl) rfl hC le_0_0 rfl rfl rfl h1).trans ?_
  refine (wp_s (n := 18) (zcode_of mc_72 (r := (.iload_n 2, 0, 0, 0)) rfl) rfl rfl).trans ?_
  exact wp_call (q := ([.ref (a1 + 1), .int x2], [])) (zcode_of mc_72 (r := (.invokevirtual 110, 190, 0, 1)) rfl) rfl (zCa_V (Nat.le_of_ble_eq_true rfl) rfl (zIs_of (cs_T hC le_0_0 h1))) ⟨Nat.le_of_ble_eq_true rfl, Nat.le_of_ble_eq_true rfl⟩
theorem b72_21 {σ : zSt} {P : Option Value → zSt → Prop} {a0 a1 s0 : Nat} {x2 x3 : Int32} {u4 : Option Value} :
    wp 72 21 [some (.ref a0), some (.ref a1), some (.int x2), some (.int x3), u4] [.ref s0] σ P ↔ (zIs σ s0 8 ∧ (if (zfi σ 8 3 s0) = 0 then wp 72 36 [some (.ref a0), some (.ref a1), some (.int x2), some (.int x3), some (.ref s0)] [] σ P else wp 72 34 [some (.ref a0), some (.ref a1), some (.int x2), some (.int x3), some (.ref s0)] [] σ P)) := by
  refine (wc_chk (n' := 24) rfl (zcode_of mc_72 (r := (.checkcast 114, 8, 0, 0)) rfl)).trans (and_congr_right fun h1 => ?_)
  refine (wp_s (n := 26) (zcode_of mc_72 (r := (.astore 4, 0, 0, 0)) rfl) rfl rfl).trans ?_
  refine (wp_s (n := 28) (zcode_of mc_72 (r := (.aload 4, 0, 0, 0)) rfl) rfl rfl).trans ?_
  refine (wc_getI (n' := 31) rfl (zcode_of mc_72 (r := (.getfield 116, 8, 3, 0)) rfl) rfl h1).trans ?_
  exact wp_jump (off := 5) (t := 36) (zcode_of mc_72 (r := (.ifCond .eq 5, 0, 0, 0)) rfl) rfl rfl (by decide)
theorem b72_34 {σ : zSt} {P : Option Value → zSt → Prop} {a0 a1 a4 : Nat} {x2 x3 : Int32} :
    wp 72 34 [some (.ref a0), some (.ref a1), some (.int x2), some (.int x3), some (.ref a4)] [] σ P ↔ P (some (.int 4)) σ := by
  refine (wp_ic (n' := 35) rfl (zcode_of mc_72 (r := (.iconst 4, 0, 0, 0)) rfl) ci_4).trans ?_
  exact wp_retI (zcode_of mc_72 (r := (.ireturn, 0, 0, 0)) rfl) rfl
theorem b72_36 {σ : zSt} {P : Option Value → zSt → Prop} (hC : CShape σ) {a0 a1 a4 : Nat} {x2 x3 : Int32} :
    wp 72 36 [some (.ref a0), some (.ref a1), some (.int x2), some (.int x3), some (.ref a4)] [] σ P ↔ (zIs σ a4 8 ∧ (zIn x3 2 ∧ wpM 15 [.ref ((a4 + 1) + 2 + 2 * Int32.toNatClampNeg x3)] σ (fun r τ => wp 72 47 [some (.ref a0), some (.ref a1), some (.int x2), some (.int x3), some (.ref a4)] (r.toList ++ [.ref a0]) τ P))) := by
  refine (wp_s (n := 37) (zcode_of mc_72 (r := (.aload_n 0, 0, 0, 0)) rfl) rfl rfl).trans ?_
  refine (wp_s (n := 39) (zcode_of mc_72 (r := (.aload 4, 0, 0, 0)) rfl) rfl rfl).trans ?_
  refine (wc_is (zcode_of mc_72 (r := (.getfield 119, 8, 4, 0)) rfl)).trans (and_congr_right fun h1 => ?_)
  refine (wc_getR (n' := 42) (d := 1) rfl (zcode_of mc_72 (r := (.getfield 119, 8, 4, 0)) rfl) rfl hC le_8_4 rfl rfl rfl h1).trans ?_
  refine (wp_s (n := 43) (zcode_of mc_72 (r := (.iload_n 3, 0, 0, 0)) rfl) rfl rfl).trans ?_
  refine (wc_ald (n' := 44) rfl (zcode_of mc_72 (r := (.aaload, 0, 0, 0)) rfl) hC la_6 rfl rfl rfl rfl rfl (cs_T hC le_8_4 h1)).trans (and_congr_right fun h2 => ?_)
  exact wp_call (q := ([.ref ((a4 + 1) + 2 + 2 * Int32.toNatClampNeg x3)], [.ref a0])) (zcode_of mc_72 (r := (.invokevirtual 123, 15, 0, 0)) rfl) rfl (zCa_V (Nat.le_of_ble_eq_true rfl) rfl (zIs_of (cs_A hC la_6 (cs_T hC le_8_4 h1) h2))) ⟨Nat.le_of_ble_eq_true rfl, Nat.le_of_ble_eq_true rfl⟩
theorem b72_47 {σ : zSt} {P : Option Value → zSt → Prop} {a0 a1 a4 s1 : Nat} {x2 x3 s0 : Int32} :
    wp 72 47 [some (.ref a0), some (.ref a1), some (.int x2), some (.int x3), some (.ref a4)] [.int s0, .ref s1] σ P ↔ (if ¬ s0 = 0 then wp 72 54 [some (.ref a0), some (.ref a1), some (.int x2), some (.int x3), some (.ref a4)] [.ref s1] σ P else wp 72 50 [some (.ref a0), some (.ref a1), some (.int x2), some (.int x3), some (.ref a4)] [.ref s1] σ P) := by
  exact wp_jump (off := 7) (t := 54) (zcode_of mc_72 (r := (.ifCond .ne 7, 0, 0, 0)) rfl) rfl rfl (by decide)
theorem b72_50 {σ : zSt} {P : Option Value → zSt → Prop} {a0 a1 a4 s0 : Nat} {x2 x3 : Int32} :
    wp 72 50 [some (.ref a0), some (.ref a1), some (.int x2), some (.int x3), some (.ref a4)] [.ref s0] σ P ↔ wp 72 55 [some (.ref a0), some (.ref a1), some (.int x2), some (.int x3), some (.ref a4)] [.int 1, .ref s0] σ P := by
  refine (wp_ic (n' := 51) rfl (zcode_of mc_72 (r := (.iconst 1, 0, 0, 0)) rfl) ci_1).trans ?_
  exact wp_goto (off := 4) (t := 55) (zcode_of mc_72 (r := (.goto 4, 0, 0, 0)) rfl) (by decide)
theorem b72_54 {σ : zSt} {P : Option Value → zSt → Prop} {a0 a1 a4 s0 : Nat} {x2 x3 : Int32} :
    wp 72 54 [some (.ref a0), some (.ref a1), some (.int x2), some (.int x3), some (.ref a4)] [.ref s0] σ P ↔ wp 72 55 [some (.ref a0), some (.ref a1), some (.int x2), some (.int x3), some (.ref a4)] [.int 0, .ref s0] σ P := by
  refine (wp_ic (n' := 55) rfl (zcode_of mc_72 (r := (.iconst 0, 0, 0, 0)) rfl) ci_0).trans ?_
  exact Iff.rfl
theorem b72_55 {σ : zSt} {P : Option Value → zSt → Prop} {a0 a1 a4 s1 : Nat} {x2 x3 s0 : Int32} :
    wp 72 55 [some (.ref a0), some (.ref a1), some (.int x2), some (.int x3), some (.ref a4)] [.int s0, .ref s1] σ P ↔ (zIs σ s1 9 ∧ (((s0 : Int32) = 0 ∨ (s0 : Int32) = 1) ∧ P (some (.int 0)) (sfi σ 9 1 s1 s0))) := by
  refine (wc_isP (zcode_of mc_72 (r := (.putfield 18, 9, 1, 0)) rfl)).trans (and_congr_right fun h1 => ?_)
  refine (wc_putZ (n' := 58) rfl (zcode_of mc_72 (r := (.putfield 18, 9, 1, 0)) rfl) rfl h1).trans (and_congr_right fun h2 => ?_)
  refine (wp_ic (n' := 59) rfl (zcode_of mc_72 (r := (.iconst 0, 0, 0, 0)) rfl) ci_0).trans ?_
  exact wp_retI (zcode_of mc_72 (r := (.ireturn, 0, 0, 0)) rfl) rfl
theorem mc_73 : mCode 73 = zc_73 := rfl
theorem b73 {σ : zSt} {P : Option Value → zSt → Prop} {a0 : Nat} :
    wpM 73 [.ref a0] σ P ↔ wp 73 8 [some (.ref a0)] [.ref (znx σ), .ref a0] (zNew σ 13) P := by
  show wp 73 0 [some (.ref a0)] [] σ P ↔ _
  refine (wp_s (n := 1) (zcode_of mc_73 (r := (.aload_n 0, 0, 0, 0)) rfl) rfl rfl).trans ?_
  refine (wc_oi (n' := 4) rfl (zcode_of mc_73 (r := (.invokespecial 3, 0, 5, 0)) rfl) (Nat.le_of_ble_eq_true rfl)).trans ?_
  refine (wp_s (n := 5) (zcode_of mc_73 (r := (.aload_n 0, 0, 0, 0)) rfl) rfl rfl).trans ?_
  refine (wc_new (n' := 8) rfl (zcode_of mc_73 (r := (.new 9, 13, 0, 0)) rfl)).trans ?_
  exact Iff.rfl
theorem b73_8 {σ : zSt} {P : Option Value → zSt → Prop} {a0 s0 s1 : Nat} :
    wp 73 8 [some (.ref a0)] [.ref s0, .ref s1] σ P ↔ wpM 184 [.ref s0] σ (fun r τ => wp 73 12 [some (.ref a0)] (r.toList ++ [.ref s0, .ref s1]) τ P) := by
  refine (wp_s (n := 9) (zcode_of mc_73 (r := (.dup, 0, 0, 0)) rfl) rfl rfl).trans ?_
  exact wp_call (q := ([.ref s0], [.ref s0, .ref s1])) (zcode_of mc_73 (r := (.invokespecial 11, 184, 2, 0)) rfl) rfl (zCa_I (Nat.le_of_ble_eq_true rfl) rfl (Or.inl rfl)) ⟨Nat.le_of_ble_eq_true rfl, Nat.le_of_ble_eq_true rfl⟩
theorem b73_12 {σ : zSt} {P : Option Value → zSt → Prop} {a0 s0 s1 : Nat} :
    wp 73 12 [some (.ref a0)] [.ref s0, .ref s1] σ P ↔ (zIs σ s1 10 ∧ (zIs σ a0 10 ∧ wpM 74 [.ref a0] (sfr σ 10 0 s1 (some s0)) (fun r τ => wp 73 19 [some (.ref a0)] (r.toList ++ []) τ P))) := by
  refine (wc_isP (zcode_of mc_73 (r := (.putfield 12, 10, 0, 0)) rfl)).trans (and_congr_right fun h1 => ?_)
  refine (wc_putR (n' := 15) rfl (zcode_of mc_73 (r := (.putfield 12, 10, 0, 0)) rfl) rfl h1).trans ?_
  refine (wp_s (n := 16) (zcode_of mc_73 (r := (.aload_n 0, 0, 0, 0)) rfl) rfl rfl).trans ?_
  refine (wc_isV (σ := sfr σ 10 0 s1 (some s0)) (cl := 10) (rest := []) (zcode_of mc_73 (r := (.invokevirtual 18, 74, 0, 0)) rfl) rfl rfl rfl).trans (and_congr_right fun h2 => ?_)
  exact wp_call (q := ([.ref a0], [])) (zcode_of mc_73 (r := (.invokevirtual 18, 74, 0, 0)) rfl) rfl (zCa_V (Nat.le_of_ble_eq_true rfl) rfl h2) ⟨Nat.le_of_ble_eq_true rfl, Nat.le_of_ble_eq_true rfl⟩
theorem b73_19 {σ : zSt} {P : Option Value → zSt → Prop} {a0 : Nat} :
    wp 73 19 [some (.ref a0)] [] σ P ↔ P none σ := by
  exact wp_retV (zcode_of mc_73 (r := (.return_, 0, 0, 0)) rfl) rfl
theorem mc_74 : mCode 74 = zc_74 := rfl
theorem b74 {σ : zSt} {P : Option Value → zSt → Prop} (hC : CShape σ) {a0 : Nat} :
    wpM 74 [.ref a0] σ P ↔ (zIs σ a0 10 ∧ wpM 196 [.ref (a0 + 1)] σ (fun r τ => wp 74 7 [some (.ref a0)] (r.toList ++ []) τ P)) := by
  show wp 74 0 [some (.ref a0)] [] σ P ↔ _
  refine (wp_s (n := 1) (zcode_of mc_74 (r := (.aload_n 0, 0, 0, 0)) rfl) rfl rfl).trans ?_
  refine (wc_is (zcode_of mc_74 (r := (.getfield 12, 10, 0, 0)) rfl)).trans (and_congr_right fun h1 => ?_)
  refine (wc_getR (n' := 4) (d := 1) rfl (zcode_of mc_74 (r := (.getfield 12, 10, 0, 0)) rfl) rfl hC le_10_0 rfl rfl rfl h1).trans ?_
  exact wp_call (q := ([.ref (a0 + 1)], [])) (zcode_of mc_74 (r := (.invokevirtual 21, 196, 0, 0)) rfl) rfl (zCa_V (Nat.le_of_ble_eq_true rfl) rfl (zIs_of (cs_T hC le_10_0 h1))) ⟨Nat.le_of_ble_eq_true rfl, Nat.le_of_ble_eq_true rfl⟩
theorem b74_7 {σ : zSt} {P : Option Value → zSt → Prop} (hC : CShape σ) {a0 : Nat} :
    wp 74 7 [some (.ref a0)] [] σ P ↔ (zIs σ a0 10 ∧ wp 74 14 [some (.ref a0)] [.ref (znx σ), .ref (a0 + 1)] (zNew σ 8) P) := by
  refine (wp_s (n := 8) (zcode_of mc_74 (r := (.aload_n 0, 0, 0, 0)) rfl) rfl rfl).trans ?_
  refine (wc_is (zcode_of mc_74 (r := (.getfield 12, 10, 0, 0)) rfl)).trans (and_congr_right fun h1 => ?_)
  refine (wc_getR (n' := 11) (d := 1) rfl (zcode_of mc_74 (r := (.getfield 12, 10, 0, 0)) rfl) rfl hC le_10_0 rfl rfl rfl h1).trans ?_
  refine (wc_new (n' := 14) rfl (zcode_of mc_74 (r := (.new 24, 8, 0, 0)) rfl)).trans ?_
  exact Iff.rfl
theorem b74_14 {σ : zSt} {P : Option Value → zSt → Prop} {a0 s0 s1 : Nat} :
    wp 74 14 [some (.ref a0)] [.ref s0, .ref s1] σ P ↔ wpM 60 [.ref s0, .int 0, .int (-1), .int 0, .int 1] σ (fun r τ => wp 74 22 [some (.ref a0)] (r.toList ++ [.ref s0, .ref s1]) τ P) := by
  refine (wp_s (n := 15) (zcode_of mc_74 (r := (.dup, 0, 0, 0)) rfl) rfl rfl).trans ?_
  refine (wp_ic (n' := 16) rfl (zcode_of mc_74 (r := (.iconst 0, 0, 0, 0)) rfl) ci_0).trans ?_
  refine (wp_ic (n' := 17) rfl (zcode_of mc_74 (r := (.iconst (-1), 0, 0, 0)) rfl) ci_m1).trans ?_
  refine (wp_ic (n' := 18) rfl (zcode_of mc_74 (r := (.iconst 0, 0, 0, 0)) rfl) ci_0).trans ?_
  refine (wp_ic (n' := 19) rfl (zcode_of mc_74 (r := (.iconst 1, 0, 0, 0)) rfl) ci_1).trans ?_
  exact wp_call (q := ([.ref s0, .int 0, .int (-1), .int 0, .int 1], [.ref s0, .ref s1])) (zcode_of mc_74 (r := (.invokespecial 26, 60, 2, 4)) rfl) rfl (zCa_I (Nat.le_of_ble_eq_true rfl) rfl (Or.inl rfl)) ⟨Nat.le_of_ble_eq_true rfl, Nat.le_of_ble_eq_true rfl⟩
theorem b74_22 {σ : zSt} {P : Option Value → zSt → Prop} {a0 s0 s1 : Nat} :
    wp 74 22 [some (.ref a0)] [.ref s0, .ref s1] σ P ↔ (zIs σ s1 13 ∧ wpM 192 [.ref s1, .ref s0] σ (fun r τ => wp 74 25 [some (.ref a0)] (r.toList ++ []) τ P)) := by
  refine (wc_isV (cl := 13) (rest := []) (zcode_of mc_74 (r := (.invokevirtual 29, 192, 0, 1)) rfl) rfl rfl rfl).trans (and_congr_right fun h1 => ?_)
  exact wp_call (q := ([.ref s1, .ref s0], [])) (zcode_of mc_74 (r := (.invokevirtual 29, 192, 0, 1)) rfl) rfl (zCa_V (Nat.le_of_ble_eq_true rfl) rfl h1) ⟨Nat.le_of_ble_eq_true rfl, Nat.le_of_ble_eq_true rfl⟩
theorem b74_25 {σ : zSt} {P : Option Value → zSt → Prop} {a0 : Nat} {s0 : Int32} :
    wp 74 25 [some (.ref a0)] [.int s0] σ P ↔ P none σ := by
  refine (wp_s (n := 26) (zcode_of mc_74 (r := (.pop, 0, 0, 0)) rfl) rfl rfl).trans ?_
  exact wp_retV (zcode_of mc_74 (r := (.return_, 0, 0, 0)) rfl) rfl
theorem mc_75 : mCode 75 = zc_75 := rfl
theorem b75 {σ : zSt} {P : Option Value → zSt → Prop} (hC : CShape σ) {a0 : Nat} :
    wpM 75 [.ref a0] σ P ↔ (zIs σ a0 10 ∧ wpM 187 [.ref (a0 + 1)] σ (fun r τ => wp 75 7 [some (.ref a0)] (r.toList ++ []) τ P)) := by
  show wp 75 0 [some (.ref a0)] [] σ P ↔ _
  refine (wp_s (n := 1) (zcode_of mc_75 (r := (.aload_n 0, 0, 0, 0)) rfl) rfl rfl).trans ?_
  refine (wc_is (zcode_of mc_75 (r := (.getfield 12, 10, 0, 0)) rfl)).trans (and_congr_right fun h1 => ?_)
  refine (wc_getR (n' := 4) (d := 1) rfl (zcode_of mc_75 (r := (.getfield 12, 10, 0, 0)) rfl) rfl hC le_10_0 rfl rfl rfl h1).trans ?_
  exact wp_call (q := ([.ref (a0 + 1)], [])) (zcode_of mc_75 (r := (.invokevirtual 33, 187, 0, 0)) rfl) rfl (zCa_V (Nat.le_of_ble_eq_true rfl) rfl (zIs_of (cs_T hC le_10_0 h1))) ⟨Nat.le_of_ble_eq_true rfl, Nat.le_of_ble_eq_true rfl⟩
theorem b75_7 {σ : zSt} {P : Option Value → zSt → Prop} {a0 : Nat} {s0 : Int32} :
    wp 75 7 [some (.ref a0)] [.int s0] σ P ↔ P (some (.int s0)) σ := by
  exact wp_retI (zcode_of mc_75 (r := (.ireturn, 0, 0, 0)) rfl) rfl
theorem mc_76 : mCode 76 = zc_76 := rfl
theorem b76 {σ : zSt} {P : Option Value → zSt → Prop} {a0 : Nat} {x1 : Int32} :
    wpM 76 [.ref a0, .int x1] σ P ↔ (if x1 < 0 then wp 76 19 [some (.ref a0), some (.int x1)] [] σ P else wp 76 4 [some (.ref a0), some (.int x1)] [] σ P) := by
  show wp 76 0 [some (.ref a0), some (.int x1)] [] σ P ↔ _
  refine (wp_s (n := 1) (zcode_of mc_76 (r := (.iload_n 1, 0, 0, 0)) rfl) rfl rfl).trans ?_
  exact wp_jump (off := 18) (t := 19) (zcode_of mc_76 (r := (.ifCond .lt 18, 0, 0, 0)) rfl) rfl rfl (by decide)
theorem b76_4 {σ : zSt} {P : Option Value → zSt → Prop} (hC : CShape σ) {a0 : Nat} {x1 : Int32} :
    wp 76 4 [some (.ref a0), some (.int x1)] [] σ P ↔ (zIs σ a0 10 ∧ wpM 187 [.ref (a0 + 1)] σ (fun r τ => wp 76 12 [some (.ref a0), some (.int x1)] (r.toList ++ [.int x1]) τ P)) := by
  refine (wp_s (n := 5) (zcode_of mc_76 (r := (.iload_n 1, 0, 0, 0)) rfl) rfl rfl).trans ?_
  refine (wp_s (n := 6) (zcode_of mc_76 (r := (.aload_n 0, 0, 0, 0)) rfl) rfl rfl).trans ?_
  refine (wc_is (zcode_of mc_76 (r := (.getfield 12, 10, 0, 0)) rfl)).trans (and_congr_right fun h1 => ?_)
  refine (wc_getR (n' := 9) (d := 1) rfl (zcode_of mc_76 (r := (.getfield 12, 10, 0, 0)) rfl) rfl hC le_10_0 rfl rfl rfl h1).trans ?_
  exact wp_call (q := ([.ref (a0 + 1)], [.int x1])) (zcode_of mc_76 (r := (.invokevirtual 33, 187, 0, 0)) rfl) rfl (zCa_V (Nat.le_of_ble_eq_true rfl) rfl (zIs_of (cs_T hC le_10_0 h1))) ⟨Nat.le_of_ble_eq_true rfl, Nat.le_of_ble_eq_true rfl⟩
theorem b76_12 {σ : zSt} {P : Option Value → zSt → Prop} {a0 : Nat} {x1 s0 s1 : Int32} :
    wp 76 12 [some (.ref a0), some (.int x1)] [.int s0, .int s1] σ P ↔ (if s0 ≤ s1 then wp 76 19 [some (.ref a0), some (.int x1)] [] σ P else wp 76 15 [some (.ref a0), some (.int x1)] [] σ P) := by
  exact wp_jump (off := 7) (t := 19) (zcode_of mc_76 (r := (.if_icmp .ge 7, 0, 0, 0)) rfl) rfl rfl (by decide)
theorem b76_15 {σ : zSt} {P : Option Value → zSt → Prop} {a0 : Nat} {x1 : Int32} :
    wp 76 15 [some (.ref a0), some (.int x1)] [] σ P ↔ wp 76 20 [some (.ref a0), some (.int x1)] [.int 1] σ P := by
  refine (wp_ic (n' := 16) rfl (zcode_of mc_76 (r := (.iconst 1, 0, 0, 0)) rfl) ci_1).trans ?_
  exact wp_goto (off := 4) (t := 20) (zcode_of mc_76 (r := (.goto 4, 0, 0, 0)) rfl) (by decide)
theorem b76_19 {σ : zSt} {P : Option Value → zSt → Prop} {a0 : Nat} {x1 : Int32} :
    wp 76 19 [some (.ref a0), some (.int x1)] [] σ P ↔ wp 76 20 [some (.ref a0), some (.int x1)] [.int 0] σ P := by
  refine (wp_ic (n' := 20) rfl (zcode_of mc_76 (r := (.iconst 0, 0, 0, 0)) rfl) ci_0).trans ?_
  exact Iff.rfl
theorem b76_20 {σ : zSt} {P : Option Value → zSt → Prop} {a0 : Nat} {x1 s0 : Int32} :
    wp 76 20 [some (.ref a0), some (.int x1)] [.int s0] σ P ↔ (((s0 : Int32) = 0 ∨ (s0 : Int32) = 1) ∧ P (some (.int s0)) σ) := by
  exact wp_retZ (zcode_of mc_76 (r := (.ireturn, 0, 0, 0)) rfl) rfl
theorem mc_77 : mCode 77 = zc_77 := rfl
theorem b77 {σ : zSt} {P : Option Value → zSt → Prop} (hC : CShape σ) {a0 : Nat} {x1 : Int32} :
    wpM 77 [.ref a0, .int x1] σ P ↔ (zIs σ a0 10 ∧ wpM 190 [.ref (a0 + 1), .int x1] σ (fun r τ => wp 77 8 [some (.ref a0), some (.int x1)] (r.toList ++ []) τ P)) := by
  show wp 77 0 [some (.ref a0), some (.int x1)] [] σ P ↔ _
  refine (wp_s (n := 1) (zcode_of mc_77 (r := (.aload_n 0, 0, 0, 0)) rfl) rfl rfl).trans ?_
  refine (wc_is (zcode_of mc_77 (r := (.getfield 12, 10, 0, 0)) rfl)).trans (and_congr_right fun h1 => ?_)
  refine (wc_getR (n' := 4) (d := 1) rfl (zcode_of mc_77 (r := (.getfield 12, 10, 0, 0)) rfl) rfl hC le_10_0 rfl rfl rfl h1).trans ?_
  refine (wp_s (n := 5) (zcode_of mc_77 (r := (.iload_n 1, 0, 0, 0)) rfl) rfl rfl).trans ?_
  exact wp_call (q := ([.ref (a0 + 1), .int x1], [])) (zcode_of mc_77 (r := (.invokevirtual 37, 190, 0, 1)) rfl) rfl (zCa_V (Nat.le_of_ble_eq_true rfl) rfl (zIs_of (cs_T hC le_10_0 h1))) ⟨Nat.le_of_ble_eq_true rfl, Nat.le_of_ble_eq_true rfl⟩
theorem b77_8 {σ : zSt} {P : Option Value → zSt → Prop} {a0 s0 : Nat} {x1 : Int32} :
    wp 77 8 [some (.ref a0), some (.int x1)] [.ref s0] σ P ↔ (zIs σ s0 8 ∧ P (some (.ref s0)) σ) := by
  refine (wc_chk (n' := 11) rfl (zcode_of mc_77 (r := (.checkcast 24, 8, 0, 0)) rfl)).trans (and_congr_right fun h1 => ?_)
  exact wp_retA (zcode_of mc_77 (r := (.areturn, 0, 0, 0)) rfl) rfl
theorem mc_78 : mCode 78 = zc_78 := rfl
theorem b78 {σ : zSt} {P : Option Value → zSt → Prop} {a0 : Nat} {x1 x2 : Int32} :
    wpM 78 [.ref a0, .int x1, .int x2] σ P ↔ wp 78 2 [some (.ref a0), some (.int x1), some (.int x2), some (.int 1)] [] σ P := by
  show wp 78 0 [some (.ref a0), some (.int x1), some (.int x2), none] [] σ P ↔ _
  refine (wp_ic (n' := 1) rfl (zcode_of mc_78 (r := (.iconst 1, 0, 0, 0)) rfl) ci_1).trans ?_
  refine (wp_s (n := 2) (zcode_of mc_78 (r := (.istore_n 3, 0, 0, 0)) rfl) rfl rfl).trans ?_
  exact Iff.rfl
theorem b78_2 {σ : zSt} {P : Option Value → zSt → Prop} (hC : CShape σ) {a0 : Nat} {x1 x2 x3 : Int32} :
    wp 78 2 [some (.ref a0), some (.int x1), some (.int x2), some (.int x3)] [] σ P ↔ (zIs σ a0 10 ∧ wpM 187 [.ref (a0 + 1)] σ (fun r τ => wp 78 10 [some (.ref a0), some (.int x1), some (.int x2), some (.int x3)] (r.toList ++ [.int x3]) τ P)) := by
  refine (wp_s (n := 3) (zcode_of mc_78 (r := (.iload_n 3, 0, 0, 0)) rfl) rfl rfl).trans ?_
  refine (wp_s (n := 4) (zcode_of mc_78 (r := (.aload_n 0, 0, 0, 0)) rfl) rfl rfl).trans ?_
  refine (wc_is (zcode_of mc_78 (r := (.getfield 12, 10, 0, 0)) rfl)).trans (and_congr_right fun h1 => ?_)
  refine (wc_getR (n' := 7) (d := 1) rfl (zcode_of mc_78 (r := (.getfield 12, 10, 0, 0)) rfl) rfl hC le_10_0 rfl rfl rfl h1).trans ?_
  exact wp_call (q := ([.ref (a0 + 1)], [.int x3])) (zcode_of mc_78 (r := (.invokevirtual 33, 187, 0, 0)) rfl) rfl (zCa_V (Nat.le_of_ble_eq_true rfl) rfl (zIs_of (cs_T hC le_10_0 h1))) ⟨Nat.le_of_ble_eq_true rfl, Nat.le_of_ble_eq_true rfl⟩
theorem b78_10 {σ : zSt} {P : Option Value → zSt → Prop} {a0 : Nat} {x1 x2 x3 s0 s1 : Int32} :
    wp 78 10 [some (.ref a0), some (.int x1), some (.int x2), some (.int x3)] [.int s0, .int s1] σ P ↔ (if s0 ≤ s1 then wp 78 57 [some (.ref a0), some (.int x1), some (.int x2), some (.int x3)] [] σ P else wp 78 13 [some (.ref a0), some (.int x1), some (.int x2), some (.int x3)] [] σ P) := by
  exact wp_jump (off := 47) (t := 57) (zcode_of mc_78 (r := (.if_icmp .ge 47, 0, 0, 0)) rfl) rfl rfl (by decide)
theorem b78_13 {σ : zSt} {P : Option Value → zSt → Prop} (hC : CShape σ) {a0 : Nat} {x1 x2 x3 : Int32} :
    wp 78 13 [some (.ref a0), some (.int x1), some (.int x2), some (.int x3)] [] σ P ↔ (zIs σ a0 10 ∧ wpM 190 [.ref (a0 + 1), .int x3] σ (fun r τ => wp 78 21 [some (.ref a0), some (.int x1), some (.int x2), some (.int x3)] (r.toList ++ []) τ P)) := by
  refine (wp_s (n := 14) (zcode_of mc_78 (r := (.aload_n 0, 0, 0, 0)) rfl) rfl rfl).trans ?_
  refine (wc_is (zcode_of mc_78 (r := (.getfield 12, 10, 0, 0)) rfl)).trans (and_congr_right fun h1 => ?_)
  refine (wc_getR (n' := 17) (d := 1) rfl (zcode_of mc_78 (r := (.getfield 12, 10, 0, 0)) rfl) rfl hC le_10_0 rfl rfl rfl h1).trans ?_
  refine (wp_s (n := 18) (zcode_of mc_78 (r := (.iload_n 3, 0, 0, 0)) rfl) rfl rfl).trans ?_
  exact wp_call (q := ([.ref (a0 + 1), .int x3], [])) (zcode_of mc_78 (r := (.invokevirtual 37, 190, 0, 1)) rfl) rfl (zCa_V (Nat.le_of_ble_eq_true rfl) rfl (zIs_of (cs_T hC le_10_0 h1))) ⟨Nat.le_of_ble_eq_true rfl, Nat.le_of_ble_eq_true rfl⟩
theorem b78_21 {σ : zSt} {P : Option Value → zSt → Prop} {a0 s0 : Nat} {x1 x2 x3 : Int32} :
    wp 78 21 [some (.ref a0), some (.int x1), some (.int x2), some (.int x3)] [.ref s0] σ P ↔ (zIs σ s0 8 ∧ (if ¬ (zfi σ 8 1 s0) = x1 then wp 78 51 [some (.ref a0), some (.int x1), some (.int x2), some (.int x3)] [] σ P else wp 78 31 [some (.ref a0), some (.int x1), some (.int x2), some (.int x3)] [] σ P)) := by
  refine (wc_chk (n' := 24) rfl (zcode_of mc_78 (r := (.checkcast 24, 8, 0, 0)) rfl)).trans (and_congr_right fun h1 => ?_)
  refine (wc_getI (n' := 27) rfl (zcode_of mc_78 (r := (.getfield 41, 8, 1, 0)) rfl) rfl h1).trans ?_
  refine (wp_s (n := 28) (zcode_of mc_78 (r := (.iload_n 1, 0, 0, 0)) rfl) rfl rfl).trans ?_
  exact wp_jump (off := 23) (t := 51) (zcode_of mc_78 (r := (.if_icmp .ne 23, 0, 0, 0)) rfl) rfl rfl (by decide)
theorem b78_31 {σ : zSt} {P : Option Value → zSt → Prop} (hC : CShape σ) {a0 : Nat} {x1 x2 x3 : Int32} :
    wp 78 31 [some (.ref a0), some (.int x1), some (.int x2), some (.int x3)] [] σ P ↔ (zIs σ a0 10 ∧ wpM 190 [.ref (a0 + 1), .int x3] σ (fun r τ => wp 78 39 [some (.ref a0), some (.int x1), some (.int x2), some (.int x3)] (r.toList ++ []) τ P)) := by
  refine (wp_s (n := 32) (zcode_of mc_78 (r := (.aload_n 0, 0, 0, 0)) rfl) rfl rfl).trans ?_
  refine (wc_is (zcode_of mc_78 (r := (.getfield 12, 10, 0, 0)) rfl)).trans (and_congr_right fun h1 => ?_)
  refine (wc_getR (n' := 35) (d := 1) rfl (zcode_of mc_78 (r := (.getfield 12, 10, 0, 0)) rfl) rfl hC le_10_0 rfl rfl rfl h1).trans ?_
  refine (wp_s (n := 36) (zcode_of mc_78 (r := (.iload_n 3, 0, 0, 0)) rfl) rfl rfl).trans ?_
  exact wp_call (q := ([.ref (a0 + 1), .int x3], [])) (zcode_of mc_78 (r := (.invokevirtual 37, 190, 0, 1)) rfl) rfl (zCa_V (Nat.le_of_ble_eq_true rfl) rfl (zIs_of (cs_T hC le_10_0 h1))) ⟨Nat.le_of_ble_eq_true rfl, Nat.le_of_ble_eq_true rfl⟩
theorem b78_39 {σ : zSt} {P : Option Value → zSt → Prop} {a0 s0 : Nat} {x1 x2 x3 : Int32} :
    wp 78 39 [some (.ref a0), some (.int x1), some (.int x2), some (.int x3)] [.ref s0] σ P ↔ (zIs σ s0 8 ∧ (if ¬ (zfi σ 8 2 s0) = x2 then wp 78 51 [some (.ref a0), some (.int x1), some (.int x2), some (.int x3)] [] σ P else wp 78 49 [some (.ref a0), some (.int x1), some (.int x2), some (.int x3)] [] σ P)) := by
  refine (wc_chk (n' := 42) rfl (zcode_of mc_78 (r := (.checkcast 24, 8, 0, 0)) rfl)).trans (and_congr_right fun h1 => ?_)
  refine (wc_getI (n' := 45) rfl (zcode_of mc_78 (r := (.getfield 45, 8, 2, 0)) rfl) rfl h1).trans ?_
  refine (wp_s (n := 46) (zcode_of mc_78 (r := (.iload_n 2, 0, 0, 0)) rfl) rfl rfl).trans ?_
  exact wp_jump (off := 5) (t := 51) (zcode_of mc_78 (r := (.if_icmp .ne 5, 0, 0, 0)) rfl) rfl rfl (by decide)
theorem b78_49 {σ : zSt} {P : Option Value → zSt → Prop} {a0 : Nat} {x1 x2 x3 : Int32} :
    wp 78 49 [some (.ref a0), some (.int x1), some (.int x2), some (.int x3)] [] σ P ↔ (((1 : Int32) = 0 ∨ (1 : Int32) = 1) ∧ P (some (.int 1)) σ) := by
  refine (wp_ic (n' := 50) rfl (zcode_of mc_78 (r := (.iconst 1, 0, 0, 0)) rfl) ci_1).trans ?_
  exact wp_retZ (zcode_of mc_78 (r := (.ireturn, 0, 0, 0)) rfl) rfl
theorem b78_51 {σ : zSt} {P : Option Value → zSt → Prop} {a0 : Nat} {x1 x2 x3 : Int32} :
    wp 78 51 [some (.ref a0), some (.int x1), some (.int x2), some (.int x3)] [] σ P ↔ wp 78 2 [some (.ref a0), some (.int x1), some (.int x2), some (.int (x3 + 1))] [] σ P := by
  refine (wp_inc (n' := 54) rfl (zcode_of mc_78 (r := (.iinc 3 1, 0, 0, 0)) rfl) rfl rfl ci_1).trans ?_
  exact wp_goto (off := (-52)) (t := 2) (zcode_of mc_78 (r := (.goto (-52), 0, 0, 0)) rfl) (by decide)
theorem b78_57 {σ : zSt} {P : Option Value → zSt → Prop} {a0 : Nat} {x1 x2 x3 : Int32} :
    wp 78 57 [some (.ref a0), some (.int x1), some (.int x2), some (.int x3)] [] σ P ↔ (((0 : Int32) = 0 ∨ (0 : Int32) = 1) ∧ P (some (.int 0)) σ) := by
  refine (wp_ic (n' := 58) rfl (zcode_of mc_78 (r := (.iconst 0, 0, 0, 0)) rfl) ci_0).trans ?_
  exact wp_retZ (zcode_of mc_78 (r := (.ireturn, 0, 0, 0)) rfl) rfl
theorem mc_79 : mCode 79 = zc_79 := rfl
theorem b79 {σ : zSt} {P : Option Value → zSt → Prop} {a0 : Nat} {x1 x2 x3 : Int32} :
    wpM 79 [.ref a0, .int x1, .int x2, .int x3] σ P ↔ wp 79 3 [some (.ref a0), some (.int x1), some (.int x2), some (.int x3), none] [.ref (znx σ)] (zNew σ 8) P := by
  show wp 79 0 [some (.ref a0), some (.int x1), some (.int x2), some (.int x3), none] [] σ P ↔ _
  refine (wc_new (n' := 3) rfl (zcode_of mc_79 (r := (.new 24, 8, 0, 0)) rfl)).trans ?_
  exact Iff.rfl
theorem b79_3 {σ : zSt} {P : Option Value → zSt → Prop} (hC : CShape σ) {a0 s0 : Nat} {x1 x2 x3 : Int32} {u4 : Option Value} :
    wp 79 3 [some (.ref a0), some (.int x1), some (.int x2), some (.int x3), u4] [.ref s0] σ P ↔ (zIs σ a0 10 ∧ wpM 187 [.ref (a0 + 1)] σ (fun r τ => wp 79 11 [some (.ref a0), some (.int x1), some (.int x2), some (.int x3), u4] (r.toList ++ [.ref s0, .ref s0]) τ P)) := by
  refine (wp_s (n := 4) (zcode_of mc_79 (r := (.dup, 0, 0, 0)) rfl) rfl rfl).trans ?_
  refine (wp_s (n := 5) (zcode_of mc_79 (r := (.aload_n 0, 0, 0, 0)) rfl) rfl rfl).trans ?_
  refine (wc_is (zcode_of mc_79 (r := (.getfield 12, 10, 0, 0)) rfl)).trans (and_congr_right fun h1 => ?_)
  refine (wc_getR (n' := 8) (d := 1) rfl (zcode_of mc_79 (r := (.getfield 12, 10, 0, 0)) rfl) rfl hC le_10_0 rfl rfl rfl h1).trans ?_
  exact wp_call (q := ([.ref (a0 + 1)], [.ref s0, .ref s0])) (zcode_of mc_79 (r := (.invokevirtual 33, 187, 0, 0)) rfl) rfl (zCa_V (Nat.le_of_ble_eq_true rfl) rfl (zIs_of (cs_T hC le_10_0 h1))) ⟨Nat.le_of_ble_eq_true rfl, Nat.le_of_ble_eq_true rfl⟩
theorem b79_11 {σ : zSt} {P : Option Value → zSt → Prop} {a0 s1 s2 : Nat} {x1 x2 x3 s0 : Int32} {u4 : Option Value} :
    wp 79 11 [some (.ref a0), some (.int x1), some (.int x2), some (.int x3), u4] [.int s0, .ref s1, .ref s2] σ P ↔ wpM 60 [.ref s1, .int s0, .int x1, .int x2, .int x3] σ (fun r τ => wp 79 17 [some (.ref a0), some (.int x1), some (.int x2), some (.int x3), u4] (r.toList ++ [.ref s2]) τ P) := by
  refine (wp_s (n := 12) (zcode_of mc_79 (r := (.iload_n 1, 0, 0, 0)) rfl) rfl rfl).trans ?_
  refine (wp_s (n := 13) (zcode_of mc_79 (r := (.iload_n 2, 0, 0, 0)) rfl) rfl rfl).trans ?_
  refine (wp_s (n := 14) (zcode_of mc_79 (r := (.iload_n 3, 0, 0, 0)) rfl) rfl rfl).trans ?_
  exact wp_call (q := ([.ref s1, .int s0, .int x1, .int x2, .int x3], [.ref s2])) (zcode_of mc_79 (r := (.invokespecial 26, 60, 2, 4)) rfl) rfl (zCa_I (Nat.le_of_ble_eq_true rfl) rfl (Or.inl rfl)) ⟨Nat.le_of_ble_eq_true rfl, Nat.le_of_ble_eq_true rfl⟩
theorem b79_17 {σ : zSt} {P : Option Value → zSt → Prop} (hC : CShape σ) {a0 s0 : Nat} {x1 x2 x3 : Int32} {u4 : Option Value} :
    wp 79 17 [some (.ref a0), some (.int x1), some (.int x2), some (.int x3), u4] [.ref s0] σ P ↔ (zIs σ a0 10 ∧ wpM 192 [.ref (a0 + 1), .ref s0] σ (fun r τ => wp 79 28 [some (.ref a0), some (.int x1), some (.int x2), some (.int x3), some (.ref s0)] (r.toList ++ []) τ P)) := by
  refine (wp_s (n := 19) (zcode_of mc_79 (r := (.astore 4, 0, 0, 0)) rfl) rfl rfl).trans ?_
  refine (wp_s (n := 20) (zcode_of mc_79 (r := (.aload_n 0, 0, 0, 0)) rfl) rfl rfl).trans ?_
  refine (wc_is (zcode_of mc_79 (r := (.getfield 12, 10, 0, 0)) rfl)).trans (and_congr_right fun h1 => ?_)
  refine (wc_getR (n' := 23) (d := 1) rfl (zcode_of mc_79 (r := (.getfield 12, 10, 0, 0)) rfl) rfl hC le_10_0 rfl rfl rfl h1).trans ?_
  refine (wp_s (n := 25) (zcode_of mc_79 (r := (.aload 4, 0, 0, 0)) rfl) rfl rfl).trans ?_
  exact wp_call (q := ([.ref (a0 + 1), .ref s0], [])) (zcode_of mc_79 (r := (.invokevirtual 29, 192, 0, 1)) rfl) rfl (zCa_V (Nat.le_of_ble_eq_true rfl) rfl (zIs_of (cs_T hC le_10_0 h1))) ⟨Nat.le_of_ble_eq_true rfl, Nat.le_of_ble_eq_true rfl⟩
theorem b79_28 {σ : zSt} {P : Option Value → zSt → Prop} {a0 a4 : Nat} {x1 x2 x3 s0 : Int32} :
    wp 79 28 [some (.ref a0), some (.int x1), some (.int x2), some (.int x3), some (.ref a4)] [.int s0] σ P ↔ (if ¬ x3 = 0 then wp 79 43 [some (.ref a0), some (.int x1), some (.int x2), some (.int x3), some (.ref a4)] [] σ P else wp 79 33 [some (.ref a0), some (.int x1), some (.int x2), some (.int x3), some (.ref a4)] [] σ P) := by
  refine (wp_s (n := 29) (zcode_of mc_79 (r := (.pop, 0, 0, 0)) rfl) rfl rfl).trans ?_
  refine (wp_s (n := 30) (zcode_of mc_79 (r := (.iload_n 3, 0, 0, 0)) rfl) rfl rfl).trans ?_
  exact wp_jump (off := 13) (t := 43) (zcode_of mc_79 (r := (.ifCond .ne 13, 0, 0, 0)) rfl) rfl rfl (by decide)
theorem b79_33 {σ : zSt} {P : Option Value → zSt → Prop} {a0 a4 : Nat} {x1 x2 x3 : Int32} :
    wp 79 33 [some (.ref a0), some (.int x1), some (.int x2), some (.int x3), some (.ref a4)] [] σ P ↔ (zIs σ a0 10 ∧ wpM 77 [.ref a0, .int x1] σ (fun r τ => wp 79 38 [some (.ref a0), some (.int x1), some (.int x2), some (.int x3), some (.ref a4)] (r.toList ++ []) τ P)) := by
  refine (wp_s (n := 34) (zcode_of mc_79 (r := (.aload_n 0, 0, 0, 0)) rfl) rfl rfl).trans ?_
  refine (wp_s (n := 35) (zcode_of mc_79 (r := (.iload_n 1, 0, 0, 0)) rfl) rfl rfl).trans ?_
  refine (wc_isV (cl := 10) (rest := []) (zcode_of mc_79 (r := (.invokevirtual 48, 77, 0, 1)) rfl) rfl rfl rfl).trans (and_congr_right fun h1 => ?_)
  exact wp_call (q := ([.ref a0, .int x1], [])) (zcode_of mc_79 (r := (.invokevirtual 48, 77, 0, 1)) rfl) rfl (zCa_V (Nat.le_of_ble_eq_true rfl) rfl h1) ⟨Nat.le_of_ble_eq_true rfl, Nat.le_of_ble_eq_true rfl⟩
theorem b79_38 {σ : zSt} {P : Option Value → zSt → Prop} {a0 a4 s0 : Nat} {x1 x2 x3 : Int32} :
    wp 79 38 [some (.ref a0), some (.int x1), some (.int x2), some (.int x3), some (.ref a4)] [.ref s0] σ P ↔ (zIs σ s0 8 ∧ wpM 61 [.ref s0, .ref a4] σ (fun r τ => wp 79 43 [some (.ref a0), some (.int x1), some (.int x2), some (.int x3), some (.ref a4)] (r.toList ++ []) τ P)) := by
  refine (wp_s (n := 40) (zcode_of mc_79 (r := (.aload 4, 0, 0, 0)) rfl) rfl rfl).trans ?_
  refine (wc_isV (cl := 8) (rest := []) (zcode_of mc_79 (r := (.invokevirtual 52, 61, 0, 1)) rfl) rfl rfl rfl).trans (and_congr_right fun h1 => ?_)
  exact wp_call (q := ([.ref s0, .ref a4], [])) (zcode_of mc_79 (r := (.invokevirtual 52, 61, 0, 1)) rfl) rfl (zCa_V (Nat.le_of_ble_eq_true rfl) rfl h1) ⟨Nat.le_of_ble_eq_true rfl, Nat.le_of_ble_eq_true rfl⟩
theorem b79_43 {σ : zSt} {P : Option Value → zSt → Prop} {a0 a4 : Nat} {x1 x2 x3 : Int32} :
    wp 79 43 [some (.ref a0), some (.int x1), some (.int x2), some (.int x3), some (.ref a4)] [] σ P ↔ (zIs σ a4 8 ∧ P (some (.int (zfi σ 8 0 a4))) σ) := by
  refine (wp_s (n := 45) (zcode_of mc_79 (r := (.aload 4, 0, 0, 0)) rfl) rfl rfl).trans ?_
  refine (wc_is (zcode_of mc_79 (r := (.getfield 56, 8, 0, 0)) rfl)).trans (and_congr_right fun h1 => ?_)
  refine (wc_getI (n' := 48) rfl (zcode_of mc_79 (r := (.getfield 56, 8, 0, 0)) rfl) rfl h1).trans ?_
  exact wp_retI (zcode_of mc_79 (r := (.ireturn, 0, 0, 0)) rfl) rfl
theorem mc_80 : mCode 80 = zc_80 := rfl
theorem b80 {σ : zSt} {P : Option Value → zSt → Prop} {a0 : Nat} {x1 x2 : Int32} :
    wpM 80 [.ref a0, .int x1, .int x2] σ P ↔ wp 80 5 [some (.ref a0), some (.int x1), some (.int x2), some (.int 0), some (.int 0), none] [] σ P := by
  show wp 80 0 [some (.ref a0), some (.int x1), some (.int x2), none, none, none] [] σ P ↔ _
  refine (wp_ic (n' := 1) rfl (zcode_of mc_80 (r := (.iconst 0, 0, 0, 0)) rfl) ci_0).trans ?_
  refine (wp_s (n := 2) (zcode_of mc_80 (r := (.istore_n 3, 0, 0, 0)) rfl) rfl rfl).trans ?_
  refine (wp_ic (n' := 3) rfl (zcode_of mc_80 (r := (.iconst 0, 0, 0, 0)) rfl) ci_0).trans ?_
  refine (wp_s (n := 5) (zcode_of mc_80 (r := (.istore 4, 0, 0, 0)) rfl) rfl rfl).trans ?_
  exact Iff.rfl
theorem b80_5 {σ : zSt} {P : Option Value → zSt → Prop} (hC : CShape σ) {a0 : Nat} {x1 x2 x3 x4 : Int32} {u5 : Option Value} :
    wp 80 5 [some (.ref a0), some (.int x1), some (.int x2), some (.int x3), some (.int x4), u5] [] σ P ↔ (zIs σ a0 10 ∧ wpM 187 [.ref (a0 + 1)] σ (fun r τ => wp 80 14 [some (.ref a0), some (.int x1), some (.int x2), some (.int x3), some (.int x4), u5] (r.toList ++ [.int x4]) τ P)) := by
  refine (wp_s (n := 7) (zcode_of mc_80 (r := (.iload 4, 0, 0, 0)) rfl) rfl rfl).trans ?_
  refine (wp_s (n := 8) (zcode_of mc_80 (r := (.aload_n 0, 0, 0, 0)) rfl) rfl rfl).trans ?_
  refine (wc_is (zcode_of mc_80 (r := (.getfield 12, 10, 0, 0)) rfl)).trans (and_congr_right fun h1 => ?_)
  refine (wc_getR (n' := 11) (d := 1) rfl (zcode_of mc_80 (r := (.getfield 12, 10, 0, 0)) rfl) rfl hC le_10_0 rfl rfl rfl h1).trans ?_
  exact wp_call (q := ([.ref (a0 + 1)], [.int x4])) (zcode_of mc_80 (r := (.invokevirtual 33, 187, 0, 0)) rfl) rfl (zCa_V (Nat.le_of_ble_eq_true rfl) rfl (zIs_of (cs_T hC le_10_0 h1))) ⟨Nat.le_of_ble_eq_true rfl, Nat.le_of_ble_eq_true rfl⟩
theorem b80_14 {σ : zSt} {P : Option Value → zSt → Prop} {a0 : Nat} {x1 x2 x3 x4 s0 s1 : Int32} {u5 : Option Value} :
    wp 80 14 [some (.ref a0), some (.int x1), some (.int x2), some (.int x3), some (.int x4), u5] [.int s0, .int s1] σ P ↔ (if s0 ≤ s1 then wp 80 89 [some (.ref a0), some (.int x1), some (.int x2), some (.int x3), some (.int x4), u5] [] σ P else wp 80 17 [some (.ref a0), some (.int x1), some (.int x2), some (.int x3), some (.int x4), u5] [] σ P) := by
  exact wp_jump (off := 75) (t := 89) (zcode_of mc_80 (r := (.if_icmp .ge 75, 0, 0, 0)) rfl) rfl rfl (by decide)
theorem b80_17 {σ : zSt} {P : Option Value → zSt → Prop} (hC : CShape σ) {a0 : Nat} {x1 x2 x3 x4 : Int32} {u5 : Option Value} :
    wp 80 17 [some (.ref a0), some (.int x1), some (.int x2), some (.int x3), some (.int x4), u5] [] σ P ↔ (zIs σ a0 10 ∧ wpM 190 [.ref (a0 + 1), .int x4] σ (fun r τ => wp 80 26 [some (.ref a0), some (.int x1), some (.int x2), some (.int x3), some (.int x4), u5] (r.toList ++ []) τ P)) := by
  refine (wp_s (n := 18) (zcode_of mc_80 (r := (.aload_n 0, 0, 0, 0)) rfl) rfl rfl).trans ?_
  refine (wc_is (zcode_of mc_80 (r := (.getfield 12, 10, 0, 0)) rfl)).trans (and_congr_right fun h1 => ?_)
  refine (wc_getR (n' := 21) (d := 1) rfl (zcode_of mc_80 (r := (.getfield 12, 10, 0, 0)) rfl) rfl hC le_10_0 rfl rfl rfl h1).trans ?_
  refine (wp_s (n := 23) (zcode_of mc_80 (r := (.iload 4, 0, 0, 0)) rfl) rfl rfl).trans ?_
  exact wp_call (q := ([.ref (a0 + 1), .int x4], [])) (zcode_of mc_80 (r := (.invokevirtual 37, 190, 0, 1)) rfl) rfl (zCa_V (Nat.le_of_ble_eq_true rfl) rfl (zIs_of (cs_T hC le_10_0 h1))) ⟨Nat.le_of_ble_eq_true rfl, Nat.le_of_ble_eq_true rfl⟩
theorem b80_26 {σ : zSt} {P : Option Value → zSt → Prop} {a0 s0 : Nat} {x1 x2 x3 x4 : Int32} {u5 : Option Value} :
    wp 80 26 [some (.ref a0), some (.int x1), some (.int x2), some (.int x3), some (.int x4), u5] [.ref s0] σ P ↔ (zIs σ s0 8 ∧ (if ¬ (zfi σ 8 6 s0) = (-1) then wp 80 83 [some (.ref a0), some (.int x1), some (.int x2), some (.int x3), some (.int x4), some (.ref s0)] [] σ P else wp 80 40 [some (.ref a0), some (.int x1), some (.int x2), some (.int x3), some (.int x4), some (.ref s0)] [] σ P)) := by
  refine (wc_chk (n' := 29) rfl (zcode_of mc_80 (r := (.checkcast 24, 8, 0, 0)) rfl)).trans (and_congr_right fun h1 => ?_)
  refine (wp_s (n := 31) (zcode_of mc_80 (r := (.astore 5, 0, 0, 0)) rfl) rfl rfl).trans ?_
  refine (wp_s (n := 33) (zcode_of mc_80 (r := (.aload 5, 0, 0, 0)) rfl) rfl rfl).trans ?_
  refine (wc_getI (n' := 36) rfl (zcode_of mc_80 (r := (.getfield 59, 8, 6, 0)) rfl) rfl h1).trans ?_
  refine (wp_ic (n' := 37) rfl (zcode_of mc_80 (r := (.iconst (-1), 0, 0, 0)) rfl) ci_m1).trans ?_
  exact wp_jump (off := 46) (t := 83) (zcode_of mc_80 (r := (.if_icmp .ne 46, 0, 0, 0)) rfl) rfl rfl (by decide)
theorem b80_40 {σ : zSt} {P : Option Value → zSt → Prop} (hC : CShape σ) {a0 a5 : Nat} {x1 x2 x3 x4 : Int32} :
    wp 80 40 [some (.ref a0), some (.int x1), some (.int x2), some (.int x3), some (.int x4), some (.ref a5)] [] σ P ↔ (zIs σ a5 8 ∧ (zIn x2 2 ∧ (zIn x1 2 ∧ wpM 19 [.ref ((a5 + 1) + 2 + 2 * Int32.toNatClampNeg x2), .ref ((a5 + 1) + 2 + 2 * Int32.toNatClampNeg x1)] σ (fun r τ => wp 80 57 [some (.ref a0), some (.int x1), some (.int x2), some (.int x3), some (.int x4), some (.ref a5)] (r.toList ++ []) τ P)))) := by
  refine (wp_s (n := 42) (zcode_of mc_80 (r := (.aload 5, 0, 0, 0)) rfl) rfl rfl).trans ?_
  refine (wc_is (zcode_of mc_80 (r := (.getfield 62, 8, 4, 0)) rfl)).trans (and_congr_right fun h1 => ?_)
  refine (wc_getR (n' := 45) (d := 1) rfl (zcode_of mc_80 (r := (.getfield 62, 8, 4, 0)) rfl) rfl hC le_8_4 rfl rfl rfl h1).trans ?_
  refine (wp_s (n := 46) (zcode_of mc_80 (r := (.iload_n 2, 0, 0, 0)) rfl) rfl rfl).trans ?_
  refine (wc_ald (n' := 47) rfl (zcode_of mc_80 (r := (.aaload, 0, 0, 0)) rfl) hC la_6 rfl rfl rfl rfl rfl (cs_T hC le_8_4 h1)).trans (and_congr_right fun h2 => ?_)
  refine (wp_s (n := 49) (zcode_of mc_80 (r := (.aload 5, 0, 0, 0)) rfl) rfl rfl).trans ?_
  refine (wc_getR (n' := 52) (d := 1) rfl (zcode_of mc_80 (r := (.getfield 62, 8, 4, 0)) rfl) rfl hC le_8_4 rfl rfl rfl h1).trans ?_
  refine (wp_s (n := 53) (zcode_of mc_80 (r := (.iload_n 1, 0, 0, 0)) rfl) rfl rfl).trans ?_
  refine (wc_ald (n' := 54) rfl (zcode_of mc_80 (r := (.aaload, 0, 0, 0)) rfl) hC la_6 rfl rfl rfl rfl rfl (cs_T hC le_8_4 h1)).trans (and_congr_right fun h3 => ?_)
  exact wp_call (q := ([.ref ((a5 + 1) + 2 + 2 * Int32.toNatClampNeg x2), .ref ((a5 + 1) + 2 + 2 * Int32.toNatClampNeg x1)], [])) (zcode_of mc_80 (r := (.invokevirtual 66, 19, 0, 1)) rfl) rfl (zCa_V (Nat.le_of_ble_eq_true rfl) rfl (zIs_of (cs_A hC la_6 (cs_T hC le_8_4 h1) h2))) ⟨Nat.le_of_ble_eq_true rfl, Nat.le_of_ble_eq_true rfl⟩
theorem b80_57 {σ : zSt} {P : Option Value → zSt → Prop} {a0 a5 : Nat} {x1 x2 x3 x4 s0 : Int32} :
    wp 80 57 [some (.ref a0), some (.int x1), some (.int x2), some (.int x3), some (.int x4), some (.ref a5)] [.int s0] σ P ↔ (if s0 = 0 then wp 80 63 [some (.ref a0), some (.int x1), some (.int x2), some (.int x3), some (.int x4), some (.ref a5)] [] σ P else wp 80 60 [some (.ref a0), some (.int x1), some (.int x2), some (.int x3), some (.int x4), some (.ref a5)] [] σ P) := by
  exact wp_jump (off := 6) (t := 63) (zcode_of mc_80 (r := (.ifCond .eq 6, 0, 0, 0)) rfl) rfl rfl (by decide)
theorem b80_60 {σ : zSt} {P : Option Value → zSt → Prop} {a0 a5 : Nat} {x1 x2 x3 x4 : Int32} :
    wp 80 60 [some (.ref a0), some (.int x1), some (.int x2), some (.int x3), some (.int x4), some (.ref a5)] [] σ P ↔ wp 80 83 [some (.ref a0), some (.int x1), some (.int x2), some (.int x3), some (.int x4), some (.ref a5)] [] σ P := by
  exact wp_goto (off := 23) (t := 83) (zcode_of mc_80 (r := (.goto 23, 0, 0, 0)) rfl) (by decide)
theorem b80_63 {σ : zSt} {P : Option Value → zSt → Prop} (hC : CShape σ) {a0 a5 : Nat} {x1 x2 x3 x4 : Int32} :
    wp 80 63 [some (.ref a0), some (.int x1), some (.int x2), some (.int x3), some (.int x4), some (.ref a5)] [] σ P ↔ (zIs σ a5 8 ∧ (zIn x2 2 ∧ (zIn x1 2 ∧ wpM 18 [.ref ((a5 + 1) + 2 + 2 * Int32.toNatClampNeg x2), .ref ((a5 + 1) + 2 + 2 * Int32.toNatClampNeg x1)] σ (fun r τ => wp 80 80 [some (.ref a0), some (.int x1), some (.int x2), some (.int x3), some (.int x4), some (.ref a5)] (r.toList ++ []) τ P)))) := by
  refine (wp_s (n := 65) (zcode_of mc_80 (r := (.aload 5, 0, 0, 0)) rfl) rfl rfl).trans ?_
  refine (wc_is (zcode_of mc_80 (r := (.getfield 62, 8, 4, 0)) rfl)).trans (and_congr_right fun h1 => ?_)
  refine (wc_getR (n' := 68) (d := 1) rfl (zcode_of mc_80 (r := (.getfield 62, 8, 4, 0)) rfl) rfl hC le_8_4 rfl rfl rfl h1).trans ?_
  refine (wp_s (n := 69) (zcode_of mc_80 (r := (.iload_n 2, 0, 0, 0)) rfl) rfl rfl).trans ?_
  refine (wc_ald (n' := 70) rfl (zcode_of mc_80 (r := (.aaload, 0, 0, 0)) rfl) hC la_6 rfl rfl rfl rfl rfl (cs_T hC le_8_4 h1)).trans (and_congr_right fun h2 => ?_)
  refine (wp_s (n := 72) (zcode_of mc_80 (r := (.aload 5, 0, 0, 0)) rfl) rfl rfl).trans ?_
  refine (wc_getR (n' := 75) (d := 1) rfl (zcode_of mc_80 (r := (.getfield 62, 8, 4, 0)) rfl) rfl hC le_8_4 rfl rfl rfl h1).trans ?_
  refine (wp_s (n := 76) (zcode_of mc_80 (r := (.iload_n 1, 0, 0, 0)) rfl) rfl rfl).trans ?_
  refine (wc_ald (n' := 77) rfl (zcode_of mc_80 (r := (.aaload, 0, 0, 0)) rfl) hC la_6 rfl rfl rfl rfl rfl (cs_T hC le_8_4 h1)).trans (and_congr_right fun h3 => ?_)
  exact wp_call (q := ([.ref ((a5 + 1) + 2 + 2 * Int32.toNatClampNeg x2), .ref ((a5 + 1) + 2 + 2 * Int32.toNatClampNeg x1)], [])) (zcode_of mc_80 (r := (.invokevirtual 72, 18, 0, 1)) rfl) rfl (zCa_V (Nat.le_of_ble_eq_true rfl) rfl (zIs_of (cs_A hC la_6 (cs_T hC le_8_4 h1) h2))) ⟨Nat.le_of_ble_eq_true rfl, Nat.le_of_ble_eq_true rfl⟩
theorem b80_80 {σ : zSt} {P : Option Value → zSt → Prop} {a0 a5 : Nat} {x1 x2 x3 x4 : Int32} :
    wp 80 80 [some (.ref a0), some (.int x1), some (.int x2), some (.int x3), some (.int x4), some (.ref a5)] [] σ P ↔ wp 80 83 [some (.ref a0), some (.int x1), some (.int x2), some (.int (x3 + 1)), some (.int x4), some (.ref a5)] [] σ P := by
  refine (wp_inc (n' := 83) rfl (zcode_of mc_80 (r := (.iinc 3 1, 0, 0, 0)) rfl) rfl rfl ci_1).trans ?_
  exact Iff.rfl
theorem b80_83 {σ : zSt} {P : Option Value → zSt → Prop} {a0 a5 : Nat} {x1 x2 x3 x4 : Int32} :
    wp 80 83 [some (.ref a0), some (.int x1), some (.int x2), some (.int x3), some (.int x4), some (.ref a5)] [] σ P ↔ wp 80 5 [some (.ref a0), some (.int x1), some (.int x2), some (.int x3), some (.int (x4 + 1)), some (.ref a5)] [] σ P := by
  refine (wp_inc (n' := 86) rfl (zcode_of mc_80 (r := (.iinc 4 1, 0, 0, 0)) rfl) rfl rfl ci_1).trans ?_
  exact wp_goto (off := (-81)) (t := 5) (zcode_of mc_80 (r := (.goto (-81), 0, 0, 0)) rfl) (by decide)
theorem b80_89 {σ : zSt} {P : Option Value → zSt → Prop} {a0 : Nat} {x1 x2 x3 x4 : Int32} {u5 : Option Value} :
    wp 80 89 [some (.ref a0), some (.int x1), some (.int x2), some (.int x3), some (.int x4), u5] [] σ P ↔ P (some (.int x3)) σ := by
  refine (wp_s (n := 90) (zcode_of mc_80 (r := (.iload_n 3, 0, 0, 0)) rfl) rfl rfl).trans ?_
  exact wp_retI (zcode_of mc_80 (r := (.ireturn, 0, 0, 0)) rfl) rfl
theorem mc_81 : mCode 81 = zc_81 := rfl
theorem b81 {σ : zSt} {P : Option Value → zSt → Prop} {a0 : Nat} :
    wpM 81 [.ref a0] σ P ↔ wp 81 8 [some (.ref a0)] [.ref (znx σ), .ref a0] (zNew σ 10) P := by
  show wp 81 0 [some (.ref a0)] [] σ P ↔ _
  refine (wp_s (n := 1) (zcode_of mc_81 (r := (.aload_n 0, 0, 0, 0)) rfl) rfl rfl).trans ?_
  refine (wc_oi (n' := 4) rfl (zcode_of mc_81 (r := (.invokespecial 3, 0, 5, 0)) rfl) (Nat.le_of_ble_eq_true rfl)).trans ?_
  refine (wp_s (n := 5) (zcode_of mc_81 (r := (.aload_n 0, 0, 0, 0)) rfl) rfl rfl).trans ?_
  refine (wc_new (n' := 8) rfl (zcode_of mc_81 (r := (.new 9, 10, 0, 0)) rfl)).trans ?_
  exact Iff.rfl
theorem b81_8 {σ : zSt} {P : Option Value → zSt → Prop} {a0 s0 s1 : Nat} :
    wp 81 8 [some (.ref a0)] [.ref s0, .ref s1] σ P ↔ wpM 73 [.ref s0] σ (fun r τ => wp 81 12 [some (.ref a0)] (r.toList ++ [.ref s0, .ref s1]) τ P) := by
  refine (wp_s (n := 9) (zcode_of mc_81 (r := (.dup, 0, 0, 0)) rfl) rfl rfl).trans ?_
  exact wp_call (q := ([.ref s0], [.ref s0, .ref s1])) (zcode_of mc_81 (r := (.invokespecial 11, 73, 2, 0)) rfl) rfl (zCa_I (Nat.le_of_ble_eq_true rfl) rfl (Or.inl rfl)) ⟨Nat.le_of_ble_eq_true rfl, Nat.le_of_ble_eq_true rfl⟩
theorem b81_12 {σ : zSt} {P : Option Value → zSt → Prop} {a0 s0 s1 : Nat} :
    wp 81 12 [some (.ref a0)] [.ref s0, .ref s1] σ P ↔ (zIs σ s1 11 ∧ wp 81 19 [some (.ref a0)] [.ref (znx (sfr σ 11 0 s1 (some s0))), .ref a0] (zNew (sfr σ 11 0 s1 (some s0)) 2) P) := by
  refine (wc_isP (zcode_of mc_81 (r := (.putfield 12, 11, 0, 0)) rfl)).trans (and_congr_right fun h1 => ?_)
  refine (wc_putR (n' := 15) rfl (zcode_of mc_81 (r := (.putfield 12, 11, 0, 0)) rfl) rfl h1).trans ?_
  refine (wp_s (n := 16) (zcode_of mc_81 (r := (.aload_n 0, 0, 0, 0)) rfl) rfl rfl).trans ?_
  refine (wc_new (σ := sfr σ 11 0 s1 (some s0)) (n' := 19) rfl (zcode_of mc_81 (r := (.new 16, 2, 0, 0)) rfl)).trans ?_
  exact Iff.rfl
theorem b81_19 {σ : zSt} {P : Option Value → zSt → Prop} {a0 s0 s1 : Nat} :
    wp 81 19 [some (.ref a0)] [.ref s0, .ref s1] σ P ↔ wpM 14 [.ref s0] σ (fun r τ => wp 81 23 [some (.ref a0)] (r.toList ++ [.ref s0, .ref s1]) τ P) := by
  refine (wp_s (n := 20) (zcode_of mc_81 (r := (.dup, 0, 0, 0)) rfl) rfl rfl).trans ?_
  exact wp_call (q := ([.ref s0], [.ref s0, .ref s1])) (zcode_of mc_81 (r := (.invokespecial 18, 14, 3, 0)) rfl) rfl (zCa_I (Nat.le_of_ble_eq_true rfl) rfl (Or.inr rfl)) ⟨Nat.le_of_ble_eq_true rfl, Nat.le_of_ble_eq_true rfl⟩
theorem b81_23 {σ : zSt} {P : Option Value → zSt → Prop} {a0 s0 s1 : Nat} :
    wp 81 23 [some (.ref a0)] [.ref s0, .ref s1] σ P ↔ (zIs σ s1 11 ∧ wp 81 30 [some (.ref a0)] [.ref (znx (sfr σ 11 1 s1 (some s0))), .ref a0] (zNew (sfr σ 11 1 s1 (some s0)) 4) P) := by
  refine (wc_isP (zcode_of mc_81 (r := (.putfield 19, 11, 1, 0)) rfl)).trans (and_congr_right fun h1 => ?_)
  refine (wc_putR (n' := 26) rfl (zcode_of mc_81 (r := (.putfield 19, 11, 1, 0)) rfl) rfl h1).trans ?_
  refine (wp_s (n := 27) (zcode_of mc_81 (r := (.aload_n 0, 0, 0, 0)) rfl) rfl rfl).trans ?_
  refine (wc_new (σ := sfr σ 11 1 s1 (some s0)) (n' := 30) rfl (zcode_of mc_81 (r := (.new 23, 4, 0, 0)) rfl)).trans ?_
  exact Iff.rfl
theorem b81_30 {σ : zSt} {P : Option Value → zSt → Prop} {a0 s0 s1 : Nat} :
    wp 81 30 [some (.ref a0)] [.ref s0, .ref s1] σ P ↔ wpM 30 [.ref s0] σ (fun r τ => wp 81 34 [some (.ref a0)] (r.toList ++ [.ref s0, .ref s1]) τ P) := by
  refine (wp_s (n := 31) (zcode_of mc_81 (r := (.dup, 0, 0, 0)) rfl) rfl rfl).trans ?_
  exact wp_call (q := ([.ref s0], [.ref s0, .ref s1])) (zcode_of mc_81 (r := (.invokespecial 25, 30, 3, 0)) rfl) rfl (zCa_I (Nat.le_of_ble_eq_true rfl) rfl (Or.inr rfl)) ⟨Nat.le_of_ble_eq_true rfl, Nat.le_of_ble_eq_true rfl⟩
theorem b81_34 {σ : zSt} {P : Option Value → zSt → Prop} {a0 s0 s1 : Nat} :
    wp 81 34 [some (.ref a0)] [.ref s0, .ref s1] σ P ↔ (zIs σ s1 11 ∧ wp 81 41 [some (.ref a0)] [.ref (znx (sfr σ 11 2 s1 (some s0))), .ref a0] (zNew (sfr σ 11 2 s1 (some s0)) 1) P) := by
  refine (wc_isP (zcode_of mc_81 (r := (.putfield 26, 11, 2, 0)) rfl)).trans (and_congr_right fun h1 => ?_)
  refine (wc_putR (n' := 37) rfl (zcode_of mc_81 (r := (.putfield 26, 11, 2, 0)) rfl) rfl h1).trans ?_
  refine (wp_s (n := 38) (zcode_of mc_81 (r := (.aload_n 0, 0, 0, 0)) rfl) rfl rfl).trans ?_
  refine (wc_new (σ := sfr σ 11 2 s1 (some s0)) (n' := 41) rfl (zcode_of mc_81 (r := (.new 30, 1, 0, 0)) rfl)).trans ?_
  exact Iff.rfl
theorem b81_41 {σ : zSt} {P : Option Value → zSt → Prop} {a0 s0 s1 : Nat} :
    wp 81 41 [some (.ref a0)] [.ref s0, .ref s1] σ P ↔ wpM 6 [.ref s0] σ (fun r τ => wp 81 45 [some (.ref a0)] (r.toList ++ [.ref s0, .ref s1]) τ P) := by
  refine (wp_s (n := 42) (zcode_of mc_81 (r := (.dup, 0, 0, 0)) rfl) rfl rfl).trans ?_
  exact wp_call (q := ([.ref s0], [.ref s0, .ref s1])) (zcode_of mc_81 (r := (.invokespecial 32, 6, 3, 0)) rfl) rfl (zCa_I (Nat.le_of_ble_eq_true rfl) rfl (Or.inr rfl)) ⟨Nat.le_of_ble_eq_true rfl, Nat.le_of_ble_eq_true rfl⟩
theorem b81_45 {σ : zSt} {P : Option Value → zSt → Prop} {a0 s0 s1 : Nat} :
    wp 81 45 [some (.ref a0)] [.ref s0, .ref s1] σ P ↔ (zIs σ s1 11 ∧ wp 81 52 [some (.ref a0)] [.ref (znx (sfr σ 11 3 s1 (some s0))), .ref a0] (zNew (sfr σ 11 3 s1 (some s0)) 9) P) := by
  refine (wc_isP (zcode_of mc_81 (r := (.putfield 33, 11, 3, 0)) rfl)).trans (and_congr_right fun h1 => ?_)
  refine (wc_putR (n' := 48) rfl (zcode_of mc_81 (r := (.putfield 33, 11, 3, 0)) rfl) rfl h1).trans ?_
  refine (wp_s (n := 49) (zcode_of mc_81 (r := (.aload_n 0, 0, 0, 0)) rfl) rfl rfl).trans ?_
  refine (wc_new (σ := sfr σ 11 3 s1 (some s0)) (n' := 52) rfl (zcode_of mc_81 (r := (.new 37, 9, 0, 0)) rfl)).trans ?_
  exact Iff.rfl
theorem b81_52 {σ : zSt} {P : Option Value → zSt → Prop} {a0 s0 s1 : Nat} :
    wp 81 52 [some (.ref a0)] [.ref s0, .ref s1] σ P ↔ wpM 65 [.ref s0] σ (fun r τ => wp 81 56 [some (.ref a0)] (r.toList ++ [.ref s0, .ref s1]) τ P) := by
  refine (wp_s (n := 53) (zcode_of mc_81 (r := (.dup, 0, 0, 0)) rfl) rfl rfl).trans ?_
  exact wp_call (q := ([.ref s0], [.ref s0, .ref s1])) (zcode_of mc_81 (r := (.invokespecial 39, 65, 3, 0)) rfl) rfl (zCa_I (Nat.le_of_ble_eq_true rfl) rfl (Or.inr rfl)) ⟨Nat.le_of_ble_eq_true rfl, Nat.le_of_ble_eq_true rfl⟩
theorem b81_56 {σ : zSt} {P : Option Value → zSt → Prop} {a0 s0 s1 : Nat} :
    wp 81 56 [some (.ref a0)] [.ref s0, .ref s1] σ P ↔ (zIs σ s1 11 ∧ wp 81 63 [some (.ref a0)] [.ref (znx (sfr σ 11 4 s1 (some s0))), .ref a0] (zNew (sfr σ 11 4 s1 (some s0)) 6) P) := by
  refine (wc_isP (zcode_of mc_81 (r := (.putfield 40, 11, 4, 0)) rfl)).trans (and_congr_right fun h1 => ?_)
  refine (wc_putR (n' := 59) rfl (zcode_of mc_81 (r := (.putfield 40, 11, 4, 0)) rfl) rfl h1).trans ?_
  refine (wp_s (n := 60) (zcode_of mc_81 (r := (.aload_n 0, 0, 0, 0)) rfl) rfl rfl).trans ?_
  refine (wc_new (σ := sfr σ 11 4 s1 (some s0)) (n' := 63) rfl (zcode_of mc_81 (r := (.new 44, 6, 0, 0)) rfl)).trans ?_
  exact Iff.rfl
theorem b81_63 {σ : zSt} {P : Option Value → zSt → Prop} {a0 s0 s1 : Nat} :
    wp 81 63 [some (.ref a0)] [.ref s0, .ref s1] σ P ↔ wpM 52 [.ref s0] σ (fun r τ => wp 81 67 [some (.ref a0)] (r.toList ++ [.ref s0, .ref s1]) τ P) := by
  refine (wp_s (n := 64) (zcode_of mc_81 (r := (.dup, 0, 0, 0)) rfl) rfl rfl).trans ?_
  exact wp_call (q := ([.ref s0], [.ref s0, .ref s1])) (zcode_of mc_81 (r := (.invokespecial 46, 52, 3, 0)) rfl) rfl (zCa_I (Nat.le_of_ble_eq_true rfl) rfl (Or.inr rfl)) ⟨Nat.le_of_ble_eq_true rfl, Nat.le_of_ble_eq_true rfl⟩
theorem b81_67 {σ : zSt} {P : Option Value → zSt → Prop} {a0 s0 s1 : Nat} :
    wp 81 67 [some (.ref a0)] [.ref s0, .ref s1] σ P ↔ (zIs σ s1 11 ∧ wp 81 74 [some (.ref a0)] [.ref (znx (sfr σ 11 5 s1 (some s0))), .ref a0] (zNew (sfr σ 11 5 s1 (some s0)) 5) P) := by
  refine (wc_isP (zcode_of mc_81 (r := (.putfield 47, 11, 5, 0)) rfl)).trans (and_congr_right fun h1 => ?_)
  refine (wc_putR (n' := 70) rfl (zcode_of mc_81 (r := (.putfield 47, 11, 5, 0)) rfl) rfl h1).trans ?_
  refine (wp_s (n := 71) (zcode_of mc_81 (r := (.aload_n 0, 0, 0, 0)) rfl) rfl rfl).trans ?_
  refine (wc_new (σ := sfr σ 11 5 s1 (some s0)) (n' := 74) rfl (zcode_of mc_81 (r := (.new 51, 5, 0, 0)) rfl)).trans ?_
  exact Iff.rfl
theorem b81_74 {σ : zSt} {P : Option Value → zSt → Prop} {a0 s0 s1 : Nat} :
    wp 81 74 [some (.ref a0)] [.ref s0, .ref s1] σ P ↔ wpM 41 [.ref s0] σ (fun r τ => wp 81 78 [some (.ref a0)] (r.toList ++ [.ref s0, .ref s1]) τ P) := by
  refine (wp_s (n := 75) (zcode_of mc_81 (r := (.dup, 0, 0, 0)) rfl) rfl rfl).trans ?_
  exact wp_call (q := ([.ref s0], [.ref s0, .ref s1])) (zcode_of mc_81 (r := (.invokespecial 53, 41, 3, 0)) rfl) rfl (zCa_I (Nat.le_of_ble_eq_true rfl) rfl (Or.inr rfl)) ⟨Nat.le_of_ble_eq_true rfl, Nat.le_of_ble_eq_true rfl⟩
theorem b81_78 {σ : zSt} {P : Option Value → zSt → Prop} {a0 s0 s1 : Nat} :
    wp 81 78 [some (.ref a0)] [.ref s0, .ref s1] σ P ↔ (zIs σ s1 11 ∧ wp 81 85 [some (.ref a0)] [.ref (znx (sfr σ 11 6 s1 (some s0))), .ref a0] (zNew (sfr σ 11 6 s1 (some s0)) 7) P) := by
  refine (wc_isP (zcode_of mc_81 (r := (.putfield 54, 11, 6, 0)) rfl)).trans (and_congr_right fun h1 => ?_)
  refine (wc_putR (n' := 81) rfl (zcode_of mc_81 (r := (.putfield 54, 11, 6, 0)) rfl) rfl h1).trans ?_
  refine (wp_s (n := 82) (zcode_of mc_81 (r := (.aload_n 0, 0, 0, 0)) rfl) rfl rfl).trans ?_
  refine (wc_new (σ := sfr σ 11 6 s1 (some s0)) (n' := 85) rfl (zcode_of mc_81 (r := (.new 58, 7, 0, 0)) rfl)).trans ?_
  exact Iff.rfl
theorem b81_85 {σ : zSt} {P : Option Value → zSt → Prop} {a0 s0 s1 : Nat} :
    wp 81 85 [some (.ref a0)] [.ref s0, .ref s1] σ P ↔ wpM 56 [.ref s0] σ (fun r τ => wp 81 89 [some (.ref a0)] (r.toList ++ [.ref s0, .ref s1]) τ P) := by
  refine (wp_s (n := 86) (zcode_of mc_81 (r := (.dup, 0, 0, 0)) rfl) rfl rfl).trans ?_
  exact wp_call (q := ([.ref s0], [.ref s0, .ref s1])) (zcode_of mc_81 (r := (.invokespecial 60, 56, 2, 0)) rfl) rfl (zCa_I (Nat.le_of_ble_eq_true rfl) rfl (Or.inl rfl)) ⟨Nat.le_of_ble_eq_true rfl, Nat.le_of_ble_eq_true rfl⟩
theorem b81_89 {σ : zSt} {P : Option Value → zSt → Prop} {a0 s0 s1 : Nat} :
    wp 81 89 [some (.ref a0)] [.ref s0, .ref s1] σ P ↔ (zIs σ s1 11 ∧ (zIs σ a0 11 ∧ ((zfr σ 11 1 a0).isSome = true ∧ (zIs σ (zrf σ 11 1 a0) 2 ∧ P none (sfi (sfr σ 11 7 s1 (some s0)) 2 1 (zrf σ 11 1 a0) 0))))) := by
  refine (wc_isP (zcode_of mc_81 (r := (.putfield 61, 11, 7, 0)) rfl)).trans (and_congr_right fun h1 => ?_)
  refine (wc_putR (n' := 92) rfl (zcode_of mc_81 (r := (.putfield 61, 11, 7, 0)) rfl) rfl h1).trans ?_
  refine (wp_s (n := 93) (zcode_of mc_81 (r := (.aload_n 0, 0, 0, 0)) rfl) rfl rfl).trans ?_
  refine (wc_is (σ := sfr σ 11 7 s1 (some s0)) (zcode_of mc_81 (r := (.getfield 19, 11, 1, 0)) rfl)).trans (and_congr_right fun h2 => ?_)
  refine (wc_getE (σ := sfr σ 11 7 s1 (some s0)) (n' := 96) rfl (zcode_of mc_81 (r := (.getfield 19, 11, 1, 0)) rfl) rfl h2).trans (and_congr_right fun h3 => ?_)
  refine (wp_ic (n' := 97) rfl (zcode_of mc_81 (r := (.iconst 0, 0, 0, 0)) rfl) ci_0).trans ?_
  refine (wc_isP (σ := sfr σ 11 7 s1 (some s0)) (zcode_of mc_81 (r := (.putfield 65, 2, 1, 0)) rfl)).trans (and_congr_right fun h4 => ?_)
  refine (wc_putI (σ := sfr σ 11 7 s1 (some s0)) (n' := 100) rfl (zcode_of mc_81 (r := (.putfield 65, 2, 1, 0)) rfl) rfl h4).trans ?_
  exact wp_retV (zcode_of mc_81 (r := (.return_, 0, 0, 0)) rfl) rfl
theorem mc_82 : mCode 82 = zc_82 := rfl
theorem b82 {σ : zSt} {P : Option Value → zSt → Prop} (hC : CShape σ) {a0 : Nat} {x1 x2 x3 : Int32} :
    wpM 82 [.ref a0, .int x1, .int x2, .int x3] σ P ↔ (zIs σ a0 11 ∧ wpM 76 [.ref (a0 + 1), .int x1] σ (fun r τ => wp 82 8 [some (.ref a0), some (.int x1), some (.int x2), some (.int x3)] (r.toList ++ []) τ P)) := by
  show wp 82 0 [some (.ref a0), some (.int x1), some (.int x2), some (.int x3)] [] σ P ↔ _
  refine (wp_s (n := 1) (zcode_of mc_82 (r := (.aload_n 0, 0, 0, 0)) rfl) rfl rfl).trans ?_
  refine (wc_is (zcode_of mc_82 (r := (.getfield 12, 11, 0, 0)) rfl)).trans (and_congr_right fun h1 => ?_)
  refine (wc_getR (n' := 4) (d := 1) rfl (zcode_of mc_82 (r := (.getfield 12, 11, 0, 0)) rfl) rfl hC le_11_0 rfl rfl rfl h1).trans ?_
  refine (wp_s (n := 5) (zcode_of mc_82 (r := (.iload_n 1, 0, 0, 0)) rfl) rfl rfl).trans ?_
  exact wp_call (q := ([.ref (a0 + 1), .int x1], [])) (zcode_of mc_82 (r := (.invokevirtual 69, 76, 0, 1)) rfl) rfl (zCa_V (Nat.le_of_ble_eq_true rfl) rfl (zIs_of (cs_T hC le_11_0 h1))) ⟨Nat.le_of_ble_eq_true rfl, Nat.le_of_ble_eq_true rfl⟩
theorem b82_8 {σ : zSt} {P : Option Value → zSt → Prop} {a0 : Nat} {x1 x2 x3 s0 : Int32} :
    wp 82 8 [some (.ref a0), some (.int x1), some (.int x2), some (.int x3)] [.int s0] σ P ↔ (if s0 = 0 then wp 82 22 [some (.ref a0), some (.int x1), some (.int x2), some (.int x3)] [] σ P else wp 82 11 [some (.ref a0), some (.int x1), some (.int x2), some (.int x3)] [] σ P) := by
  exact wp_jump (off := 14) (t := 22) (zcode_of mc_82 (r := (.ifCond .eq 14, 0, 0, 0)) rfl) rfl rfl (by decide)
theorem b82_11 {σ : zSt} {P : Option Value → zSt → Prop} {a0 : Nat} {x1 x2 x3 : Int32} :
    wp 82 11 [some (.ref a0), some (.int x1), some (.int x2), some (.int x3)] [] σ P ↔ (if x2 < 1 then wp 82 22 [some (.ref a0), some (.int x1), some (.int x2), some (.int x3)] [] σ P else wp 82 16 [some (.ref a0), some (.int x1), some (.int x2), some (.int x3)] [] σ P) := by
  refine (wp_s (n := 12) (zcode_of mc_82 (r := (.iload_n 2, 0, 0, 0)) rfl) rfl rfl).trans ?_
  refine (wp_ic (n' := 13) rfl (zcode_of mc_82 (r := (.iconst 1, 0, 0, 0)) rfl) ci_1).trans ?_
  exact wp_jump (off := 9) (t := 22) (zcode_of mc_82 (r := (.if_icmp .lt 9, 0, 0, 0)) rfl) rfl rfl (by decide)
theorem b82_16 {σ : zSt} {P : Option Value → zSt → Prop} {a0 : Nat} {x1 x2 x3 : Int32} :
    wp 82 16 [some (.ref a0), some (.int x1), some (.int x2), some (.int x3)] [] σ P ↔ (if x2 ≤ 26 then wp 82 25 [some (.ref a0), some (.int x1), some (.int x2), some (.int x3)] [] σ P else wp 82 22 [some (.ref a0), some (.int x1), some (.int x2), some (.int x3)] [] σ P) := by
  refine (wp_s (n := 17) (zcode_of mc_82 (r := (.iload_n 2, 0, 0, 0)) rfl) rfl rfl).trans ?_
  refine (wp_bp (n' := 19) rfl (zcode_of mc_82 (r := (.bipush 26, 0, 0, 0)) rfl) cb_26).trans ?_
  exact wp_jump (off := 6) (t := 25) (zcode_of mc_82 (r := (.if_icmp .le 6, 0, 0, 0)) rfl) rfl rfl (by decide)
theorem b82_22 {σ : zSt} {P : Option Value → zSt → Prop} {a0 : Nat} {x1 x2 x3 : Int32} :
    wp 82 22 [some (.ref a0), some (.int x1), some (.int x2), some (.int x3)] [] σ P ↔ P (some (.int (-2))) σ := by
  refine (wp_bp (n' := 24) rfl (zcode_of mc_82 (r := (.bipush (-2), 0, 0, 0)) rfl) cb_m2).trans ?_
  exact wp_retI (zcode_of mc_82 (r := (.ireturn, 0, 0, 0)) rfl) rfl
theorem b82_25 {σ : zSt} {P : Option Value → zSt → Prop} (hC : CShape σ) {a0 : Nat} {x1 x2 x3 : Int32} :
    wp 82 25 [some (.ref a0), some (.int x1), some (.int x2), some (.int x3)] [] σ P ↔ (zIs σ a0 11 ∧ wpM 77 [.ref (a0 + 1), .int x1] σ (fun r τ => wp 82 33 [some (.ref a0), some (.int x1), some (.int x2), some (.int x3)] (r.toList ++ []) τ P)) := by
  refine (wp_s (n := 26) (zcode_of mc_82 (r := (.aload_n 0, 0, 0, 0)) rfl) rfl rfl).trans ?_
  refine (wc_is (zcode_of mc_82 (r := (.getfield 12, 11, 0, 0)) rfl)).trans (and_congr_right fun h1 => ?_)
  refine (wc_getR (n' := 29) (d := 1) rfl (zcode_of mc_82 (r := (.getfield 12, 11, 0, 0)) rfl) rfl hC le_11_0 rfl rfl rfl h1).trans ?_
  refine (wp_s (n := 30) (zcode_of mc_82 (r := (.iload_n 1, 0, 0, 0)) rfl) rfl rfl).trans ?_
  exact wp_call (q := ([.ref (a0 + 1), .int x1], [])) (zcode_of mc_82 (r := (.invokevirtual 73, 77, 0, 1)) rfl) rfl (zCa_V (Nat.le_of_ble_eq_true rfl) rfl (zIs_of (cs_T hC le_11_0 h1))) ⟨Nat.le_of_ble_eq_true rfl, Nat.le_of_ble_eq_true rfl⟩
theorem b82_33 {σ : zSt} {P : Option Value → zSt → Prop} {a0 s0 : Nat} {x1 x2 x3 : Int32} :
    wp 82 33 [some (.ref a0), some (.int x1), some (.int x2), some (.int x3)] [.ref s0] σ P ↔ (zIs σ s0 8 ∧ (if ¬ (zfi σ 8 3 s0) = 0 then wp 82 42 [some (.ref a0), some (.int x1), some (.int x2), some (.int x3)] [] σ P else wp 82 39 [some (.ref a0), some (.int x1), some (.int x2), some (.int x3)] [] σ P)) := by
  refine (wc_is (zcode_of mc_82 (r := (.getfield 77, 8, 3, 0)) rfl)).trans (and_congr_right fun h1 => ?_)
  refine (wc_getI (n' := 36) rfl (zcode_of mc_82 (r := (.getfield 77, 8, 3, 0)) rfl) rfl h1).trans ?_
  exact wp_jump (off := 6) (t := 42) (zcode_of mc_82 (r := (.ifCond .ne 6, 0, 0, 0)) rfl) rfl rfl (by decide)
theorem b82_39 {σ : zSt} {P : Option Value → zSt → Prop} {a0 : Nat} {x1 x2 x3 : Int32} :
    wp 82 39 [some (.ref a0), some (.int x1), some (.int x2), some (.int x3)] [] σ P ↔ P (some (.int (-3))) σ := by
  refine (wp_bp (n' := 41) rfl (zcode_of mc_82 (r := (.bipush (-3), 0, 0, 0)) rfl) cb_m3).trans ?_
  exact wp_retI (zcode_of mc_82 (r := (.ireturn, 0, 0, 0)) rfl) rfl
theorem b82_42 {σ : zSt} {P : Option Value → zSt → Prop} (hC : CShape σ) {a0 : Nat} {x1 x2 x3 : Int32} :
    wp 82 42 [some (.ref a0), some (.int x1), some (.int x2), some (.int x3)] [] σ P ↔ (zIs σ a0 11 ∧ wpM 78 [.ref (a0 + 1), .int x1, .int x2] σ (fun r τ => wp 82 51 [some (.ref a0), some (.int x1), some (.int x2), some (.int x3)] (r.toList ++ []) τ P)) := by
  refine (wp_s (n := 43) (zcode_of mc_82 (r := (.aload_n 0, 0, 0, 0)) rfl) rfl rfl).trans ?_
  refine (wc_is (zcode_of mc_82 (r := (.getfield 12, 11, 0, 0)) rfl)).trans (and_congr_right fun h1 => ?_)
  refine (wc_getR (n' := 46) (d := 1) rfl (zcode_of mc_82 (r := (.getfield 12, 11, 0, 0)) rfl) rfl hC le_11_0 rfl rfl rfl h1).trans ?_
  refine (wp_s (n := 47) (zcode_of mc_82 (r := (.iload_n 1, 0, 0, 0)) rfl) rfl rfl).trans ?_
  refine (wp_s (n := 48) (zcode_of mc_82 (r := (.iload_n 2, 0, 0, 0)) rfl) rfl rfl).trans ?_
  exact wp_call (q := ([.ref (a0 + 1), .int x1, .int x2], [])) (zcode_of mc_82 (r := (.invokevirtual 83, 78, 0, 2)) rfl) rfl (zCa_V (Nat.le_of_ble_eq_true rfl) rfl (zIs_of (cs_T hC le_11_0 h1))) ⟨Nat.le_of_ble_eq_true rfl, Nat.le_of_ble_eq_true rfl⟩
theorem b82_51 {σ : zSt} {P : Option Value → zSt → Prop} {a0 : Nat} {x1 x2 x3 s0 : Int32} :
    wp 82 51 [some (.ref a0), some (.int x1), some (.int x2), some (.int x3)] [.int s0] σ P ↔ (if s0 = 0 then wp 82 57 [some (.ref a0), some (.int x1), some (.int x2), some (.int x3)] [] σ P else wp 82 54 [some (.ref a0), some (.int x1), some (.int x2), some (.int x3)] [] σ P) := by
  exact wp_jump (off := 6) (t := 57) (zcode_of mc_82 (r := (.ifCond .eq 6, 0, 0, 0)) rfl) rfl rfl (by decide)
theorem b82_54 {σ : zSt} {P : Option Value → zSt → Prop} {a0 : Nat} {x1 x2 x3 : Int32} :
    wp 82 54 [some (.ref a0), some (.int x1), some (.int x2), some (.int x3)] [] σ P ↔ P (some (.int (-4))) σ := by
  refine (wp_bp (n' := 56) rfl (zcode_of mc_82 (r := (.bipush (-4), 0, 0, 0)) rfl) cb_m4).trans ?_
  exact wp_retI (zcode_of mc_82 (r := (.ireturn, 0, 0, 0)) rfl) rfl
theorem b82_57 {σ : zSt} {P : Option Value → zSt → Prop} (hC : CShape σ) {a0 : Nat} {x1 x2 x3 : Int32} :
    wp 82 57 [some (.ref a0), some (.int x1), some (.int x2), some (.int x3)] [] σ P ↔ (zIs σ a0 11 ∧ wpM 75 [.ref (a0 + 1)] σ (fun r τ => wp 82 64 [some (.ref a0), some (.int x1), some (.int x2), some (.int x3)] (r.toList ++ []) τ P)) := by
  refine (wp_s (n := 58) (zcode_of mc_82 (r := (.aload_n 0, 0, 0, 0)) rfl) rfl rfl).trans ?_
  refine (wc_is (zcode_of mc_82 (r := (.getfield 12, 11, 0, 0)) rfl)).trans (and_congr_right fun h1 => ?_)
  refine (wc_getR (n' := 61) (d := 1) rfl (zcode_of mc_82 (r := (.getfield 12, 11, 0, 0)) rfl) rfl hC le_11_0 rfl rfl rfl h1).trans ?_
  exact wp_call (q := ([.ref (a0 + 1)], [])) (zcode_of mc_82 (r := (.invokevirtual 87, 75, 0, 0)) rfl) rfl (zCa_V (Nat.le_of_ble_eq_true rfl) rfl (zIs_of (cs_T hC le_11_0 h1))) ⟨Nat.le_of_ble_eq_true rfl, Nat.le_of_ble_eq_true rfl⟩
theorem b82_64 {σ : zSt} {P : Option Value → zSt → Prop} {a0 : Nat} {x1 x2 x3 s0 : Int32} :
    wp 82 64 [some (.ref a0), some (.int x1), some (.int x2), some (.int x3)] [.int s0] σ P ↔ (if s0 < 60 then wp 82 72 [some (.ref a0), some (.int x1), some (.int x2), some (.int x3)] [] σ P else wp 82 69 [some (.ref a0), some (.int x1), some (.int x2), some (.int x3)] [] σ P) := by
  refine (wp_bp (n' := 66) rfl (zcode_of mc_82 (r := (.bipush 60, 0, 0, 0)) rfl) cb_60).trans ?_
  exact wp_jump (off := 6) (t := 72) (zcode_of mc_82 (r := (.if_icmp .lt 6, 0, 0, 0)) rfl) rfl rfl (by decide)
theorem b82_69 {σ : zSt} {P : Option Value → zSt → Prop} {a0 : Nat} {x1 x2 x3 : Int32} :
    wp 82 69 [some (.ref a0), some (.int x1), some (.int x2), some (.int x3)] [] σ P ↔ P (some (.int (-6))) σ := by
  refine (wp_bp (n' := 71) rfl (zcode_of mc_82 (r := (.bipush (-6), 0, 0, 0)) rfl) cb_m6).trans ?_
  exact wp_retI (zcode_of mc_82 (r := (.ireturn, 0, 0, 0)) rfl) rfl
theorem b82_72 {σ : zSt} {P : Option Value → zSt → Prop} (hC : CShape σ) {a0 : Nat} {x1 x2 x3 : Int32} :
    wp 82 72 [some (.ref a0), some (.int x1), some (.int x2), some (.int x3)] [] σ P ↔ (zIs σ a0 11 ∧ wpM 79 [.ref (a0 + 1), .int x1, .int x2, .int x3] σ (fun r τ => wp 82 82 [some (.ref a0), some (.int x1), some (.int x2), some (.int x3)] (r.toList ++ []) τ P)) := by
  refine (wp_s (n := 73) (zcode_of mc_82 (r := (.aload_n 0, 0, 0, 0)) rfl) rfl rfl).trans ?_
  refine (wc_is (zcode_of mc_82 (r := (.getfield 12, 11, 0, 0)) rfl)).trans (and_congr_right fun h1 => ?_)
  refine (wc_getR (n' := 76) (d := 1) rfl (zcode_of mc_82 (r := (.getfield 12, 11, 0, 0)) rfl) rfl hC le_11_0 rfl rfl rfl h1).trans ?_
  refine (wp_s (n := 77) (zcode_of mc_82 (r := (.iload_n 1, 0, 0, 0)) rfl) rfl rfl).trans ?_
  refine (wp_s (n := 78) (zcode_of mc_82 (r := (.iload_n 2, 0, 0, 0)) rfl) rfl rfl).trans ?_
  refine (wp_s (n := 79) (zcode_of mc_82 (r := (.iload_n 3, 0, 0, 0)) rfl) rfl rfl).trans ?_
  exact wp_call (q := ([.ref (a0 + 1), .int x1, .int x2, .int x3], [])) (zcode_of mc_82 (r := (.invokevirtual 90, 79, 0, 3)) rfl) rfl (zCa_V (Nat.le_of_ble_eq_true rfl) rfl (zIs_of (cs_T hC le_11_0 h1))) ⟨Nat.le_of_ble_eq_true rfl, Nat.le_of_ble_eq_true rfl⟩
theorem b82_82 {σ : zSt} {P : Option Value → zSt → Prop} {a0 : Nat} {x1 x2 x3 s0 : Int32} :
    wp 82 82 [some (.ref a0), some (.int x1), some (.int x2), some (.int x3)] [.int s0] σ P ↔ P (some (.int s0)) σ := by
  exact wp_retI (zcode_of mc_82 (r := (.ireturn, 0, 0, 0)) rfl) rfl
theorem mc_83 : mCode 83 = zc_83 := rfl
theorem b83 {σ : zSt} {P : Option Value → zSt → Prop} (hC : CShape σ) {a0 : Nat} {x1 x2 : Int32} :
    wpM 83 [.ref a0, .int x1, .int x2] σ P ↔ (zIs σ a0 11 ∧ wpM 76 [.ref (a0 + 1), .int x1] σ (fun r τ => wp 83 8 [some (.ref a0), some (.int x1), some (.int x2), none] (r.toList ++ []) τ P)) := by
  show wp 83 0 [some (.ref a0), some (.int x1), some (.int x2), none] [] σ P ↔ _
  refine (wp_s (n := 1) (zcode_of mc_83 (r := (.aload_n 0, 0, 0, 0)) rfl) rfl rfl).trans ?_
  refine (wc_is (zcode_of mc_83 (r := (.getfield 12, 11, 0, 0)) rfl)).trans (and_congr_right fun h1 => ?_)
  refine (wc_getR (n' := 4) (d := 1) rfl (zcode_of mc_83 (r := (.getfield 12, 11, 0, 0)) rfl) rfl hC le_11_0 rfl rfl rfl h1).trans ?_
  refine (wp_s (n := 5) (zcode_of mc_83 (r := (.iload_n 1, 0, 0, 0)) rfl) rfl rfl).trans ?_
  exact wp_call (q := ([.ref (a0 + 1), .int x1], [])) (zcode_of mc_83 (r := (.invokevirtual 69, 76, 0, 1)) rfl) rfl (zCa_V (Nat.le_of_ble_eq_true rfl) rfl (zIs_of (cs_T hC le_11_0 h1))) ⟨Nat.le_of_ble_eq_true rfl, Nat.le_of_ble_eq_true rfl⟩
theorem b83_8 {σ : zSt} {P : Option Value → zSt → Prop} {a0 : Nat} {x1 x2 s0 : Int32} {u3 : Option Value} :
    wp 83 8 [some (.ref a0), some (.int x1), some (.int x2), u3] [.int s0] σ P ↔ (if ¬ s0 = 0 then wp 83 14 [some (.ref a0), some (.int x1), some (.int x2), u3] [] σ P else wp 83 11 [some (.ref a0), some (.int x1), some (.int x2), u3] [] σ P) := by
  exact wp_jump (off := 6) (t := 14) (zcode_of mc_83 (r := (.ifCond .ne 6, 0, 0, 0)) rfl) rfl rfl (by decide)
theorem b83_11 {σ : zSt} {P : Option Value → zSt → Prop} {a0 : Nat} {x1 x2 : Int32} {u3 : Option Value} :
    wp 83 11 [some (.ref a0), some (.int x1), some (.int x2), u3] [] σ P ↔ P (some (.int (-2))) σ := by
  refine (wp_bp (n' := 13) rfl (zcode_of mc_83 (r := (.bipush (-2), 0, 0, 0)) rfl) cb_m2).trans ?_
  exact wp_retI (zcode_of mc_83 (r := (.ireturn, 0, 0, 0)) rfl) rfl
theorem b83_14 {σ : zSt} {P : Option Value → zSt → Prop} (hC : CShape σ) {a0 : Nat} {x1 x2 : Int32} {u3 : Option Value} :
    wp 83 14 [some (.ref a0), some (.int x1), some (.int x2), u3] [] σ P ↔ (zIs σ a0 11 ∧ wpM 77 [.ref (a0 + 1), .int x1] σ (fun r τ => wp 83 22 [some (.ref a0), some (.int x1), some (.int x2), u3] (r.toList ++ []) τ P)) := by
  refine (wp_s (n := 15) (zcode_of mc_83 (r := (.aload_n 0, 0, 0, 0)) rfl) rfl rfl).trans ?_
  refine (wc_is (zcode_of mc_83 (r := (.getfield 12, 11, 0, 0)) rfl)).trans (and_congr_right fun h1 => ?_)
  refine (wc_getR (n' := 18) (d := 1) rfl (zcode_of mc_83 (r := (.getfield 12, 11, 0, 0)) rfl) rfl hC le_11_0 rfl rfl rfl h1).trans ?_
  refine (wp_s (n := 19) (zcode_of mc_83 (r := (.iload_n 1, 0, 0, 0)) rfl) rfl rfl).trans ?_
  exact wp_call (q := ([.ref (a0 + 1), .int x1], [])) (zcode_of mc_83 (r := (.invokevirtual 73, 77, 0, 1)) rfl) rfl (zCa_V (Nat.le_of_ble_eq_true rfl) rfl (zIs_of (cs_T hC le_11_0 h1))) ⟨Nat.le_of_ble_eq_true rfl, Nat.le_of_ble_eq_true rfl⟩
set_option maxRecDepth 20000 in
theorem b83_22 {σ : zSt} {P : Option Value → zSt → Prop} {a0 s0 : Nat} {x1 x2 : Int32} {u3 : Option Value} :
    wp 83 22 [some (.ref a0), some (.int x1), some (.int x2), u3] [.ref s0] σ P ↔ (if x2 = 0 then wp 83 56 [some (.ref a0), some (.int x1), some (.int x2), some (.ref s0)] [] σ P else if x2 = 1 then wp 83 61 [some (.ref a0), some (.int x1), some (.int x2), some (.ref s0)] [] σ P else if x2 = 2 then wp 83 66 [some (.ref a0), some (.int x1), some (.int x2), some (.ref s0)] [] σ P else if x2 = 3 then wp 83 79 [some (.ref a0), some (.int x1), some (.int x2), some (.ref s0)] [] σ P else wp 83 84 [some (.ref a0), some (.int x1), some (.int x2), some (.ref s0)] [] σ P) := by
  refine (wp_s (n := 23) (zcode_of mc_83 (r := (.astore_n 3, 0, 0, 0)) rfl) rfl rfl).trans ?_
  refine (wp_s (n := 24) (zcode_of mc_83 (r := (.iload_n 2, 0, 0, 0)) rfl) rfl rfl).trans ?_
  generalize hv9 : (x2 : Int32) = v9
  by_cases h100 : v9 = 0
  · rw [if_pos h100, h100]
    exact wp_swI (zcode_of mc_83 (r := (.tableswitch 60 0 3 #[32, 37, 42, 55], 0, 0, 0)) rfl) (t := 56) (by decide)
  rw [if_neg h100]
  by_cases h101 : v9 = 1
  · rw [if_pos h101, h101]
    exact wp_swI (zcode_of mc_83 (r := (.tableswitch 60 0 3 #[32, 37, 42, 55], 0, 0, 0)) rfl) (t := 61) (by decide)
  rw [if_neg h101]
  by_cases h102 : v9 = 2
  · rw [if_pos h102, h102]
    exact wp_swI (zcode_of mc_83 (r := (.tableswitch 60 0 3 #[32, 37, 42, 55], 0, 0, 0)) rfl) (t := 66) (by decide)
  rw [if_neg h102]
  by_cases h103 : v9 = 3
  · rw [if_pos h103, h103]
    exact wp_swI (zcode_of mc_83 (r := (.tableswitch 60 0 3 #[32, 37, 42, 55], 0, 0, 0)) rfl) (t := 79) (by decide)
  rw [if_neg h103]
  exact wp_swO (zcode_of mc_83 (r := (.tableswitch 60 0 3 #[32, 37, 42, 55], 0, 0, 0)) rfl) (t := 84) (by decide) (zsw_lo (fun k g1 g2 => by
    rcases (show k = 0 ∨ k = 1 ∨ k = 2 ∨ k = 3 by omega) with rfl | rfl | rfl | rfl
    · exact h100
    · exact h101
    · exact h102
    · exact h103) (by decide) (by decide))
theorem b83_56 {σ : zSt} {P : Option Value → zSt → Prop} {a0 a3 : Nat} {x1 x2 : Int32} :
    wp 83 56 [some (.ref a0), some (.int x1), some (.int x2), some (.ref a3)] [] σ P ↔ (zIs σ a3 8 ∧ P (some (.int (zfi σ 8 1 a3))) σ) := by
  refine (wp_s (n := 57) (zcode_of mc_83 (r := (.aload_n 3, 0, 0, 0)) rfl) rfl rfl).trans ?_
  refine (wc_is (zcode_of mc_83 (r := (.getfield 94, 8, 1, 0)) rfl)).trans (and_congr_right fun h1 => ?_)
  refine (wc_getI (n' := 60) rfl (zcode_of mc_83 (r := (.getfield 94, 8, 1, 0)) rfl) rfl h1).trans ?_
  exact wp_retI (zcode_of mc_83 (r := (.ireturn, 0, 0, 0)) rfl) rfl
theorem b83_61 {σ : zSt} {P : Option Value → zSt → Prop} {a0 a3 : Nat} {x1 x2 : Int32} :
    wp 83 61 [some (.ref a0), some (.int x1), some (.int x2), some (.ref a3)] [] σ P ↔ (zIs σ a3 8 ∧ P (some (.int (zfi σ 8 2 a3))) σ) := by
  refine (wp_s (n := 62) (zcode_of mc_83 (r := (.aload_n 3, 0, 0, 0)) rfl) rfl rfl).trans ?_
  refine (wc_is (zcode_of mc_83 (r := (.getfield 97, 8, 2, 0)) rfl)).trans (and_congr_right fun h1 => ?_)
  refine (wc_getI (n' := 65) rfl (zcode_of mc_83 (r := (.getfield 97, 8, 2, 0)) rfl) rfl h1).trans ?_
  exact wp_retI (zcode_of mc_83 (r := (.ireturn, 0, 0, 0)) rfl) rfl
theorem b83_66 {σ : zSt} {P : Option Value → zSt → Prop} {a0 a3 : Nat} {x1 x2 : Int32} :
    wp 83 66 [some (.ref a0), some (.int x1), some (.int x2), some (.ref a3)] [] σ P ↔ (zIs σ a3 8 ∧ (if (zfi σ 8 3 a3) = 0 then wp 83 77 [some (.ref a0), some (.int x1), some (.int x2), some (.ref a3)] [] σ P else wp 83 73 [some (.ref a0), some (.int x1), some (.int x2), some (.ref a3)] [] σ P)) := by
  refine (wp_s (n := 67) (zcode_of mc_83 (r := (.aload_n 3, 0, 0, 0)) rfl) rfl rfl).trans ?_
  refine (wc_is (zcode_of mc_83 (r := (.getfield 77, 8, 3, 0)) rfl)).trans (and_congr_right fun h1 => ?_)
  refine (wc_getI (n' := 70) rfl (zcode_of mc_83 (r := (.getfield 77, 8, 3, 0)) rfl) rfl h1).trans ?_
  exact wp_jump (off := 7) (t := 77) (zcode_of mc_83 (r := (.ifCond .eq 7, 0, 0, 0)) rfl) rfl rfl (by decide)
theorem b83_73 {σ : zSt} {P : Option Value → zSt → Prop} {a0 a3 : Nat} {x1 x2 : Int32} :
    wp 83 73 [some (.ref a0), some (.int x1), some (.int x2), some (.ref a3)] [] σ P ↔ wp 83 78 [some (.ref a0), some (.int x1), some (.int x2), some (.ref a3)] [.int 1] σ P := by
  refine (wp_ic (n' := 74) rfl (zcode_of mc_83 (r := (.iconst 1, 0, 0, 0)) rfl) ci_1).trans ?_
  exact wp_goto (off := 4) (t := 78) (zcode_of mc_83 (r := (.goto 4, 0, 0, 0)) rfl) (by decide)
theorem b83_77 {σ : zSt} {P : Option Value → zSt → Prop} {a0 a3 : Nat} {x1 x2 : Int32} :
    wp 83 77 [some (.ref a0), some (.int x1), some (.int x2), some (.ref a3)] [] σ P ↔ wp 83 78 [some (.ref a0), some (.int x1), some (.int x2), some (.ref a3)] [.int 0] σ P := by
  refine (wp_ic (n' := 78) rfl (zcode_of mc_83 (r := (.iconst 0, 0, 0, 0)) rfl) ci_0).trans ?_
  exact Iff.rfl
theorem b83_78 {σ : zSt} {P : Option Value → zSt → Prop} {a0 a3 : Nat} {x1 x2 s0 : Int32} :
    wp 83 78 [some (.ref a0), some (.int x1), some (.int x2), some (.ref a3)] [.int s0] σ P ↔ P (some (.int s0)) σ := by
  exact wp_retI (zcode_of mc_83 (r := (.ireturn, 0, 0, 0)) rfl) rfl
theorem b83_79 {σ : zSt} {P : Option Value → zSt → Prop} {a0 a3 : Nat} {x1 x2 : Int32} :
    wp 83 79 [some (.ref a0), some (.int x1), some (.int x2), some (.ref a3)] [] σ P ↔ (zIs σ a3 8 ∧ P (some (.int (zfi σ 8 6 a3))) σ) := by
  refine (wp_s (n := 80) (zcode_of mc_83 (r := (.aload_n 3, 0, 0, 0)) rfl) rfl rfl).trans ?_
  refine (wc_is (zcode_of mc_83 (r := (.getfield 100, 8, 6, 0)) rfl)).trans (and_congr_right fun h1 => ?_)
  refine (wc_getI (n' := 83) rfl (zcode_of mc_83 (r := (.getfield 100, 8, 6, 0)) rfl) rfl h1).trans ?_
  exact wp_retI (zcode_of mc_83 (r := (.ireturn, 0, 0, 0)) rfl) rfl
theorem b83_84 {σ : zSt} {P : Option Value → zSt → Prop} {a0 a3 : Nat} {x1 x2 : Int32} :
    wp 83 84 [some (.ref a0), some (.int x1), some (.int x2), some (.ref a3)] [] σ P ↔ P (some (.int (-2))) σ := by
  refine (wp_bp (n' := 86) rfl (zcode_of mc_83 (r := (.bipush (-2), 0, 0, 0)) rfl) cb_m2).trans ?_
  exact wp_retI (zcode_of mc_83 (r := (.ireturn, 0, 0, 0)) rfl) rfl
theorem mc_84 : mCode 84 = zc_84 := rfl
theorem b84 {σ : zSt} {P : Option Value → zSt → Prop} {a0 : Nat} {x3 : Int32} {x1 : Int64} :
    wpM 84 [.ref a0, .long x1, .int x3] σ P ↔ (if x3 < 1 then wp 84 11 [some (.ref a0), some (.long x1), none, some (.int x3), none] [] σ P else wp 84 5 [some (.ref a0), some (.long x1), none, some (.int x3), none] [] σ P) := by
  show wp 84 0 [some (.ref a0), some (.long x1), none, some (.int x3), none] [] σ P ↔ _
  refine (wp_s (n := 1) (zcode_of mc_84 (r := (.iload_n 3, 0, 0, 0)) rfl) rfl rfl).trans ?_
  refine (wp_ic (n' := 2) rfl (zcode_of mc_84 (r := (.iconst 1, 0, 0, 0)) rfl) ci_1).trans ?_
  exact wp_jump (off := 9) (t := 11) (zcode_of mc_84 (r := (.if_icmp .lt 9, 0, 0, 0)) rfl) rfl rfl (by decide)
theorem b84_5 {σ : zSt} {P : Option Value → zSt → Prop} {a0 : Nat} {x3 : Int32} {x1 : Int64} {u4 : Option Value} :
    wp 84 5 [some (.ref a0), some (.long x1), none, some (.int x3), u4] [] σ P ↔ (if x3 ≤ 8 then wp 84 14 [some (.ref a0), some (.long x1), none, some (.int x3), u4] [] σ P else wp 84 11 [some (.ref a0), some (.long x1), none, some (.int x3), u4] [] σ P) := by
  refine (wp_s (n := 6) (zcode_of mc_84 (r := (.iload_n 3, 0, 0, 0)) rfl) rfl rfl).trans ?_
  refine (wp_bp (n' := 8) rfl (zcode_of mc_84 (r := (.bipush 8, 0, 0, 0)) rfl) cb_8).trans ?_
  exact wp_jump (off := 6) (t := 14) (zcode_of mc_84 (r := (.if_icmp .le 6, 0, 0, 0)) rfl) rfl rfl (by decide)
theorem b84_11 {σ : zSt} {P : Option Value → zSt → Prop} {a0 : Nat} {x3 : Int32} {x1 : Int64} {u4 : Option Value} :
    wp 84 11 [some (.ref a0), some (.long x1), none, some (.int x3), u4] [] σ P ↔ P (some (.int (-2))) σ := by
  refine (wp_bp (n' := 13) rfl (zcode_of mc_84 (r := (.bipush (-2), 0, 0, 0)) rfl) cb_m2).trans ?_
  exact wp_retI (zcode_of mc_84 (r := (.ireturn, 0, 0, 0)) rfl) rfl
theorem b84_14 {σ : zSt} {P : Option Value → zSt → Prop} (hC : CShape σ) {a0 : Nat} {x3 : Int32} {x1 : Int64} {u4 : Option Value} :
    wp 84 14 [some (.ref a0), some (.long x1), none, some (.int x3), u4] [] σ P ↔ (zIs σ a0 11 ∧ (if ((zfi σ 2 1 (a0 + 11)) + x3) ≤ 64 then wp 84 31 [some (.ref a0), some (.long x1), none, some (.int x3), u4] [] σ P else wp 84 28 [some (.ref a0), some (.long x1), none, some (.int x3), u4] [] σ P)) := by
  refine (wp_s (n := 15) (zcode_of mc_84 (r := (.aload_n 0, 0, 0, 0)) rfl) rfl rfl).trans ?_
  refine (wc_is (zcode_of mc_84 (r := (.getfield 19, 11, 1, 0)) rfl)).trans (and_congr_right fun h1 => ?_)
  refine (wc_getR (n' := 18) (d := 11) rfl (zcode_of mc_84 (r := (.getfield 19, 11, 1, 0)) rfl) rfl hC le_11_1 rfl rfl rfl h1).trans ?_
  refine (wc_getI (n' := 21) rfl (zcode_of mc_84 (r := (.getfield 65, 2, 1, 0)) rfl) rfl (zIs_of (cs_T hC le_11_1 h1))).trans ?_
  refine (wp_s (n := 22) (zcode_of mc_84 (r := (.iload_n 3, 0, 0, 0)) rfl) rfl rfl).trans ?_
  refine (wp_s (n := 23) (zcode_of mc_84 (r := (.iadd, 0, 0, 0)) rfl) rfl rfl).trans ?_
  refine (wp_bp (n' := 25) rfl (zcode_of mc_84 (r := (.bipush 64, 0, 0, 0)) rfl) cb_64).trans ?_
  exact wp_jump (off := 6) (t := 31) (zcode_of mc_84 (r := (.if_icmp .le 6, 0, 0, 0)) rfl) rfl rfl (by decide)
theorem b84_28 {σ : zSt} {P : Option Value → zSt → Prop} {a0 : Nat} {x3 : Int32} {x1 : Int64} {u4 : Option Value} :
    wp 84 28 [some (.ref a0), some (.long x1), none, some (.int x3), u4] [] σ P ↔ P (some (.int (-6))) σ := by
  refine (wp_bp (n' := 30) rfl (zcode_of mc_84 (r := (.bipush (-6), 0, 0, 0)) rfl) cb_m6).trans ?_
  exact wp_retI (zcode_of mc_84 (r := (.ireturn, 0, 0, 0)) rfl) rfl
theorem b84_31 {σ : zSt} {P : Option Value → zSt → Prop} {a0 : Nat} {x3 : Int32} {x1 : Int64} {u4 : Option Value} :
    wp 84 31 [some (.ref a0), some (.long x1), none, some (.int x3), u4] [] σ P ↔ wp 84 36 [some (.ref a0), some (.long x1), none, some (.int x3), some (.int (x3 - 1))] [] σ P := by
  refine (wp_s (n := 32) (zcode_of mc_84 (r := (.iload_n 3, 0, 0, 0)) rfl) rfl rfl).trans ?_
  refine (wp_ic (n' := 33) rfl (zcode_of mc_84 (r := (.iconst 1, 0, 0, 0)) rfl) ci_1).trans ?_
  refine (wp_s (n := 34) (zcode_of mc_84 (r := (.isub, 0, 0, 0)) rfl) rfl rfl).trans ?_
  refine (wp_s (n := 36) (zcode_of mc_84 (r := (.istore 4, 0, 0, 0)) rfl) rfl rfl).trans ?_
  exact Iff.rfl
theorem b84_36 {σ : zSt} {P : Option Value → zSt → Prop} {a0 : Nat} {x3 x4 : Int32} {x1 : Int64} :
    wp 84 36 [some (.ref a0), some (.long x1), none, some (.int x3), some (.int x4)] [] σ P ↔ (if x4 < 0 then wp 84 67 [some (.ref a0), some (.long x1), none, some (.int x3), some (.int x4)] [] σ P else wp 84 41 [some (.ref a0), some (.long x1), none, some (.int x3), some (.int x4)] [] σ P) := by
  refine (wp_s (n := 38) (zcode_of mc_84 (r := (.iload 4, 0, 0, 0)) rfl) rfl rfl).trans ?_
  exact wp_jump (off := 29) (t := 67) (zcode_of mc_84 (r := (.ifCond .lt 29, 0, 0, 0)) rfl) rfl rfl (by decide)
theorem b84_41 {σ : zSt} {P : Option Value → zSt → Prop} (hC : CShape σ) {a0 : Nat} {x3 x4 : Int32} {x1 : Int64} :
    wp 84 41 [some (.ref a0), some (.long x1), none, some (.int x3), some (.int x4)] [] σ P ↔ (zIs σ a0 11 ∧ wpM 16 [.ref (a0 + 11), .int ((Int64.toInt32 (((x1 : Int64).toUInt64 >>> ((Int32.toInt64 (8 * x4)).toUInt64 &&& Int64.toUInt64 63)).toInt64)) &&& 255)] σ (fun r τ => wp 84 60 [some (.ref a0), some (.long x1), none, some (.int x3), some (.int x4)] (r.toList ++ []) τ P)) := by
  refine (wp_s (n := 42) (zcode_of mc_84 (r := (.aload_n 0, 0, 0, 0)) rfl) rfl rfl).trans ?_
  refine (wc_is (zcode_of mc_84 (r := (.getfield 19, 11, 1, 0)) rfl)).trans (and_congr_right fun h1 => ?_)
  refine (wc_getR (n' := 45) (d := 11) rfl (zcode_of mc_84 (r := (.getfield 19, 11, 1, 0)) rfl) rfl hC le_11_1 rfl rfl rfl h1).trans ?_
  refine (wp_s (n := 46) (zcode_of mc_84 (r := (.lload_n 1, 0, 0, 0)) rfl) rfl rfl).trans ?_
  refine (wp_bp (n' := 48) rfl (zcode_of mc_84 (r := (.bipush 8, 0, 0, 0)) rfl) cb_8).trans ?_
  refine (wp_s (n := 50) (zcode_of mc_84 (r := (.iload 4, 0, 0, 0)) rfl) rfl rfl).trans ?_
  refine (wp_s (n := 51) (zcode_of mc_84 (r := (.imul, 0, 0, 0)) rfl) rfl rfl).trans ?_
  refine (wp_s (n := 52) (zcode_of mc_84 (r := (.lushr, 0, 0, 0)) rfl) rfl rfl).trans ?_
  refine (wp_s (n := 53) (zcode_of mc_84 (r := (.l2i, 0, 0, 0)) rfl) rfl rfl).trans ?_
  refine (wp_sp (n' := 56) rfl (zcode_of mc_84 (r := (.sipush 255, 0, 0, 0)) rfl) cs_255).trans ?_
  refine (wp_s (n := 57) (zcode_of mc_84 (r := (.iand, 0, 0, 0)) rfl) rfl rfl).trans ?_
  exact wp_call (q := ([.ref (a0 + 11), .int ((Int64.toInt32 (((x1 : Int64).toUInt64 >>> ((Int32.toInt64 (8 * x4)).toUInt64 &&& Int64.toUInt64 63)).toInt64)) &&& 255)], [])) (zcode_of mc_84 (r := (.invokevirtual 103, 16, 0, 1)) rfl) rfl (zCa_V (Nat.le_of_ble_eq_true rfl) rfl (zIs_of (cs_T hC le_11_1 h1))) ⟨Nat.le_of_ble_eq_true rfl, Nat.le_of_ble_eq_true rfl⟩
theorem b84_60 {σ : zSt} {P : Option Value → zSt → Prop} {a0 : Nat} {x3 x4 s0 : Int32} {x1 : Int64} :
    wp 84 60 [some (.ref a0), some (.long x1), none, some (.int x3), some (.int x4)] [.int s0] σ P ↔ wp 84 36 [some (.ref a0), some (.long x1), none, some (.int x3), some (.int (x4 + (-1)))] [] σ P := by
  refine (wp_s (n := 61) (zcode_of mc_84 (r := (.pop, 0, 0, 0)) rfl) rfl rfl).trans ?_
  refine (wp_inc (n' := 64) rfl (zcode_of mc_84 (r := (.iinc 4 (-1), 0, 0, 0)) rfl) rfl rfl ci_m1).trans ?_
  exact wp_goto (off := (-28)) (t := 36) (zcode_of mc_84 (r := (.goto (-28), 0, 0, 0)) rfl) (by decide)
theorem b84_67 {σ : zSt} {P : Option Value → zSt → Prop} (hC : CShape σ) {a0 : Nat} {x3 x4 : Int32} {x1 : Int64} :
    wp 84 67 [some (.ref a0), some (.long x1), none, some (.int x3), some (.int x4)] [] σ P ↔ (zIs σ a0 11 ∧ P (some (.int (zfi σ 2 1 (a0 + 11)))) σ) := by
  refine (wp_s (n := 68) (zcode_of mc_84 (r := (.aload_n 0, 0, 0, 0)) rfl) rfl rfl).trans ?_
  refine (wc_is (zcode_of mc_84 (r := (.getfield 19, 11, 1, 0)) rfl)).trans (and_congr_right fun h1 => ?_)
  refine (wc_getR (n' := 71) (d := 11) rfl (zcode_of mc_84 (r := (.getfield 19, 11, 1, 0)) rfl) rfl hC le_11_1 rfl rfl rfl h1).trans ?_
  refine (wc_getI (n' := 74) rfl (zcode_of mc_84 (r := (.getfield 65, 2, 1, 0)) rfl) rfl (zIs_of (cs_T hC le_11_1 h1))).trans ?_
  exact wp_retI (zcode_of mc_84 (r := (.ireturn, 0, 0, 0)) rfl) rfl
theorem mc_85 : mCode 85 = zc_85 := rfl
theorem b85 {σ : zSt} {P : Option Value → zSt → Prop} {a0 : Nat} {x1 x2 : Int32} :
    wpM 85 [.ref a0, .int x1, .int x2] σ P ↔ (zIs σ a0 11 ∧ wpM 110 [.ref a0, .int x1, .int x2] σ (fun r τ => wp 85 6 [some (.ref a0), some (.int x1), some (.int x2), none] (r.toList ++ []) τ P)) := by
  show wp 85 0 [some (.ref a0), some (.int x1), some (.int x2), none] [] σ P ↔ _
  refine (wp_s (n := 1) (zcode_of mc_85 (r := (.aload_n 0, 0, 0, 0)) rfl) rfl rfl).trans ?_
  refine (wp_s (n := 2) (zcode_of mc_85 (r := (.iload_n 1, 0, 0, 0)) rfl) rfl rfl).trans ?_
  refine (wp_s (n := 3) (zcode_of mc_85 (r := (.iload_n 2, 0, 0, 0)) rfl) rfl rfl).trans ?_
  refine (wc_isV (cl := 11) (rest := []) (zcode_of mc_85 (r := (.invokevirtual 106, 110, 0, 2)) rfl) rfl rfl rfl).trans (and_congr_right fun h1 => ?_)
  exact wp_call (q := ([.ref a0, .int x1, .int x2], [])) (zcode_of mc_85 (r := (.invokevirtual 106, 110, 0, 2)) rfl) rfl (zCa_V (Nat.le_of_ble_eq_true rfl) rfl h1) ⟨Nat.le_of_ble_eq_true rfl, Nat.le_of_ble_eq_true rfl⟩
theorem b85_6 {σ : zSt} {P : Option Value → zSt → Prop} {a0 : Nat} {x1 x2 s0 : Int32} {u3 : Option Value} :
    wp 85 6 [some (.ref a0), some (.int x1), some (.int x2), u3] [.int s0] σ P ↔ (if s0 = 0 then wp 85 13 [some (.ref a0), some (.int x1), some (.int x2), some (.int s0)] [] σ P else wp 85 11 [some (.ref a0), some (.int x1), some (.int x2), some (.int s0)] [] σ P) := by
  refine (wp_s (n := 7) (zcode_of mc_85 (r := (.istore_n 3, 0, 0, 0)) rfl) rfl rfl).trans ?_
  refine (wp_s (n := 8) (zcode_of mc_85 (r := (.iload_n 3, 0, 0, 0)) rfl) rfl rfl).trans ?_
  exact wp_jump (off := 5) (t := 13) (zcode_of mc_85 (r := (.ifCond .eq 5, 0, 0, 0)) rfl) rfl rfl (by decide)
theorem b85_11 {σ : zSt} {P : Option Value → zSt → Prop} {a0 : Nat} {x1 x2 x3 : Int32} :
    wp 85 11 [some (.ref a0), some (.int x1), some (.int x2), some (.int x3)] [] σ P ↔ P (some (.int x3)) σ := by
  refine (wp_s (n := 12) (zcode_of mc_85 (r := (.iload_n 3, 0, 0, 0)) rfl) rfl rfl).trans ?_
  exact wp_retI (zcode_of mc_85 (r := (.ireturn, 0, 0, 0)) rfl) rfl
theorem b85_13 {σ : zSt} {P : Option Value → zSt → Prop} (hC : CShape σ) {a0 : Nat} {x1 x2 x3 : Int32} :
    wp 85 13 [some (.ref a0), some (.int x1), some (.int x2), some (.int x3)] [] σ P ↔ (zIs σ a0 11 ∧ wpM 77 [.ref (a0 + 1), .int x2] σ (fun r τ => wp 85 21 [some (.ref a0), some (.int x1), some (.int x2), some (.int x3)] (r.toList ++ []) τ P)) := by
  refine (wp_s (n := 14) (zcode_of mc_85 (r := (.aload_n 0, 0, 0, 0)) rfl) rfl rfl).trans ?_
  refine (wc_is (zcode_of mc_85 (r := (.getfield 12, 11, 0, 0)) rfl)).trans (and_congr_right fun h1 => ?_)
  refine (wc_getR (n' := 17) (d := 1) rfl (zcode_of mc_85 (r := (.getfield 12, 11, 0, 0)) rfl) rfl hC le_11_0 rfl rfl rfl h1).trans ?_
  refine (wp_s (n := 18) (zcode_of mc_85 (r := (.iload_n 2, 0, 0, 0)) rfl) rfl rfl).trans ?_
  exact wp_call (q := ([.ref (a0 + 1), .int x2], [])) (zcode_of mc_85 (r := (.invokevirtual 73, 77, 0, 1)) rfl) rfl (zCa_V (Nat.le_of_ble_eq_true rfl) rfl (zIs_of (cs_T hC le_11_0 h1))) ⟨Nat.le_of_ble_eq_true rfl, Nat.le_of_ble_eq_true rfl⟩
theorem b85_21 {σ : zSt} {P : Option Value → zSt → Prop} (hC : CShape σ) {a0 s0 : Nat} {x1 x2 x3 : Int32} :
    wp 85 21 [some (.ref a0), some (.int x1), some (.int x2), some (.int x3)] [.ref s0] σ P ↔ (zIs σ s0 8 ∧ (zIn x1 2 ∧ (zIs σ a0 11 ∧ wpM 18 [.ref ((s0 + 1) + 2 + 2 * Int32.toNatClampNeg x1), .ref (a0 + 11)] σ (fun r τ => wp 85 33 [some (.ref a0), some (.int x1), some (.int x2), some (.int x3)] (r.toList ++ []) τ P)))) := by
  refine (wc_is (zcode_of mc_85 (r := (.getfield 110, 8, 4, 0)) rfl)).trans (and_congr_right fun h1 => ?_)
  refine (wc_getR (n' := 24) (d := 1) rfl (zcode_of mc_85 (r := (.getfield 110, 8, 4, 0)) rfl) rfl hC le_8_4 rfl rfl rfl h1).trans ?_
  refine (wp_s (n := 25) (zcode_of mc_85 (r := (.iload_n 1, 0, 0, 0)) rfl) rfl rfl).trans ?_
  refine (wc_ald (n' := 26) rfl (zcode_of mc_85 (r := (.aaload, 0, 0, 0)) rfl) hC la_6 rfl rfl rfl rfl rfl (cs_T hC le_8_4 h1)).trans (and_congr_right fun h2 => ?_)
  refine (wp_s (n := 27) (zcode_of mc_85 (r := (.aload_n 0, 0, 0, 0)) rfl) rfl rfl).trans ?_
  refine (wc_is (zcode_of mc_85 (r := (.getfield 19, 11, 1, 0)) rfl)).trans (and_congr_right fun h3 => ?_)
  refine (wc_getR (n' := 30) (d := 11) rfl (zcode_of mc_85 (r := (.getfield 19, 11, 1, 0)) rfl) rfl hC le_11_1 rfl rfl rfl h3).trans ?_
  exact wp_call (q := ([.ref ((s0 + 1) + 2 + 2 * Int32.toNatClampNeg x1), .ref (a0 + 11)], [])) (zcode_of mc_85 (r := (.invokevirtual 114, 18, 0, 1)) rfl) rfl (zCa_V (Nat.le_of_ble_eq_true rfl) rfl (zIs_of (cs_A hC la_6 (cs_T hC le_8_4 h1) h2))) ⟨Nat.le_of_ble_eq_true rfl, Nat.le_of_ble_eq_true rfl⟩
theorem b85_33 {σ : zSt} {P : Option Value → zSt → Prop} (hC : CShape σ) {a0 : Nat} {x1 x2 x3 : Int32} :
    wp 85 33 [some (.ref a0), some (.int x1), some (.int x2), some (.int x3)] [] σ P ↔ (zIs σ a0 11 ∧ wpM 77 [.ref (a0 + 1), .int x2] (sfi σ 2 1 (a0 + 11) 0) (fun r τ => wp 85 49 [some (.ref a0), some (.int x1), some (.int x2), some (.int x3)] (r.toList ++ []) τ P)) := by
  refine (wp_s (n := 34) (zcode_of mc_85 (r := (.aload_n 0, 0, 0, 0)) rfl) rfl rfl).trans ?_
  refine (wc_is (zcode_of mc_85 (r := (.getfield 19, 11, 1, 0)) rfl)).trans (and_congr_right fun h1 => ?_)
  refine (wc_getR (n' := 37) (d := 11) rfl (zcode_of mc_85 (r := (.getfield 19, 11, 1, 0)) rfl) rfl hC le_11_1 rfl rfl rfl h1).trans ?_
  refine (wp_ic (n' := 38) rfl (zcode_of mc_85 (r := (.iconst 0, 0, 0, 0)) rfl) ci_0).trans ?_
  refine (wc_putI (n' := 41) rfl (zcode_of mc_85 (r := (.putfield 65, 2, 1, 0)) rfl) rfl (zIs_of (cs_T hC le_11_1 h1))).trans ?_
  refine (wp_s (n := 42) (zcode_of mc_85 (r := (.aload_n 0, 0, 0, 0)) rfl) rfl rfl).trans ?_
  refine (wc_getR (σ := sfi σ 2 1 (a0 + 11) 0) (n' := 45) (d := 1) rfl (zcode_of mc_85 (r := (.getfield 12, 11, 0, 0)) rfl) rfl (cs_sfi hC) le_11_0 rfl rfl rfl h1).trans ?_
  refine (wp_s (n := 46) (zcode_of mc_85 (r := (.iload_n 2, 0, 0, 0)) rfl) rfl rfl).trans ?_
  exact wp_call (q := ([.ref (a0 + 1), .int x2], [])) (zcode_of mc_85 (r := (.invokevirtual 73, 77, 0, 1)) rfl) rfl (zCa_V (Nat.le_of_ble_eq_true rfl) rfl (zIs_of (cs_T (cs_sfi hC) le_11_0 h1))) ⟨Nat.le_of_ble_eq_true rfl, Nat.le_of_ble_eq_true rfl⟩
theorem b85_49 {σ : zSt} {P : Option Value → zSt → Prop} (hC : CShape σ) {a0 s0 : Nat} {x1 x2 x3 : Int32} :
    wp 85 49 [some (.ref a0), some (.int x1), some (.int x2), some (.int x3)] [.ref s0] σ P ↔ (zIs σ s0 8 ∧ (zIn x1 2 ∧ P (some (.int (zfi σ 2 1 ((s0 + 1) + 2 + 2 * Int32.toNatClampNeg x1)))) σ)) := by
  refine (wc_is (zcode_of mc_85 (r := (.getfield 110, 8, 4, 0)) rfl)).trans (and_congr_right fun h1 => ?_)
  refine (wc_getR (n' := 52) (d := 1) rfl (zcode_of mc_85 (r := (.getfield 110, 8, 4, 0)) rfl) rfl hC le_8_4 rfl rfl rfl h1).trans ?_
  refine (wp_s (n := 53) (zcode_of mc_85 (r := (.iload_n 1, 0, 0, 0)) rfl) rfl rfl).trans ?_
  refine (wc_ald (n' := 54) rfl (zcode_of mc_85 (r := (.aaload, 0, 0, 0)) rfl) hC la_6 rfl rfl rfl rfl rfl (cs_T hC le_8_4 h1)).trans (and_congr_right fun h2 => ?_)
  refine (wc_getI (n' := 57) rfl (zcode_of mc_85 (r := (.getfield 65, 2, 1, 0)) rfl) rfl (zIs_of (cs_A hC la_6 (cs_T hC le_8_4 h1) h2))).trans ?_
  exact wp_retI (zcode_of mc_85 (r := (.ireturn, 0, 0, 0)) rfl) rfl
theorem mc_86 : mCode 86 = zc_86 := rfl
theorem b86 {σ : zSt} {P : Option Value → zSt → Prop} {a0 : Nat} {x1 x2 : Int32} :
    wpM 86 [.ref a0, .int x1, .int x2] σ P ↔ (zIs σ a0 11 ∧ wpM 110 [.ref a0, .int x1, .int x2] σ (fun r τ => wp 86 6 [some (.ref a0), some (.int x1), some (.int x2), none, none, none] (r.toList ++ []) τ P)) := by
  show wp 86 0 [some (.ref a0), some (.int x1), some (.int x2), none, none, none] [] σ P ↔ _
  refine (wp_s (n := 1) (zcode_of mc_86 (r := (.aload_n 0, 0, 0, 0)) rfl) rfl rfl).trans ?_
  refine (wp_s (n := 2) (zcode_of mc_86 (r := (.iload_n 1, 0, 0, 0)) rfl) rfl rfl).trans ?_
  refine (wp_s (n := 3) (zcode_of mc_86 (r := (.iload_n 2, 0, 0, 0)) rfl) rfl rfl).trans ?_
  refine (wc_isV (cl := 11) (rest := []) (zcode_of mc_86 (r := (.invokevirtual 106, 110, 0, 2)) rfl) rfl rfl rfl).trans (and_congr_right fun h1 => ?_)
  exact wp_call (q := ([.ref a0, .int x1, .int x2], [])) (zcode_of mc_86 (r := (.invokevirtual 106, 110, 0, 2)) rfl) rfl (zCa_V (Nat.le_of_ble_eq_true rfl) rfl h1) ⟨Nat.le_of_ble_eq_true rfl, Nat.le_of_ble_eq_true rfl⟩
theorem b86_6 {σ : zSt} {P : Option Value → zSt → Prop} {a0 : Nat} {x1 x2 s0 : Int32} {u3 u4 u5 : Option Value} :
    wp 86 6 [some (.ref a0), some (.int x1), some (.int x2), u3, u4, u5] [.int s0] σ P ↔ (if s0 = 0 then wp 86 13 [some (.ref a0), some (.int x1), some (.int x2), some (.int s0), u4, u5] [] σ P else wp 86 11 [some (.ref a0), some (.int x1), some (.int x2), some (.int s0), u4, u5] [] σ P) := by
  refine (wp_s (n := 7) (zcode_of mc_86 (r := (.istore_n 3, 0, 0, 0)) rfl) rfl rfl).trans ?_
  refine (wp_s (n := 8) (zcode_of mc_86 (r := (.iload_n 3, 0, 0, 0)) rfl) rfl rfl).trans ?_
  exact wp_jump (off := 5) (t := 13) (zcode_of mc_86 (r := (.ifCond .eq 5, 0, 0, 0)) rfl) rfl rfl (by decide)
theorem b86_11 {σ : zSt} {P : Option Value → zSt → Prop} {a0 : Nat} {x1 x2 x3 : Int32} {u4 u5 : Option Value} :
    wp 86 11 [some (.ref a0), some (.int x1), some (.int x2), some (.int x3), u4, u5] [] σ P ↔ P (some (.int x3)) σ := by
  refine (wp_s (n := 12) (zcode_of mc_86 (r := (.iload_n 3, 0, 0, 0)) rfl) rfl rfl).trans ?_
  exact wp_retI (zcode_of mc_86 (r := (.ireturn, 0, 0, 0)) rfl) rfl
theorem b86_13 {σ : zSt} {P : Option Value → zSt → Prop} (hC : CShape σ) {a0 : Nat} {x1 x2 x3 : Int32} {u4 u5 : Option Value} :
    wp 86 13 [some (.ref a0), some (.int x1), some (.int x2), some (.int x3), u4, u5] [] σ P ↔ (zIs σ a0 11 ∧ wpM 77 [.ref (a0 + 1), .int x2] σ (fun r τ => wp 86 21 [some (.ref a0), some (.int x1), some (.int x2), some (.int x3), u4, u5] (r.toList ++ []) τ P)) := by
  refine (wp_s (n := 14) (zcode_of mc_86 (r := (.aload_n 0, 0, 0, 0)) rfl) rfl rfl).trans ?_
  refine (wc_is (zcode_of mc_86 (r := (.getfield 12, 11, 0, 0)) rfl)).trans (and_congr_right fun h1 => ?_)
  refine (wc_getR (n' := 17) (d := 1) rfl (zcode_of mc_86 (r := (.getfield 12, 11, 0, 0)) rfl) rfl hC le_11_0 rfl rfl rfl h1).trans ?_
  refine (wp_s (n := 18) (zcode_of mc_86 (r := (.iload_n 2, 0, 0, 0)) rfl) rfl rfl).trans ?_
  exact wp_call (q := ([.ref (a0 + 1), .int x2], [])) (zcode_of mc_86 (r := (.invokevirtual 73, 77, 0, 1)) rfl) rfl (zCa_V (Nat.le_of_ble_eq_true rfl) rfl (zIs_of (cs_T hC le_11_0 h1))) ⟨Nat.le_of_ble_eq_true rfl, Nat.le_of_ble_eq_true rfl⟩
theorem b86_21 {σ : zSt} {P : Option Value → zSt → Prop} (hC : CShape σ) {a0 s0 : Nat} {x1 x2 x3 : Int32} {u4 u5 : Option Value} :
    wp 86 21 [some (.ref a0), some (.int x1), some (.int x2), some (.int x3), u4, u5] [.ref s0] σ P ↔ (zIs σ s0 8 ∧ (zIn x1 2 ∧ P (some (.int (zfi σ 2 1 ((s0 + 1) + 2 + 2 * Int32.toNatClampNeg x1)))) (sfi σ 2 1 ((s0 + 1) + 2 + 2 * Int32.toNatClampNeg x1) (-1)))) := by
  refine (wc_is (zcode_of mc_86 (r := (.getfield 110, 8, 4, 0)) rfl)).trans (and_congr_right fun h1 => ?_)
  refine (wc_getR (n' := 24) (d := 1) rfl (zcode_of mc_86 (r := (.getfield 110, 8, 4, 0)) rfl) rfl hC le_8_4 rfl rfl rfl h1).trans ?_
  refine (wp_s (n := 25) (zcode_of mc_86 (r := (.iload_n 1, 0, 0, 0)) rfl) rfl rfl).trans ?_
  refine (wc_ald (n' := 26) rfl (zcode_of mc_86 (r := (.aaload, 0, 0, 0)) rfl) hC la_6 rfl rfl rfl rfl rfl (cs_T hC le_8_4 h1)).trans (and_congr_right fun h2 => ?_)
  refine (wp_s (n := 28) (zcode_of mc_86 (r := (.astore 4, 0, 0, 0)) rfl) rfl rfl).trans ?_
  refine (wp_s (n := 30) (zcode_of mc_86 (r := (.aload 4, 0, 0, 0)) rfl) rfl rfl).trans ?_
  refine (wc_getI (n' := 33) rfl (zcode_of mc_86 (r := (.getfield 65, 2, 1, 0)) rfl) rfl (zIs_of (cs_A hC la_6 (cs_T hC le_8_4 h1) h2))).trans ?_
  refine (wp_s (n := 35) (zcode_of mc_86 (r := (.istore 5, 0, 0, 0)) rfl) rfl rfl).trans ?_
  refine (wp_s (n := 37) (zcode_of mc_86 (r := (.aload 4, 0, 0, 0)) rfl) rfl rfl).trans ?_
  refine (wp_ic (n' := 38) rfl (zcode_of mc_86 (r := (.iconst (-1), 0, 0, 0)) rfl) ci_m1).trans ?_
  refine (wc_putI (n' := 41) rfl (zcode_of mc_86 (r := (.putfield 65, 2, 1, 0)) rfl) rfl (zIs_of (cs_A hC la_6 (cs_T hC le_8_4 h1) h2))).trans ?_
  refine (wp_s (n := 43) (zcode_of mc_86 (r := (.iload 5, 0, 0, 0)) rfl) rfl rfl).trans ?_
  exact wp_retI (zcode_of mc_86 (r := (.ireturn, 0, 0, 0)) rfl) rfl
theorem mc_87 : mCode 87 = zc_87 := rfl
theorem b87 {σ : zSt} {P : Option Value → zSt → Prop} {a0 : Nat} {x1 : Int32} :
    wpM 87 [.ref a0, .int x1] σ P ↔ wpM 107 [.int x1] σ (fun r τ => wp 87 4 [some (.ref a0), some (.int x1)] (r.toList ++ []) τ P) := by
  show wp 87 0 [some (.ref a0), some (.int x1)] [] σ P ↔ _
  refine (wp_s (n := 1) (zcode_of mc_87 (r := (.iload_n 1, 0, 0, 0)) rfl) rfl rfl).trans ?_
  exact wp_call (q := ([.int x1], [])) (zcode_of mc_87 (r := (.invokestatic 118, 107, 1, 1)) rfl) rfl rfl ⟨Nat.le_of_ble_eq_true rfl, Nat.le_of_ble_eq_true rfl⟩
theorem b87_4 {σ : zSt} {P : Option Value → zSt → Prop} {a0 : Nat} {x1 s0 : Int32} :
    wp 87 4 [some (.ref a0), some (.int x1)] [.int s0] σ P ↔ (if ¬ s0 = 0 then wp 87 10 [some (.ref a0), some (.int x1)] [] σ P else wp 87 7 [some (.ref a0), some (.int x1)] [] σ P) := by
  exact wp_jump (off := 6) (t := 10) (zcode_of mc_87 (r := (.ifCond .ne 6, 0, 0, 0)) rfl) rfl rfl (by decide)
theorem b87_7 {σ : zSt} {P : Option Value → zSt → Prop} {a0 : Nat} {x1 : Int32} :
    wp 87 7 [some (.ref a0), some (.int x1)] [] σ P ↔ P (some (.int (-2))) σ := by
  refine (wp_bp (n' := 9) rfl (zcode_of mc_87 (r := (.bipush (-2), 0, 0, 0)) rfl) cb_m2).trans ?_
  exact wp_retI (zcode_of mc_87 (r := (.ireturn, 0, 0, 0)) rfl) rfl
theorem b87_10 {σ : zSt} {P : Option Value → zSt → Prop} (hC : CShape σ) {a0 : Nat} {x1 : Int32} :
    wp 87 10 [some (.ref a0), some (.int x1)] [] σ P ↔ (zIs σ a0 11 ∧ wpM 80 [.ref (a0 + 1), .int (1 - x1), .int x1] σ (fun r τ => wp 87 21 [some (.ref a0), some (.int x1)] (r.toList ++ []) τ P)) := by
  refine (wp_s (n := 11) (zcode_of mc_87 (r := (.aload_n 0, 0, 0, 0)) rfl) rfl rfl).trans ?_
  refine (wc_is (zcode_of mc_87 (r := (.getfield 12, 11, 0, 0)) rfl)).trans (and_congr_right fun h1 => ?_)
  refine (wc_getR (n' := 14) (d := 1) rfl (zcode_of mc_87 (r := (.getfield 12, 11, 0, 0)) rfl) rfl hC le_11_0 rfl rfl rfl h1).trans ?_
  refine (wp_ic (n' := 15) rfl (zcode_of mc_87 (r := (.iconst 1, 0, 0, 0)) rfl) ci_1).trans ?_
  refine (wp_s (n := 16) (zcode_of mc_87 (r := (.iload_n 1, 0, 0, 0)) rfl) rfl rfl).trans ?_
  refine (wp_s (n := 17) (zcode_of mc_87 (r := (.isub, 0, 0, 0)) rfl) rfl rfl).trans ?_
  refine (wp_s (n := 18) (zcode_of mc_87 (r := (.iload_n 1, 0, 0, 0)) rfl) rfl rfl).trans ?_
  exact wp_call (q := ([.ref (a0 + 1), .int (1 - x1), .int x1], [])) (zcode_of mc_87 (r := (.invokevirtual 121, 80, 0, 2)) rfl) rfl (zCa_V (Nat.le_of_ble_eq_true rfl) rfl (zIs_of (cs_T hC le_11_0 h1))) ⟨Nat.le_of_ble_eq_true rfl, Nat.le_of_ble_eq_true rfl⟩
theorem b87_21 {σ : zSt} {P : Option Value → zSt → Prop} {a0 : Nat} {x1 s0 : Int32} :
    wp 87 21 [some (.ref a0), some (.int x1)] [.int s0] σ P ↔ P (some (.int s0)) σ := by
  exact wp_retI (zcode_of mc_87 (r := (.ireturn, 0, 0, 0)) rfl) rfl
theorem mc_88 : mCode 88 = zc_88 := rfl
theorem b88 {σ : zSt} {P : Option Value → zSt → Prop} {a0 : Nat} {x1 x2 : Int32} :
    wpM 88 [.ref a0, .int x1, .int x2] σ P ↔ (zIs σ a0 11 ∧ wpM 109 [.ref a0, .int x1, .int x2] σ (fun r τ => wp 88 6 [some (.ref a0), some (.int x1), some (.int x2), none] (r.toList ++ []) τ P)) := by
  show wp 88 0 [some (.ref a0), some (.int x1), some (.int x2), none] [] σ P ↔ _
  refine (wp_s (n := 1) (zcode_of mc_88 (r := (.aload_n 0, 0, 0, 0)) rfl) rfl rfl).trans ?_
  refine (wp_s (n := 2) (zcode_of mc_88 (r := (.iload_n 1, 0, 0, 0)) rfl) rfl rfl).trans ?_
  refine (wp_s (n := 3) (zcode_of mc_88 (r := (.iload_n 2, 0, 0, 0)) rfl) rfl rfl).trans ?_
  refine (wc_isV (cl := 11) (rest := []) (zcode_of mc_88 (r := (.invokevirtual 124, 109, 0, 2)) rfl) rfl rfl rfl).trans (and_congr_right fun h1 => ?_)
  exact wp_call (q := ([.ref a0, .int x1, .int x2], [])) (zcode_of mc_88 (r := (.invokevirtual 124, 109, 0, 2)) rfl) rfl (zCa_V (Nat.le_of_ble_eq_true rfl) rfl h1) ⟨Nat.le_of_ble_eq_true rfl, Nat.le_of_ble_eq_true rfl⟩
theorem b88_6 {σ : zSt} {P : Option Value → zSt → Prop} {a0 : Nat} {x1 x2 s0 : Int32} {u3 : Option Value} :
    wp 88 6 [some (.ref a0), some (.int x1), some (.int x2), u3] [.int s0] σ P ↔ (if s0 = 0 then wp 88 13 [some (.ref a0), some (.int x1), some (.int x2), some (.int s0)] [] σ P else wp 88 11 [some (.ref a0), some (.int x1), some (.int x2), some (.int s0)] [] σ P) := by
  refine (wp_s (n := 7) (zcode_of mc_88 (r := (.istore_n 3, 0, 0, 0)) rfl) rfl rfl).trans ?_
  refine (wp_s (n := 8) (zcode_of mc_88 (r := (.iload_n 3, 0, 0, 0)) rfl) rfl rfl).trans ?_
  exact wp_jump (off := 5) (t := 13) (zcode_of mc_88 (r := (.ifCond .eq 5, 0, 0, 0)) rfl) rfl rfl (by decide)
theorem b88_11 {σ : zSt} {P : Option Value → zSt → Prop} {a0 : Nat} {x1 x2 x3 : Int32} :
    wp 88 11 [some (.ref a0), some (.int x1), some (.int x2), some (.int x3)] [] σ P ↔ P (some (.int x3)) σ := by
  refine (wp_s (n := 12) (zcode_of mc_88 (r := (.iload_n 3, 0, 0, 0)) rfl) rfl rfl).trans ?_
  exact wp_retI (zcode_of mc_88 (r := (.ireturn, 0, 0, 0)) rfl) rfl
theorem b88_13 {σ : zSt} {P : Option Value → zSt → Prop} (hC : CShape σ) {a0 : Nat} {x1 x2 x3 : Int32} :
    wp 88 13 [some (.ref a0), some (.int x1), some (.int x2), some (.int x3)] [] σ P ↔ (zIs σ a0 11 ∧ wpM 77 [.ref (a0 + 1), .int x2] σ (fun r τ => wp 88 21 [some (.ref a0), some (.int x1), some (.int x2), some (.int x3)] (r.toList ++ []) τ P)) := by
  refine (wp_s (n := 14) (zcode_of mc_88 (r := (.aload_n 0, 0, 0, 0)) rfl) rfl rfl).trans ?_
  refine (wc_is (zcode_of mc_88 (r := (.getfield 12, 11, 0, 0)) rfl)).trans (and_congr_right fun h1 => ?_)
  refine (wc_getR (n' := 17) (d := 1) rfl (zcode_of mc_88 (r := (.getfield 12, 11, 0, 0)) rfl) rfl hC le_11_0 rfl rfl rfl h1).trans ?_
  refine (wp_s (n := 18) (zcode_of mc_88 (r := (.iload_n 2, 0, 0, 0)) rfl) rfl rfl).trans ?_
  exact wp_call (q := ([.ref (a0 + 1), .int x2], [])) (zcode_of mc_88 (r := (.invokevirtual 73, 77, 0, 1)) rfl) rfl (zCa_V (Nat.le_of_ble_eq_true rfl) rfl (zIs_of (cs_T hC le_11_0 h1))) ⟨Nat.le_of_ble_eq_true rfl, Nat.le_of_ble_eq_true rfl⟩
theorem b88_21 {σ : zSt} {P : Option Value → zSt → Prop} (hC : CShape σ) {a0 s0 : Nat} {x1 x2 x3 : Int32} :
    wp 88 21 [some (.ref a0), some (.int x1), some (.int x2), some (.int x3)] [.ref s0] σ P ↔ (zIs σ s0 8 ∧ (zIn x1 2 ∧ P (some (.int (zfi σ 2 1 ((s0 + 1) + 2 + 2 * Int32.toNatClampNeg x1)))) σ)) := by
  refine (wc_is (zcode_of mc_88 (r := (.getfield 110, 8, 4, 0)) rfl)).trans (and_congr_right fun h1 => ?_)
  refine (wc_getR (n' := 24) (d := 1) rfl (zcode_of mc_88 (r := (.getfield 110, 8, 4, 0)) rfl) rfl hC le_8_4 rfl rfl rfl h1).trans ?_
  refine (wp_s (n := 25) (zcode_of mc_88 (r := (.iload_n 1, 0, 0, 0)) rfl) rfl rfl).trans ?_
  refine (wc_ald (n' := 26) rfl (zcode_of mc_88 (r := (.aaload, 0, 0, 0)) rfl) hC la_6 rfl rfl rfl rfl rfl (cs_T hC le_8_4 h1)).trans (and_congr_right fun h2 => ?_)
  refine (wc_getI (n' := 29) rfl (zcode_of mc_88 (r := (.getfield 65, 2, 1, 0)) rfl) rfl (zIs_of (cs_A hC la_6 (cs_T hC le_8_4 h1) h2))).trans ?_
  exact wp_retI (zcode_of mc_88 (r := (.ireturn, 0, 0, 0)) rfl) rfl
theorem mc_89 : mCode 89 = zc_89 := rfl
theorem b89 {σ : zSt} {P : Option Value → zSt → Prop} {a0 : Nat} {x1 x2 x3 : Int32} :
    wpM 89 [.ref a0, .int x1, .int x2, .int x3] σ P ↔ (zIs σ a0 11 ∧ wpM 109 [.ref a0, .int x1, .int x2] σ (fun r τ => wp 89 6 [some (.ref a0), some (.int x1), some (.int x2), some (.int x3), none, none] (r.toList ++ []) τ P)) := by
  show wp 89 0 [some (.ref a0), some (.int x1), some (.int x2), some (.int x3), none, none] [] σ P ↔ _
  refine (wp_s (n := 1) (zcode_of mc_89 (r := (.aload_n 0, 0, 0, 0)) rfl) rfl rfl).trans ?_
  refine (wp_s (n := 2) (zcode_of mc_89 (r := (.iload_n 1, 0, 0, 0)) rfl) rfl rfl).trans ?_
  refine (wp_s (n := 3) (zcode_of mc_89 (r := (.iload_n 2, 0, 0, 0)) rfl) rfl rfl).trans ?_
  refine (wc_isV (cl := 11) (rest := []) (zcode_of mc_89 (r := (.invokevirtual 124, 109, 0, 2)) rfl) rfl rfl rfl).trans (and_congr_right fun h1 => ?_)
  exact wp_call (q := ([.ref a0, .int x1, .int x2], [])) (zcode_of mc_89 (r := (.invokevirtual 124, 109, 0, 2)) rfl) rfl (zCa_V (Nat.le_of_ble_eq_true rfl) rfl h1) ⟨Nat.le_of_ble_eq_true rfl, Nat.le_of_ble_eq_true rfl⟩
theorem b89_6 {σ : zSt} {P : Option Value → zSt → Prop} {a0 : Nat} {x1 x2 x3 s0 : Int32} {u4 u5 : Option Value} :
    wp 89 6 [some (.ref a0), some (.int x1), some (.int x2), some (.int x3), u4, u5] [.int s0] σ P ↔ (if s0 = 0 then wp 89 16 [some (.ref a0), some (.int x1), some (.int x2), some (.int x3), some (.int s0), u5] [] σ P else wp 89 13 [some (.ref a0), some (.int x1), some (.int x2), some (.int x3), some (.int s0), u5] [] σ P) := by
  refine (wp_s (n := 8) (zcode_of mc_89 (r := (.istore 4, 0, 0, 0)) rfl) rfl rfl).trans ?_
  refine (wp_s (n := 10) (zcode_of mc_89 (r := (.iload 4, 0, 0, 0)) rfl) rfl rfl).trans ?_
  exact wp_jump (off := 6) (t := 16) (zcode_of mc_89 (r := (.ifCond .eq 6, 0, 0, 0)) rfl) rfl rfl (by decide)
theorem b89_13 {σ : zSt} {P : Option Value → zSt → Prop} {a0 : Nat} {x1 x2 x3 x4 : Int32} {u5 : Option Value} :
    wp 89 13 [some (.ref a0), some (.int x1), some (.int x2), some (.int x3), some (.int x4), u5] [] σ P ↔ P (some (.int x4)) σ := by
  refine (wp_s (n := 15) (zcode_of mc_89 (r := (.iload 4, 0, 0, 0)) rfl) rfl rfl).trans ?_
  exact wp_retI (zcode_of mc_89 (r := (.ireturn, 0, 0, 0)) rfl) rfl
theorem b89_16 {σ : zSt} {P : Option Value → zSt → Prop} (hC : CShape σ) {a0 : Nat} {x1 x2 x3 x4 : Int32} {u5 : Option Value} :
    wp 89 16 [some (.ref a0), some (.int x1), some (.int x2), some (.int x3), some (.int x4), u5] [] σ P ↔ (zIs σ a0 11 ∧ wpM 77 [.ref (a0 + 1), .int x2] σ (fun r τ => wp 89 24 [some (.ref a0), some (.int x1), some (.int x2), some (.int x3), some (.int x4), u5] (r.toList ++ []) τ P)) := by
  refine (wp_s (n := 17) (zcode_of mc_89 (r := (.aload_n 0, 0, 0, 0)) rfl) rfl rfl).trans ?_
  refine (wc_is (zcode_of mc_89 (r := (.getfield 12, 11, 0, 0)) rfl)).trans (and_congr_right fun h1 => ?_)
  refine (wc_getR (n' := 20) (d := 1) rfl (zcode_of mc_89 (r := (.getfield 12, 11, 0, 0)) rfl) rfl hC le_11_0 rfl rfl rfl h1).trans ?_
  refine (wp_s (n := 21) (zcode_of mc_89 (r := (.iload_n 2, 0, 0, 0)) rfl) rfl rfl).trans ?_
  exact wp_call (q := ([.ref (a0 + 1), .int x2], [])) (zcode_of mc_89 (r := (.invokevirtual 73, 77, 0, 1)) rfl) rfl (zCa_V (Nat.le_of_ble_eq_true rfl) rfl (zIs_of (cs_T hC le_11_0 h1))) ⟨Nat.le_of_ble_eq_true rfl, Nat.le_of_ble_eq_true rfl⟩
theorem b89_24 {σ : zSt} {P : Option Value → zSt → Prop} (hC : CShape σ) {a0 s0 : Nat} {x1 x2 x3 x4 : Int32} {u5 : Option Value} :
    wp 89 24 [some (.ref a0), some (.int x1), some (.int x2), some (.int x3), some (.int x4), u5] [.ref s0] σ P ↔ (zIs σ s0 8 ∧ (zIn x1 2 ∧ (if x3 < 0 then wp 89 44 [some (.ref a0), some (.int x1), some (.int x2), some (.int x3), some (.int x4), some (.ref ((s0 + 1) + 2 + 2 * Int32.toNatClampNeg x1))] [] σ P else wp 89 35 [some (.ref a0), some (.int x1), some (.int x2), some (.int x3), some (.int x4), some (.ref ((s0 + 1) + 2 + 2 * Int32.toNatClampNeg x1))] [] σ P))) := by
  refine (wc_is (zcode_of mc_89 (r := (.getfield 110, 8, 4, 0)) rfl)).trans (and_congr_right fun h1 => ?_)
  refine (wc_getR (n' := 27) (d := 1) rfl (zcode_of mc_89 (r := (.getfield 110, 8, 4, 0)) rfl) rfl hC le_8_4 rfl rfl rfl h1).trans ?_
  refine (wp_s (n := 28) (zcode_of mc_89 (r := (.iload_n 1, 0, 0, 0)) rfl) rfl rfl).trans ?_
  refine (wc_ald (n' := 29) rfl (zcode_of mc_89 (r := (.aaload, 0, 0, 0)) rfl) hC la_6 rfl rfl rfl rfl rfl (cs_T hC le_8_4 h1)).trans (and_congr_right fun h2 => ?_)
  refine (wp_s (n := 31) (zcode_of mc_89 (r := (.astore 5, 0, 0, 0)) rfl) rfl rfl).trans ?_
  refine (wp_s (n := 32) (zcode_of mc_89 (r := (.iload_n 3, 0, 0, 0)) rfl) rfl rfl).trans ?_
  exact wp_jump (off := 12) (t := 44) (zcode_of mc_89 (r := (.ifCond .lt 12, 0, 0, 0)) rfl) rfl rfl (by decide)
theorem b89_35 {σ : zSt} {P : Option Value → zSt → Prop} {a0 a5 : Nat} {x1 x2 x3 x4 : Int32} :
    wp 89 35 [some (.ref a0), some (.int x1), some (.int x2), some (.int x3), some (.int x4), some (.ref a5)] [] σ P ↔ (zIs σ a5 2 ∧ (if x3 < (zfi σ 2 1 a5) then wp 89 47 [some (.ref a0), some (.int x1), some (.int x2), some (.int x3), some (.int x4), some (.ref a5)] [] σ P else wp 89 44 [some (.ref a0), some (.int x1), some (.int x2), some (.int x3), some (.int x4), some (.ref a5)] [] σ P)) := by
  refine (wp_s (n := 36) (zcode_of mc_89 (r := (.iload_n 3, 0, 0, 0)) rfl) rfl rfl).trans ?_
  refine (wp_s (n := 38) (zcode_of mc_89 (r := (.aload 5, 0, 0, 0)) rfl) rfl rfl).trans ?_
  refine (wc_is (zcode_of mc_89 (r := (.getfield 65, 2, 1, 0)) rfl)).trans (and_congr_right fun h1 => ?_)
  refine (wc_getI (n' := 41) rfl (zcode_of mc_89 (r := (.getfield 65, 2, 1, 0)) rfl) rfl h1).trans ?_
  exact wp_jump (off := 6) (t := 47) (zcode_of mc_89 (r := (.if_icmp .lt 6, 0, 0, 0)) rfl) rfl rfl (by decide)
theorem b89_44 {σ : zSt} {P : Option Value → zSt → Prop} {a0 a5 : Nat} {x1 x2 x3 x4 : Int32} :
    wp 89 44 [some (.ref a0), some (.int x1), some (.int x2), some (.int x3), some (.int x4), some (.ref a5)] [] σ P ↔ P (some (.int (-2))) σ := by
  refine (wp_bp (n' := 46) rfl (zcode_of mc_89 (r := (.bipush (-2), 0, 0, 0)) rfl) cb_m2).trans ?_
  exact wp_retI (zcode_of mc_89 (r := (.ireturn, 0, 0, 0)) rfl) rfl
theorem b89_47 {σ : zSt} {P : Option Value → zSt → Prop} (hC : CShape σ) {a0 a5 : Nat} {x1 x2 x3 x4 : Int32} :
    wp 89 47 [some (.ref a0), some (.int x1), some (.int x2), some (.int x3), some (.int x4), some (.ref a5)] [] σ P ↔ (zIs σ a5 2 ∧ (zIn x3 64 ∧ P (some (.int (zai σ 1 (a5 + 1) (Int32.toNatClampNeg x3)))) σ)) := by
  refine (wp_s (n := 49) (zcode_of mc_89 (r := (.aload 5, 0, 0, 0)) rfl) rfl rfl).trans ?_
  refine (wc_is (zcode_of mc_89 (r := (.getfield 127, 2, 0, 0)) rfl)).trans (and_congr_right fun h1 => ?_)
  refine (wc_getR (n' := 52) (d := 1) rfl (zcode_of mc_89 (r := (.getfield 127, 2, 0, 0)) rfl) rfl hC le_2_0 rfl rfl rfl h1).trans ?_
  refine (wp_s (n := 53) (zcode_of mc_89 (r := (.iload_n 3, 0, 0, 0)) rfl) rfl rfl).trans ?_
  refine (wc_ld (n' := 54) rfl (zcode_of mc_89 (r := (.iaload, 0, 0, 0)) rfl) (cs_T hC le_2_0 h1) rfl).trans (and_congr_right fun h2 => ?_)
  exact wp_retI (zcode_of mc_89 (r := (.ireturn, 0, 0, 0)) rfl) rfl
theorem mc_90 : mCode 90 = zc_90 := rfl
theorem b90 {σ : zSt} {P : Option Value → zSt → Prop} (hC : CShape σ) {a0 : Nat} :
    wpM 90 [.ref a0] σ P ↔ (zIs σ a0 11 ∧ wpM 31 [.ref (a0 + 13)] σ (fun r τ => wp 90 7 [some (.ref a0)] (r.toList ++ []) τ P)) := by
  show wp 90 0 [some (.ref a0)] [] σ P ↔ _
  refine (wp_s (n := 1) (zcode_of mc_90 (r := (.aload_n 0, 0, 0, 0)) rfl) rfl rfl).trans ?_
  refine (wc_is (zcode_of mc_90 (r := (.getfield 26, 11, 2, 0)) rfl)).trans (and_congr_right fun h1 => ?_)
  refine (wc_getR (n' := 4) (d := 13) rfl (zcode_of mc_90 (r := (.getfield 26, 11, 2, 0)) rfl) rfl hC le_11_2 rfl rfl rfl h1).trans ?_
  exact wp_call (q := ([.ref (a0 + 13)], [])) (zcode_of mc_90 (r := (.invokevirtual 131, 31, 0, 0)) rfl) rfl (zCa_V (Nat.le_of_ble_eq_true rfl) rfl (zIs_of (cs_T hC le_11_2 h1))) ⟨Nat.le_of_ble_eq_true rfl, Nat.le_of_ble_eq_true rfl⟩
theorem b90_7 {σ : zSt} {P : Option Value → zSt → Prop} {a0 : Nat} {s0 : Int32} :
    wp 90 7 [some (.ref a0)] [.int s0] σ P ↔ (if s0 < 40 then wp 90 15 [some (.ref a0)] [] σ P else wp 90 12 [some (.ref a0)] [] σ P) := by
  refine (wp_bp (n' := 9) rfl (zcode_of mc_90 (r := (.bipush 40, 0, 0, 0)) rfl) cb_40).trans ?_
  exact wp_jump (off := 6) (t := 15) (zcode_of mc_90 (r := (.if_icmp .lt 6, 0, 0, 0)) rfl) rfl rfl (by decide)
theorem b90_12 {σ : zSt} {P : Option Value → zSt → Prop} {a0 : Nat} :
    wp 90 12 [some (.ref a0)] [] σ P ↔ P (some (.int (-6))) σ := by
  refine (wp_bp (n' := 14) rfl (zcode_of mc_90 (r := (.bipush (-6), 0, 0, 0)) rfl) cb_m6).trans ?_
  exact wp_retI (zcode_of mc_90 (r := (.ireturn, 0, 0, 0)) rfl) rfl
theorem b90_15 {σ : zSt} {P : Option Value → zSt → Prop} (hC : CShape σ) {a0 : Nat} :
    wp 90 15 [some (.ref a0)] [] σ P ↔ (zIs σ a0 11 ∧ wpM 34 [.ref (a0 + 13)] σ (fun r τ => wp 90 22 [some (.ref a0)] (r.toList ++ []) τ P)) := by
  refine (wp_s (n := 16) (zcode_of mc_90 (r := (.aload_n 0, 0, 0, 0)) rfl) rfl rfl).trans ?_
  refine (wc_is (zcode_of mc_90 (r := (.getfield 26, 11, 2, 0)) rfl)).trans (and_congr_right fun h1 => ?_)
  refine (wc_getR (n' := 19) (d := 13) rfl (zcode_of mc_90 (r := (.getfield 26, 11, 2, 0)) rfl) rfl hC le_11_2 rfl rfl rfl h1).trans ?_
  exact wp_call (q := ([.ref (a0 + 13)], [])) (zcode_of mc_90 (r := (.invokevirtual 132, 34, 0, 0)) rfl) rfl (zCa_V (Nat.le_of_ble_eq_true rfl) rfl (zIs_of (cs_T hC le_11_2 h1))) ⟨Nat.le_of_ble_eq_true rfl, Nat.le_of_ble_eq_true rfl⟩
theorem b90_22 {σ : zSt} {P : Option Value → zSt → Prop} {a0 : Nat} {s0 : Int32} :
    wp 90 22 [some (.ref a0)] [.int s0] σ P ↔ P (some (.int s0)) σ := by
  exact wp_retI (zcode_of mc_90 (r := (.ireturn, 0, 0, 0)) rfl) rfl
theorem mc_91 : mCode 91 = zc_91 := rfl
theorem b91 {σ : zSt} {P : Option Value → zSt → Prop} (hC : CShape σ) {a0 : Nat} {x1 x2 : Int32} :
    wpM 91 [.ref a0, .int x1, .int x2] σ P ↔ (zIs σ a0 11 ∧ wpM 32 [.ref (a0 + 13), .int x1] σ (fun r τ => wp 91 8 [some (.ref a0), some (.int x1), some (.int x2), none, none] (r.toList ++ []) τ P)) := by
  show wp 91 0 [some (.ref a0), some (.int x1), some (.int x2), none, none] [] σ P ↔ _
  refine (wp_s (n := 1) (zcode_of mc_91 (r := (.aload_n 0, 0, 0, 0)) rfl) rfl rfl).trans ?_
  refine (wc_is (zcode_of mc_91 (r := (.getfield 26, 11, 2, 0)) rfl)).trans (and_congr_right fun h1 => ?_)
  refine (wc_getR (n' := 4) (d := 13) rfl (zcode_of mc_91 (r := (.getfield 26, 11, 2, 0)) rfl) rfl hC le_11_2 rfl rfl rfl h1).trans ?_
  refine (wp_s (n := 5) (zcode_of mc_91 (r := (.iload_n 1, 0, 0, 0)) rfl) rfl rfl).trans ?_
  exact wp_call (q := ([.ref (a0 + 13), .int x1], [])) (zcode_of mc_91 (r := (.invokevirtual 134, 32, 0, 1)) rfl) rfl (zCa_V (Nat.le_of_ble_eq_true rfl) rfl (zIs_of (cs_T hC le_11_2 h1))) ⟨Nat.le_of_ble_eq_true rfl, Nat.le_of_ble_eq_true rfl⟩
theorem b91_8 {σ : zSt} {P : Option Value → zSt → Prop} {a0 : Nat} {x1 x2 s0 : Int32} {u3 u4 : Option Value} :
    wp 91 8 [some (.ref a0), some (.int x1), some (.int x2), u3, u4] [.int s0] σ P ↔ (if s0 = 0 then wp 91 22 [some (.ref a0), some (.int x1), some (.int x2), u3, u4] [] σ P else wp 91 11 [some (.ref a0), some (.int x1), some (.int x2), u3, u4] [] σ P) := by
  exact wp_jump (off := 14) (t := 22) (zcode_of mc_91 (r := (.ifCond .eq 14, 0, 0, 0)) rfl) rfl rfl (by decide)
theorem b91_11 {σ : zSt} {P : Option Value → zSt → Prop} (hC : CShape σ) {a0 : Nat} {x1 x2 : Int32} {u3 u4 : Option Value} :
    wp 91 11 [some (.ref a0), some (.int x1), some (.int x2), u3, u4] [] σ P ↔ (zIs σ a0 11 ∧ wpM 76 [.ref (a0 + 1), .int x2] σ (fun r τ => wp 91 19 [some (.ref a0), some (.int x1), some (.int x2), u3, u4] (r.toList ++ []) τ P)) := by
  refine (wp_s (n := 12) (zcode_of mc_91 (r := (.aload_n 0, 0, 0, 0)) rfl) rfl rfl).trans ?_
  refine (wc_is (zcode_of mc_91 (r := (.getfield 12, 11, 0, 0)) rfl)).trans (and_congr_right fun h1 => ?_)
  refine (wc_getR (n' := 15) (d := 1) rfl (zcode_of mc_91 (r := (.getfield 12, 11, 0, 0)) rfl) rfl hC le_11_0 rfl rfl rfl h1).trans ?_
  refine (wp_s (n := 16) (zcode_of mc_91 (r := (.iload_n 2, 0, 0, 0)) rfl) rfl rfl).trans ?_
  exact wp_call (q := ([.ref (a0 + 1), .int x2], [])) (zcode_of mc_91 (r := (.invokevirtual 69, 76, 0, 1)) rfl) rfl (zCa_V (Nat.le_of_ble_eq_true rfl) rfl (zIs_of (cs_T hC le_11_0 h1))) ⟨Nat.le_of_ble_eq_true rfl, Nat.le_of_ble_eq_true rfl⟩
theorem b91_19 {σ : zSt} {P : Option Value → zSt → Prop} {a0 : Nat} {x1 x2 s0 : Int32} {u3 u4 : Option Value} :
    wp 91 19 [some (.ref a0), some (.int x1), some (.int x2), u3, u4] [.int s0] σ P ↔ (if ¬ s0 = 0 then wp 91 25 [some (.ref a0), some (.int x1), some (.int x2), u3, u4] [] σ P else wp 91 22 [some (.ref a0), some (.int x1), some (.int x2), u3, u4] [] σ P) := by
  exact wp_jump (off := 6) (t := 25) (zcode_of mc_91 (r := (.ifCond .ne 6, 0, 0, 0)) rfl) rfl rfl (by decide)
theorem b91_22 {σ : zSt} {P : Option Value → zSt → Prop} {a0 : Nat} {x1 x2 : Int32} {u3 u4 : Option Value} :
    wp 91 22 [some (.ref a0), some (.int x1), some (.int x2), u3, u4] [] σ P ↔ P (some (.int (-2))) σ := by
  refine (wp_bp (n' := 24) rfl (zcode_of mc_91 (r := (.bipush (-2), 0, 0, 0)) rfl) cb_m2).trans ?_
  exact wp_retI (zcode_of mc_91 (r := (.ireturn, 0, 0, 0)) rfl) rfl
theorem b91_25 {σ : zSt} {P : Option Value → zSt → Prop} (hC : CShape σ) {a0 : Nat} {x1 x2 : Int32} {u3 u4 : Option Value} :
    wp 91 25 [some (.ref a0), some (.int x1), some (.int x2), u3, u4] [] σ P ↔ (zIs σ a0 11 ∧ wpM 33 [.ref (a0 + 13), .int x1] σ (fun r τ => wp 91 33 [some (.ref a0), some (.int x1), some (.int x2), u3, u4] (r.toList ++ []) τ P)) := by
  refine (wp_s (n := 26) (zcode_of mc_91 (r := (.aload_n 0, 0, 0, 0)) rfl) rfl rfl).trans ?_
  refine (wc_is (zcode_of mc_91 (r := (.getfield 26, 11, 2, 0)) rfl)).trans (and_congr_right fun h1 => ?_)
  refine (wc_getR (n' := 29) (d := 13) rfl (zcode_of mc_91 (r := (.getfield 26, 11, 2, 0)) rfl) rfl hC le_11_2 rfl rfl rfl h1).trans ?_
  refine (wp_s (n := 30) (zcode_of mc_91 (r := (.iload_n 1, 0, 0, 0)) rfl) rfl rfl).trans ?_
  exact wp_call (q := ([.ref (a0 + 13), .int x1], [])) (zcode_of mc_91 (r := (.invokevirtual 135, 33, 0, 1)) rfl) rfl (zCa_V (Nat.le_of_ble_eq_true rfl) rfl (zIs_of (cs_T hC le_11_2 h1))) ⟨Nat.le_of_ble_eq_true rfl, Nat.le_of_ble_eq_true rfl⟩
theorem b91_33 {σ : zSt} {P : Option Value → zSt → Prop} (hC : CShape σ) {a0 s0 : Nat} {x1 x2 : Int32} {u3 u4 : Option Value} :
    wp 91 33 [some (.ref a0), some (.int x1), some (.int x2), u3, u4] [.ref s0] σ P ↔ (zIs σ a0 11 ∧ wpM 77 [.ref (a0 + 1), .int x2] σ (fun r τ => wp 91 42 [some (.ref a0), some (.int x1), some (.int x2), some (.ref s0), u4] (r.toList ++ []) τ P)) := by
  refine (wp_s (n := 34) (zcode_of mc_91 (r := (.astore_n 3, 0, 0, 0)) rfl) rfl rfl).trans ?_
  refine (wp_s (n := 35) (zcode_of mc_91 (r := (.aload_n 0, 0, 0, 0)) rfl) rfl rfl).trans ?_
  refine (wc_is (zcode_of mc_91 (r := (.getfield 12, 11, 0, 0)) rfl)).trans (and_congr_right fun h1 => ?_)
  refine (wc_getR (n' := 38) (d := 1) rfl (zcode_of mc_91 (r := (.getfield 12, 11, 0, 0)) rfl) rfl hC le_11_0 rfl rfl rfl h1).trans ?_
  refine (wp_s (n := 39) (zcode_of mc_91 (r := (.iload_n 2, 0, 0, 0)) rfl) rfl rfl).trans ?_
  exact wp_call (q := ([.ref (a0 + 1), .int x2], [])) (zcode_of mc_91 (r := (.invokevirtual 73, 77, 0, 1)) rfl) rfl (zCa_V (Nat.le_of_ble_eq_true rfl) rfl (zIs_of (cs_T hC le_11_0 h1))) ⟨Nat.le_of_ble_eq_true rfl, Nat.le_of_ble_eq_true rfl⟩
theorem b91_42 {σ : zSt} {P : Option Value → zSt → Prop} {a0 a3 s0 : Nat} {x1 x2 : Int32} {u4 : Option Value} :
    wp 91 42 [some (.ref a0), some (.int x1), some (.int x2), some (.ref a3), u4] [.ref s0] σ P ↔ (zIs σ a3 0 ∧ wpM 1 [.ref a3, .int x2] σ (fun r τ => wp 91 49 [some (.ref a0), some (.int x1), some (.int x2), some (.ref a3), some (.ref s0)] (r.toList ++ []) τ P)) := by
  refine (wp_s (n := 44) (zcode_of mc_91 (r := (.astore 4, 0, 0, 0)) rfl) rfl rfl).trans ?_
  refine (wp_s (n := 45) (zcode_of mc_91 (r := (.aload_n 3, 0, 0, 0)) rfl) rfl rfl).trans ?_
  refine (wp_s (n := 46) (zcode_of mc_91 (r := (.iload_n 2, 0, 0, 0)) rfl) rfl rfl).trans ?_
  refine (wc_isV (cl := 0) (rest := []) (zcode_of mc_91 (r := (.invokevirtual 138, 1, 0, 1)) rfl) rfl rfl rfl).trans (and_congr_right fun h1 => ?_)
  exact wp_call (q := ([.ref a3, .int x2], [])) (zcode_of mc_91 (r := (.invokevirtual 138, 1, 0, 1)) rfl) rfl (zCa_V (Nat.le_of_ble_eq_true rfl) rfl h1) ⟨Nat.le_of_ble_eq_true rfl, Nat.le_of_ble_eq_true rfl⟩
theorem b91_49 {σ : zSt} {P : Option Value → zSt → Prop} {a0 a3 a4 : Nat} {x1 x2 s0 : Int32} :
    wp 91 49 [some (.ref a0), some (.int x1), some (.int x2), some (.ref a3), some (.ref a4)] [.int s0] σ P ↔ (if s0 = 0 then wp 91 55 [some (.ref a0), some (.int x1), some (.int x2), some (.ref a3), some (.ref a4)] [] σ P else wp 91 52 [some (.ref a0), some (.int x1), some (.int x2), some (.ref a3), some (.ref a4)] [] σ P) := by
  exact wp_jump (off := 6) (t := 55) (zcode_of mc_91 (r := (.ifCond .eq 6, 0, 0, 0)) rfl) rfl rfl (by decide)
theorem b91_52 {σ : zSt} {P : Option Value → zSt → Prop} {a0 a3 a4 : Nat} {x1 x2 : Int32} :
    wp 91 52 [some (.ref a0), some (.int x1), some (.int x2), some (.ref a3), some (.ref a4)] [] σ P ↔ P (some (.int (-4))) σ := by
  refine (wp_bp (n' := 54) rfl (zcode_of mc_91 (r := (.bipush (-4), 0, 0, 0)) rfl) cb_m4).trans ?_
  exact wp_retI (zcode_of mc_91 (r := (.ireturn, 0, 0, 0)) rfl) rfl
theorem b91_55 {σ : zSt} {P : Option Value → zSt → Prop} (hC : CShape σ) {a0 a3 a4 : Nat} {x1 x2 : Int32} :
    wp 91 55 [some (.ref a0), some (.int x1), some (.int x2), some (.ref a3), some (.ref a4)] [] σ P ↔ (zIs σ a0 11 ∧ wpM 38 [.ref (a0 + 13), .int x1, .ref a4] σ (fun r τ => wp 91 65 [some (.ref a0), some (.int x1), some (.int x2), some (.ref a3), some (.ref a4)] (r.toList ++ []) τ P)) := by
  refine (wp_s (n := 56) (zcode_of mc_91 (r := (.aload_n 0, 0, 0, 0)) rfl) rfl rfl).trans ?_
  refine (wc_is (zcode_of mc_91 (r := (.getfield 26, 11, 2, 0)) rfl)).trans (and_congr_right fun h1 => ?_)
  refine (wc_getR (n' := 59) (d := 13) rfl (zcode_of mc_91 (r := (.getfield 26, 11, 2, 0)) rfl) rfl hC le_11_2 rfl rfl rfl h1).trans ?_
  refine (wp_s (n := 60) (zcode_of mc_91 (r := (.iload_n 1, 0, 0, 0)) rfl) rfl rfl).trans ?_
  refine (wp_s (n := 62) (zcode_of mc_91 (r := (.aload 4, 0, 0, 0)) rfl) rfl rfl).trans ?_
  exact wp_call (q := ([.ref (a0 + 13), .int x1, .ref a4], [])) (zcode_of mc_91 (r := (.invokevirtual 143, 38, 0, 2)) rfl) rfl (zCa_V (Nat.le_of_ble_eq_true rfl) rfl (zIs_of (cs_T hC le_11_2 h1))) ⟨Nat.le_of_ble_eq_true rfl, Nat.le_of_ble_eq_true rfl⟩
theorem b91_65 {σ : zSt} {P : Option Value → zSt → Prop} {a0 a3 a4 : Nat} {x1 x2 s0 : Int32} :
    wp 91 65 [some (.ref a0), some (.int x1), some (.int x2), some (.ref a3), some (.ref a4)] [.int s0] σ P ↔ (if s0 = 0 then wp 91 71 [some (.ref a0), some (.int x1), some (.int x2), some (.ref a3), some (.ref a4)] [] σ P else wp 91 68 [some (.ref a0), some (.int x1), some (.int x2), some (.ref a3), some (.ref a4)] [] σ P) := by
  exact wp_jump (off := 6) (t := 71) (zcode_of mc_91 (r := (.ifCond .eq 6, 0, 0, 0)) rfl) rfl rfl (by decide)
theorem b91_68 {σ : zSt} {P : Option Value → zSt → Prop} {a0 a3 a4 : Nat} {x1 x2 : Int32} :
    wp 91 68 [some (.ref a0), some (.int x1), some (.int x2), some (.ref a3), some (.ref a4)] [] σ P ↔ P (some (.int (-5))) σ := by
  refine (wp_bp (n' := 70) rfl (zcode_of mc_91 (r := (.bipush (-5), 0, 0, 0)) rfl) cb_m5).trans ?_
  exact wp_retI (zcode_of mc_91 (r := (.ireturn, 0, 0, 0)) rfl) rfl
theorem b91_71 {σ : zSt} {P : Option Value → zSt → Prop} (hC : CShape σ) {a0 a3 a4 : Nat} {x1 x2 : Int32} :
    wp 91 71 [some (.ref a0), some (.int x1), some (.int x2), some (.ref a3), some (.ref a4)] [] σ P ↔ (zIs σ a3 0 ∧ wpM 187 [.ref (a3 + 1)] σ (fun r τ => wp 91 78 [some (.ref a0), some (.int x1), some (.int x2), some (.ref a3), some (.ref a4)] (r.toList ++ []) τ P)) := by
  refine (wp_s (n := 72) (zcode_of mc_91 (r := (.aload_n 3, 0, 0, 0)) rfl) rfl rfl).trans ?_
  refine (wc_is (zcode_of mc_91 (r := (.getfield 147, 0, 0, 0)) rfl)).trans (and_congr_right fun h1 => ?_)
  refine (wc_getR (n' := 75) (d := 1) rfl (zcode_of mc_91 (r := (.getfield 147, 0, 0, 0)) rfl) rfl hC le_0_0 rfl rfl rfl h1).trans ?_
  exact wp_call (q := ([.ref (a3 + 1)], [])) (zcode_of mc_91 (r := (.invokevirtual 151, 187, 0, 0)) rfl) rfl (zCa_V (Nat.le_of_ble_eq_true rfl) rfl (zIs_of (cs_T hC le_0_0 h1))) ⟨Nat.le_of_ble_eq_true rfl, Nat.le_of_ble_eq_true rfl⟩
theorem b91_78 {σ : zSt} {P : Option Value → zSt → Prop} {a0 a3 a4 : Nat} {x1 x2 s0 : Int32} :
    wp 91 78 [some (.ref a0), some (.int x1), some (.int x2), some (.ref a3), some (.ref a4)] [.int s0] σ P ↔ (if s0 < 6 then wp 91 86 [some (.ref a0), some (.int x1), some (.int x2), some (.ref a3), some (.ref a4)] [] σ P else wp 91 83 [some (.ref a0), some (.int x1), some (.int x2), some (.ref a3), some (.ref a4)] [] σ P) := by
  refine (wp_bp (n' := 80) rfl (zcode_of mc_91 (r := (.bipush 6, 0, 0, 0)) rfl) cb_6).trans ?_
  exact wp_jump (off := 6) (t := 86) (zcode_of mc_91 (r := (.if_icmp .lt 6, 0, 0, 0)) rfl) rfl rfl (by decide)
theorem b91_83 {σ : zSt} {P : Option Value → zSt → Prop} {a0 a3 a4 : Nat} {x1 x2 : Int32} :
    wp 91 83 [some (.ref a0), some (.int x1), some (.int x2), some (.ref a3), some (.ref a4)] [] σ P ↔ P (some (.int (-6))) σ := by
  refine (wp_bp (n' := 85) rfl (zcode_of mc_91 (r := (.bipush (-6), 0, 0, 0)) rfl) cb_m6).trans ?_
  exact wp_retI (zcode_of mc_91 (r := (.ireturn, 0, 0, 0)) rfl) rfl
theorem b91_86 {σ : zSt} {P : Option Value → zSt → Prop} (hC : CShape σ) {a0 a3 a4 : Nat} {x1 x2 : Int32} :
    wp 91 86 [some (.ref a0), some (.int x1), some (.int x2), some (.ref a3), some (.ref a4)] [] σ P ↔ (zIs σ a3 0 ∧ wpM 192 [.ref (a3 + 1), .ref a4] σ (fun r τ => wp 91 95 [some (.ref a0), some (.int x1), some (.int x2), some (.ref a3), some (.ref a4)] (r.toList ++ []) τ P)) := by
  refine (wp_s (n := 87) (zcode_of mc_91 (r := (.aload_n 3, 0, 0, 0)) rfl) rfl rfl).trans ?_
  refine (wc_is (zcode_of mc_91 (r := (.getfield 147, 0, 0, 0)) rfl)).trans (and_congr_right fun h1 => ?_)
  refine (wc_getR (n' := 90) (d := 1) rfl (zcode_of mc_91 (r := (.getfield 147, 0, 0, 0)) rfl) rfl hC le_0_0 rfl rfl rfl h1).trans ?_
  refine (wp_s (n := 92) (zcode_of mc_91 (r := (.aload 4, 0, 0, 0)) rfl) rfl rfl).trans ?_
  exact wp_call (q := ([.ref (a3 + 1), .ref a4], [])) (zcode_of mc_91 (r := (.invokevirtual 154, 192, 0, 1)) rfl) rfl (zCa_V (Nat.le_of_ble_eq_true rfl) rfl (zIs_of (cs_T hC le_0_0 h1))) ⟨Nat.le_of_ble_eq_true rfl, Nat.le_of_ble_eq_true rfl⟩
theorem b91_95 {σ : zSt} {P : Option Value → zSt → Prop} (hC : CShape σ) {a0 a3 a4 : Nat} {x1 x2 s0 : Int32} :
    wp 91 95 [some (.ref a0), some (.int x1), some (.int x2), some (.ref a3), some (.ref a4)] [.int s0] σ P ↔ (zIs σ a0 11 ∧ wpM 36 [.ref (a0 + 13)] σ (fun r τ => wp 91 103 [some (.ref a0), some (.int x1), some (.int x2), some (.ref a3), some (.ref a4)] (r.toList ++ []) τ P)) := by
  refine (wp_s (n := 96) (zcode_of mc_91 (r := (.pop, 0, 0, 0)) rfl) rfl rfl).trans ?_
  refine (wp_s (n := 97) (zcode_of mc_91 (r := (.aload_n 0, 0, 0, 0)) rfl) rfl rfl).trans ?_
  refine (wc_is (zcode_of mc_91 (r := (.getfield 26, 11, 2, 0)) rfl)).trans (and_congr_right fun h1 => ?_)
  refine (wc_getR (n' := 100) (d := 13) rfl (zcode_of mc_91 (r := (.getfield 26, 11, 2, 0)) rfl) rfl hC le_11_2 rfl rfl rfl h1).trans ?_
  exact wp_call (q := ([.ref (a0 + 13)], [])) (zcode_of mc_91 (r := (.invokevirtual 157, 36, 0, 0)) rfl) rfl (zCa_V (Nat.le_of_ble_eq_true rfl) rfl (zIs_of (cs_T hC le_11_2 h1))) ⟨Nat.le_of_ble_eq_true rfl, Nat.le_of_ble_eq_true rfl⟩
theorem b91_103 {σ : zSt} {P : Option Value → zSt → Prop} (hC : CShape σ) {a0 a3 a4 : Nat} {x1 x2 : Int32} :
    wp 91 103 [some (.ref a0), some (.int x1), some (.int x2), some (.ref a3), some (.ref a4)] [] σ P ↔ (zIs σ a3 0 ∧ wpM 187 [.ref (a3 + 1)] σ (fun r τ => wp 91 110 [some (.ref a0), some (.int x1), some (.int x2), some (.ref a3), some (.ref a4)] (r.toList ++ []) τ P)) := by
  refine (wp_s (n := 104) (zcode_of mc_91 (r := (.aload_n 3, 0, 0, 0)) rfl) rfl rfl).trans ?_
  refine (wc_is (zcode_of mc_91 (r := (.getfield 147, 0, 0, 0)) rfl)).trans (and_congr_right fun h1 => ?_)
  refine (wc_getR (n' := 107) (d := 1) rfl (zcode_of mc_91 (r := (.getfield 147, 0, 0, 0)) rfl) rfl hC le_0_0 rfl rfl rfl h1).trans ?_
  exact wp_call (q := ([.ref (a3 + 1)], [])) (zcode_of mc_91 (r := (.invokevirtual 151, 187, 0, 0)) rfl) rfl (zCa_V (Nat.le_of_ble_eq_true rfl) rfl (zIs_of (cs_T hC le_0_0 h1))) ⟨Nat.le_of_ble_eq_true rfl, Nat.le_of_ble_eq_true rfl⟩
theorem b91_110 {σ : zSt} {P : Option Value → zSt → Prop} {a0 a3 a4 : Nat} {x1 x2 s0 : Int32} :
    wp 91 110 [some (.ref a0), some (.int x1), some (.int x2), some (.ref a3), some (.ref a4)] [.int s0] σ P ↔ P (some (.int s0)) σ := by
  exact wp_retI (zcode_of mc_91 (r := (.ireturn, 0, 0, 0)) rfl) rfl
theorem mc_92 : mCode 92 = zc_92 := rfl
theorem b92 {σ : zSt} {P : Option Value → zSt → Prop} (hC : CShape σ) {a0 : Nat} {x1 x2 : Int32} :
    wpM 92 [.ref a0, .int x1, .int x2] σ P ↔ (zIs σ a0 11 ∧ wpM 32 [.ref (a0 + 13), .int x1] σ (fun r τ => wp 92 8 [some (.ref a0), some (.int x1), some (.int x2), none, none] (r.toList ++ []) τ P)) := by
  show wp 92 0 [some (.ref a0), some (.int x1), some (.int x2), none, none] [] σ P ↔ _
  refine (wp_s (n := 1) (zcode_of mc_92 (r := (.aload_n 0, 0, 0, 0)) rfl) rfl rfl).trans ?_
  refine (wc_is (zcode_of mc_92 (r := (.getfield 26, 11, 2, 0)) rfl)).trans (and_congr_right fun h1 => ?_)
  refine (wc_getR (n' := 4) (d := 13) rfl (zcode_of mc_92 (r := (.getfield 26, 11, 2, 0)) rfl) rfl hC le_11_2 rfl rfl rfl h1).trans ?_
  refine (wp_s (n := 5) (zcode_of mc_92 (r := (.iload_n 1, 0, 0, 0)) rfl) rfl rfl).trans ?_
  exact wp_call (q := ([.ref (a0 + 13), .int x1], [])) (zcode_of mc_92 (r := (.invokevirtual 134, 32, 0, 1)) rfl) rfl (zCa_V (Nat.le_of_ble_eq_true rfl) rfl (zIs_of (cs_T hC le_11_2 h1))) ⟨Nat.le_of_ble_eq_true rfl, Nat.le_of_ble_eq_true rfl⟩
theorem b92_8 {σ : zSt} {P : Option Value → zSt → Prop} {a0 : Nat} {x1 x2 s0 : Int32} {u3 u4 : Option Value} :
    wp 92 8 [some (.ref a0), some (.int x1), some (.int x2), u3, u4] [.int s0] σ P ↔ (if s0 = 0 then wp 92 22 [some (.ref a0), some (.int x1), some (.int x2), u3, u4] [] σ P else wp 92 11 [some (.ref a0), some (.int x1), some (.int x2), u3, u4] [] σ P) := by
  exact wp_jump (off := 14) (t := 22) (zcode_of mc_92 (r := (.ifCond .eq 14, 0, 0, 0)) rfl) rfl rfl (by decide)
theorem b92_11 {σ : zSt} {P : Option Value → zSt → Prop} (hC : CShape σ) {a0 : Nat} {x1 x2 : Int32} {u3 u4 : Option Value} :
    wp 92 11 [some (.ref a0), some (.int x1), some (.int x2), u3, u4] [] σ P ↔ (zIs σ a0 11 ∧ wpM 76 [.ref (a0 + 1), .int x2] σ (fun r τ => wp 92 19 [some (.ref a0), some (.int x1), some (.int x2), u3, u4] (r.toList ++ []) τ P)) := by
  refine (wp_s (n := 12) (zcode_of mc_92 (r := (.aload_n 0, 0, 0, 0)) rfl) rfl rfl).trans ?_
  refine (wc_is (zcode_of mc_92 (r := (.getfield 12, 11, 0, 0)) rfl)).trans (and_congr_right fun h1 => ?_)
  refine (wc_getR (n' := 15) (d := 1) rfl (zcode_of mc_92 (r := (.getfield 12, 11, 0, 0)) rfl) rfl hC le_11_0 rfl rfl rfl h1).trans ?_
  refine (wp_s (n := 16) (zcode_of mc_92 (r := (.iload_n 2, 0, 0, 0)) rfl) rfl rfl).trans ?_
  exact wp_call (q := ([.ref (a0 + 1), .int x2], [])) (zcode_of mc_92 (r := (.invokevirtual 69, 76, 0, 1)) rfl) rfl (zCa_V (Nat.le_of_ble_eq_true rfl) rfl (zIs_of (cs_T hC le_11_0 h1))) ⟨Nat.le_of_ble_eq_true rfl, Nat.le_of_ble_eq_true rfl⟩
theorem b92_19 {σ : zSt} {P : Option Value → zSt → Prop} {a0 : Nat} {x1 x2 s0 : Int32} {u3 u4 : Option Value} :
    wp 92 19 [some (.ref a0), some (.int x1), some (.int x2), u3, u4] [.int s0] σ P ↔ (if ¬ s0 = 0 then wp 92 25 [some (.ref a0), some (.int x1), some (.int x2), u3, u4] [] σ P else wp 92 22 [some (.ref a0), some (.int x1), some (.int x2), u3, u4] [] σ P) := by
  exact wp_jump (off := 6) (t := 25) (zcode_of mc_92 (r := (.ifCond .ne 6, 0, 0, 0)) rfl) rfl rfl (by decide)
theorem b92_22 {σ : zSt} {P : Option Value → zSt → Prop} {a0 : Nat} {x1 x2 : Int32} {u3 u4 : Option Value} :
    wp 92 22 [some (.ref a0), some (.int x1), some (.int x2), u3, u4] [] σ P ↔ P (some (.int (-2))) σ := by
  refine (wp_bp (n' := 24) rfl (zcode_of mc_92 (r := (.bipush (-2), 0, 0, 0)) rfl) cb_m2).trans ?_
  exact wp_retI (zcode_of mc_92 (r := (.ireturn, 0, 0, 0)) rfl) rfl
theorem b92_25 {σ : zSt} {P : Option Value → zSt → Prop} (hC : CShape σ) {a0 : Nat} {x1 x2 : Int32} {u3 u4 : Option Value} :
    wp 92 25 [some (.ref a0), some (.int x1), some (.int x2), u3, u4] [] σ P ↔ (zIs σ a0 11 ∧ wpM 33 [.ref (a0 + 13), .int x1] σ (fun r τ => wp 92 33 [some (.ref a0), some (.int x1), some (.int x2), u3, u4] (r.toList ++ []) τ P)) := by
  refine (wp_s (n := 26) (zcode_of mc_92 (r := (.aload_n 0, 0, 0, 0)) rfl) rfl rfl).trans ?_
  refine (wc_is (zcode_of mc_92 (r := (.getfield 26, 11, 2, 0)) rfl)).trans (and_congr_right fun h1 => ?_)
  refine (wc_getR (n' := 29) (d := 13) rfl (zcode_of mc_92 (r := (.getfield 26, 11, 2, 0)) rfl) rfl hC le_11_2 rfl rfl rfl h1).trans ?_
  refine (wp_s (n := 30) (zcode_of mc_92 (r := (.iload_n 1, 0, 0, 0)) rfl) rfl rfl).trans ?_
  exact wp_call (q := ([.ref (a0 + 13), .int x1], [])) (zcode_of mc_92 (r := (.invokevirtual 135, 33, 0, 1)) rfl) rfl (zCa_V (Nat.le_of_ble_eq_true rfl) rfl (zIs_of (cs_T hC le_11_2 h1))) ⟨Nat.le_of_ble_eq_true rfl, Nat.le_of_ble_eq_true rfl⟩
theorem b92_33 {σ : zSt} {P : Option Value → zSt → Prop} (hC : CShape σ) {a0 s0 : Nat} {x1 x2 : Int32} {u3 u4 : Option Value} :
    wp 92 33 [some (.ref a0), some (.int x1), some (.int x2), u3, u4] [.ref s0] σ P ↔ (zIs σ a0 11 ∧ wpM 77 [.ref (a0 + 1), .int x2] σ (fun r τ => wp 92 42 [some (.ref a0), some (.int x1), some (.int x2), some (.ref s0), u4] (r.toList ++ []) τ P)) := by
  refine (wp_s (n := 34) (zcode_of mc_92 (r := (.astore_n 3, 0, 0, 0)) rfl) rfl rfl).trans ?_
  refine (wp_s (n := 35) (zcode_of mc_92 (r := (.aload_n 0, 0, 0, 0)) rfl) rfl rfl).trans ?_
  refine (wc_is (zcode_of mc_92 (r := (.getfield 12, 11, 0, 0)) rfl)).trans (and_congr_right fun h1 => ?_)
  refine (wc_getR (n' := 38) (d := 1) rfl (zcode_of mc_92 (r := (.getfield 12, 11, 0, 0)) rfl) rfl hC le_11_0 rfl rfl rfl h1).trans ?_
  refine (wp_s (n := 39) (zcode_of mc_92 (r := (.iload_n 2, 0, 0, 0)) rfl) rfl rfl).trans ?_
  exact wp_call (q := ([.ref (a0 + 1), .int x2], [])) (zcode_of mc_92 (r := (.invokevirtual 73, 77, 0, 1)) rfl) rfl (zCa_V (Nat.le_of_ble_eq_true rfl) rfl (zIs_of (cs_T hC le_11_0 h1))) ⟨Nat.le_of_ble_eq_true rfl, Nat.le_of_ble_eq_true rfl⟩
theorem b92_42 {σ : zSt} {P : Option Value → zSt → Prop} {a0 a3 s0 : Nat} {x1 x2 : Int32} {u4 : Option Value} :
    wp 92 42 [some (.ref a0), some (.int x1), some (.int x2), some (.ref a3), u4] [.ref s0] σ P ↔ (zIs σ s0 8 ∧ (if (zfi σ 8 3 s0) = 0 then wp 92 55 [some (.ref a0), some (.int x1), some (.int x2), some (.ref a3), some (.ref s0)] [] σ P else wp 92 52 [some (.ref a0), some (.int x1), some (.int x2), some (.ref a3), some (.ref s0)] [] σ P)) := by
  refine (wp_s (n := 44) (zcode_of mc_92 (r := (.astore 4, 0, 0, 0)) rfl) rfl rfl).trans ?_
  refine (wp_s (n := 46) (zcode_of mc_92 (r := (.aload 4, 0, 0, 0)) rfl) rfl rfl).trans ?_
  refine (wc_is (zcode_of mc_92 (r := (.getfield 77, 8, 3, 0)) rfl)).trans (and_congr_right fun h1 => ?_)
  refine (wc_getI (n' := 49) rfl (zcode_of mc_92 (r := (.getfield 77, 8, 3, 0)) rfl) rfl h1).trans ?_
  exact wp_jump (off := 6) (t := 55) (zcode_of mc_92 (r := (.ifCond .eq 6, 0, 0, 0)) rfl) rfl rfl (by decide)
theorem b92_52 {σ : zSt} {P : Option Value → zSt → Prop} {a0 a3 a4 : Nat} {x1 x2 : Int32} :
    wp 92 52 [some (.ref a0), some (.int x1), some (.int x2), some (.ref a3), some (.ref a4)] [] σ P ↔ P (some (.int (-3))) σ := by
  refine (wp_bp (n' := 54) rfl (zcode_of mc_92 (r := (.bipush (-3), 0, 0, 0)) rfl) cb_m3).trans ?_
  exact wp_retI (zcode_of mc_92 (r := (.ireturn, 0, 0, 0)) rfl) rfl
theorem b92_55 {σ : zSt} {P : Option Value → zSt → Prop} {a0 a3 a4 : Nat} {x1 x2 : Int32} :
    wp 92 55 [some (.ref a0), some (.int x1), some (.int x2), some (.ref a3), some (.ref a4)] [] σ P ↔ (zIs σ a4 8 ∧ (if (zfi σ 8 6 a4) = (-1) then wp 92 67 [some (.ref a0), some (.int x1), some (.int x2), some (.ref a3), some (.ref a4)] [] σ P else wp 92 64 [some (.ref a0), some (.int x1), some (.int x2), some (.ref a3), some (.ref a4)] [] σ P)) := by
  refine (wp_s (n := 57) (zcode_of mc_92 (r := (.aload 4, 0, 0, 0)) rfl) rfl rfl).trans ?_
  refine (wc_is (zcode_of mc_92 (r := (.getfield 100, 8, 6, 0)) rfl)).trans (and_congr_right fun h1 => ?_)
  refine (wc_getI (n' := 60) rfl (zcode_of mc_92 (r := (.getfield 100, 8, 6, 0)) rfl) rfl h1).trans ?_
  refine (wp_ic (n' := 61) rfl (zcode_of mc_92 (r := (.iconst (-1), 0, 0, 0)) rfl) ci_m1).trans ?_
  exact wp_jump (off := 6) (t := 67) (zcode_of mc_92 (r := (.if_icmp .eq 6, 0, 0, 0)) rfl) rfl rfl (by decide)
theorem b92_64 {σ : zSt} {P : Option Value → zSt → Prop} {a0 a3 a4 : Nat} {x1 x2 : Int32} :
    wp 92 64 [some (.ref a0), some (.int x1), some (.int x2), some (.ref a3), some (.ref a4)] [] σ P ↔ P (some (.int (-4))) σ := by
  refine (wp_bp (n' := 66) rfl (zcode_of mc_92 (r := (.bipush (-4), 0, 0, 0)) rfl) cb_m4).trans ?_
  exact wp_retI (zcode_of mc_92 (r := (.ireturn, 0, 0, 0)) rfl) rfl
theorem b92_67 {σ : zSt} {P : Option Value → zSt → Prop} (hC : CShape σ) {a0 a3 a4 : Nat} {x1 x2 : Int32} :
    wp 92 67 [some (.ref a0), some (.int x1), some (.int x2), some (.ref a3), some (.ref a4)] [] σ P ↔ (zIs σ a0 11 ∧ wpM 39 [.ref (a0 + 13), .int x1, .ref a4] σ (fun r τ => wp 92 77 [some (.ref a0), some (.int x1), some (.int x2), some (.ref a3), some (.ref a4)] (r.toList ++ []) τ P)) := by
  refine (wp_s (n := 68) (zcode_of mc_92 (r := (.aload_n 0, 0, 0, 0)) rfl) rfl rfl).trans ?_
  refine (wc_is (zcode_of mc_92 (r := (.getfield 26, 11, 2, 0)) rfl)).trans (and_congr_right fun h1 => ?_)
  refine (wc_getR (n' := 71) (d := 13) rfl (zcode_of mc_92 (r := (.getfield 26, 11, 2, 0)) rfl) rfl hC le_11_2 rfl rfl rfl h1).trans ?_
  refine (wp_s (n := 72) (zcode_of mc_92 (r := (.iload_n 1, 0, 0, 0)) rfl) rfl rfl).trans ?_
  refine (wp_s (n := 74) (zcode_of mc_92 (r := (.aload 4, 0, 0, 0)) rfl) rfl rfl).trans ?_
  exact wp_call (q := ([.ref (a0 + 13), .int x1, .ref a4], [])) (zcode_of mc_92 (r := (.invokevirtual 160, 39, 0, 2)) rfl) rfl (zCa_V (Nat.le_of_ble_eq_true rfl) rfl (zIs_of (cs_T hC le_11_2 h1))) ⟨Nat.le_of_ble_eq_true rfl, Nat.le_of_ble_eq_true rfl⟩
theorem b92_77 {σ : zSt} {P : Option Value → zSt → Prop} {a0 a3 a4 : Nat} {x1 x2 s0 : Int32} :
    wp 92 77 [some (.ref a0), some (.int x1), some (.int x2), some (.ref a3), some (.ref a4)] [.int s0] σ P ↔ (if s0 = 0 then wp 92 83 [some (.ref a0), some (.int x1), some (.int x2), some (.ref a3), some (.ref a4)] [] σ P else wp 92 80 [some (.ref a0), some (.int x1), some (.int x2), some (.ref a3), some (.ref a4)] [] σ P) := by
  exact wp_jump (off := 6) (t := 83) (zcode_of mc_92 (r := (.ifCond .eq 6, 0, 0, 0)) rfl) rfl rfl (by decide)
theorem b92_80 {σ : zSt} {P : Option Value → zSt → Prop} {a0 a3 a4 : Nat} {x1 x2 : Int32} :
    wp 92 80 [some (.ref a0), some (.int x1), some (.int x2), some (.ref a3), some (.ref a4)] [] σ P ↔ P (some (.int (-5))) σ := by
  refine (wp_bp (n' := 82) rfl (zcode_of mc_92 (r := (.bipush (-5), 0, 0, 0)) rfl) cb_m5).trans ?_
  exact wp_retI (zcode_of mc_92 (r := (.ireturn, 0, 0, 0)) rfl) rfl
theorem b92_83 {σ : zSt} {P : Option Value → zSt → Prop} (hC : CShape σ) {a0 a3 a4 : Nat} {x1 x2 : Int32} :
    wp 92 83 [some (.ref a0), some (.int x1), some (.int x2), some (.ref a3), some (.ref a4)] [] σ P ↔ (zIs σ a3 0 ∧ wpM 187 [.ref (a3 + 2)] σ (fun r τ => wp 92 90 [some (.ref a0), some (.int x1), some (.int x2), some (.ref a3), some (.ref a4)] (r.toList ++ []) τ P)) := by
  refine (wp_s (n := 84) (zcode_of mc_92 (r := (.aload_n 3, 0, 0, 0)) rfl) rfl rfl).trans ?_
  refine (wc_is (zcode_of mc_92 (r := (.getfield 163, 0, 1, 0)) rfl)).trans (and_congr_right fun h1 => ?_)
  refine (wc_getR (n' := 87) (d := 2) rfl (zcode_of mc_92 (r := (.getfield 163, 0, 1, 0)) rfl) rfl hC le_0_1 rfl rfl rfl h1).trans ?_
  exact wp_call (q := ([.ref (a3 + 2)], [])) (zcode_of mc_92 (r := (.invokevirtual 151, 187, 0, 0)) rfl) rfl (zCa_V (Nat.le_of_ble_eq_true rfl) rfl (zIs_of (cs_T hC le_0_1 h1))) ⟨Nat.le_of_ble_eq_true rfl, Nat.le_of_ble_eq_true rfl⟩
theorem b92_90 {σ : zSt} {P : Option Value → zSt → Prop} {a0 a3 a4 : Nat} {x1 x2 s0 : Int32} :
    wp 92 90 [some (.ref a0), some (.int x1), some (.int x2), some (.ref a3), some (.ref a4)] [.int s0] σ P ↔ (if s0 < 3 then wp 92 97 [some (.ref a0), some (.int x1), some (.int x2), some (.ref a3), some (.ref a4)] [] σ P else wp 92 94 [some (.ref a0), some (.int x1), some (.int x2), some (.ref a3), some (.ref a4)] [] σ P) := by
  refine (wp_ic (n' := 91) rfl (zcode_of mc_92 (r := (.iconst 3, 0, 0, 0)) rfl) ci_3).trans ?_
  exact wp_jump (off := 6) (t := 97) (zcode_of mc_92 (r := (.if_icmp .lt 6, 0, 0, 0)) rfl) rfl rfl (by decide)
theorem b92_94 {σ : zSt} {P : Option Value → zSt → Prop} {a0 a3 a4 : Nat} {x1 x2 : Int32} :
    wp 92 94 [some (.ref a0), some (.int x1), some (.int x2), some (.ref a3), some (.ref a4)] [] σ P ↔ P (some (.int (-6))) σ := by
  refine (wp_bp (n' := 96) rfl (zcode_of mc_92 (r := (.bipush (-6), 0, 0, 0)) rfl) cb_m6).trans ?_
  exact wp_retI (zcode_of mc_92 (r := (.ireturn, 0, 0, 0)) rfl) rfl
theorem b92_97 {σ : zSt} {P : Option Value → zSt → Prop} (hC : CShape σ) {a0 a3 a4 : Nat} {x1 x2 : Int32} :
    wp 92 97 [some (.ref a0), some (.int x1), some (.int x2), some (.ref a3), some (.ref a4)] [] σ P ↔ (zIs σ a3 0 ∧ wpM 192 [.ref (a3 + 2), .ref a4] σ (fun r τ => wp 92 106 [some (.ref a0), some (.int x1), some (.int x2), some (.ref a3), some (.ref a4)] (r.toList ++ []) τ P)) := by
  refine (wp_s (n := 98) (zcode_of mc_92 (r := (.aload_n 3, 0, 0, 0)) rfl) rfl rfl).trans ?_
  refine (wc_is (zcode_of mc_92 (r := (.getfield 163, 0, 1, 0)) rfl)).trans (and_congr_right fun h1 => ?_)
  refine (wc_getR (n' := 101) (d := 2) rfl (zcode_of mc_92 (r := (.getfield 163, 0, 1, 0)) rfl) rfl hC le_0_1 rfl rfl rfl h1).trans ?_
  refine (wp_s (n := 103) (zcode_of mc_92 (r := (.aload 4, 0, 0, 0)) rfl) rfl rfl).trans ?_
  exact wp_call (q := ([.ref (a3 + 2), .ref a4], [])) (zcode_of mc_92 (r := (.invokevirtual 154, 192, 0, 1)) rfl) rfl (zCa_V (Nat.le_of_ble_eq_true rfl) rfl (zIs_of (cs_T hC le_0_1 h1))) ⟨Nat.le_of_ble_eq_true rfl, Nat.le_of_ble_eq_true rfl⟩
theorem b92_106 {σ : zSt} {P : Option Value → zSt → Prop} {a0 a3 a4 : Nat} {x1 x2 s0 : Int32} :
    wp 92 106 [some (.ref a0), some (.int x1), some (.int x2), some (.ref a3), some (.ref a4)] [.int s0] σ P ↔ (zIs σ a4 8 ∧ wpM 62 [.ref a4, .int x1] σ (fun r τ => wp 92 113 [some (.ref a0), some (.int x1), some (.int x2), some (.ref a3), some (.ref a4)] (r.toList ++ []) τ P)) := by
  refine (wp_s (n := 107) (zcode_of mc_92 (r := (.pop, 0, 0, 0)) rfl) rfl rfl).trans ?_
  refine (wp_s (n := 109) (zcode_of mc_92 (r := (.aload 4, 0, 0, 0)) rfl) rfl rfl).trans ?_
  refine (wp_s (n := 110) (zcode_of mc_92 (r := (.iload_n 1, 0, 0, 0)) rfl) rfl rfl).trans ?_
  refine (wc_isV (cl := 8) (rest := []) (zcode_of mc_92 (r := (.invokevirtual 166, 62, 0, 1)) rfl) rfl rfl rfl).trans (and_congr_right fun h1 => ?_)
  exact wp_call (q := ([.ref a4, .int x1], [])) (zcode_of mc_92 (r := (.invokevirtual 166, 62, 0, 1)) rfl) rfl (zCa_V (Nat.le_of_ble_eq_true rfl) rfl h1) ⟨Nat.le_of_ble_eq_true rfl, Nat.le_of_ble_eq_true rfl⟩
theorem b92_113 {σ : zSt} {P : Option Value → zSt → Prop} (hC : CShape σ) {a0 a3 a4 : Nat} {x1 x2 : Int32} :
    wp 92 113 [some (.ref a0), some (.int x1), some (.int x2), some (.ref a3), some (.ref a4)] [] σ P ↔ (zIs σ a0 11 ∧ wpM 36 [.ref (a0 + 13)] σ (fun r τ => wp 92 120 [some (.ref a0), some (.int x1), some (.int x2), some (.ref a3), some (.ref a4)] (r.toList ++ []) τ P)) := by
  refine (wp_s (n := 114) (zcode_of mc_92 (r := (.aload_n 0, 0, 0, 0)) rfl) rfl rfl).trans ?_
  refine (wc_is (zcode_of mc_92 (r := (.getfield 26, 11, 2, 0)) rfl)).trans (and_congr_right fun h1 => ?_)
  refine (wc_getR (n' := 117) (d := 13) rfl (zcode_of mc_92 (r := (.getfield 26, 11, 2, 0)) rfl) rfl hC le_11_2 rfl rfl rfl h1).trans ?_
  exact wp_call (q := ([.ref (a0 + 13)], [])) (zcode_of mc_92 (r := (.invokevirtual 157, 36, 0, 0)) rfl) rfl (zCa_V (Nat.le_of_ble_eq_true rfl) rfl (zIs_of (cs_T hC le_11_2 h1))) ⟨Nat.le_of_ble_eq_true rfl, Nat.le_of_ble_eq_true rfl⟩
theorem b92_120 {σ : zSt} {P : Option Value → zSt → Prop} (hC : CShape σ) {a0 a3 a4 : Nat} {x1 x2 : Int32} :
    wp 92 120 [some (.ref a0), some (.int x1), some (.int x2), some (.ref a3), some (.ref a4)] [] σ P ↔ (zIs σ a3 0 ∧ wpM 187 [.ref (a3 + 2)] σ (fun r τ => wp 92 127 [some (.ref a0), some (.int x1), some (.int x2), some (.ref a3), some (.ref a4)] (r.toList ++ []) τ P)) := by
  refine (wp_s (n := 121) (zcode_of mc_92 (r := (.aload_n 3, 0, 0, 0)) rfl) rfl rfl).trans ?_
  refine (wc_is (zcode_of mc_92 (r := (.getfield 163, 0, 1, 0)) rfl)).trans (and_congr_right fun h1 => ?_)
  refine (wc_getR (n' := 124) (d := 2) rfl (zcode_of mc_92 (r := (.getfield 163, 0, 1, 0)) rfl) rfl hC le_0_1 rfl rfl rfl h1).trans ?_
  exact wp_call (q := ([.ref (a3 + 2)], [])) (zcode_of mc_92 (r := (.invokevirtual 151, 187, 0, 0)) rfl) rfl (zCa_V (Nat.le_of_ble_eq_true rfl) rfl (zIs_of (cs_T hC le_0_1 h1))) ⟨Nat.le_of_ble_eq_true rfl, Nat.le_of_ble_eq_true rfl⟩
theorem b92_127 {σ : zSt} {P : Option Value → zSt → Prop} {a0 a3 a4 : Nat} {x1 x2 s0 : Int32} :
    wp 92 127 [some (.ref a0), some (.int x1), some (.int x2), some (.ref a3), some (.ref a4)] [.int s0] σ P ↔ P (some (.int s0)) σ := by
  exact wp_retI (zcode_of mc_92 (r := (.ireturn, 0, 0, 0)) rfl) rfl
theorem mc_93 : mCode 93 = zc_93 := rfl
theorem b93 {σ : zSt} {P : Option Value → zSt → Prop} (hC : CShape σ) {a0 : Nat} {x1 x2 x3 : Int32} :
    wpM 93 [.ref a0, .int x1, .int x2, .int x3] σ P ↔ (zIs σ a0 11 ∧ wpM 32 [.ref (a0 + 13), .int x1] σ (fun r τ => wp 93 8 [some (.ref a0), some (.int x1), some (.int x2), some (.int x3)] (r.toList ++ []) τ P)) := by
  show wp 93 0 [some (.ref a0), some (.int x1), some (.int x2), some (.int x3)] [] σ P ↔ _
  refine (wp_s (n := 1) (zcode_of mc_93 (r := (.aload_n 0, 0, 0, 0)) rfl) rfl rfl).trans ?_
  refine (wc_is (zcode_of mc_93 (r := (.getfield 26, 11, 2, 0)) rfl)).trans (and_congr_right fun h1 => ?_)
  refine (wc_getR (n' := 4) (d := 13) rfl (zcode_of mc_93 (r := (.getfield 26, 11, 2, 0)) rfl) rfl hC le_11_2 rfl rfl rfl h1).trans ?_
  refine (wp_s (n := 5) (zcode_of mc_93 (r := (.iload_n 1, 0, 0, 0)) rfl) rfl rfl).trans ?_
  exact wp_call (q := ([.ref (a0 + 13), .int x1], [])) (zcode_of mc_93 (r := (.invokevirtual 134, 32, 0, 1)) rfl) rfl (zCa_V (Nat.le_of_ble_eq_true rfl) rfl (zIs_of (cs_T hC le_11_2 h1))) ⟨Nat.le_of_ble_eq_true rfl, Nat.le_of_ble_eq_true rfl⟩
theorem b93_8 {σ : zSt} {P : Option Value → zSt → Prop} {a0 : Nat} {x1 x2 x3 s0 : Int32} :
    wp 93 8 [some (.ref a0), some (.int x1), some (.int x2), some (.int x3)] [.int s0] σ P ↔ (if s0 = 0 then wp 93 32 [some (.ref a0), some (.int x1), some (.int x2), some (.int x3)] [] σ P else wp 93 11 [some (.ref a0), some (.int x1), some (.int x2), some (.int x3)] [] σ P) := by
  exact wp_jump (off := 24) (t := 32) (zcode_of mc_93 (r := (.ifCond .eq 24, 0, 0, 0)) rfl) rfl rfl (by decide)
theorem b93_11 {σ : zSt} {P : Option Value → zSt → Prop} {a0 : Nat} {x1 x2 x3 : Int32} :
    wp 93 11 [some (.ref a0), some (.int x1), some (.int x2), some (.int x3)] [] σ P ↔ (if x2 < 0 then wp 93 32 [some (.ref a0), some (.int x1), some (.int x2), some (.int x3)] [] σ P else wp 93 15 [some (.ref a0), some (.int x1), some (.int x2), some (.int x3)] [] σ P) := by
  refine (wp_s (n := 12) (zcode_of mc_93 (r := (.iload_n 2, 0, 0, 0)) rfl) rfl rfl).trans ?_
  exact wp_jump (off := 20) (t := 32) (zcode_of mc_93 (r := (.ifCond .lt 20, 0, 0, 0)) rfl) rfl rfl (by decide)
theorem b93_15 {σ : zSt} {P : Option Value → zSt → Prop} {a0 : Nat} {x1 x2 x3 : Int32} :
    wp 93 15 [some (.ref a0), some (.int x1), some (.int x2), some (.int x3)] [] σ P ↔ (if 13 < x2 then wp 93 32 [some (.ref a0), some (.int x1), some (.int x2), some (.int x3)] [] σ P else wp 93 21 [some (.ref a0), some (.int x1), some (.int x2), some (.int x3)] [] σ P) := by
  refine (wp_s (n := 16) (zcode_of mc_93 (r := (.iload_n 2, 0, 0, 0)) rfl) rfl rfl).trans ?_
  refine (wp_bp (n' := 18) rfl (zcode_of mc_93 (r := (.bipush 13, 0, 0, 0)) rfl) cb_13).trans ?_
  exact wp_jump (off := 14) (t := 32) (zcode_of mc_93 (r := (.if_icmp .gt 14, 0, 0, 0)) rfl) rfl rfl (by decide)
theorem b93_21 {σ : zSt} {P : Option Value → zSt → Prop} {a0 : Nat} {x1 x2 x3 : Int32} :
    wp 93 21 [some (.ref a0), some (.int x1), some (.int x2), some (.int x3)] [] σ P ↔ (if x3 < 0 then wp 93 32 [some (.ref a0), some (.int x1), some (.int x2), some (.int x3)] [] σ P else wp 93 25 [some (.ref a0), some (.int x1), some (.int x2), some (.int x3)] [] σ P) := by
  refine (wp_s (n := 22) (zcode_of mc_93 (r := (.iload_n 3, 0, 0, 0)) rfl) rfl rfl).trans ?_
  exact wp_jump (off := 10) (t := 32) (zcode_of mc_93 (r := (.ifCond .lt 10, 0, 0, 0)) rfl) rfl rfl (by decide)
theorem b93_25 {σ : zSt} {P : Option Value → zSt → Prop} {a0 : Nat} {x1 x2 x3 : Int32} :
    wp 93 25 [some (.ref a0), some (.int x1), some (.int x2), some (.int x3)] [] σ P ↔ (if x3 ≤ 255 then wp 93 35 [some (.ref a0), some (.int x1), some (.int x2), some (.int x3)] [] σ P else wp 93 32 [some (.ref a0), some (.int x1), some (.int x2), some (.int x3)] [] σ P) := by
  refine (wp_s (n := 26) (zcode_of mc_93 (r := (.iload_n 3, 0, 0, 0)) rfl) rfl rfl).trans ?_
  refine (wp_sp (n' := 29) rfl (zcode_of mc_93 (r := (.sipush 255, 0, 0, 0)) rfl) cs_255).trans ?_
  exact wp_jump (off := 6) (t := 35) (zcode_of mc_93 (r := (.if_icmp .le 6, 0, 0, 0)) rfl) rfl rfl (by decide)
theorem b93_32 {σ : zSt} {P : Option Value → zSt → Prop} {a0 : Nat} {x1 x2 x3 : Int32} :
    wp 93 32 [some (.ref a0), some (.int x1), some (.int x2), some (.int x3)] [] σ P ↔ P (some (.int (-2))) σ := by
  refine (wp_bp (n' := 34) rfl (zcode_of mc_93 (r := (.bipush (-2), 0, 0, 0)) rfl) cb_m2).trans ?_
  exact wp_retI (zcode_of mc_93 (r := (.ireturn, 0, 0, 0)) rfl) rfl
theorem b93_35 {σ : zSt} {P : Option Value → zSt → Prop} (hC : CShape σ) {a0 : Nat} {x1 x2 x3 : Int32} :
    wp 93 35 [some (.ref a0), some (.int x1), some (.int x2), some (.int x3)] [] σ P ↔ (zIs σ a0 11 ∧ wpM 33 [.ref (a0 + 13), .int x1] σ (fun r τ => wp 93 43 [some (.ref a0), some (.int x1), some (.int x2), some (.int x3)] (r.toList ++ []) τ P)) := by
  refine (wp_s (n := 36) (zcode_of mc_93 (r := (.aload_n 0, 0, 0, 0)) rfl) rfl rfl).trans ?_
  refine (wc_is (zcode_of mc_93 (r := (.getfield 26, 11, 2, 0)) rfl)).trans (and_congr_right fun h1 => ?_)
  refine (wc_getR (n' := 39) (d := 13) rfl (zcode_of mc_93 (r := (.getfield 26, 11, 2, 0)) rfl) rfl hC le_11_2 rfl rfl rfl h1).trans ?_
  refine (wp_s (n := 40) (zcode_of mc_93 (r := (.iload_n 1, 0, 0, 0)) rfl) rfl rfl).trans ?_
  exact wp_call (q := ([.ref (a0 + 13), .int x1], [])) (zcode_of mc_93 (r := (.invokevirtual 135, 33, 0, 1)) rfl) rfl (zCa_V (Nat.le_of_ble_eq_true rfl) rfl (zIs_of (cs_T hC le_11_2 h1))) ⟨Nat.le_of_ble_eq_true rfl, Nat.le_of_ble_eq_true rfl⟩
theorem b93_43 {σ : zSt} {P : Option Value → zSt → Prop} {a0 s0 : Nat} {x1 x2 x3 : Int32} :
    wp 93 43 [some (.ref a0), some (.int x1), some (.int x2), some (.int x3)] [.ref s0] σ P ↔ (zIs σ s0 0 ∧ wpM 2 [.ref s0, .int x2, .int x3] σ (fun r τ => wp 93 48 [some (.ref a0), some (.int x1), some (.int x2), some (.int x3)] (r.toList ++ []) τ P)) := by
  refine (wp_s (n := 44) (zcode_of mc_93 (r := (.iload_n 2, 0, 0, 0)) rfl) rfl rfl).trans ?_
  refine (wp_s (n := 45) (zcode_of mc_93 (r := (.iload_n 3, 0, 0, 0)) rfl) rfl rfl).trans ?_
  refine (wc_isV (cl := 0) (rest := []) (zcode_of mc_93 (r := (.invokevirtual 170, 2, 0, 2)) rfl) rfl rfl rfl).trans (and_congr_right fun h1 => ?_)
  exact wp_call (q := ([.ref s0, .int x2, .int x3], [])) (zcode_of mc_93 (r := (.invokevirtual 170, 2, 0, 2)) rfl) rfl (zCa_V (Nat.le_of_ble_eq_true rfl) rfl h1) ⟨Nat.le_of_ble_eq_true rfl, Nat.le_of_ble_eq_true rfl⟩
theorem b93_48 {σ : zSt} {P : Option Value → zSt → Prop} {a0 : Nat} {x1 x2 x3 s0 : Int32} :
    wp 93 48 [some (.ref a0), some (.int x1), some (.int x2), some (.int x3)] [.int s0] σ P ↔ P (some (.int s0)) σ := by
  exact wp_retI (zcode_of mc_93 (r := (.ireturn, 0, 0, 0)) rfl) rfl
theorem mc_94 : mCode 94 = zc_94 := rfl
theorem b94 {σ : zSt} {P : Option Value → zSt → Prop} (hC : CShape σ) {a0 : Nat} {x1 : Int32} :
    wpM 94 [.ref a0, .int x1] σ P ↔ (zIs σ a0 11 ∧ wpM 32 [.ref (a0 + 13), .int x1] σ (fun r τ => wp 94 8 [some (.ref a0), some (.int x1), none] (r.toList ++ []) τ P)) := by
  show wp 94 0 [some (.ref a0), some (.int x1), none] [] σ P ↔ _
  refine (wp_s (n := 1) (zcode_of mc_94 (r := (.aload_n 0, 0, 0, 0)) rfl) rfl rfl).trans ?_
  refine (wc_is (zcode_of mc_94 (r := (.getfield 26, 11, 2, 0)) rfl)).trans (and_congr_right fun h1 => ?_)
  refine (wc_getR (n' := 4) (d := 13) rfl (zcode_of mc_94 (r := (.getfield 26, 11, 2, 0)) rfl) rfl hC le_11_2 rfl rfl rfl h1).trans ?_
  refine (wp_s (n := 5) (zcode_of mc_94 (r := (.iload_n 1, 0, 0, 0)) rfl) rfl rfl).trans ?_
  exact wp_call (q := ([.ref (a0 + 13), .int x1], [])) (zcode_of mc_94 (r := (.invokevirtual 134, 32, 0, 1)) rfl) rfl (zCa_V (Nat.le_of_ble_eq_true rfl) rfl (zIs_of (cs_T hC le_11_2 h1))) ⟨Nat.le_of_ble_eq_true rfl, Nat.le_of_ble_eq_true rfl⟩
theorem b94_8 {σ : zSt} {P : Option Value → zSt → Prop} {a0 : Nat} {x1 s0 : Int32} {u2 : Option Value} :
    wp 94 8 [some (.ref a0), some (.int x1), u2] [.int s0] σ P ↔ (if ¬ s0 = 0 then wp 94 14 [some (.ref a0), some (.int x1), u2] [] σ P else wp 94 11 [some (.ref a0), some (.int x1), u2] [] σ P) := by
  exact wp_jump (off := 6) (t := 14) (zcode_of mc_94 (r := (.ifCond .ne 6, 0, 0, 0)) rfl) rfl rfl (by decide)
theorem b94_11 {σ : zSt} {P : Option Value → zSt → Prop} {a0 : Nat} {x1 : Int32} {u2 : Option Value} :
    wp 94 11 [some (.ref a0), some (.int x1), u2] [] σ P ↔ P (some (.int (-2))) σ := by
  refine (wp_bp (n' := 13) rfl (zcode_of mc_94 (r := (.bipush (-2), 0, 0, 0)) rfl) cb_m2).trans ?_
  exact wp_retI (zcode_of mc_94 (r := (.ireturn, 0, 0, 0)) rfl) rfl
theorem b94_14 {σ : zSt} {P : Option Value → zSt → Prop} (hC : CShape σ) {a0 : Nat} {x1 : Int32} {u2 : Option Value} :
    wp 94 14 [some (.ref a0), some (.int x1), u2] [] σ P ↔ (zIs σ a0 11 ∧ wpM 33 [.ref (a0 + 13), .int x1] σ (fun r τ => wp 94 22 [some (.ref a0), some (.int x1), u2] (r.toList ++ []) τ P)) := by
  refine (wp_s (n := 15) (zcode_of mc_94 (r := (.aload_n 0, 0, 0, 0)) rfl) rfl rfl).trans ?_
  refine (wc_is (zcode_of mc_94 (r := (.getfield 26, 11, 2, 0)) rfl)).trans (and_congr_right fun h1 => ?_)
  refine (wc_getR (n' := 18) (d := 13) rfl (zcode_of mc_94 (r := (.getfield 26, 11, 2, 0)) rfl) rfl hC le_11_2 rfl rfl rfl h1).trans ?_
  refine (wp_s (n := 19) (zcode_of mc_94 (r := (.iload_n 1, 0, 0, 0)) rfl) rfl rfl).trans ?_
  exact wp_call (q := ([.ref (a0 + 13), .int x1], [])) (zcode_of mc_94 (r := (.invokevirtual 135, 33, 0, 1)) rfl) rfl (zCa_V (Nat.le_of_ble_eq_true rfl) rfl (zIs_of (cs_T hC le_11_2 h1))) ⟨Nat.le_of_ble_eq_true rfl, Nat.le_of_ble_eq_true rfl⟩
theorem b94_22 {σ : zSt} {P : Option Value → zSt → Prop} {a0 s0 : Nat} {x1 : Int32} {u2 : Option Value} :
    wp 94 22 [some (.ref a0), some (.int x1), u2] [.ref s0] σ P ↔ (zIs σ s0 0 ∧ wpM 3 [.ref s0] σ (fun r τ => wp 94 25 [some (.ref a0), some (.int x1), u2] (r.toList ++ []) τ P)) := by
  refine (wc_isV (cl := 0) (rest := []) (zcode_of mc_94 (r := (.invokevirtual 173, 3, 0, 0)) rfl) rfl rfl rfl).trans (and_congr_right fun h1 => ?_)
  exact wp_call (q := ([.ref s0], [])) (zcode_of mc_94 (r := (.invokevirtual 173, 3, 0, 0)) rfl) rfl (zCa_V (Nat.le_of_ble_eq_true rfl) rfl h1) ⟨Nat.le_of_ble_eq_true rfl, Nat.le_of_ble_eq_true rfl⟩
theorem b94_25 {σ : zSt} {P : Option Value → zSt → Prop} (hC : CShape σ) {a0 : Nat} {x1 s0 : Int32} {u2 : Option Value} :
    wp 94 25 [some (.ref a0), some (.int x1), u2] [.int s0] σ P ↔ (zIs σ a0 11 ∧ wpM 36 [.ref (a0 + 13)] σ (fun r τ => wp 94 33 [some (.ref a0), some (.int x1), some (.int s0)] (r.toList ++ []) τ P)) := by
  refine (wp_s (n := 26) (zcode_of mc_94 (r := (.istore_n 2, 0, 0, 0)) rfl) rfl rfl).trans ?_
  refine (wp_s (n := 27) (zcode_of mc_94 (r := (.aload_n 0, 0, 0, 0)) rfl) rfl rfl).trans ?_
  refine (wc_is (zcode_of mc_94 (r := (.getfield 26, 11, 2, 0)) rfl)).trans (and_congr_right fun h1 => ?_)
  refine (wc_getR (n' := 30) (d := 13) rfl (zcode_of mc_94 (r := (.getfield 26, 11, 2, 0)) rfl) rfl hC le_11_2 rfl rfl rfl h1).trans ?_
  exact wp_call (q := ([.ref (a0 + 13)], [])) (zcode_of mc_94 (r := (.invokevirtual 157, 36, 0, 0)) rfl) rfl (zCa_V (Nat.le_of_ble_eq_true rfl) rfl (zIs_of (cs_T hC le_11_2 h1))) ⟨Nat.le_of_ble_eq_true rfl, Nat.le_of_ble_eq_true rfl⟩
theorem b94_33 {σ : zSt} {P : Option Value → zSt → Prop} {a0 : Nat} {x1 x2 : Int32} :
    wp 94 33 [some (.ref a0), some (.int x1), some (.int x2)] [] σ P ↔ P (some (.int x2)) σ := by
  refine (wp_s (n := 34) (zcode_of mc_94 (r := (.iload_n 2, 0, 0, 0)) rfl) rfl rfl).trans ?_
  exact wp_retI (zcode_of mc_94 (r := (.ireturn, 0, 0, 0)) rfl) rfl
theorem mc_95 : mCode 95 = zc_95 := rfl
theorem b95 {σ : zSt} {P : Option Value → zSt → Prop} (hC : CShape σ) {a0 : Nat} {x1 x2 : Int32} :
    wpM 95 [.ref a0, .int x1, .int x2] σ P ↔ (zIs σ a0 11 ∧ wpM 32 [.ref (a0 + 13), .int x1] σ (fun r τ => wp 95 8 [some (.ref a0), some (.int x1), some (.int x2), none] (r.toList ++ []) τ P)) := by
  show wp 95 0 [some (.ref a0), some (.int x1), some (.int x2), none] [] σ P ↔ _
  refine (wp_s (n := 1) (zcode_of mc_95 (r := (.aload_n 0, 0, 0, 0)) rfl) rfl rfl).trans ?_
  refine (wc_is (zcode_of mc_95 (r := (.getfield 26, 11, 2, 0)) rfl)).trans (and_congr_right fun h1 => ?_)
  refine (wc_getR (n' := 4) (d := 13) rfl (zcode_of mc_95 (r := (.getfield 26, 11, 2, 0)) rfl) rfl hC le_11_2 rfl rfl rfl h1).trans ?_
  refine (wp_s (n := 5) (zcode_of mc_95 (r := (.iload_n 1, 0, 0, 0)) rfl) rfl rfl).trans ?_
  exact wp_call (q := ([.ref (a0 + 13), .int x1], [])) (zcode_of mc_95 (r := (.invokevirtual 134, 32, 0, 1)) rfl) rfl (zCa_V (Nat.le_of_ble_eq_true rfl) rfl (zIs_of (cs_T hC le_11_2 h1))) ⟨Nat.le_of_ble_eq_true rfl, Nat.le_of_ble_eq_true rfl⟩
theorem b95_8 {σ : zSt} {P : Option Value → zSt → Prop} {a0 : Nat} {x1 x2 s0 : Int32} {u3 : Option Value} :
    wp 95 8 [some (.ref a0), some (.int x1), some (.int x2), u3] [.int s0] σ P ↔ (if ¬ s0 = 0 then wp 95 14 [some (.ref a0), some (.int x1), some (.int x2), u3] [] σ P else wp 95 11 [some (.ref a0), some (.int x1), some (.int x2), u3] [] σ P) := by
  exact wp_jump (off := 6) (t := 14) (zcode_of mc_95 (r := (.ifCond .ne 6, 0, 0, 0)) rfl) rfl rfl (by decide)
theorem b95_11 {σ : zSt} {P : Option Value → zSt → Prop} {a0 : Nat} {x1 x2 : Int32} {u3 : Option Value} :
    wp 95 11 [some (.ref a0), some (.int x1), some (.int x2), u3] [] σ P ↔ P (some (.int (-2))) σ := by
  refine (wp_bp (n' := 13) rfl (zcode_of mc_95 (r := (.bipush (-2), 0, 0, 0)) rfl) cb_m2).trans ?_
  exact wp_retI (zcode_of mc_95 (r := (.ireturn, 0, 0, 0)) rfl) rfl
theorem b95_14 {σ : zSt} {P : Option Value → zSt → Prop} (hC : CShape σ) {a0 : Nat} {x1 x2 : Int32} {u3 : Option Value} :
    wp 95 14 [some (.ref a0), some (.int x1), some (.int x2), u3] [] σ P ↔ (zIs σ a0 11 ∧ wpM 33 [.ref (a0 + 13), .int x1] σ (fun r τ => wp 95 22 [some (.ref a0), some (.int x1), some (.int x2), u3] (r.toList ++ []) τ P)) := by
  refine (wp_s (n := 15) (zcode_of mc_95 (r := (.aload_n 0, 0, 0, 0)) rfl) rfl rfl).trans ?_
  refine (wc_is (zcode_of mc_95 (r := (.getfield 26, 11, 2, 0)) rfl)).trans (and_congr_right fun h1 => ?_)
  refine (wc_getR (n' := 18) (d := 13) rfl (zcode_of mc_95 (r := (.getfield 26, 11, 2, 0)) rfl) rfl hC le_11_2 rfl rfl rfl h1).trans ?_
  refine (wp_s (n := 19) (zcode_of mc_95 (r := (.iload_n 1, 0, 0, 0)) rfl) rfl rfl).trans ?_
  exact wp_call (q := ([.ref (a0 + 13), .int x1], [])) (zcode_of mc_95 (r := (.invokevirtual 135, 33, 0, 1)) rfl) rfl (zCa_V (Nat.le_of_ble_eq_true rfl) rfl (zIs_of (cs_T hC le_11_2 h1))) ⟨Nat.le_of_ble_eq_true rfl, Nat.le_of_ble_eq_true rfl⟩
set_option maxRecDepth 20000 in
theorem b95_22 {σ : zSt} {P : Option Value → zSt → Prop} {a0 s0 : Nat} {x1 x2 : Int32} {u3 : Option Value} :
    wp 95 22 [some (.ref a0), some (.int x1), some (.int x2), u3] [.ref s0] σ P ↔ (if x2 = 0 then wp 95 56 [some (.ref a0), some (.int x1), some (.int x2), some (.ref s0)] [] σ P else if x2 = 1 then wp 95 64 [some (.ref a0), some (.int x1), some (.int x2), some (.ref s0)] [] σ P else if x2 = 2 then wp 95 72 [some (.ref a0), some (.int x1), some (.int x2), some (.ref s0)] [] σ P else if x2 = 3 then wp 95 77 [some (.ref a0), some (.int x1), some (.int x2), some (.ref s0)] [] σ P else wp 95 85 [some (.ref a0), some (.int x1), some (.int x2), some (.ref s0)] [] σ P) := by
  refine (wp_s (n := 23) (zcode_of mc_95 (r := (.astore_n 3, 0, 0, 0)) rfl) rfl rfl).trans ?_
  refine (wp_s (n := 24) (zcode_of mc_95 (r := (.iload_n 2, 0, 0, 0)) rfl) rfl rfl).trans ?_
  generalize hv9 : (x2 : Int32) = v9
  by_cases h100 : v9 = 0
  · rw [if_pos h100, h100]
    exact wp_swI (zcode_of mc_95 (r := (.tableswitch 61 0 3 #[32, 40, 48, 53], 0, 0, 0)) rfl) (t := 56) (by decide)
  rw [if_neg h100]
  by_cases h101 : v9 = 1
  · rw [if_pos h101, h101]
    exact wp_swI (zcode_of mc_95 (r := (.tableswitch 61 0 3 #[32, 40, 48, 53], 0, 0, 0)) rfl) (t := 64) (by decide)
  rw [if_neg h101]
  by_cases h102 : v9 = 2
  · rw [if_pos h102, h102]
    exact wp_swI (zcode_of mc_95 (r := (.tableswitch 61 0 3 #[32, 40, 48, 53], 0, 0, 0)) rfl) (t := 72) (by decide)
  rw [if_neg h102]
  by_cases h103 : v9 = 3
  · rw [if_pos h103, h103]
    exact wp_swI (zcode_of mc_95 (r := (.tableswitch 61 0 3 #[32, 40, 48, 53], 0, 0, 0)) rfl) (t := 77) (by decide)
  rw [if_neg h103]
  exact wp_swO (zcode_of mc_95 (r := (.tableswitch 61 0 3 #[32, 40, 48, 53], 0, 0, 0)) rfl) (t := 85) (by decide) (zsw_lo (fun k g1 g2 => by
    rcases (show k = 0 ∨ k = 1 ∨ k = 2 ∨ k = 3 by omega) with rfl | rfl | rfl | rfl
    · exact h100
    · exact h101
    · exact h102
    · exact h103) (by decide) (by decide))
theorem b95_56 {σ : zSt} {P : Option Value → zSt → Prop} (hC : CShape σ) {a0 a3 : Nat} {x1 x2 : Int32} :
    wp 95 56 [some (.ref a0), some (.int x1), some (.int x2), some (.ref a3)] [] σ P ↔ (zIs σ a3 0 ∧ wpM 187 [.ref (a3 + 1)] σ (fun r τ => wp 95 63 [some (.ref a0), some (.int x1), some (.int x2), some (.ref a3)] (r.toList ++ []) τ P)) := by
  refine (wp_s (n := 57) (zcode_of mc_95 (r := (.aload_n 3, 0, 0, 0)) rfl) rfl rfl).trans ?_
  refine (wc_is (zcode_of mc_95 (r := (.getfield 147, 0, 0, 0)) rfl)).trans (and_congr_right fun h1 => ?_)
  refine (wc_getR (n' := 60) (d := 1) rfl (zcode_of mc_95 (r := (.getfield 147, 0, 0, 0)) rfl) rfl hC le_0_0 rfl rfl rfl h1).trans ?_
  exact wp_call (q := ([.ref (a3 + 1)], [])) (zcode_of mc_95 (r := (.invokevirtual 151, 187, 0, 0)) rfl) rfl (zCa_V (Nat.le_of_ble_eq_true rfl) rfl (zIs_of (cs_T hC le_0_0 h1))) ⟨Nat.le_of_ble_eq_true rfl, Nat.le_of_ble_eq_true rfl⟩
theorem b95_63 {σ : zSt} {P : Option Value → zSt → Prop} {a0 a3 : Nat} {x1 x2 s0 : Int32} :
    wp 95 63 [some (.ref a0), some (.int x1), some (.int x2), some (.ref a3)] [.int s0] σ P ↔ P (some (.int s0)) σ := by
  exact wp_retI (zcode_of mc_95 (r := (.ireturn, 0, 0, 0)) rfl) rfl
theorem b95_64 {σ : zSt} {P : Option Value → zSt → Prop} (hC : CShape σ) {a0 a3 : Nat} {x1 x2 : Int32} :
    wp 95 64 [some (.ref a0), some (.int x1), some (.int x2), some (.ref a3)] [] σ P ↔ (zIs σ a3 0 ∧ wpM 187 [.ref (a3 + 2)] σ (fun r τ => wp 95 71 [some (.ref a0), some (.int x1), some (.int x2), some (.ref a3)] (r.toList ++ []) τ P)) := by
  refine (wp_s (n := 65) (zcode_of mc_95 (r := (.aload_n 3, 0, 0, 0)) rfl) rfl rfl).trans ?_
  refine (wc_is (zcode_of mc_95 (r := (.getfield 163, 0, 1, 0)) rfl)).trans (and_congr_right fun h1 => ?_)
  refine (wc_getR (n' := 68) (d := 2) rfl (zcode_of mc_95 (r := (.getfield 163, 0, 1, 0)) rfl) rfl hC le_0_1 rfl rfl rfl h1).trans ?_
  exact wp_call (q := ([.ref (a3 + 2)], [])) (zcode_of mc_95 (r := (.invokevirtual 151, 187, 0, 0)) rfl) rfl (zCa_V (Nat.le_of_ble_eq_true rfl) rfl (zIs_of (cs_T hC le_0_1 h1))) ⟨Nat.le_of_ble_eq_true rfl, Nat.le_of_ble_eq_true rfl⟩
theorem b95_71 {σ : zSt} {P : Option Value → zSt → Prop} {a0 a3 : Nat} {x1 x2 s0 : Int32} :
    wp 95 71 [some (.ref a0), some (.int x1), some (.int x2), some (.ref a3)] [.int s0] σ P ↔ P (some (.int s0)) σ := by
  exact wp_retI (zcode_of mc_95 (r := (.ireturn, 0, 0, 0)) rfl) rfl
theorem b95_72 {σ : zSt} {P : Option Value → zSt → Prop} {a0 a3 : Nat} {x1 x2 : Int32} :
    wp 95 72 [some (.ref a0), some (.int x1), some (.int x2), some (.ref a3)] [] σ P ↔ (zIs σ a3 0 ∧ P (some (.int (zfi σ 0 5 a3))) σ) := by
  refine (wp_s (n := 73) (zcode_of mc_95 (r := (.aload_n 3, 0, 0, 0)) rfl) rfl rfl).trans ?_
  refine (wc_is (zcode_of mc_95 (r := (.getfield 176, 0, 5, 0)) rfl)).trans (and_congr_right fun h1 => ?_)
  refine (wc_getI (n' := 76) rfl (zcode_of mc_95 (r := (.getfield 176, 0, 5, 0)) rfl) rfl h1).trans ?_
  exact wp_retI (zcode_of mc_95 (r := (.ireturn, 0, 0, 0)) rfl) rfl
theorem b95_77 {σ : zSt} {P : Option Value → zSt → Prop} {a0 a3 : Nat} {x1 x2 : Int32} :
    wp 95 77 [some (.ref a0), some (.int x1), some (.int x2), some (.ref a3)] [] σ P ↔ (zIs σ a3 0 ∧ wpM 181 [.long (zfl σ 0 6 a3)] σ (fun r τ => wp 95 84 [some (.ref a0), some (.int x1), some (.int x2), some (.ref a3)] (r.toList ++ []) τ P)) := by
  refine (wp_s (n := 78) (zcode_of mc_95 (r := (.aload_n 3, 0, 0, 0)) rfl) rfl rfl).trans ?_
  refine (wc_is (zcode_of mc_95 (r := (.getfield 179, 0, 6, 0)) rfl)).trans (and_congr_right fun h1 => ?_)
  refine (wc_getL (n' := 81) rfl (zcode_of mc_95 (r := (.getfield 179, 0, 6, 0)) rfl) rfl h1).trans ?_
  exact wp_call (q := ([.long (zfl σ 0 6 a3)], [])) (zcode_of mc_95 (r := (.invokestatic 183, 181, 1, 1)) rfl) rfl rfl ⟨Nat.le_of_ble_eq_true rfl, Nat.le_of_ble_eq_true rfl⟩
theorem b95_84 {σ : zSt} {P : Option Value → zSt → Prop} {a0 a3 : Nat} {x1 x2 s0 : Int32} :
    wp 95 84 [some (.ref a0), some (.int x1), some (.int x2), some (.ref a3)] [.int s0] σ P ↔ P (some (.int s0)) σ := by
  exact wp_retI (zcode_of mc_95 (r := (.ireturn, 0, 0, 0)) rfl) rfl
theorem b95_85 {σ : zSt} {P : Option Value → zSt → Prop} {a0 a3 : Nat} {x1 x2 : Int32} :
    wp 95 85 [some (.ref a0), some (.int x1), some (.int x2), some (.ref a3)] [] σ P ↔ P (some (.int (-2))) σ := by
  refine (wp_bp (n' := 87) rfl (zcode_of mc_95 (r := (.bipush (-2), 0, 0, 0)) rfl) cb_m2).trans ?_
  exact wp_retI (zcode_of mc_95 (r := (.ireturn, 0, 0, 0)) rfl) rfl
theorem mc_96 : mCode 96 = zc_96 := rfl
theorem b96 {σ : zSt} {P : Option Value → zSt → Prop} (hC : CShape σ) {a0 : Nat} {x1 x2 : Int32} :
    wpM 96 [.ref a0, .int x1, .int x2] σ P ↔ (zIs σ a0 11 ∧ wpM 32 [.ref (a0 + 13), .int x1] σ (fun r τ => wp 96 8 [some (.ref a0), some (.int x1), some (.int x2)] (r.toList ++ []) τ P)) := by
  show wp 96 0 [some (.ref a0), some (.int x1), some (.int x2)] [] σ P ↔ _
  refine (wp_s (n := 1) (zcode_of mc_96 (r := (.aload_n 0, 0, 0, 0)) rfl) rfl rfl).trans ?_
  refine (wc_is (zcode_of mc_96 (r := (.getfield 26, 11, 2, 0)) rfl)).trans (and_congr_right fun h1 => ?_)
  refine (wc_getR (n' := 4) (d := 13) rfl (zcode_of mc_96 (r := (.getfield 26, 11, 2, 0)) rfl) rfl hC le_11_2 rfl rfl rfl h1).trans ?_
  refine (wp_s (n := 5) (zcode_of mc_96 (r := (.iload_n 1, 0, 0, 0)) rfl) rfl rfl).trans ?_
  exact wp_call (q := ([.ref (a0 + 13), .int x1], [])) (zcode_of mc_96 (r := (.invokevirtual 134, 32, 0, 1)) rfl) rfl (zCa_V (Nat.le_of_ble_eq_true rfl) rfl (zIs_of (cs_T hC le_11_2 h1))) ⟨Nat.le_of_ble_eq_true rfl, Nat.le_of_ble_eq_true rfl⟩
theorem b96_8 {σ : zSt} {P : Option Value → zSt → Prop} {a0 : Nat} {x1 x2 s0 : Int32} :
    wp 96 8 [some (.ref a0), some (.int x1), some (.int x2)] [.int s0] σ P ↔ (if s0 = 0 then wp 96 22 [some (.ref a0), some (.int x1), some (.int x2)] [] σ P else wp 96 11 [some (.ref a0), some (.int x1), some (.int x2)] [] σ P) := by
  exact wp_jump (off := 14) (t := 22) (zcode_of mc_96 (r := (.ifCond .eq 14, 0, 0, 0)) rfl) rfl rfl (by decide)
theorem b96_11 {σ : zSt} {P : Option Value → zSt → Prop} (hC : CShape σ) {a0 : Nat} {x1 x2 : Int32} :
    wp 96 11 [some (.ref a0), some (.int x1), some (.int x2)] [] σ P ↔ (zIs σ a0 11 ∧ wpM 32 [.ref (a0 + 13), .int x2] σ (fun r τ => wp 96 19 [some (.ref a0), some (.int x1), some (.int x2)] (r.toList ++ []) τ P)) := by
  refine (wp_s (n := 12) (zcode_of mc_96 (r := (.aload_n 0, 0, 0, 0)) rfl) rfl rfl).trans ?_
  refine (wc_is (zcode_of mc_96 (r := (.getfield 26, 11, 2, 0)) rfl)).trans (and_congr_right fun h1 => ?_)
  refine (wc_getR (n' := 15) (d := 13) rfl (zcode_of mc_96 (r := (.getfield 26, 11, 2, 0)) rfl) rfl hC le_11_2 rfl rfl rfl h1).trans ?_
  refine (wp_s (n := 16) (zcode_of mc_96 (r := (.iload_n 2, 0, 0, 0)) rfl) rfl rfl).trans ?_
  exact wp_call (q := ([.ref (a0 + 13), .int x2], [])) (zcode_of mc_96 (r := (.invokevirtual 134, 32, 0, 1)) rfl) rfl (zCa_V (Nat.le_of_ble_eq_true rfl) rfl (zIs_of (cs_T hC le_11_2 h1))) ⟨Nat.le_of_ble_eq_true rfl, Nat.le_of_ble_eq_true rfl⟩
theorem b96_19 {σ : zSt} {P : Option Value → zSt → Prop} {a0 : Nat} {x1 x2 s0 : Int32} :
    wp 96 19 [some (.ref a0), some (.int x1), some (.int x2)] [.int s0] σ P ↔ (if ¬ s0 = 0 then wp 96 25 [some (.ref a0), some (.int x1), some (.int x2)] [] σ P else wp 96 22 [some (.ref a0), some (.int x1), some (.int x2)] [] σ P) := by
  exact wp_jump (off := 6) (t := 25) (zcode_of mc_96 (r := (.ifCond .ne 6, 0, 0, 0)) rfl) rfl rfl (by decide)
theorem b96_22 {σ : zSt} {P : Option Value → zSt → Prop} {a0 : Nat} {x1 x2 : Int32} :
    wp 96 22 [some (.ref a0), some (.int x1), some (.int x2)] [] σ P ↔ P (some (.int (-2))) σ := by
  refine (wp_bp (n' := 24) rfl (zcode_of mc_96 (r := (.bipush (-2), 0, 0, 0)) rfl) cb_m2).trans ?_
  exact wp_retI (zcode_of mc_96 (r := (.ireturn, 0, 0, 0)) rfl) rfl
theorem b96_25 {σ : zSt} {P : Option Value → zSt → Prop} (hC : CShape σ) {a0 : Nat} {x1 x2 : Int32} :
    wp 96 25 [some (.ref a0), some (.int x1), some (.int x2)] [] σ P ↔ (zIs σ a0 11 ∧ wpM 33 [.ref (a0 + 13), .int x1] σ (fun r τ => wp 96 33 [some (.ref a0), some (.int x1), some (.int x2)] (r.toList ++ []) τ P)) := by
  refine (wp_s (n := 26) (zcode_of mc_96 (r := (.aload_n 0, 0, 0, 0)) rfl) rfl rfl).trans ?_
  refine (wc_is (zcode_of mc_96 (r := (.getfield 26, 11, 2, 0)) rfl)).trans (and_congr_right fun h1 => ?_)
  refine (wc_getR (n' := 29) (d := 13) rfl (zcode_of mc_96 (r := (.getfield 26, 11, 2, 0)) rfl) rfl hC le_11_2 rfl rfl rfl h1).trans ?_
  refine (wp_s (n := 30) (zcode_of mc_96 (r := (.iload_n 1, 0, 0, 0)) rfl) rfl rfl).trans ?_
  exact wp_call (q := ([.ref (a0 + 13), .int x1], [])) (zcode_of mc_96 (r := (.invokevirtual 135, 33, 0, 1)) rfl) rfl (zCa_V (Nat.le_of_ble_eq_true rfl) rfl (zIs_of (cs_T hC le_11_2 h1))) ⟨Nat.le_of_ble_eq_true rfl, Nat.le_of_ble_eq_true rfl⟩
theorem b96_33 {σ : zSt} {P : Option Value → zSt → Prop} {a0 s0 : Nat} {x1 x2 : Int32} :
    wp 96 33 [some (.ref a0), some (.int x1), some (.int x2)] [.ref s0] σ P ↔ (zIs σ s0 0 ∧ wpM 108 [.int x2] σ (fun r τ => wp 96 40 [some (.ref a0), some (.int x1), some (.int x2)] (r.toList ++ [.long (zfl σ 0 6 s0)]) τ P)) := by
  refine (wc_is (zcode_of mc_96 (r := (.getfield 179, 0, 6, 0)) rfl)).trans (and_congr_right fun h1 => ?_)
  refine (wc_getL (n' := 36) rfl (zcode_of mc_96 (r := (.getfield 179, 0, 6, 0)) rfl) rfl h1).trans ?_
  refine (wp_s (n := 37) (zcode_of mc_96 (r := (.iload_n 2, 0, 0, 0)) rfl) rfl rfl).trans ?_
  exact wp_call (q := ([.int x2], [.long (zfl σ 0 6 s0)])) (zcode_of mc_96 (r := (.invokestatic 189, 108, 1, 1)) rfl) rfl rfl ⟨Nat.le_of_ble_eq_true rfl, Nat.le_of_ble_eq_true rfl⟩
theorem b96_40 {σ : zSt} {P : Option Value → zSt → Prop} {a0 : Nat} {x1 x2 : Int32} {s0 s1 : Int64} :
    wp 96 40 [some (.ref a0), some (.int x1), some (.int x2)] [.long s0, .long s1] σ P ↔ (if (lg_cmp (s1 &&& s0) 0) = 0 then wp 96 50 [some (.ref a0), some (.int x1), some (.int x2)] [] σ P else wp 96 46 [some (.ref a0), some (.int x1), some (.int x2)] [] σ P) := by
  refine (wp_s (n := 41) (zcode_of mc_96 (r := (.land, 0, 0, 0)) rfl) rfl rfl).trans ?_
  refine (wp_lc (n' := 42) rfl (zcode_of mc_96 (r := (.lconst 0, 0, 0, 0)) rfl) cc_0).trans ?_
  refine (wp_s (n := 43) (zcode_of mc_96 (r := (.lcmp, 0, 0, 0)) rfl) rfl rfl).trans ?_
  exact wp_jump (off := 7) (t := 50) (zcode_of mc_96 (r := (.ifCond .eq 7, 0, 0, 0)) rfl) rfl rfl (by decide)
theorem b96_46 {σ : zSt} {P : Option Value → zSt → Prop} {a0 : Nat} {x1 x2 : Int32} :
    wp 96 46 [some (.ref a0), some (.int x1), some (.int x2)] [] σ P ↔ wp 96 51 [some (.ref a0), some (.int x1), some (.int x2)] [.int 1] σ P := by
  refine (wp_ic (n' := 47) rfl (zcode_of mc_96 (r := (.iconst 1, 0, 0, 0)) rfl) ci_1).trans ?_
  exact wp_goto (off := 4) (t := 51) (zcode_of mc_96 (r := (.goto 4, 0, 0, 0)) rfl) (by decide)
theorem b96_50 {σ : zSt} {P : Option Value → zSt → Prop} {a0 : Nat} {x1 x2 : Int32} :
    wp 96 50 [some (.ref a0), some (.int x1), some (.int x2)] [] σ P ↔ wp 96 51 [some (.ref a0), some (.int x1), some (.int x2)] [.int 0] σ P := by
  refine (wp_ic (n' := 51) rfl (zcode_of mc_96 (r := (.iconst 0, 0, 0, 0)) rfl) ci_0).trans ?_
  exact Iff.rfl
theorem b96_51 {σ : zSt} {P : Option Value → zSt → Prop} {a0 : Nat} {x1 x2 s0 : Int32} :
    wp 96 51 [some (.ref a0), some (.int x1), some (.int x2)] [.int s0] σ P ↔ P (some (.int s0)) σ := by
  exact wp_retI (zcode_of mc_96 (r := (.ireturn, 0, 0, 0)) rfl) rfl
theorem mc_97 : mCode 97 = zc_97 := rfl
theorem b97 {σ : zSt} {P : Option Value → zSt → Prop} {a0 : Nat} {x1 x2 : Int32} :
    wpM 97 [.ref a0, .int x1, .int x2] σ P ↔ wpM 107 [.int x1] σ (fun r τ => wp 97 4 [some (.ref a0), some (.int x1), some (.int x2), none, none, none, none, none] (r.toList ++ []) τ P) := by
  show wp 97 0 [some (.ref a0), some (.int x1), some (.int x2), none, none, none, none, none] [] σ P ↔ _
  refine (wp_s (n := 1) (zcode_of mc_97 (r := (.iload_n 1, 0, 0, 0)) rfl) rfl rfl).trans ?_
  exact wp_call (q := ([.int x1], [])) (zcode_of mc_97 (r := (.invokestatic 118, 107, 1, 1)) rfl) rfl rfl ⟨Nat.le_of_ble_eq_true rfl, Nat.le_of_ble_eq_true rfl⟩
theorem b97_4 {σ : zSt} {P : Option Value → zSt → Prop} {a0 : Nat} {x1 x2 s0 : Int32} {u3 u4 u5 u6 u7 : Option Value} :
    wp 97 4 [some (.ref a0), some (.int x1), some (.int x2), u3, u4, u5, u6, u7] [.int s0] σ P ↔ (if s0 = 0 then wp 97 23 [some (.ref a0), some (.int x1), some (.int x2), u3, u4, u5, u6, u7] [] σ P else wp 97 7 [some (.ref a0), some (.int x1), some (.int x2), u3, u4, u5, u6, u7] [] σ P) := by
  exact wp_jump (off := 19) (t := 23) (zcode_of mc_97 (r := (.ifCond .eq 19, 0, 0, 0)) rfl) rfl rfl (by decide)
theorem b97_7 {σ : zSt} {P : Option Value → zSt → Prop} {a0 : Nat} {x1 x2 : Int32} {u3 u4 u5 u6 u7 : Option Value} :
    wp 97 7 [some (.ref a0), some (.int x1), some (.int x2), u3, u4, u5, u6, u7] [] σ P ↔ (if x2 = (-1) then wp 97 26 [some (.ref a0), some (.int x1), some (.int x2), u3, u4, u5, u6, u7] [] σ P else wp 97 12 [some (.ref a0), some (.int x1), some (.int x2), u3, u4, u5, u6, u7] [] σ P) := by
  refine (wp_s (n := 8) (zcode_of mc_97 (r := (.iload_n 2, 0, 0, 0)) rfl) rfl rfl).trans ?_
  refine (wp_ic (n' := 9) rfl (zcode_of mc_97 (r := (.iconst (-1), 0, 0, 0)) rfl) ci_m1).trans ?_
  exact wp_jump (off := 17) (t := 26) (zcode_of mc_97 (r := (.if_icmp .eq 17, 0, 0, 0)) rfl) rfl rfl (by decide)
theorem b97_12 {σ : zSt} {P : Option Value → zSt → Prop} (hC : CShape σ) {a0 : Nat} {x1 x2 : Int32} {u3 u4 u5 u6 u7 : Option Value} :
    wp 97 12 [some (.ref a0), some (.int x1), some (.int x2), u3, u4, u5, u6, u7] [] σ P ↔ (zIs σ a0 11 ∧ wpM 76 [.ref (a0 + 1), .int x2] σ (fun r τ => wp 97 20 [some (.ref a0), some (.int x1), some (.int x2), u3, u4, u5, u6, u7] (r.toList ++ []) τ P)) := by
  refine (wp_s (n := 13) (zcode_of mc_97 (r := (.aload_n 0, 0, 0, 0)) rfl) rfl rfl).trans ?_
  refine (wc_is (zcode_of mc_97 (r := (.getfield 12, 11, 0, 0)) rfl)).trans (and_congr_right fun h1 => ?_)
  refine (wc_getR (n' := 16) (d := 1) rfl (zcode_of mc_97 (r := (.getfield 12, 11, 0, 0)) rfl) rfl hC le_11_0 rfl rfl rfl h1).trans ?_
  refine (wp_s (n := 17) (zcode_of mc_97 (r := (.iload_n 2, 0, 0, 0)) rfl) rfl rfl).trans ?_
  exact wp_call (q := ([.ref (a0 + 1), .int x2], [])) (zcode_of mc_97 (r := (.invokevirtual 69, 76, 0, 1)) rfl) rfl (zCa_V (Nat.le_of_ble_eq_true rfl) rfl (zIs_of (cs_T hC le_11_0 h1))) ⟨Nat.le_of_ble_eq_true rfl, Nat.le_of_ble_eq_true rfl⟩
