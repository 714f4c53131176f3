theorem mc_0 : mCode 0 = zc_0 := rfl
theorem b0 {σ : zSt} {P : Option Value → zSt → Prop} {a0 : Nat} :
    wpM 0 [.ref a0] σ P ↔ wp 0 8 [some (.ref a0), none] [.ref (znx σ), .ref a0] (zNew σ 13) P := by
  show wp 0 0 [some (.ref a0), none] [] σ P ↔ _
  refine (wp_s (n := 1) (zcode_of mc_0 (r := (.aload_n 0, 0, 0, 0)) rfl) rfl rfl).trans ?_
  refine (wc_oi (n' := 4) rfl (zcode_of mc_0 (r := (.invokespecial 3, 0, 5, 0)) rfl) (Nat.le_of_ble_eq_true rfl)).trans ?_
  refine (wp_s (n := 5) (zcode_of mc_0 (r := (.aload_n 0, 0, 0, 0)) rfl) rfl rfl).trans ?_
  refine (wc_new (n' := 8) rfl (zcode_of mc_0 (r := (.new 9, 13, 0, 0)) rfl)).trans ?_
  exact Iff.rfl
theorem b0_8 {σ : zSt} {P : Option Value → zSt → Prop} {a0 s0 s1 : Nat} {u1 : Option Value} :
    wp 0 8 [some (.ref a0), u1] [.ref s0, .ref s1] σ P ↔ wpM 184 [.ref s0] σ (fun r τ => wp 0 12 [some (.ref a0), u1] (r.toList ++ [.ref s0, .ref s1]) τ P) := by
  refine (wp_s (n := 9) (zcode_of mc_0 (r := (.dup, 0, 0, 0)) rfl) rfl rfl).trans ?_
  exact wp_call (q := ([.ref s0], [.ref s0, .ref s1])) (zcode_of mc_0 (r := (.invokespecial 11, 184, 2, 0)) rfl) rfl (zCa_I (Nat.le_of_ble_eq_true rfl) rfl (Or.inl rfl)) ⟨Nat.le_of_ble_eq_true rfl, Nat.le_of_ble_eq_true rfl⟩
theorem b0_12 {σ : zSt} {P : Option Value → zSt → Prop} {a0 s0 s1 : Nat} {u1 : Option Value} :
    wp 0 12 [some (.ref a0), u1] [.ref s0, .ref s1] σ P ↔ (zIs σ s1 0 ∧ wp 0 19 [some (.ref a0), u1] [.ref (znx (sfr σ 0 0 s1 (some s0))), .ref a0] (zNew (sfr σ 0 0 s1 (some s0)) 13) P) := by
  refine (wc_isP (zcode_of mc_0 (r := (.putfield 12, 0, 0, 0)) rfl)).trans (and_congr_right fun h1 => ?_)
  refine (wc_putR (n' := 15) rfl (zcode_of mc_0 (r := (.putfield 12, 0, 0, 0)) rfl) rfl h1).trans ?_
  refine (wp_s (n := 16) (zcode_of mc_0 (r := (.aload_n 0, 0, 0, 0)) rfl) rfl rfl).trans ?_
  refine (wc_new (σ := sfr σ 0 0 s1 (some s0)) (n' := 19) rfl (zcode_of mc_0 (r := (.new 9, 13, 0, 0)) rfl)).trans ?_
  exact Iff.rfl
theorem b0_19 {σ : zSt} {P : Option Value → zSt → Prop} {a0 s0 s1 : Nat} {u1 : Option Value} :
    wp 0 19 [some (.ref a0), u1] [.ref s0, .ref s1] σ P ↔ wpM 184 [.ref s0] σ (fun r τ => wp 0 23 [some (.ref a0), u1] (r.toList ++ [.ref s0, .ref s1]) τ P) := by
  refine (wp_s (n := 20) (zcode_of mc_0 (r := (.dup, 0, 0, 0)) rfl) rfl rfl).trans ?_
  exact wp_call (q := ([.ref s0], [.ref s0, .ref s1])) (zcode_of mc_0 (r := (.invokespecial 11, 184, 2, 0)) rfl) rfl (zCa_I (Nat.le_of_ble_eq_true rfl) rfl (Or.inl rfl)) ⟨Nat.le_of_ble_eq_true rfl, Nat.le_of_ble_eq_true rfl⟩
theorem b0_23 {σ : zSt} {P : Option Value → zSt → Prop} {a0 s0 s1 : Nat} {u1 : Option Value} :
    wp 0 23 [some (.ref a0), u1] [.ref s0, .ref s1] σ P ↔ (zIs σ s1 0 ∧ ((¬ (16 : Int32) < 0 ∧ Int32.toNatClampNeg 16 * componentBytes (siteTy 4) ≤ 536870912) ∧ wp 0 31 [some (.ref a0), u1] [.ref (znx (sfr σ 0 1 s1 (some s0))), .ref a0] (zNewI (sfr σ 0 1 s1 (some s0)) 4 (Int32.toNatClampNeg 16)) P)) := by
  refine (wc_isP (zcode_of mc_0 (r := (.putfield 18, 0, 1, 0)) rfl)).trans (and_congr_right fun h1 => ?_)
  refine (wc_putR (n' := 26) rfl (zcode_of mc_0 (r := (.putfield 18, 0, 1, 0)) rfl) rfl h1).trans ?_
  refine (wp_s (n := 27) (zcode_of mc_0 (r := (.aload_n 0, 0, 0, 0)) rfl) rfl rfl).trans ?_
  refine (wp_bp (n' := 29) rfl (zcode_of mc_0 (r := (.bipush 16, 0, 0, 0)) rfl) cb_16).trans ?_
  refine (wc_na (σ := sfr σ 0 1 s1 (some s0)) (n' := 31) rfl (zcode_of mc_0 (r := (.newarray .int, 4, 0, 0)) rfl)).trans (and_congr_right fun h2 => ?_)
  exact Iff.rfl
theorem b0_31 {σ : zSt} {P : Option Value → zSt → Prop} {a0 s0 s1 : Nat} {u1 : Option Value} :
    wp 0 31 [some (.ref a0), u1] [.ref s0, .ref s1] σ P ↔ (zIs σ s1 0 ∧ ((¬ (16 : Int32) < 0 ∧ Int32.toNatClampNeg 16 * componentBytes (siteTy 5) ≤ 536870912) ∧ wp 0 39 [some (.ref a0), u1] [.ref (znx (sfr σ 0 2 s1 (some s0))), .ref a0] (zNewI (sfr σ 0 2 s1 (some s0)) 5 (Int32.toNatClampNeg 16)) P)) := by
  refine (wc_isP (zcode_of mc_0 (r := (.putfield 21, 0, 2, 0)) rfl)).trans (and_congr_right fun h1 => ?_)
  refine (wc_putR (n' := 34) rfl (zcode_of mc_0 (r := (.putfield 21, 0, 2, 0)) rfl) rfl h1).trans ?_
  refine (wp_s (n := 35) (zcode_of mc_0 (r := (.aload_n 0, 0, 0, 0)) rfl) rfl rfl).trans ?_
  refine (wp_bp (n' := 37) rfl (zcode_of mc_0 (r := (.bipush 16, 0, 0, 0)) rfl) cb_16).trans ?_
  refine (wc_na (σ := sfr σ 0 2 s1 (some s0)) (n' := 39) rfl (zcode_of mc_0 (r := (.newarray .int, 5, 0, 0)) rfl)).trans (and_congr_right fun h2 => ?_)
  exact Iff.rfl
theorem b0_39 {σ : zSt} {P : Option Value → zSt → Prop} {a0 s0 s1 : Nat} {u1 : Option Value} :
    wp 0 39 [some (.ref a0), u1] [.ref s0, .ref s1] σ P ↔ (zIs σ s1 0 ∧ ((¬ (2 : Int32) < 0 ∧ Int32.toNatClampNeg 2 * 4 ≤ 536870912) ∧ wp 0 47 [some (.ref a0), u1] [.ref (znx (sfr σ 0 3 s1 (some s0))), .ref a0] (zNewR (sfr σ 0 3 s1 (some s0)) 8 (Int32.toNatClampNeg 2)) P)) := by
  refine (wc_isP (zcode_of mc_0 (r := (.putfield 25, 0, 3, 0)) rfl)).trans (and_congr_right fun h1 => ?_)
  refine (wc_putR (n' := 42) rfl (zcode_of mc_0 (r := (.putfield 25, 0, 3, 0)) rfl) rfl h1).trans ?_
  refine (wp_s (n := 43) (zcode_of mc_0 (r := (.aload_n 0, 0, 0, 0)) rfl) rfl rfl).trans ?_
  refine (wp_ic (n' := 44) rfl (zcode_of mc_0 (r := (.iconst 2, 0, 0, 0)) rfl) ci_2).trans ?_
  refine (wc_ana (σ := sfr σ 0 3 s1 (some s0)) (n' := 47) rfl (zcode_of mc_0 (r := (.anewarray 28, 8, 0, 0)) rfl)).trans (and_congr_right fun h2 => ?_)
  exact Iff.rfl
theorem b0_47 {σ : zSt} {P : Option Value → zSt → Prop} {a0 s0 s1 : Nat} {u1 : Option Value} :
    wp 0 47 [some (.ref a0), u1] [.ref s0, .ref s1] σ P ↔ (zIs σ s1 0 ∧ (zIs σ a0 0 ∧ wp 0 62 [some (.ref a0), some (.int 0)] [] (sfl (sfi (sfr σ 0 4 s1 (some s0)) 0 5 a0 0) 0 6 a0 0) P)) := by
  refine (wc_isP (zcode_of mc_0 (r := (.putfield 30, 0, 4, 0)) rfl)).trans (and_congr_right fun h1 => ?_)
  refine (wc_putR (n' := 50) rfl (zcode_of mc_0 (r := (.putfield 30, 0, 4, 0)) rfl) rfl h1).trans ?_
  refine (wp_s (n := 51) (zcode_of mc_0 (r := (.aload_n 0, 0, 0, 0)) rfl) rfl rfl).trans ?_
  refine (wp_ic (n' := 52) rfl (zcode_of mc_0 (r := (.iconst 0, 0, 0, 0)) rfl) ci_0).trans ?_
  refine (wc_isP (σ := sfr σ 0 4 s1 (some s0)) (zcode_of mc_0 (r := (.putfield 34, 0, 5, 0)) rfl)).trans (and_congr_right fun h2 => ?_)
  refine (wc_putI (σ := sfr σ 0 4 s1 (some s0)) (n' := 55) rfl (zcode_of mc_0 (r := (.putfield 34, 0, 5, 0)) rfl) rfl h2).trans ?_
  refine (wp_s (n := 56) (zcode_of mc_0 (r := (.aload_n 0, 0, 0, 0)) rfl) rfl rfl).trans ?_
  refine (wp_lc (n' := 57) rfl (zcode_of mc_0 (r := (.lconst 0, 0, 0, 0)) rfl) cc_0).trans ?_
  refine (wc_putL (σ := sfi (sfr σ 0 4 s1 (some s0)) 0 5 a0 0) (n' := 60) rfl (zcode_of mc_0 (r := (.putfield 38, 0, 6, 0)) rfl) rfl h2).trans ?_
  refine (wp_ic (n' := 61) rfl (zcode_of mc_0 (r := (.iconst 0, 0, 0, 0)) rfl) ci_0).trans ?_
  refine (wp_s (n := 62) (zcode_of mc_0 (r := (.istore_n 1, 0, 0, 0)) rfl) rfl rfl).trans ?_
  exact Iff.rfl
theorem b0_62 {σ : zSt} {P : Option Value → zSt → Prop} {a0 : Nat} {x1 : Int32} :
    wp 0 62 [some (.ref a0), some (.int x1)] [] σ P ↔ (zIs σ a0 0 ∧ ((zfr σ 0 4 a0).isSome = true ∧ (((ztg σ (zrf σ 0 4 a0)).1 = 2 ∨ (ztg σ (zrf σ 0 4 a0)).1 = 3 ∨ (ztg σ (zrf σ 0 4 a0)).1 = 4 ∨ (ztg σ (zrf σ 0 4 a0)).1 = 5) ∧ (if (zln σ (zrf σ 0 4 a0)) ≤ x1 then wp 0 90 [some (.ref a0), some (.int x1)] [] σ P else wp 0 71 [some (.ref a0), some (.int x1)] [] σ P)))) := by
  refine (wp_s (n := 63) (zcode_of mc_0 (r := (.iload_n 1, 0, 0, 0)) rfl) rfl rfl).trans ?_
  refine (wp_s (n := 64) (zcode_of mc_0 (r := (.aload_n 0, 0, 0, 0)) rfl) rfl rfl).trans ?_
  refine (wc_is (zcode_of mc_0 (r := (.getfield 30, 0, 4, 0)) rfl)).trans (and_congr_right fun h1 => ?_)
  refine (wc_getE (n' := 67) rfl (zcode_of mc_0 (r := (.getfield 30, 0, 4, 0)) rfl) rfl h1).trans (and_congr_right fun h2 => ?_)
  refine (wc_len (n' := 68) rfl (zcode_of mc_0 (r := (.arraylength, 0, 0, 0)) rfl)).trans (and_congr_right fun h3 => ?_)
  exact wp_jump (off := 22) (t := 90) (zcode_of mc_0 (r := (.if_icmp .ge 22, 0, 0, 0)) rfl) rfl rfl (by decide)
theorem b0_71 {σ : zSt} {P : Option Value → zSt → Prop} {a0 : Nat} {x1 : Int32} :
    wp 0 71 [some (.ref a0), some (.int x1)] [] σ P ↔ (zIs σ a0 0 ∧ ((zfr σ 0 4 a0).isSome = true ∧ wp 0 79 [some (.ref a0), some (.int x1)] [.ref (znx σ), .int x1, .ref (zrf σ 0 4 a0)] (zNew σ 5) P)) := by
  refine (wp_s (n := 72) (zcode_of mc_0 (r := (.aload_n 0, 0, 0, 0)) rfl) rfl rfl).trans ?_
  refine (wc_is (zcode_of mc_0 (r := (.getfield 30, 0, 4, 0)) rfl)).trans (and_congr_right fun h1 => ?_)
  refine (wc_getE (n' := 75) rfl (zcode_of mc_0 (r := (.getfield 30, 0, 4, 0)) rfl) rfl h1).trans (and_congr_right fun h2 => ?_)
  refine (wp_s (n := 76) (zcode_of mc_0 (r := (.iload_n 1, 0, 0, 0)) rfl) rfl rfl).trans ?_
  refine (wc_new (n' := 79) rfl (zcode_of mc_0 (r := (.new 28, 5, 0, 0)) rfl)).trans ?_
  exact Iff.rfl
theorem b0_79 {σ : zSt} {P : Option Value → zSt → Prop} {a0 s0 s2 : Nat} {x1 s1 : Int32} :
    wp 0 79 [some (.ref a0), some (.int x1)] [.ref s0, .int s1, .ref s2] σ P ↔ wpM 41 [.ref s0] σ (fun r τ => wp 0 83 [some (.ref a0), some (.int x1)] (r.toList ++ [.ref s0, .int s1, .ref s2]) τ P) := by
  refine (wp_s (n := 80) (zcode_of mc_0 (r := (.dup, 0, 0, 0)) rfl) rfl rfl).trans ?_
  exact wp_call (q := ([.ref s0], [.ref s0, .int s1, .ref s2])) (zcode_of mc_0 (r := (.invokespecial 42, 41, 3, 0)) rfl) rfl (zCa_I (Nat.le_of_ble_eq_true rfl) rfl (Or.inr rfl)) ⟨Nat.le_of_ble_eq_true rfl, Nat.le_of_ble_eq_true rfl⟩
theorem b0_83 {σ : zSt} {P : Option Value → zSt → Prop} {a0 s0 s2 : Nat} {x1 s1 : Int32} :
    wp 0 83 [some (.ref a0), some (.int x1)] [.ref s0, .int s1, .ref s2] σ P ↔ (((ztg σ s2).1 = 3 ∧ zAsg (ztg σ s2).2.1 (ztg σ s0) = true ∧ zIn s1 (ztg σ s2).2.2) ∧ wp 0 62 [some (.ref a0), some (.int (x1 + 1))] [] (sar σ (ztg σ s2).2.1 s2 (Int32.toNatClampNeg s1) (some s0)) P) := by
  refine (wc_ast (n' := 84) rfl (zcode_of mc_0 (r := (.aastore, 0, 0, 0)) rfl)).trans (and_congr_right fun h1 => ?_)
  refine (wp_inc (n' := 87) rfl (zcode_of mc_0 (r := (.iinc 1 1, 0, 0, 0)) rfl) rfl rfl ci_1).trans ?_
  exact wp_goto (off := (-25)) (t := 62) (zcode_of mc_0 (r := (.goto (-25), 0, 0, 0)) rfl) (by decide)
theorem b0_90 {σ : zSt} {P : Option Value → zSt → Prop} {a0 : Nat} {x1 : Int32} :
    wp 0 90 [some (.ref a0), some (.int x1)] [] σ P ↔ P none σ := by
  exact wp_retV (zcode_of mc_0 (r := (.return_, 0, 0, 0)) rfl) rfl
theorem mc_1 : mCode 1 = zc_1 := rfl
theorem b1 {σ : zSt} {P : Option Value → zSt → Prop} {a0 : Nat} {x1 : Int32} :
    wpM 1 [.ref a0, .int x1] σ P ↔ wp 1 2 [some (.ref a0), some (.int x1), some (.int 0)] [] σ P := by
  show wp 1 0 [some (.ref a0), some (.int x1), none] [] σ P ↔ _
  refine (wp_ic (n' := 1) rfl (zcode_of mc_1 (r := (.iconst 0, 0, 0, 0)) rfl) ci_0).trans ?_
  refine (wp_s (n := 2) (zcode_of mc_1 (r := (.istore_n 2, 0, 0, 0)) rfl) rfl rfl).trans ?_
  exact Iff.rfl
theorem b1_2 {σ : zSt} {P : Option Value → zSt → Prop} (hC : CShape σ) {a0 : Nat} {x1 x2 : Int32} :
    wp 1 2 [some (.ref a0), some (.int x1), some (.int x2)] [] σ P ↔ (zIs σ a0 0 ∧ wpM 187 [.ref (a0 + 1)] σ (fun r τ => wp 1 10 [some (.ref a0), some (.int x1), some (.int x2)] (r.toList ++ [.int x2]) τ P)) := by
  refine (wp_s (n := 3) (zcode_of mc_1 (r := (.iload_n 2, 0, 0, 0)) rfl) rfl rfl).trans ?_
  refine (wp_s (n := 4) (zcode_of mc_1 (r := (.aload_n 0, 0, 0, 0)) rfl) rfl rfl).trans ?_
  refine (wc_is (zcode_of mc_1 (r := (.getfield 12, 0, 0, 0)) rfl)).trans (and_congr_right fun h1 => ?_)
  refine (wc_getR (n' := 7) (d := 1) rfl (zcode_of mc_1 (r := (.getfield 12, 0, 0, 0)) rfl) rfl hC le_0_0 rfl rfl rfl h1).trans ?_
  exact wp_call (q := ([.ref (a0 + 1)], [.int x2])) (zcode_of mc_1 (r := (.invokevirtual 43, 187, 0, 0)) rfl) rfl (zCa_V (Nat.le_of_ble_eq_true rfl) rfl (zIs_of (cs_T hC le_0_0 h1))) ⟨Nat.le_of_ble_eq_true rfl, Nat.le_of_ble_eq_true rfl⟩
theorem b1_10 {σ : zSt} {P : Option Value → zSt → Prop} {a0 : Nat} {x1 x2 s0 s1 : Int32} :
    wp 1 10 [some (.ref a0), some (.int x1), some (.int x2)] [.int s0, .int s1] σ P ↔ (if s0 ≤ s1 then wp 1 39 [some (.ref a0), some (.int x1), some (.int x2)] [] σ P else wp 1 13 [some (.ref a0), some (.int x1), some (.int x2)] [] σ P) := by
  exact wp_jump (off := 29) (t := 39) (zcode_of mc_1 (r := (.if_icmp .ge 29, 0, 0, 0)) rfl) rfl rfl (by decide)
theorem b1_13 {σ : zSt} {P : Option Value → zSt → Prop} (hC : CShape σ) {a0 : Nat} {x1 x2 : Int32} :
    wp 1 13 [some (.ref a0), some (.int x1), some (.int x2)] [] σ P ↔ (zIs σ a0 0 ∧ wpM 190 [.ref (a0 + 1), .int x2] σ (fun r τ => wp 1 21 [some (.ref a0), some (.int x1), some (.int x2)] (r.toList ++ []) τ P)) := by
  refine (wp_s (n := 14) (zcode_of mc_1 (r := (.aload_n 0, 0, 0, 0)) rfl) rfl rfl).trans ?_
  refine (wc_is (zcode_of mc_1 (r := (.getfield 12, 0, 0, 0)) rfl)).trans (and_congr_right fun h1 => ?_)
  refine (wc_getR (n' := 17) (d := 1) rfl (zcode_of mc_1 (r := (.getfield 12, 0, 0, 0)) rfl) rfl hC le_0_0 rfl rfl rfl h1).trans ?_
  refine (wp_s (n := 18) (zcode_of mc_1 (r := (.iload_n 2, 0, 0, 0)) rfl) rfl rfl).trans ?_
  exact wp_call (q := ([.ref (a0 + 1), .int x2], [])) (zcode_of mc_1 (r := (.invokevirtual 47, 190, 0, 1)) rfl) rfl (zCa_V (Nat.le_of_ble_eq_true rfl) rfl (zIs_of (cs_T hC le_0_0 h1))) ⟨Nat.le_of_ble_eq_true rfl, Nat.le_of_ble_eq_true rfl⟩
theorem b1_21 {σ : zSt} {P : Option Value → zSt → Prop} {a0 s0 : Nat} {x1 x2 : Int32} :
    wp 1 21 [some (.ref a0), some (.int x1), some (.int x2)] [.ref s0] σ P ↔ (zIs σ s0 8 ∧ (if ¬ (zfi σ 8 0 s0) = x1 then wp 1 33 [some (.ref a0), some (.int x1), some (.int x2)] [] σ P else wp 1 31 [some (.ref a0), some (.int x1), some (.int x2)] [] σ P)) := by
  refine (wc_chk (n' := 24) rfl (zcode_of mc_1 (r := (.checkcast 51, 8, 0, 0)) rfl)).trans (and_congr_right fun h1 => ?_)
  refine (wc_getI (n' := 27) rfl (zcode_of mc_1 (r := (.getfield 53, 8, 0, 0)) rfl) rfl h1).trans ?_
  refine (wp_s (n := 28) (zcode_of mc_1 (r := (.iload_n 1, 0, 0, 0)) rfl) rfl rfl).trans ?_
  exact wp_jump (off := 5) (t := 33) (zcode_of mc_1 (r := (.if_icmp .ne 5, 0, 0, 0)) rfl) rfl rfl (by decide)
theorem b1_31 {σ : zSt} {P : Option Value → zSt → Prop} {a0 : Nat} {x1 x2 : Int32} :
    wp 1 31 [some (.ref a0), some (.int x1), some (.int x2)] [] σ P ↔ (((1 : Int32) = 0 ∨ (1 : Int32) = 1) ∧ P (some (.int 1)) σ) := by
  refine (wp_ic (n' := 32) rfl (zcode_of mc_1 (r := (.iconst 1, 0, 0, 0)) rfl) ci_1).trans ?_
  exact wp_retZ (zcode_of mc_1 (r := (.ireturn, 0, 0, 0)) rfl) rfl
theorem b1_33 {σ : zSt} {P : Option Value → zSt → Prop} {a0 : Nat} {x1 x2 : Int32} :
    wp 1 33 [some (.ref a0), some (.int x1), some (.int x2)] [] σ P ↔ wp 1 2 [some (.ref a0), some (.int x1), some (.int (x2 + 1))] [] σ P := by
  refine (wp_inc (n' := 36) rfl (zcode_of mc_1 (r := (.iinc 2 1, 0, 0, 0)) rfl) rfl rfl ci_1).trans ?_
  exact wp_goto (off := (-34)) (t := 2) (zcode_of mc_1 (r := (.goto (-34), 0, 0, 0)) rfl) (by decide)
theorem b1_39 {σ : zSt} {P : Option Value → zSt → Prop} {a0 : Nat} {x1 x2 : Int32} :
    wp 1 39 [some (.ref a0), some (.int x1), some (.int x2)] [] σ P ↔ (((0 : Int32) = 0 ∨ (0 : Int32) = 1) ∧ P (some (.int 0)) σ) := by
  refine (wp_ic (n' := 40) rfl (zcode_of mc_1 (r := (.iconst 0, 0, 0, 0)) rfl) ci_0).trans ?_
  exact wp_retZ (zcode_of mc_1 (r := (.ireturn, 0, 0, 0)) rfl) rfl
theorem mc_2 : mCode 2 = zc_2 := rfl
theorem b2 {σ : zSt} {P : Option Value → zSt → Prop} {a0 : Nat} {x1 x2 : Int32} :
    wpM 2 [.ref a0, .int x1, .int x2] σ P ↔ (zIs σ a0 0 ∧ (if (zfi σ 0 5 a0) < 16 then wp 2 12 [some (.ref a0), some (.int x1), some (.int x2)] [] σ P else wp 2 9 [some (.ref a0), some (.int x1), some (.int x2)] [] σ P)) := by
  show wp 2 0 [some (.ref a0), some (.int x1), some (.int x2)] [] σ P ↔ _
  refine (wp_s (n := 1) (zcode_of mc_2 (r := (.aload_n 0, 0, 0, 0)) rfl) rfl rfl).trans ?_
  refine (wc_is (zcode_of mc_2 (r := (.getfield 34, 0, 5, 0)) rfl)).trans (and_congr_right fun h1 => ?_)
  refine (wc_getI (n' := 4) rfl (zcode_of mc_2 (r := (.getfield 34, 0, 5, 0)) rfl) rfl h1).trans ?_
  refine (wp_bp (n' := 6) rfl (zcode_of mc_2 (r := (.bipush 16, 0, 0, 0)) rfl) cb_16).trans ?_
  exact wp_jump (off := 6) (t := 12) (zcode_of mc_2 (r := (.if_icmp .lt 6, 0, 0, 0)) rfl) rfl rfl (by decide)
theorem b2_9 {σ : zSt} {P : Option Value → zSt → Prop} {a0 : Nat} {x1 x2 : Int32} :
    wp 2 9 [some (.ref a0), some (.int x1), some (.int x2)] [] σ P ↔ P (some (.int (-6))) σ := by
  refine (wp_bp (n' := 11) rfl (zcode_of mc_2 (r := (.bipush (-6), 0, 0, 0)) rfl) cb_m6).trans ?_
  exact wp_retI (zcode_of mc_2 (r := (.ireturn, 0, 0, 0)) rfl) rfl
theorem b2_12 {σ : zSt} {P : Option Value → zSt → Prop} (hC : CShape σ) {a0 : Nat} {x1 x2 : Int32} :
    wp 2 12 [some (.ref a0), some (.int x1), some (.int x2)] [] σ P ↔ (zIs σ a0 0 ∧ (zIn (zfi σ 0 5 a0) 16 ∧ (zIn (zfi σ 0 5 a0) 16 ∧ P (some (.int (zfi (sfi (sai (sai σ 4 (a0 + 3) (Int32.toNatClampNeg (zfi σ 0 5 a0)) x1) 5 (a0 + 4) (Int32.toNatClampNeg (zfi σ 0 5 a0)) x2) 0 5 a0 ((zfi σ 0 5 a0) + 1)) 0 5 a0))) (sfi (sai (sai σ 4 (a0 + 3) (Int32.toNatClampNeg (zfi σ 0 5 a0)) x1) 5 (a0 + 4) (Int32.toNatClampNeg (zfi σ 0 5 a0)) x2) 0 5 a0 ((zfi σ 0 5 a0) + 1))))) := by
  refine (wp_s (n := 13) (zcode_of mc_2 (r := (.aload_n 0, 0, 0, 0)) rfl) rfl rfl).trans ?_
  refine (wc_is (zcode_of mc_2 (r := (.getfield 21, 0, 2, 0)) rfl)).trans (and_congr_right fun h1 => ?_)
  refine (wc_getR (n' := 16) (d := 3) rfl (zcode_of mc_2 (r := (.getfield 21, 0, 2, 0)) rfl) rfl hC le_0_2 rfl rfl rfl h1).trans ?_
  refine (wp_s (n := 17) (zcode_of mc_2 (r := (.aload_n 0, 0, 0, 0)) rfl) rfl rfl).trans ?_
  refine (wc_getI (n' := 20) rfl (zcode_of mc_2 (r := (.getfield 34, 0, 5, 0)) rfl) rfl h1).trans ?_
  refine (wp_s (n := 21) (zcode_of mc_2 (r := (.iload_n 1, 0, 0, 0)) rfl) rfl rfl).trans ?_
  refine (wc_st (n' := 22) rfl (zcode_of mc_2 (r := (.iastore, 0, 0, 0)) rfl) (cs_T hC le_0_2 h1) rfl).trans (and_congr_right fun h2 => ?_)
  refine (wp_s (n := 23) (zcode_of mc_2 (r := (.aload_n 0, 0, 0, 0)) rfl) rfl rfl).trans ?_
  refine (wc_getR (σ := sai σ 4 (a0 + 3) (Int32.toNatClampNeg (zfi σ 0 5 a0)) x1) (n' := 26) (d := 4) rfl (zcode_of mc_2 (r := (.getfield 25, 0, 3, 0)) rfl) rfl (cs_sai hC) le_0_3 rfl rfl rfl h1).trans ?_
  refine (wp_s (n := 27) (zcode_of mc_2 (r := (.aload_n 0, 0, 0, 0)) rfl) rfl rfl).trans ?_
  refine (wc_getI (σ := sai σ 4 (a0 + 3) (Int32.toNatClampNeg (zfi σ 0 5 a0)) x1) (n' := 30) rfl (zcode_of mc_2 (r := (.getfield 34, 0, 5, 0)) rfl) rfl h1).trans ?_
  refine (wp_s (n := 31) (zcode_of mc_2 (r := (.iload_n 2, 0, 0, 0)) rfl) rfl rfl).trans ?_
  refine (wc_st (σ := sai σ 4 (a0 + 3) (Int32.toNatClampNeg (zfi σ 0 5 a0)) x1) (n' := 32) rfl (zcode_of mc_2 (r := (.iastore, 0, 0, 0)) rfl) (cs_T (cs_sai hC) le_0_3 h1) rfl).trans (and_congr_right fun h3 => ?_)
  refine (wp_s (n := 33) (zcode_of mc_2 (r := (.aload_n 0, 0, 0, 0)) rfl) rfl rfl).trans ?_
  refine (wp_s (n := 34) (zcode_of mc_2 (r := (.dup, 0, 0, 0)) rfl) rfl rfl).trans ?_
  refine (wc_getI (σ := sai (sai σ 4 (a0 + 3) (Int32.toNatClampNeg (zfi σ 0 5 a0)) x1) 5 (a0 + 4) (Int32.toNatClampNeg (zfi σ 0 5 a0)) x2) (n' := 37) rfl (zcode_of mc_2 (r := (.getfield 34, 0, 5, 0)) rfl) rfl h1).trans ?_
  refine (wp_ic (n' := 38) rfl (zcode_of mc_2 (r := (.iconst 1, 0, 0, 0)) rfl) ci_1).trans ?_
  refine (wp_s (n := 39) (zcode_of mc_2 (r := (.iadd, 0, 0, 0)) rfl) rfl rfl).trans ?_
  refine (wc_putI (σ := sai (sai σ 4 (a0 + 3) (Int32.toNatClampNeg (zfi σ 0 5 a0)) x1) 5 (a0 + 4) (Int32.toNatClampNeg (zfi σ 0 5 a0)) x2) (n' := 42) rfl (zcode_of mc_2 (r := (.putfield 34, 0, 5, 0)) rfl) rfl h1).trans ?_
  refine (wp_s (n := 43) (zcode_of mc_2 (r := (.aload_n 0, 0, 0, 0)) rfl) rfl rfl).trans ?_
  refine (wc_getI (σ := sfi (sai (sai σ 4 (a0 + 3) (Int32.toNatClampNeg (zfi σ 0 5 a0)) x1) 5 (a0 + 4) (Int32.toNatClampNeg (zfi σ 0 5 a0)) x2) 0 5 a0 ((zfi σ 0 5 a0) + 1)) (n' := 46) rfl (zcode_of mc_2 (r := (.getfield 34, 0, 5, 0)) rfl) rfl h1).trans ?_
  exact wp_retI (zcode_of mc_2 (r := (.ireturn, 0, 0, 0)) rfl) rfl
theorem mc_3 : mCode 3 = zc_3 := rfl
theorem b3 {σ : zSt} {P : Option Value → zSt → Prop} {a0 : Nat} :
    wpM 3 [.ref a0] σ P ↔ (zIs σ a0 0 ∧ wp 3 7 [some (.ref a0), some (.int (zfi σ 0 5 a0)), some (.int 0)] [] σ P) := by
  show wp 3 0 [some (.ref a0), none, none] [] σ P ↔ _
  refine (wp_s (n := 1) (zcode_of mc_3 (r := (.aload_n 0, 0, 0, 0)) rfl) rfl rfl).trans ?_
  refine (wc_is (zcode_of mc_3 (r := (.getfield 34, 0, 5, 0)) rfl)).trans (and_congr_right fun h1 => ?_)
  refine (wc_getI (n' := 4) rfl (zcode_of mc_3 (r := (.getfield 34, 0, 5, 0)) rfl) rfl h1).trans ?_
  refine (wp_s (n := 5) (zcode_of mc_3 (r := (.istore_n 1, 0, 0, 0)) rfl) rfl rfl).trans ?_
  refine (wp_ic (n' := 6) rfl (zcode_of mc_3 (r := (.iconst 0, 0, 0, 0)) rfl) ci_0).trans ?_
  refine (wp_s (n := 7) (zcode_of mc_3 (r := (.istore_n 2, 0, 0, 0)) rfl) rfl rfl).trans ?_
  exact Iff.rfl
theorem b3_7 {σ : zSt} {P : Option Value → zSt → Prop} (hC : CShape σ) {a0 : Nat} {x1 x2 : Int32} :
    wp 3 7 [some (.ref a0), some (.int x1), some (.int x2)] [] σ P ↔ (zIs σ a0 0 ∧ wpM 187 [.ref (a0 + 2)] σ (fun r τ => wp 3 15 [some (.ref a0), some (.int x1), some (.int x2)] (r.toList ++ [.int x2]) τ P)) := by
  refine (wp_s (n := 8) (zcode_of mc_3 (r := (.iload_n 2, 0, 0, 0)) rfl) rfl rfl).trans ?_
  refine (wp_s (n := 9) (zcode_of mc_3 (r := (.aload_n 0, 0, 0, 0)) rfl) rfl rfl).trans ?_
  refine (wc_is (zcode_of mc_3 (r := (.getfield 18, 0, 1, 0)) rfl)).trans (and_congr_right fun h1 => ?_)
  refine (wc_getR (n' := 12) (d := 2) rfl (zcode_of mc_3 (r := (.getfield 18, 0, 1, 0)) rfl) rfl hC le_0_1 rfl rfl rfl h1).trans ?_
  exact wp_call (q := ([.ref (a0 + 2)], [.int x2])) (zcode_of mc_3 (r := (.invokevirtual 43, 187, 0, 0)) rfl) rfl (zCa_V (Nat.le_of_ble_eq_true rfl) rfl (zIs_of (cs_T hC le_0_1 h1))) ⟨Nat.le_of_ble_eq_true rfl, Nat.le_of_ble_eq_true rfl⟩
theorem b3_15 {σ : zSt} {P : Option Value → zSt → Prop} {a0 : Nat} {x1 x2 s0 s1 : Int32} :
    wp 3 15 [some (.ref a0), some (.int x1), some (.int x2)] [.int s0, .int s1] σ P ↔ (if s0 ≤ s1 then wp 3 39 [some (.ref a0), some (.int x1), some (.int x2)] [] σ P else wp 3 18 [some (.ref a0), some (.int x1), some (.int x2)] [] σ P) := by
  exact wp_jump (off := 24) (t := 39) (zcode_of mc_3 (r := (.if_icmp .ge 24, 0, 0, 0)) rfl) rfl rfl (by decide)
theorem b3_18 {σ : zSt} {P : Option Value → zSt → Prop} (hC : CShape σ) {a0 : Nat} {x1 x2 : Int32} :
    wp 3 18 [some (.ref a0), some (.int x1), some (.int x2)] [] σ P ↔ (zIs σ a0 0 ∧ wpM 190 [.ref (a0 + 2), .int x2] σ (fun r τ => wp 3 26 [some (.ref a0), some (.int x1), some (.int x2)] (r.toList ++ []) τ P)) := by
  refine (wp_s (n := 19) (zcode_of mc_3 (r := (.aload_n 0, 0, 0, 0)) rfl) rfl rfl).trans ?_
  refine (wc_is (zcode_of mc_3 (r := (.getfield 18, 0, 1, 0)) rfl)).trans (and_congr_right fun h1 => ?_)
  refine (wc_getR (n' := 22) (d := 2) rfl (zcode_of mc_3 (r := (.getfield 18, 0, 1, 0)) rfl) rfl hC le_0_1 rfl rfl rfl h1).trans ?_
  refine (wp_s (n := 23) (zcode_of mc_3 (r := (.iload_n 2, 0, 0, 0)) rfl) rfl rfl).trans ?_
  exact wp_call (q := ([.ref (a0 + 2), .int x2], [])) (zcode_of mc_3 (r := (.invokevirtual 47, 190, 0, 1)) rfl) rfl (zCa_V (Nat.le_of_ble_eq_true rfl) rfl (zIs_of (cs_T hC le_0_1 h1))) ⟨Nat.le_of_ble_eq_true rfl, Nat.le_of_ble_eq_true rfl⟩
theorem b3_26 {σ : zSt} {P : Option Value → zSt → Prop} {a0 s0 : Nat} {x1 x2 : Int32} :
    wp 3 26 [some (.ref a0), some (.int x1), some (.int x2)] [.ref s0] σ P ↔ (zIs σ s0 8 ∧ wpM 62 [.ref s0, .int (-1)] σ (fun r τ => wp 3 33 [some (.ref a0), some (.int x1), some (.int x2)] (r.toList ++ []) τ P)) := by
  refine (wc_chk (n' := 29) rfl (zcode_of mc_3 (r := (.checkcast 51, 8, 0, 0)) rfl)).trans (and_congr_right fun h1 => ?_)
  refine (wp_ic (n' := 30) rfl (zcode_of mc_3 (r := (.iconst (-1), 0, 0, 0)) rfl) ci_m1).trans ?_
  exact wp_call (q := ([.ref s0, .int (-1)], [])) (zcode_of mc_3 (r := (.invokevirtual 56, 62, 0, 1)) rfl) rfl (zCa_V (Nat.le_of_ble_eq_true rfl) rfl h1) ⟨Nat.le_of_ble_eq_true rfl, Nat.le_of_ble_eq_true rfl⟩
theorem b3_33 {σ : zSt} {P : Option Value → zSt → Prop} {a0 : Nat} {x1 x2 : Int32} :
    wp 3 33 [some (.ref a0), some (.int x1), some (.int x2)] [] σ P ↔ wp 3 7 [some (.ref a0), some (.int x1), some (.int (x2 + 1))] [] σ P := by
  refine (wp_inc (n' := 36) rfl (zcode_of mc_3 (r := (.iinc 2 1, 0, 0, 0)) rfl) rfl rfl ci_1).trans ?_
  exact wp_goto (off := (-29)) (t := 7) (zcode_of mc_3 (r := (.goto (-29), 0, 0, 0)) rfl) (by decide)
theorem b3_39 {σ : zSt} {P : Option Value → zSt → Prop} (hC : CShape σ) {a0 : Nat} {x1 x2 : Int32} :
    wp 3 39 [some (.ref a0), some (.int x1), some (.int x2)] [] σ P ↔ (zIs σ a0 0 ∧ wpM 196 [.ref (a0 + 1)] σ (fun r τ => wp 3 46 [some (.ref a0), some (.int x1), some (.int x2)] (r.toList ++ []) τ P)) := by
  refine (wp_s (n := 40) (zcode_of mc_3 (r := (.aload_n 0, 0, 0, 0)) rfl) rfl rfl).trans ?_
  refine (wc_is (zcode_of mc_3 (r := (.getfield 12, 0, 0, 0)) rfl)).trans (and_congr_right fun h1 => ?_)
  refine (wc_getR (n' := 43) (d := 1) rfl (zcode_of mc_3 (r := (.getfield 12, 0, 0, 0)) rfl) rfl hC le_0_0 rfl rfl rfl h1).trans ?_
  exact wp_call (q := ([.ref (a0 + 1)], [])) (zcode_of mc_3 (r := (.invokevirtual 60, 196, 0, 0)) rfl) rfl (zCa_V (Nat.le_of_ble_eq_true rfl) rfl (zIs_of (cs_T hC le_0_0 h1))) ⟨Nat.le_of_ble_eq_true rfl, Nat.le_of_ble_eq_true rfl⟩
theorem b3_46 {σ : zSt} {P : Option Value → zSt → Prop} (hC : CShape σ) {a0 : Nat} {x1 x2 : Int32} :
    wp 3 46 [some (.ref a0), some (.int x1), some (.int x2)] [] σ P ↔ (zIs σ a0 0 ∧ wpM 196 [.ref (a0 + 2)] σ (fun r τ => wp 3 53 [some (.ref a0), some (.int x1), some (.int x2)] (r.toList ++ []) τ P)) := by
  refine (wp_s (n := 47) (zcode_of mc_3 (r := (.aload_n 0, 0, 0, 0)) rfl) rfl rfl).trans ?_
  refine (wc_is (zcode_of mc_3 (r := (.getfield 18, 0, 1, 0)) rfl)).trans (and_congr_right fun h1 => ?_)
  refine (wc_getR (n' := 50) (d := 2) rfl (zcode_of mc_3 (r := (.getfield 18, 0, 1, 0)) rfl) rfl hC le_0_1 rfl rfl rfl h1).trans ?_
  exact wp_call (q := ([.ref (a0 + 2)], [])) (zcode_of mc_3 (r := (.invokevirtual 60, 196, 0, 0)) rfl) rfl (zCa_V (Nat.le_of_ble_eq_true rfl) rfl (zIs_of (cs_T hC le_0_1 h1))) ⟨Nat.le_of_ble_eq_true rfl, Nat.le_of_ble_eq_true rfl⟩
theorem b3_53 {σ : zSt} {P : Option Value → zSt → Prop} {a0 : Nat} {x1 x2 : Int32} :
    wp 3 53 [some (.ref a0), some (.int x1), some (.int x2)] [] σ P ↔ (zIs σ a0 0 ∧ P (some (.int x1)) (sfi σ 0 5 a0 0)) := by
  refine (wp_s (n := 54) (zcode_of mc_3 (r := (.aload_n 0, 0, 0, 0)) rfl) rfl rfl).trans ?_
  refine (wp_ic (n' := 55) rfl (zcode_of mc_3 (r := (.iconst 0, 0, 0, 0)) rfl) ci_0).trans ?_
  refine (wc_isP (zcode_of mc_3 (r := (.putfield 34, 0, 5, 0)) rfl)).trans (and_congr_right fun h1 => ?_)
  refine (wc_putI (n' := 58) rfl (zcode_of mc_3 (r := (.putfield 34, 0, 5, 0)) rfl) rfl h1).trans ?_
  refine (wp_s (n := 59) (zcode_of mc_3 (r := (.iload_n 1, 0, 0, 0)) rfl) rfl rfl).trans ?_
  exact wp_retI (zcode_of mc_3 (r := (.ireturn, 0, 0, 0)) rfl) rfl
theorem mc_4 : mCode 4 = zc_4 := rfl
theorem b4 {σ : zSt} {P : Option Value → zSt → Prop} {a0 a1 : Nat} {x2 : Int32} :
    wpM 4 [.ref a0, .ref a1, .int x2] σ P ↔ wp 4 2 [some (.ref a0), some (.ref a1), some (.int x2), some (.int 0)] [] σ P := by
  show wp 4 0 [some (.ref a0), some (.ref a1), some (.int x2), none] [] σ P ↔ _
  refine (wp_ic (n' := 1) rfl (zcode_of mc_4 (r := (.iconst 0, 0, 0, 0)) rfl) ci_0).trans ?_
  refine (wp_s (n := 2) (zcode_of mc_4 (r := (.istore_n 3, 0, 0, 0)) rfl) rfl rfl).trans ?_
  exact Iff.rfl
theorem b4_2 {σ : zSt} {P : Option Value → zSt → Prop} (hC : CShape σ) {a0 a1 : Nat} {x2 x3 : Int32} :
    wp 4 2 [some (.ref a0), some (.ref a1), some (.int x2), some (.int x3)] [] σ P ↔ (zIs σ a0 0 ∧ wpM 187 [.ref (a0 + 2)] σ (fun r τ => wp 4 10 [some (.ref a0), some (.ref a1), some (.int x2), some (.int x3)] (r.toList ++ [.int x3]) τ P)) := by
  refine (wp_s (n := 3) (zcode_of mc_4 (r := (.iload_n 3, 0, 0, 0)) rfl) rfl rfl).trans ?_
  refine (wp_s (n := 4) (zcode_of mc_4 (r := (.aload_n 0, 0, 0, 0)) rfl) rfl rfl).trans ?_
  refine (wc_is (zcode_of mc_4 (r := (.getfield 18, 0, 1, 0)) rfl)).trans (and_congr_right fun h1 => ?_)
  refine (wc_getR (n' := 7) (d := 2) rfl (zcode_of mc_4 (r := (.getfield 18, 0, 1, 0)) rfl) rfl hC le_0_1 rfl rfl rfl h1).trans ?_
  exact wp_call (q := ([.ref (a0 + 2)], [.int x3])) (zcode_of mc_4 (r := (.invokevirtual 43, 187, 0, 0)) rfl) rfl (zCa_V (Nat.le_of_ble_eq_true rfl) rfl (zIs_of (cs_T hC le_0_1 h1))) ⟨Nat.le_of_ble_eq_true rfl, Nat.le_of_ble_eq_true rfl⟩
theorem b4_10 {σ : zSt} {P : Option Value → zSt → Prop} {a0 a1 : Nat} {x2 x3 s0 s1 : Int32} :
    wp 4 10 [some (.ref a0), some (.ref a1), some (.int x2), some (.int x3)] [.int s0, .int s1] σ P ↔ (if s0 ≤ s1 then wp 4 49 [some (.ref a0), some (.ref a1), some (.int x2), some (.int x3)] [] σ P else wp 4 13 [some (.ref a0), some (.ref a1), some (.int x2), some (.int x3)] [] σ P) := by
  exact wp_jump (off := 39) (t := 49) (zcode_of mc_4 (r := (.if_icmp .ge 39, 0, 0, 0)) rfl) rfl rfl (by decide)
theorem b4_13 {σ : zSt} {P : Option Value → zSt → Prop} {a0 a1 : Nat} {x2 x3 : Int32} :
    wp 4 13 [some (.ref a0), some (.ref a1), some (.int x2), some (.int x3)] [] σ P ↔ (if 3 ≤ x3 then wp 4 49 [some (.ref a0), some (.ref a1), some (.int x2), some (.int x3)] [] σ P else wp 4 18 [some (.ref a0), some (.ref a1), some (.int x2), some (.int x3)] [] σ P) := by
  refine (wp_s (n := 14) (zcode_of mc_4 (r := (.iload_n 3, 0, 0, 0)) rfl) rfl rfl).trans ?_
  refine (wp_ic (n' := 15) rfl (zcode_of mc_4 (r := (.iconst 3, 0, 0, 0)) rfl) ci_3).trans ?_
  exact wp_jump (off := 34) (t := 49) (zcode_of mc_4 (r := (.if_icmp .ge 34, 0, 0, 0)) rfl) rfl rfl (by decide)
theorem b4_18 {σ : zSt} {P : Option Value → zSt → Prop} (hC : CShape σ) {a0 a1 : Nat} {x2 x3 : Int32} :
    wp 4 18 [some (.ref a0), some (.ref a1), some (.int x2), some (.int x3)] [] σ P ↔ (zIs σ a0 0 ∧ wpM 190 [.ref (a0 + 2), .int x3] σ (fun r τ => wp 4 26 [some (.ref a0), some (.ref a1), some (.int x2), some (.int x3)] (r.toList ++ []) τ P)) := by
  refine (wp_s (n := 19) (zcode_of mc_4 (r := (.aload_n 0, 0, 0, 0)) rfl) rfl rfl).trans ?_
  refine (wc_is (zcode_of mc_4 (r := (.getfield 18, 0, 1, 0)) rfl)).trans (and_congr_right fun h1 => ?_)
  refine (wc_getR (n' := 22) (d := 2) rfl (zcode_of mc_4 (r := (.getfield 18, 0, 1, 0)) rfl) rfl hC le_0_1 rfl rfl rfl h1).trans ?_
  refine (wp_s (n := 23) (zcode_of mc_4 (r := (.iload_n 3, 0, 0, 0)) rfl) rfl rfl).trans ?_
  exact wp_call (q := ([.ref (a0 + 2), .int x3], [])) (zcode_of mc_4 (r := (.invokevirtual 47, 190, 0, 1)) rfl) rfl (zCa_V (Nat.le_of_ble_eq_true rfl) rfl (zIs_of (cs_T hC le_0_1 h1))) ⟨Nat.le_of_ble_eq_true rfl, Nat.le_of_ble_eq_true rfl⟩
theorem b4_26 {σ : zSt} {P : Option Value → zSt → Prop} (hC : CShape σ) {a0 a1 s0 : Nat} {x2 x3 : Int32} :
    wp 4 26 [some (.ref a0), some (.ref a1), some (.int x2), some (.int x3)] [.ref s0] σ P ↔ (zIs σ s0 8 ∧ (zIn x2 2 ∧ (zIs σ a1 7 ∧ (zIn x3 3 ∧ wpM 18 [.ref ((s0 + 1) + 2 + 2 * Int32.toNatClampNeg x2), .ref ((a1 + 1) + 1 + 2 * Int32.toNatClampNeg x3)] σ (fun r τ => wp 4 43 [some (.ref a0), some (.ref a1), some (.int x2), some (.int x3)] (r.toList ++ []) τ P))))) := by
  refine (wc_chk (n' := 29) rfl (zcode_of mc_4 (r := (.checkcast 51, 8, 0, 0)) rfl)).trans (and_congr_right fun h1 => ?_)
  refine (wc_getR (n' := 32) (d := 1) rfl (zcode_of mc_4 (r := (.getfield 63, 8, 4, 0)) rfl) rfl hC le_8_4 rfl rfl rfl h1).trans ?_
  refine (wp_s (n := 33) (zcode_of mc_4 (r := (.iload_n 2, 0, 0, 0)) rfl) rfl rfl).trans ?_
  refine (wc_ald (n' := 34) rfl (zcode_of mc_4 (r := (.aaload, 0, 0, 0)) rfl) hC la_6 rfl rfl rfl rfl rfl (cs_T hC le_8_4 h1)).trans (and_congr_right fun h2 => ?_)
  refine (wp_s (n := 35) (zcode_of mc_4 (r := (.aload_n 1, 0, 0, 0)) rfl) rfl rfl).trans ?_
  refine (wc_is (zcode_of mc_4 (r := (.getfield 67, 7, 0, 0)) rfl)).trans (and_congr_right fun h3 => ?_)
  refine (wc_getR (n' := 38) (d := 1) rfl (zcode_of mc_4 (r := (.getfield 67, 7, 0, 0)) rfl) rfl hC le_7_0 rfl rfl rfl h3).trans ?_
  refine (wp_s (n := 39) (zcode_of mc_4 (r := (.iload_n 3, 0, 0, 0)) rfl) rfl rfl).trans ?_
  refine (wc_ald (n' := 40) rfl (zcode_of mc_4 (r := (.aaload, 0, 0, 0)) rfl) hC la_7 rfl rfl rfl rfl rfl (cs_T hC le_7_0 h3)).trans (and_congr_right fun h4 => ?_)
  exact wp_call (q := ([.ref ((s0 + 1) + 2 + 2 * Int32.toNatClampNeg x2), .ref ((a1 + 1) + 1 + 2 * Int32.toNatClampNeg x3)], [])) (zcode_of mc_4 (r := (.invokevirtual 70, 18, 0, 1)) rfl) rfl (zCa_V (Nat.le_of_ble_eq_true rfl) rfl (zIs_of (cs_A hC la_6 (cs_T hC le_8_4 h1) h2))) ⟨Nat.le_of_ble_eq_true rfl, Nat.le_of_ble_eq_true rfl⟩
theorem b4_43 {σ : zSt} {P : Option Value → zSt → Prop} {a0 a1 : Nat} {x2 x3 : Int32} :
    wp 4 43 [some (.ref a0), some (.ref a1), some (.int x2), some (.int x3)] [] σ P ↔ wp 4 2 [some (.ref a0), some (.ref a1), some (.int x2), some (.int (x3 + 1))] [] σ P := by
  refine (wp_inc (n' := 46) rfl (zcode_of mc_4 (r := (.iinc 3 1, 0, 0, 0)) rfl) rfl rfl ci_1).trans ?_
  exact wp_goto (off := (-44)) (t := 2) (zcode_of mc_4 (r := (.goto (-44), 0, 0, 0)) rfl) (by decide)
theorem b4_49 {σ : zSt} {P : Option Value → zSt → Prop} {a0 a1 : Nat} {x2 x3 : Int32} :
    wp 4 49 [some (.ref a0), some (.ref a1), some (.int x2), some (.int x3)] [] σ P ↔ P none σ := by
  exact wp_retV (zcode_of mc_4 (r := (.return_, 0, 0, 0)) rfl) rfl
theorem mc_5 : mCode 5 = zc_5 := rfl
theorem b5 {σ : zSt} {P : Option Value → zSt → Prop} {a0 a1 : Nat} {x2 : Int32} :
    wpM 5 [.ref a0, .ref a1, .int x2] σ P ↔ wp 5 2 [some (.ref a0), some (.ref a1), some (.int x2), some (.int 0)] [] σ P := by
  show wp 5 0 [some (.ref a0), some (.ref a1), some (.int x2), none] [] σ P ↔ _
  refine (wp_ic (n' := 1) rfl (zcode_of mc_5 (r := (.iconst 0, 0, 0, 0)) rfl) ci_0).trans ?_
  refine (wp_s (n := 2) (zcode_of mc_5 (r := (.istore_n 3, 0, 0, 0)) rfl) rfl rfl).trans ?_
  exact Iff.rfl
theorem b5_2 {σ : zSt} {P : Option Value → zSt → Prop} (hC : CShape σ) {a0 a1 : Nat} {x2 x3 : Int32} :
    wp 5 2 [some (.ref a0), some (.ref a1), some (.int x2), some (.int x3)] [] σ P ↔ (zIs σ a0 0 ∧ wpM 187 [.ref (a0 + 2)] σ (fun r τ => wp 5 10 [some (.ref a0), some (.ref a1), some (.int x2), some (.int x3)] (r.toList ++ [.int x3]) τ P)) := by
  refine (wp_s (n := 3) (zcode_of mc_5 (r := (.iload_n 3, 0, 0, 0)) rfl) rfl rfl).trans ?_
  refine (wp_s (n := 4) (zcode_of mc_5 (r := (.aload_n 0, 0, 0, 0)) rfl) rfl rfl).trans ?_
  refine (wc_is (zcode_of mc_5 (r := (.getfield 18, 0, 1, 0)) rfl)).trans (and_congr_right fun h1 => ?_)
  refine (wc_getR (n' := 7) (d := 2) rfl (zcode_of mc_5 (r := (.getfield 18, 0, 1, 0)) rfl) rfl hC le_0_1 rfl rfl rfl h1).trans ?_
  exact wp_call (q := ([.ref (a0 + 2)], [.int x3])) (zcode_of mc_5 (r := (.invokevirtual 43, 187, 0, 0)) rfl) rfl (zCa_V (Nat.le_of_ble_eq_true rfl) rfl (zIs_of (cs_T hC le_0_1 h1))) ⟨Nat.le_of_ble_eq_true rfl, Nat.le_of_ble_eq_true rfl⟩
theorem b5_10 {σ : zSt} {P : Option Value → zSt → Prop} {a0 a1 : Nat} {x2 x3 s0 s1 : Int32} :
    wp 5 10 [some (.ref a0), some (.ref a1), some (.int x2), some (.int x3)] [.int s0, .int s1] σ P ↔ (if s0 ≤ s1 then wp 5 54 [some (.ref a0), some (.ref a1), some (.int x2), some (.int x3)] [] σ P else wp 5 13 [some (.ref a0), some (.ref a1), some (.int x2), some (.int x3)] [] σ P) := by
  exact wp_jump (off := 44) (t := 54) (zcode_of mc_5 (r := (.if_icmp .ge 44, 0, 0, 0)) rfl) rfl rfl (by decide)
theorem b5_13 {σ : zSt} {P : Option Value → zSt → Prop} {a0 a1 : Nat} {x2 x3 : Int32} :
    wp 5 13 [some (.ref a0), some (.ref a1), some (.int x2), some (.int x3)] [] σ P ↔ (if 3 ≤ x3 then wp 5 54 [some (.ref a0), some (.ref a1), some (.int x2), some (.int x3)] [] σ P else wp 5 18 [some (.ref a0), some (.ref a1), some (.int x2), some (.int x3)] [] σ P) := by
  refine (wp_s (n := 14) (zcode_of mc_5 (r := (.iload_n 3, 0, 0, 0)) rfl) rfl rfl).trans ?_
  refine (wp_ic (n' := 15) rfl (zcode_of mc_5 (r := (.iconst 3, 0, 0, 0)) rfl) ci_3).trans ?_
  exact wp_jump (off := 39) (t := 54) (zcode_of mc_5 (r := (.if_icmp .ge 39, 0, 0, 0)) rfl) rfl rfl (by decide)
theorem b5_18 {σ : zSt} {P : Option Value → zSt → Prop} (hC : CShape σ) {a0 a1 : Nat} {x2 x3 : Int32} :
    wp 5 18 [some (.ref a0), some (.ref a1), some (.int x2), some (.int x3)] [] σ P ↔ (zIs σ a0 0 ∧ wpM 190 [.ref (a0 + 2), .int x3] σ (fun r τ => wp 5 26 [some (.ref a0), some (.ref a1), some (.int x2), some (.int x3)] (r.toList ++ []) τ P)) := by
  refine (wp_s (n := 19) (zcode_of mc_5 (r := (.aload_n 0, 0, 0, 0)) rfl) rfl rfl).trans ?_
  refine (wc_is (zcode_of mc_5 (r := (.getfield 18, 0, 1, 0)) rfl)).trans (and_congr_right fun h1 => ?_)
  refine (wc_getR (n' := 22) (d := 2) rfl (zcode_of mc_5 (r := (.getfield 18, 0, 1, 0)) rfl) rfl hC le_0_1 rfl rfl rfl h1).trans ?_
  refine (wp_s (n := 23) (zcode_of mc_5 (r := (.iload_n 3, 0, 0, 0)) rfl) rfl rfl).trans ?_
  exact wp_call (q := ([.ref (a0 + 2), .int x3], [])) (zcode_of mc_5 (r := (.invokevirtual 47, 190, 0, 1)) rfl) rfl (zCa_V (Nat.le_of_ble_eq_true rfl) rfl (zIs_of (cs_T hC le_0_1 h1))) ⟨Nat.le_of_ble_eq_true rfl, Nat.le_of_ble_eq_true rfl⟩
theorem b5_26 {σ : zSt} {P : Option Value → zSt → Prop} (hC : CShape σ) {a0 a1 s0 : Nat} {x2 x3 : Int32} :
    wp 5 26 [some (.ref a0), some (.ref a1), some (.int x2), some (.int x3)] [.ref s0] σ P ↔ (zIs σ s0 8 ∧ (zIn x2 2 ∧ (zIs σ a1 7 ∧ (zIn x3 3 ∧ wpM 19 [.ref ((s0 + 1) + 2 + 2 * Int32.toNatClampNeg x2), .ref ((a1 + 1) + 1 + 2 * Int32.toNatClampNeg x3)] σ (fun r τ => wp 5 43 [some (.ref a0), some (.ref a1), some (.int x2), some (.int x3)] (r.toList ++ []) τ P))))) := by
  refine (wc_chk (n' := 29) rfl (zcode_of mc_5 (r := (.checkcast 51, 8, 0, 0)) rfl)).trans (and_congr_right fun h1 => ?_)
  refine (wc_getR (n' := 32) (d := 1) rfl (zcode_of mc_5 (r := (.getfield 63, 8, 4, 0)) rfl) rfl hC le_8_4 rfl rfl rfl h1).trans ?_
  refine (wp_s (n := 33) (zcode_of mc_5 (r := (.iload_n 2, 0, 0, 0)) rfl) rfl rfl).trans ?_
  refine (wc_ald (n' := 34) rfl (zcode_of mc_5 (r := (.aaload, 0, 0, 0)) rfl) hC la_6 rfl rfl rfl rfl rfl (cs_T hC le_8_4 h1)).trans (and_congr_right fun h2 => ?_)
  refine (wp_s (n := 35) (zcode_of mc_5 (r := (.aload_n 1, 0, 0, 0)) rfl) rfl rfl).trans ?_
  refine (wc_is (zcode_of mc_5 (r := (.getfield 67, 7, 0, 0)) rfl)).trans (and_congr_right fun h3 => ?_)
  refine (wc_getR (n' := 38) (d := 1) rfl (zcode_of mc_5 (r := (.getfield 67, 7, 0, 0)) rfl) rfl hC le_7_0 rfl rfl rfl h3).trans ?_
  refine (wp_s (n := 39) (zcode_of mc_5 (r := (.iload_n 3, 0, 0, 0)) rfl) rfl rfl).trans ?_
  refine (wc_ald (n' := 40) rfl (zcode_of mc_5 (r := (.aaload, 0, 0, 0)) rfl) hC la_7 rfl rfl rfl rfl rfl (cs_T hC le_7_0 h3)).trans (and_congr_right fun h4 => ?_)
  exact wp_call (q := ([.ref ((s0 + 1) + 2 + 2 * Int32.toNatClampNeg x2), .ref ((a1 + 1) + 1 + 2 * Int32.toNatClampNeg x3)], [])) (zcode_of mc_5 (r := (.invokevirtual 76, 19, 0, 1)) rfl) rfl (zCa_V (Nat.le_of_ble_eq_true rfl) rfl (zIs_of (cs_A hC la_6 (cs_T hC le_8_4 h1) h2))) ⟨Nat.le_of_ble_eq_true rfl, Nat.le_of_ble_eq_true rfl⟩
theorem b5_43 {σ : zSt} {P : Option Value → zSt → Prop} {a0 a1 : Nat} {x2 x3 s0 : Int32} :
    wp 5 43 [some (.ref a0), some (.ref a1), some (.int x2), some (.int x3)] [.int s0] σ P ↔ (if ¬ s0 = 0 then wp 5 48 [some (.ref a0), some (.ref a1), some (.int x2), some (.int x3)] [] σ P else wp 5 46 [some (.ref a0), some (.ref a1), some (.int x2), some (.int x3)] [] σ P) := by
  exact wp_jump (off := 5) (t := 48) (zcode_of mc_5 (r := (.ifCond .ne 5, 0, 0, 0)) rfl) rfl rfl (by decide)
theorem b5_46 {σ : zSt} {P : Option Value → zSt → Prop} {a0 a1 : Nat} {x2 x3 : Int32} :
    wp 5 46 [some (.ref a0), some (.ref a1), some (.int x2), some (.int x3)] [] σ P ↔ (((0 : Int32) = 0 ∨ (0 : Int32) = 1) ∧ P (some (.int 0)) σ) := by
  refine (wp_ic (n' := 47) rfl (zcode_of mc_5 (r := (.iconst 0, 0, 0, 0)) rfl) ci_0).trans ?_
  exact wp_retZ (zcode_of mc_5 (r := (.ireturn, 0, 0, 0)) rfl) rfl
theorem b5_48 {σ : zSt} {P : Option Value → zSt → Prop} {a0 a1 : Nat} {x2 x3 : Int32} :
    wp 5 48 [some (.ref a0), some (.ref a1), some (.int x2), some (.int x3)] [] σ P ↔ wp 5 2 [some (.ref a0), some (.ref a1), some (.int x2), some (.int (x3 + 1))] [] σ P := by
  refine (wp_inc (n' := 51) rfl (zcode_of mc_5 (r := (.iinc 3 1, 0, 0, 0)) rfl) rfl rfl ci_1).trans ?_
  exact wp_goto (off := (-49)) (t := 2) (zcode_of mc_5 (r := (.goto (-49), 0, 0, 0)) rfl) (by decide)
theorem b5_54 {σ : zSt} {P : Option Value → zSt → Prop} {a0 a1 : Nat} {x2 x3 : Int32} :
    wp 5 54 [some (.ref a0), some (.ref a1), some (.int x2), some (.int x3)] [] σ P ↔ (((1 : Int32) = 0 ∨ (1 : Int32) = 1) ∧ P (some (.int 1)) σ) := by
  refine (wp_ic (n' := 55) rfl (zcode_of mc_5 (r := (.iconst 1, 0, 0, 0)) rfl) ci_1).trans ?_
  exact wp_retZ (zcode_of mc_5 (r := (.ireturn, 0, 0, 0)) rfl) rfl
theorem mc_6 : mCode 6 = zc_6 := rfl
theorem b6 {σ : zSt} {P : Option Value → zSt → Prop} {a0 : Nat} :
    wpM 6 [.ref a0] σ P ↔ wp 6 8 [some (.ref a0)] [.ref (znx σ), .ref a0] (zNew σ 13) P := by
  show wp 6 0 [some (.ref a0)] [] σ P ↔ _
  refine (wp_s (n := 1) (zcode_of mc_6 (r := (.aload_n 0, 0, 0, 0)) rfl) rfl rfl).trans ?_
  refine (wc_oi (n' := 4) rfl (zcode_of mc_6 (r := (.invokespecial 3, 0, 5, 0)) rfl) (Nat.le_of_ble_eq_true rfl)).trans ?_
  refine (wp_s (n := 5) (zcode_of mc_6 (r := (.aload_n 0, 0, 0, 0)) rfl) rfl rfl).trans ?_
  refine (wc_new (n' := 8) rfl (zcode_of mc_6 (r := (.new 9, 13, 0, 0)) rfl)).trans ?_
  exact Iff.rfl
theorem b6_8 {σ : zSt} {P : Option Value → zSt → Prop} {a0 s0 s1 : Nat} :
    wp 6 8 [some (.ref a0)] [.ref s0, .ref s1] σ P ↔ wpM 184 [.ref s0] σ (fun r τ => wp 6 12 [some (.ref a0)] (r.toList ++ [.ref s0, .ref s1]) τ P) := by
  refine (wp_s (n := 9) (zcode_of mc_6 (r := (.dup, 0, 0, 0)) rfl) rfl rfl).trans ?_
  exact wp_call (q := ([.ref s0], [.ref s0, .ref s1])) (zcode_of mc_6 (r := (.invokespecial 11, 184, 2, 0)) rfl) rfl (zCa_I (Nat.le_of_ble_eq_true rfl) rfl (Or.inl rfl)) ⟨Nat.le_of_ble_eq_true rfl, Nat.le_of_ble_eq_true rfl⟩
theorem b6_12 {σ : zSt} {P : Option Value → zSt → Prop} {a0 s0 s1 : Nat} :
    wp 6 12 [some (.ref a0)] [.ref s0, .ref s1] σ P ↔ (zIs σ s1 1 ∧ wp 6 19 [some (.ref a0)] [.ref (znx (sfr σ 1 0 s1 (some s0))), .ref a0] (zNew (sfr σ 1 0 s1 (some s0)) 13) P) := by
  refine (wc_isP (zcode_of mc_6 (r := (.putfield 12, 1, 0, 0)) rfl)).trans (and_congr_right fun h1 => ?_)
  refine (wc_putR (n' := 15) rfl (zcode_of mc_6 (r := (.putfield 12, 1, 0, 0)) rfl) rfl h1).trans ?_
  refine (wp_s (n := 16) (zcode_of mc_6 (r := (.aload_n 0, 0, 0, 0)) rfl) rfl rfl).trans ?_
  refine (wc_new (σ := sfr σ 1 0 s1 (some s0)) (n' := 19) rfl (zcode_of mc_6 (r := (.new 9, 13, 0, 0)) rfl)).trans ?_
  exact Iff.rfl
theorem b6_19 {σ : zSt} {P : Option Value → zSt → Prop} {a0 s0 s1 : Nat} :
    wp 6 19 [some (.ref a0)] [.ref s0, .ref s1] σ P ↔ wpM 184 [.ref s0] σ (fun r τ => wp 6 23 [some (.ref a0)] (r.toList ++ [.ref s0, .ref s1]) τ P) := by
  refine (wp_s (n := 20) (zcode_of mc_6 (r := (.dup, 0, 0, 0)) rfl) rfl rfl).trans ?_
  exact wp_call (q := ([.ref s0], [.ref s0, .ref s1])) (zcode_of mc_6 (r := (.invokespecial 11, 184, 2, 0)) rfl) rfl (zCa_I (Nat.le_of_ble_eq_true rfl) rfl (Or.inl rfl)) ⟨Nat.le_of_ble_eq_true rfl, Nat.le_of_ble_eq_true rfl⟩
theorem b6_23 {σ : zSt} {P : Option Value → zSt → Prop} {a0 s0 s1 : Nat} :
    wp 6 23 [some (.ref a0)] [.ref s0, .ref s1] σ P ↔ (zIs σ s1 1 ∧ (zIs σ a0 1 ∧ P none (sfi (sfi (sfi (sfr σ 1 1 s1 (some s0)) 1 2 a0 1000) 1 3 a0 0) 1 4 a0 0))) := by
  refine (wc_isP (zcode_of mc_6 (r := (.putfield 18, 1, 1, 0)) rfl)).trans (and_congr_right fun h1 => ?_)
  refine (wc_putR (n' := 26) rfl (zcode_of mc_6 (r := (.putfield 18, 1, 1, 0)) rfl) rfl h1).trans ?_
  refine (wp_s (n := 27) (zcode_of mc_6 (r := (.aload_n 0, 0, 0, 0)) rfl) rfl rfl).trans ?_
  refine (wp_sp (n' := 30) rfl (zcode_of mc_6 (r := (.sipush 1000, 0, 0, 0)) rfl) cs_1000).trans ?_
  refine (wc_isP (σ := sfr σ 1 1 s1 (some s0)) (zcode_of mc_6 (r := (.putfield 21, 1, 2, 0)) rfl)).trans (and_congr_right fun h2 => ?_)
  refine (wc_putI (σ := sfr σ 1 1 s1 (some s0)) (n' := 33) rfl (zcode_of mc_6 (r := (.putfield 21, 1, 2, 0)) rfl) rfl h2).trans ?_
  refine (wp_s (n := 34) (zcode_of mc_6 (r := (.aload_n 0, 0, 0, 0)) rfl) rfl rfl).trans ?_
  refine (wp_ic (n' := 35) rfl (zcode_of mc_6 (r := (.iconst 0, 0, 0, 0)) rfl) ci_0).trans ?_
  refine (wc_putI (σ := sfi (sfr σ 1 1 s1 (some s0)) 1 2 a0 1000) (n' := 38) rfl (zcode_of mc_6 (r := (.putfield 25, 1, 3, 0)) rfl) rfl h2).trans ?_
  refine (wp_s (n := 39) (zcode_of mc_6 (r := (.aload_n 0, 0, 0, 0)) rfl) rfl rfl).trans ?_
  refine (wp_ic (n' := 40) rfl (zcode_of mc_6 (r := (.iconst 0, 0, 0, 0)) rfl) ci_0).trans ?_
  refine (wc_putI (σ := sfi (sfi (sfr σ 1 1 s1 (some s0)) 1 2 a0 1000) 1 3 a0 0) (n' := 43) rfl (zcode_of mc_6 (r := (.putfield 28, 1, 4, 0)) rfl) rfl h2).trans ?_
  exact wp_retV (zcode_of mc_6 (r := (.return_, 0, 0, 0)) rfl) rfl
theorem mc_7 : mCode 7 = zc_7 := rfl
theorem b7 {σ : zSt} {P : Option Value → zSt → Prop} {a0 : Nat} :
    wpM 7 [.ref a0] σ P ↔ (zIs σ a0 1 ∧ wpM 13 [.ref a0] σ (fun r τ => wp 7 4 [some (.ref a0)] (r.toList ++ []) τ P)) := by
  show wp 7 0 [some (.ref a0)] [] σ P ↔ _
  refine (wp_s (n := 1) (zcode_of mc_7 (r := (.aload_n 0, 0, 0, 0)) rfl) rfl rfl).trans ?_
  refine (wc_isV (cl := 1) (rest := []) (zcode_of mc_7 (r := (.invokevirtual 31, 13, 0, 0)) rfl) rfl rfl rfl).trans (and_congr_right fun h1 => ?_)
  exact wp_call (q := ([.ref a0], [])) (zcode_of mc_7 (r := (.invokevirtual 31, 13, 0, 0)) rfl) rfl (zCa_V (Nat.le_of_ble_eq_true rfl) rfl h1) ⟨Nat.le_of_ble_eq_true rfl, Nat.le_of_ble_eq_true rfl⟩
theorem b7_4 {σ : zSt} {P : Option Value → zSt → Prop} {a0 : Nat} {s0 : Int32} :
    wp 7 4 [some (.ref a0)] [.int s0] σ P ↔ (zIs σ a0 1 ∧ P none (sfi (sfi σ 1 2 a0 1000) 1 4 a0 0)) := by
  refine (wp_s (n := 5) (zcode_of mc_7 (r := (.pop, 0, 0, 0)) rfl) rfl rfl).trans ?_
  refine (wp_s (n := 6) (zcode_of mc_7 (r := (.aload_n 0, 0, 0, 0)) rfl) rfl rfl).trans ?_
  refine (wp_sp (n' := 9) rfl (zcode_of mc_7 (r := (.sipush 1000, 0, 0, 0)) rfl) cs_1000).trans ?_
  refine (wc_isP (zcode_of mc_7 (r := (.putfield 21, 1, 2, 0)) rfl)).trans (and_congr_right fun h1 => ?_)
  refine (wc_putI (n' := 12) rfl (zcode_of mc_7 (r := (.putfield 21, 1, 2, 0)) rfl) rfl h1).trans ?_
  refine (wp_s (n := 13) (zcode_of mc_7 (r := (.aload_n 0, 0, 0, 0)) rfl) rfl rfl).trans ?_
  refine (wp_ic (n' := 14) rfl (zcode_of mc_7 (r := (.iconst 0, 0, 0, 0)) rfl) ci_0).trans ?_
  refine (wc_putI (σ := sfi σ 1 2 a0 1000) (n' := 17) rfl (zcode_of mc_7 (r := (.putfield 28, 1, 4, 0)) rfl) rfl h1).trans ?_
  exact wp_retV (zcode_of mc_7 (r := (.return_, 0, 0, 0)) rfl) rfl
theorem mc_8 : mCode 8 = zc_8 := rfl
theorem b8 {σ : zSt} {P : Option Value → zSt → Prop} {a0 a1 : Nat} :
    wpM 8 [.ref a0, .ref a1] σ P ↔ (zIs σ a1 5 ∧ wpM 48 [.ref a1] σ (fun r τ => wp 8 4 [some (.ref a0), some (.ref a1), none, none, none] (r.toList ++ []) τ P)) := by
  show wp 8 0 [some (.ref a0), some (.ref a1), none, none, none] [] σ P ↔ _
  refine (wp_s (n := 1) (zcode_of mc_8 (r := (.aload_n 1, 0, 0, 0)) rfl) rfl rfl).trans ?_
  refine (wc_isV (cl := 5) (rest := []) (zcode_of mc_8 (r := (.invokevirtual 35, 48, 0, 0)) rfl) rfl rfl rfl).trans (and_congr_right fun h1 => ?_)
  exact wp_call (q := ([.ref a1], [])) (zcode_of mc_8 (r := (.invokevirtual 35, 48, 0, 0)) rfl) rfl (zCa_V (Nat.le_of_ble_eq_true rfl) rfl h1) ⟨Nat.le_of_ble_eq_true rfl, Nat.le_of_ble_eq_true rfl⟩
theorem b8_4 {σ : zSt} {P : Option Value → zSt → Prop} {a0 a1 : Nat} {s0 : Int64} {u2 u3 u4 : Option Value} :
    wp 8 4 [some (.ref a0), some (.ref a1), u2, u3, u4] [.long s0] σ P ↔ wp 8 8 [some (.ref a0), some (.ref a1), some (.long s0), none, some (.int 0)] [] σ P := by
  refine (wp_s (n := 5) (zcode_of mc_8 (r := (.lstore_n 2, 0, 0, 0)) rfl) rfl rfl).trans ?_
  refine (wp_ic (n' := 6) rfl (zcode_of mc_8 (r := (.iconst 0, 0, 0, 0)) rfl) ci_0).trans ?_
  refine (wp_s (n := 8) (zcode_of mc_8 (r := (.istore 4, 0, 0, 0)) rfl) rfl rfl).trans ?_
  exact Iff.rfl
theorem b8_8 {σ : zSt} {P : Option Value → zSt → Prop} (hC : CShape σ) {a0 a1 : Nat} {x4 : Int32} {x2 : Int64} :
    wp 8 8 [some (.ref a0), some (.ref a1), some (.long x2), none, some (.int x4)] [] σ P ↔ (zIs σ a0 1 ∧ wpM 187 [.ref (a0 + 1)] σ (fun r τ => wp 8 17 [some (.ref a0), some (.ref a1), some (.long x2), none, some (.int x4)] (r.toList ++ [.int x4]) τ P)) := by
  refine (wp_s (n := 10) (zcode_of mc_8 (r := (.iload 4, 0, 0, 0)) rfl) rfl rfl).trans ?_
  refine (wp_s (n := 11) (zcode_of mc_8 (r := (.aload_n 0, 0, 0, 0)) rfl) rfl rfl).trans ?_
  refine (wc_is (zcode_of mc_8 (r := (.getfield 12, 1, 0, 0)) rfl)).trans (and_congr_right fun h1 => ?_)
  refine (wc_getR (n' := 14) (d := 1) rfl (zcode_of mc_8 (r := (.getfield 12, 1, 0, 0)) rfl) rfl hC le_1_0 rfl rfl rfl h1).trans ?_
  exact wp_call (q := ([.ref (a0 + 1)], [.int x4])) (zcode_of mc_8 (r := (.invokevirtual 41, 187, 0, 0)) rfl) rfl (zCa_V (Nat.le_of_ble_eq_true rfl) rfl (zIs_of (cs_T hC le_1_0 h1))) ⟨Nat.le_of_ble_eq_true rfl, Nat.le_of_ble_eq_true rfl⟩
theorem b8_17 {σ : zSt} {P : Option Value → zSt → Prop} {a0 a1 : Nat} {x4 s0 s1 : Int32} {x2 : Int64} :
    wp 8 17 [some (.ref a0), some (.ref a1), some (.long x2), none, some (.int x4)] [.int s0, .int s1] σ P ↔ (if s0 ≤ s1 then wp 8 71 [some (.ref a0), some (.ref a1), some (.long x2), none, some (.int x4)] [] σ P else wp 8 20 [some (.ref a0), some (.ref a1), some (.long x2), none, some (.int x4)] [] σ P) := by
  exact wp_jump (off := 54) (t := 71) (zcode_of mc_8 (r := (.if_icmp .ge 54, 0, 0, 0)) rfl) rfl rfl (by decide)
theorem b8_20 {σ : zSt} {P : Option Value → zSt → Prop} (hC : CShape σ) {a0 a1 : Nat} {x4 : Int32} {x2 : Int64} :
    wp 8 20 [some (.ref a0), some (.ref a1), some (.long x2), none, some (.int x4)] [] σ P ↔ (zIs σ a0 1 ∧ wpM 190 [.ref (a0 + 1), .int x4] σ (fun r τ => wp 8 29 [some (.ref a0), some (.ref a1), some (.long x2), none, some (.int x4)] (r.toList ++ []) τ P)) := by
  refine (wp_s (n := 21) (zcode_of mc_8 (r := (.aload_n 0, 0, 0, 0)) rfl) rfl rfl).trans ?_
  refine (wc_is (zcode_of mc_8 (r := (.getfield 12, 1, 0, 0)) rfl)).trans (and_congr_right fun h1 => ?_)
  refine (wc_getR (n' := 24) (d := 1) rfl (zcode_of mc_8 (r := (.getfield 12, 1, 0, 0)) rfl) rfl hC le_1_0 rfl rfl rfl h1).trans ?_
  refine (wp_s (n := 26) (zcode_of mc_8 (r := (.iload 4, 0, 0, 0)) rfl) rfl rfl).trans ?_
  exact wp_call (q := ([.ref (a0 + 1), .int x4], [])) (zcode_of mc_8 (r := (.invokevirtual 44, 190, 0, 1)) rfl) rfl (zCa_V (Nat.le_of_ble_eq_true rfl) rfl (zIs_of (cs_T hC le_1_0 h1))) ⟨Nat.le_of_ble_eq_true rfl, Nat.le_of_ble_eq_true rfl⟩
theorem b8_29 {σ : zSt} {P : Option Value → zSt → Prop} {a0 a1 s0 : Nat} {x4 : Int32} {x2 : Int64} :
    wp 8 29 [some (.ref a0), some (.ref a1), some (.long x2), none, some (.int x4)] [.ref s0] σ P ↔ (zIs σ s0 3 ∧ (if ¬ (lg_cmp (zfl σ 3 2 s0) x2) = 0 then wp 8 65 [some (.ref a0), some (.ref a1), some (.long x2), none, some (.int x4)] [] σ P else wp 8 40 [some (.ref a0), some (.ref a1), some (.long x2), none, some (.int x4)] [] σ P)) := by
  refine (wc_chk (n' := 32) rfl (zcode_of mc_8 (r := (.checkcast 48, 3, 0, 0)) rfl)).trans (and_congr_right fun h1 => ?_)
  refine (wc_getL (n' := 35) rfl (zcode_of mc_8 (r := (.getfield 50, 3, 2, 0)) rfl) rfl h1).trans ?_
  refine (wp_s (n := 36) (zcode_of mc_8 (r := (.lload_n 2, 0, 0, 0)) rfl) rfl rfl).trans ?_
  refine (wp_s (n := 37) (zcode_of mc_8 (r := (.lcmp, 0, 0, 0)) rfl) rfl rfl).trans ?_
  exact wp_jump (off := 28) (t := 65) (zcode_of mc_8 (r := (.ifCond .ne 28, 0, 0, 0)) rfl) rfl rfl (by decide)
theorem b8_40 {σ : zSt} {P : Option Value → zSt → Prop} (hC : CShape σ) {a0 a1 : Nat} {x4 : Int32} {x2 : Int64} :
    wp 8 40 [some (.ref a0), some (.ref a1), some (.long x2), none, some (.int x4)] [] σ P ↔ (zIs σ a0 1 ∧ wpM 190 [.ref (a0 + 1), .int x4] σ (fun r τ => wp 8 49 [some (.ref a0), some (.ref a1), some (.long x2), none, some (.int x4)] (r.toList ++ []) τ P)) := by
  refine (wp_s (n := 41) (zcode_of mc_8 (r := (.aload_n 0, 0, 0, 0)) rfl) rfl rfl).trans ?_
  refine (wc_is (zcode_of mc_8 (r := (.getfield 12, 1, 0, 0)) rfl)).trans (and_congr_right fun h1 => ?_)
  refine (wc_getR (n' := 44) (d := 1) rfl (zcode_of mc_8 (r := (.getfield 12, 1, 0, 0)) rfl) rfl hC le_1_0 rfl rfl rfl h1).trans ?_
  refine (wp_s (n := 46) (zcode_of mc_8 (r := (.iload 4, 0, 0, 0)) rfl) rfl rfl).trans ?_
  exact wp_call (q := ([.ref (a0 + 1), .int x4], [])) (zcode_of mc_8 (r := (.invokevirtual 44, 190, 0, 1)) rfl) rfl (zCa_V (Nat.le_of_ble_eq_true rfl) rfl (zIs_of (cs_T hC le_1_0 h1))) ⟨Nat.le_of_ble_eq_true rfl, Nat.le_of_ble_eq_true rfl⟩
theorem b8_49 {σ : zSt} {P : Option Value → zSt → Prop} (hC : CShape σ) {a0 a1 s0 : Nat} {x4 : Int32} {x2 : Int64} :
    wp 8 49 [some (.ref a0), some (.ref a1), some (.long x2), none, some (.int x4)] [.ref s0] σ P ↔ (zIs σ s0 3 ∧ wpM 49 [.ref (s0 + 1), .ref a1] σ (fun r τ => wp 8 59 [some (.ref a0), some (.ref a1), some (.long x2), none, some (.int x4)] (r.toList ++ []) τ P)) := by
  refine (wc_chk (n' := 52) rfl (zcode_of mc_8 (r := (.checkcast 48, 3, 0, 0)) rfl)).trans (and_congr_right fun h1 => ?_)
  refine (wc_getR (n' := 55) (d := 1) rfl (zcode_of mc_8 (r := (.getfield 53, 3, 0, 0)) rfl) rfl hC le_3_0 rfl rfl rfl h1).trans ?_
  refine (wp_s (n := 56) (zcode_of mc_8 (r := (.aload_n 1, 0, 0, 0)) rfl) rfl rfl).trans ?_
  exact wp_call (q := ([.ref (s0 + 1), .ref a1], [])) (zcode_of mc_8 (r := (.invokevirtual 57, 49, 0, 1)) rfl) rfl (zCa_V (Nat.le_of_ble_eq_true rfl) rfl (zIs_of (cs_T hC le_3_0 h1))) ⟨Nat.le_of_ble_eq_true rfl, Nat.le_of_ble_eq_true rfl⟩
theorem b8_59 {σ : zSt} {P : Option Value → zSt → Prop} {a0 a1 : Nat} {x4 s0 : Int32} {x2 : Int64} :
    wp 8 59 [some (.ref a0), some (.ref a1), some (.long x2), none, some (.int x4)] [.int s0] σ P ↔ (if s0 = 0 then wp 8 65 [some (.ref a0), some (.ref a1), some (.long x2), none, some (.int x4)] [] σ P else wp 8 62 [some (.ref a0), some (.ref a1), some (.long x2), none, some (.int x4)] [] σ P) := by
  exact wp_jump (off := 6) (t := 65) (zcode_of mc_8 (r := (.ifCond .eq 6, 0, 0, 0)) rfl) rfl rfl (by decide)
theorem b8_62 {σ : zSt} {P : Option Value → zSt → Prop} {a0 a1 : Nat} {x4 : Int32} {x2 : Int64} :
    wp 8 62 [some (.ref a0), some (.ref a1), some (.long x2), none, some (.int x4)] [] σ P ↔ P (some (.int x4)) σ := by
  refine (wp_s (n := 64) (zcode_of mc_8 (r := (.iload 4, 0, 0, 0)) rfl) rfl rfl).trans ?_
  exact wp_retI (zcode_of mc_8 (r := (.ireturn, 0, 0, 0)) rfl) rfl
theorem b8_65 {σ : zSt} {P : Option Value → zSt → Prop} {a0 a1 : Nat} {x4 : Int32} {x2 : Int64} :
    wp 8 65 [some (.ref a0), some (.ref a1), some (.long x2), none, some (.int x4)] [] σ P ↔ wp 8 8 [some (.ref a0), some (.ref a1), some (.long x2), none, some (.int (x4 + 1))] [] σ P := by
  refine (wp_inc (n' := 68) rfl (zcode_of mc_8 (r := (.iinc 4 1, 0, 0, 0)) rfl) rfl rfl ci_1).trans ?_
  exact wp_goto (off := (-60)) (t := 8) (zcode_of mc_8 (r := (.goto (-60), 0, 0, 0)) rfl) (by decide)
theorem b8_71 {σ : zSt} {P : Option Value → zSt → Prop} {a0 a1 : Nat} {x4 : Int32} {x2 : Int64} :
    wp 8 71 [some (.ref a0), some (.ref a1), some (.long x2), none, some (.int x4)] [] σ P ↔ P (some (.int (-1))) σ := by
  refine (wp_ic (n' := 72) rfl (zcode_of mc_8 (r := (.iconst (-1), 0, 0, 0)) rfl) ci_m1).trans ?_
  exact wp_retI (zcode_of mc_8 (r := (.ireturn, 0, 0, 0)) rfl) rfl
theorem mc_9 : mCode 9 = zc_9 := rfl
theorem b9 {σ : zSt} {P : Option Value → zSt → Prop} (hC : CShape σ) {a0 : Nat} {x1 : Int32} :
    wpM 9 [.ref a0, .int x1] σ P ↔ (zIs σ a0 1 ∧ wpM 194 [.ref (a0 + 1), .int x1] σ (fun r τ => wp 9 8 [some (.ref a0), some (.int x1), none] (r.toList ++ []) τ P)) := by
  show wp 9 0 [some (.ref a0), some (.int x1), none] [] σ P ↔ _
  refine (wp_s (n := 1) (zcode_of mc_9 (r := (.aload_n 0, 0, 0, 0)) rfl) rfl rfl).trans ?_
  refine (wc_is (zcode_of mc_9 (r := (.getfield 12, 1, 0, 0)) rfl)).trans (and_congr_right fun h1 => ?_)
  refine (wc_getR (n' := 4) (d := 1) rfl (zcode_of mc_9 (r := (.getfield 12, 1, 0, 0)) rfl) rfl hC le_1_0 rfl rfl rfl h1).trans ?_
  refine (wp_s (n := 5) (zcode_of mc_9 (r := (.iload_n 1, 0, 0, 0)) rfl) rfl rfl).trans ?_
  exact wp_call (q := ([.ref (a0 + 1), .int x1], [])) (zcode_of mc_9 (r := (.invokevirtual 61, 194, 0, 1)) rfl) rfl (zCa_V (Nat.le_of_ble_eq_true rfl) rfl (zIs_of (cs_T hC le_1_0 h1))) ⟨Nat.le_of_ble_eq_true rfl, Nat.le_of_ble_eq_true rfl⟩
theorem b9_8 {σ : zSt} {P : Option Value → zSt → Prop} (hC : CShape σ) {a0 s0 : Nat} {x1 : Int32} {u2 : Option Value} :
    wp 9 8 [some (.ref a0), some (.int x1), u2] [.ref s0] σ P ↔ (zIs σ s0 3 ∧ (zIs σ a0 1 ∧ wpM 192 [.ref (a0 + 1), .ref s0] σ (fun r τ => wp 9 20 [some (.ref a0), some (.int x1), some (.ref s0)] (r.toList ++ []) τ P))) := by
  refine (wc_chk (n' := 11) rfl (zcode_of mc_9 (r := (.checkcast 48, 3, 0, 0)) rfl)).trans (and_congr_right fun h1 => ?_)
  refine (wp_s (n := 12) (zcode_of mc_9 (r := (.astore_n 2, 0, 0, 0)) rfl) rfl rfl).trans ?_
  refine (wp_s (n := 13) (zcode_of mc_9 (r := (.aload_n 0, 0, 0, 0)) rfl) rfl rfl).trans ?_
  refine (wc_is (zcode_of mc_9 (r := (.getfield 12, 1, 0, 0)) rfl)).trans (and_congr_right fun h2 => ?_)
  refine (wc_getR (n' := 16) (d := 1) rfl (zcode_of mc_9 (r := (.getfield 12, 1, 0, 0)) rfl) rfl hC le_1_0 rfl rfl rfl h2).trans ?_
  refine (wp_s (n := 17) (zcode_of mc_9 (r := (.aload_n 2, 0, 0, 0)) rfl) rfl rfl).trans ?_
  exact wp_call (q := ([.ref (a0 + 1), .ref s0], [])) (zcode_of mc_9 (r := (.invokevirtual 64, 192, 0, 1)) rfl) rfl (zCa_V (Nat.le_of_ble_eq_true rfl) rfl (zIs_of (cs_T hC le_1_0 h2))) ⟨Nat.le_of_ble_eq_true rfl, Nat.le_of_ble_eq_true rfl⟩
theorem b9_20 {σ : zSt} {P : Option Value → zSt → Prop} {a0 a2 : Nat} {x1 s0 : Int32} :
    wp 9 20 [some (.ref a0), some (.int x1), some (.ref a2)] [.int s0] σ P ↔ (zIs σ a2 3 ∧ P (some (.ref a2)) (sfi σ 3 3 a2 ((zfi σ 3 3 a2) + 1))) := by
  refine (wp_s (n := 21) (zcode_of mc_9 (r := (.pop, 0, 0, 0)) rfl) rfl rfl).trans ?_
  refine (wp_s (n := 22) (zcode_of mc_9 (r := (.aload_n 2, 0, 0, 0)) rfl) rfl rfl).trans ?_
  refine (wp_s (n := 23) (zcode_of mc_9 (r := (.dup, 0, 0, 0)) rfl) rfl rfl).trans ?_
  refine (wc_is (zcode_of mc_9 (r := (.getfield 68, 3, 3, 0)) rfl)).trans (and_congr_right fun h1 => ?_)
  refine (wc_getI (n' := 26) rfl (zcode_of mc_9 (r := (.getfield 68, 3, 3, 0)) rfl) rfl h1).trans ?_
  refine (wp_ic (n' := 27) rfl (zcode_of mc_9 (r := (.iconst 1, 0, 0, 0)) rfl) ci_1).trans ?_
  refine (wp_s (n := 28) (zcode_of mc_9 (r := (.iadd, 0, 0, 0)) rfl) rfl rfl).trans ?_
  refine (wc_putI (n' := 31) rfl (zcode_of mc_9 (r := (.putfield 68, 3, 3, 0)) rfl) rfl h1).trans ?_
  refine (wp_s (n := 32) (zcode_of mc_9 (r := (.aload_n 2, 0, 0, 0)) rfl) rfl rfl).trans ?_
  exact wp_retA (zcode_of mc_9 (r := (.areturn, 0, 0, 0)) rfl) rfl
theorem mc_10 : mCode 10 = zc_10 := rfl
theorem b10 {σ : zSt} {P : Option Value → zSt → Prop} (hC : CShape σ) {a0 a1 : Nat} :
    wpM 10 [.ref a0, .ref a1] σ P ↔ (zIs σ a0 1 ∧ wpM 188 [.ref (a0 + 2)] σ (fun r τ => wp 10 7 [some (.ref a0), some (.ref a1), none] (r.toList ++ []) τ P)) := by
  show wp 10 0 [some (.ref a0), some (.ref a1), none] [] σ P ↔ _
  refine (wp_s (n := 1) (zcode_of mc_10 (r := (.aload_n 0, 0, 0, 0)) rfl) rfl rfl).trans ?_
  refine (wc_is (zcode_of mc_10 (r := (.getfield 18, 1, 1, 0)) rfl)).trans (and_congr_right fun h1 => ?_)
  refine (wc_getR (n' := 4) (d := 2) rfl (zcode_of mc_10 (r := (.getfield 18, 1, 1, 0)) rfl) rfl hC le_1_1 rfl rfl rfl h1).trans ?_
  exact wp_call (q := ([.ref (a0 + 2)], [])) (zcode_of mc_10 (r := (.invokevirtual 71, 188, 0, 0)) rfl) rfl (zCa_V (Nat.le_of_ble_eq_true rfl) rfl (zIs_of (cs_T hC le_1_1 h1))) ⟨Nat.le_of_ble_eq_true rfl, Nat.le_of_ble_eq_true rfl⟩
theorem b10_7 {σ : zSt} {P : Option Value → zSt → Prop} {a0 a1 : Nat} {s0 : Int32} {u2 : Option Value} :
    wp 10 7 [some (.ref a0), some (.ref a1), u2] [.int s0] σ P ↔ (if s0 = 0 then wp 10 20 [some (.ref a0), some (.ref a1), u2] [] σ P else wp 10 10 [some (.ref a0), some (.ref a1), u2] [] σ P) := by
  exact wp_jump (off := 13) (t := 20) (zcode_of mc_10 (r := (.ifCond .eq 13, 0, 0, 0)) rfl) rfl rfl (by decide)
theorem b10_10 {σ : zSt} {P : Option Value → zSt → Prop} {a0 a1 : Nat} {u2 : Option Value} :
    wp 10 10 [some (.ref a0), some (.ref a1), u2] [] σ P ↔ wp 10 13 [some (.ref a0), some (.ref a1), u2] [.ref (znx σ)] (zNew σ 3) P := by
  refine (wc_new (n' := 13) rfl (zcode_of mc_10 (r := (.new 48, 3, 0, 0)) rfl)).trans ?_
  exact Iff.rfl
theorem b10_13 {σ : zSt} {P : Option Value → zSt → Prop} {a0 a1 s0 : Nat} {u2 : Option Value} :
    wp 10 13 [some (.ref a0), some (.ref a1), u2] [.ref s0] σ P ↔ wpM 28 [.ref s0] σ (fun r τ => wp 10 17 [some (.ref a0), some (.ref a1), u2] (r.toList ++ [.ref s0]) τ P) := by
  refine (wp_s (n := 14) (zcode_of mc_10 (r := (.dup, 0, 0, 0)) rfl) rfl rfl).trans ?_
  exact wp_call (q := ([.ref s0], [.ref s0])) (zcode_of mc_10 (r := (.invokespecial 75, 28, 3, 0)) rfl) rfl (zCa_I (Nat.le_of_ble_eq_true rfl) rfl (Or.inr rfl)) ⟨Nat.le_of_ble_eq_true rfl, Nat.le_of_ble_eq_true rfl⟩
theorem b10_17 {σ : zSt} {P : Option Value → zSt → Prop} {a0 a1 s0 : Nat} {u2 : Option Value} :
    wp 10 17 [some (.ref a0), some (.ref a1), u2] [.ref s0] σ P ↔ wp 10 39 [some (.ref a0), some (.ref a1), u2] [.ref s0] σ P := by
  exact wp_goto (off := 22) (t := 39) (zcode_of mc_10 (r := (.goto 22, 0, 0, 0)) rfl) (by decide)
theorem b10_20 {σ : zSt} {P : Option Value → zSt → Prop} (hC : CShape σ) {a0 a1 : Nat} {u2 : Option Value} :
    wp 10 20 [some (.ref a0), some (.ref a1), u2] [] σ P ↔ (zIs σ a0 1 ∧ wpM 187 [.ref (a0 + 2)] σ (fun r τ => wp 10 31 [some (.ref a0), some (.ref a1), u2] (r.toList ++ [.ref (a0 + 2)]) τ P)) := by
  refine (wp_s (n := 21) (zcode_of mc_10 (r := (.aload_n 0, 0, 0, 0)) rfl) rfl rfl).trans ?_
  refine (wc_is (zcode_of mc_10 (r := (.getfield 18, 1, 1, 0)) rfl)).trans (and_congr_right fun h1 => ?_)
  refine (wc_getR (n' := 24) (d := 2) rfl (zcode_of mc_10 (r := (.getfield 18, 1, 1, 0)) rfl) rfl hC le_1_1 rfl rfl rfl h1).trans ?_
  refine (wp_s (n := 25) (zcode_of mc_10 (r := (.aload_n 0, 0, 0, 0)) rfl) rfl rfl).trans ?_
  refine (wc_getR (n' := 28) (d := 2) rfl (zcode_of mc_10 (r := (.getfield 18, 1, 1, 0)) rfl) rfl hC le_1_1 rfl rfl rfl h1).trans ?_
  exact wp_call (q := ([.ref (a0 + 2)], [.ref (a0 + 2)])) (zcode_of mc_10 (r := (.invokevirtual 41, 187, 0, 0)) rfl) rfl (zCa_V (Nat.le_of_ble_eq_true rfl) rfl (zIs_of (cs_T hC le_1_1 h1))) ⟨Nat.le_of_ble_eq_true rfl, Nat.le_of_ble_eq_true rfl⟩
theorem b10_31 {σ : zSt} {P : Option Value → zSt → Prop} {a0 a1 s1 : Nat} {s0 : Int32} {u2 : Option Value} :
    wp 10 31 [some (.ref a0), some (.ref a1), u2] [.int s0, .ref s1] σ P ↔ (zIs σ s1 13 ∧ wpM 194 [.ref s1, .int (s0 - 1)] σ (fun r τ => wp 10 36 [some (.ref a0), some (.ref a1), u2] (r.toList ++ []) τ P)) := by
  refine (wp_ic (n' := 32) rfl (zcode_of mc_10 (r := (.iconst 1, 0, 0, 0)) rfl) ci_1).trans ?_
  refine (wp_s (n := 33) (zcode_of mc_10 (r := (.isub, 0, 0, 0)) rfl) rfl rfl).trans ?_
  refine (wc_isV (cl := 13) (rest := []) (zcode_of mc_10 (r := (.invokevirtual 61, 194, 0, 1)) rfl) rfl rfl rfl).trans (and_congr_right fun h1 => ?_)
  exact wp_call (q := ([.ref s1, .int (s0 - 1)], [])) (zcode_of mc_10 (r := (.invokevirtual 61, 194, 0, 1)) rfl) rfl (zCa_V (Nat.le_of_ble_eq_true rfl) rfl h1) ⟨Nat.le_of_ble_eq_true rfl, Nat.le_of_ble_eq_true rfl⟩
theorem b10_36 {σ : zSt} {P : Option Value → zSt → Prop} {a0 a1 s0 : Nat} {u2 : Option Value} :
    wp 10 36 [some (.ref a0), some (.ref a1), u2] [.ref s0] σ P ↔ (zIs σ s0 3 ∧ wp 10 39 [some (.ref a0), some (.ref a1), u2] [.ref s0] σ P) := by
  refine (wc_chk (n' := 39) rfl (zcode_of mc_10 (r := (.checkcast 48, 3, 0, 0)) rfl)).trans (and_congr_right fun h1 => ?_)
  exact Iff.rfl
theorem b10_39 {σ : zSt} {P : Option Value → zSt → Prop} {a0 a1 s0 : Nat} {u2 : Option Value} :
    wp 10 39 [some (.ref a0), some (.ref a1), u2] [.ref s0] σ P ↔ (zIs σ s0 3 ∧ wpM 29 [.ref s0, .ref a1] σ (fun r τ => wp 10 45 [some (.ref a0), some (.ref a1), some (.ref s0)] (r.toList ++ []) τ P)) := by
  refine (wp_s (n := 40) (zcode_of mc_10 (r := (.astore_n 2, 0, 0, 0)) rfl) rfl rfl).trans ?_
  refine (wp_s (n := 41) (zcode_of mc_10 (r := (.aload_n 2, 0, 0, 0)) rfl) rfl rfl).trans ?_
  refine (wp_s (n := 42) (zcode_of mc_10 (r := (.aload_n 1, 0, 0, 0)) rfl) rfl rfl).trans ?_
  refine (wc_isV (cl := 3) (rest := []) (zcode_of mc_10 (r := (.invokevirtual 76, 29, 0, 1)) rfl) rfl rfl rfl).trans (and_congr_right fun h1 => ?_)
  exact wp_call (q := ([.ref s0, .ref a1], [])) (zcode_of mc_10 (r := (.invokevirtual 76, 29, 0, 1)) rfl) rfl (zCa_V (Nat.le_of_ble_eq_true rfl) rfl h1) ⟨Nat.le_of_ble_eq_true rfl, Nat.le_of_ble_eq_true rfl⟩
theorem b10_45 {σ : zSt} {P : Option Value → zSt → Prop} {a0 a1 a2 : Nat} :
    wp 10 45 [some (.ref a0), some (.ref a1), some (.ref a2)] [] σ P ↔ P (some (.ref a2)) σ := by
  refine (wp_s (n := 46) (zcode_of mc_10 (r := (.aload_n 2, 0, 0, 0)) rfl) rfl rfl).trans ?_
  exact wp_retA (zcode_of mc_10 (r := (.areturn, 0, 0, 0)) rfl) rfl
theorem mc_11 : mCode 11 = zc_11 := rfl
theorem b11 {σ : zSt} {P : Option Value → zSt → Prop} (hC : CShape σ) {a0 a1 : Nat} :
    wpM 11 [.ref a0, .ref a1] σ P ↔ (zIs σ a0 1 ∧ wpM 192 [.ref (a0 + 1), .ref a1] σ (fun r τ => wp 11 8 [some (.ref a0), some (.ref a1)] (r.toList ++ []) τ P)) := by
  show wp 11 0 [some (.ref a0), some (.ref a1)] [] σ P ↔ _
  refine (wp_s (n := 1) (zcode_of mc_11 (r := (.aload_n 0, 0, 0, 0)) rfl) rfl rfl).trans ?_
  refine (wc_is (zcode_of mc_11 (r := (.getfield 12, 1, 0, 0)) rfl)).trans (and_congr_right fun h1 => ?_)
  refine (wc_getR (n' := 4) (d := 1) rfl (zcode_of mc_11 (r := (.getfield 12, 1, 0, 0)) rfl) rfl hC le_1_0 rfl rfl rfl h1).trans ?_
  refine (wp_s (n := 5) (zcode_of mc_11 (r := (.aload_n 1, 0, 0, 0)) rfl) rfl rfl).trans ?_
  exact wp_call (q := ([.ref (a0 + 1), .ref a1], [])) (zcode_of mc_11 (r := (.invokevirtual 64, 192, 0, 1)) rfl) rfl (zCa_V (Nat.le_of_ble_eq_true rfl) rfl (zIs_of (cs_T hC le_1_0 h1))) ⟨Nat.le_of_ble_eq_true rfl, Nat.le_of_ble_eq_true rfl⟩
theorem b11_8 {σ : zSt} {P : Option Value → zSt → Prop} (hC : CShape σ) {a0 a1 : Nat} {s0 : Int32} :
    wp 11 8 [some (.ref a0), some (.ref a1)] [.int s0] σ P ↔ (zIs σ a0 1 ∧ (zIs σ a1 3 ∧ wpM 59 [.ref (a1 + 4)] σ (fun r τ => wp 11 21 [some (.ref a0), some (.ref a1)] (r.toList ++ [.int (zfi σ 1 3 a0), .ref a0]) τ P))) := by
  refine (wp_s (n := 9) (zcode_of mc_11 (r := (.pop, 0, 0, 0)) rfl) rfl rfl).trans ?_
  refine (wp_s (n := 10) (zcode_of mc_11 (r := (.aload_n 0, 0, 0, 0)) rfl) rfl rfl).trans ?_
  refine (wp_s (n := 11) (zcode_of mc_11 (r := (.dup, 0, 0, 0)) rfl) rfl rfl).trans ?_
  refine (wc_is (zcode_of mc_11 (r := (.getfield 25, 1, 3, 0)) rfl)).trans (and_congr_right fun h1 => ?_)
  refine (wc_getI (n' := 14) rfl (zcode_of mc_11 (r := (.getfield 25, 1, 3, 0)) rfl) rfl h1).trans ?_
  refine (wp_s (n := 15) (zcode_of mc_11 (r := (.aload_n 1, 0, 0, 0)) rfl) rfl rfl).trans ?_
  refine (wc_is (zcode_of mc_11 (r := (.getfield 80, 3, 1, 0)) rfl)).trans (and_congr_right fun h2 => ?_)
  refine (wc_getR (n' := 18) (d := 4) rfl (zcode_of mc_11 (r := (.getfield 80, 3, 1, 0)) rfl) rfl hC le_3_1 rfl rfl rfl h2).trans ?_
  exact wp_call (q := ([.ref (a1 + 4)], [.int (zfi σ 1 3 a0), .ref a0])) (zcode_of mc_11 (r := (.invokevirtual 84, 59, 0, 0)) rfl) rfl (zCa_V (Nat.le_of_ble_eq_true rfl) rfl (zIs_of (cs_T hC le_3_1 h2))) ⟨Nat.le_of_ble_eq_true rfl, Nat.le_of_ble_eq_true rfl⟩
theorem b11_21 {σ : zSt} {P : Option Value → zSt → Prop} {a0 a1 s2 : Nat} {s0 s1 : Int32} :
    wp 11 21 [some (.ref a0), some (.ref a1)] [.int s0, .int s1, .ref s2] σ P ↔ (zIs σ s2 1 ∧ (zIs σ a0 1 ∧ wpM 12 [.ref a0] (sfi σ 1 3 s2 (s1 + s0)) (fun r τ => wp 11 29 [some (.ref a0), some (.ref a1)] (r.toList ++ []) τ P))) := by
  refine (wp_s (n := 22) (zcode_of mc_11 (r := (.iadd, 0, 0, 0)) rfl) rfl rfl).trans ?_
  refine (wc_isP (zcode_of mc_11 (r := (.putfield 25, 1, 3, 0)) rfl)).trans (and_congr_right fun h1 => ?_)
  refine (wc_putI (n' := 25) rfl (zcode_of mc_11 (r := (.putfield 25, 1, 3, 0)) rfl) rfl h1).trans ?_
  refine (wp_s (n := 26) (zcode_of mc_11 (r := (.aload_n 0, 0, 0, 0)) rfl) rfl rfl).trans ?_
  refine (wc_isV (σ := sfi σ 1 3 s2 (s1 + s0)) (cl := 1) (rest := []) (zcode_of mc_11 (r := (.invokevirtual 87, 12, 0, 0)) rfl) rfl rfl rfl).trans (and_congr_right fun h2 => ?_)
  exact wp_call (q := ([.ref a0], [])) (zcode_of mc_11 (r := (.invokevirtual 87, 12, 0, 0)) rfl) rfl (zCa_V (Nat.le_of_ble_eq_true rfl) rfl h2) ⟨Nat.le_of_ble_eq_true rfl, Nat.le_of_ble_eq_true rfl⟩
theorem b11_29 {σ : zSt} {P : Option Value → zSt → Prop} {a0 a1 : Nat} {s0 : Int32} :
    wp 11 29 [some (.ref a0), some (.ref a1)] [.int s0] σ P ↔ P none σ := by
  refine (wp_s (n := 30) (zcode_of mc_11 (r := (.pop, 0, 0, 0)) rfl) rfl rfl).trans ?_
  exact wp_retV (zcode_of mc_11 (r := (.return_, 0, 0, 0)) rfl) rfl
theorem mc_12 : mCode 12 = zc_12 := rfl
theorem b12 {σ : zSt} {P : Option Value → zSt → Prop} {a0 : Nat} :
    wpM 12 [.ref a0] σ P ↔ wp 12 2 [some (.ref a0), some (.int 0), none] [] σ P := by
  show wp 12 0 [some (.ref a0), none, none] [] σ P ↔ _
  refine (wp_ic (n' := 1) rfl (zcode_of mc_12 (r := (.iconst 0, 0, 0, 0)) rfl) ci_0).trans ?_
  refine (wp_s (n := 2) (zcode_of mc_12 (r := (.istore_n 1, 0, 0, 0)) rfl) rfl rfl).trans ?_
  exact Iff.rfl
theorem b12_2 {σ : zSt} {P : Option Value → zSt → Prop} (hC : CShape σ) {a0 : Nat} {x1 : Int32} {u2 : Option Value} :
    wp 12 2 [some (.ref a0), some (.int x1), u2] [] σ P ↔ (zIs σ a0 1 ∧ wpM 188 [.ref (a0 + 1)] σ (fun r τ => wp 12 9 [some (.ref a0), some (.int x1), u2] (r.toList ++ []) τ P)) := by
  refine (wp_s (n := 3) (zcode_of mc_12 (r := (.aload_n 0, 0, 0, 0)) rfl) rfl rfl).trans ?_
  refine (wc_is (zcode_of mc_12 (r := (.getfield 12, 1, 0, 0)) rfl)).trans (and_congr_right fun h1 => ?_)
  refine (wc_getR (n' := 6) (d := 1) rfl (zcode_of mc_12 (r := (.getfield 12, 1, 0, 0)) rfl) rfl hC le_1_0 rfl rfl rfl h1).trans ?_
  exact wp_call (q := ([.ref (a0 + 1)], [])) (zcode_of mc_12 (r := (.invokevirtual 71, 188, 0, 0)) rfl) rfl (zCa_V (Nat.le_of_ble_eq_true rfl) rfl (zIs_of (cs_T hC le_1_0 h1))) ⟨Nat.le_of_ble_eq_true rfl, Nat.le_of_ble_eq_true rfl⟩
theorem b12_9 {σ : zSt} {P : Option Value → zSt → Prop} {a0 : Nat} {x1 s0 : Int32} {u2 : Option Value} :
    wp 12 9 [some (.ref a0), some (.int x1), u2] [.int s0] σ P ↔ (if ¬ s0 = 0 then wp 12 78 [some (.ref a0), some (.int x1), u2] [] σ P else wp 12 12 [some (.ref a0), some (.int x1), u2] [] σ P) := by
  exact wp_jump (off := 69) (t := 78) (zcode_of mc_12 (r := (.ifCond .ne 69, 0, 0, 0)) rfl) rfl rfl (by decide)
theorem b12_12 {σ : zSt} {P : Option Value → zSt → Prop} {a0 : Nat} {x1 : Int32} {u2 : Option Value} :
    wp 12 12 [some (.ref a0), some (.int x1), u2] [] σ P ↔ (zIs σ a0 1 ∧ (if (zfi σ 1 2 a0) < (zfi σ 1 3 a0) then wp 12 35 [some (.ref a0), some (.int x1), u2] [] σ P else wp 12 23 [some (.ref a0), some (.int x1), u2] [] σ P)) := by
  refine (wp_s (n := 13) (zcode_of mc_12 (r := (.aload_n 0, 0, 0, 0)) rfl) rfl rfl).trans ?_
  refine (wc_is (zcode_of mc_12 (r := (.getfield 25, 1, 3, 0)) rfl)).trans (and_congr_right fun h1 => ?_)
  refine (wc_getI (n' := 16) rfl (zcode_of mc_12 (r := (.getfield 25, 1, 3, 0)) rfl) rfl h1).trans ?_
  refine (wp_s (n := 17) (zcode_of mc_12 (r := (.aload_n 0, 0, 0, 0)) rfl) rfl rfl).trans ?_
  refine (wc_getI (n' := 20) rfl (zcode_of mc_12 (r := (.getfield 21, 1, 2, 0)) rfl) rfl h1).trans ?_
  exact wp_jump (off := 15) (t := 35) (zcode_of mc_12 (r := (.if_icmp .gt 15, 0, 0, 0)) rfl) rfl rfl (by decide)
theorem b12_23 {σ : zSt} {P : Option Value → zSt → Prop} (hC : CShape σ) {a0 : Nat} {x1 : Int32} {u2 : Option Value} :
    wp 12 23 [some (.ref a0), some (.int x1), u2] [] σ P ↔ (zIs σ a0 1 ∧ wpM 187 [.ref (a0 + 1)] σ (fun r τ => wp 12 30 [some (.ref a0), some (.int x1), u2] (r.toList ++ []) τ P)) := by
  refine (wp_s (n := 24) (zcode_of mc_12 (r := (.aload_n 0, 0, 0, 0)) rfl) rfl rfl).trans ?_
  refine (wc_is (zcode_of mc_12 (r := (.getfield 12, 1, 0, 0)) rfl)).trans (and_congr_right fun h1 => ?_)
  refine (wc_getR (n' := 27) (d := 1) rfl (zcode_of mc_12 (r := (.getfield 12, 1, 0, 0)) rfl) rfl hC le_1_0 rfl rfl rfl h1).trans ?_
  exact wp_call (q := ([.ref (a0 + 1)], [])) (zcode_of mc_12 (r := (.invokevirtual 41, 187, 0, 0)) rfl) rfl (zCa_V (Nat.le_of_ble_eq_true rfl) rfl (zIs_of (cs_T hC le_1_0 h1))) ⟨Nat.le_of_ble_eq_true rfl, Nat.le_of_ble_eq_true rfl⟩
theorem b12_30 {σ : zSt} {P : Option Value → zSt → Prop} {a0 : Nat} {x1 s0 : Int32} {u2 : Option Value} :
    wp 12 30 [some (.ref a0), some (.int x1), u2] [.int s0] σ P ↔ (if s0 ≤ 100 then wp 12 78 [some (.ref a0), some (.int x1), u2] [] σ P else wp 12 35 [some (.ref a0), some (.int x1), u2] [] σ P) := by
  refine (wp_bp (n' := 32) rfl (zcode_of mc_12 (r := (.bipush 100, 0, 0, 0)) rfl) cb_100).trans ?_
  exact wp_jump (off := 46) (t := 78) (zcode_of mc_12 (r := (.if_icmp .le 46, 0, 0, 0)) rfl) rfl rfl (by decide)
theorem b12_35 {σ : zSt} {P : Option Value → zSt → Prop} (hC : CShape σ) {a0 : Nat} {x1 : Int32} {u2 : Option Value} :
    wp 12 35 [some (.ref a0), some (.int x1), u2] [] σ P ↔ (zIs σ a0 1 ∧ wpM 194 [.ref (a0 + 1), .int 0] σ (fun r τ => wp 12 43 [some (.ref a0), some (.int x1), u2] (r.toList ++ []) τ P)) := by
  refine (wp_s (n := 36) (zcode_of mc_12 (r := (.aload_n 0, 0, 0, 0)) rfl) rfl rfl).trans ?_
  refine (wc_is (zcode_of mc_12 (r := (.getfield 12, 1, 0, 0)) rfl)).trans (and_congr_right fun h1 => ?_)
  refine (wc_getR (n' := 39) (d := 1) rfl (zcode_of mc_12 (r := (.getfield 12, 1, 0, 0)) rfl) rfl hC le_1_0 rfl rfl rfl h1).trans ?_
  refine (wp_ic (n' := 40) rfl (zcode_of mc_12 (r := (.iconst 0, 0, 0, 0)) rfl) ci_0).trans ?_
  exact wp_call (q := ([.ref (a0 + 1), .int 0], [])) (zcode_of mc_12 (r := (.invokevirtual 61, 194, 0, 1)) rfl) rfl (zCa_V (Nat.le_of_ble_eq_true rfl) rfl (zIs_of (cs_T hC le_1_0 h1))) ⟨Nat.le_of_ble_eq_true rfl, Nat.le_of_ble_eq_true rfl⟩
theorem b12_43 {σ : zSt} {P : Option Value → zSt → Prop} (hC : CShape σ) {a0 s0 : Nat} {x1 : Int32} {u2 : Option Value} :
    wp 12 43 [some (.ref a0), some (.int x1), u2] [.ref s0] σ P ↔ (zIs σ s0 3 ∧ (zIs σ a0 1 ∧ wpM 59 [.ref (s0 + 4)] σ (fun r τ => wp 12 59 [some (.ref a0), some (.int x1), some (.ref s0)] (r.toList ++ [.int (zfi σ 1 3 a0), .ref a0]) τ P))) := by
  refine (wc_chk (n' := 46) rfl (zcode_of mc_12 (r := (.checkcast 48, 3, 0, 0)) rfl)).trans (and_congr_right fun h1 => ?_)
  refine (wp_s (n := 47) (zcode_of mc_12 (r := (.astore_n 2, 0, 0, 0)) rfl) rfl rfl).trans ?_
  refine (wp_s (n := 48) (zcode_of mc_12 (r := (.aload_n 0, 0, 0, 0)) rfl) rfl rfl).trans ?_
  refine (wp_s (n := 49) (zcode_of mc_12 (r := (.dup, 0, 0, 0)) rfl) rfl rfl).trans ?_
  refine (wc_is (zcode_of mc_12 (r := (.getfield 25, 1, 3, 0)) rfl)).trans (and_congr_right fun h2 => ?_)
  refine (wc_getI (n' := 52) rfl (zcode_of mc_12 (r := (.getfield 25, 1, 3, 0)) rfl) rfl h2).trans ?_
  refine (wp_s (n := 53) (zcode_of mc_12 (r := (.aload_n 2, 0, 0, 0)) rfl) rfl rfl).trans ?_
  refine (wc_getR (n' := 56) (d := 4) rfl (zcode_of mc_12 (r := (.getfield 80, 3, 1, 0)) rfl) rfl hC le_3_1 rfl rfl rfl h1).trans ?_
  exact wp_call (q := ([.ref (s0 + 4)], [.int (zfi σ 1 3 a0), .ref a0])) (zcode_of mc_12 (r := (.invokevirtual 84, 59, 0, 0)) rfl) rfl (zCa_V (Nat.le_of_ble_eq_true rfl) rfl (zIs_of (cs_T hC le_3_1 h1))) ⟨Nat.le_of_ble_eq_true rfl, Nat.le_of_ble_eq_true rfl⟩
theorem b12_59 {σ : zSt} {P : Option Value → zSt → Prop} (hC : CShape σ) {a0 a2 s2 : Nat} {x1 s0 s1 : Int32} :
    wp 12 59 [some (.ref a0), some (.int x1), some (.ref a2)] [.int s0, .int s1, .ref s2] σ P ↔ (zIs σ s2 1 ∧ (zIs σ a0 1 ∧ wpM 192 [.ref (a0 + 2), .ref a2] (sfi σ 1 3 s2 (s1 - s0)) (fun r τ => wp 12 71 [some (.ref a0), some (.int x1), some (.ref a2)] (r.toList ++ []) τ P))) := by
  refine (wp_s (n := 60) (zcode_of mc_12 (r := (.isub, 0, 0, 0)) rfl) rfl rfl).trans ?_
  refine (wc_isP (zcode_of mc_12 (r := (.putfield 25, 1, 3, 0)) rfl)).trans (and_congr_right fun h1 => ?_)
  refine (wc_putI (n' := 63) rfl (zcode_of mc_12 (r := (.putfield 25, 1, 3, 0)) rfl) rfl h1).trans ?_
  refine (wp_s (n := 64) (zcode_of mc_12 (r := (.aload_n 0, 0, 0, 0)) rfl) rfl rfl).trans ?_
  refine (wc_is (σ := sfi σ 1 3 s2 (s1 - s0)) (zcode_of mc_12 (r := (.getfield 18, 1, 1, 0)) rfl)).trans (and_congr_right fun h2 => ?_)
  refine (wc_getR (σ := sfi σ 1 3 s2 (s1 - s0)) (n' := 67) (d := 2) rfl (zcode_of mc_12 (r := (.getfield 18, 1, 1, 0)) rfl) rfl (cs_sfi hC) le_1_1 rfl rfl rfl h2).trans ?_
  refine (wp_s (n := 68) (zcode_of mc_12 (r := (.aload_n 2, 0, 0, 0)) rfl) rfl rfl).trans ?_
  exact wp_call (q := ([.ref (a0 + 2), .ref a2], [])) (zcode_of mc_12 (r := (.invokevirtual 64, 192, 0, 1)) rfl) rfl (zCa_V (Nat.le_of_ble_eq_true rfl) rfl (zIs_of (cs_T (cs_sfi hC) le_1_1 h2))) ⟨Nat.le_of_ble_eq_true rfl, Nat.le_of_ble_eq_true rfl⟩
theorem b12_71 {σ : zSt} {P : Option Value → zSt → Prop} {a0 a2 : Nat} {x1 s0 : Int32} :
    wp 12 71 [some (.ref a0), some (.int x1), some (.ref a2)] [.int s0] σ P ↔ wp 12 2 [some (.ref a0), some (.int (x1 + 1)), some (.ref a2)] [] σ P := by
  refine (wp_s (n := 72) (zcode_of mc_12 (r := (.pop, 0, 0, 0)) rfl) rfl rfl).trans ?_
  refine (wp_inc (n' := 75) rfl (zcode_of mc_12 (r := (.iinc 1 1, 0, 0, 0)) rfl) rfl rfl ci_1).trans ?_
  exact wp_goto (off := (-73)) (t := 2) (zcode_of mc_12 (r := (.goto (-73), 0, 0, 0)) rfl) (by decide)
theorem b12_78 {σ : zSt} {P : Option Value → zSt → Prop} {a0 : Nat} {x1 : Int32} {u2 : Option Value} :
    wp 12 78 [some (.ref a0), some (.int x1), u2] [] σ P ↔ (zIs σ a0 1 ∧ P (some (.int x1)) (sfi σ 1 4 a0 ((zfi σ 1 4 a0) + x1))) := by
  refine (wp_s (n := 79) (zcode_of mc_12 (r := (.aload_n 0, 0, 0, 0)) rfl) rfl rfl).trans ?_
  refine (wp_s (n := 80) (zcode_of mc_12 (r := (.dup, 0, 0, 0)) rfl) rfl rfl).trans ?_
  refine (wc_is (zcode_of mc_12 (r := (.getfield 28, 1, 4, 0)) rfl)).trans (and_congr_right fun h1 => ?_)
  refine (wc_getI (n' := 83) rfl (zcode_of mc_12 (r := (.getfield 28, 1, 4, 0)) rfl) rfl h1).trans ?_
  refine (wp_s (n := 84) (zcode_of mc_12 (r := (.iload_n 1, 0, 0, 0)) rfl) rfl rfl).trans ?_
  refine (wp_s (n := 85) (zcode_of mc_12 (r := (.iadd, 0, 0, 0)) rfl) rfl rfl).trans ?_
  refine (wc_putI (n' := 88) rfl (zcode_of mc_12 (r := (.putfield 28, 1, 4, 0)) rfl) rfl h1).trans ?_
  refine (wp_s (n := 89) (zcode_of mc_12 (r := (.iload_n 1, 0, 0, 0)) rfl) rfl rfl).trans ?_
  exact wp_retI (zcode_of mc_12 (r := (.ireturn, 0, 0, 0)) rfl) rfl
theorem mc_13 : mCode 13 = zc_13 := rfl
theorem b13 {σ : zSt} {P : Option Value → zSt → Prop} (hC : CShape σ) {a0 : Nat} :
    wpM 13 [.ref a0] σ P ↔ (zIs σ a0 1 ∧ wpM 187 [.ref (a0 + 1)] σ (fun r τ => wp 13 7 [some (.ref a0), none, none] (r.toList ++ []) τ P)) := by
  show wp 13 0 [some (.ref a0), none, none] [] σ P ↔ _
  refine (wp_s (n := 1) (zcode_of mc_13 (r := (.aload_n 0, 0, 0, 0)) rfl) rfl rfl).trans ?_
  refine (wc_is (zcode_of mc_13 (r := (.getfield 12, 1, 0, 0)) rfl)).trans (and_congr_right fun h1 => ?_)
  refine (wc_getR (n' := 4) (d := 1) rfl (zcode_of mc_13 (r := (.getfield 12, 1, 0, 0)) rfl) rfl hC le_1_0 rfl rfl rfl h1).trans ?_
  exact wp_call (q := ([.ref (a0 + 1)], [])) (zcode_of mc_13 (r := (.invokevirtual 41, 187, 0, 0)) rfl) rfl (zCa_V (Nat.le_of_ble_eq_true rfl) rfl (zIs_of (cs_T hC le_1_0 h1))) ⟨Nat.le_of_ble_eq_true rfl, Nat.le_of_ble_eq_true rfl⟩
theorem b13_7 {σ : zSt} {P : Option Value → zSt → Prop} {a0 : Nat} {s0 : Int32} {u1 u2 : Option Value} :
    wp 13 7 [some (.ref a0), u1, u2] [.int s0] σ P ↔ wp 13 10 [some (.ref a0), some (.int s0), some (.int 0)] [] σ P := by
  refine (wp_s (n := 8) (zcode_of mc_13 (r := (.istore_n 1, 0, 0, 0)) rfl) rfl rfl).trans ?_
  refine (wp_ic (n' := 9) rfl (zcode_of mc_13 (r := (.iconst 0, 0, 0, 0)) rfl) ci_0).trans ?_
  refine (wp_s (n := 10) (zcode_of mc_13 (r := (.istore_n 2, 0, 0, 0)) rfl) rfl rfl).trans ?_
  exact Iff.rfl
theorem b13_10 {σ : zSt} {P : Option Value → zSt → Prop} {a0 : Nat} {x1 x2 : Int32} :
    wp 13 10 [some (.ref a0), some (.int x1), some (.int x2)] [] σ P ↔ (if x1 ≤ x2 then wp 13 40 [some (.ref a0), some (.int x1), some (.int x2)] [] σ P else wp 13 15 [some (.ref a0), some (.int x1), some (.int x2)] [] σ P) := by
  refine (wp_s (n := 11) (zcode_of mc_13 (r := (.iload_n 2, 0, 0, 0)) rfl) rfl rfl).trans ?_
  refine (wp_s (n := 12) (zcode_of mc_13 (r := (.iload_n 1, 0, 0, 0)) rfl) rfl rfl).trans ?_
  exact wp_jump (off := 28) (t := 40) (zcode_of mc_13 (r := (.if_icmp .ge 28, 0, 0, 0)) rfl) rfl rfl (by decide)
theorem b13_15 {σ : zSt} {P : Option Value → zSt → Prop} (hC : CShape σ) {a0 : Nat} {x1 x2 : Int32} :
    wp 13 15 [some (.ref a0), some (.int x1), some (.int x2)] [] σ P ↔ (zIs σ a0 1 ∧ wpM 190 [.ref (a0 + 1), .int x2] σ (fun r τ => wp 13 27 [some (.ref a0), some (.int x1), some (.int x2)] (r.toList ++ [.ref (a0 + 2)]) τ P)) := by
  refine (wp_s (n := 16) (zcode_of mc_13 (r := (.aload_n 0, 0, 0, 0)) rfl) rfl rfl).trans ?_
  refine (wc_is (zcode_of mc_13 (r := (.getfield 18, 1, 1, 0)) rfl)).trans (and_congr_right fun h1 => ?_)
  refine (wc_getR (n' := 19) (d := 2) rfl (zcode_of mc_13 (r := (.getfield 18, 1, 1, 0)) rfl) rfl hC le_1_1 rfl rfl rfl h1).trans ?_
  refine (wp_s (n := 20) (zcode_of mc_13 (r := (.aload_n 0, 0, 0, 0)) rfl) rfl rfl).trans ?_
  refine (wc_getR (n' := 23) (d := 1) rfl (zcode_of mc_13 (r := (.getfield 12, 1, 0, 0)) rfl) rfl hC le_1_0 rfl rfl rfl h1).trans ?_
  refine (wp_s (n := 24) (zcode_of mc_13 (r := (.iload_n 2, 0, 0, 0)) rfl) rfl rfl).trans ?_
  exact wp_call (q := ([.ref (a0 + 1), .int x2], [.ref (a0 + 2)])) (zcode_of mc_13 (r := (.invokevirtual 44, 190, 0, 1)) rfl) rfl (zCa_V (Nat.le_of_ble_eq_true rfl) rfl (zIs_of (cs_T hC le_1_0 h1))) ⟨Nat.le_of_ble_eq_true rfl, Nat.le_of_ble_eq_true rfl⟩
theorem b13_27 {σ : zSt} {P : Option Value → zSt → Prop} {a0 s0 s1 : Nat} {x1 x2 : Int32} :
    wp 13 27 [some (.ref a0), some (.int x1), some (.int x2)] [.ref s0, .ref s1] σ P ↔ (zIs σ s0 3 ∧ (zIs σ s1 13 ∧ wpM 192 [.ref s1, .ref s0] σ (fun r τ => wp 13 33 [some (.ref a0), some (.int x1), some (.int x2)] (r.toList ++ []) τ P))) := by
  refine (wc_chk (n' := 30) rfl (zcode_of mc_13 (r := (.checkcast 48, 3, 0, 0)) rfl)).trans (and_congr_right fun h1 => ?_)
  refine (wc_isV (cl := 13) (rest := []) (zcode_of mc_13 (r := (.invokevirtual 64, 192, 0, 1)) rfl) rfl rfl rfl).trans (and_congr_right fun h2 => ?_)
  exact wp_call (q := ([.ref s1, .ref s0], [])) (zcode_of mc_13 (r := (.invokevirtual 64, 192, 0, 1)) rfl) rfl (zCa_V (Nat.le_of_ble_eq_true rfl) rfl h2) ⟨Nat.le_of_ble_eq_true rfl, Nat.le_of_ble_eq_true rfl⟩
theorem b13_33 {σ : zSt} {P : Option Value → zSt → Prop} {a0 : Nat} {x1 x2 s0 : Int32} :
    wp 13 33 [some (.ref a0), some (.int x1), some (.int x2)] [.int s0] σ P ↔ wp 13 10 [some (.ref a0), some (.int x1), some (.int (x2 + 1))] [] σ P := by
  refine (wp_s (n := 34) (zcode_of mc_13 (r := (.pop, 0, 0, 0)) rfl) rfl rfl).trans ?_
  refine (wp_inc (n' := 37) rfl (zcode_of mc_13 (r := (.iinc 2 1, 0, 0, 0)) rfl) rfl rfl ci_1).trans ?_
  exact wp_goto (off := (-27)) (t := 10) (zcode_of mc_13 (r := (.goto (-27), 0, 0, 0)) rfl) (by decide)
theorem b13_40 {σ : zSt} {P : Option Value → zSt → Prop} (hC : CShape σ) {a0 : Nat} {x1 x2 : Int32} :
    wp 13 40 [some (.ref a0), some (.int x1), some (.int x2)] [] σ P ↔ (zIs σ a0 1 ∧ wpM 196 [.ref (a0 + 1)] σ (fun r τ => wp 13 47 [some (.ref a0), some (.int x1), some (.int x2)] (r.toList ++ []) τ P)) := by
  refine (wp_s (n := 41) (zcode_of mc_13 (r := (.aload_n 0, 0, 0, 0)) rfl) rfl rfl).trans ?_
  refine (wc_is (zcode_of mc_13 (r := (.getfield 12, 1, 0, 0)) rfl)).trans (and_congr_right fun h1 => ?_)
  refine (wc_getR (n' := 44) (d := 1) rfl (zcode_of mc_13 (r := (.getfield 12, 1, 0, 0)) rfl) rfl hC le_1_0 rfl rfl rfl h1).trans ?_
  exact wp_call (q := ([.ref (a0 + 1)], [])) (zcode_of mc_13 (r := (.invokevirtual 90, 196, 0, 0)) rfl) rfl (zCa_V (Nat.le_of_ble_eq_true rfl) rfl (zIs_of (cs_T hC le_1_0 h1))) ⟨Nat.le_of_ble_eq_true rfl, Nat.le_of_ble_eq_true rfl⟩
theorem b13_47 {σ : zSt} {P : Option Value → zSt → Prop} {a0 : Nat} {x1 x2 : Int32} :
    wp 13 47 [some (.ref a0), some (.int x1), some (.int x2)] [] σ P ↔ (zIs σ a0 1 ∧ P (some (.int x1)) (sfi σ 1 3 a0 0)) := by
  refine (wp_s (n := 48) (zcode_of mc_13 (r := (.aload_n 0, 0, 0, 0)) rfl) rfl rfl).trans ?_
  refine (wp_ic (n' := 49) rfl (zcode_of mc_13 (r := (.iconst 0, 0, 0, 0)) rfl) ci_0).trans ?_
  refine (wc_isP (zcode_of mc_13 (r := (.putfield 25, 1, 3, 0)) rfl)).trans (and_congr_right fun h1 => ?_)
  refine (wc_putI (n' := 52) rfl (zcode_of mc_13 (r := (.putfield 25, 1, 3, 0)) rfl) rfl h1).trans ?_
  refine (wp_s (n := 53) (zcode_of mc_13 (r := (.iload_n 1, 0, 0, 0)) rfl) rfl rfl).trans ?_
  exact wp_retI (zcode_of mc_13 (r := (.ireturn, 0, 0, 0)) rfl) rfl
theorem mc_14 : mCode 14 = zc_14 := rfl
theorem b14 {σ : zSt} {P : Option Value → zSt → Prop} {a0 : Nat} :
    wpM 14 [.ref a0] σ P ↔ ((¬ (64 : Int32) < 0 ∧ Int32.toNatClampNeg 64 * componentBytes (siteTy 1) ≤ 536870912) ∧ wp 14 9 [some (.ref a0)] [.ref (znx σ), .ref a0] (zNewI σ 1 (Int32.toNatClampNeg 64)) P) := by
  show wp 14 0 [some (.ref a0)] [] σ P ↔ _
  refine (wp_s (n := 1) (zcode_of mc_14 (r := (.aload_n 0, 0, 0, 0)) rfl) rfl rfl).trans ?_
  refine (wc_oi (n' := 4) rfl (zcode_of mc_14 (r := (.invokespecial 3, 0, 5, 0)) rfl) (Nat.le_of_ble_eq_true rfl)).trans ?_
  refine (wp_s (n := 5) (zcode_of mc_14 (r := (.aload_n 0, 0, 0, 0)) rfl) rfl rfl).trans ?_
  refine (wp_bp (n' := 7) rfl (zcode_of mc_14 (r := (.bipush 64, 0, 0, 0)) rfl) cb_64).trans ?_
  refine (wc_na (n' := 9) rfl (zcode_of mc_14 (r := (.newarray .int, 1, 0, 0)) rfl)).trans (and_congr_right fun h1 => ?_)
  exact Iff.rfl
theorem b14_9 {σ : zSt} {P : Option Value → zSt → Prop} {a0 s0 s1 : Nat} :
    wp 14 9 [some (.ref a0)] [.ref s0, .ref s1] σ P ↔ (zIs σ s1 2 ∧ (zIs σ a0 2 ∧ P none (sfi (sfr σ 2 0 s1 (some s0)) 2 1 a0 (-1)))) := by
  refine (wc_isP (zcode_of mc_14 (r := (.putfield 9, 2, 0, 0)) rfl)).trans (and_congr_right fun h1 => ?_)
  refine (wc_putR (n' := 12) rfl (zcode_of mc_14 (r := (.putfield 9, 2, 0, 0)) rfl) rfl h1).trans ?_
  refine (wp_s (n := 13) (zcode_of mc_14 (r := (.aload_n 0, 0, 0, 0)) rfl) rfl rfl).trans ?_
  refine (wp_ic (n' := 14) rfl (zcode_of mc_14 (r := (.iconst (-1), 0, 0, 0)) rfl) ci_m1).trans ?_
  refine (wc_isP (σ := sfr σ 2 0 s1 (some s0)) (zcode_of mc_14 (r := (.putfield 15, 2, 1, 0)) rfl)).trans (and_congr_right fun h2 => ?_)
  refine (wc_putI (σ := sfr σ 2 0 s1 (some s0)) (n' := 17) rfl (zcode_of mc_14 (r := (.putfield 15, 2, 1, 0)) rfl) rfl h2).trans ?_
  exact wp_retV (zcode_of mc_14 (r := (.return_, 0, 0, 0)) rfl) rfl
theorem mc_15 : mCode 15 = zc_15 := rfl
theorem b15 {σ : zSt} {P : Option Value → zSt → Prop} {a0 : Nat} :
    wpM 15 [.ref a0] σ P ↔ (zIs σ a0 2 ∧ (if ¬ (zfi σ 2 1 a0) = (-1) then wp 15 12 [some (.ref a0)] [] σ P else wp 15 8 [some (.ref a0)] [] σ P)) := by
  show wp 15 0 [some (.ref a0)] [] σ P ↔ _
  refine (wp_s (n := 1) (zcode_of mc_15 (r := (.aload_n 0, 0, 0, 0)) rfl) rfl rfl).trans ?_
  refine (wc_is (zcode_of mc_15 (r := (.getfield 15, 2, 1, 0)) rfl)).trans (and_congr_right fun h1 => ?_)
  refine (wc_getI (n' := 4) rfl (zcode_of mc_15 (r := (.getfield 15, 2, 1, 0)) rfl) rfl h1).trans ?_
  refine (wp_ic (n' := 5) rfl (zcode_of mc_15 (r := (.iconst (-1), 0, 0, 0)) rfl) ci_m1).trans ?_
  exact wp_jump (off := 7) (t := 12) (zcode_of mc_15 (r := (.if_icmp .ne 7, 0, 0, 0)) rfl) rfl rfl (by decide)
theorem b15_8 {σ : zSt} {P : Option Value → zSt → Prop} {a0 : Nat} :
    wp 15 8 [some (.ref a0)] [] σ P ↔ wp 15 13 [some (.ref a0)] [.int 1] σ P := by
  refine (wp_ic (n' := 9) rfl (zcode_of mc_15 (r := (.iconst 1, 0, 0, 0)) rfl) ci_1).trans ?_
  exact wp_goto (off := 4) (t := 13) (zcode_of mc_15 (r := (.goto 4, 0, 0, 0)) rfl) (by decide)
theorem b15_12 {σ : zSt} {P : Option Value → zSt → Prop} {a0 : Nat} :
    wp 15 12 [some (.ref a0)] [] σ P ↔ wp 15 13 [some (.ref a0)] [.int 0] σ P := by
  refine (wp_ic (n' := 13) rfl (zcode_of mc_15 (r := (.iconst 0, 0, 0, 0)) rfl) ci_0).trans ?_
  exact Iff.rfl
theorem b15_13 {σ : zSt} {P : Option Value → zSt → Prop} {a0 : Nat} {s0 : Int32} :
    wp 15 13 [some (.ref a0)] [.int s0] σ P ↔ (((s0 : Int32) = 0 ∨ (s0 : Int32) = 1) ∧ P (some (.int s0)) σ) := by
  exact wp_retZ (zcode_of mc_15 (r := (.ireturn, 0, 0, 0)) rfl) rfl
theorem mc_16 : mCode 16 = zc_16 := rfl
theorem b16 {σ : zSt} {P : Option Value → zSt → Prop} {a0 : Nat} {x1 : Int32} :
    wpM 16 [.ref a0, .int x1] σ P ↔ (zIs σ a0 2 ∧ (if (zfi σ 2 1 a0) < 0 then wp 16 16 [some (.ref a0), some (.int x1)] [] σ P else wp 16 7 [some (.ref a0), some (.int x1)] [] σ P)) := by
  show wp 16 0 [some (.ref a0), some (.int x1)] [] σ P ↔ _
  refine (wp_s (n := 1) (zcode_of mc_16 (r := (.aload_n 0, 0, 0, 0)) rfl) rfl rfl).trans ?_
  refine (wc_is (zcode_of mc_16 (r := (.getfield 15, 2, 1, 0)) rfl)).trans (and_congr_right fun h1 => ?_)
  refine (wc_getI (n' := 4) rfl (zcode_of mc_16 (r := (.getfield 15, 2, 1, 0)) rfl) rfl h1).trans ?_
  exact wp_jump (off := 12) (t := 16) (zcode_of mc_16 (r := (.ifCond .lt 12, 0, 0, 0)) rfl) rfl rfl (by decide)
theorem b16_7 {σ : zSt} {P : Option Value → zSt → Prop} {a0 : Nat} {x1 : Int32} :
    wp 16 7 [some (.ref a0), some (.int x1)] [] σ P ↔ (zIs σ a0 2 ∧ (if (zfi σ 2 1 a0) < 64 then wp 16 18 [some (.ref a0), some (.int x1)] [] σ P else wp 16 16 [some (.ref a0), some (.int x1)] [] σ P)) := by
  refine (wp_s (n := 8) (zcode_of mc_16 (r := (.aload_n 0, 0, 0, 0)) rfl) rfl rfl).trans ?_
  refine (wc_is (zcode_of mc_16 (r := (.getfield 15, 2, 1, 0)) rfl)).trans (and_congr_right fun h1 => ?_)
  refine (wc_getI (n' := 11) rfl (zcode_of mc_16 (r := (.getfield 15, 2, 1, 0)) rfl) rfl h1).trans ?_
  refine (wp_bp (n' := 13) rfl (zcode_of mc_16 (r := (.bipush 64, 0, 0, 0)) rfl) cb_64).trans ?_
  exact wp_jump (off := 5) (t := 18) (zcode_of mc_16 (r := (.if_icmp .lt 5, 0, 0, 0)) rfl) rfl rfl (by decide)
theorem b16_16 {σ : zSt} {P : Option Value → zSt → Prop} {a0 : Nat} {x1 : Int32} :
    wp 16 16 [some (.ref a0), some (.int x1)] [] σ P ↔ (((0 : Int32) = 0 ∨ (0 : Int32) = 1) ∧ P (some (.int 0)) σ) := by
  refine (wp_ic (n' := 17) rfl (zcode_of mc_16 (r := (.iconst 0, 0, 0, 0)) rfl) ci_0).trans ?_
  exact wp_retZ (zcode_of mc_16 (r := (.ireturn, 0, 0, 0)) rfl) rfl
theorem b16_18 {σ : zSt} {P : Option Value → zSt → Prop} (hC : CShape σ) {a0 : Nat} {x1 : Int32} :
    wp 16 18 [some (.ref a0), some (.int x1)] [] σ P ↔ (zIs σ a0 2 ∧ (zIn (zfi σ 2 1 a0) 64 ∧ (((1 : Int32) = 0 ∨ (1 : Int32) = 1) ∧ P (some (.int 1)) (sfi (sai σ 1 (a0 + 1) (Int32.toNatClampNeg (zfi σ 2 1 a0)) x1) 2 1 a0 ((zfi σ 2 1 a0) + 1))))) := by
  refine (wp_s (n := 19) (zcode_of mc_16 (r := (.aload_n 0, 0, 0, 0)) rfl) rfl rfl).trans ?_
  refine (wc_is (zcode_of mc_16 (r := (.getfield 9, 2, 0, 0)) rfl)).trans (and_congr_right fun h1 => ?_)
  refine (wc_getR (n' := 22) (d := 1) rfl (zcode_of mc_16 (r := (.getfield 9, 2, 0, 0)) rfl) rfl hC le_2_0 rfl rfl rfl h1).trans ?_
  refine (wp_s (n := 23) (zcode_of mc_16 (r := (.aload_n 0, 0, 0, 0)) rfl) rfl rfl).trans ?_
  refine (wc_getI (n' := 26) rfl (zcode_of mc_16 (r := (.getfield 15, 2, 1, 0)) rfl) rfl h1).trans ?_
  refine (wp_s (n := 27) (zcode_of mc_16 (r := (.iload_n 1, 0, 0, 0)) rfl) rfl rfl).trans ?_
  refine (wc_st (n' := 28) rfl (zcode_of mc_16 (r := (.iastore, 0, 0, 0)) rfl) (cs_T hC le_2_0 h1) rfl).trans (and_congr_right fun h2 => ?_)
  refine (wp_s (n := 29) (zcode_of mc_16 (r := (.aload_n 0, 0, 0, 0)) rfl) rfl rfl).trans ?_
  refine (wp_s (n := 30) (zcode_of mc_16 (r := (.dup, 0, 0, 0)) rfl) rfl rfl).trans ?_
  refine (wc_getI (σ := sai σ 1 (a0 + 1) (Int32.toNatClampNeg (zfi σ 2 1 a0)) x1) (n' := 33) rfl (zcode_of mc_16 (r := (.getfield 15, 2, 1, 0)) rfl) rfl h1).trans ?_
  refine (wp_ic (n' := 34) rfl (zcode_of mc_16 (r := (.iconst 1, 0, 0, 0)) rfl) ci_1).trans ?_
  refine (wp_s (n := 35) (zcode_of mc_16 (r := (.iadd, 0, 0, 0)) rfl) rfl rfl).trans ?_
  refine (wc_putI (σ := sai σ 1 (a0 + 1) (Int32.toNatClampNeg (zfi σ 2 1 a0)) x1) (n' := 38) rfl (zcode_of mc_16 (r := (.putfield 15, 2, 1, 0)) rfl) rfl h1).trans ?_
  refine (wp_ic (n' := 39) rfl (zcode_of mc_16 (r := (.iconst 1, 0, 0, 0)) rfl) ci_1).trans ?_
  exact wp_retZ (zcode_of mc_16 (r := (.ireturn, 0, 0, 0)) rfl) rfl
theorem mc_17 : mCode 17 = zc_17 := rfl
theorem b17 {σ : zSt} {P : Option Value → zSt → Prop} {a0 a1 : Nat} :
    wpM 17 [.ref a0, .ref a1] σ P ↔ (zIs σ a1 2 ∧ wp 17 7 [some (.ref a0), some (.ref a1), some (.int (zfi σ 2 1 a1)), some (.int 0)] [] σ P) := by
  show wp 17 0 [some (.ref a0), some (.ref a1), none, none] [] σ P ↔ _
  refine (wp_s (n := 1) (zcode_of mc_17 (r := (.aload_n 1, 0, 0, 0)) rfl) rfl rfl).trans ?_
  refine (wc_is (zcode_of mc_17 (r := (.getfield 15, 2, 1, 0)) rfl)).trans (and_congr_right fun h1 => ?_)
  refine (wc_getI (n' := 4) rfl (zcode_of mc_17 (r := (.getfield 15, 2, 1, 0)) rfl) rfl h1).trans ?_
  refine (wp_s (n := 5) (zcode_of mc_17 (r := (.istore_n 2, 0, 0, 0)) rfl) rfl rfl).trans ?_
  refine (wp_ic (n' := 6) rfl (zcode_of mc_17 (r := (.iconst 0, 0, 0, 0)) rfl) ci_0).trans ?_
  refine (wp_s (n := 7) (zcode_of mc_17 (r := (.istore_n 3, 0, 0, 0)) rfl) rfl rfl).trans ?_
  exact Iff.rfl
theorem b17_7 {σ : zSt} {P : Option Value → zSt → Prop} {a0 a1 : Nat} {x2 x3 : Int32} :
    wp 17 7 [some (.ref a0), some (.ref a1), some (.int x2), some (.int x3)] [] σ P ↔ (if x2 ≤ x3 then wp 17 33 [some (.ref a0), some (.ref a1), some (.int x2), some (.int x3)] [] σ P else wp 17 12 [some (.ref a0), some (.ref a1), some (.int x2), some (.int x3)] [] σ P) := by
  refine (wp_s (n := 8) (zcode_of mc_17 (r := (.iload_n 3, 0, 0, 0)) rfl) rfl rfl).trans ?_
  refine (wp_s (n := 9) (zcode_of mc_17 (r := (.iload_n 2, 0, 0, 0)) rfl) rfl rfl).trans ?_
  exact wp_jump (off := 24) (t := 33) (zcode_of mc_17 (r := (.if_icmp .ge 24, 0, 0, 0)) rfl) rfl rfl (by decide)
theorem b17_12 {σ : zSt} {P : Option Value → zSt → Prop} (hC : CShape σ) {a0 a1 : Nat} {x2 x3 : Int32} :
    wp 17 12 [some (.ref a0), some (.ref a1), some (.int x2), some (.int x3)] [] σ P ↔ (zIs σ a1 2 ∧ (zIn x3 64 ∧ (zIs σ a0 2 ∧ wpM 16 [.ref a0, .int (zai σ 1 (a1 + 1) (Int32.toNatClampNeg x3))] σ (fun r τ => wp 17 22 [some (.ref a0), some (.ref a1), some (.int x2), some (.int x3)] (r.toList ++ []) τ P)))) := by
  refine (wp_s (n := 13) (zcode_of mc_17 (r := (.aload_n 0, 0, 0, 0)) rfl) rfl rfl).trans ?_
  refine (wp_s (n := 14) (zcode_of mc_17 (r := (.aload_n 1, 0, 0, 0)) rfl) rfl rfl).trans ?_
  refine (wc_is (zcode_of mc_17 (r := (.getfield 9, 2, 0, 0)) rfl)).trans (and_congr_right fun h1 => ?_)
  refine (wc_getR (n' := 17) (d := 1) rfl (zcode_of mc_17 (r := (.getfield 9, 2, 0, 0)) rfl) rfl hC le_2_0 rfl rfl rfl h1).trans ?_
  refine (wp_s (n := 18) (zcode_of mc_17 (r := (.iload_n 3, 0, 0, 0)) rfl) rfl rfl).trans ?_
  refine (wc_ld (n' := 19) rfl (zcode_of mc_17 (r := (.iaload, 0, 0, 0)) rfl) (cs_T hC le_2_0 h1) rfl).trans (and_congr_right fun h2 => ?_)
  refine (wc_isV (cl := 2) (rest := []) (zcode_of mc_17 (r := (.invokevirtual 19, 16, 0, 1)) rfl) rfl rfl rfl).trans (and_congr_right fun h3 => ?_)
  exact wp_call (q := ([.ref a0, .int (zai σ 1 (a1 + 1) (Int32.toNatClampNeg x3))], [])) (zcode_of mc_17 (r := (.invokevirtual 19, 16, 0, 1)) rfl) rfl (zCa_V (Nat.le_of_ble_eq_true rfl) rfl h3) ⟨Nat.le_of_ble_eq_true rfl, Nat.le_of_ble_eq_true rfl⟩
theorem b17_22 {σ : zSt} {P : Option Value → zSt → Prop} {a0 a1 : Nat} {x2 x3 s0 : Int32} :
    wp 17 22 [some (.ref a0), some (.ref a1), some (.int x2), some (.int x3)] [.int s0] σ P ↔ (if ¬ s0 = 0 then wp 17 27 [some (.ref a0), some (.ref a1), some (.int x2), some (.int x3)] [] σ P else wp 17 25 [some (.ref a0), some (.ref a1), some (.int x2), some (.int x3)] [] σ P) := by
  exact wp_jump (off := 5) (t := 27) (zcode_of mc_17 (r := (.ifCond .ne 5, 0, 0, 0)) rfl) rfl rfl (by decide)
theorem b17_25 {σ : zSt} {P : Option Value → zSt → Prop} {a0 a1 : Nat} {x2 x3 : Int32} :
    wp 17 25 [some (.ref a0), some (.ref a1), some (.int x2), some (.int x3)] [] σ P ↔ (((0 : Int32) = 0 ∨ (0 : Int32) = 1) ∧ P (some (.int 0)) σ) := by
  refine (wp_ic (n' := 26) rfl (zcode_of mc_17 (r := (.iconst 0, 0, 0, 0)) rfl) ci_0).trans ?_
  exact wp_retZ (zcode_of mc_17 (r := (.ireturn, 0, 0, 0)) rfl) rfl
theorem b17_27 {σ : zSt} {P : Option Value → zSt → Prop} {a0 a1 : Nat} {x2 x3 : Int32} :
    wp 17 27 [some (.ref a0), some (.ref a1), some (.int x2), some (.int x3)] [] σ P ↔ wp 17 7 [some (.ref a0), some (.ref a1), some (.int x2), some (.int (x3 + 1))] [] σ P := by
  refine (wp_inc (n' := 30) rfl (zcode_of mc_17 (r := (.iinc 3 1, 0, 0, 0)) rfl) rfl rfl ci_1).trans ?_
  exact wp_goto (off := (-23)) (t := 7) (zcode_of mc_17 (r := (.goto (-23), 0, 0, 0)) rfl) (by decide)
theorem b17_33 {σ : zSt} {P : Option Value → zSt → Prop} {a0 a1 : Nat} {x2 x3 : Int32} :
    wp 17 33 [some (.ref a0), some (.ref a1), some (.int x2), some (.int x3)] [] σ P ↔ (((1 : Int32) = 0 ∨ (1 : Int32) = 1) ∧ P (some (.int 1)) σ) := by
  refine (wp_ic (n' := 34) rfl (zcode_of mc_17 (r := (.iconst 1, 0, 0, 0)) rfl) ci_1).trans ?_
  exact wp_retZ (zcode_of mc_17 (r := (.ireturn, 0, 0, 0)) rfl) rfl
theorem mc_18 : mCode 18 = zc_18 := rfl
theorem b18 {σ : zSt} {P : Option Value → zSt → Prop} {a0 a1 : Nat} :
    wpM 18 [.ref a0, .ref a1] σ P ↔ (zIs σ a1 2 ∧ (zIs σ a0 2 ∧ wp 18 10 [some (.ref a0), some (.ref a1), some (.int 0)] [] (sfi σ 2 1 a0 (zfi σ 2 1 a1)) P)) := by
  show wp 18 0 [some (.ref a0), some (.ref a1), none] [] σ P ↔ _
  refine (wp_s (n := 1) (zcode_of mc_18 (r := (.aload_n 0, 0, 0, 0)) rfl) rfl rfl).trans ?_
  refine (wp_s (n := 2) (zcode_of mc_18 (r := (.aload_n 1, 0, 0, 0)) rfl) rfl rfl).trans ?_
  refine (wc_is (zcode_of mc_18 (r := (.getfield 15, 2, 1, 0)) rfl)).trans (and_congr_right fun h1 => ?_)
  refine (wc_getI (n' := 5) rfl (zcode_of mc_18 (r := (.getfield 15, 2, 1, 0)) rfl) rfl h1).trans ?_
  refine (wc_isP (zcode_of mc_18 (r := (.putfield 15, 2, 1, 0)) rfl)).trans (and_congr_right fun h2 => ?_)
  refine (wc_putI (n' := 8) rfl (zcode_of mc_18 (r := (.putfield 15, 2, 1, 0)) rfl) rfl h2).trans ?_
  refine (wp_ic (n' := 9) rfl (zcode_of mc_18 (r := (.iconst 0, 0, 0, 0)) rfl) ci_0).trans ?_
  refine (wp_s (n := 10) (zcode_of mc_18 (r := (.istore_n 2, 0, 0, 0)) rfl) rfl rfl).trans ?_
  exact Iff.rfl
theorem b18_10 {σ : zSt} {P : Option Value → zSt → Prop} {a0 a1 : Nat} {x2 : Int32} :
    wp 18 10 [some (.ref a0), some (.ref a1), some (.int x2)] [] σ P ↔ (zIs σ a0 2 ∧ (if (zfi σ 2 1 a0) ≤ x2 then wp 18 36 [some (.ref a0), some (.ref a1), some (.int x2)] [] σ P else wp 18 18 [some (.ref a0), some (.ref a1), some (.int x2)] [] σ P)) := by
  refine (wp_s (n := 11) (zcode_of mc_18 (r := (.iload_n 2, 0, 0, 0)) rfl) rfl rfl).trans ?_
  refine (wp_s (n := 12) (zcode_of mc_18 (r := (.aload_n 0, 0, 0, 0)) rfl) rfl rfl).trans ?_
  refine (wc_is (zcode_of mc_18 (r := (.getfield 15, 2, 1, 0)) rfl)).trans (and_congr_right fun h1 => ?_)
  refine (wc_getI (n' := 15) rfl (zcode_of mc_18 (r := (.getfield 15, 2, 1, 0)) rfl) rfl h1).trans ?_
  exact wp_jump (off := 21) (t := 36) (zcode_of mc_18 (r := (.if_icmp .ge 21, 0, 0, 0)) rfl) rfl rfl (by decide)
theorem b18_18 {σ : zSt} {P : Option Value → zSt → Prop} (hC : CShape σ) {a0 a1 : Nat} {x2 : Int32} :
    wp 18 18 [some (.ref a0), some (.ref a1), some (.int x2)] [] σ P ↔ (zIs σ a0 2 ∧ (zIs σ a1 2 ∧ (zIn x2 64 ∧ (zIn x2 64 ∧ wp 18 10 [some (.ref a0), some (.ref a1), some (.int (x2 + 1))] [] (sai σ 1 (a0 + 1) (Int32.toNatClampNeg x2) (zai σ 1 (a1 + 1) (Int32.toNatClampNeg x2))) P)))) := by
  refine (wp_s (n := 19) (zcode_of mc_18 (r := (.aload_n 0, 0, 0, 0)) rfl) rfl rfl).trans ?_
  refine (wc_is (zcode_of mc_18 (r := (.getfield 9, 2, 0, 0)) rfl)).trans (and_congr_right fun h1 => ?_)
  refine (wc_getR (n' := 22) (d := 1) rfl (zcode_of mc_18 (r := (.getfield 9, 2, 0, 0)) rfl) rfl hC le_2_0 rfl rfl rfl h1).trans ?_
  refine (wp_s (n := 23) (zcode_of mc_18 (r := (.iload_n 2, 0, 0, 0)) rfl) rfl rfl).trans ?_
  refine (wp_s (n := 24) (zcode_of mc_18 (r := (.aload_n 1, 0, 0, 0)) rfl) rfl rfl).trans ?_
  refine (wc_is (zcode_of mc_18 (r := (.getfield 9, 2, 0, 0)) rfl)).trans (and_congr_right fun h2 => ?_)
  refine (wc_getR (n' := 27) (d := 1) rfl (zcode_of mc_18 (r := (.getfield 9, 2, 0, 0)) rfl) rfl hC le_2_0 rfl rfl rfl h2).trans ?_
  refine (wp_s (n := 28) (zcode_of mc_18 (r := (.iload_n 2, 0, 0, 0)) rfl) rfl rfl).trans ?_
  refine (wc_ld (n' := 29) rfl (zcode_of mc_18 (r := (.iaload, 0, 0, 0)) rfl) (cs_T hC le_2_0 h2) rfl).trans (and_congr_right fun h3 => ?_)
  refine (wc_st (n' := 30) rfl (zcode_of mc_18 (r := (.iastore, 0, 0, 0)) rfl) (cs_T hC le_2_0 h1) rfl).trans (and_congr_right fun h4 => ?_)
  refine (wp_inc (n' := 33) rfl (zcode_of mc_18 (r := (.iinc 2 1, 0, 0, 0)) rfl) rfl rfl ci_1).trans ?_
  exact wp_goto (off := (-23)) (t := 10) (zcode_of mc_18 (r := (.goto (-23), 0, 0, 0)) rfl) (by decide)
theorem b18_36 {σ : zSt} {P : Option Value → zSt → Prop} {a0 a1 : Nat} {x2 : Int32} :
    wp 18 36 [some (.ref a0), some (.ref a1), some (.int x2)] [] σ P ↔ P none σ := by
  exact wp_retV (zcode_of mc_18 (r := (.return_, 0, 0, 0)) rfl) rfl
theorem mc_19 : mCode 19 = zc_19 := rfl
theorem b19 {σ : zSt} {P : Option Value → zSt → Prop} {a0 a1 : Nat} :
    wpM 19 [.ref a0, .ref a1] σ P ↔ (zIs σ a0 2 ∧ (zIs σ a1 2 ∧ (if (zfi σ 2 1 a0) = (zfi σ 2 1 a1) then wp 19 13 [some (.ref a0), some (.ref a1), none] [] σ P else wp 19 11 [some (.ref a0), some (.ref a1), none] [] σ P))) := by
  show wp 19 0 [some (.ref a0), some (.ref a1), none] [] σ P ↔ _
  refine (wp_s (n := 1) (zcode_of mc_19 (r := (.aload_n 0, 0, 0, 0)) rfl) rfl rfl).trans ?_
  refine (wc_is (zcode_of mc_19 (r := (.getfield 15, 2, 1, 0)) rfl)).trans (and_congr_right fun h1 => ?_)
  refine (wc_getI (n' := 4) rfl (zcode_of mc_19 (r := (.getfield 15, 2, 1, 0)) rfl) rfl h1).trans ?_
  refine (wp_s (n := 5) (zcode_of mc_19 (r := (.aload_n 1, 0, 0, 0)) rfl) rfl rfl).trans ?_
  refine (wc_is (zcode_of mc_19 (r := (.getfield 15, 2, 1, 0)) rfl)).trans (and_congr_right fun h2 => ?_)
  refine (wc_getI (n' := 8) rfl (zcode_of mc_19 (r := (.getfield 15, 2, 1, 0)) rfl) rfl h2).trans ?_
  exact wp_jump (off := 5) (t := 13) (zcode_of mc_19 (r := (.if_icmp .eq 5, 0, 0, 0)) rfl) rfl rfl (by decide)
theorem b19_11 {σ : zSt} {P : Option Value → zSt → Prop} {a0 a1 : Nat} {u2 : Option Value} :
    wp 19 11 [some (.ref a0), some (.ref a1), u2] [] σ P ↔ (((0 : Int32) = 0 ∨ (0 : Int32) = 1) ∧ P (some (.int 0)) σ) := by
  refine (wp_ic (n' := 12) rfl (zcode_of mc_19 (r := (.iconst 0, 0, 0, 0)) rfl) ci_0).trans ?_
  exact wp_retZ (zcode_of mc_19 (r := (.ireturn, 0, 0, 0)) rfl) rfl
theorem b19_13 {σ : zSt} {P : Option Value → zSt → Prop} {a0 a1 : Nat} {u2 : Option Value} :
    wp 19 13 [some (.ref a0), some (.ref a1), u2] [] σ P ↔ wp 19 15 [some (.ref a0), some (.ref a1), some (.int 0)] [] σ P := by
  refine (wp_ic (n' := 14) rfl (zcode_of mc_19 (r := (.iconst 0, 0, 0, 0)) rfl) ci_0).trans ?_
  refine (wp_s (n := 15) (zcode_of mc_19 (r := (.istore_n 2, 0, 0, 0)) rfl) rfl rfl).trans ?_
  exact Iff.rfl
theorem b19_15 {σ : zSt} {P : Option Value → zSt → Prop} {a0 a1 : Nat} {x2 : Int32} :
    wp 19 15 [some (.ref a0), some (.ref a1), some (.int x2)] [] σ P ↔ (zIs σ a0 2 ∧ (if (zfi σ 2 1 a0) ≤ x2 then wp 19 46 [some (.ref a0), some (.ref a1), some (.int x2)] [] σ P else wp 19 23 [some (.ref a0), some (.ref a1), some (.int x2)] [] σ P)) := by
  refine (wp_s (n := 16) (zcode_of mc_19 (r := (.iload_n 2, 0, 0, 0)) rfl) rfl rfl).trans ?_
  refine (wp_s (n := 17) (zcode_of mc_19 (r := (.aload_n 0, 0, 0, 0)) rfl) rfl rfl).trans ?_
  refine (wc_is (zcode_of mc_19 (r := (.getfield 15, 2, 1, 0)) rfl)).trans (and_congr_right fun h1 => ?_)
  refine (wc_getI (n' := 20) rfl (zcode_of mc_19 (r := (.getfield 15, 2, 1, 0)) rfl) rfl h1).trans ?_
  exact wp_jump (off := 26) (t := 46) (zcode_of mc_19 (r := (.if_icmp .ge 26, 0, 0, 0)) rfl) rfl rfl (by decide)
theorem b19_23 {σ : zSt} {P : Option Value → zSt → Prop} (hC : CShape σ) {a0 a1 : Nat} {x2 : Int32} :
    wp 19 23 [some (.ref a0), some (.ref a1), some (.int x2)] [] σ P ↔ (zIs σ a0 2 ∧ (zIn x2 64 ∧ (zIs σ a1 2 ∧ (zIn x2 64 ∧ (if (zai σ 1 (a0 + 1) (Int32.toNatClampNeg x2)) = (zai σ 1 (a1 + 1) (Int32.toNatClampNeg x2)) then wp 19 40 [some (.ref a0), some (.ref a1), some (.int x2)] [] σ P else wp 19 38 [some (.ref a0), some (.ref a1), some (.int x2)] [] σ P))))) := by
  refine (wp_s (n := 24) (zcode_of mc_19 (r := (.aload_n 0, 0, 0, 0)) rfl) rfl rfl).trans ?_
  refine (wc_is (zcode_of mc_19 (r := (.getfield 9, 2, 0, 0)) rfl)).trans (and_congr_right fun h1 => ?_)
  refine (wc_getR (n' := 27) (d := 1) rfl (zcode_of mc_19 (r := (.getfield 9, 2, 0, 0)) rfl) rfl hC le_2_0 rfl rfl rfl h1).trans ?_
  refine (wp_s (n := 28) (zcode_of mc_19 (r := (.iload_n 2, 0, 0, 0)) rfl) rfl rfl).trans ?_
  refine (wc_ld (n' := 29) rfl (zcode_of mc_19 (r := (.iaload, 0, 0, 0)) rfl) (cs_T hC le_2_0 h1) rfl).trans (and_congr_right fun h2 => ?_)
  refine (wp_s (n := 30) (zcode_of mc_19 (r := (.aload_n 1, 0, 0, 0)) rfl) rfl rfl).trans ?_
  refine (wc_is (zcode_of mc_19 (r := (.getfield 9, 2, 0, 0)) rfl)).trans (and_congr_right fun h3 => ?_)
  refine (wc_getR (n' := 33) (d := 1) rfl (zcode_of mc_19 (r := (.getfield 9, 2, 0, 0)) rfl) rfl hC le_2_0 rfl rfl rfl h3).trans ?_
  refine (wp_s (n := 34) (zcode_of mc_19 (r := (.iload_n 2, 0, 0, 0)) rfl) rfl rfl).trans ?_
  refine (wc_ld (n' := 35) rfl (zcode_of mc_19 (r := (.iaload, 0, 0, 0)) rfl) (cs_T hC le_2_0 h3) rfl).trans (and_congr_right fun h4 => ?_)
  exact wp_jump (off := 5) (t := 40) (zcode_of mc_19 (r := (.if_icmp .eq 5, 0, 0, 0)) rfl) rfl rfl (by decide)
theorem b19_38 {σ : zSt} {P : Option Value → zSt → Prop} {a0 a1 : Nat} {x2 : Int32} :
    wp 19 38 [some (.ref a0), some (.ref a1), some (.int x2)] [] σ P ↔ (((0 : Int32) = 0 ∨ (0 : Int32) = 1) ∧ P (some (.int 0)) σ) := by
  refine (wp_ic (n' := 39) rfl (zcode_of mc_19 (r := (.iconst 0, 0, 0, 0)) rfl) ci_0).trans ?_
  exact wp_retZ (zcode_of mc_19 (r := (.ireturn, 0, 0, 0)) rfl) rfl
theorem b19_40 {σ : zSt} {P : Option Value → zSt → Prop} {a0 a1 : Nat} {x2 : Int32} :
    wp 19 40 [some (.ref a0), some (.ref a1), some (.int x2)] [] σ P ↔ wp 19 15 [some (.ref a0), some (.ref a1), some (.int (x2 + 1))] [] σ P := by
  refine (wp_inc (n' := 43) rfl (zcode_of mc_19 (r := (.iinc 2 1, 0, 0, 0)) rfl) rfl rfl ci_1).trans ?_
  exact wp_goto (off := (-28)) (t := 15) (zcode_of mc_19 (r := (.goto (-28), 0, 0, 0)) rfl) (by decide)
theorem b19_46 {σ : zSt} {P : Option Value → zSt → Prop} {a0 a1 : Nat} {x2 : Int32} :
    wp 19 46 [some (.ref a0), some (.ref a1), some (.int x2)] [] σ P ↔ (((1 : Int32) = 0 ∨ (1 : Int32) = 1) ∧ P (some (.int 1)) σ) := by
  refine (wp_ic (n' := 47) rfl (zcode_of mc_19 (r := (.iconst 1, 0, 0, 0)) rfl) ci_1).trans ?_
  exact wp_retZ (zcode_of mc_19 (r := (.ireturn, 0, 0, 0)) rfl) rfl
theorem mc_20 : mCode 20 = zc_20 := rfl
theorem b20 {σ : zSt} {P : Option Value → zSt → Prop} {a0 : Nat} :
    wpM 20 [.ref a0] σ P ↔ wp 20 2 [some (.ref a0), some (.int 0), none] [] σ P := by
  show wp 20 0 [some (.ref a0), none, none] [] σ P ↔ _
  refine (wp_ic (n' := 1) rfl (zcode_of mc_20 (r := (.iconst 0, 0, 0, 0)) rfl) ci_0).trans ?_
  refine (wp_s (n := 2) (zcode_of mc_20 (r := (.istore_n 1, 0, 0, 0)) rfl) rfl rfl).trans ?_
  exact Iff.rfl
theorem b20_2 {σ : zSt} {P : Option Value → zSt → Prop} {a0 : Nat} {x1 : Int32} {u2 : Option Value} :
    wp 20 2 [some (.ref a0), some (.int x1), u2] [] σ P ↔ (zIs σ a0 2 ∧ (¬ (2 : Int32) = 0 ∧ (if ((zfi σ 2 1 a0) / 2) ≤ x1 then wp 20 58 [some (.ref a0), some (.int x1), u2] [] σ P else wp 20 12 [some (.ref a0), some (.int x1), u2] [] σ P))) := by
  refine (wp_s (n := 3) (zcode_of mc_20 (r := (.iload_n 1, 0, 0, 0)) rfl) rfl rfl).trans ?_
  refine (wp_s (n := 4) (zcode_of mc_20 (r := (.aload_n 0, 0, 0, 0)) rfl) rfl rfl).trans ?_
  refine (wc_is (zcode_of mc_20 (r := (.getfield 15, 2, 1, 0)) rfl)).trans (and_congr_right fun h1 => ?_)
  refine (wc_getI (n' := 7) rfl (zcode_of mc_20 (r := (.getfield 15, 2, 1, 0)) rfl) rfl h1).trans ?_
  refine (wp_ic (n' := 8) rfl (zcode_of mc_20 (r := (.iconst 2, 0, 0, 0)) rfl) ci_2).trans ?_
  refine (wp_div (n' := 9) rfl (zcode_of mc_20 (r := (.idiv, 0, 0, 0)) rfl)).trans (and_congr_right fun h2 => ?_)
  exact wp_jump (off := 49) (t := 58) (zcode_of mc_20 (r := (.if_icmp .ge 49, 0, 0, 0)) rfl) rfl rfl (by decide)
theorem b20_12 {σ : zSt} {P : Option Value → zSt → Prop} (hC : CShape σ) {a0 : Nat} {x1 : Int32} {u2 : Option Value} :
    wp 20 12 [some (.ref a0), some (.int x1), u2] [] σ P ↔ (zIs σ a0 2 ∧ (zIn x1 64 ∧ (zIn (((zfi σ 2 1 a0) - 1) - x1) 64 ∧ (zIn x1 64 ∧ (zIn (((zfi σ 2 1 a0) - 1) - x1) 64 ∧ wp 20 2 [some (.ref a0), some (.int (x1 + 1)), some (.int (zai σ 1 (a0 + 1) (Int32.toNatClampNeg x1)))] [] (sai (sai σ 1 (a0 + 1) (Int32.toNatClampNeg x1) (zai σ 1 (a0 + 1) (Int32.toNatClampNeg (((zfi σ 2 1 a0) - 1) - x1)))) 1 (a0 + 1) (Int32.toNatClampNeg (((zfi σ 2 1 a0) - 1) - x1)) (zai σ 1 (a0 + 1) (Int32.toNatClampNeg x1))) P))))) := by
  refine (wp_s (n := 13) (zcode_of mc_20 (r := (.aload_n 0, 0, 0, 0)) rfl) rfl rfl).trans ?_
  refine (wc_is (zcode_of mc_20 (r := (.getfield 9, 2, 0, 0)) rfl)).trans (and_congr_right fun h1 => ?_)
  refine (wc_getR (n' := 16) (d := 1) rfl (zcode_of mc_20 (r := (.getfield 9, 2, 0, 0)) rfl) rfl hC le_2_0 rfl rfl rfl h1).trans ?_
  refine (wp_s (n := 17) (zcode_of mc_20 (r := (.iload_n 1, 0, 0, 0)) rfl) rfl rfl).trans ?_
  refine (wc_ld (n' := 18) rfl (zcode_of mc_20 (r := (.iaload, 0, 0, 0)) rfl) (cs_T hC le_2_0 h1) rfl).trans (and_congr_right fun h2 => ?_)
  refine (wp_s (n := 19) (zcode_of mc_20 (r := (.istore_n 2, 0, 0, 0)) rfl) rfl rfl).trans ?_
  refine (wp_s (n := 20) (zcode_of mc_20 (r := (.aload_n 0, 0, 0, 0)) rfl) rfl rfl).trans ?_
  refine (wc_getR (n' := 23) (d := 1) rfl (zcode_of mc_20 (r := (.getfield 9, 2, 0, 0)) rfl) rfl hC le_2_0 rfl rfl rfl h1).trans ?_
  refine (wp_s (n := 24) (zcode_of mc_20 (r := (.iload_n 1, 0, 0, 0)) rfl) rfl rfl).trans ?_
  refine (wp_s (n := 25) (zcode_of mc_20 (r := (.aload_n 0, 0, 0, 0)) rfl) rfl rfl).trans ?_
  refine (wc_getR (n' := 28) (d := 1) rfl (zcode_of mc_20 (r := (.getfield 9, 2, 0, 0)) rfl) rfl hC le_2_0 rfl rfl rfl h1).trans ?_
  refine (wp_s (n := 29) (zcode_of mc_20 (r := (.aload_n 0, 0, 0, 0)) rfl) rfl rfl).trans ?_
  refine (wc_getI (n' := 32) rfl (zcode_of mc_20 (r := (.getfield 15, 2, 1, 0)) rfl) rfl h1).trans ?_
  refine (wp_ic (n' := 33) rfl (zcode_of mc_20 (r := (.iconst 1, 0, 0, 0)) rfl) ci_1).trans ?_
  refine (wp_s (n := 34) (zcode_of mc_20 (r := (.isub, 0, 0, 0)) rfl) rfl rfl).trans ?_
  refine (wp_s (n := 35) (zcode_of mc_20 (r := (.iload_n 1, 0, 0, 0)) rfl) rfl rfl).trans ?_
  refine (wp_s (n := 36) (zcode_of mc_20 (r := (.isub, 0, 0, 0)) rfl) rfl rfl).trans ?_
  refine (wc_ld (n' := 37) rfl (zcode_of mc_20 (r := (.iaload, 0, 0, 0)) rfl) (cs_T hC le_2_0 h1) rfl).trans (and_congr_right fun h3 => ?_)
  refine (wc_st (n' := 38) rfl (zcode_of mc_20 (r := (.iastore, 0, 0, 0)) rfl) (cs_T hC le_2_0 h1) rfl).trans (and_congr_right fun h4 => ?_)
  refine (wp_s (n := 39) (zcode_of mc_20 (r := (.aload_n 0, 0, 0, 0)) rfl) rfl rfl).trans ?_
  refine (wc_getR (σ := sai σ 1 (a0 + 1) (Int32.toNatClampNeg x1) (zai σ 1 (a0 + 1) (Int32.toNatClampNeg (((zfi σ 2 1 a0) - 1) - x1)))) (n' := 42) (d := 1) rfl (zcode_of mc_20 (r := (.getfield 9, 2, 0, 0)) rfl) rfl (cs_sai hC) le_2_0 rfl rfl rfl h1).trans ?_
  refine (wp_s (n := 43) (zcode_of mc_20 (r := (.aload_n 0, 0, 0, 0)) rfl) rfl rfl).trans ?_
  refine (wc_getI (σ := sai σ 1 (a0 + 1) (Int32.toNatClampNeg x1) (zai σ 1 (a0 + 1) (Int32.toNatClampNeg (((zfi σ 2 1 a0) - 1) - x1)))) (n' := 46) rfl (zcode_of mc_20 (r := (.getfield 15, 2, 1, 0)) rfl) rfl h1).trans ?_
  refine (wp_ic (n' := 47) rfl (zcode_of mc_20 (r := (.iconst 1, 0, 0, 0)) rfl) ci_1).trans ?_
  refine (wp_s (n := 48) (zcode_of mc_20 (r := (.isub, 0, 0, 0)) rfl) rfl rfl).trans ?_
  refine (wp_s (n := 49) (zcode_of mc_20 (r := (.iload_n 1, 0, 0, 0)) rfl) rfl rfl).trans ?_
  refine (wp_s (n := 50) (zcode_of mc_20 (r := (.isub, 0, 0, 0)) rfl) rfl rfl).trans ?_
  refine (wp_s (n := 51) (zcode_of mc_20 (r := (.iload_n 2, 0, 0, 0)) rfl) rfl rfl).trans ?_
  refine (wc_st (σ := sai σ 1 (a0 + 1) (Int32.toNatClampNeg x1) (zai σ 1 (a0 + 1) (Int32.toNatClampNeg (((zfi σ 2 1 a0) - 1) - x1)))) (n' := 52) rfl (zcode_of mc_20 (r := (.iastore, 0, 0, 0)) rfl) (cs_T (cs_sai hC) le_2_0 h1) rfl).trans (and_congr_right fun h5 => ?_)
  refine (wp_inc (n' := 55) rfl (zcode_of mc_20 (r := (.iinc 1 1, 0, 0, 0)) rfl) rfl rfl ci_1).trans ?_
  exact wp_goto (off := (-53)) (t := 2) (zcode_of mc_20 (r := (.goto (-53), 0, 0, 0)) rfl) (by decide)
theorem b20_58 {σ : zSt} {P : Option Value → zSt → Prop} {a0 : Nat} {x1 : Int32} {u2 : Option Value} :
    wp 20 58 [some (.ref a0), some (.int x1), u2] [] σ P ↔ P none σ := by
  exact wp_retV (zcode_of mc_20 (r := (.return_, 0, 0, 0)) rfl) rfl
theorem mc_21 : mCode 21 = zc_21 := rfl
theorem b21 {σ : zSt} {P : Option Value → zSt → Prop} {a0 : Nat} :
    wpM 21 [.ref a0] σ P ↔ wp 21 2 [some (.ref a0), some (.int 1), none, none] [] σ P := by
  show wp 21 0 [some (.ref a0), none, none, none] [] σ P ↔ _
  refine (wp_ic (n' := 1) rfl (zcode_of mc_21 (r := (.iconst 1, 0, 0, 0)) rfl) ci_1).trans ?_
  refine (wp_s (n := 2) (zcode_of mc_21 (r := (.istore_n 1, 0, 0, 0)) rfl) rfl rfl).trans ?_
  exact Iff.rfl
theorem b21_2 {σ : zSt} {P : Option Value → zSt → Prop} {a0 : Nat} {x1 : Int32} {u2 u3 : Option Value} :
    wp 21 2 [some (.ref a0), some (.int x1), u2, u3] [] σ P ↔ (zIs σ a0 2 ∧ (if (zfi σ 2 1 a0) ≤ x1 then wp 21 68 [some (.ref a0), some (.int x1), u2, u3] [] σ P else wp 21 10 [some (.ref a0), some (.int x1), u2, u3] [] σ P)) := by
  refine (wp_s (n := 3) (zcode_of mc_21 (r := (.iload_n 1, 0, 0, 0)) rfl) rfl rfl).trans ?_
  refine (wp_s (n := 4) (zcode_of mc_21 (r := (.aload_n 0, 0, 0, 0)) rfl) rfl rfl).trans ?_
  refine (wc_is (zcode_of mc_21 (r := (.getfield 15, 2, 1, 0)) rfl)).trans (and_congr_right fun h1 => ?_)
  refine (wc_getI (n' := 7) rfl (zcode_of mc_21 (r := (.getfield 15, 2, 1, 0)) rfl) rfl h1).trans ?_
  exact wp_jump (off := 61) (t := 68) (zcode_of mc_21 (r := (.if_icmp .ge 61, 0, 0, 0)) rfl) rfl rfl (by decide)
theorem b21_10 {σ : zSt} {P : Option Value → zSt → Prop} (hC : CShape σ) {a0 : Nat} {x1 : Int32} {u2 u3 : Option Value} :
    wp 21 10 [some (.ref a0), some (.int x1), u2, u3] [] σ P ↔ (zIs σ a0 2 ∧ (zIn x1 64 ∧ wp 21 19 [some (.ref a0), some (.int x1), some (.int (zai σ 1 (a0 + 1) (Int32.toNatClampNeg x1))), some (.int x1)] [] σ P)) := by
  refine (wp_s (n := 11) (zcode_of mc_21 (r := (.aload_n 0, 0, 0, 0)) rfl) rfl rfl).trans ?_
  refine (wc_is (zcode_of mc_21 (r := (.getfield 9, 2, 0, 0)) rfl)).trans (and_congr_right fun h1 => ?_)
  refine (wc_getR (n' := 14) (d := 1) rfl (zcode_of mc_21 (r := (.getfield 9, 2, 0, 0)) rfl) rfl hC le_2_0 rfl rfl rfl h1).trans ?_
  refine (wp_s (n := 15) (zcode_of mc_21 (r := (.iload_n 1, 0, 0, 0)) rfl) rfl rfl).trans ?_
  refine (wc_ld (n' := 16) rfl (zcode_of mc_21 (r := (.iaload, 0, 0, 0)) rfl) (cs_T hC le_2_0 h1) rfl).trans (and_congr_right fun h2 => ?_)
  refine (wp_s (n := 17) (zcode_of mc_21 (r := (.istore_n 2, 0, 0, 0)) rfl) rfl rfl).trans ?_
  refine (wp_s (n := 18) (zcode_of mc_21 (r := (.iload_n 1, 0, 0, 0)) rfl) rfl rfl).trans ?_
  refine (wp_s (n := 19) (zcode_of mc_21 (r := (.istore_n 3, 0, 0, 0)) rfl) rfl rfl).trans ?_
  exact Iff.rfl
theorem b21_19 {σ : zSt} {P : Option Value → zSt → Prop} {a0 : Nat} {x1 x2 x3 : Int32} :
    wp 21 19 [some (.ref a0), some (.int x1), some (.int x2), some (.int x3)] [] σ P ↔ (if x3 ≤ 0 then wp 21 55 [some (.ref a0), some (.int x1), some (.int x2), some (.int x3)] [] σ P else wp 21 23 [some (.ref a0), some (.int x1), some (.int x2), some (.int x3)] [] σ P) := by
  refine (wp_s (n := 20) (zcode_of mc_21 (r := (.iload_n 3, 0, 0, 0)) rfl) rfl rfl).trans ?_
  exact wp_jump (off := 35) (t := 55) (zcode_of mc_21 (r := (.ifCond .le 35, 0, 0, 0)) rfl) rfl rfl (by decide)
theorem b21_23 {σ : zSt} {P : Option Value → zSt → Prop} (hC : CShape σ) {a0 : Nat} {x1 x2 x3 : Int32} :
    wp 21 23 [some (.ref a0), some (.int x1), some (.int x2), some (.int x3)] [] σ P ↔ (zIs σ a0 2 ∧ (zIn (x3 - 1) 64 ∧ (if (zai σ 1 (a0 + 1) (Int32.toNatClampNeg (x3 - 1))) ≤ x2 then wp 21 55 [some (.ref a0), some (.int x1), some (.int x2), some (.int x3)] [] σ P else wp 21 35 [some (.ref a0), some (.int x1), some (.int x2), some (.int x3)] [] σ P))) := by
  refine (wp_s (n := 24) (zcode_of mc_21 (r := (.aload_n 0, 0, 0, 0)) rfl) rfl rfl).trans ?_
  refine (wc_is (zcode_of mc_21 (r := (.getfield 9, 2, 0, 0)) rfl)).trans (and_congr_right fun h1 => ?_)
  refine (wc_getR (n' := 27) (d := 1) rfl (zcode_of mc_21 (r := (.getfield 9, 2, 0, 0)) rfl) rfl hC le_2_0 rfl rfl rfl h1).trans ?_
  refine (wp_s (n := 28) (zcode_of mc_21 (r := (.iload_n 3, 0, 0, 0)) rfl) rfl rfl).trans ?_
  refine (wp_ic (n' := 29) rfl (zcode_of mc_21 (r := (.iconst 1, 0, 0, 0)) rfl) ci_1).trans ?_
  refine (wp_s (n := 30) (zcode_of mc_21 (r := (.isub, 0, 0, 0)) rfl) rfl rfl).trans ?_
  refine (wc_ld (n' := 31) rfl (zcode_of mc_21 (r := (.iaload, 0, 0, 0)) rfl) (cs_T hC le_2_0 h1) rfl).trans (and_congr_right fun h2 => ?_)
  refine (wp_s (n := 32) (zcode_of mc_21 (r := (.iload_n 2, 0, 0, 0)) rfl) rfl rfl).trans ?_
  exact wp_jump (off := 23) (t := 55) (zcode_of mc_21 (r := (.if_icmp .le 23, 0, 0, 0)) rfl) rfl rfl (by decide)
theorem b21_35 {σ : zSt} {P : Option Value → zSt → Prop} (hC : CShape σ) {a0 : Nat} {x1 x2 x3 : Int32} :
    wp 21 35 [some (.ref a0), some (.int x1), some (.int x2), some (.int x3)] [] σ P ↔ (zIs σ a0 2 ∧ (zIn (x3 - 1) 64 ∧ (zIn x3 64 ∧ wp 21 19 [some (.ref a0), some (.int x1), some (.int x2), some (.int (x3 + (-1)))] [] (sai σ 1 (a0 + 1) (Int32.toNatClampNeg x3) (zai σ 1 (a0 + 1) (Int32.toNatClampNeg (x3 - 1)))) P))) := by
  refine (wp_s (n := 36) (zcode_of mc_21 (r := (.aload_n 0, 0, 0, 0)) rfl) rfl rfl).trans ?_
  refine (wc_is (zcode_of mc_21 (r := (.getfield 9, 2, 0, 0)) rfl)).trans (and_congr_right fun h1 => ?_)
  refine (wc_getR (n' := 39) (d := 1) rfl (zcode_of mc_21 (r := (.getfield 9, 2, 0, 0)) rfl) rfl hC le_2_0 rfl rfl rfl h1).trans ?_
  refine (wp_s (n := 40) (zcode_of mc_21 (r := (.iload_n 3, 0, 0, 0)) rfl) rfl rfl).trans ?_
  refine (wp_s (n := 41) (zcode_of mc_21 (r := (.aload_n 0, 0, 0, 0)) rfl) rfl rfl).trans ?_
  refine (wc_getR (n' := 44) (d := 1) rfl (zcode_of mc_21 (r := (.getfield 9, 2, 0, 0)) rfl) rfl hC le_2_0 rfl rfl rfl h1).trans ?_
  refine (wp_s (n := 45) (zcode_of mc_21 (r := (.iload_n 3, 0, 0, 0)) rfl) rfl rfl).trans ?_
  refine (wp_ic (n' := 46) rfl (zcode_of mc_21 (r := (.iconst 1, 0, 0, 0)) rfl) ci_1).trans ?_
  refine (wp_s (n := 47) (zcode_of mc_21 (r := (.isub, 0, 0, 0)) rfl) rfl rfl).trans ?_
  refine (wc_ld (n' := 48) rfl (zcode_of mc_21 (r := (.iaload, 0, 0, 0)) rfl) (cs_T hC le_2_0 h1) rfl).trans (and_congr_right fun h2 => ?_)
  refine (wc_st (n' := 49) rfl (zcode_of mc_21 (r := (.iastore, 0, 0, 0)) rfl) (cs_T hC le_2_0 h1) rfl).trans (and_congr_right fun h3 => ?_)
  refine (wp_inc (n' := 52) rfl (zcode_of mc_21 (r := (.iinc 3 (-1), 0, 0, 0)) rfl) rfl rfl ci_m1).trans ?_
  exact wp_goto (off := (-33)) (t := 19) (zcode_of mc_21 (r := (.goto (-33), 0, 0, 0)) rfl) (by decide)
theorem b21_55 {σ : zSt} {P : Option Value → zSt → Prop} (hC : CShape σ) {a0 : Nat} {x1 x2 x3 : Int32} :
    wp 21 55 [some (.ref a0), some (.int x1), some (.int x2), some (.int x3)] [] σ P ↔ (zIs σ a0 2 ∧ (zIn x3 64 ∧ wp 21 2 [some (.ref a0), some (.int (x1 + 1)), some (.int x2), some (.int x3)] [] (sai σ 1 (a0 + 1) (Int32.toNatClampNeg x3) x2) P)) := by
  refine (wp_s (n := 56) (zcode_of mc_21 (r := (.aload_n 0, 0, 0, 0)) rfl) rfl rfl).trans ?_
  refine (wc_is (zcode_of mc_21 (r := (.getfield 9, 2, 0, 0)) rfl)).trans (and_congr_right fun h1 => ?_)
  refine (wc_getR (n' := 59) (d := 1) rfl (zcode_of mc_21 (r := (.getfield 9, 2, 0, 0)) rfl) rfl hC le_2_0 rfl rfl rfl h1).trans ?_
  refine (wp_s (n := 60) (zcode_of mc_21 (r := (.iload_n 3, 0, 0, 0)) rfl) rfl rfl).trans ?_
  refine (wp_s (n := 61) (zcode_of mc_21 (r := (.iload_n 2, 0, 0, 0)) rfl) rfl rfl).trans ?_
  refine (wc_st (n' := 62) rfl (zcode_of mc_21 (r := (.iastore, 0, 0, 0)) rfl) (cs_T hC le_2_0 h1) rfl).trans (and_congr_right fun h2 => ?_)
  refine (wp_inc (n' := 65) rfl (zcode_of mc_21 (r := (.iinc 1 1, 0, 0, 0)) rfl) rfl rfl ci_1).trans ?_
  exact wp_goto (off := (-63)) (t := 2) (zcode_of mc_21 (r := (.goto (-63), 0, 0, 0)) rfl) (by decide)
theorem b21_68 {σ : zSt} {P : Option Value → zSt → Prop} {a0 : Nat} {x1 : Int32} {u2 u3 : Option Value} :
    wp 21 68 [some (.ref a0), some (.int x1), u2, u3] [] σ P ↔ P none σ := by
  exact wp_retV (zcode_of mc_21 (r := (.return_, 0, 0, 0)) rfl) rfl
theorem mc_22 : mCode 22 = zc_22 := rfl
theorem b22 {σ : zSt} {P : Option Value → zSt → Prop} {a0 : Nat} :
    wpM 22 [.ref a0] σ P ↔ wp 22 4 [some (.ref a0), some (.int 0), some (.int 0)] [] σ P := by
  show wp 22 0 [some (.ref a0), none, none] [] σ P ↔ _
  refine (wp_ic (n' := 1) rfl (zcode_of mc_22 (r := (.iconst 0, 0, 0, 0)) rfl) ci_0).trans ?_
  refine (wp_s (n := 2) (zcode_of mc_22 (r := (.istore_n 1, 0, 0, 0)) rfl) rfl rfl).trans ?_
  refine (wp_ic (n' := 3) rfl (zcode_of mc_22 (r := (.iconst 0, 0, 0, 0)) rfl) ci_0).trans ?_
  refine (wp_s (n := 4) (zcode_of mc_22 (r := (.istore_n 2, 0, 0, 0)) rfl) rfl rfl).trans ?_
  exact Iff.rfl
theorem b22_4 {σ : zSt} {P : Option Value → zSt → Prop} {a0 : Nat} {x1 x2 : Int32} :
    wp 22 4 [some (.ref a0), some (.int x1), some (.int x2)] [] σ P ↔ (zIs σ a0 2 ∧ (if (zfi σ 2 1 a0) ≤ x2 then wp 22 27 [some (.ref a0), some (.int x1), some (.int x2)] [] σ P else wp 22 12 [some (.ref a0), some (.int x1), some (.int x2)] [] σ P)) := by
  refine (wp_s (n := 5) (zcode_of mc_22 (r := (.iload_n 2, 0, 0, 0)) rfl) rfl rfl).trans ?_
  refine (wp_s (n := 6) (zcode_of mc_22 (r := (.aload_n 0, 0, 0, 0)) rfl) rfl rfl).trans ?_
  refine (wc_is (zcode_of mc_22 (r := (.getfield 15, 2, 1, 0)) rfl)).trans (and_congr_right fun h1 => ?_)
  refine (wc_getI (n' := 9) rfl (zcode_of mc_22 (r := (.getfield 15, 2, 1, 0)) rfl) rfl h1).trans ?_
  exact wp_jump (off := 18) (t := 27) (zcode_of mc_22 (r := (.if_icmp .ge 18, 0, 0, 0)) rfl) rfl rfl (by decide)
theorem b22_12 {σ : zSt} {P : Option Value → zSt → Prop} (hC : CShape σ) {a0 : Nat} {x1 x2 : Int32} :
    wp 22 12 [some (.ref a0), some (.int x1), some (.int x2)] [] σ P ↔ (zIs σ a0 2 ∧ (zIn x2 64 ∧ wp 22 4 [some (.ref a0), some (.int (x1 + (zai σ 1 (a0 + 1) (Int32.toNatClampNeg x2)))), some (.int (x2 + 1))] [] σ P)) := by
  refine (wp_s (n := 13) (zcode_of mc_22 (r := (.iload_n 1, 0, 0, 0)) rfl) rfl rfl).trans ?_
  refine (wp_s (n := 14) (zcode_of mc_22 (r := (.aload_n 0, 0, 0, 0)) rfl) rfl rfl).trans ?_
  refine (wc_is (zcode_of mc_22 (r := (.getfield 9, 2, 0, 0)) rfl)).trans (and_congr_right fun h1 => ?_)
  refine (wc_getR (n' := 17) (d := 1) rfl (zcode_of mc_22 (r := (.getfield 9, 2, 0, 0)) rfl) rfl hC le_2_0 rfl rfl rfl h1).trans ?_
  refine (wp_s (n := 18) (zcode_of mc_22 (r := (.iload_n 2, 0, 0, 0)) rfl) rfl rfl).trans ?_
  refine (wc_ld (n' := 19) rfl (zcode_of mc_22 (r := (.iaload, 0, 0, 0)) rfl) (cs_T hC le_2_0 h1) rfl).trans (and_congr_right fun h2 => ?_)
  refine (wp_s (n := 20) (zcode_of mc_22 (r := (.iadd, 0, 0, 0)) rfl) rfl rfl).trans ?_
  refine (wp_s (n := 21) (zcode_of mc_22 (r := (.istore_n 1, 0, 0, 0)) rfl) rfl rfl).trans ?_
  refine (wp_inc (n' := 24) rfl (zcode_of mc_22 (r := (.iinc 2 1, 0, 0, 0)) rfl) rfl rfl ci_1).trans ?_
  exact wp_goto (off := (-20)) (t := 4) (zcode_of mc_22 (r := (.goto (-20), 0, 0, 0)) rfl) (by decide)
theorem b22_27 {σ : zSt} {P : Option Value → zSt → Prop} {a0 : Nat} {x1 x2 : Int32} :
    wp 22 27 [some (.ref a0), some (.int x1), some (.int x2)] [] σ P ↔ P (some (.int x1)) σ := by
  refine (wp_s (n := 28) (zcode_of mc_22 (r := (.iload_n 1, 0, 0, 0)) rfl) rfl rfl).trans ?_
  exact wp_retI (zcode_of mc_22 (r := (.ireturn, 0, 0, 0)) rfl) rfl
theorem mc_23 : mCode 23 = zc_23 := rfl
theorem b23 {σ : zSt} {P : Option Value → zSt → Prop} {a0 : Nat} {x1 : Int32} :
    wpM 23 [.ref a0, .int x1] σ P ↔ (zIs σ a0 2 ∧ wp 23 9 [some (.ref a0), some (.int x1), some (.int x1), some (.int 0)] [] (sfi σ 2 1 a0 0) P) := by
  show wp 23 0 [some (.ref a0), some (.int x1), none, none] [] σ P ↔ _
  refine (wp_s (n := 1) (zcode_of mc_23 (r := (.iload_n 1, 0, 0, 0)) rfl) rfl rfl).trans ?_
  refine (wp_s (n := 2) (zcode_of mc_23 (r := (.istore_n 2, 0, 0, 0)) rfl) rfl rfl).trans ?_
  refine (wp_s (n := 3) (zcode_of mc_23 (r := (.aload_n 0, 0, 0, 0)) rfl) rfl rfl).trans ?_
  refine (wp_ic (n' := 4) rfl (zcode_of mc_23 (r := (.iconst 0, 0, 0, 0)) rfl) ci_0).trans ?_
  refine (wc_isP (zcode_of mc_23 (r := (.putfield 15, 2, 1, 0)) rfl)).trans (and_congr_right fun h1 => ?_)
  refine (wc_putI (n' := 7) rfl (zcode_of mc_23 (r := (.putfield 15, 2, 1, 0)) rfl) rfl h1).trans ?_
  refine (wp_ic (n' := 8) rfl (zcode_of mc_23 (r := (.iconst 0, 0, 0, 0)) rfl) ci_0).trans ?_
  refine (wp_s (n := 9) (zcode_of mc_23 (r := (.istore_n 3, 0, 0, 0)) rfl) rfl rfl).trans ?_
  exact Iff.rfl
theorem b23_9 {σ : zSt} {P : Option Value → zSt → Prop} {a0 : Nat} {x1 x2 x3 : Int32} :
    wp 23 9 [some (.ref a0), some (.int x1), some (.int x2), some (.int x3)] [] σ P ↔ (if 10 ≤ x3 then wp 23 46 [some (.ref a0), some (.int x1), some (.int x2), some (.int x3)] [] σ P else wp 23 15 [some (.ref a0), some (.int x1), some (.int x2), some (.int x3)] [] σ P) := by
  refine (wp_s (n := 10) (zcode_of mc_23 (r := (.iload_n 3, 0, 0, 0)) rfl) rfl rfl).trans ?_
  refine (wp_bp (n' := 12) rfl (zcode_of mc_23 (r := (.bipush 10, 0, 0, 0)) rfl) cb_10).trans ?_
  exact wp_jump (off := 34) (t := 46) (zcode_of mc_23 (r := (.if_icmp .ge 34, 0, 0, 0)) rfl) rfl rfl (by decide)
theorem b23_15 {σ : zSt} {P : Option Value → zSt → Prop} {a0 : Nat} {x1 x2 x3 : Int32} :
    wp 23 15 [some (.ref a0), some (.int x1), some (.int x2), some (.int x3)] [] σ P ↔ (if x3 = 0 then wp 23 23 [some (.ref a0), some (.int x1), some (.int x2), some (.int x3)] [] σ P else wp 23 19 [some (.ref a0), some (.int x1), some (.int x2), some (.int x3)] [] σ P) := by
  refine (wp_s (n := 16) (zcode_of mc_23 (r := (.iload_n 3, 0, 0, 0)) rfl) rfl rfl).trans ?_
  exact wp_jump (off := 7) (t := 23) (zcode_of mc_23 (r := (.ifCond .eq 7, 0, 0, 0)) rfl) rfl rfl (by decide)
theorem b23_19 {σ : zSt} {P : Option Value → zSt → Prop} {a0 : Nat} {x1 x2 x3 : Int32} :
    wp 23 19 [some (.ref a0), some (.int x1), some (.int x2), some (.int x3)] [] σ P ↔ (if x2 ≤ 0 then wp 23 46 [some (.ref a0), some (.int x1), some (.int x2), some (.int x3)] [] σ P else wp 23 23 [some (.ref a0), some (.int x1), some (.int x2), some (.int x3)] [] σ P) := by
  refine (wp_s (n := 20) (zcode_of mc_23 (r := (.iload_n 2, 0, 0, 0)) rfl) rfl rfl).trans ?_
  exact wp_jump (off := 26) (t := 46) (zcode_of mc_23 (r := (.ifCond .le 26, 0, 0, 0)) rfl) rfl rfl (by decide)
theorem b23_23 {σ : zSt} {P : Option Value → zSt → Prop} {a0 : Nat} {x1 x2 x3 : Int32} :
    wp 23 23 [some (.ref a0), some (.int x1), some (.int x2), some (.int x3)] [] σ P ↔ (¬ (10 : Int32) = 0 ∧ (zIs σ a0 2 ∧ wpM 16 [.ref a0, .int (48 + (x2 - x2 / 10 * 10))] σ (fun r τ => wp 23 34 [some (.ref a0), some (.int x1), some (.int x2), some (.int x3)] (r.toList ++ []) τ P))) := by
  refine (wp_s (n := 24) (zcode_of mc_23 (r := (.aload_n 0, 0, 0, 0)) rfl) rfl rfl).trans ?_
  refine (wp_bp (n' := 26) rfl (zcode_of mc_23 (r := (.bipush 48, 0, 0, 0)) rfl) cb_48).trans ?_
  refine (wp_s (n := 27) (zcode_of mc_23 (r := (.iload_n 2, 0, 0, 0)) rfl) rfl rfl).trans ?_
  refine (wp_bp (n' := 29) rfl (zcode_of mc_23 (r := (.bipush 10, 0, 0, 0)) rfl) cb_10).trans ?_
  refine (wp_rem (n' := 30) rfl (zcode_of mc_23 (r := (.irem, 0, 0, 0)) rfl)).trans (and_congr_right fun h1 => ?_)
  refine (wp_s (n := 31) (zcode_of mc_23 (r := (.iadd, 0, 0, 0)) rfl) rfl rfl).trans ?_
  refine (wc_isV (cl := 2) (rest := []) (zcode_of mc_23 (r := (.invokevirtual 19, 16, 0, 1)) rfl) rfl rfl rfl).trans (and_congr_right fun h2 => ?_)
  exact wp_call (q := ([.ref a0, .int (48 + (x2 - x2 / 10 * 10))], [])) (zcode_of mc_23 (r := (.invokevirtual 19, 16, 0, 1)) rfl) rfl (zCa_V (Nat.le_of_ble_eq_true rfl) rfl h2) ⟨Nat.le_of_ble_eq_true rfl, Nat.le_of_ble_eq_true rfl⟩
theorem b23_34 {σ : zSt} {P : Option Value → zSt → Prop} {a0 : Nat} {x1 x2 x3 s0 : Int32} :
    wp 23 34 [some (.ref a0), some (.int x1), some (.int x2), some (.int x3)] [.int s0] σ P ↔ (¬ (10 : Int32) = 0 ∧ wp 23 9 [some (.ref a0), some (.int x1), some (.int (x2 / 10)), some (.int (x3 + 1))] [] σ P) := by
  refine (wp_s (n := 35) (zcode_of mc_23 (r := (.pop, 0, 0, 0)) rfl) rfl rfl).trans ?_
  refine (wp_s (n := 36) (zcode_of mc_23 (r := (.iload_n 2, 0, 0, 0)) rfl) rfl rfl).trans ?_
  refine (wp_bp (n' := 38) rfl (zcode_of mc_23 (r := (.bipush 10, 0, 0, 0)) rfl) cb_10).trans ?_
  refine (wp_div (n' := 39) rfl (zcode_of mc_23 (r := (.idiv, 0, 0, 0)) rfl)).trans (and_congr_right fun h1 => ?_)
  refine (wp_s (n := 40) (zcode_of mc_23 (r := (.istore_n 2, 0, 0, 0)) rfl) rfl rfl).trans ?_
  refine (wp_inc (n' := 43) rfl (zcode_of mc_23 (r := (.iinc 3 1, 0, 0, 0)) rfl) rfl rfl ci_1).trans ?_
  exact wp_goto (off := (-34)) (t := 9) (zcode_of mc_23 (r := (.goto (-34), 0, 0, 0)) rfl) (by decide)
theorem b23_46 {σ : zSt} {P : Option Value → zSt → Prop} {a0 : Nat} {x1 x2 x3 : Int32} :
    wp 23 46 [some (.ref a0), some (.int x1), some (.int x2), some (.int x3)] [] σ P ↔ (zIs σ a0 2 ∧ wpM 20 [.ref a0] σ (fun r τ => wp 23 50 [some (.ref a0), some (.int x1), some (.int x2), some (.int x3)] (r.toList ++ []) τ P)) := by
  refine (wp_s (n := 47) (zcode_of mc_23 (r := (.aload_n 0, 0, 0, 0)) rfl) rfl rfl).trans ?_
  refine (wc_isV (cl := 2) (rest := []) (zcode_of mc_23 (r := (.invokevirtual 23, 20, 0, 0)) rfl) rfl rfl rfl).trans (and_congr_right fun h1 => ?_)
  exact wp_call (q := ([.ref a0], [])) (zcode_of mc_23 (r := (.invokevirtual 23, 20, 0, 0)) rfl) rfl (zCa_V (Nat.le_of_ble_eq_true rfl) rfl h1) ⟨Nat.le_of_ble_eq_true rfl, Nat.le_of_ble_eq_true rfl⟩
theorem b23_50 {σ : zSt} {P : Option Value → zSt → Prop} {a0 : Nat} {x1 x2 x3 : Int32} :
    wp 23 50 [some (.ref a0), some (.int x1), some (.int x2), some (.int x3)] [] σ P ↔ P none σ := by
  exact wp_retV (zcode_of mc_23 (r := (.return_, 0, 0, 0)) rfl) rfl
theorem mc_24 : mCode 24 = zc_24 := rfl
theorem b24 {σ : zSt} {P : Option Value → zSt → Prop} {a0 : Nat} {x1 : Int32} :
    wpM 24 [.ref a0, .int x1] σ P ↔ (zIs σ a0 2 ∧ (if (zfi σ 2 1 a0) ≤ x1 then wp 24 13 [some (.ref a0), some (.int x1)] [] σ P else wp 24 8 [some (.ref a0), some (.int x1)] [] σ P)) := by
  show wp 24 0 [some (.ref a0), some (.int x1)] [] σ P ↔ _
  refine (wp_s (n := 1) (zcode_of mc_24 (r := (.aload_n 0, 0, 0, 0)) rfl) rfl rfl).trans ?_
  refine (wc_is (zcode_of mc_24 (r := (.getfield 15, 2, 1, 0)) rfl)).trans (and_congr_right fun h1 => ?_)
  refine (wc_getI (n' := 4) rfl (zcode_of mc_24 (r := (.getfield 15, 2, 1, 0)) rfl) rfl h1).trans ?_
  refine (wp_s (n := 5) (zcode_of mc_24 (r := (.iload_n 1, 0, 0, 0)) rfl) rfl rfl).trans ?_
  exact wp_jump (off := 8) (t := 13) (zcode_of mc_24 (r := (.if_icmp .le 8, 0, 0, 0)) rfl) rfl rfl (by decide)
theorem b24_8 {σ : zSt} {P : Option Value → zSt → Prop} {a0 : Nat} {x1 : Int32} :
    wp 24 8 [some (.ref a0), some (.int x1)] [] σ P ↔ (zIs σ a0 2 ∧ wp 24 13 [some (.ref a0), some (.int x1)] [] (sfi σ 2 1 a0 x1) P) := by
  refine (wp_s (n := 9) (zcode_of mc_24 (r := (.aload_n 0, 0, 0, 0)) rfl) rfl rfl).trans ?_
  refine (wp_s (n := 10) (zcode_of mc_24 (r := (.iload_n 1, 0, 0, 0)) rfl) rfl rfl).trans ?_
  refine (wc_isP (zcode_of mc_24 (r := (.putfield 15, 2, 1, 0)) rfl)).trans (and_congr_right fun h1 => ?_)
  refine (wc_putI (n' := 13) rfl (zcode_of mc_24 (r := (.putfield 15, 2, 1, 0)) rfl) rfl h1).trans ?_
  exact Iff.rfl
theorem b24_13 {σ : zSt} {P : Option Value → zSt → Prop} {a0 : Nat} {x1 : Int32} :
    wp 24 13 [some (.ref a0), some (.int x1)] [] σ P ↔ P none σ := by
  exact wp_retV (zcode_of mc_24 (r := (.return_, 0, 0, 0)) rfl) rfl
theorem mc_25 : mCode 25 = zc_25 := rfl
theorem b25 {σ : zSt} {P : Option Value → zSt → Prop} {a0 : Nat} :
    wpM 25 [.ref a0] σ P ↔ wp 25 4 [some (.ref a0), some (.int 0), some (.int 0)] [] σ P := by
  show wp 25 0 [some (.ref a0), none, none] [] σ P ↔ _
  refine (wp_ic (n' := 1) rfl (zcode_of mc_25 (r := (.iconst 0, 0, 0, 0)) rfl) ci_0).trans ?_
  refine (wp_s (n := 2) (zcode_of mc_25 (r := (.istore_n 1, 0, 0, 0)) rfl) rfl rfl).trans ?_
  refine (wp_ic (n' := 3) rfl (zcode_of mc_25 (r := (.iconst 0, 0, 0, 0)) rfl) ci_0).trans ?_
  refine (wp_s (n := 4) (zcode_of mc_25 (r := (.istore_n 2, 0, 0, 0)) rfl) rfl rfl).trans ?_
  exact Iff.rfl
theorem b25_4 {σ : zSt} {P : Option Value → zSt → Prop} {a0 : Nat} {x1 x2 : Int32} :
    wp 25 4 [some (.ref a0), some (.int x1), some (.int x2)] [] σ P ↔ (zIs σ a0 2 ∧ (if (zfi σ 2 1 a0) ≤ x2 then wp 25 47 [some (.ref a0), some (.int x1), some (.int x2)] [] σ P else wp 25 12 [some (.ref a0), some (.int x1), some (.int x2)] [] σ P)) := by
  refine (wp_s (n := 5) (zcode_of mc_25 (r := (.iload_n 2, 0, 0, 0)) rfl) rfl rfl).trans ?_
  refine (wp_s (n := 6) (zcode_of mc_25 (r := (.aload_n 0, 0, 0, 0)) rfl) rfl rfl).trans ?_
  refine (wc_is (zcode_of mc_25 (r := (.getfield 15, 2, 1, 0)) rfl)).trans (and_congr_right fun h1 => ?_)
  refine (wc_getI (n' := 9) rfl (zcode_of mc_25 (r := (.getfield 15, 2, 1, 0)) rfl) rfl h1).trans ?_
  exact wp_jump (off := 38) (t := 47) (zcode_of mc_25 (r := (.if_icmp .ge 38, 0, 0, 0)) rfl) rfl rfl (by decide)
theorem b25_12 {σ : zSt} {P : Option Value → zSt → Prop} (hC : CShape σ) {a0 : Nat} {x1 x2 : Int32} :
    wp 25 12 [some (.ref a0), some (.int x1), some (.int x2)] [] σ P ↔ (zIs σ a0 2 ∧ (zIn x2 64 ∧ wpM 26 [.ref a0, .int x1, .int (zai σ 1 (a0 + 1) (Int32.toNatClampNeg x2))] σ (fun r τ => wp 25 23 [some (.ref a0), some (.int x1), some (.int x2)] (r.toList ++ []) τ P))) := by
  refine (wp_s (n := 13) (zcode_of mc_25 (r := (.aload_n 0, 0, 0, 0)) rfl) rfl rfl).trans ?_
  refine (wp_s (n := 14) (zcode_of mc_25 (r := (.iload_n 1, 0, 0, 0)) rfl) rfl rfl).trans ?_
  refine (wp_s (n := 15) (zcode_of mc_25 (r := (.aload_n 0, 0, 0, 0)) rfl) rfl rfl).trans ?_
  refine (wc_is (zcode_of mc_25 (r := (.getfield 9, 2, 0, 0)) rfl)).trans (and_congr_right fun h1 => ?_)
  refine (wc_getR (n' := 18) (d := 1) rfl (zcode_of mc_25 (r := (.getfield 9, 2, 0, 0)) rfl) rfl hC le_2_0 rfl rfl rfl h1).trans ?_
  refine (wp_s (n := 19) (zcode_of mc_25 (r := (.iload_n 2, 0, 0, 0)) rfl) rfl rfl).trans ?_
  refine (wc_ld (n' := 20) rfl (zcode_of mc_25 (r := (.iaload, 0, 0, 0)) rfl) (cs_T hC le_2_0 h1) rfl).trans (and_congr_right fun h2 => ?_)
  exact wp_call (q := ([.ref a0, .int x1, .int (zai σ 1 (a0 + 1) (Int32.toNatClampNeg x2))], [])) (zcode_of mc_25 (r := (.invokevirtual 26, 26, 0, 2)) rfl) rfl (zCa_V (Nat.le_of_ble_eq_true rfl) rfl h1) ⟨Nat.le_of_ble_eq_true rfl, Nat.le_of_ble_eq_true rfl⟩
theorem b25_23 {σ : zSt} {P : Option Value → zSt → Prop} {a0 : Nat} {x1 x2 s0 : Int32} :
    wp 25 23 [some (.ref a0), some (.int x1), some (.int x2)] [.int s0] σ P ↔ (if ¬ s0 = 0 then wp 25 41 [some (.ref a0), some (.int x1), some (.int x2)] [] σ P else wp 25 26 [some (.ref a0), some (.int x1), some (.int x2)] [] σ P) := by
  exact wp_jump (off := 18) (t := 41) (zcode_of mc_25 (r := (.ifCond .ne 18, 0, 0, 0)) rfl) rfl rfl (by decide)
theorem b25_26 {σ : zSt} {P : Option Value → zSt → Prop} (hC : CShape σ) {a0 : Nat} {x1 x2 : Int32} :
    wp 25 26 [some (.ref a0), some (.int x1), some (.int x2)] [] σ P ↔ (zIs σ a0 2 ∧ (zIn x2 64 ∧ (zIn x1 64 ∧ wp 25 41 [some (.ref a0), some (.int (x1 + 1)), some (.int x2)] [] (sai σ 1 (a0 + 1) (Int32.toNatClampNeg x1) (zai σ 1 (a0 + 1) (Int32.toNatClampNeg x2))) P))) := by
  refine (wp_s (n := 27) (zcode_of mc_25 (r := (.aload_n 0, 0, 0, 0)) rfl) rfl rfl).trans ?_
  refine (wc_is (zcode_of mc_25 (r := (.getfield 9, 2, 0, 0)) rfl)).trans (and_congr_right fun h1 => ?_)
  refine (wc_getR (n' := 30) (d := 1) rfl (zcode_of mc_25 (r := (.getfield 9, 2, 0, 0)) rfl) rfl hC le_2_0 rfl rfl rfl h1).trans ?_
  refine (wp_s (n := 31) (zcode_of mc_25 (r := (.iload_n 1, 0, 0, 0)) rfl) rfl rfl).trans ?_
  refine (wp_s (n := 32) (zcode_of mc_25 (r := (.aload_n 0, 0, 0, 0)) rfl) rfl rfl).trans ?_
  refine (wc_getR (n' := 35) (d := 1) rfl (zcode_of mc_25 (r := (.getfield 9, 2, 0, 0)) rfl) rfl hC le_2_0 rfl rfl rfl h1).trans ?_
  refine (wp_s (n := 36) (zcode_of mc_25 (r := (.iload_n 2, 0, 0, 0)) rfl) rfl rfl).trans ?_
  refine (wc_ld (n' := 37) rfl (zcode_of mc_25 (r := (.iaload, 0, 0, 0)) rfl) (cs_T hC le_2_0 h1) rfl).trans (and_congr_right fun h2 => ?_)
  refine (wc_st (n' := 38) rfl (zcode_of mc_25 (r := (.iastore, 0, 0, 0)) rfl) (cs_T hC le_2_0 h1) rfl).trans (and_congr_right fun h3 => ?_)
  refine (wp_inc (n' := 41) rfl (zcode_of mc_25 (r := (.iinc 1 1, 0, 0, 0)) rfl) rfl rfl ci_1).trans ?_
  exact Iff.rfl
theorem b25_41 {σ : zSt} {P : Option Value → zSt → Prop} {a0 : Nat} {x1 x2 : Int32} :
    wp 25 41 [some (.ref a0), some (.int x1), some (.int x2)] [] σ P ↔ wp 25 4 [some (.ref a0), some (.int x1), some (.int (x2 + 1))] [] σ P := by
  refine (wp_inc (n' := 44) rfl (zcode_of mc_25 (r := (.iinc 2 1, 0, 0, 0)) rfl) rfl rfl ci_1).trans ?_
  exact wp_goto (off := (-40)) (t := 4) (zcode_of mc_25 (r := (.goto (-40), 0, 0, 0)) rfl) (by decide)
theorem b25_47 {σ : zSt} {P : Option Value → zSt → Prop} {a0 : Nat} {x1 x2 : Int32} :
    wp 25 47 [some (.ref a0), some (.int x1), some (.int x2)] [] σ P ↔ (zIs σ a0 2 ∧ P none (sfi σ 2 1 a0 x1)) := by
  refine (wp_s (n := 48) (zcode_of mc_25 (r := (.aload_n 0, 0, 0, 0)) rfl) rfl rfl).trans ?_
  refine (wp_s (n := 49) (zcode_of mc_25 (r := (.iload_n 1, 0, 0, 0)) rfl) rfl rfl).trans ?_
  refine (wc_isP (zcode_of mc_25 (r := (.putfield 15, 2, 1, 0)) rfl)).trans (and_congr_right fun h1 => ?_)
  refine (wc_putI (n' := 52) rfl (zcode_of mc_25 (r := (.putfield 15, 2, 1, 0)) rfl) rfl h1).trans ?_
  exact wp_retV (zcode_of mc_25 (r := (.return_, 0, 0, 0)) rfl) rfl
theorem mc_26 : mCode 26 = zc_26 := rfl
theorem b26 {σ : zSt} {P : Option Value → zSt → Prop} {a0 : Nat} {x1 x2 : Int32} :
    wpM 26 [.ref a0, .int x1, .int x2] σ P ↔ wp 26 2 [some (.ref a0), some (.int x1), some (.int x2), some (.int 0)] [] σ P := by
  show wp 26 0 [some (.ref a0), some (.int x1), some (.int x2), none] [] σ P ↔ _
  refine (wp_ic (n' := 1) rfl (zcode_of mc_26 (r := (.iconst 0, 0, 0, 0)) rfl) ci_0).trans ?_
  refine (wp_s (n := 2) (zcode_of mc_26 (r := (.istore_n 3, 0, 0, 0)) rfl) rfl rfl).trans ?_
  exact Iff.rfl
theorem b26_2 {σ : zSt} {P : Option Value → zSt → Prop} {a0 : Nat} {x1 x2 x3 : Int32} :
    wp 26 2 [some (.ref a0), some (.int x1), some (.int x2), some (.int x3)] [] σ P ↔ (if x1 ≤ x3 then wp 26 25 [some (.ref a0), some (.int x1), some (.int x2), some (.int x3)] [] σ P else wp 26 7 [some (.ref a0), some (.int x1), some (.int x2), some (.int x3)] [] σ P) := by
  refine (wp_s (n := 3) (zcode_of mc_26 (r := (.iload_n 3, 0, 0, 0)) rfl) rfl rfl).trans ?_
  refine (wp_s (n := 4) (zcode_of mc_26 (r := (.iload_n 1, 0, 0, 0)) rfl) rfl rfl).trans ?_
  exact wp_jump (off := 21) (t := 25) (zcode_of mc_26 (r := (.if_icmp .ge 21, 0, 0, 0)) rfl) rfl rfl (by decide)
theorem b26_7 {σ : zSt} {P : Option Value → zSt → Prop} (hC : CShape σ) {a0 : Nat} {x1 x2 x3 : Int32} :
    wp 26 7 [some (.ref a0), some (.int x1), some (.int x2), some (.int x3)] [] σ P ↔ (zIs σ a0 2 ∧ (zIn x3 64 ∧ (if ¬ (zai σ 1 (a0 + 1) (Int32.toNatClampNeg x3)) = x2 then wp 26 19 [some (.ref a0), some (.int x1), some (.int x2), some (.int x3)] [] σ P else wp 26 17 [some (.ref a0), some (.int x1), some (.int x2), some (.int x3)] [] σ P))) := by
  refine (wp_s (n := 8) (zcode_of mc_26 (r := (.aload_n 0, 0, 0, 0)) rfl) rfl rfl).trans ?_
  refine (wc_is (zcode_of mc_26 (r := (.getfield 9, 2, 0, 0)) rfl)).trans (and_congr_right fun h1 => ?_)
  refine (wc_getR (n' := 11) (d := 1) rfl (zcode_of mc_26 (r := (.getfield 9, 2, 0, 0)) rfl) rfl hC le_2_0 rfl rfl rfl h1).trans ?_
  refine (wp_s (n := 12) (zcode_of mc_26 (r := (.iload_n 3, 0, 0, 0)) rfl) rfl rfl).trans ?_
  refine (wc_ld (n' := 13) rfl (zcode_of mc_26 (r := (.iaload, 0, 0, 0)) rfl) (cs_T hC le_2_0 h1) rfl).trans (and_congr_right fun h2 => ?_)
  refine (wp_s (n := 14) (zcode_of mc_26 (r := (.iload_n 2, 0, 0, 0)) rfl) rfl rfl).trans ?_
  exact wp_jump (off := 5) (t := 19) (zcode_of mc_26 (r := (.if_icmp .ne 5, 0, 0, 0)) rfl) rfl rfl (by decide)
theorem b26_17 {σ : zSt} {P : Option Value → zSt → Prop} {a0 : Nat} {x1 x2 x3 : Int32} :
    wp 26 17 [some (.ref a0), some (.int x1), some (.int x2), some (.int x3)] [] σ P ↔ (((1 : Int32) = 0 ∨ (1 : Int32) = 1) ∧ P (some (.int 1)) σ) := by
  refine (wp_ic (n' := 18) rfl (zcode_of mc_26 (r := (.iconst 1, 0, 0, 0)) rfl) ci_1).trans ?_
  exact wp_retZ (zcode_of mc_26 (r := (.ireturn, 0, 0, 0)) rfl) rfl
theorem b26_19 {σ : zSt} {P : Option Value → zSt → Prop} {a0 : Nat} {x1 x2 x3 : Int32} :
    wp 26 19 [some (.ref a0), some (.int x1), some (.int x2), some (.int x3)] [] σ P ↔ wp 26 2 [some (.ref a0), some (.int x1), some (.int x2), some (.int (x3 + 1))] [] σ P := by
  refine (wp_inc (n' := 22) rfl (zcode_of mc_26 (r := (.iinc 3 1, 0, 0, 0)) rfl) rfl rfl ci_1).trans ?_
  exact wp_goto (off := (-20)) (t := 2) (zcode_of mc_26 (r := (.goto (-20), 0, 0, 0)) rfl) (by decide)
theorem b26_25 {σ : zSt} {P : Option Value → zSt → Prop} {a0 : Nat} {x1 x2 x3 : Int32} :
    wp 26 25 [some (.ref a0), some (.int x1), some (.int x2), some (.int x3)] [] σ P ↔ (((0 : Int32) = 0 ∨ (0 : Int32) = 1) ∧ P (some (.int 0)) σ) := by
  refine (wp_ic (n' := 26) rfl (zcode_of mc_26 (r := (.iconst 0, 0, 0, 0)) rfl) ci_0).trans ?_
  exact wp_retZ (zcode_of mc_26 (r := (.ireturn, 0, 0, 0)) rfl) rfl
theorem mc_27 : mCode 27 = zc_27 := rfl
theorem b27 {σ : zSt} {P : Option Value → zSt → Prop} {a0 : Nat} {x1 : Int32} :
    wpM 27 [.ref a0, .int x1] σ P ↔ wp 27 2 [some (.ref a0), some (.int x1), some (.int 0)] [] σ P := by
  show wp 27 0 [some (.ref a0), some (.int x1), none] [] σ P ↔ _
  refine (wp_ic (n' := 1) rfl (zcode_of mc_27 (r := (.iconst 0, 0, 0, 0)) rfl) ci_0).trans ?_
  refine (wp_s (n := 2) (zcode_of mc_27 (r := (.istore_n 2, 0, 0, 0)) rfl) rfl rfl).trans ?_
  exact Iff.rfl
theorem b27_2 {σ : zSt} {P : Option Value → zSt → Prop} {a0 : Nat} {x1 x2 : Int32} :
    wp 27 2 [some (.ref a0), some (.int x1), some (.int x2)] [] σ P ↔ (zIs σ a0 2 ∧ (if (zfi σ 2 1 a0) ≤ x2 then wp 27 26 [some (.ref a0), some (.int x1), some (.int x2)] [] σ P else wp 27 10 [some (.ref a0), some (.int x1), some (.int x2)] [] σ P)) := by
  refine (wp_s (n := 3) (zcode_of mc_27 (r := (.iload_n 2, 0, 0, 0)) rfl) rfl rfl).trans ?_
  refine (wp_s (n := 4) (zcode_of mc_27 (r := (.aload_n 0, 0, 0, 0)) rfl) rfl rfl).trans ?_
  refine (wc_is (zcode_of mc_27 (r := (.getfield 15, 2, 1, 0)) rfl)).trans (and_congr_right fun h1 => ?_)
  refine (wc_getI (n' := 7) rfl (zcode_of mc_27 (r := (.getfield 15, 2, 1, 0)) rfl) rfl h1).trans ?_
  exact wp_jump (off := 19) (t := 26) (zcode_of mc_27 (r := (.if_icmp .ge 19, 0, 0, 0)) rfl) rfl rfl (by decide)
theorem b27_10 {σ : zSt} {P : Option Value → zSt → Prop} (hC : CShape σ) {a0 : Nat} {x1 x2 : Int32} :
    wp 27 10 [some (.ref a0), some (.int x1), some (.int x2)] [] σ P ↔ (zIs σ a0 2 ∧ (zIn x2 64 ∧ (zIn x2 64 ∧ wp 27 2 [some (.ref a0), some (.int x1), some (.int (x2 + 1))] [] (sai σ 1 (a0 + 1) (Int32.toNatClampNeg x2) ((zai σ 1 (a0 + 1) (Int32.toNatClampNeg x2)) ^^^ x1)) P))) := by
  refine (wp_s (n := 11) (zcode_of mc_27 (r := (.aload_n 0, 0, 0, 0)) rfl) rfl rfl).trans ?_
  refine (wc_is (zcode_of mc_27 (r := (.getfield 9, 2, 0, 0)) rfl)).trans (and_congr_right fun h1 => ?_)
  refine (wc_getR (n' := 14) (d := 1) rfl (zcode_of mc_27 (r := (.getfield 9, 2, 0, 0)) rfl) rfl hC le_2_0 rfl rfl rfl h1).trans ?_
  refine (wp_s (n := 15) (zcode_of mc_27 (r := (.iload_n 2, 0, 0, 0)) rfl) rfl rfl).trans ?_
  refine (wp_s (n := 16) (zcode_of mc_27 (r := (.dup2, 0, 0, 0)) rfl) rfl rfl).trans ?_
  refine (wc_ld (n' := 17) rfl (zcode_of mc_27 (r := (.iaload, 0, 0, 0)) rfl) (cs_T hC le_2_0 h1) rfl).trans (and_congr_right fun h2 => ?_)
  refine (wp_s (n := 18) (zcode_of mc_27 (r := (.iload_n 1, 0, 0, 0)) rfl) rfl rfl).trans ?_
  refine (wp_s (n := 19) (zcode_of mc_27 (r := (.ixor, 0, 0, 0)) rfl) rfl rfl).trans ?_
  refine (wc_st (n' := 20) rfl (zcode_of mc_27 (r := (.iastore, 0, 0, 0)) rfl) (cs_T hC le_2_0 h1) rfl).trans (and_congr_right fun h3 => ?_)
  refine (wp_inc (n' := 23) rfl (zcode_of mc_27 (r := (.iinc 2 1, 0, 0, 0)) rfl) rfl rfl ci_1).trans ?_
  exact wp_goto (off := (-21)) (t := 2) (zcode_of mc_27 (r := (.goto (-21), 0, 0, 0)) rfl) (by decide)
theorem b27_26 {σ : zSt} {P : Option Value → zSt → Prop} {a0 : Nat} {x1 x2 : Int32} :
    wp 27 26 [some (.ref a0), some (.int x1), some (.int x2)] [] σ P ↔ P none σ := by
  exact wp_retV (zcode_of mc_27 (r := (.return_, 0, 0, 0)) rfl) rfl
theorem mc_28 : mCode 28 = zc_28 := rfl
theorem b28 {σ : zSt} {P : Option Value → zSt → Prop} {a0 : Nat} :
    wpM 28 [.ref a0] σ P ↔ wp 28 8 [some (.ref a0)] [.ref (znx σ), .ref a0] (zNew σ 5) P := by
  show wp 28 0 [some (.ref a0)] [] σ P ↔ _
  refine (wp_s (n := 1) (zcode_of mc_28 (r := (.aload_n 0, 0, 0, 0)) rfl) rfl rfl).trans ?_
  refine (wc_oi (n' := 4) rfl (zcode_of mc_28 (r := (.invokespecial 1, 0, 5, 0)) rfl) (Nat.le_of_ble_eq_true rfl)).trans ?_
  refine (wp_s (n := 5) (zcode_of mc_28 (r := (.aload_n 0, 0, 0, 0)) rfl) rfl rfl).trans ?_
  refine (wc_new (n' := 8) rfl (zcode_of mc_28 (r := (.new 7, 5, 0, 0)) rfl)).trans ?_
  exact Iff.rfl
theorem b28_8 {σ : zSt} {P : Option Value → zSt → Prop} {a0 s0 s1 : Nat} :
    wp 28 8 [some (.ref a0)] [.ref s0, .ref s1] σ P ↔ wpM 41 [.ref s0] σ (fun r τ => wp 28 12 [some (.ref a0)] (r.toList ++ [.ref s0, .ref s1]) τ P) := by
  refine (wp_s (n := 9) (zcode_of mc_28 (r := (.dup, 0, 0, 0)) rfl) rfl rfl).trans ?_
  exact wp_call (q := ([.ref s0], [.ref s0, .ref s1])) (zcode_of mc_28 (r := (.invokespecial 9, 41, 3, 0)) rfl) rfl (zCa_I (Nat.le_of_ble_eq_true rfl) rfl (Or.inr rfl)) ⟨Nat.le_of_ble_eq_true rfl, Nat.le_of_ble_eq_true rfl⟩
theorem b28_12 {σ : zSt} {P : Option Value → zSt → Prop} {a0 s0 s1 : Nat} :
    wp 28 12 [some (.ref a0)] [.ref s0, .ref s1] σ P ↔ (zIs σ s1 3 ∧ wp 28 19 [some (.ref a0)] [.ref (znx (sfr σ 3 0 s1 (some s0))), .ref a0] (zNew (sfr σ 3 0 s1 (some s0)) 7) P) := by
  refine (wc_isP (zcode_of mc_28 (r := (.putfield 10, 3, 0, 0)) rfl)).trans (and_congr_right fun h1 => ?_)
  refine (wc_putR (n' := 15) rfl (zcode_of mc_28 (r := (.putfield 10, 3, 0, 0)) rfl) rfl h1).trans ?_
  refine (wp_s (n := 16) (zcode_of mc_28 (r := (.aload_n 0, 0, 0, 0)) rfl) rfl rfl).trans ?_
  refine (wc_new (σ := sfr σ 3 0 s1 (some s0)) (n' := 19) rfl (zcode_of mc_28 (r := (.new 16, 7, 0, 0)) rfl)).trans ?_
  exact Iff.rfl
theorem b28_19 {σ : zSt} {P : Option Value → zSt → Prop} {a0 s0 s1 : Nat} :
    wp 28 19 [some (.ref a0)] [.ref s0, .ref s1] σ P ↔ wpM 56 [.ref s0] σ (fun r τ => wp 28 23 [some (.ref a0)] (r.toList ++ [.ref s0, .ref s1]) τ P) := by
  refine (wp_s (n := 20) (zcode_of mc_28 (r := (.dup, 0, 0, 0)) rfl) rfl rfl).trans ?_
  exact wp_call (q := ([.ref s0], [.ref s0, .ref s1])) (zcode_of mc_28 (r := (.invokespecial 18, 56, 2, 0)) rfl) rfl (zCa_I (Nat.le_of_ble_eq_true rfl) rfl (Or.inl rfl)) ⟨Nat.le_of_ble_eq_true rfl, Nat.le_of_ble_eq_true rfl⟩
theorem b28_23 {σ : zSt} {P : Option Value → zSt → Prop} {a0 s0 s1 : Nat} :
    wp 28 23 [some (.ref a0)] [.ref s0, .ref s1] σ P ↔ (zIs σ s1 3 ∧ (zIs σ a0 3 ∧ P none (sfi (sfl (sfr σ 3 1 s1 (some s0)) 3 2 a0 0) 3 3 a0 0))) := by
  refine (wc_isP (zcode_of mc_28 (r := (.putfield 19, 3, 1, 0)) rfl)).trans (and_congr_right fun h1 => ?_)
  refine (wc_putR (n' := 26) rfl (zcode_of mc_28 (r := (.putfield 19, 3, 1, 0)) rfl) rfl h1).trans ?_
  refine (wp_s (n := 27) (zcode_of mc_28 (r := (.aload_n 0, 0, 0, 0)) rfl) rfl rfl).trans ?_
  refine (wp_lc (n' := 28) rfl (zcode_of mc_28 (r := (.lconst 0, 0, 0, 0)) rfl) cc_0).trans ?_
  refine (wc_isP (σ := sfr σ 3 1 s1 (some s0)) (zcode_of mc_28 (r := (.putfield 23, 3, 2, 0)) rfl)).trans (and_congr_right fun h2 => ?_)
  refine (wc_putL (σ := sfr σ 3 1 s1 (some s0)) (n' := 31) rfl (zcode_of mc_28 (r := (.putfield 23, 3, 2, 0)) rfl) rfl h2).trans ?_
  refine (wp_s (n := 32) (zcode_of mc_28 (r := (.aload_n 0, 0, 0, 0)) rfl) rfl rfl).trans ?_
  refine (wp_ic (n' := 33) rfl (zcode_of mc_28 (r := (.iconst 0, 0, 0, 0)) rfl) ci_0).trans ?_
  refine (wc_putI (σ := sfl (sfr σ 3 1 s1 (some s0)) 3 2 a0 0) (n' := 36) rfl (zcode_of mc_28 (r := (.putfield 27, 3, 3, 0)) rfl) rfl h2).trans ?_
  exact wp_retV (zcode_of mc_28 (r := (.return_, 0, 0, 0)) rfl) rfl
theorem mc_29 : mCode 29 = zc_29 := rfl
theorem b29 {σ : zSt} {P : Option Value → zSt → Prop} (hC : CShape σ) {a0 a1 : Nat} :
    wpM 29 [.ref a0, .ref a1] σ P ↔ (zIs σ a0 3 ∧ wpM 47 [.ref (a0 + 1), .ref a1] σ (fun r τ => wp 29 8 [some (.ref a0), some (.ref a1)] (r.toList ++ []) τ P)) := by
  show wp 29 0 [some (.ref a0), some (.ref a1)] [] σ P ↔ _
  refine (wp_s (n := 1) (zcode_of mc_29 (r := (.aload_n 0, 0, 0, 0)) rfl) rfl rfl).trans ?_
  refine (wc_is (zcode_of mc_29 (r := (.getfield 10, 3, 0, 0)) rfl)).trans (and_congr_right fun h1 => ?_)
  refine (wc_getR (n' := 4) (d := 1) rfl (zcode_of mc_29 (r := (.getfield 10, 3, 0, 0)) rfl) rfl hC le_3_0 rfl rfl rfl h1).trans ?_
  refine (wp_s (n := 5) (zcode_of mc_29 (r := (.aload_n 1, 0, 0, 0)) rfl) rfl rfl).trans ?_
  exact wp_call (q := ([.ref (a0 + 1), .ref a1], [])) (zcode_of mc_29 (r := (.invokevirtual 31, 47, 0, 1)) rfl) rfl (zCa_V (Nat.le_of_ble_eq_true rfl) rfl (zIs_of (cs_T hC le_3_0 h1))) ⟨Nat.le_of_ble_eq_true rfl, Nat.le_of_ble_eq_true rfl⟩
theorem b29_8 {σ : zSt} {P : Option Value → zSt → Prop} {a0 a1 : Nat} :
    wp 29 8 [some (.ref a0), some (.ref a1)] [] σ P ↔ (zIs σ a1 5 ∧ wpM 48 [.ref a1] σ (fun r τ => wp 29 13 [some (.ref a0), some (.ref a1)] (r.toList ++ [.ref a0]) τ P)) := by
  refine (wp_s (n := 9) (zcode_of mc_29 (r := (.aload_n 0, 0, 0, 0)) rfl) rfl rfl).trans ?_
  refine (wp_s (n := 10) (zcode_of mc_29 (r := (.aload_n 1, 0, 0, 0)) rfl) rfl rfl).trans ?_
  refine (wc_isV (cl := 5) (rest := [.ref a0]) (zcode_of mc_29 (r := (.invokevirtual 35, 48, 0, 0)) rfl) rfl rfl rfl).trans (and_congr_right fun h1 => ?_)
  exact wp_call (q := ([.ref a1], [.ref a0])) (zcode_of mc_29 (r := (.invokevirtual 35, 48, 0, 0)) rfl) rfl (zCa_V (Nat.le_of_ble_eq_true rfl) rfl h1) ⟨Nat.le_of_ble_eq_true rfl, Nat.le_of_ble_eq_true rfl⟩
theorem b29_13 {σ : zSt} {P : Option Value → zSt → Prop} {a0 a1 s1 : Nat} {s0 : Int64} :
    wp 29 13 [some (.ref a0), some (.ref a1)] [.long s0, .ref s1] σ P ↔ (zIs σ s1 3 ∧ (zIs σ a0 3 ∧ P none (sfi (sfl σ 3 2 s1 s0) 3 3 a0 0))) := by
  refine (wc_isP (zcode_of mc_29 (r := (.putfield 23, 3, 2, 0)) rfl)).trans (and_congr_right fun h1 => ?_)
  refine (wc_putL (n' := 16) rfl (zcode_of mc_29 (r := (.putfield 23, 3, 2, 0)) rfl) rfl h1).trans ?_
  refine (wp_s (n := 17) (zcode_of mc_29 (r := (.aload_n 0, 0, 0, 0)) rfl) rfl rfl).trans ?_
  refine (wp_ic (n' := 18) rfl (zcode_of mc_29 (r := (.iconst 0, 0, 0, 0)) rfl) ci_0).trans ?_
  refine (wc_isP (σ := sfl σ 3 2 s1 s0) (zcode_of mc_29 (r := (.putfield 27, 3, 3, 0)) rfl)).trans (and_congr_right fun h2 => ?_)
  refine (wc_putI (σ := sfl σ 3 2 s1 s0) (n' := 21) rfl (zcode_of mc_29 (r := (.putfield 27, 3, 3, 0)) rfl) rfl h2).trans ?_
  exact wp_retV (zcode_of mc_29 (r := (.return_, 0, 0, 0)) rfl) rfl
theorem mc_30 : mCode 30 = zc_30 := rfl
theorem b30 {σ : zSt} {P : Option Value → zSt → Prop} {a0 : Nat} :
    wpM 30 [.ref a0] σ P ↔ wp 30 8 [some (.ref a0)] [.ref (znx σ), .ref a0] (zNew σ 13) P := by
  show wp 30 0 [some (.ref a0)] [] σ P ↔ _
  refine (wp_s (n := 1) (zcode_of mc_30 (r := (.aload_n 0, 0, 0, 0)) rfl) rfl rfl).trans ?_
  refine (wc_oi (n' := 4) rfl (zcode_of mc_30 (r := (.invokespecial 3, 0, 5, 0)) rfl) (Nat.le_of_ble_eq_true rfl)).trans ?_
  refine (wp_s (n := 5) (zcode_of mc_30 (r := (.aload_n 0, 0, 0, 0)) rfl) rfl rfl).trans ?_
  refine (wc_new (n' := 8) rfl (zcode_of mc_30 (r := (.new 9, 13, 0, 0)) rfl)).trans ?_
  exact Iff.rfl
theorem b30_8 {σ : zSt} {P : Option Value → zSt → Prop} {a0 s0 s1 : Nat} :
    wp 30 8 [some (.ref a0)] [.ref s0, .ref s1] σ P ↔ wpM 184 [.ref s0] σ (fun r τ => wp 30 12 [some (.ref a0)] (r.toList ++ [.ref s0, .ref s1]) τ P) := by
  refine (wp_s (n := 9) (zcode_of mc_30 (r := (.dup, 0, 0, 0)) rfl) rfl rfl).trans ?_
  exact wp_call (q := ([.ref s0], [.ref s0, .ref s1])) (zcode_of mc_30 (r := (.invokespecial 11, 184, 2, 0)) rfl) rfl (zCa_I (Nat.le_of_ble_eq_true rfl) rfl (Or.inl rfl)) ⟨Nat.le_of_ble_eq_true rfl, Nat.le_of_ble_eq_true rfl⟩
theorem b30_12 {σ : zSt} {P : Option Value → zSt → Prop} {a0 s0 s1 : Nat} :
    wp 30 12 [some (.ref a0)] [.ref s0, .ref s1] σ P ↔ (zIs σ s1 4 ∧ P none (sfr σ 4 0 s1 (some s0))) := by
  refine (wc_isP (zcode_of mc_30 (r := (.putfield 12, 4, 0, 0)) rfl)).trans (and_congr_right fun h1 => ?_)
  refine (wc_putR (n' := 15) rfl (zcode_of mc_30 (r := (.putfield 12, 4, 0, 0)) rfl) rfl h1).trans ?_
  exact wp_retV (zcode_of mc_30 (r := (.return_, 0, 0, 0)) rfl) rfl
theorem mc_31 : mCode 31 = zc_31 := rfl
theorem b31 {σ : zSt} {P : Option Value → zSt → Prop} (hC : CShape σ) {a0 : Nat} :
    wpM 31 [.ref a0] σ P ↔ (zIs σ a0 4 ∧ wpM 187 [.ref (a0 + 1)] σ (fun r τ => wp 31 7 [some (.ref a0)] (r.toList ++ []) τ P)) := by
  show wp 31 0 [some (.ref a0)] [] σ P ↔ _
  refine (wp_s (n := 1) (zcode_of mc_31 (r := (.aload_n 0, 0, 0, 0)) rfl) rfl rfl).trans ?_
  refine (wc_is (zcode_of mc_31 (r := (.getfield 12, 4, 0, 0)) rfl)).trans (and_congr_right fun h1 => ?_)
  refine (wc_getR (n' := 4) (d := 1) rfl (zcode_of mc_31 (r := (.getfield 12, 4, 0, 0)) rfl) rfl hC le_4_0 rfl rfl rfl h1).trans ?_
  exact wp_call (q := ([.ref (a0 + 1)], [])) (zcode_of mc_31 (r := (.invokevirtual 18, 187, 0, 0)) rfl) rfl (zCa_V (Nat.le_of_ble_eq_true rfl) rfl (zIs_of (cs_T hC le_4_0 h1))) ⟨Nat.le_of_ble_eq_true rfl, Nat.le_of_ble_eq_true rfl⟩
theorem b31_7 {σ : zSt} {P : Option Value → zSt → Prop} {a0 : Nat} {s0 : Int32} :
    wp 31 7 [some (.ref a0)] [.int s0] σ P ↔ P (some (.int s0)) σ := by
  exact wp_retI (zcode_of mc_31 (r := (.ireturn, 0, 0, 0)) rfl) rfl
theorem mc_32 : mCode 32 = zc_32 := rfl
theorem b32 {σ : zSt} {P : Option Value → zSt → Prop} {a0 : Nat} {x1 : Int32} :
    wpM 32 [.ref a0, .int x1] σ P ↔ (if x1 < 0 then wp 32 19 [some (.ref a0), some (.int x1)] [] σ P else wp 32 4 [some (.ref a0), some (.int x1)] [] σ P) := by
  show wp 32 0 [some (.ref a0), some (.int x1)] [] σ P ↔ _
  refine (wp_s (n := 1) (zcode_of mc_32 (r := (.iload_n 1, 0, 0, 0)) rfl) rfl rfl).trans ?_
  exact wp_jump (off := 18) (t := 19) (zcode_of mc_32 (r := (.ifCond .lt 18, 0, 0, 0)) rfl) rfl rfl (by decide)
theorem b32_4 {σ : zSt} {P : Option Value → zSt → Prop} (hC : CShape σ) {a0 : Nat} {x1 : Int32} :
    wp 32 4 [some (.ref a0), some (.int x1)] [] σ P ↔ (zIs σ a0 4 ∧ wpM 187 [.ref (a0 + 1)] σ (fun r τ => wp 32 12 [some (.ref a0), some (.int x1)] (r.toList ++ [.int x1]) τ P)) := by
  refine (wp_s (n := 5) (zcode_of mc_32 (r := (.iload_n 1, 0, 0, 0)) rfl) rfl rfl).trans ?_
  refine (wp_s (n := 6) (zcode_of mc_32 (r := (.aload_n 0, 0, 0, 0)) rfl) rfl rfl).trans ?_
  refine (wc_is (zcode_of mc_32 (r := (.getfield 12, 4, 0, 0)) rfl)).trans (and_congr_right fun h1 => ?_)
  refine (wc_getR (n' := 9) (d := 1) rfl (zcode_of mc_32 (r := (.getfield 12, 4, 0, 0)) rfl) rfl hC le_4_0 rfl rfl rfl h1).trans ?_
  exact wp_call (q := ([.ref (a0 + 1)], [.int x1])) (zcode_of mc_32 (r := (.invokevirtual 18, 187, 0, 0)) rfl) rfl (zCa_V (Nat.le_of_ble_eq_true rfl) rfl (zIs_of (cs_T hC le_4_0 h1))) ⟨Nat.le_of_ble_eq_true rfl, Nat.le_of_ble_eq_true rfl⟩
theorem b32_12 {σ : zSt} {P : Option Value → zSt → Prop} {a0 : Nat} {x1 s0 s1 : Int32} :
    wp 32 12 [some (.ref a0), some (.int x1)] [.int s0, .int s1] σ P ↔ (if s0 ≤ s1 then wp 32 19 [some (.ref a0), some (.int x1)] [] σ P else wp 32 15 [some (.ref a0), some (.int x1)] [] σ P) := by
  exact wp_jump (off := 7) (t := 19) (zcode_of mc_32 (r := (.if_icmp .ge 7, 0, 0, 0)) rfl) rfl rfl (by decide)
theorem b32_15 {σ : zSt} {P : Option Value → zSt → Prop} {a0 : Nat} {x1 : Int32} :
    wp 32 15 [some (.ref a0), some (.int x1)] [] σ P ↔ wp 32 20 [some (.ref a0), some (.int x1)] [.int 1] σ P := by
  refine (wp_ic (n' := 16) rfl (zcode_of mc_32 (r := (.iconst 1, 0, 0, 0)) rfl) ci_1).trans ?_
  exact wp_goto (off := 4) (t := 20) (zcode_of mc_32 (r := (.goto 4, 0, 0, 0)) rfl) (by decide)
theorem b32_19 {σ : zSt} {P : Option Value → zSt → Prop} {a0 : Nat} {x1 : Int32} :
    wp 32 19 [some (.ref a0), some (.int x1)] [] σ P ↔ wp 32 20 [some (.ref a0), some (.int x1)] [.int 0] σ P := by
  refine (wp_ic (n' := 20) rfl (zcode_of mc_32 (r := (.iconst 0, 0, 0, 0)) rfl) ci_0).trans ?_
  exact Iff.rfl
theorem b32_20 {σ : zSt} {P : Option Value → zSt → Prop} {a0 : Nat} {x1 s0 : Int32} :
    wp 32 20 [some (.ref a0), some (.int x1)] [.int s0] σ P ↔ (((s0 : Int32) = 0 ∨ (s0 : Int32) = 1) ∧ P (some (.int s0)) σ) := by
  exact wp_retZ (zcode_of mc_32 (r := (.ireturn, 0, 0, 0)) rfl) rfl
theorem mc_33 : mCode 33 = zc_33 := rfl
theorem b33 {σ : zSt} {P : Option Value → zSt → Prop} (hC : CShape σ) {a0 : Nat} {x1 : Int32} :
    wpM 33 [.ref a0, .int x1] σ P ↔ (zIs σ a0 4 ∧ wpM 190 [.ref (a0 + 1), .int x1] σ (fun r τ => wp 33 8 [some (.ref a0), some (.int x1)] (r.toList ++ []) τ P)) := by
  show wp 33 0 [some (.ref a0), some (.int x1)] [] σ P ↔ _
  refine (wp_s (n := 1) (zcode_of mc_33 (r := (.aload_n 0, 0, 0, 0)) rfl) rfl rfl).trans ?_
  refine (wc_is (zcode_of mc_33 (r := (.getfield 12, 4, 0, 0)) rfl)).trans (and_congr_right fun h1 => ?_)
  refine (wc_getR (n' := 4) (d := 1) rfl (zcode_of mc_33 (r := (.getfield 12, 4, 0, 0)) rfl) rfl hC le_4_0 rfl rfl rfl h1).trans ?_
  refine (wp_s (n := 5) (zcode_of mc_33 (r := (.iload_n 1, 0, 0, 0)) rfl) rfl rfl).trans ?_
  exact wp_call (q := ([.ref (a0 + 1), .int x1], [])) (zcode_of mc_33 (r := (.invokevirtual 22, 190, 0, 1)) rfl) rfl (zCa_V (Nat.le_of_ble_eq_true rfl) rfl (zIs_of (cs_T hC le_4_0 h1))) ⟨Nat.le_of_ble_eq_true rfl, Nat.le_of_ble_eq_true rfl⟩
theorem b33_8 {σ : zSt} {P : Option Value → zSt → Prop} {a0 s0 : Nat} {x1 : Int32} :
    wp 33 8 [some (.ref a0), some (.int x1)] [.ref s0] σ P ↔ (zIs σ s0 0 ∧ P (some (.ref s0)) σ) := by
  refine (wc_chk (n' := 11) rfl (zcode_of mc_33 (r := (.checkcast 26, 0, 0, 0)) rfl)).trans (and_congr_right fun h1 => ?_)
  exact wp_retA (zcode_of mc_33 (r := (.areturn, 0, 0, 0)) rfl) rfl
theorem mc_34 : mCode 34 = zc_34 := rfl
theorem b34 {σ : zSt} {P : Option Value → zSt → Prop} (hC : CShape σ) {a0 : Nat} :
    wpM 34 [.ref a0] σ P ↔ (zIs σ a0 4 ∧ wp 34 7 [some (.ref a0)] [.ref (znx σ), .ref (a0 + 1)] (zNew σ 0) P) := by
  show wp 34 0 [some (.ref a0)] [] σ P ↔ _
  refine (wp_s (n := 1) (zcode_of mc_34 (r := (.aload_n 0, 0, 0, 0)) rfl) rfl rfl).trans ?_
  refine (wc_is (zcode_of mc_34 (r := (.getfield 12, 4, 0, 0)) rfl)).trans (and_congr_right fun h1 => ?_)
  refine (wc_getR (n' := 4) (d := 1) rfl (zcode_of mc_34 (r := (.getfield 12, 4, 0, 0)) rfl) rfl hC le_4_0 rfl rfl rfl h1).trans ?_
  refine (wc_new (n' := 7) rfl (zcode_of mc_34 (r := (.new 26, 0, 0, 0)) rfl)).trans ?_
  exact Iff.rfl
theorem b34_7 {σ : zSt} {P : Option Value → zSt → Prop} {a0 s0 s1 : Nat} :
    wp 34 7 [some (.ref a0)] [.ref s0, .ref s1] σ P ↔ wpM 0 [.ref s0] σ (fun r τ => wp 34 11 [some (.ref a0)] (r.toList ++ [.ref s0, .ref s1]) τ P) := by
  refine (wp_s (n := 8) (zcode_of mc_34 (r := (.dup, 0, 0, 0)) rfl) rfl rfl).trans ?_
  exact wp_call (q := ([.ref s0], [.ref s0, .ref s1])) (zcode_of mc_34 (r := (.invokespecial 28, 0, 2, 0)) rfl) rfl (zCa_I (Nat.le_of_ble_eq_true rfl) rfl (Or.inl rfl)) ⟨Nat.le_of_ble_eq_true rfl, Nat.le_of_ble_eq_true rfl⟩
theorem b34_11 {σ : zSt} {P : Option Value → zSt → Prop} {a0 s0 s1 : Nat} :
    wp 34 11 [some (.ref a0)] [.ref s0, .ref s1] σ P ↔ (zIs σ s1 13 ∧ wpM 192 [.ref s1, .ref s0] σ (fun r τ => wp 34 14 [some (.ref a0)] (r.toList ++ []) τ P)) := by
  refine (wc_isV (cl := 13) (rest := []) (zcode_of mc_34 (r := (.invokevirtual 29, 192, 0, 1)) rfl) rfl rfl rfl).trans (and_congr_right fun h1 => ?_)
  exact wp_call (q := ([.ref s1, .ref s0], [])) (zcode_of mc_34 (r := (.invokevirtual 29, 192, 0, 1)) rfl) rfl (zCa_V (Nat.le_of_ble_eq_true rfl) rfl h1) ⟨Nat.le_of_ble_eq_true rfl, Nat.le_of_ble_eq_true rfl⟩
theorem b34_14 {σ : zSt} {P : Option Value → zSt → Prop} (hC : CShape σ) {a0 : Nat} {s0 : Int32} :
    wp 34 14 [some (.ref a0)] [.int s0] σ P ↔ (zIs σ a0 4 ∧ wpM 187 [.ref (a0 + 1)] σ (fun r τ => wp 34 22 [some (.ref a0)] (r.toList ++ []) τ P)) := by
  refine (wp_s (n := 15) (zcode_of mc_34 (r := (.pop, 0, 0, 0)) rfl) rfl rfl).trans ?_
  refine (wp_s (n := 16) (zcode_of mc_34 (r := (.aload_n 0, 0, 0, 0)) rfl) rfl rfl).trans ?_
  refine (wc_is (zcode_of mc_34 (r := (.getfield 12, 4, 0, 0)) rfl)).trans (and_congr_right fun h1 => ?_)
  refine (wc_getR (n' := 19) (d := 1) rfl (zcode_of mc_34 (r := (.getfield 12, 4, 0, 0)) rfl) rfl hC le_4_0 rfl rfl rfl h1).trans ?_
  exact wp_call (q := ([.ref (a0 + 1)], [])) (zcode_of mc_34 (r := (.invokevirtual 18, 187, 0, 0)) rfl) rfl (zCa_V (Nat.le_of_ble_eq_true rfl) rfl (zIs_of (cs_T hC le_4_0 h1))) ⟨Nat.le_of_ble_eq_true rfl, Nat.le_of_ble_eq_true rfl⟩
theorem b34_22 {σ : zSt} {P : Option Value → zSt → Prop} {a0 : Nat} {s0 : Int32} :
    wp 34 22 [some (.ref a0)] [.int s0] σ P ↔ P (some (.int (s0 - 1))) σ := by
  refine (wp_ic (n' := 23) rfl (zcode_of mc_34 (r := (.iconst 1, 0, 0, 0)) rfl) ci_1).trans ?_
  refine (wp_s (n := 24) (zcode_of mc_34 (r := (.isub, 0, 0, 0)) rfl) rfl rfl).trans ?_
  exact wp_retI (zcode_of mc_34 (r := (.ireturn, 0, 0, 0)) rfl) rfl
theorem mc_35 : mCode 35 = zc_35 := rfl
theorem b35 {σ : zSt} {P : Option Value → zSt → Prop} (hC : CShape σ) {a0 : Nat} :
    wpM 35 [.ref a0] σ P ↔ (zIs σ a0 4 ∧ wpM 187 [.ref (a0 + 1)] σ (fun r τ => wp 35 8 [some (.ref a0)] (r.toList ++ [.long 1]) τ P)) := by
  show wp 35 0 [some (.ref a0)] [] σ P ↔ _
  refine (wp_lc (n' := 1) rfl (zcode_of mc_35 (r := (.lconst 1, 0, 0, 0)) rfl) cc_1).trans ?_
  refine (wp_s (n := 2) (zcode_of mc_35 (r := (.aload_n 0, 0, 0, 0)) rfl) rfl rfl).trans ?_
  refine (wc_is (zcode_of mc_35 (r := (.getfield 12, 4, 0, 0)) rfl)).trans (and_congr_right fun h1 => ?_)
  refine (wc_getR (n' := 5) (d := 1) rfl (zcode_of mc_35 (r := (.getfield 12, 4, 0, 0)) rfl) rfl hC le_4_0 rfl rfl rfl h1).trans ?_
  exact wp_call (q := ([.ref (a0 + 1)], [.long 1])) (zcode_of mc_35 (r := (.invokevirtual 18, 187, 0, 0)) rfl) rfl (zCa_V (Nat.le_of_ble_eq_true rfl) rfl (zIs_of (cs_T hC le_4_0 h1))) ⟨Nat.le_of_ble_eq_true rfl, Nat.le_of_ble_eq_true rfl⟩
theorem b35_8 {σ : zSt} {P : Option Value → zSt → Prop} {a0 : Nat} {s0 : Int32} {s1 : Int64} :
    wp 35 8 [some (.ref a0)] [.int s0, .long s1] σ P ↔ P (some (.long ((s1 <<< (Int32.toInt64 s0 &&& 63)) - 1))) σ := by
  refine (wp_s (n := 9) (zcode_of mc_35 (r := (.lshl, 0, 0, 0)) rfl) rfl rfl).trans ?_
  refine (wp_lc (n' := 10) rfl (zcode_of mc_35 (r := (.lconst 1, 0, 0, 0)) rfl) cc_1).trans ?_
  refine (wp_s (n := 11) (zcode_of mc_35 (r := (.lsub, 0, 0, 0)) rfl) rfl rfl).trans ?_
  exact wp_retL (zcode_of mc_35 (r := (.lreturn, 0, 0, 0)) rfl) rfl
theorem mc_36 : mCode 36 = zc_36 := rfl
theorem b36 {σ : zSt} {P : Option Value → zSt → Prop} {a0 : Nat} :
    wpM 36 [.ref a0] σ P ↔ wp 36 2 [some (.ref a0), some (.int 0), none, none] [] σ P := by
  show wp 36 0 [some (.ref a0), none, none, none] [] σ P ↔ _
  refine (wp_ic (n' := 1) rfl (zcode_of mc_36 (r := (.iconst 0, 0, 0, 0)) rfl) ci_0).trans ?_
  refine (wp_s (n := 2) (zcode_of mc_36 (r := (.istore_n 1, 0, 0, 0)) rfl) rfl rfl).trans ?_
  exact Iff.rfl
theorem b36_2 {σ : zSt} {P : Option Value → zSt → Prop} (hC : CShape σ) {a0 : Nat} {x1 : Int32} {u2 u3 : Option Value} :
    wp 36 2 [some (.ref a0), some (.int x1), u2, u3] [] σ P ↔ (zIs σ a0 4 ∧ wpM 187 [.ref (a0 + 1)] σ (fun r τ => wp 36 10 [some (.ref a0), some (.int x1), u2, u3] (r.toList ++ [.int x1]) τ P)) := by
  refine (wp_s (n := 3) (zcode_of mc_36 (r := (.iload_n 1, 0, 0, 0)) rfl) rfl rfl).trans ?_
  refine (wp_s (n := 4) (zcode_of mc_36 (r := (.aload_n 0, 0, 0, 0)) rfl) rfl rfl).trans ?_
  refine (wc_is (zcode_of mc_36 (r := (.getfield 12, 4, 0, 0)) rfl)).trans (and_congr_right fun h1 => ?_)
  refine (wc_getR (n' := 7) (d := 1) rfl (zcode_of mc_36 (r := (.getfield 12, 4, 0, 0)) rfl) rfl hC le_4_0 rfl rfl rfl h1).trans ?_
  exact wp_call (q := ([.ref (a0 + 1)], [.int x1])) (zcode_of mc_36 (r := (.invokevirtual 18, 187, 0, 0)) rfl) rfl (zCa_V (Nat.le_of_ble_eq_true rfl) rfl (zIs_of (cs_T hC le_4_0 h1))) ⟨Nat.le_of_ble_eq_true rfl, Nat.le_of_ble_eq_true rfl⟩
theorem b36_10 {σ : zSt} {P : Option Value → zSt → Prop} {a0 : Nat} {x1 s0 s1 : Int32} {u2 u3 : Option Value} :
    wp 36 10 [some (.ref a0), some (.int x1), u2, u3] [.int s0, .int s1] σ P ↔ (if s0 ≤ s1 then wp 36 78 [some (.ref a0), some (.int x1), u2, u3] [] σ P else wp 36 13 [some (.ref a0), some (.int x1), u2, u3] [] σ P) := by
  exact wp_jump (off := 68) (t := 78) (zcode_of mc_36 (r := (.if_icmp .ge 68, 0, 0, 0)) rfl) rfl rfl (by decide)
theorem b36_13 {σ : zSt} {P : Option Value → zSt → Prop} (hC : CShape σ) {a0 : Nat} {x1 : Int32} {u2 u3 : Option Value} :
    wp 36 13 [some (.ref a0), some (.int x1), u2, u3] [] σ P ↔ (zIs σ a0 4 ∧ wpM 190 [.ref (a0 + 1), .int x1] σ (fun r τ => wp 36 21 [some (.ref a0), some (.int x1), u2, u3] (r.toList ++ []) τ P)) := by
  refine (wp_s (n := 14) (zcode_of mc_36 (r := (.aload_n 0, 0, 0, 0)) rfl) rfl rfl).trans ?_
  refine (wc_is (zcode_of mc_36 (r := (.getfield 12, 4, 0, 0)) rfl)).trans (and_congr_right fun h1 => ?_)
  refine (wc_getR (n' := 17) (d := 1) rfl (zcode_of mc_36 (r := (.getfield 12, 4, 0, 0)) rfl) rfl hC le_4_0 rfl rfl rfl h1).trans ?_
  refine (wp_s (n := 18) (zcode_of mc_36 (r := (.iload_n 1, 0, 0, 0)) rfl) rfl rfl).trans ?_
  exact wp_call (q := ([.ref (a0 + 1), .int x1], [])) (zcode_of mc_36 (r := (.invokevirtual 22, 190, 0, 1)) rfl) rfl (zCa_V (Nat.le_of_ble_eq_true rfl) rfl (zIs_of (cs_T hC le_4_0 h1))) ⟨Nat.le_of_ble_eq_true rfl, Nat.le_of_ble_eq_true rfl⟩
theorem b36_21 {σ : zSt} {P : Option Value → zSt → Prop} {a0 s0 : Nat} {x1 : Int32} {u2 u3 : Option Value} :
    wp 36 21 [some (.ref a0), some (.int x1), u2, u3] [.ref s0] σ P ↔ (zIs σ s0 0 ∧ wp 36 32 [some (.ref a0), some (.int x1), some (.ref s0), some (.int 0)] [] (sfl σ 0 6 s0 0) P) := by
  refine (wc_chk (n' := 24) rfl (zcode_of mc_36 (r := (.checkcast 26, 0, 0, 0)) rfl)).trans (and_congr_right fun h1 => ?_)
  refine (wp_s (n := 25) (zcode_of mc_36 (r := (.astore_n 2, 0, 0, 0)) rfl) rfl rfl).trans ?_
  refine (wp_s (n := 26) (zcode_of mc_36 (r := (.aload_n 2, 0, 0, 0)) rfl) rfl rfl).trans ?_
  refine (wp_lc (n' := 27) rfl (zcode_of mc_36 (r := (.lconst 0, 0, 0, 0)) rfl) cc_0).trans ?_
  refine (wc_putL (n' := 30) rfl (zcode_of mc_36 (r := (.putfield 33, 0, 6, 0)) rfl) rfl h1).trans ?_
  refine (wp_ic (n' := 31) rfl (zcode_of mc_36 (r := (.iconst 0, 0, 0, 0)) rfl) ci_0).trans ?_
  refine (wp_s (n := 32) (zcode_of mc_36 (r := (.istore_n 3, 0, 0, 0)) rfl) rfl rfl).trans ?_
  exact Iff.rfl
theorem b36_32 {σ : zSt} {P : Option Value → zSt → Prop} (hC : CShape σ) {a0 a2 : Nat} {x1 x3 : Int32} :
    wp 36 32 [some (.ref a0), some (.int x1), some (.ref a2), some (.int x3)] [] σ P ↔ (zIs σ a2 0 ∧ wpM 187 [.ref (a2 + 1)] σ (fun r τ => wp 36 40 [some (.ref a0), some (.int x1), some (.ref a2), some (.int x3)] (r.toList ++ [.int x3]) τ P)) := by
  refine (wp_s (n := 33) (zcode_of mc_36 (r := (.iload_n 3, 0, 0, 0)) rfl) rfl rfl).trans ?_
  refine (wp_s (n := 34) (zcode_of mc_36 (r := (.aload_n 2, 0, 0, 0)) rfl) rfl rfl).trans ?_
  refine (wc_is (zcode_of mc_36 (r := (.getfield 37, 0, 0, 0)) rfl)).trans (and_congr_right fun h1 => ?_)
  refine (wc_getR (n' := 37) (d := 1) rfl (zcode_of mc_36 (r := (.getfield 37, 0, 0, 0)) rfl) rfl hC le_0_0 rfl rfl rfl h1).trans ?_
  exact wp_call (q := ([.ref (a2 + 1)], [.int x3])) (zcode_of mc_36 (r := (.invokevirtual 18, 187, 0, 0)) rfl) rfl (zCa_V (Nat.le_of_ble_eq_true rfl) rfl (zIs_of (cs_T hC le_0_0 h1))) ⟨Nat.le_of_ble_eq_true rfl, Nat.le_of_ble_eq_true rfl⟩
theorem b36_40 {σ : zSt} {P : Option Value → zSt → Prop} {a0 a2 : Nat} {x1 x3 s0 s1 : Int32} :
    wp 36 40 [some (.ref a0), some (.int x1), some (.ref a2), some (.int x3)] [.int s0, .int s1] σ P ↔ (if s0 ≤ s1 then wp 36 72 [some (.ref a0), some (.int x1), some (.ref a2), some (.int x3)] [] σ P else wp 36 43 [some (.ref a0), some (.int x1), some (.ref a2), some (.int x3)] [] σ P) := by
  exact wp_jump (off := 32) (t := 72) (zcode_of mc_36 (r := (.if_icmp .ge 32, 0, 0, 0)) rfl) rfl rfl (by decide)
theorem b36_43 {σ : zSt} {P : Option Value → zSt → Prop} (hC : CShape σ) {a0 a2 : Nat} {x1 x3 : Int32} :
    wp 36 43 [some (.ref a0), some (.int x1), some (.ref a2), some (.int x3)] [] σ P ↔ (zIs σ a2 0 ∧ wpM 190 [.ref (a2 + 1), .int x3] σ (fun r τ => wp 36 56 [some (.ref a0), some (.int x1), some (.ref a2), some (.int x3)] (r.toList ++ [.long (zfl σ 0 6 a2), .ref a2]) τ P)) := by
  refine (wp_s (n := 44) (zcode_of mc_36 (r := (.aload_n 2, 0, 0, 0)) rfl) rfl rfl).trans ?_
  refine (wp_s (n := 45) (zcode_of mc_36 (r := (.dup, 0, 0, 0)) rfl) rfl rfl).trans ?_
  refine (wc_is (zcode_of mc_36 (r := (.getfield 33, 0, 6, 0)) rfl)).trans (and_congr_right fun h1 => ?_)
  refine (wc_getL (n' := 48) rfl (zcode_of mc_36 (r := (.getfield 33, 0, 6, 0)) rfl) rfl h1).trans ?_
  refine (wp_s (n := 49) (zcode_of mc_36 (r := (.aload_n 2, 0, 0, 0)) rfl) rfl rfl).trans ?_
  refine (wc_getR (n' := 52) (d := 1) rfl (zcode_of mc_36 (r := (.getfield 37, 0, 0, 0)) rfl) rfl hC le_0_0 rfl rfl rfl h1).trans ?_
  refine (wp_s (n := 53) (zcode_of mc_36 (r := (.iload_n 3, 0, 0, 0)) rfl) rfl rfl).trans ?_
  exact wp_call (q := ([.ref (a2 + 1), .int x3], [.long (zfl σ 0 6 a2), .ref a2])) (zcode_of mc_36 (r := (.invokevirtual 22, 190, 0, 1)) rfl) rfl (zCa_V (Nat.le_of_ble_eq_true rfl) rfl (zIs_of (cs_T hC le_0_0 h1))) ⟨Nat.le_of_ble_eq_true rfl, Nat.le_of_ble_eq_true rfl⟩
theorem b36_56 {σ : zSt} {P : Option Value → zSt → Prop} {a0 a2 s0 s2 : Nat} {x1 x3 : Int32} {s1 : Int64} :
    wp 36 56 [some (.ref a0), some (.int x1), some (.ref a2), some (.int x3)] [.ref s0, .long s1, .ref s2] σ P ↔ (zIs σ s0 8 ∧ wpM 63 [.ref s0] σ (fun r τ => wp 36 62 [some (.ref a0), some (.int x1), some (.ref a2), some (.int x3)] (r.toList ++ [.long s1, .ref s2]) τ P)) := by
  refine (wc_chk (n' := 59) rfl (zcode_of mc_36 (r := (.checkcast 40, 8, 0, 0)) rfl)).trans (and_congr_right fun h1 => ?_)
  exact wp_call (q := ([.ref s0], [.long s1, .ref s2])) (zcode_of mc_36 (r := (.invokevirtual 42, 63, 0, 0)) rfl) rfl (zCa_V (Nat.le_of_ble_eq_true rfl) rfl h1) ⟨Nat.le_of_ble_eq_true rfl, Nat.le_of_ble_eq_true rfl⟩
theorem b36_62 {σ : zSt} {P : Option Value → zSt → Prop} {a0 a2 s2 : Nat} {x1 x3 : Int32} {s0 s1 : Int64} :
    wp 36 62 [some (.ref a0), some (.int x1), some (.ref a2), some (.int x3)] [.long s0, .long s1, .ref s2] σ P ↔ (zIs σ s2 0 ∧ wp 36 32 [some (.ref a0), some (.int x1), some (.ref a2), some (.int (x3 + 1))] [] (sfl σ 0 6 s2 (s1 ||| s0)) P) := by
  refine (wp_s (n := 63) (zcode_of mc_36 (r := (.lor, 0, 0, 0)) rfl) rfl rfl).trans ?_
  refine (wc_isP (zcode_of mc_36 (r := (.putfield 33, 0, 6, 0)) rfl)).trans (and_congr_right fun h1 => ?_)
  refine (wc_putL (n' := 66) rfl (zcode_of mc_36 (r := (.putfield 33, 0, 6, 0)) rfl) rfl h1).trans ?_
  refine (wp_inc (n' := 69) rfl (zcode_of mc_36 (r := (.iinc 3 1, 0, 0, 0)) rfl) rfl rfl ci_1).trans ?_
  exact wp_goto (off := (-37)) (t := 32) (zcode_of mc_36 (r := (.goto (-37), 0, 0, 0)) rfl) (by decide)
theorem b36_72 {σ : zSt} {P : Option Value → zSt → Prop} {a0 a2 : Nat} {x1 x3 : Int32} :
    wp 36 72 [some (.ref a0), some (.int x1), some (.ref a2), some (.int x3)] [] σ P ↔ wp 36 2 [some (.ref a0), some (.int (x1 + 1)), some (.ref a2), some (.int x3)] [] σ P := by
  refine (wp_inc (n' := 75) rfl (zcode_of mc_36 (r := (.iinc 1 1, 0, 0, 0)) rfl) rfl rfl ci_1).trans ?_
  exact wp_goto (off := (-73)) (t := 2) (zcode_of mc_36 (r := (.goto (-73), 0, 0, 0)) rfl) (by decide)
theorem b36_78 {σ : zSt} {P : Option Value → zSt → Prop} {a0 : Nat} {x1 : Int32} {u2 u3 : Option Value} :
    wp 36 78 [some (.ref a0), some (.int x1), u2, u3] [] σ P ↔ P none σ := by
  exact wp_retV (zcode_of mc_36 (r := (.return_, 0, 0, 0)) rfl) rfl
theorem mc_37 : mCode 37 = zc_37 := rfl
theorem b37 {σ : zSt} {P : Option Value → zSt → Prop} {a0 : Nat} {x1 : Int64} :
    wpM 37 [.ref a0, .long x1] σ P ↔ wp 37 8 [some (.ref a0), some (.long x1), none, some (.long x1), none, some (.long 0), none, some (.int 0), none] [] σ P := by
  show wp 37 0 [some (.ref a0), some (.long x1), none, none, none, none, none, none, none] [] σ P ↔ _
  refine (wp_s (n := 1) (zcode_of mc_37 (r := (.lload_n 1, 0, 0, 0)) rfl) rfl rfl).trans ?_
  refine (wp_s (n := 2) (zcode_of mc_37 (r := (.lstore_n 3, 0, 0, 0)) rfl) rfl rfl).trans ?_
  refine (wp_lc (n' := 3) rfl (zcode_of mc_37 (r := (.lconst 0, 0, 0, 0)) rfl) cc_0).trans ?_
  refine (wp_s (n := 5) (zcode_of mc_37 (r := (.lstore 5, 0, 0, 0)) rfl) rfl rfl).trans ?_
  refine (wp_ic (n' := 6) rfl (zcode_of mc_37 (r := (.iconst 0, 0, 0, 0)) rfl) ci_0).trans ?_
  refine (wp_s (n := 8) (zcode_of mc_37 (r := (.istore 7, 0, 0, 0)) rfl) rfl rfl).trans ?_
  exact Iff.rfl
theorem b37_8 {σ : zSt} {P : Option Value → zSt → Prop} (hC : CShape σ) {a0 : Nat} {x7 : Int32} {x1 x3 x5 : Int64} {u8 : Option Value} :
    wp 37 8 [some (.ref a0), some (.long x1), none, some (.long x3), none, some (.long x5), none, some (.int x7), u8] [] σ P ↔ (zIs σ a0 4 ∧ wpM 187 [.ref (a0 + 1)] σ (fun r τ => wp 37 17 [some (.ref a0), some (.long x1), none, some (.long x3), none, some (.long x5), none, some (.int x7), u8] (r.toList ++ [.int x7]) τ P)) := by
  refine (wp_s (n := 10) (zcode_of mc_37 (r := (.iload 7, 0, 0, 0)) rfl) rfl rfl).trans ?_
  refine (wp_s (n := 11) (zcode_of mc_37 (r := (.aload_n 0, 0, 0, 0)) rfl) rfl rfl).trans ?_
  refine (wc_is (zcode_of mc_37 (r := (.getfield 12, 4, 0, 0)) rfl)).trans (and_congr_right fun h1 => ?_)
  refine (wc_getR (n' := 14) (d := 1) rfl (zcode_of mc_37 (r := (.getfield 12, 4, 0, 0)) rfl) rfl hC le_4_0 rfl rfl rfl h1).trans ?_
  exact wp_call (q := ([.ref (a0 + 1)], [.int x7])) (zcode_of mc_37 (r := (.invokevirtual 18, 187, 0, 0)) rfl) rfl (zCa_V (Nat.le_of_ble_eq_true rfl) rfl (zIs_of (cs_T hC le_4_0 h1))) ⟨Nat.le_of_ble_eq_true rfl, Nat.le_of_ble_eq_true rfl⟩
theorem b37_17 {σ : zSt} {P : Option Value → zSt → Prop} {a0 : Nat} {x7 s0 s1 : Int32} {x1 x3 x5 : Int64} {u8 : Option Value} :
    wp 37 17 [some (.ref a0), some (.long x1), none, some (.long x3), none, some (.long x5), none, some (.int x7), u8] [.int s0, .int s1] σ P ↔ (if s0 < s1 then wp 37 87 [some (.ref a0), some (.long x1), none, some (.long x3), none, some (.long x5), none, some (.int x7), u8] [] σ P else wp 37 20 [some (.ref a0), some (.long x1), none, some (.long x3), none, some (.long x5), none, some (.int x7), u8] [] σ P) := by
  exact wp_jump (off := 70) (t := 87) (zcode_of mc_37 (r := (.if_icmp .gt 70, 0, 0, 0)) rfl) rfl rfl (by decide)
theorem b37_20 {σ : zSt} {P : Option Value → zSt → Prop} {a0 : Nat} {x7 : Int32} {x1 x3 x5 : Int64} {u8 : Option Value} :
    wp 37 20 [some (.ref a0), some (.long x1), none, some (.long x3), none, some (.long x5), none, some (.int x7), u8] [] σ P ↔ (if (lg_cmp x3 x5) = 0 then wp 37 87 [some (.ref a0), some (.long x1), none, some (.long x3), none, some (.long x5), none, some (.int x7), u8] [] σ P else wp 37 27 [some (.ref a0), some (.long x1), none, some (.long x3), none, some (.long x5), none, some (.int x7), u8] [] σ P) := by
  refine (wp_s (n := 21) (zcode_of mc_37 (r := (.lload_n 3, 0, 0, 0)) rfl) rfl rfl).trans ?_
  refine (wp_s (n := 23) (zcode_of mc_37 (r := (.lload 5, 0, 0, 0)) rfl) rfl rfl).trans ?_
  refine (wp_s (n := 24) (zcode_of mc_37 (r := (.lcmp, 0, 0, 0)) rfl) rfl rfl).trans ?_
  exact wp_jump (off := 63) (t := 87) (zcode_of mc_37 (r := (.ifCond .eq 63, 0, 0, 0)) rfl) rfl rfl (by decide)
theorem b37_27 {σ : zSt} {P : Option Value → zSt → Prop} {a0 : Nat} {x7 : Int32} {x1 x3 x5 : Int64} {u8 : Option Value} :
    wp 37 27 [some (.ref a0), some (.long x1), none, some (.long x3), none, some (.long x5), none, some (.int x7), u8] [] σ P ↔ wp 37 33 [some (.ref a0), some (.long x1), none, some (.long x3), none, some (.long x3), none, some (.int x7), some (.int 0)] [] σ P := by
  refine (wp_s (n := 28) (zcode_of mc_37 (r := (.lload_n 3, 0, 0, 0)) rfl) rfl rfl).trans ?_
  refine (wp_s (n := 30) (zcode_of mc_37 (r := (.lstore 5, 0, 0, 0)) rfl) rfl rfl).trans ?_
  refine (wp_ic (n' := 31) rfl (zcode_of mc_37 (r := (.iconst 0, 0, 0, 0)) rfl) ci_0).trans ?_
  refine (wp_s (n := 33) (zcode_of mc_37 (r := (.istore 8, 0, 0, 0)) rfl) rfl rfl).trans ?_
  exact Iff.rfl
theorem b37_33 {σ : zSt} {P : Option Value → zSt → Prop} (hC : CShape σ) {a0 : Nat} {x7 x8 : Int32} {x1 x3 x5 : Int64} :
    wp 37 33 [some (.ref a0), some (.long x1), none, some (.long x3), none, some (.long x5), none, some (.int x7), some (.int x8)] [] σ P ↔ (zIs σ a0 4 ∧ wpM 187 [.ref (a0 + 1)] σ (fun r τ => wp 37 42 [some (.ref a0), some (.long x1), none, some (.long x3), none, some (.long x5), none, some (.int x7), some (.int x8)] (r.toList ++ [.int x8]) τ P)) := by
  refine (wp_s (n := 35) (zcode_of mc_37 (r := (.iload 8, 0, 0, 0)) rfl) rfl rfl).trans ?_
  refine (wp_s (n := 36) (zcode_of mc_37 (r := (.aload_n 0, 0, 0, 0)) rfl) rfl rfl).trans ?_
  refine (wc_is (zcode_of mc_37 (r := (.getfield 12, 4, 0, 0)) rfl)).trans (and_congr_right fun h1 => ?_)
  refine (wc_getR (n' := 39) (d := 1) rfl (zcode_of mc_37 (r := (.getfield 12, 4, 0, 0)) rfl) rfl hC le_4_0 rfl rfl rfl h1).trans ?_
  exact wp_call (q := ([.ref (a0 + 1)], [.int x8])) (zcode_of mc_37 (r := (.invokevirtual 18, 187, 0, 0)) rfl) rfl (zCa_V (Nat.le_of_ble_eq_true rfl) rfl (zIs_of (cs_T hC le_4_0 h1))) ⟨Nat.le_of_ble_eq_true rfl, Nat.le_of_ble_eq_true rfl⟩
theorem b37_42 {σ : zSt} {P : Option Value → zSt → Prop} {a0 : Nat} {x7 x8 s0 s1 : Int32} {x1 x3 x5 : Int64} :
    wp 37 42 [some (.ref a0), some (.long x1), none, some (.long x3), none, some (.long x5), none, some (.int x7), some (.int x8)] [.int s0, .int s1] σ P ↔ (if s0 ≤ s1 then wp 37 81 [some (.ref a0), some (.long x1), none, some (.long x3), none, some (.long x5), none, some (.int x7), some (.int x8)] [] σ P else wp 37 45 [some (.ref a0), some (.long x1), none, some (.long x3), none, some (.long x5), none, some (.int x7), some (.int x8)] [] σ P) := by
  exact wp_jump (off := 39) (t := 81) (zcode_of mc_37 (r := (.if_icmp .ge 39, 0, 0, 0)) rfl) rfl rfl (by decide)
theorem b37_45 {σ : zSt} {P : Option Value → zSt → Prop} {a0 : Nat} {x7 x8 : Int32} {x1 x3 x5 : Int64} :
    wp 37 45 [some (.ref a0), some (.long x1), none, some (.long x3), none, some (.long x5), none, some (.int x7), some (.int x8)] [] σ P ↔ wpM 108 [.int x8] σ (fun r τ => wp 37 51 [some (.ref a0), some (.long x1), none, some (.long x3), none, some (.long x5), none, some (.int x7), some (.int x8)] (r.toList ++ [.long x3]) τ P) := by
  refine (wp_s (n := 46) (zcode_of mc_37 (r := (.lload_n 3, 0, 0, 0)) rfl) rfl rfl).trans ?_
  refine (wp_s (n := 48) (zcode_of mc_37 (r := (.iload 8, 0, 0, 0)) rfl) rfl rfl).trans ?_
  exact wp_call (q := ([.int x8], [.long x3])) (zcode_of mc_37 (r := (.invokestatic 46, 108, 4, 1)) rfl) rfl rfl ⟨Nat.le_of_ble_eq_true rfl, Nat.le_of_ble_eq_true rfl⟩
theorem b37_51 {σ : zSt} {P : Option Value → zSt → Prop} {a0 : Nat} {x7 x8 : Int32} {x1 x3 x5 s0 s1 : Int64} :
    wp 37 51 [some (.ref a0), some (.long x1), none, some (.long x3), none, some (.long x5), none, some (.int x7), some (.int x8)] [.long s0, .long s1] σ P ↔ (if (lg_cmp (s1 &&& s0) 0) = 0 then wp 37 75 [some (.ref a0), some (.long x1), none, some (.long x3), none, some (.long x5), none, some (.int x7), some (.int x8)] [] σ P else wp 37 57 [some (.ref a0), some (.long x1), none, some (.long x3), none, some (.long x5), none, some (.int x7), some (.int x8)] [] σ P) := by
  refine (wp_s (n := 52) (zcode_of mc_37 (r := (.land, 0, 0, 0)) rfl) rfl rfl).trans ?_
  refine (wp_lc (n' := 53) rfl (zcode_of mc_37 (r := (.lconst 0, 0, 0, 0)) rfl) cc_0).trans ?_
  refine (wp_s (n := 54) (zcode_of mc_37 (r := (.lcmp, 0, 0, 0)) rfl) rfl rfl).trans ?_
  exact wp_jump (off := 21) (t := 75) (zcode_of mc_37 (r := (.ifCond .eq 21, 0, 0, 0)) rfl) rfl rfl (by decide)
theorem b37_57 {σ : zSt} {P : Option Value → zSt → Prop} (hC : CShape σ) {a0 : Nat} {x7 x8 : Int32} {x1 x3 x5 : Int64} :
    wp 37 57 [some (.ref a0), some (.long x1), none, some (.long x3), none, some (.long x5), none, some (.int x7), some (.int x8)] [] σ P ↔ (zIs σ a0 4 ∧ wpM 190 [.ref (a0 + 1), .int x8] σ (fun r τ => wp 37 67 [some (.ref a0), some (.long x1), none, some (.long x3), none, some (.long x5), none, some (.int x7), some (.int x8)] (r.toList ++ [.long x3]) τ P)) := by
  refine (wp_s (n := 58) (zcode_of mc_37 (r := (.lload_n 3, 0, 0, 0)) rfl) rfl rfl).trans ?_
  refine (wp_s (n := 59) (zcode_of mc_37 (r := (.aload_n 0, 0, 0, 0)) rfl) rfl rfl).trans ?_
  refine (wc_is (zcode_of mc_37 (r := (.getfield 12, 4, 0, 0)) rfl)).trans (and_congr_right fun h1 => ?_)
  refine (wc_getR (n' := 62) (d := 1) rfl (zcode_of mc_37 (r := (.getfield 12, 4, 0, 0)) rfl) rfl hC le_4_0 rfl rfl rfl h1).trans ?_
  refine (wp_s (n := 64) (zcode_of mc_37 (r := (.iload 8, 0, 0, 0)) rfl) rfl rfl).trans ?_
  exact wp_call (q := ([.ref (a0 + 1), .int x8], [.long x3])) (zcode_of mc_37 (r := (.invokevirtual 22, 190, 0, 1)) rfl) rfl (zCa_V (Nat.le_of_ble_eq_true rfl) rfl (zIs_of (cs_T hC le_4_0 h1))) ⟨Nat.le_of_ble_eq_true rfl, Nat.le_of_ble_eq_true rfl⟩
theorem b37_67 {σ : zSt} {P : Option Value → zSt → Prop} {a0 s0 : Nat} {x7 x8 : Int32} {x1 x3 x5 s1 : Int64} :
    wp 37 67 [some (.ref a0), some (.long x1), none, some (.long x3), none, some (.long x5), none, some (.int x7), some (.int x8)] [.ref s0, .long s1] σ P ↔ (zIs σ s0 0 ∧ wp 37 75 [some (.ref a0), some (.long x1), none, some (.long (s1 ||| (zfl σ 0 6 s0))), none, some (.long x5), none, some (.int x7), some (.int x8)] [] σ P) := by
  refine (wc_chk (n' := 70) rfl (zcode_of mc_37 (r := (.checkcast 26, 0, 0, 0)) rfl)).trans (and_congr_right fun h1 => ?_)
  refine (wc_getL (n' := 73) rfl (zcode_of mc_37 (r := (.getfield 33, 0, 6, 0)) rfl) rfl h1).trans ?_
  refine (wp_s (n := 74) (zcode_of mc_37 (r := (.lor, 0, 0, 0)) rfl) rfl rfl).trans ?_
  refine (wp_s (n := 75) (zcode_of mc_37 (r := (.lstore_n 3, 0, 0, 0)) rfl) rfl rfl).trans ?_
  exact Iff.rfl
theorem b37_75 {σ : zSt} {P : Option Value → zSt → Prop} {a0 : Nat} {x7 x8 : Int32} {x1 x3 x5 : Int64} :
    wp 37 75 [some (.ref a0), some (.long x1), none, some (.long x3), none, some (.long x5), none, some (.int x7), some (.int x8)] [] σ P ↔ wp 37 33 [some (.ref a0), some (.long x1), none, some (.long x3), none, some (.long x5), none, some (.int x7), some (.int (x8 + 1))] [] σ P := by
  refine (wp_inc (n' := 78) rfl (zcode_of mc_37 (r := (.iinc 8 1, 0, 0, 0)) rfl) rfl rfl ci_1).trans ?_
  exact wp_goto (off := (-45)) (t := 33) (zcode_of mc_37 (r := (.goto (-45), 0, 0, 0)) rfl) (by decide)
theorem b37_81 {σ : zSt} {P : Option Value → zSt → Prop} {a0 : Nat} {x7 x8 : Int32} {x1 x3 x5 : Int64} :
    wp 37 81 [some (.ref a0), some (.long x1), none, some (.long x3), none, some (.long x5), none, some (.int x7), some (.int x8)] [] σ P ↔ wp 37 8 [some (.ref a0), some (.long x1), none, some (.long x3), none, some (.long x5), none, some (.int (x7 + 1)), some (.int x8)] [] σ P := by
  refine (wp_inc (n' := 84) rfl (zcode_of mc_37 (r := (.iinc 7 1, 0, 0, 0)) rfl) rfl rfl ci_1).trans ?_
  exact wp_goto (off := (-76)) (t := 8) (zcode_of mc_37 (r := (.goto (-76), 0, 0, 0)) rfl) (by decide)
theorem b37_87 {σ : zSt} {P : Option Value → zSt → Prop} {a0 : Nat} {x7 : Int32} {x1 x3 x5 : Int64} {u8 : Option Value} :
    wp 37 87 [some (.ref a0), some (.long x1), none, some (.long x3), none, some (.long x5), none, some (.int x7), u8] [] σ P ↔ P (some (.long x3)) σ := by
  refine (wp_s (n := 88) (zcode_of mc_37 (r := (.lload_n 3, 0, 0, 0)) rfl) rfl rfl).trans ?_
  exact wp_retL (zcode_of mc_37 (r := (.lreturn, 0, 0, 0)) rfl) rfl
theorem mc_38 : mCode 38 = zc_38 := rfl
theorem b38 {σ : zSt} {P : Option Value → zSt → Prop} {a0 a2 : Nat} {x1 : Int32} :
    wpM 38 [.ref a0, .int x1, .ref a2] σ P ↔ (zIs σ a2 8 ∧ wpM 63 [.ref a2] σ (fun r τ => wp 38 5 [some (.ref a0), some (.int x1), some (.ref a2)] (r.toList ++ [.ref a0]) τ P)) := by
  show wp 38 0 [some (.ref a0), some (.int x1), some (.ref a2)] [] σ P ↔ _
  refine (wp_s (n := 1) (zcode_of mc_38 (r := (.aload_n 0, 0, 0, 0)) rfl) rfl rfl).trans ?_
  refine (wp_s (n := 2) (zcode_of mc_38 (r := (.aload_n 2, 0, 0, 0)) rfl) rfl rfl).trans ?_
  refine (wc_isV (cl := 8) (rest := [.ref a0]) (zcode_of mc_38 (r := (.invokevirtual 42, 63, 0, 0)) rfl) rfl rfl rfl).trans (and_congr_right fun h1 => ?_)
  exact wp_call (q := ([.ref a2], [.ref a0])) (zcode_of mc_38 (r := (.invokevirtual 42, 63, 0, 0)) rfl) rfl (zCa_V (Nat.le_of_ble_eq_true rfl) rfl h1) ⟨Nat.le_of_ble_eq_true rfl, Nat.le_of_ble_eq_true rfl⟩
theorem b38_5 {σ : zSt} {P : Option Value → zSt → Prop} {a0 a2 s1 : Nat} {x1 : Int32} {s0 : Int64} :
    wp 38 5 [some (.ref a0), some (.int x1), some (.ref a2)] [.long s0, .ref s1] σ P ↔ (zIs σ s1 4 ∧ wpM 37 [.ref s1, .long s0] σ (fun r τ => wp 38 8 [some (.ref a0), some (.int x1), some (.ref a2)] (r.toList ++ []) τ P)) := by
  refine (wc_isV (cl := 4) (rest := []) (zcode_of mc_38 (r := (.invokevirtual 50, 37, 0, 1)) rfl) rfl rfl rfl).trans (and_congr_right fun h1 => ?_)
  exact wp_call (q := ([.ref s1, .long s0], [])) (zcode_of mc_38 (r := (.invokevirtual 50, 37, 0, 1)) rfl) rfl (zCa_V (Nat.le_of_ble_eq_true rfl) rfl h1) ⟨Nat.le_of_ble_eq_true rfl, Nat.le_of_ble_eq_true rfl⟩
theorem b38_8 {σ : zSt} {P : Option Value → zSt → Prop} {a0 a2 : Nat} {x1 : Int32} {s0 : Int64} :
    wp 38 8 [some (.ref a0), some (.int x1), some (.ref a2)] [.long s0] σ P ↔ wpM 108 [.int x1] σ (fun r τ => wp 38 12 [some (.ref a0), some (.int x1), some (.ref a2)] (r.toList ++ [.long s0]) τ P) := by
  refine (wp_s (n := 9) (zcode_of mc_38 (r := (.iload_n 1, 0, 0, 0)) rfl) rfl rfl).trans ?_
  exact wp_call (q := ([.int x1], [.long s0])) (zcode_of mc_38 (r := (.invokestatic 46, 108, 4, 1)) rfl) rfl rfl ⟨Nat.le_of_ble_eq_true rfl, Nat.le_of_ble_eq_true rfl⟩
theorem b38_12 {σ : zSt} {P : Option Value → zSt → Prop} {a0 a2 : Nat} {x1 : Int32} {s0 s1 : Int64} :
    wp 38 12 [some (.ref a0), some (.int x1), some (.ref a2)] [.long s0, .long s1] σ P ↔ (if (lg_cmp (s1 &&& s0) 0) = 0 then wp 38 22 [some (.ref a0), some (.int x1), some (.ref a2)] [] σ P else wp 38 18 [some (.ref a0), some (.int x1), some (.ref a2)] [] σ P) := by
  refine (wp_s (n := 13) (zcode_of mc_38 (r := (.land, 0, 0, 0)) rfl) rfl rfl).trans ?_
  refine (wp_lc (n' := 14) rfl (zcode_of mc_38 (r := (.lconst 0, 0, 0, 0)) rfl) cc_0).trans ?_
  refine (wp_s (n := 15) (zcode_of mc_38 (r := (.lcmp, 0, 0, 0)) rfl) rfl rfl).trans ?_
  exact wp_jump (off := 7) (t := 22) (zcode_of mc_38 (r := (.ifCond .eq 7, 0, 0, 0)) rfl) rfl rfl (by decide)
theorem b38_18 {σ : zSt} {P : Option Value → zSt → Prop} {a0 a2 : Nat} {x1 : Int32} :
    wp 38 18 [some (.ref a0), some (.int x1), some (.ref a2)] [] σ P ↔ wp 38 23 [some (.ref a0), some (.int x1), some (.ref a2)] [.int 1] σ P := by
  refine (wp_ic (n' := 19) rfl (zcode_of mc_38 (r := (.iconst 1, 0, 0, 0)) rfl) ci_1).trans ?_
  exact wp_goto (off := 4) (t := 23) (zcode_of mc_38 (r := (.goto 4, 0, 0, 0)) rfl) (by decide)
theorem b38_22 {σ : zSt} {P : Option Value → zSt → Prop} {a0 a2 : Nat} {x1 : Int32} :
    wp 38 22 [some (.ref a0), some (.int x1), some (.ref a2)] [] σ P ↔ wp 38 23 [some (.ref a0), some (.int x1), some (.ref a2)] [.int 0] σ P := by
  refine (wp_ic (n' := 23) rfl (zcode_of mc_38 (r := (.iconst 0, 0, 0, 0)) rfl) ci_0).trans ?_
  exact Iff.rfl
theorem b38_23 {σ : zSt} {P : Option Value → zSt → Prop} {a0 a2 : Nat} {x1 s0 : Int32} :
    wp 38 23 [some (.ref a0), some (.int x1), some (.ref a2)] [.int s0] σ P ↔ (((s0 : Int32) = 0 ∨ (s0 : Int32) = 1) ∧ P (some (.int s0)) σ) := by
  exact wp_retZ (zcode_of mc_38 (r := (.ireturn, 0, 0, 0)) rfl) rfl
theorem mc_39 : mCode 39 = zc_39 := rfl
theorem b39 {σ : zSt} {P : Option Value → zSt → Prop} {a0 a2 : Nat} {x1 : Int32} :
    wpM 39 [.ref a0, .int x1, .ref a2] σ P ↔ wpM 108 [.int x1] σ (fun r τ => wp 39 5 [some (.ref a0), some (.int x1), some (.ref a2), none, none, none] (r.toList ++ [.ref a0]) τ P) := by
  show wp 39 0 [some (.ref a0), some (.int x1), some (.ref a2), none, none, none] [] σ P ↔ _
  refine (wp_s (n := 1) (zcode_of mc_39 (r := (.aload_n 0, 0, 0, 0)) rfl) rfl rfl).trans ?_
  refine (wp_s (n := 2) (zcode_of mc_39 (r := (.iload_n 1, 0, 0, 0)) rfl) rfl rfl).trans ?_
  exact wp_call (q := ([.int x1], [.ref a0])) (zcode_of mc_39 (r := (.invokestatic 46, 108, 4, 1)) rfl) rfl rfl ⟨Nat.le_of_ble_eq_true rfl, Nat.le_of_ble_eq_true rfl⟩
theorem b39_5 {σ : zSt} {P : Option Value → zSt → Prop} {a0 a2 s1 : Nat} {x1 : Int32} {s0 : Int64} {u3 u4 u5 : Option Value} :
    wp 39 5 [some (.ref a0), some (.int x1), some (.ref a2), u3, u4, u5] [.long s0, .ref s1] σ P ↔ (zIs σ s1 4 ∧ wpM 37 [.ref s1, .long s0] σ (fun r τ => wp 39 8 [some (.ref a0), some (.int x1), some (.ref a2), u3, u4, u5] (r.toList ++ []) τ P)) := by
  refine (wc_isV (cl := 4) (rest := []) (zcode_of mc_39 (r := (.invokevirtual 50, 37, 0, 1)) rfl) rfl rfl rfl).trans (and_congr_right fun h1 => ?_)
  exact wp_call (q := ([.ref s1, .long s0], [])) (zcode_of mc_39 (r := (.invokevirtual 50, 37, 0, 1)) rfl) rfl (zCa_V (Nat.le_of_ble_eq_true rfl) rfl h1) ⟨Nat.le_of_ble_eq_true rfl, Nat.le_of_ble_eq_true rfl⟩
theorem b39_8 {σ : zSt} {P : Option Value → zSt → Prop} {a0 a2 : Nat} {x1 : Int32} {s0 : Int64} {u3 u4 u5 : Option Value} :
    wp 39 8 [some (.ref a0), some (.int x1), some (.ref a2), u3, u4, u5] [.long s0] σ P ↔ wp 39 12 [some (.ref a0), some (.int x1), some (.ref a2), some (.long s0), none, some (.int 0)] [] σ P := by
  refine (wp_s (n := 9) (zcode_of mc_39 (r := (.lstore_n 3, 0, 0, 0)) rfl) rfl rfl).trans ?_
  refine (wp_ic (n' := 10) rfl (zcode_of mc_39 (r := (.iconst 0, 0, 0, 0)) rfl) ci_0).trans ?_
  refine (wp_s (n := 12) (zcode_of mc_39 (r := (.istore 5, 0, 0, 0)) rfl) rfl rfl).trans ?_
  exact Iff.rfl
theorem b39_12 {σ : zSt} {P : Option Value → zSt → Prop} (hC : CShape σ) {a0 a2 : Nat} {x1 x5 : Int32} {x3 : Int64} :
    wp 39 12 [some (.ref a0), some (.int x1), some (.ref a2), some (.long x3), none, some (.int x5)] [] σ P ↔ (zIs σ a0 4 ∧ wpM 187 [.ref (a0 + 1)] σ (fun r τ => wp 39 21 [some (.ref a0), some (.int x1), some (.ref a2), some (.long x3), none, some (.int x5)] (r.toList ++ [.int x5]) τ P)) := by
  refine (wp_s (n := 14) (zcode_of mc_39 (r := (.iload 5, 0, 0, 0)) rfl) rfl rfl).trans ?_
  refine (wp_s (n := 15) (zcode_of mc_39 (r := (.aload_n 0, 0, 0, 0)) rfl) rfl rfl).trans ?_
  refine (wc_is (zcode_of mc_39 (r := (.getfield 12, 4, 0, 0)) rfl)).trans (and_congr_right fun h1 => ?_)
  refine (wc_getR (n' := 18) (d := 1) rfl (zcode_of mc_39 (r := (.getfield 12, 4, 0, 0)) rfl) rfl hC le_4_0 rfl rfl rfl h1).trans ?_
  exact wp_call (q := ([.ref (a0 + 1)], [.int x5])) (zcode_of mc_39 (r := (.invokevirtual 18, 187, 0, 0)) rfl) rfl (zCa_V (Nat.le_of_ble_eq_true rfl) rfl (zIs_of (cs_T hC le_4_0 h1))) ⟨Nat.le_of_ble_eq_true rfl, Nat.le_of_ble_eq_true rfl⟩
theorem b39_21 {σ : zSt} {P : Option Value → zSt → Prop} {a0 a2 : Nat} {x1 x5 s0 s1 : Int32} {x3 : Int64} :
    wp 39 21 [some (.ref a0), some (.int x1), some (.ref a2), some (.long x3), none, some (.int x5)] [.int s0, .int s1] σ P ↔ (if s0 ≤ s1 then wp 39 91 [some (.ref a0), some (.int x1), some (.ref a2), some (.long x3), none, some (.int x5)] [] σ P else wp 39 24 [some (.ref a0), some (.int x1), some (.ref a2), some (.long x3), none, some (.int x5)] [] σ P) := by
  exact wp_jump (off := 70) (t := 91) (zcode_of mc_39 (r := (.if_icmp .ge 70, 0, 0, 0)) rfl) rfl rfl (by decide)
theorem b39_24 {σ : zSt} {P : Option Value → zSt → Prop} {a0 a2 : Nat} {x1 x5 : Int32} {x3 : Int64} :
    wp 39 24 [some (.ref a0), some (.int x1), some (.ref a2), some (.long x3), none, some (.int x5)] [] σ P ↔ wpM 108 [.int x5] σ (fun r τ => wp 39 30 [some (.ref a0), some (.int x1), some (.ref a2), some (.long x3), none, some (.int x5)] (r.toList ++ [.long x3]) τ P) := by
  refine (wp_s (n := 25) (zcode_of mc_39 (r := (.lload_n 3, 0, 0, 0)) rfl) rfl rfl).trans ?_
  refine (wp_s (n := 27) (zcode_of mc_39 (r := (.iload 5, 0, 0, 0)) rfl) rfl rfl).trans ?_
  exact wp_call (q := ([.int x5], [.long x3])) (zcode_of mc_39 (r := (.invokestatic 46, 108, 4, 1)) rfl) rfl rfl ⟨Nat.le_of_ble_eq_true rfl, Nat.le_of_ble_eq_true rfl⟩
theorem b39_30 {σ : zSt} {P : Option Value → zSt → Prop} {a0 a2 : Nat} {x1 x5 : Int32} {x3 s0 s1 : Int64} :
    wp 39 30 [some (.ref a0), some (.int x1), some (.ref a2), some (.long x3), none, some (.int x5)] [.long s0, .long s1] σ P ↔ (if ¬ (lg_cmp (s1 &&& s0) 0) = 0 then wp 39 39 [some (.ref a0), some (.int x1), some (.ref a2), some (.long x3), none, some (.int x5)] [] σ P else wp 39 36 [some (.ref a0), some (.int x1), some (.ref a2), some (.long x3), none, some (.int x5)] [] σ P) := by
  refine (wp_s (n := 31) (zcode_of mc_39 (r := (.land, 0, 0, 0)) rfl) rfl rfl).trans ?_
  refine (wp_lc (n' := 32) rfl (zcode_of mc_39 (r := (.lconst 0, 0, 0, 0)) rfl) cc_0).trans ?_
  refine (wp_s (n := 33) (zcode_of mc_39 (r := (.lcmp, 0, 0, 0)) rfl) rfl rfl).trans ?_
  exact wp_jump (off := 6) (t := 39) (zcode_of mc_39 (r := (.ifCond .ne 6, 0, 0, 0)) rfl) rfl rfl (by decide)
theorem b39_36 {σ : zSt} {P : Option Value → zSt → Prop} {a0 a2 : Nat} {x1 x5 : Int32} {x3 : Int64} :
    wp 39 36 [some (.ref a0), some (.int x1), some (.ref a2), some (.long x3), none, some (.int x5)] [] σ P ↔ wp 39 85 [some (.ref a0), some (.int x1), some (.ref a2), some (.long x3), none, some (.int x5)] [] σ P := by
  exact wp_goto (off := 49) (t := 85) (zcode_of mc_39 (r := (.goto 49, 0, 0, 0)) rfl) (by decide)
theorem b39_39 {σ : zSt} {P : Option Value → zSt → Prop} (hC : CShape σ) {a0 a2 : Nat} {x1 x5 : Int32} {x3 : Int64} :
    wp 39 39 [some (.ref a0), some (.int x1), some (.ref a2), some (.long x3), none, some (.int x5)] [] σ P ↔ (zIs σ a0 4 ∧ wpM 190 [.ref (a0 + 1), .int x5] σ (fun r τ => wp 39 48 [some (.ref a0), some (.int x1), some (.ref a2), some (.long x3), none, some (.int x5)] (r.toList ++ []) τ P)) := by
  refine (wp_s (n := 40) (zcode_of mc_39 (r := (.aload_n 0, 0, 0, 0)) rfl) rfl rfl).trans ?_
  refine (wc_is (zcode_of mc_39 (r := (.getfield 12, 4, 0, 0)) rfl)).trans (and_congr_right fun h1 => ?_)
  refine (wc_getR (n' := 43) (d := 1) rfl (zcode_of mc_39 (r := (.getfield 12, 4, 0, 0)) rfl) rfl hC le_4_0 rfl rfl rfl h1).trans ?_
  refine (wp_s (n := 45) (zcode_of mc_39 (r := (.iload 5, 0, 0, 0)) rfl) rfl rfl).trans ?_
  exact wp_call (q := ([.ref (a0 + 1), .int x5], [])) (zcode_of mc_39 (r := (.invokevirtual 22, 190, 0, 1)) rfl) rfl (zCa_V (Nat.le_of_ble_eq_true rfl) rfl (zIs_of (cs_T hC le_4_0 h1))) ⟨Nat.le_of_ble_eq_true rfl, Nat.le_of_ble_eq_true rfl⟩
theorem b39_48 {σ : zSt} {P : Option Value → zSt → Prop} {a0 a2 s0 : Nat} {x1 x5 : Int32} {x3 : Int64} :
    wp 39 48 [some (.ref a0), some (.int x1), some (.ref a2), some (.long x3), none, some (.int x5)] [.ref s0] σ P ↔ (zIs σ s0 0 ∧ (zIs σ a2 8 ∧ wpM 1 [.ref s0, .int (zfi σ 8 0 a2)] σ (fun r τ => wp 39 58 [some (.ref a0), some (.int x1), some (.ref a2), some (.long x3), none, some (.int x5)] (r.toList ++ []) τ P))) := by
  refine (wc_chk (n' := 51) rfl (zcode_of mc_39 (r := (.checkcast 26, 0, 0, 0)) rfl)).trans (and_congr_right fun h1 => ?_)
  refine (wp_s (n := 52) (zcode_of mc_39 (r := (.aload_n 2, 0, 0, 0)) rfl) rfl rfl).trans ?_
  refine (wc_is (zcode_of mc_39 (r := (.getfield 54, 8, 0, 0)) rfl)).trans (and_congr_right fun h2 => ?_)
  refine (wc_getI (n' := 55) rfl (zcode_of mc_39 (r := (.getfield 54, 8, 0, 0)) rfl) rfl h2).trans ?_
  exact wp_call (q := ([.ref s0, .int (zfi σ 8 0 a2)], [])) (zcode_of mc_39 (r := (.invokevirtual 58, 1, 0, 1)) rfl) rfl (zCa_V (Nat.le_of_ble_eq_true rfl) rfl h1) ⟨Nat.le_of_ble_eq_true rfl, Nat.le_of_ble_eq_true rfl⟩
theorem b39_58 {σ : zSt} {P : Option Value → zSt → Prop} {a0 a2 : Nat} {x1 x5 s0 : Int32} {x3 : Int64} :
    wp 39 58 [some (.ref a0), some (.int x1), some (.ref a2), some (.long x3), none, some (.int x5)] [.int s0] σ P ↔ (if ¬ s0 = 0 then wp 39 83 [some (.ref a0), some (.int x1), some (.ref a2), some (.long x3), none, some (.int x5)] [] σ P else wp 39 61 [some (.ref a0), some (.int x1), some (.ref a2), some (.long x3), none, some (.int x5)] [] σ P) := by
  exact wp_jump (off := 25) (t := 83) (zcode_of mc_39 (r := (.ifCond .ne 25, 0, 0, 0)) rfl) rfl rfl (by decide)
theorem b39_61 {σ : zSt} {P : Option Value → zSt → Prop} (hC : CShape σ) {a0 a2 : Nat} {x1 x5 : Int32} {x3 : Int64} :
    wp 39 61 [some (.ref a0), some (.int x1), some (.ref a2), some (.long x3), none, some (.int x5)] [] σ P ↔ (zIs σ a0 4 ∧ wpM 190 [.ref (a0 + 1), .int x5] σ (fun r τ => wp 39 70 [some (.ref a0), some (.int x1), some (.ref a2), some (.long x3), none, some (.int x5)] (r.toList ++ []) τ P)) := by
  refine (wp_s (n := 62) (zcode_of mc_39 (r := (.aload_n 0, 0, 0, 0)) rfl) rfl rfl).trans ?_
  refine (wc_is (zcode_of mc_39 (r := (.getfield 12, 4, 0, 0)) rfl)).trans (and_congr_right fun h1 => ?_)
  refine (wc_getR (n' := 65) (d := 1) rfl (zcode_of mc_39 (r := (.getfield 12, 4, 0, 0)) rfl) rfl hC le_4_0 rfl rfl rfl h1).trans ?_
  refine (wp_s (n := 67) (zcode_of mc_39 (r := (.iload 5, 0, 0, 0)) rfl) rfl rfl).trans ?_
  exact wp_call (q := ([.ref (a0 + 1), .int x5], [])) (zcode_of mc_39 (r := (.invokevirtual 22, 190, 0, 1)) rfl) rfl (zCa_V (Nat.le_of_ble_eq_true rfl) rfl (zIs_of (cs_T hC le_4_0 h1))) ⟨Nat.le_of_ble_eq_true rfl, Nat.le_of_ble_eq_true rfl⟩
theorem b39_70 {σ : zSt} {P : Option Value → zSt → Prop} {a0 a2 s0 : Nat} {x1 x5 : Int32} {x3 : Int64} :
    wp 39 70 [some (.ref a0), some (.int x1), some (.ref a2), some (.long x3), none, some (.int x5)] [.ref s0] σ P ↔ (zIs σ s0 0 ∧ (zIs σ a2 8 ∧ wpM 1 [.ref s0, .int (zfi σ 8 1 a2)] σ (fun r τ => wp 39 80 [some (.ref a0), some (.int x1), some (.ref a2), some (.long x3), none, some (.int x5)] (r.toList ++ []) τ P))) := by
  refine (wc_chk (n' := 73) rfl (zcode_of mc_39 (r := (.checkcast 26, 0, 0, 0)) rfl)).trans (and_congr_right fun h1 => ?_)
  refine (wp_s (n := 74) (zcode_of mc_39 (r := (.aload_n 2, 0, 0, 0)) rfl) rfl rfl).trans ?_
  refine (wc_is (zcode_of mc_39 (r := (.getfield 62, 8, 1, 0)) rfl)).trans (and_congr_right fun h2 => ?_)
  refine (wc_getI (n' := 77) rfl (zcode_of mc_39 (r := (.getfield 62, 8, 1, 0)) rfl) rfl h2).trans ?_
  exact wp_call (q := ([.ref s0, .int (zfi σ 8 1 a2)], [])) (zcode_of mc_39 (r := (.invokevirtual 58, 1, 0, 1)) rfl) rfl (zCa_V (Nat.le_of_ble_eq_true rfl) rfl h1) ⟨Nat.le_of_ble_eq_true rfl, Nat.le_of_ble_eq_true rfl⟩
theorem b39_80 {σ : zSt} {P : Option Value → zSt → Prop} {a0 a2 : Nat} {x1 x5 s0 : Int32} {x3 : Int64} :
    wp 39 80 [some (.ref a0), some (.int x1), some (.ref a2), some (.long x3), none, some (.int x5)] [.int s0] σ P ↔ (if s0 = 0 then wp 39 85 [some (.ref a0), some (.int x1), some (.ref a2), some (.long x3), none, some (.int x5)] [] σ P else wp 39 83 [some (.ref a0), some (.int x1), some (.ref a2), some (.long x3), none, some (.int x5)] [] σ P) := by
  exact wp_jump (off := 5) (t := 85) (zcode_of mc_39 (r := (.ifCond .eq 5, 0, 0, 0)) rfl) rfl rfl (by decide)
theorem b39_83 {σ : zSt} {P : Option Value → zSt → Prop} {a0 a2 : Nat} {x1 x5 : Int32} {x3 : Int64} :
    wp 39 83 [some (.ref a0), some (.int x1), some (.ref a2), some (.long x3), none, some (.int x5)] [] σ P ↔ (((1 : Int32) = 0 ∨ (1 : Int32) = 1) ∧ P (some (.int 1)) σ) := by
  refine (wp_ic (n' := 84) rfl (zcode_of mc_39 (r := (.iconst 1, 0, 0, 0)) rfl) ci_1).trans ?_
  exact wp_retZ (zcode_of mc_39 (r := (.ireturn, 0, 0, 0)) rfl) rfl
theorem b39_85 {σ : zSt} {P : Option Value → zSt → Prop} {a0 a2 : Nat} {x1 x5 : Int32} {x3 : Int64} :
    wp 39 85 [some (.ref a0), some (.int x1), some (.ref a2), some (.long x3), none, some (.int x5)] [] σ P ↔ wp 39 12 [some (.ref a0), some (.int x1), some (.ref a2), some (.long x3), none, some (.int (x5 + 1))] [] σ P := by
  refine (wp_inc (n' := 88) rfl (zcode_of mc_39 (r := (.iinc 5 1, 0, 0, 0)) rfl) rfl rfl ci_1).trans ?_
  exact wp_goto (off := (-76)) (t := 12) (zcode_of mc_39 (r := (.goto (-76), 0, 0, 0)) rfl) (by decide)
theorem b39_91 {σ : zSt} {P : Option Value → zSt → Prop} {a0 a2 : Nat} {x1 x5 : Int32} {x3 : Int64} :
    wp 39 91 [some (.ref a0), some (.int x1), some (.ref a2), some (.long x3), none, some (.int x5)] [] σ P ↔ (((0 : Int32) = 0 ∨ (0 : Int32) = 1) ∧ P (some (.int 0)) σ) := by
  refine (wp_ic (n' := 92) rfl (zcode_of mc_39 (r := (.iconst 0, 0, 0, 0)) rfl) ci_0).trans ?_
  exact wp_retZ (zcode_of mc_39 (r := (.ireturn, 0, 0, 0)) rfl) rfl
theorem mc_40 : mCode 40 = zc_40 := rfl
theorem b40 {σ : zSt} {P : Option Value → zSt → Prop} {a0 : Nat} {x1 : Int64} :
    wpM 40 [.ref a0, .long x1] σ P ↔ wp 40 2 [some (.ref a0), some (.long x1), none, some (.int 0)] [] σ P := by
  show wp 40 0 [some (.ref a0), some (.long x1), none, none] [] σ P ↔ _
  refine (wp_ic (n' := 1) rfl (zcode_of mc_40 (r := (.iconst 0, 0, 0, 0)) rfl) ci_0).trans ?_
  refine (wp_s (n := 2) (zcode_of mc_40 (r := (.istore_n 3, 0, 0, 0)) rfl) rfl rfl).trans ?_
  exact Iff.rfl
theorem b40_2 {σ : zSt} {P : Option Value → zSt → Prop} (hC : CShape σ) {a0 : Nat} {x3 : Int32} {x1 : Int64} :
    wp 40 2 [some (.ref a0), some (.long x1), none, some (.int x3)] [] σ P ↔ (zIs σ a0 4 ∧ wpM 187 [.ref (a0 + 1)] σ (fun r τ => wp 40 10 [some (.ref a0), some (.long x1), none, some (.int x3)] (r.toList ++ [.int x3]) τ P)) := by
  refine (wp_s (n := 3) (zcode_of mc_40 (r := (.iload_n 3, 0, 0, 0)) rfl) rfl rfl).trans ?_
  refine (wp_s (n := 4) (zcode_of mc_40 (r := (.aload_n 0, 0, 0, 0)) rfl) rfl rfl).trans ?_
  refine (wc_is (zcode_of mc_40 (r := (.getfield 12, 4, 0, 0)) rfl)).trans (and_congr_right fun h1 => ?_)
  refine (wc_getR (n' := 7) (d := 1) rfl (zcode_of mc_40 (r := (.getfield 12, 4, 0, 0)) rfl) rfl hC le_4_0 rfl rfl rfl h1).trans ?_
  exact wp_call (q := ([.ref (a0 + 1)], [.int x3])) (zcode_of mc_40 (r := (.invokevirtual 18, 187, 0, 0)) rfl) rfl (zCa_V (Nat.le_of_ble_eq_true rfl) rfl (zIs_of (cs_T hC le_4_0 h1))) ⟨Nat.le_of_ble_eq_true rfl, Nat.le_of_ble_eq_true rfl⟩
theorem b40_10 {σ : zSt} {P : Option Value → zSt → Prop} {a0 : Nat} {x3 s0 s1 : Int32} {x1 : Int64} :
    wp 40 10 [some (.ref a0), some (.long x1), none, some (.int x3)] [.int s0, .int s1] σ P ↔ (if s0 ≤ s1 then wp 40 53 [some (.ref a0), some (.long x1), none, some (.int x3)] [] σ P else wp 40 13 [some (.ref a0), some (.long x1), none, some (.int x3)] [] σ P) := by
  exact wp_jump (off := 43) (t := 53) (zcode_of mc_40 (r := (.if_icmp .ge 43, 0, 0, 0)) rfl) rfl rfl (by decide)
theorem b40_13 {σ : zSt} {P : Option Value → zSt → Prop} {a0 : Nat} {x3 : Int32} {x1 : Int64} :
    wp 40 13 [some (.ref a0), some (.long x1), none, some (.int x3)] [] σ P ↔ wpM 108 [.int x3] σ (fun r τ => wp 40 18 [some (.ref a0), some (.long x1), none, some (.int x3)] (r.toList ++ [.long x1]) τ P) := by
  refine (wp_s (n := 14) (zcode_of mc_40 (r := (.lload_n 1, 0, 0, 0)) rfl) rfl rfl).trans ?_
  refine (wp_s (n := 15) (zcode_of mc_40 (r := (.iload_n 3, 0, 0, 0)) rfl) rfl rfl).trans ?_
  exact wp_call (q := ([.int x3], [.long x1])) (zcode_of mc_40 (r := (.invokestatic 46, 108, 4, 1)) rfl) rfl rfl ⟨Nat.le_of_ble_eq_true rfl, Nat.le_of_ble_eq_true rfl⟩
theorem b40_18 {σ : zSt} {P : Option Value → zSt → Prop} {a0 : Nat} {x3 : Int32} {x1 s0 s1 : Int64} :
    wp 40 18 [some (.ref a0), some (.long x1), none, some (.int x3)] [.long s0, .long s1] σ P ↔ (if (lg_cmp (s1 &&& s0) 0) = 0 then wp 40 47 [some (.ref a0), some (.long x1), none, some (.int x3)] [] σ P else wp 40 24 [some (.ref a0), some (.long x1), none, some (.int x3)] [] σ P) := by
  refine (wp_s (n := 19) (zcode_of mc_40 (r := (.land, 0, 0, 0)) rfl) rfl rfl).trans ?_
  refine (wp_lc (n' := 20) rfl (zcode_of mc_40 (r := (.lconst 0, 0, 0, 0)) rfl) cc_0).trans ?_
  refine (wp_s (n := 21) (zcode_of mc_40 (r := (.lcmp, 0, 0, 0)) rfl) rfl rfl).trans ?_
  exact wp_jump (off := 26) (t := 47) (zcode_of mc_40 (r := (.ifCond .eq 26, 0, 0, 0)) rfl) rfl rfl (by decide)
theorem b40_24 {σ : zSt} {P : Option Value → zSt → Prop} (hC : CShape σ) {a0 : Nat} {x3 : Int32} {x1 : Int64} :
    wp 40 24 [some (.ref a0), some (.long x1), none, some (.int x3)] [] σ P ↔ (zIs σ a0 4 ∧ wpM 190 [.ref (a0 + 1), .int x3] σ (fun r τ => wp 40 32 [some (.ref a0), some (.long x1), none, some (.int x3)] (r.toList ++ []) τ P)) := by
  refine (wp_s (n := 25) (zcode_of mc_40 (r := (.aload_n 0, 0, 0, 0)) rfl) rfl rfl).trans ?_
  refine (wc_is (zcode_of mc_40 (r := (.getfield 12, 4, 0, 0)) rfl)).trans (and_congr_right fun h1 => ?_)
  refine (wc_getR (n' := 28) (d := 1) rfl (zcode_of mc_40 (r := (.getfield 12, 4, 0, 0)) rfl) rfl hC le_4_0 rfl rfl rfl h1).trans ?_
  refine (wp_s (n := 29) (zcode_of mc_40 (r := (.iload_n 3, 0, 0, 0)) rfl) rfl rfl).trans ?_
  exact wp_call (q := ([.ref (a0 + 1), .int x3], [])) (zcode_of mc_40 (r := (.invokevirtual 22, 190, 0, 1)) rfl) rfl (zCa_V (Nat.le_of_ble_eq_true rfl) rfl (zIs_of (cs_T hC le_4_0 h1))) ⟨Nat.le_of_ble_eq_true rfl, Nat.le_of_ble_eq_true rfl⟩
theorem b40_32 {σ : zSt} {P : Option Value → zSt → Prop} {a0 s0 : Nat} {x3 : Int32} {x1 : Int64} :
    wp 40 32 [some (.ref a0), some (.long x1), none, some (.int x3)] [.ref s0] σ P ↔ (zIs σ s0 0 ∧ (if ¬ (lg_cmp ((zfl σ 0 6 s0) &&& x1) 0) = 0 then wp 40 47 [some (.ref a0), some (.long x1), none, some (.int x3)] [] σ P else wp 40 45 [some (.ref a0), some (.long x1), none, some (.int x3)] [] σ P)) := by
  refine (wc_chk (n' := 35) rfl (zcode_of mc_40 (r := (.checkcast 26, 0, 0, 0)) rfl)).trans (and_congr_right fun h1 => ?_)
  refine (wc_getL (n' := 38) rfl (zcode_of mc_40 (r := (.getfield 33, 0, 6, 0)) rfl) rfl h1).trans ?_
  refine (wp_s (n := 39) (zcode_of mc_40 (r := (.lload_n 1, 0, 0, 0)) rfl) rfl rfl).trans ?_
  refine (wp_s (n := 40) (zcode_of mc_40 (r := (.land, 0, 0, 0)) rfl) rfl rfl).trans ?_
  refine (wp_lc (n' := 41) rfl (zcode_of mc_40 (r := (.lconst 0, 0, 0, 0)) rfl) cc_0).trans ?_
  refine (wp_s (n := 42) (zcode_of mc_40 (r := (.lcmp, 0, 0, 0)) rfl) rfl rfl).trans ?_
  exact wp_jump (off := 5) (t := 47) (zcode_of mc_40 (r := (.ifCond .ne 5, 0, 0, 0)) rfl) rfl rfl (by decide)
theorem b40_45 {σ : zSt} {P : Option Value → zSt → Prop} {a0 : Nat} {x3 : Int32} {x1 : Int64} :
    wp 40 45 [some (.ref a0), some (.long x1), none, some (.int x3)] [] σ P ↔ P (some (.int x3)) σ := by
  refine (wp_s (n := 46) (zcode_of mc_40 (r := (.iload_n 3, 0, 0, 0)) rfl) rfl rfl).trans ?_
  exact wp_retI (zcode_of mc_40 (r := (.ireturn, 0, 0, 0)) rfl) rfl
theorem b40_47 {σ : zSt} {P : Option Value → zSt → Prop} {a0 : Nat} {x3 : Int32} {x1 : Int64} :
    wp 40 47 [some (.ref a0), some (.long x1), none, some (.int x3)] [] σ P ↔ wp 40 2 [some (.ref a0), some (.long x1), none, some (.int (x3 + 1))] [] σ P := by
  refine (wp_inc (n' := 50) rfl (zcode_of mc_40 (r := (.iinc 3 1, 0, 0, 0)) rfl) rfl rfl ci_1).trans ?_
  exact wp_goto (off := (-48)) (t := 2) (zcode_of mc_40 (r := (.goto (-48), 0, 0, 0)) rfl) (by decide)
theorem b40_53 {σ : zSt} {P : Option Value → zSt → Prop} {a0 : Nat} {x3 : Int32} {x1 : Int64} :
    wp 40 53 [some (.ref a0), some (.long x1), none, some (.int x3)] [] σ P ↔ P (some (.int (-1))) σ := by
  refine (wp_ic (n' := 54) rfl (zcode_of mc_40 (r := (.iconst (-1), 0, 0, 0)) rfl) ci_m1).trans ?_
  exact wp_retI (zcode_of mc_40 (r := (.ireturn, 0, 0, 0)) rfl) rfl
theorem mc_41 : mCode 41 = zc_41 := rfl
theorem b41 {σ : zSt} {P : Option Value → zSt → Prop} {a0 : Nat} :
    wpM 41 [.ref a0] σ P ↔ ((¬ (425 : Int32) < 0 ∧ Int32.toNatClampNeg 425 * componentBytes (siteTy 2) ≤ 536870912) ∧ wp 41 10 [some (.ref a0)] [.ref (znx σ), .ref a0] (zNewI σ 2 (Int32.toNatClampNeg 425)) P) := by
  show wp 41 0 [some (.ref a0)] [] σ P ↔ _
  refine (wp_s (n := 1) (zcode_of mc_41 (r := (.aload_n 0, 0, 0, 0)) rfl) rfl rfl).trans ?_
  refine (wc_oi (n' := 4) rfl (zcode_of mc_41 (r := (.invokespecial 3, 0, 5, 0)) rfl) (Nat.le_of_ble_eq_true rfl)).trans ?_
  refine (wp_s (n := 5) (zcode_of mc_41 (r := (.aload_n 0, 0, 0, 0)) rfl) rfl rfl).trans ?_
  refine (wp_sp (n' := 8) rfl (zcode_of mc_41 (r := (.sipush 425, 0, 0, 0)) rfl) cs_425).trans ?_
  refine (wc_na (n' := 10) rfl (zcode_of mc_41 (r := (.newarray .int, 2, 0, 0)) rfl)).trans (and_congr_right fun h1 => ?_)
  exact Iff.rfl
theorem b41_10 {σ : zSt} {P : Option Value → zSt → Prop} {a0 s0 s1 : Nat} :
    wp 41 10 [some (.ref a0)] [.ref s0, .ref s1] σ P ↔ (zIs σ s1 5 ∧ ((¬ (6 : Int32) < 0 ∧ Int32.toNatClampNeg 6 * componentBytes (siteTy 3) ≤ 536870912) ∧ wp 41 18 [some (.ref a0)] [.ref (znx (sfr σ 5 0 s1 (some s0))), .ref a0] (zNewI (sfr σ 5 0 s1 (some s0)) 3 (Int32.toNatClampNeg 6)) P)) := by
  refine (wc_isP (zcode_of mc_41 (r := (.putfield 9, 5, 0, 0)) rfl)).trans (and_congr_right fun h1 => ?_)
  refine (wc_putR (n' := 13) rfl (zcode_of mc_41 (r := (.putfield 9, 5, 0, 0)) rfl) rfl h1).trans ?_
  refine (wp_s (n := 14) (zcode_of mc_41 (r := (.aload_n 0, 0, 0, 0)) rfl) rfl rfl).trans ?_
  refine (wp_bp (n' := 16) rfl (zcode_of mc_41 (r := (.bipush 6, 0, 0, 0)) rfl) cb_6).trans ?_
  refine (wc_na (σ := sfr σ 5 0 s1 (some s0)) (n' := 18) rfl (zcode_of mc_41 (r := (.newarray .int, 3, 0, 0)) rfl)).trans (and_congr_right fun h2 => ?_)
  exact Iff.rfl
theorem b41_18 {σ : zSt} {P : Option Value → zSt → Prop} {a0 s0 s1 : Nat} :
    wp 41 18 [some (.ref a0)] [.ref s0, .ref s1] σ P ↔ (zIs σ s1 5 ∧ (zIs σ a0 5 ∧ P none (sfi (sfi (sfi (sfr σ 5 1 s1 (some s0)) 5 2 a0 0) 5 3 a0 0) 5 4 a0 0))) := by
  refine (wc_isP (zcode_of mc_41 (r := (.putfield 15, 5, 1, 0)) rfl)).trans (and_congr_right fun h1 => ?_)
  refine (wc_putR (n' := 21) rfl (zcode_of mc_41 (r := (.putfield 15, 5, 1, 0)) rfl) rfl h1).trans ?_
  refine (wp_s (n := 22) (zcode_of mc_41 (r := (.aload_n 0, 0, 0, 0)) rfl) rfl rfl).trans ?_
  refine (wp_ic (n' := 23) rfl (zcode_of mc_41 (r := (.iconst 0, 0, 0, 0)) rfl) ci_0).trans ?_
  refine (wc_isP (σ := sfr σ 5 1 s1 (some s0)) (zcode_of mc_41 (r := (.putfield 18, 5, 2, 0)) rfl)).trans (and_congr_right fun h2 => ?_)
  refine (wc_putI (σ := sfr σ 5 1 s1 (some s0)) (n' := 26) rfl (zcode_of mc_41 (r := (.putfield 18, 5, 2, 0)) rfl) rfl h2).trans ?_
  refine (wp_s (n := 27) (zcode_of mc_41 (r := (.aload_n 0, 0, 0, 0)) rfl) rfl rfl).trans ?_
  refine (wp_ic (n' := 28) rfl (zcode_of mc_41 (r := (.iconst 0, 0, 0, 0)) rfl) ci_0).trans ?_
  refine (wc_putI (σ := sfi (sfr σ 5 1 s1 (some s0)) 5 2 a0 0) (n' := 31) rfl (zcode_of mc_41 (r := (.putfield 22, 5, 3, 0)) rfl) rfl h2).trans ?_
  refine (wp_s (n := 32) (zcode_of mc_41 (r := (.aload_n 0, 0, 0, 0)) rfl) rfl rfl).trans ?_
  refine (wp_ic (n' := 33) rfl (zcode_of mc_41 (r := (.iconst 0, 0, 0, 0)) rfl) ci_0).trans ?_
  refine (wc_putI (σ := sfi (sfi (sfr σ 5 1 s1 (some s0)) 5 2 a0 0) 5 3 a0 0) (n' := 36) rfl (zcode_of mc_41 (r := (.putfield 25, 5, 4, 0)) rfl) rfl h2).trans ?_
  exact wp_retV (zcode_of mc_41 (r := (.return_, 0, 0, 0)) rfl) rfl
theorem mc_42 : mCode 42 = zc_42 := rfl
theorem b42 {σ : zSt} {P : Option Value → zSt → Prop} (hC : CShape σ) {a0 a1 : Nat} {x2 : Int32} :
    wpM 42 [.ref a0, .ref a1, .int x2] σ P ↔ (zIs σ a0 5 ∧ (zIs σ a1 0 ∧ wpM 187 [.ref (a1 + 2)] (sfi (sfi σ 5 2 a0 0) 5 3 a0 0) (fun r τ => wp 42 18 [some (.ref a0), some (.ref a1), some (.int x2), none] (r.toList ++ [.ref a0]) τ P))) := by
  show wp 42 0 [some (.ref a0), some (.ref a1), some (.int x2), none] [] σ P ↔ _
  refine (wp_s (n := 1) (zcode_of mc_42 (r := (.aload_n 0, 0, 0, 0)) rfl) rfl rfl).trans ?_
  refine (wp_ic (n' := 2) rfl (zcode_of mc_42 (r := (.iconst 0, 0, 0, 0)) rfl) ci_0).trans ?_
  refine (wc_isP (zcode_of mc_42 (r := (.putfield 18, 5, 2, 0)) rfl)).trans (and_congr_right fun h1 => ?_)
  refine (wc_putI (n' := 5) rfl (zcode_of mc_42 (r := (.putfield 18, 5, 2, 0)) rfl) rfl h1).trans ?_
  refine (wp_s (n := 6) (zcode_of mc_42 (r := (.aload_n 0, 0, 0, 0)) rfl) rfl rfl).trans ?_
  refine (wp_ic (n' := 7) rfl (zcode_of mc_42 (r := (.iconst 0, 0, 0, 0)) rfl) ci_0).trans ?_
  refine (wc_putI (σ := sfi σ 5 2 a0 0) (n' := 10) rfl (zcode_of mc_42 (r := (.putfield 22, 5, 3, 0)) rfl) rfl h1).trans ?_
  refine (wp_s (n := 11) (zcode_of mc_42 (r := (.aload_n 0, 0, 0, 0)) rfl) rfl rfl).trans ?_
  refine (wp_s (n := 12) (zcode_of mc_42 (r := (.aload_n 1, 0, 0, 0)) rfl) rfl rfl).trans ?_
  refine (wc_is (σ := sfi (sfi σ 5 2 a0 0) 5 3 a0 0) (zcode_of mc_42 (r := (.getfield 28, 0, 1, 0)) rfl)).trans (and_congr_right fun h2 => ?_)
  refine (wc_getR (σ := sfi (sfi σ 5 2 a0 0) 5 3 a0 0) (n' := 15) (d := 2) rfl (zcode_of mc_42 (r := (.getfield 28, 0, 1, 0)) rfl) rfl (cs_sfi (cs_sfi hC)) le_0_1 rfl rfl rfl h2).trans ?_
  exact wp_call (q := ([.ref (a1 + 2)], [.ref a0])) (zcode_of mc_42 (r := (.invokevirtual 34, 187, 0, 0)) rfl) rfl (zCa_V (Nat.le_of_ble_eq_true rfl) rfl (zIs_of (cs_T (cs_sfi (cs_sfi hC)) le_0_1 h2))) ⟨Nat.le_of_ble_eq_true rfl, Nat.le_of_ble_eq_true rfl⟩
theorem b42_18 {σ : zSt} {P : Option Value → zSt → Prop} {a0 a1 s1 : Nat} {x2 s0 : Int32} {u3 : Option Value} :
    wp 42 18 [some (.ref a0), some (.ref a1), some (.int x2), u3] [.int s0, .ref s1] σ P ↔ (zIs σ s1 5 ∧ wpM 46 [.ref s1, .int s0] σ (fun r τ => wp 42 21 [some (.ref a0), some (.ref a1), some (.int x2), u3] (r.toList ++ []) τ P)) := by
  refine (wc_isV (cl := 5) (rest := []) (zcode_of mc_42 (r := (.invokevirtual 39, 46, 0, 1)) rfl) rfl rfl rfl).trans (and_congr_right fun h1 => ?_)
  exact wp_call (q := ([.ref s1, .int s0], [])) (zcode_of mc_42 (r := (.invokevirtual 39, 46, 0, 1)) rfl) rfl (zCa_V (Nat.le_of_ble_eq_true rfl) rfl h1) ⟨Nat.le_of_ble_eq_true rfl, Nat.le_of_ble_eq_true rfl⟩
theorem b42_21 {σ : zSt} {P : Option Value → zSt → Prop} {a0 a1 : Nat} {x2 : Int32} {u3 : Option Value} :
    wp 42 21 [some (.ref a0), some (.ref a1), some (.int x2), u3] [] σ P ↔ (zIs σ a1 0 ∧ (zIs σ a0 5 ∧ wpM 46 [.ref a0, .int (zfi σ 0 5 a1)] σ (fun r τ => wp 42 29 [some (.ref a0), some (.ref a1), some (.int x2), u3] (r.toList ++ []) τ P))) := by
  refine (wp_s (n := 22) (zcode_of mc_42 (r := (.aload_n 0, 0, 0, 0)) rfl) rfl rfl).trans ?_
  refine (wp_s (n := 23) (zcode_of mc_42 (r := (.aload_n 1, 0, 0, 0)) rfl) rfl rfl).trans ?_
  refine (wc_is (zcode_of mc_42 (r := (.getfield 43, 0, 5, 0)) rfl)).trans (and_congr_right fun h1 => ?_)
  refine (wc_getI (n' := 26) rfl (zcode_of mc_42 (r := (.getfield 43, 0, 5, 0)) rfl) rfl h1).trans ?_
  refine (wc_isV (cl := 5) (rest := []) (zcode_of mc_42 (r := (.invokevirtual 39, 46, 0, 1)) rfl) rfl rfl rfl).trans (and_congr_right fun h2 => ?_)
  exact wp_call (q := ([.ref a0, .int (zfi σ 0 5 a1)], [])) (zcode_of mc_42 (r := (.invokevirtual 39, 46, 0, 1)) rfl) rfl (zCa_V (Nat.le_of_ble_eq_true rfl) rfl h2) ⟨Nat.le_of_ble_eq_true rfl, Nat.le_of_ble_eq_true rfl⟩
theorem b42_29 {σ : zSt} {P : Option Value → zSt → Prop} {a0 a1 : Nat} {x2 : Int32} {u3 : Option Value} :
    wp 42 29 [some (.ref a0), some (.ref a1), some (.int x2), u3] [] σ P ↔ wp 42 31 [some (.ref a0), some (.ref a1), some (.int x2), some (.int 0)] [] σ P := by
  refine (wp_ic (n' := 30) rfl (zcode_of mc_42 (r := (.iconst 0, 0, 0, 0)) rfl) ci_0).trans ?_
  refine (wp_s (n := 31) (zcode_of mc_42 (r := (.istore_n 3, 0, 0, 0)) rfl) rfl rfl).trans ?_
  exact Iff.rfl
theorem b42_31 {σ : zSt} {P : Option Value → zSt → Prop} {a0 a1 : Nat} {x2 x3 : Int32} :
    wp 42 31 [some (.ref a0), some (.ref a1), some (.int x2), some (.int x3)] [] σ P ↔ (zIs σ a1 0 ∧ (if (zfi σ 0 5 a1) ≤ x3 then wp 42 65 [some (.ref a0), some (.ref a1), some (.int x2), some (.int x3)] [] σ P else wp 42 39 [some (.ref a0), some (.ref a1), some (.int x2), some (.int x3)] [] σ P)) := by
  refine (wp_s (n := 32) (zcode_of mc_42 (r := (.iload_n 3, 0, 0, 0)) rfl) rfl rfl).trans ?_
  refine (wp_s (n := 33) (zcode_of mc_42 (r := (.aload_n 1, 0, 0, 0)) rfl) rfl rfl).trans ?_
  refine (wc_is (zcode_of mc_42 (r := (.getfield 43, 0, 5, 0)) rfl)).trans (and_congr_right fun h1 => ?_)
  refine (wc_getI (n' := 36) rfl (zcode_of mc_42 (r := (.getfield 43, 0, 5, 0)) rfl) rfl h1).trans ?_
  exact wp_jump (off := 29) (t := 65) (zcode_of mc_42 (r := (.if_icmp .ge 29, 0, 0, 0)) rfl) rfl rfl (by decide)
theorem b42_39 {σ : zSt} {P : Option Value → zSt → Prop} (hC : CShape σ) {a0 a1 : Nat} {x2 x3 : Int32} :
    wp 42 39 [some (.ref a0), some (.ref a1), some (.int x2), some (.int x3)] [] σ P ↔ (zIs σ a1 0 ∧ (zIn x3 16 ∧ (zIs σ a0 5 ∧ wpM 46 [.ref a0, .int (zai σ 4 (a1 + 3) (Int32.toNatClampNeg x3))] σ (fun r τ => wp 42 49 [some (.ref a0), some (.ref a1), some (.int x2), some (.int x3)] (r.toList ++ []) τ P)))) := by
  refine (wp_s (n := 40) (zcode_of mc_42 (r := (.aload_n 0, 0, 0, 0)) rfl) rfl rfl).trans ?_
  refine (wp_s (n := 41) (zcode_of mc_42 (r := (.aload_n 1, 0, 0, 0)) rfl) rfl rfl).trans ?_
  refine (wc_is (zcode_of mc_42 (r := (.getfield 46, 0, 2, 0)) rfl)).trans (and_congr_right fun h1 => ?_)
  refine (wc_getR (n' := 44) (d := 3) rfl (zcode_of mc_42 (r := (.getfield 46, 0, 2, 0)) rfl) rfl hC le_0_2 rfl rfl rfl h1).trans ?_
  refine (wp_s (n := 45) (zcode_of mc_42 (r := (.iload_n 3, 0, 0, 0)) rfl) rfl rfl).trans ?_
  refine (wc_ld (n' := 46) rfl (zcode_of mc_42 (r := (.iaload, 0, 0, 0)) rfl) (cs_T hC le_0_2 h1) rfl).trans (and_congr_right fun h2 => ?_)
  refine (wc_isV (cl := 5) (rest := []) (zcode_of mc_42 (r := (.invokevirtual 39, 46, 0, 1)) rfl) rfl rfl rfl).trans (and_congr_right fun h3 => ?_)
  exact wp_call (q := ([.ref a0, .int (zai σ 4 (a1 + 3) (Int32.toNatClampNeg x3))], [])) (zcode_of mc_42 (r := (.invokevirtual 39, 46, 0, 1)) rfl) rfl (zCa_V (Nat.le_of_ble_eq_true rfl) rfl h3) ⟨Nat.le_of_ble_eq_true rfl, Nat.le_of_ble_eq_true rfl⟩
theorem b42_49 {σ : zSt} {P : Option Value → zSt → Prop} (hC : CShape σ) {a0 a1 : Nat} {x2 x3 : Int32} :
    wp 42 49 [some (.ref a0), some (.ref a1), some (.int x2), some (.int x3)] [] σ P ↔ (zIs σ a1 0 ∧ (zIn x3 16 ∧ (zIs σ a0 5 ∧ wpM 46 [.ref a0, .int (zai σ 5 (a1 + 4) (Int32.toNatClampNeg x3))] σ (fun r τ => wp 42 59 [some (.ref a0), some (.ref a1), some (.int x2), some (.int x3)] (r.toList ++ []) τ P)))) := by
  refine (wp_s (n := 50) (zcode_of mc_42 (r := (.aload_n 0, 0, 0, 0)) rfl) rfl rfl).trans ?_
  refine (wp_s (n := 51) (zcode_of mc_42 (r := (.aload_n 1, 0, 0, 0)) rfl) rfl rfl).trans ?_
  refine (wc_is (zcode_of mc_42 (r := (.getfield 47, 0, 3, 0)) rfl)).trans (and_congr_right fun h1 => ?_)
  refine (wc_getR (n' := 54) (d := 4) rfl (zcode_of mc_42 (r := (.getfield 47, 0, 3, 0)) rfl) rfl hC le_0_3 rfl rfl rfl h1).trans ?_
  refine (wp_s (n := 55) (zcode_of mc_42 (r := (.iload_n 3, 0, 0, 0)) rfl) rfl rfl).trans ?_
  refine (wc_ld (n' := 56) rfl (zcode_of mc_42 (r := (.iaload, 0, 0, 0)) rfl) (cs_T hC le_0_3 h1) rfl).trans (and_congr_right fun h2 => ?_)
  refine (wc_isV (cl := 5) (rest := []) (zcode_of mc_42 (r := (.invokevirtual 39, 46, 0, 1)) rfl) rfl rfl rfl).trans (and_congr_right fun h3 => ?_)
  exact wp_call (q := ([.ref a0, .int (zai σ 5 (a1 + 4) (Int32.toNatClampNeg x3))], [])) (zcode_of mc_42 (r := (.invokevirtual 39, 46, 0, 1)) rfl) rfl (zCa_V (Nat.le_of_ble_eq_true rfl) rfl h3) ⟨Nat.le_of_ble_eq_true rfl, Nat.le_of_ble_eq_true rfl⟩
theorem b42_59 {σ : zSt} {P : Option Value → zSt → Prop} {a0 a1 : Nat} {x2 x3 : Int32} :
    wp 42 59 [some (.ref a0), some (.ref a1), some (.int x2), some (.int x3)] [] σ P ↔ wp 42 31 [some (.ref a0), some (.ref a1), some (.int x2), some (.int (x3 + 1))] [] σ P := by
  refine (wp_inc (n' := 62) rfl (zcode_of mc_42 (r := (.iinc 3 1, 0, 0, 0)) rfl) rfl rfl ci_1).trans ?_
  exact wp_goto (off := (-31)) (t := 31) (zcode_of mc_42 (r := (.goto (-31), 0, 0, 0)) rfl) (by decide)
theorem b42_65 {σ : zSt} {P : Option Value → zSt → Prop} (hC : CShape σ) {a0 a1 : Nat} {x2 x3 : Int32} :
    wp 42 65 [some (.ref a0), some (.ref a1), some (.int x2), some (.int x3)] [] σ P ↔ (zIs σ a1 0 ∧ wpM 187 [.ref (a1 + 1)] σ (fun r τ => wp 42 73 [some (.ref a0), some (.ref a1), some (.int x2), some (.int x3)] (r.toList ++ [.ref a0]) τ P)) := by
  refine (wp_s (n := 66) (zcode_of mc_42 (r := (.aload_n 0, 0, 0, 0)) rfl) rfl rfl).trans ?_
  refine (wp_s (n := 67) (zcode_of mc_42 (r := (.aload_n 1, 0, 0, 0)) rfl) rfl rfl).trans ?_
  refine (wc_is (zcode_of mc_42 (r := (.getfield 50, 0, 0, 0)) rfl)).trans (and_congr_right fun h1 => ?_)
  refine (wc_getR (n' := 70) (d := 1) rfl (zcode_of mc_42 (r := (.getfield 50, 0, 0, 0)) rfl) rfl hC le_0_0 rfl rfl rfl h1).trans ?_
  exact wp_call (q := ([.ref (a1 + 1)], [.ref a0])) (zcode_of mc_42 (r := (.invokevirtual 34, 187, 0, 0)) rfl) rfl (zCa_V (Nat.le_of_ble_eq_true rfl) rfl (zIs_of (cs_T hC le_0_0 h1))) ⟨Nat.le_of_ble_eq_true rfl, Nat.le_of_ble_eq_true rfl⟩
theorem b42_73 {σ : zSt} {P : Option Value → zSt → Prop} {a0 a1 s1 : Nat} {x2 x3 s0 : Int32} :
    wp 42 73 [some (.ref a0), some (.ref a1), some (.int x2), some (.int x3)] [.int s0, .ref s1] σ P ↔ (zIs σ s1 5 ∧ wpM 46 [.ref s1, .int s0] σ (fun r τ => wp 42 76 [some (.ref a0), some (.ref a1), some (.int x2), some (.int x3)] (r.toList ++ []) τ P)) := by
  refine (wc_isV (cl := 5) (rest := []) (zcode_of mc_42 (r := (.invokevirtual 39, 46, 0, 1)) rfl) rfl rfl rfl).trans (and_congr_right fun h1 => ?_)
  exact wp_call (q := ([.ref s1, .int s0], [])) (zcode_of mc_42 (r := (.invokevirtual 39, 46, 0, 1)) rfl) rfl (zCa_V (Nat.le_of_ble_eq_true rfl) rfl h1) ⟨Nat.le_of_ble_eq_true rfl, Nat.le_of_ble_eq_true rfl⟩
theorem b42_76 {σ : zSt} {P : Option Value → zSt → Prop} {a0 a1 : Nat} {x2 x3 : Int32} :
    wp 42 76 [some (.ref a0), some (.ref a1), some (.int x2), some (.int x3)] [] σ P ↔ (zIs σ a0 5 ∧ wp 42 86 [some (.ref a0), some (.ref a1), some (.int x2), some (.int 0)] [] (sfi σ 5 4 a0 (zfi σ 5 2 a0)) P) := by
  refine (wp_s (n := 77) (zcode_of mc_42 (r := (.aload_n 0, 0, 0, 0)) rfl) rfl rfl).trans ?_
  refine (wp_s (n := 78) (zcode_of mc_42 (r := (.aload_n 0, 0, 0, 0)) rfl) rfl rfl).trans ?_
  refine (wc_is (zcode_of mc_42 (r := (.getfield 18, 5, 2, 0)) rfl)).trans (and_congr_right fun h1 => ?_)
  refine (wc_getI (n' := 81) rfl (zcode_of mc_42 (r := (.getfield 18, 5, 2, 0)) rfl) rfl h1).trans ?_
  refine (wc_putI (n' := 84) rfl (zcode_of mc_42 (r := (.putfield 25, 5, 4, 0)) rfl) rfl h1).trans ?_
  refine (wp_ic (n' := 85) rfl (zcode_of mc_42 (r := (.iconst 0, 0, 0, 0)) rfl) ci_0).trans ?_
  refine (wp_s (n := 86) (zcode_of mc_42 (r := (.istore_n 3, 0, 0, 0)) rfl) rfl rfl).trans ?_
  exact Iff.rfl
theorem b42_86 {σ : zSt} {P : Option Value → zSt → Prop} (hC : CShape σ) {a0 a1 : Nat} {x2 x3 : Int32} :
    wp 42 86 [some (.ref a0), some (.ref a1), some (.int x2), some (.int x3)] [] σ P ↔ (zIs σ a1 0 ∧ wpM 187 [.ref (a1 + 1)] σ (fun r τ => wp 42 94 [some (.ref a0), some (.ref a1), some (.int x2), some (.int x3)] (r.toList ++ [.int x3]) τ P)) := by
  refine (wp_s (n := 87) (zcode_of mc_42 (r := (.iload_n 3, 0, 0, 0)) rfl) rfl rfl).trans ?_
  refine (wp_s (n := 88) (zcode_of mc_42 (r := (.aload_n 1, 0, 0, 0)) rfl) rfl rfl).trans ?_
  refine (wc_is (zcode_of mc_42 (r := (.getfield 50, 0, 0, 0)) rfl)).trans (and_congr_right fun h1 => ?_)
  refine (wc_getR (n' := 91) (d := 1) rfl (zcode_of mc_42 (r := (.getfield 50, 0, 0, 0)) rfl) rfl hC le_0_0 rfl rfl rfl h1).trans ?_
  exact wp_call (q := ([.ref (a1 + 1)], [.int x3])) (zcode_of mc_42 (r := (.invokevirtual 34, 187, 0, 0)) rfl) rfl (zCa_V (Nat.le_of_ble_eq_true rfl) rfl (zIs_of (cs_T hC le_0_0 h1))) ⟨Nat.le_of_ble_eq_true rfl, Nat.le_of_ble_eq_true rfl⟩
theorem b42_94 {σ : zSt} {P : Option Value → zSt → Prop} {a0 a1 : Nat} {x2 x3 s0 s1 : Int32} :
    wp 42 94 [some (.ref a0), some (.ref a1), some (.int x2), some (.int x3)] [.int s0, .int s1] σ P ↔ (if s0 ≤ s1 then wp 42 145 [some (.ref a0), some (.ref a1), some (.int x2), some (.int x3)] [] σ P else wp 42 97 [some (.ref a0), some (.ref a1), some (.int x2), some (.int x3)] [] σ P) := by
  exact wp_jump (off := 51) (t := 145) (zcode_of mc_42 (r := (.if_icmp .ge 51, 0, 0, 0)) rfl) rfl rfl (by decide)
theorem b42_97 {σ : zSt} {P : Option Value → zSt → Prop} {a0 a1 : Nat} {x2 x3 : Int32} :
    wp 42 97 [some (.ref a0), some (.ref a1), some (.int x2), some (.int x3)] [] σ P ↔ (if 6 ≤ x3 then wp 42 145 [some (.ref a0), some (.ref a1), some (.int x2), some (.int x3)] [] σ P else wp 42 103 [some (.ref a0), some (.ref a1), some (.int x2), some (.int x3)] [] σ P) := by
  refine (wp_s (n := 98) (zcode_of mc_42 (r := (.iload_n 3, 0, 0, 0)) rfl) rfl rfl).trans ?_
  refine (wp_bp (n' := 100) rfl (zcode_of mc_42 (r := (.bipush 6, 0, 0, 0)) rfl) cb_6).trans ?_
  exact wp_jump (off := 45) (t := 145) (zcode_of mc_42 (r := (.if_icmp .ge 45, 0, 0, 0)) rfl) rfl rfl (by decide)
theorem b42_103 {σ : zSt} {P : Option Value → zSt → Prop} (hC : CShape σ) {a0 a1 : Nat} {x2 x3 : Int32} :
    wp 42 103 [some (.ref a0), some (.ref a1), some (.int x2), some (.int x3)] [] σ P ↔ (zIs σ a1 0 ∧ wpM 190 [.ref (a1 + 1), .int x3] σ (fun r τ => wp 42 112 [some (.ref a0), some (.ref a1), some (.int x2), some (.int x3)] (r.toList ++ [.ref a0]) τ P)) := by
  refine (wp_s (n := 104) (zcode_of mc_42 (r := (.aload_n 0, 0, 0, 0)) rfl) rfl rfl).trans ?_
  refine (wp_s (n := 105) (zcode_of mc_42 (r := (.aload_n 1, 0, 0, 0)) rfl) rfl rfl).trans ?_
  refine (wc_is (zcode_of mc_42 (r := (.getfield 50, 0, 0, 0)) rfl)).trans (and_congr_right fun h1 => ?_)
  refine (wc_getR (n' := 108) (d := 1) rfl (zcode_of mc_42 (r := (.getfield 50, 0, 0, 0)) rfl) rfl hC le_0_0 rfl rfl rfl h1).trans ?_
  refine (wp_s (n := 109) (zcode_of mc_42 (r := (.iload_n 3, 0, 0, 0)) rfl) rfl rfl).trans ?_
  exact wp_call (q := ([.ref (a1 + 1), .int x3], [.ref a0])) (zcode_of mc_42 (r := (.invokevirtual 53, 190, 0, 1)) rfl) rfl (zCa_V (Nat.le_of_ble_eq_true rfl) rfl (zIs_of (cs_T hC le_0_0 h1))) ⟨Nat.le_of_ble_eq_true rfl, Nat.le_of_ble_eq_true rfl⟩
theorem b42_112 {σ : zSt} {P : Option Value → zSt → Prop} {a0 a1 s0 s1 : Nat} {x2 x3 : Int32} :
    wp 42 112 [some (.ref a0), some (.ref a1), some (.int x2), some (.int x3)] [.ref s0, .ref s1] σ P ↔ (zIs σ s0 8 ∧ (zIs σ s1 5 ∧ wpM 43 [.ref s1, .ref s0, .int x2] σ (fun r τ => wp 42 119 [some (.ref a0), some (.ref a1), some (.int x2), some (.int x3)] (r.toList ++ []) τ P))) := by
  refine (wc_chk (n' := 115) rfl (zcode_of mc_42 (r := (.checkcast 57, 8, 0, 0)) rfl)).trans (and_congr_right fun h1 => ?_)
  refine (wp_s (n := 116) (zcode_of mc_42 (r := (.iload_n 2, 0, 0, 0)) rfl) rfl rfl).trans ?_
  refine (wc_isV (cl := 5) (rest := []) (zcode_of mc_42 (r := (.invokevirtual 59, 43, 0, 2)) rfl) rfl rfl rfl).trans (and_congr_right fun h2 => ?_)
  exact wp_call (q := ([.ref s1, .ref s0, .int x2], [])) (zcode_of mc_42 (r := (.invokevirtual 59, 43, 0, 2)) rfl) rfl (zCa_V (Nat.le_of_ble_eq_true rfl) rfl h2) ⟨Nat.le_of_ble_eq_true rfl, Nat.le_of_ble_eq_true rfl⟩
theorem b42_119 {σ : zSt} {P : Option Value → zSt → Prop} (hC : CShape σ) {a0 a1 : Nat} {x2 x3 : Int32} :
    wp 42 119 [some (.ref a0), some (.ref a1), some (.int x2), some (.int x3)] [] σ P ↔ (zIs σ a0 5 ∧ (zIn x3 6 ∧ wp 42 86 [some (.ref a0), some (.ref a1), some (.int x2), some (.int (x3 + 1))] [] (sfi (sai σ 3 (a0 + 2) (Int32.toNatClampNeg x3) (zfi σ 5 2 a0)) 5 3 a0 ((zfi σ 5 3 a0) + 1)) P)) := by
  refine (wp_s (n := 120) (zcode_of mc_42 (r := (.aload_n 0, 0, 0, 0)) rfl) rfl rfl).trans ?_
  refine (wc_is (zcode_of mc_42 (r := (.getfield 15, 5, 1, 0)) rfl)).trans (and_congr_right fun h1 => ?_)
  refine (wc_getR (n' := 123) (d := 2) rfl (zcode_of mc_42 (r := (.getfield 15, 5, 1, 0)) rfl) rfl hC le_5_1 rfl rfl rfl h1).trans ?_
  refine (wp_s (n := 124) (zcode_of mc_42 (r := (.iload_n 3, 0, 0, 0)) rfl) rfl rfl).trans ?_
  refine (wp_s (n := 125) (zcode_of mc_42 (r := (.aload_n 0, 0, 0, 0)) rfl) rfl rfl).trans ?_
  refine (wc_getI (n' := 128) rfl (zcode_of mc_42 (r := (.getfield 18, 5, 2, 0)) rfl) rfl h1).trans ?_
  refine (wc_st (n' := 129) rfl (zcode_of mc_42 (r := (.iastore, 0, 0, 0)) rfl) (cs_T hC le_5_1 h1) rfl).trans (and_congr_right fun h2 => ?_)
  refine (wp_s (n := 130) (zcode_of mc_42 (r := (.aload_n 0, 0, 0, 0)) rfl) rfl rfl).trans ?_
  refine (wp_s (n := 131) (zcode_of mc_42 (r := (.dup, 0, 0, 0)) rfl) rfl rfl).trans ?_
  refine (wc_getI (σ := sai σ 3 (a0 + 2) (Int32.toNatClampNeg x3) (zfi σ 5 2 a0)) (n' := 134) rfl (zcode_of mc_42 (r := (.getfield 22, 5, 3, 0)) rfl) rfl h1).trans ?_
  refine (wp_ic (n' := 135) rfl (zcode_of mc_42 (r := (.iconst 1, 0, 0, 0)) rfl) ci_1).trans ?_
  refine (wp_s (n := 136) (zcode_of mc_42 (r := (.iadd, 0, 0, 0)) rfl) rfl rfl).trans ?_
  refine (wc_putI (σ := sai σ 3 (a0 + 2) (Int32.toNatClampNeg x3) (zfi σ 5 2 a0)) (n' := 139) rfl (zcode_of mc_42 (r := (.putfield 22, 5, 3, 0)) rfl) rfl h1).trans ?_
  refine (wp_inc (n' := 142) rfl (zcode_of mc_42 (r := (.iinc 3 1, 0, 0, 0)) rfl) rfl rfl ci_1).trans ?_
  exact wp_goto (off := (-56)) (t := 86) (zcode_of mc_42 (r := (.goto (-56), 0, 0, 0)) rfl) (by decide)
theorem b42_145 {σ : zSt} {P : Option Value → zSt → Prop} {a0 a1 : Nat} {x2 x3 : Int32} :
    wp 42 145 [some (.ref a0), some (.ref a1), some (.int x2), some (.int x3)] [] σ P ↔ P none σ := by
  exact wp_retV (zcode_of mc_42 (r := (.return_, 0, 0, 0)) rfl) rfl
theorem mc_43 : mCode 43 = zc_43 := rfl
theorem b43 {σ : zSt} {P : Option Value → zSt → Prop} {a0 a1 : Nat} {x2 : Int32} :
    wpM 43 [.ref a0, .ref a1, .int x2] σ P ↔ (zIs σ a1 8 ∧ (if (zfi σ 8 3 a1) = 0 then wp 43 16 [some (.ref a0), some (.ref a1), some (.int x2)] [] σ P else wp 43 7 [some (.ref a0), some (.ref a1), some (.int x2)] [] σ P)) := by
  show wp 43 0 [some (.ref a0), some (.ref a1), some (.int x2)] [] σ P ↔ _
  refine (wp_s (n := 1) (zcode_of mc_43 (r := (.aload_n 1, 0, 0, 0)) rfl) rfl rfl).trans ?_
  refine (wc_is (zcode_of mc_43 (r := (.getfield 63, 8, 3, 0)) rfl)).trans (and_congr_right fun h1 => ?_)
  refine (wc_getI (n' := 4) rfl (zcode_of mc_43 (r := (.getfield 63, 8, 3, 0)) rfl) rfl h1).trans ?_
  exact wp_jump (off := 12) (t := 16) (zcode_of mc_43 (r := (.ifCond .eq 12, 0, 0, 0)) rfl) rfl rfl (by decide)
theorem b43_7 {σ : zSt} {P : Option Value → zSt → Prop} {a0 a1 : Nat} {x2 : Int32} :
    wp 43 7 [some (.ref a0), some (.ref a1), some (.int x2)] [] σ P ↔ (zIs σ a0 5 ∧ wpM 44 [.ref a0, .ref a1, .int x2] σ (fun r τ => wp 43 13 [some (.ref a0), some (.ref a1), some (.int x2)] (r.toList ++ []) τ P)) := by
  refine (wp_s (n := 8) (zcode_of mc_43 (r := (.aload_n 0, 0, 0, 0)) rfl) rfl rfl).trans ?_
  refine (wp_s (n := 9) (zcode_of mc_43 (r := (.aload_n 1, 0, 0, 0)) rfl) rfl rfl).trans ?_
  refine (wp_s (n := 10) (zcode_of mc_43 (r := (.iload_n 2, 0, 0, 0)) rfl) rfl rfl).trans ?_
  refine (wc_isV (cl := 5) (rest := []) (zcode_of mc_43 (r := (.invokevirtual 67, 44, 0, 2)) rfl) rfl rfl rfl).trans (and_congr_right fun h1 => ?_)
  exact wp_call (q := ([.ref a0, .ref a1, .int x2], [])) (zcode_of mc_43 (r := (.invokevirtual 67, 44, 0, 2)) rfl) rfl (zCa_V (Nat.le_of_ble_eq_true rfl) rfl h1) ⟨Nat.le_of_ble_eq_true rfl, Nat.le_of_ble_eq_true rfl⟩
theorem b43_13 {σ : zSt} {P : Option Value → zSt → Prop} {a0 a1 : Nat} {x2 : Int32} :
    wp 43 13 [some (.ref a0), some (.ref a1), some (.int x2)] [] σ P ↔ wp 43 26 [some (.ref a0), some (.ref a1), some (.int x2)] [] σ P := by
  exact wp_goto (off := 13) (t := 26) (zcode_of mc_43 (r := (.goto 13, 0, 0, 0)) rfl) (by decide)
theorem b43_16 {σ : zSt} {P : Option Value → zSt → Prop} (hC : CShape σ) {a0 a1 : Nat} {x2 : Int32} :
    wp 43 16 [some (.ref a0), some (.ref a1), some (.int x2)] [] σ P ↔ (zIs σ a1 8 ∧ (zIn x2 2 ∧ (zIs σ a0 5 ∧ wpM 45 [.ref a0, .ref ((a1 + 1) + 2 + 2 * Int32.toNatClampNeg x2)] σ (fun r τ => wp 43 26 [some (.ref a0), some (.ref a1), some (.int x2)] (r.toList ++ []) τ P)))) := by
  refine (wp_s (n := 17) (zcode_of mc_43 (r := (.aload_n 0, 0, 0, 0)) rfl) rfl rfl).trans ?_
  refine (wp_s (n := 18) (zcode_of mc_43 (r := (.aload_n 1, 0, 0, 0)) rfl) rfl rfl).trans ?_
  refine (wc_is (zcode_of mc_43 (r := (.getfield 70, 8, 4, 0)) rfl)).trans (and_congr_right fun h1 => ?_)
  refine (wc_getR (n' := 21) (d := 1) rfl (zcode_of mc_43 (r := (.getfield 70, 8, 4, 0)) rfl) rfl hC le_8_4 rfl rfl rfl h1).trans ?_
  refine (wp_s (n := 22) (zcode_of mc_43 (r := (.iload_n 2, 0, 0, 0)) rfl) rfl rfl).trans ?_
  refine (wc_ald (n' := 23) rfl (zcode_of mc_43 (r := (.aaload, 0, 0, 0)) rfl) hC la_6 rfl rfl rfl rfl rfl (cs_T hC le_8_4 h1)).trans (and_congr_right fun h2 => ?_)
  refine (wc_isV (cl := 5) (rest := []) (zcode_of mc_43 (r := (.invokevirtual 74, 45, 0, 1)) rfl) rfl rfl rfl).trans (and_congr_right fun h3 => ?_)
  exact wp_call (q := ([.ref a0, .ref ((a1 + 1) + 2 + 2 * Int32.toNatClampNeg x2)], [])) (zcode_of mc_43 (r := (.invokevirtual 74, 45, 0, 1)) rfl) rfl (zCa_V (Nat.le_of_ble_eq_true rfl) rfl h3) ⟨Nat.le_of_ble_eq_true rfl, Nat.le_of_ble_eq_true rfl⟩
theorem b43_26 {σ : zSt} {P : Option Value → zSt → Prop} {a0 a1 : Nat} {x2 : Int32} :
    wp 43 26 [some (.ref a0), some (.ref a1), some (.int x2)] [] σ P ↔ P none σ := by
  exact wp_retV (zcode_of mc_43 (r := (.return_, 0, 0, 0)) rfl) rfl
theorem mc_44 : mCode 44 = zc_44 := rfl
theorem b44 {σ : zSt} {P : Option Value → zSt → Prop} {a0 a1 : Nat} {x2 : Int32} :
    wpM 44 [.ref a0, .ref a1, .int x2] σ P ↔ (zIs σ a0 5 ∧ wpM 46 [.ref a0, .int (-2)] σ (fun r τ => wp 44 6 [some (.ref a0), some (.ref a1), some (.int x2), none, none] (r.toList ++ []) τ P)) := by
  show wp 44 0 [some (.ref a0), some (.ref a1), some (.int x2), none, none] [] σ P ↔ _
  refine (wp_s (n := 1) (zcode_of mc_44 (r := (.aload_n 0, 0, 0, 0)) rfl) rfl rfl).trans ?_
  refine (wp_bp (n' := 3) rfl (zcode_of mc_44 (r := (.bipush (-2), 0, 0, 0)) rfl) cb_m2).trans ?_
  refine (wc_isV (cl := 5) (rest := []) (zcode_of mc_44 (r := (.invokevirtual 39, 46, 0, 1)) rfl) rfl rfl rfl).trans (and_congr_right fun h1 => ?_)
  exact wp_call (q := ([.ref a0, .int (-2)], [])) (zcode_of mc_44 (r := (.invokevirtual 39, 46, 0, 1)) rfl) rfl (zCa_V (Nat.le_of_ble_eq_true rfl) rfl h1) ⟨Nat.le_of_ble_eq_true rfl, Nat.le_of_ble_eq_true rfl⟩
theorem b44_6 {σ : zSt} {P : Option Value → zSt → Prop} {a0 a1 : Nat} {x2 : Int32} {u3 u4 : Option Value} :
    wp 44 6 [some (.ref a0), some (.ref a1), some (.int x2), u3, u4] [] σ P ↔ (zIs σ a1 8 ∧ wpM 64 [.ref a1, .int x2] σ (fun r τ => wp 44 12 [some (.ref a0), some (.ref a1), some (.int x2), u3, u4] (r.toList ++ [.ref a0]) τ P)) := by
  refine (wp_s (n := 7) (zcode_of mc_44 (r := (.aload_n 0, 0, 0, 0)) rfl) rfl rfl).trans ?_
  refine (wp_s (n := 8) (zcode_of mc_44 (r := (.aload_n 1, 0, 0, 0)) rfl) rfl rfl).trans ?_
  refine (wp_s (n := 9) (zcode_of mc_44 (r := (.iload_n 2, 0, 0, 0)) rfl) rfl rfl).trans ?_
  refine (wc_isV (cl := 8) (rest := [.ref a0]) (zcode_of mc_44 (r := (.invokevirtual 78, 64, 0, 1)) rfl) rfl rfl rfl).trans (and_congr_right fun h1 => ?_)
  exact wp_call (q := ([.ref a1, .int x2], [.ref a0])) (zcode_of mc_44 (r := (.invokevirtual 78, 64, 0, 1)) rfl) rfl (zCa_V (Nat.le_of_ble_eq_true rfl) rfl h1) ⟨Nat.le_of_ble_eq_true rfl, Nat.le_of_ble_eq_true rfl⟩
theorem b44_12 {σ : zSt} {P : Option Value → zSt → Prop} {a0 a1 s1 : Nat} {x2 s0 : Int32} {u3 u4 : Option Value} :
    wp 44 12 [some (.ref a0), some (.ref a1), some (.int x2), u3, u4] [.int s0, .ref s1] σ P ↔ (zIs σ s1 5 ∧ wpM 46 [.ref s1, .int s0] σ (fun r τ => wp 44 15 [some (.ref a0), some (.ref a1), some (.int x2), u3, u4] (r.toList ++ []) τ P)) := by
  refine (wc_isV (cl := 5) (rest := []) (zcode_of mc_44 (r := (.invokevirtual 39, 46, 0, 1)) rfl) rfl rfl rfl).trans (and_congr_right fun h1 => ?_)
  exact wp_call (q := ([.ref s1, .int s0], [])) (zcode_of mc_44 (r := (.invokevirtual 39, 46, 0, 1)) rfl) rfl (zCa_V (Nat.le_of_ble_eq_true rfl) rfl h1) ⟨Nat.le_of_ble_eq_true rfl, Nat.le_of_ble_eq_true rfl⟩
theorem b44_15 {σ : zSt} {P : Option Value → zSt → Prop} {a0 a1 : Nat} {x2 : Int32} {u3 u4 : Option Value} :
    wp 44 15 [some (.ref a0), some (.ref a1), some (.int x2), u3, u4] [] σ P ↔ wp 44 17 [some (.ref a0), some (.ref a1), some (.int x2), some (.int 0), u4] [] σ P := by
  refine (wp_ic (n' := 16) rfl (zcode_of mc_44 (r := (.iconst 0, 0, 0, 0)) rfl) ci_0).trans ?_
  refine (wp_s (n := 17) (zcode_of mc_44 (r := (.istore_n 3, 0, 0, 0)) rfl) rfl rfl).trans ?_
  exact Iff.rfl
theorem b44_17 {σ : zSt} {P : Option Value → zSt → Prop} (hC : CShape σ) {a0 a1 : Nat} {x2 x3 : Int32} {u4 : Option Value} :
    wp 44 17 [some (.ref a0), some (.ref a1), some (.int x2), some (.int x3), u4] [] σ P ↔ (zIs σ a1 8 ∧ wpM 187 [.ref (a1 + 2)] σ (fun r τ => wp 44 25 [some (.ref a0), some (.ref a1), some (.int x2), some (.int x3), u4] (r.toList ++ [.int x3]) τ P)) := by
  refine (wp_s (n := 18) (zcode_of mc_44 (r := (.iload_n 3, 0, 0, 0)) rfl) rfl rfl).trans ?_
  refine (wp_s (n := 19) (zcode_of mc_44 (r := (.aload_n 1, 0, 0, 0)) rfl) rfl rfl).trans ?_
  refine (wc_is (zcode_of mc_44 (r := (.getfield 82, 8, 5, 0)) rfl)).trans (and_congr_right fun h1 => ?_)
  refine (wc_getR (n' := 22) (d := 2) rfl (zcode_of mc_44 (r := (.getfield 82, 8, 5, 0)) rfl) rfl hC le_8_5 rfl rfl rfl h1).trans ?_
  exact wp_call (q := ([.ref (a1 + 2)], [.int x3])) (zcode_of mc_44 (r := (.invokevirtual 34, 187, 0, 0)) rfl) rfl (zCa_V (Nat.le_of_ble_eq_true rfl) rfl (zIs_of (cs_T hC le_8_5 h1))) ⟨Nat.le_of_ble_eq_true rfl, Nat.le_of_ble_eq_true rfl⟩
theorem b44_25 {σ : zSt} {P : Option Value → zSt → Prop} {a0 a1 : Nat} {x2 x3 s0 s1 : Int32} {u4 : Option Value} :
    wp 44 25 [some (.ref a0), some (.ref a1), some (.int x2), some (.int x3), u4] [.int s0, .int s1] σ P ↔ (if s0 ≤ s1 then wp 44 69 [some (.ref a0), some (.ref a1), some (.int x2), some (.int x3), u4] [] σ P else wp 44 28 [some (.ref a0), some (.ref a1), some (.int x2), some (.int x3), u4] [] σ P) := by
  exact wp_jump (off := 44) (t := 69) (zcode_of mc_44 (r := (.if_icmp .ge 44, 0, 0, 0)) rfl) rfl rfl (by decide)
theorem b44_28 {σ : zSt} {P : Option Value → zSt → Prop} (hC : CShape σ) {a0 a1 : Nat} {x2 x3 : Int32} {u4 : Option Value} :
    wp 44 28 [some (.ref a0), some (.ref a1), some (.int x2), some (.int x3), u4] [] σ P ↔ (zIs σ a1 8 ∧ wpM 190 [.ref (a1 + 2), .int x3] σ (fun r τ => wp 44 36 [some (.ref a0), some (.ref a1), some (.int x2), some (.int x3), u4] (r.toList ++ []) τ P)) := by
  refine (wp_s (n := 29) (zcode_of mc_44 (r := (.aload_n 1, 0, 0, 0)) rfl) rfl rfl).trans ?_
  refine (wc_is (zcode_of mc_44 (r := (.getfield 82, 8, 5, 0)) rfl)).trans (and_congr_right fun h1 => ?_)
  refine (wc_getR (n' := 32) (d := 2) rfl (zcode_of mc_44 (r := (.getfield 82, 8, 5, 0)) rfl) rfl hC le_8_5 rfl rfl rfl h1).trans ?_
  refine (wp_s (n := 33) (zcode_of mc_44 (r := (.iload_n 3, 0, 0, 0)) rfl) rfl rfl).trans ?_
  exact wp_call (q := ([.ref (a1 + 2), .int x3], [])) (zcode_of mc_44 (r := (.invokevirtual 53, 190, 0, 1)) rfl) rfl (zCa_V (Nat.le_of_ble_eq_true rfl) rfl (zIs_of (cs_T hC le_8_5 h1))) ⟨Nat.le_of_ble_eq_true rfl, Nat.le_of_ble_eq_true rfl⟩
theorem b44_36 {σ : zSt} {P : Option Value → zSt → Prop} (hC : CShape σ) {a0 a1 s0 : Nat} {x2 x3 : Int32} {u4 : Option Value} :
    wp 44 36 [some (.ref a0), some (.ref a1), some (.int x2), some (.int x3), u4] [.ref s0] σ P ↔ (zIs σ s0 8 ∧ (zIn x2 2 ∧ wpM 15 [.ref ((s0 + 1) + 2 + 2 * Int32.toNatClampNeg x2)] σ (fun r τ => wp 44 51 [some (.ref a0), some (.ref a1), some (.int x2), some (.int x3), some (.ref s0)] (r.toList ++ []) τ P))) := by
  refine (wc_chk (n' := 39) rfl (zcode_of mc_44 (r := (.checkcast 57, 8, 0, 0)) rfl)).trans (and_congr_right fun h1 => ?_)
  refine (wp_s (n := 41) (zcode_of mc_44 (r := (.astore 4, 0, 0, 0)) rfl) rfl rfl).trans ?_
  refine (wp_s (n := 43) (zcode_of mc_44 (r := (.aload 4, 0, 0, 0)) rfl) rfl rfl).trans ?_
  refine (wc_getR (n' := 46) (d := 1) rfl (zcode_of mc_44 (r := (.getfield 70, 8, 4, 0)) rfl) rfl hC le_8_4 rfl rfl rfl h1).trans ?_
  refine (wp_s (n := 47) (zcode_of mc_44 (r := (.iload_n 2, 0, 0, 0)) rfl) rfl rfl).trans ?_
  refine (wc_ald (n' := 48) rfl (zcode_of mc_44 (r := (.aaload, 0, 0, 0)) rfl) hC la_6 rfl rfl rfl rfl rfl (cs_T hC le_8_4 h1)).trans (and_congr_right fun h2 => ?_)
  exact wp_call (q := ([.ref ((s0 + 1) + 2 + 2 * Int32.toNatClampNeg x2)], [])) (zcode_of mc_44 (r := (.invokevirtual 85, 15, 0, 0)) rfl) rfl (zCa_V (Nat.le_of_ble_eq_true rfl) rfl (zIs_of (cs_A hC la_6 (cs_T hC le_8_4 h1) h2))) ⟨Nat.le_of_ble_eq_true rfl, Nat.le_of_ble_eq_true rfl⟩
theorem b44_51 {σ : zSt} {P : Option Value → zSt → Prop} {a0 a1 a4 : Nat} {x2 x3 s0 : Int32} :
    wp 44 51 [some (.ref a0), some (.ref a1), some (.int x2), some (.int x3), some (.ref a4)] [.int s0] σ P ↔ (if ¬ s0 = 0 then wp 44 63 [some (.ref a0), some (.ref a1), some (.int x2), some (.int x3), some (.ref a4)] [] σ P else wp 44 54 [some (.ref a0), some (.ref a1), some (.int x2), some (.int x3), some (.ref a4)] [] σ P) := by
  exact wp_jump (off := 12) (t := 63) (zcode_of mc_44 (r := (.ifCond .ne 12, 0, 0, 0)) rfl) rfl rfl (by decide)
theorem b44_54 {σ : zSt} {P : Option Value → zSt → Prop} {a0 a1 a4 : Nat} {x2 x3 : Int32} :
    wp 44 54 [some (.ref a0), some (.ref a1), some (.int x2), some (.int x3), some (.ref a4)] [] σ P ↔ (zIs σ a4 8 ∧ (zIs σ a0 5 ∧ wpM 46 [.ref a0, .int (zfi σ 8 2 a4)] σ (fun r τ => wp 44 63 [some (.ref a0), some (.ref a1), some (.int x2), some (.int x3), some (.ref a4)] (r.toList ++ []) τ P))) := by
  refine (wp_s (n := 55) (zcode_of mc_44 (r := (.aload_n 0, 0, 0, 0)) rfl) rfl rfl).trans ?_
  refine (wp_s (n := 57) (zcode_of mc_44 (r := (.aload 4, 0, 0, 0)) rfl) rfl rfl).trans ?_
  refine (wc_is (zcode_of mc_44 (r := (.getfield 91, 8, 2, 0)) rfl)).trans (and_congr_right fun h1 => ?_)
  refine (wc_getI (n' := 60) rfl (zcode_of mc_44 (r := (.getfield 91, 8, 2, 0)) rfl) rfl h1).trans ?_
  refine (wc_isV (cl := 5) (rest := []) (zcode_of mc_44 (r := (.invokevirtual 39, 46, 0, 1)) rfl) rfl rfl rfl).trans (and_congr_right fun h2 => ?_)
  exact wp_call (q := ([.ref a0, .int (zfi σ 8 2 a4)], [])) (zcode_of mc_44 (r := (.invokevirtual 39, 46, 0, 1)) rfl) rfl (zCa_V (Nat.le_of_ble_eq_true rfl) rfl h2) ⟨Nat.le_of_ble_eq_true rfl, Nat.le_of_ble_eq_true rfl⟩
theorem b44_63 {σ : zSt} {P : Option Value → zSt → Prop} {a0 a1 a4 : Nat} {x2 x3 : Int32} :
    wp 44 63 [some (.ref a0), some (.ref a1), some (.int x2), some (.int x3), some (.ref a4)] [] σ P ↔ wp 44 17 [some (.ref a0), some (.ref a1), some (.int x2), some (.int (x3 + 1)), some (.ref a4)] [] σ P := by
  refine (wp_inc (n' := 66) rfl (zcode_of mc_44 (r := (.iinc 3 1, 0, 0, 0)) rfl) rfl rfl ci_1).trans ?_
  exact wp_goto (off := (-49)) (t := 17) (zcode_of mc_44 (r := (.goto (-49), 0, 0, 0)) rfl) (by decide)
theorem b44_69 {σ : zSt} {P : Option Value → zSt → Prop} {a0 a1 : Nat} {x2 x3 : Int32} {u4 : Option Value} :
    wp 44 69 [some (.ref a0), some (.ref a1), some (.int x2), some (.int x3), u4] [] σ P ↔ P none σ := by
  exact wp_retV (zcode_of mc_44 (r := (.return_, 0, 0, 0)) rfl) rfl
theorem mc_45 : mCode 45 = zc_45 := rfl
theorem b45 {σ : zSt} {P : Option Value → zSt → Prop} {a0 a1 : Nat} :
    wpM 45 [.ref a0, .ref a1] σ P ↔ (zIs σ a1 2 ∧ (zIs σ a0 5 ∧ wpM 46 [.ref a0, .int (zfi σ 2 1 a1)] σ (fun r τ => wp 45 8 [some (.ref a0), some (.ref a1), none] (r.toList ++ []) τ P))) := by
  show wp 45 0 [some (.ref a0), some (.ref a1), none] [] σ P ↔ _
  refine (wp_s (n := 1) (zcode_of mc_45 (r := (.aload_n 0, 0, 0, 0)) rfl) rfl rfl).trans ?_
  refine (wp_s (n := 2) (zcode_of mc_45 (r := (.aload_n 1, 0, 0, 0)) rfl) rfl rfl).trans ?_
  refine (wc_is (zcode_of mc_45 (r := (.getfield 94, 2, 1, 0)) rfl)).trans (and_congr_right fun h1 => ?_)
  refine (wc_getI (n' := 5) rfl (zcode_of mc_45 (r := (.getfield 94, 2, 1, 0)) rfl) rfl h1).trans ?_
  refine (wc_isV (cl := 5) (rest := []) (zcode_of mc_45 (r := (.invokevirtual 39, 46, 0, 1)) rfl) rfl rfl rfl).trans (and_congr_right fun h2 => ?_)
  exact wp_call (q := ([.ref a0, .int (zfi σ 2 1 a1)], [])) (zcode_of mc_45 (r := (.invokevirtual 39, 46, 0, 1)) rfl) rfl (zCa_V (Nat.le_of_ble_eq_true rfl) rfl h2) ⟨Nat.le_of_ble_eq_true rfl, Nat.le_of_ble_eq_true rfl⟩
theorem b45_8 {σ : zSt} {P : Option Value → zSt → Prop} {a0 a1 : Nat} {u2 : Option Value} :
    wp 45 8 [some (.ref a0), some (.ref a1), u2] [] σ P ↔ wp 45 10 [some (.ref a0), some (.ref a1), some (.int 0)] [] σ P := by
  refine (wp_ic (n' := 9) rfl (zcode_of mc_45 (r := (.iconst 0, 0, 0, 0)) rfl) ci_0).trans ?_
  refine (wp_s (n := 10) (zcode_of mc_45 (r := (.istore_n 2, 0, 0, 0)) rfl) rfl rfl).trans ?_
  exact Iff.rfl
theorem b45_10 {σ : zSt} {P : Option Value → zSt → Prop} {a0 a1 : Nat} {x2 : Int32} :
    wp 45 10 [some (.ref a0), some (.ref a1), some (.int x2)] [] σ P ↔ (zIs σ a1 2 ∧ (if (zfi σ 2 1 a1) ≤ x2 then wp 45 34 [some (.ref a0), some (.ref a1), some (.int x2)] [] σ P else wp 45 18 [some (.ref a0), some (.ref a1), some (.int x2)] [] σ P)) := by
  refine (wp_s (n := 11) (zcode_of mc_45 (r := (.iload_n 2, 0, 0, 0)) rfl) rfl rfl).trans ?_
  refine (wp_s (n := 12) (zcode_of mc_45 (r := (.aload_n 1, 0, 0, 0)) rfl) rfl rfl).trans ?_
  refine (wc_is (zcode_of mc_45 (r := (.getfield 94, 2, 1, 0)) rfl)).trans (and_congr_right fun h1 => ?_)
  refine (wc_getI (n' := 15) rfl (zcode_of mc_45 (r := (.getfield 94, 2, 1, 0)) rfl) rfl h1).trans ?_
  exact wp_jump (off := 19) (t := 34) (zcode_of mc_45 (r := (.if_icmp .ge 19, 0, 0, 0)) rfl) rfl rfl (by decide)
theorem b45_18 {σ : zSt} {P : Option Value → zSt → Prop} (hC : CShape σ) {a0 a1 : Nat} {x2 : Int32} :
    wp 45 18 [some (.ref a0), some (.ref a1), some (.int x2)] [] σ P ↔ (zIs σ a1 2 ∧ (zIn x2 64 ∧ (zIs σ a0 5 ∧ wpM 46 [.ref a0, .int (zai σ 1 (a1 + 1) (Int32.toNatClampNeg x2))] σ (fun r τ => wp 45 28 [some (.ref a0), some (.ref a1), some (.int x2)] (r.toList ++ []) τ P)))) := by
  refine (wp_s (n := 19) (zcode_of mc_45 (r := (.aload_n 0, 0, 0, 0)) rfl) rfl rfl).trans ?_
  refine (wp_s (n := 20) (zcode_of mc_45 (r := (.aload_n 1, 0, 0, 0)) rfl) rfl rfl).trans ?_
  refine (wc_is (zcode_of mc_45 (r := (.getfield 95, 2, 0, 0)) rfl)).trans (and_congr_right fun h1 => ?_)
  refine (wc_getR (n' := 23) (d := 1) rfl (zcode_of mc_45 (r := (.getfield 95, 2, 0, 0)) rfl) rfl hC le_2_0 rfl rfl rfl h1).trans ?_
  refine (wp_s (n := 24) (zcode_of mc_45 (r := (.iload_n 2, 0, 0, 0)) rfl) rfl rfl).trans ?_
  refine (wc_ld (n' := 25) rfl (zcode_of mc_45 (r := (.iaload, 0, 0, 0)) rfl) (cs_T hC le_2_0 h1) rfl).trans (and_congr_right fun h2 => ?_)
  refine (wc_isV (cl := 5) (rest := []) (zcode_of mc_45 (r := (.invokevirtual 39, 46, 0, 1)) rfl) rfl rfl rfl).trans (and_congr_right fun h3 => ?_)
  exact wp_call (q := ([.ref a0, .int (zai σ 1 (a1 + 1) (Int32.toNatClampNeg x2))], [])) (zcode_of mc_45 (r := (.invokevirtual 39, 46, 0, 1)) rfl) rfl (zCa_V (Nat.le_of_ble_eq_true rfl) rfl h3) ⟨Nat.le_of_ble_eq_true rfl, Nat.le_of_ble_eq_true rfl⟩
theorem b45_28 {σ : zSt} {P : Option Value → zSt → Prop} {a0 a1 : Nat} {x2 : Int32} :
    wp 45 28 [some (.ref a0), some (.ref a1), some (.int x2)] [] σ P ↔ wp 45 10 [some (.ref a0), some (.ref a1), some (.int (x2 + 1))] [] σ P := by
  refine (wp_inc (n' := 31) rfl (zcode_of mc_45 (r := (.iinc 2 1, 0, 0, 0)) rfl) rfl rfl ci_1).trans ?_
  exact wp_goto (off := (-21)) (t := 10) (zcode_of mc_45 (r := (.goto (-21), 0, 0, 0)) rfl) (by decide)
theorem b45_34 {σ : zSt} {P : Option Value → zSt → Prop} {a0 a1 : Nat} {x2 : Int32} :
    wp 45 34 [some (.ref a0), some (.ref a1), some (.int x2)] [] σ P ↔ P none σ := by
  exact wp_retV (zcode_of mc_45 (r := (.return_, 0, 0, 0)) rfl) rfl
theorem mc_46 : mCode 46 = zc_46 := rfl
theorem b46 {σ : zSt} {P : Option Value → zSt → Prop} {a0 : Nat} {x1 : Int32} :
    wpM 46 [.ref a0, .int x1] σ P ↔ (zIs σ a0 5 ∧ (if (zfi σ 5 2 a0) < 425 then wp 46 11 [some (.ref a0), some (.int x1)] [] σ P else wp 46 10 [some (.ref a0), some (.int x1)] [] σ P)) := by
  show wp 46 0 [some (.ref a0), some (.int x1)] [] σ P ↔ _
  refine (wp_s (n := 1) (zcode_of mc_46 (r := (.aload_n 0, 0, 0, 0)) rfl) rfl rfl).trans ?_
  refine (wc_is (zcode_of mc_46 (r := (.getfield 18, 5, 2, 0)) rfl)).trans (and_congr_right fun h1 => ?_)
  refine (wc_getI (n' := 4) rfl (zcode_of mc_46 (r := (.getfield 18, 5, 2, 0)) rfl) rfl h1).trans ?_
  refine (wp_sp (n' := 7) rfl (zcode_of mc_46 (r := (.sipush 425, 0, 0, 0)) rfl) cs_425).trans ?_
  exact wp_jump (off := 4) (t := 11) (zcode_of mc_46 (r := (.if_icmp .lt 4, 0, 0, 0)) rfl) rfl rfl (by decide)
theorem b46_10 {σ : zSt} {P : Option Value → zSt → Prop} {a0 : Nat} {x1 : Int32} :
    wp 46 10 [some (.ref a0), some (.int x1)] [] σ P ↔ P none σ := by
  exact wp_retV (zcode_of mc_46 (r := (.return_, 0, 0, 0)) rfl) rfl
theorem b46_11 {σ : zSt} {P : Option Value → zSt → Prop} (hC : CShape σ) {a0 : Nat} {x1 : Int32} :
    wp 46 11 [some (.ref a0), some (.int x1)] [] σ P ↔ (zIs σ a0 5 ∧ (zIn (zfi σ 5 2 a0) 425 ∧ P none (sfi (sai σ 2 (a0 + 1) (Int32.toNatClampNeg (zfi σ 5 2 a0)) x1) 5 2 a0 ((zfi σ 5 2 a0) + 1)))) := by
  refine (wp_s (n := 12) (zcode_of mc_46 (r := (.aload_n 0, 0, 0, 0)) rfl) rfl rfl).trans ?_
  refine (wc_is (zcode_of mc_46 (r := (.getfield 9, 5, 0, 0)) rfl)).trans (and_congr_right fun h1 => ?_)
  refine (wc_getR (n' := 15) (d := 1) rfl (zcode_of mc_46 (r := (.getfield 9, 5, 0, 0)) rfl) rfl hC le_5_0 rfl rfl rfl h1).trans ?_
  refine (wp_s (n := 16) (zcode_of mc_46 (r := (.aload_n 0, 0, 0, 0)) rfl) rfl rfl).trans ?_
  refine (wc_getI (n' := 19) rfl (zcode_of mc_46 (r := (.getfield 18, 5, 2, 0)) rfl) rfl h1).trans ?_
  refine (wp_s (n := 20) (zcode_of mc_46 (r := (.iload_n 1, 0, 0, 0)) rfl) rfl rfl).trans ?_
  refine (wc_st (n' := 21) rfl (zcode_of mc_46 (r := (.iastore, 0, 0, 0)) rfl) (cs_T hC le_5_0 h1) rfl).trans (and_congr_right fun h2 => ?_)
  refine (wp_s (n := 22) (zcode_of mc_46 (r := (.aload_n 0, 0, 0, 0)) rfl) rfl rfl).trans ?_
  refine (wp_s (n := 23) (zcode_of mc_46 (r := (.dup, 0, 0, 0)) rfl) rfl rfl).trans ?_
  refine (wc_getI (σ := sai σ 2 (a0 + 1) (Int32.toNatClampNeg (zfi σ 5 2 a0)) x1) (n' := 26) rfl (zcode_of mc_46 (r := (.getfield 18, 5, 2, 0)) rfl) rfl h1).trans ?_
  refine (wp_ic (n' := 27) rfl (zcode_of mc_46 (r := (.iconst 1, 0, 0, 0)) rfl) ci_1).trans ?_
  refine (wp_s (n := 28) (zcode_of mc_46 (r := (.iadd, 0, 0, 0)) rfl) rfl rfl).trans ?_
  refine (wc_putI (σ := sai σ 2 (a0 + 1) (Int32.toNatClampNeg (zfi σ 5 2 a0)) x1) (n' := 31) rfl (zcode_of mc_46 (r := (.putfield 18, 5, 2, 0)) rfl) rfl h1).trans ?_
  exact wp_retV (zcode_of mc_46 (r := (.return_, 0, 0, 0)) rfl) rfl
theorem mc_47 : mCode 47 = zc_47 := rfl
theorem b47 {σ : zSt} {P : Option Value → zSt → Prop} {a0 a1 : Nat} :
    wpM 47 [.ref a0, .ref a1] σ P ↔ (zIs σ a1 5 ∧ (zIs σ a0 5 ∧ wp 47 10 [some (.ref a0), some (.ref a1), some (.int 0)] [] (sfi σ 5 2 a0 (zfi σ 5 2 a1)) P)) := by
  show wp 47 0 [some (.ref a0), some (.ref a1), none] [] σ P ↔ _
  refine (wp_s (n := 1) (zcode_of mc_47 (r := (.aload_n 0, 0, 0, 0)) rfl) rfl rfl).trans ?_
  refine (wp_s (n := 2) (zcode_of mc_47 (r := (.aload_n 1, 0, 0, 0)) rfl) rfl rfl).trans ?_
  refine (wc_is (zcode_of mc_47 (r := (.getfield 18, 5, 2, 0)) rfl)).trans (and_congr_right fun h1 => ?_)
  refine (wc_getI (n' := 5) rfl (zcode_of mc_47 (r := (.getfield 18, 5, 2, 0)) rfl) rfl h1).trans ?_
  refine (wc_isP (zcode_of mc_47 (r := (.putfield 18, 5, 2, 0)) rfl)).trans (and_congr_right fun h2 => ?_)
  refine (wc_putI (n' := 8) rfl (zcode_of mc_47 (r := (.putfield 18, 5, 2, 0)) rfl) rfl h2).trans ?_
  refine (wp_ic (n' := 9) rfl (zcode_of mc_47 (r := (.iconst 0, 0, 0, 0)) rfl) ci_0).trans ?_
  refine (wp_s (n := 10) (zcode_of mc_47 (r := (.istore_n 2, 0, 0, 0)) rfl) rfl rfl).trans ?_
  exact Iff.rfl
theorem b47_10 {σ : zSt} {P : Option Value → zSt → Prop} {a0 a1 : Nat} {x2 : Int32} :
    wp 47 10 [some (.ref a0), some (.ref a1), some (.int x2)] [] σ P ↔ (zIs σ a0 5 ∧ (if (zfi σ 5 2 a0) ≤ x2 then wp 47 36 [some (.ref a0), some (.ref a1), some (.int x2)] [] σ P else wp 47 18 [some (.ref a0), some (.ref a1), some (.int x2)] [] σ P)) := by
  refine (wp_s (n := 11) (zcode_of mc_47 (r := (.iload_n 2, 0, 0, 0)) rfl) rfl rfl).trans ?_
  refine (wp_s (n := 12) (zcode_of mc_47 (r := (.aload_n 0, 0, 0, 0)) rfl) rfl rfl).trans ?_
  refine (wc_is (zcode_of mc_47 (r := (.getfield 18, 5, 2, 0)) rfl)).trans (and_congr_right fun h1 => ?_)
  refine (wc_getI (n' := 15) rfl (zcode_of mc_47 (r := (.getfield 18, 5, 2, 0)) rfl) rfl h1).trans ?_
  exact wp_jump (off := 21) (t := 36) (zcode_of mc_47 (r := (.if_icmp .ge 21, 0, 0, 0)) rfl) rfl rfl (by decide)
theorem b47_18 {σ : zSt} {P : Option Value → zSt → Prop} (hC : CShape σ) {a0 a1 : Nat} {x2 : Int32} :
    wp 47 18 [some (.ref a0), some (.ref a1), some (.int x2)] [] σ P ↔ (zIs σ a0 5 ∧ (zIs σ a1 5 ∧ (zIn x2 425 ∧ (zIn x2 425 ∧ wp 47 10 [some (.ref a0), some (.ref a1), some (.int (x2 + 1))] [] (sai σ 2 (a0 + 1) (Int32.toNatClampNeg x2) (zai σ 2 (a1 + 1) (Int32.toNatClampNeg x2))) P)))) := by
  refine (wp_s (n := 19) (zcode_of mc_47 (r := (.aload_n 0, 0, 0, 0)) rfl) rfl rfl).trans ?_
  refine (wc_is (zcode_of mc_47 (r := (.getfield 9, 5, 0, 0)) rfl)).trans (and_congr_right fun h1 => ?_)
  refine (wc_getR (n' := 22) (d := 1) rfl (zcode_of mc_47 (r := (.getfield 9, 5, 0, 0)) rfl) rfl hC le_5_0 rfl rfl rfl h1).trans ?_
  refine (wp_s (n := 23) (zcode_of mc_47 (r := (.iload_n 2, 0, 0, 0)) rfl) rfl rfl).trans ?_
  refine (wp_s (n := 24) (zcode_of mc_47 (r := (.aload_n 1, 0, 0, 0)) rfl) rfl rfl).trans ?_
  refine (wc_is (zcode_of mc_47 (r := (.getfield 9, 5, 0, 0)) rfl)).trans (and_congr_right fun h2 => ?_)
  refine (wc_getR (n' := 27) (d := 1) rfl (zcode_of mc_47 (r := (.getfield 9, 5, 0, 0)) rfl) rfl hC le_5_0 rfl rfl rfl h2).trans ?_
  refine (wp_s (n := 28) (zcode_of mc_47 (r := (.iload_n 2, 0, 0, 0)) rfl) rfl rfl).trans ?_
  refine (wc_ld (n' := 29) rfl (zcode_of mc_47 (r := (.iaload, 0, 0, 0)) rfl) (cs_T hC le_5_0 h2) rfl).trans (and_congr_right fun h3 => ?_)
  refine (wc_st (n' := 30) rfl (zcode_of mc_47 (r := (.iastore, 0, 0, 0)) rfl) (cs_T hC le_5_0 h1) rfl).trans (and_congr_right fun h4 => ?_)
  refine (wp_inc (n' := 33) rfl (zcode_of mc_47 (r := (.iinc 2 1, 0, 0, 0)) rfl) rfl rfl ci_1).trans ?_
  exact wp_goto (off := (-23)) (t := 10) (zcode_of mc_47 (r := (.goto (-23), 0, 0, 0)) rfl) (by decide)
theorem b47_36 {σ : zSt} {P : Option Value → zSt → Prop} {a0 a1 : Nat} {x2 : Int32} :
    wp 47 36 [some (.ref a0), some (.ref a1), some (.int x2)] [] σ P ↔ P none σ := by
  exact wp_retV (zcode_of mc_47 (r := (.return_, 0, 0, 0)) rfl) rfl
theorem mc_48 : mCode 48 = zc_48 := rfl
theorem b48 {σ : zSt} {P : Option Value → zSt → Prop} {a0 : Nat} :
    wpM 48 [.ref a0] σ P ↔ wp 48 6 [some (.ref a0), some (.long 1469598103934665603), none, some (.int 0)] [] σ P := by
  show wp 48 0 [some (.ref a0), none, none, none] [] σ P ↔ _
  refine (wp_ldc2 (n' := 3) rfl (zcode_of mc_48 (r := (.ldc2_w 98, 0, 0, 1469598103934665603)) rfl) cl_1469598103934665603).trans ?_
  refine (wp_s (n := 4) (zcode_of mc_48 (r := (.lstore_n 1, 0, 0, 0)) rfl) rfl rfl).trans ?_
  refine (wp_ic (n' := 5) rfl (zcode_of mc_48 (r := (.iconst 0, 0, 0, 0)) rfl) ci_0).trans ?_
  refine (wp_s (n := 6) (zcode_of mc_48 (r := (.istore_n 3, 0, 0, 0)) rfl) rfl rfl).trans ?_
  exact Iff.rfl
theorem b48_6 {σ : zSt} {P : Option Value → zSt → Prop} {a0 : Nat} {x3 : Int32} {x1 : Int64} :
    wp 48 6 [some (.ref a0), some (.long x1), none, some (.int x3)] [] σ P ↔ (zIs σ a0 5 ∧ (if (zfi σ 5 2 a0) ≤ x3 then wp 48 34 [some (.ref a0), some (.long x1), none, some (.int x3)] [] σ P else wp 48 14 [some (.ref a0), some (.long x1), none, some (.int x3)] [] σ P)) := by
  refine (wp_s (n := 7) (zcode_of mc_48 (r := (.iload_n 3, 0, 0, 0)) rfl) rfl rfl).trans ?_
  refine (wp_s (n := 8) (zcode_of mc_48 (r := (.aload_n 0, 0, 0, 0)) rfl) rfl rfl).trans ?_
  refine (wc_is (zcode_of mc_48 (r := (.getfield 18, 5, 2, 0)) rfl)).trans (and_congr_right fun h1 => ?_)
  refine (wc_getI (n' := 11) rfl (zcode_of mc_48 (r := (.getfield 18, 5, 2, 0)) rfl) rfl h1).trans ?_
  exact wp_jump (off := 23) (t := 34) (zcode_of mc_48 (r := (.if_icmp .ge 23, 0, 0, 0)) rfl) rfl rfl (by decide)
theorem b48_14 {σ : zSt} {P : Option Value → zSt → Prop} (hC : CShape σ) {a0 : Nat} {x3 : Int32} {x1 : Int64} :
    wp 48 14 [some (.ref a0), some (.long x1), none, some (.int x3)] [] σ P ↔ (zIs σ a0 5 ∧ (zIn x3 425 ∧ wp 48 6 [some (.ref a0), some (.long ((x1 ^^^ (Int32.toInt64 (zai σ 2 (a0 + 1) (Int32.toNatClampNeg x3)))) * 1099511628211)), none, some (.int (x3 + 1))] [] σ P)) := by
  refine (wp_s (n := 15) (zcode_of mc_48 (r := (.lload_n 1, 0, 0, 0)) rfl) rfl rfl).trans ?_
  refine (wp_s (n := 16) (zcode_of mc_48 (r := (.aload_n 0, 0, 0, 0)) rfl) rfl rfl).trans ?_
  refine (wc_is (zcode_of mc_48 (r := (.getfield 9, 5, 0, 0)) rfl)).trans (and_congr_right fun h1 => ?_)
  refine (wc_getR (n' := 19) (d := 1) rfl (zcode_of mc_48 (r := (.getfield 9, 5, 0, 0)) rfl) rfl hC le_5_0 rfl rfl rfl h1).trans ?_
  refine (wp_s (n := 20) (zcode_of mc_48 (r := (.iload_n 3, 0, 0, 0)) rfl) rfl rfl).trans ?_
  refine (wc_ld (n' := 21) rfl (zcode_of mc_48 (r := (.iaload, 0, 0, 0)) rfl) (cs_T hC le_5_0 h1) rfl).trans (and_congr_right fun h2 => ?_)
  refine (wp_s (n := 22) (zcode_of mc_48 (r := (.i2l, 0, 0, 0)) rfl) rfl rfl).trans ?_
  refine (wp_s (n := 23) (zcode_of mc_48 (r := (.lxor, 0, 0, 0)) rfl) rfl rfl).trans ?_
  refine (wp_ldc2 (n' := 26) rfl (zcode_of mc_48 (r := (.ldc2_w 100, 0, 0, 1099511628211)) rfl) cl_1099511628211).trans ?_
  refine (wp_s (n := 27) (zcode_of mc_48 (r := (.lmul, 0, 0, 0)) rfl) rfl rfl).trans ?_
  refine (wp_s (n := 28) (zcode_of mc_48 (r := (.lstore_n 1, 0, 0, 0)) rfl) rfl rfl).trans ?_
  refine (wp_inc (n' := 31) rfl (zcode_of mc_48 (r := (.iinc 3 1, 0, 0, 0)) rfl) rfl rfl ci_1).trans ?_
  exact wp_goto (off := (-25)) (t := 6) (zcode_of mc_48 (r := (.goto (-25), 0, 0, 0)) rfl) (by decide)
theorem b48_34 {σ : zSt} {P : Option Value → zSt → Prop} {a0 : Nat} {x3 : Int32} {x1 : Int64} :
    wp 48 34 [some (.ref a0), some (.long x1), none, some (.int x3)] [] σ P ↔ P (some (.long x1)) σ := by
  refine (wp_s (n := 35) (zcode_of mc_48 (r := (.lload_n 1, 0, 0, 0)) rfl) rfl rfl).trans ?_
  exact wp_retL (zcode_of mc_48 (r := (.lreturn, 0, 0, 0)) rfl) rfl
theorem mc_49 : mCode 49 = zc_49 := rfl
theorem b49 {σ : zSt} {P : Option Value → zSt → Prop} {a0 a1 : Nat} :
    wpM 49 [.ref a0, .ref a1] σ P ↔ (zIs σ a0 5 ∧ (zIs σ a1 5 ∧ (if ¬ (zfi σ 5 2 a0) = (zfi σ 5 2 a1) then wp 49 27 [some (.ref a0), some (.ref a1)] [] σ P else wp 49 11 [some (.ref a0), some (.ref a1)] [] σ P))) := by
  show wp 49 0 [some (.ref a0), some (.ref a1)] [] σ P ↔ _
  refine (wp_s (n := 1) (zcode_of mc_49 (r := (.aload_n 0, 0, 0, 0)) rfl) rfl rfl).trans ?_
  refine (wc_is (zcode_of mc_49 (r := (.getfield 18, 5, 2, 0)) rfl)).trans (and_congr_right fun h1 => ?_)
  refine (wc_getI (n' := 4) rfl (zcode_of mc_49 (r := (.getfield 18, 5, 2, 0)) rfl) rfl h1).trans ?_
  refine (wp_s (n := 5) (zcode_of mc_49 (r := (.aload_n 1, 0, 0, 0)) rfl) rfl rfl).trans ?_
  refine (wc_is (zcode_of mc_49 (r := (.getfield 18, 5, 2, 0)) rfl)).trans (and_congr_right fun h2 => ?_)
  refine (wc_getI (n' := 8) rfl (zcode_of mc_49 (r := (.getfield 18, 5, 2, 0)) rfl) rfl h2).trans ?_
  exact wp_jump (off := 19) (t := 27) (zcode_of mc_49 (r := (.if_icmp .ne 19, 0, 0, 0)) rfl) rfl rfl (by decide)
theorem b49_11 {σ : zSt} {P : Option Value → zSt → Prop} {a0 a1 : Nat} :
    wp 49 11 [some (.ref a0), some (.ref a1)] [] σ P ↔ (zIs σ a0 5 ∧ wpM 50 [.ref a0, .ref a1] σ (fun r τ => wp 49 16 [some (.ref a0), some (.ref a1)] (r.toList ++ []) τ P)) := by
  refine (wp_s (n := 12) (zcode_of mc_49 (r := (.aload_n 0, 0, 0, 0)) rfl) rfl rfl).trans ?_
  refine (wp_s (n := 13) (zcode_of mc_49 (r := (.aload_n 1, 0, 0, 0)) rfl) rfl rfl).trans ?_
  refine (wc_isV (cl := 5) (rest := []) (zcode_of mc_49 (r := (.invokevirtual 102, 50, 0, 1)) rfl) rfl rfl rfl).trans (and_congr_right fun h1 => ?_)
  exact wp_call (q := ([.ref a0, .ref a1], [])) (zcode_of mc_49 (r := (.invokevirtual 102, 50, 0, 1)) rfl) rfl (zCa_V (Nat.le_of_ble_eq_true rfl) rfl h1) ⟨Nat.le_of_ble_eq_true rfl, Nat.le_of_ble_eq_true rfl⟩
theorem b49_16 {σ : zSt} {P : Option Value → zSt → Prop} {a0 a1 : Nat} {s0 : Int32} :
    wp 49 16 [some (.ref a0), some (.ref a1)] [.int s0] σ P ↔ (zIs σ a0 5 ∧ (if ¬ s0 = (zfi σ 5 2 a0) then wp 49 27 [some (.ref a0), some (.ref a1)] [] σ P else wp 49 23 [some (.ref a0), some (.ref a1)] [] σ P)) := by
  refine (wp_s (n := 17) (zcode_of mc_49 (r := (.aload_n 0, 0, 0, 0)) rfl) rfl rfl).trans ?_
  refine (wc_is (zcode_of mc_49 (r := (.getfield 18, 5, 2, 0)) rfl)).trans (and_congr_right fun h1 => ?_)
  refine (wc_getI (n' := 20) rfl (zcode_of mc_49 (r := (.getfield 18, 5, 2, 0)) rfl) rfl h1).trans ?_
  exact wp_jump (off := 7) (t := 27) (zcode_of mc_49 (r := (.if_icmp .ne 7, 0, 0, 0)) rfl) rfl rfl (by decide)
theorem b49_23 {σ : zSt} {P : Option Value → zSt → Prop} {a0 a1 : Nat} :
    wp 49 23 [some (.ref a0), some (.ref a1)] [] σ P ↔ wp 49 28 [some (.ref a0), some (.ref a1)] [.int 1] σ P := by
  refine (wp_ic (n' := 24) rfl (zcode_of mc_49 (r := (.iconst 1, 0, 0, 0)) rfl) ci_1).trans ?_
  exact wp_goto (off := 4) (t := 28) (zcode_of mc_49 (r := (.goto 4, 0, 0, 0)) rfl) (by decide)
theorem b49_27 {σ : zSt} {P : Option Value → zSt → Prop} {a0 a1 : Nat} :
    wp 49 27 [some (.ref a0), some (.ref a1)] [] σ P ↔ wp 49 28 [some (.ref a0), some (.ref a1)] [.int 0] σ P := by
  refine (wp_ic (n' := 28) rfl (zcode_of mc_49 (r := (.iconst 0, 0, 0, 0)) rfl) ci_0).trans ?_
  exact Iff.rfl
theorem b49_28 {σ : zSt} {P : Option Value → zSt → Prop} {a0 a1 : Nat} {s0 : Int32} :
    wp 49 28 [some (.ref a0), some (.ref a1)] [.int s0] σ P ↔ (((s0 : Int32) = 0 ∨ (s0 : Int32) = 1) ∧ P (some (.int s0)) σ) := by
  exact wp_retZ (zcode_of mc_49 (r := (.ireturn, 0, 0, 0)) rfl) rfl
theorem mc_50 : mCode 50 = zc_50 := rfl
theorem b50 {σ : zSt} {P : Option Value → zSt → Prop} {a0 a1 : Nat} :
    wpM 50 [.ref a0, .ref a1] σ P ↔ wp 50 2 [some (.ref a0), some (.ref a1), some (.int 0)] [] σ P := by
  show wp 50 0 [some (.ref a0), some (.ref a1), none] [] σ P ↔ _
  refine (wp_ic (n' := 1) rfl (zcode_of mc_50 (r := (.iconst 0, 0, 0, 0)) rfl) ci_0).trans ?_
  refine (wp_s (n := 2) (zcode_of mc_50 (r := (.istore_n 2, 0, 0, 0)) rfl) rfl rfl).trans ?_
  exact Iff.rfl
theorem b50_2 {σ : zSt} {P : Option Value → zSt → Prop} {a0 a1 : Nat} {x2 : Int32} :
    wp 50 2 [some (.ref a0), some (.ref a1), some (.int x2)] [] σ P ↔ (zIs σ a0 5 ∧ (if (zfi σ 5 2 a0) ≤ x2 then wp 50 39 [some (.ref a0), some (.ref a1), some (.int x2)] [] σ P else wp 50 10 [some (.ref a0), some (.ref a1), some (.int x2)] [] σ P)) := by
  refine (wp_s (n := 3) (zcode_of mc_50 (r := (.iload_n 2, 0, 0, 0)) rfl) rfl rfl).trans ?_
  refine (wp_s (n := 4) (zcode_of mc_50 (r := (.aload_n 0, 0, 0, 0)) rfl) rfl rfl).trans ?_
  refine (wc_is (zcode_of mc_50 (r := (.getfield 18, 5, 2, 0)) rfl)).trans (and_congr_right fun h1 => ?_)
  refine (wc_getI (n' := 7) rfl (zcode_of mc_50 (r := (.getfield 18, 5, 2, 0)) rfl) rfl h1).trans ?_
  exact wp_jump (off := 32) (t := 39) (zcode_of mc_50 (r := (.if_icmp .ge 32, 0, 0, 0)) rfl) rfl rfl (by decide)
theorem b50_10 {σ : zSt} {P : Option Value → zSt → Prop} {a0 a1 : Nat} {x2 : Int32} :
    wp 50 10 [some (.ref a0), some (.ref a1), some (.int x2)] [] σ P ↔ (zIs σ a1 5 ∧ (if (zfi σ 5 2 a1) ≤ x2 then wp 50 39 [some (.ref a0), some (.ref a1), some (.int x2)] [] σ P else wp 50 18 [some (.ref a0), some (.ref a1), some (.int x2)] [] σ P)) := by
  refine (wp_s (n := 11) (zcode_of mc_50 (r := (.iload_n 2, 0, 0, 0)) rfl) rfl rfl).trans ?_
  refine (wp_s (n := 12) (zcode_of mc_50 (r := (.aload_n 1, 0, 0, 0)) rfl) rfl rfl).trans ?_
  refine (wc_is (zcode_of mc_50 (r := (.getfield 18, 5, 2, 0)) rfl)).trans (and_congr_right fun h1 => ?_)
  refine (wc_getI (n' := 15) rfl (zcode_of mc_50 (r := (.getfield 18, 5, 2, 0)) rfl) rfl h1).trans ?_
  exact wp_jump (off := 24) (t := 39) (zcode_of mc_50 (r := (.if_icmp .ge 24, 0, 0, 0)) rfl) rfl rfl (by decide)
theorem b50_18 {σ : zSt} {P : Option Value → zSt → Prop} (hC : CShape σ) {a0 a1 : Nat} {x2 : Int32} :
    wp 50 18 [some (.ref a0), some (.ref a1), some (.int x2)] [] σ P ↔ (zIs σ a0 5 ∧ (zIn x2 425 ∧ (zIs σ a1 5 ∧ (zIn x2 425 ∧ (if ¬ (zai σ 2 (a0 + 1) (Int32.toNatClampNeg x2)) = (zai σ 2 (a1 + 1) (Int32.toNatClampNeg x2)) then wp 50 39 [some (.ref a0), some (.ref a1), some (.int x2)] [] σ P else wp 50 33 [some (.ref a0), some (.ref a1), some (.int x2)] [] σ P))))) := by
  refine (wp_s (n := 19) (zcode_of mc_50 (r := (.aload_n 0, 0, 0, 0)) rfl) rfl rfl).trans ?_
  refine (wc_is (zcode_of mc_50 (r := (.getfield 9, 5, 0, 0)) rfl)).trans (and_congr_right fun h1 => ?_)
  refine (wc_getR (n' := 22) (d := 1) rfl (zcode_of mc_50 (r := (.getfield 9, 5, 0, 0)) rfl) rfl hC le_5_0 rfl rfl rfl h1).trans ?_
  refine (wp_s (n := 23) (zcode_of mc_50 (r := (.iload_n 2, 0, 0, 0)) rfl) rfl rfl).trans ?_
  refine (wc_ld (n' := 24) rfl (zcode_of mc_50 (r := (.iaload, 0, 0, 0)) rfl) (cs_T hC le_5_0 h1) rfl).trans (and_congr_right fun h2 => ?_)
  refine (wp_s (n := 25) (zcode_of mc_50 (r := (.aload_n 1, 0, 0, 0)) rfl) rfl rfl).trans ?_
  refine (wc_is (zcode_of mc_50 (r := (.getfield 9, 5, 0, 0)) rfl)).trans (and_congr_right fun h3 => ?_)
  refine (wc_getR (n' := 28) (d := 1) rfl (zcode_of mc_50 (r := (.getfield 9, 5, 0, 0)) rfl) rfl hC le_5_0 rfl rfl rfl h3).trans ?_
  refine (wp_s (n := 29) (zcode_of mc_50 (r := (.iload_n 2, 0, 0, 0)) rfl) rfl rfl).trans ?_
  refine (wc_ld (n' := 30) rfl (zcode_of mc_50 (r := (.iaload, 0, 0, 0)) rfl) (cs_T hC le_5_0 h3) rfl).trans (and_congr_right fun h4 => ?_)
  exact wp_jump (off := 9) (t := 39) (zcode_of mc_50 (r := (.if_icmp .ne 9, 0, 0, 0)) rfl) rfl rfl (by decide)
theorem b50_33 {σ : zSt} {P : Option Value → zSt → Prop} {a0 a1 : Nat} {x2 : Int32} :
    wp 50 33 [some (.ref a0), some (.ref a1), some (.int x2)] [] σ P ↔ wp 50 2 [some (.ref a0), some (.ref a1), some (.int (x2 + 1))] [] σ P := by
  refine (wp_inc (n' := 36) rfl (zcode_of mc_50 (r := (.iinc 2 1, 0, 0, 0)) rfl) rfl rfl ci_1).trans ?_
  exact wp_goto (off := (-34)) (t := 2) (zcode_of mc_50 (r := (.goto (-34), 0, 0, 0)) rfl) (by decide)
theorem b50_39 {σ : zSt} {P : Option Value → zSt → Prop} {a0 a1 : Nat} {x2 : Int32} :
    wp 50 39 [some (.ref a0), some (.ref a1), some (.int x2)] [] σ P ↔ P (some (.int x2)) σ := by
  refine (wp_s (n := 40) (zcode_of mc_50 (r := (.iload_n 2, 0, 0, 0)) rfl) rfl rfl).trans ?_
  exact wp_retI (zcode_of mc_50 (r := (.ireturn, 0, 0, 0)) rfl) rfl
theorem mc_51 : mCode 51 = zc_51 := rfl
theorem b51 {σ : zSt} {P : Option Value → zSt → Prop} {a0 a1 : Nat} :
    wpM 51 [.ref a0, .ref a1] σ P ↔ (zIs σ a1 5 ∧ (if ¬ (zfi σ 5 2 a1) = 0 then wp 51 9 [some (.ref a0), some (.ref a1), none, none] [] σ P else wp 51 7 [some (.ref a0), some (.ref a1), none, none] [] σ P)) := by
  show wp 51 0 [some (.ref a0), some (.ref a1), none, none] [] σ P ↔ _
  refine (wp_s (n := 1) (zcode_of mc_51 (r := (.aload_n 1, 0, 0, 0)) rfl) rfl rfl).trans ?_
  refine (wc_is (zcode_of mc_51 (r := (.getfield 18, 5, 2, 0)) rfl)).trans (and_congr_right fun h1 => ?_)
  refine (wc_getI (n' := 4) rfl (zcode_of mc_51 (r := (.getfield 18, 5, 2, 0)) rfl) rfl h1).trans ?_
  exact wp_jump (off := 5) (t := 9) (zcode_of mc_51 (r := (.ifCond .ne 5, 0, 0, 0)) rfl) rfl rfl (by decide)
theorem b51_7 {σ : zSt} {P : Option Value → zSt → Prop} {a0 a1 : Nat} {u2 u3 : Option Value} :
    wp 51 7 [some (.ref a0), some (.ref a1), u2, u3] [] σ P ↔ P (some (.int (-1))) σ := by
  refine (wp_ic (n' := 8) rfl (zcode_of mc_51 (r := (.iconst (-1), 0, 0, 0)) rfl) ci_m1).trans ?_
  exact wp_retI (zcode_of mc_51 (r := (.ireturn, 0, 0, 0)) rfl) rfl
theorem b51_9 {σ : zSt} {P : Option Value → zSt → Prop} {a0 a1 : Nat} {u2 u3 : Option Value} :
    wp 51 9 [some (.ref a0), some (.ref a1), u2, u3] [] σ P ↔ (zIs σ a0 5 ∧ wpM 49 [.ref a0, .ref a1] σ (fun r τ => wp 51 14 [some (.ref a0), some (.ref a1), u2, u3] (r.toList ++ []) τ P)) := by
  refine (wp_s (n := 10) (zcode_of mc_51 (r := (.aload_n 0, 0, 0, 0)) rfl) rfl rfl).trans ?_
  refine (wp_s (n := 11) (zcode_of mc_51 (r := (.aload_n 1, 0, 0, 0)) rfl) rfl rfl).trans ?_
  refine (wc_isV (cl := 5) (rest := []) (zcode_of mc_51 (r := (.invokevirtual 106, 49, 0, 1)) rfl) rfl rfl rfl).trans (and_congr_right fun h1 => ?_)
  exact wp_call (q := ([.ref a0, .ref a1], [])) (zcode_of mc_51 (r := (.invokevirtual 106, 49, 0, 1)) rfl) rfl (zCa_V (Nat.le_of_ble_eq_true rfl) rfl h1) ⟨Nat.le_of_ble_eq_true rfl, Nat.le_of_ble_eq_true rfl⟩
theorem b51_14 {σ : zSt} {P : Option Value → zSt → Prop} {a0 a1 : Nat} {s0 : Int32} {u2 u3 : Option Value} :
    wp 51 14 [some (.ref a0), some (.ref a1), u2, u3] [.int s0] σ P ↔ (if s0 = 0 then wp 51 19 [some (.ref a0), some (.ref a1), u2, u3] [] σ P else wp 51 17 [some (.ref a0), some (.ref a1), u2, u3] [] σ P) := by
  exact wp_jump (off := 5) (t := 19) (zcode_of mc_51 (r := (.ifCond .eq 5, 0, 0, 0)) rfl) rfl rfl (by decide)
theorem b51_17 {σ : zSt} {P : Option Value → zSt → Prop} {a0 a1 : Nat} {u2 u3 : Option Value} :
    wp 51 17 [some (.ref a0), some (.ref a1), u2, u3] [] σ P ↔ P (some (.int 0)) σ := by
  refine (wp_ic (n' := 18) rfl (zcode_of mc_51 (r := (.iconst 0, 0, 0, 0)) rfl) ci_0).trans ?_
  exact wp_retI (zcode_of mc_51 (r := (.ireturn, 0, 0, 0)) rfl) rfl
theorem b51_19 {σ : zSt} {P : Option Value → zSt → Prop} {a0 a1 : Nat} {u2 u3 : Option Value} :
    wp 51 19 [some (.ref a0), some (.ref a1), u2, u3] [] σ P ↔ (zIs σ a0 5 ∧ wpM 50 [.ref a0, .ref a1] σ (fun r τ => wp 51 24 [some (.ref a0), some (.ref a1), u2, u3] (r.toList ++ []) τ P)) := by
  refine (wp_s (n := 20) (zcode_of mc_51 (r := (.aload_n 0, 0, 0, 0)) rfl) rfl rfl).trans ?_
  refine (wp_s (n := 21) (zcode_of mc_51 (r := (.aload_n 1, 0, 0, 0)) rfl) rfl rfl).trans ?_
  refine (wc_isV (cl := 5) (rest := []) (zcode_of mc_51 (r := (.invokevirtual 102, 50, 0, 1)) rfl) rfl rfl rfl).trans (and_congr_right fun h1 => ?_)
  exact wp_call (q := ([.ref a0, .ref a1], [])) (zcode_of mc_51 (r := (.invokevirtual 102, 50, 0, 1)) rfl) rfl (zCa_V (Nat.le_of_ble_eq_true rfl) rfl h1) ⟨Nat.le_of_ble_eq_true rfl, Nat.le_of_ble_eq_true rfl⟩
theorem b51_24 {σ : zSt} {P : Option Value → zSt → Prop} {a0 a1 : Nat} {s0 : Int32} {u2 u3 : Option Value} :
    wp 51 24 [some (.ref a0), some (.ref a1), u2, u3] [.int s0] σ P ↔ (zIs σ a0 5 ∧ (if (zfi σ 5 4 a0) ≤ s0 then wp 51 35 [some (.ref a0), some (.ref a1), some (.int s0), u3] [] σ P else wp 51 33 [some (.ref a0), some (.ref a1), some (.int s0), u3] [] σ P)) := by
  refine (wp_s (n := 25) (zcode_of mc_51 (r := (.istore_n 2, 0, 0, 0)) rfl) rfl rfl).trans ?_
  refine (wp_s (n := 26) (zcode_of mc_51 (r := (.iload_n 2, 0, 0, 0)) rfl) rfl rfl).trans ?_
  refine (wp_s (n := 27) (zcode_of mc_51 (r := (.aload_n 0, 0, 0, 0)) rfl) rfl rfl).trans ?_
  refine (wc_is (zcode_of mc_51 (r := (.getfield 25, 5, 4, 0)) rfl)).trans (and_congr_right fun h1 => ?_)
  refine (wc_getI (n' := 30) rfl (zcode_of mc_51 (r := (.getfield 25, 5, 4, 0)) rfl) rfl h1).trans ?_
  exact wp_jump (off := 5) (t := 35) (zcode_of mc_51 (r := (.if_icmp .ge 5, 0, 0, 0)) rfl) rfl rfl (by decide)
theorem b51_33 {σ : zSt} {P : Option Value → zSt → Prop} {a0 a1 : Nat} {x2 : Int32} {u3 : Option Value} :
    wp 51 33 [some (.ref a0), some (.ref a1), some (.int x2), u3] [] σ P ↔ P (some (.int 1)) σ := by
  refine (wp_ic (n' := 34) rfl (zcode_of mc_51 (r := (.iconst 1, 0, 0, 0)) rfl) ci_1).trans ?_
  exact wp_retI (zcode_of mc_51 (r := (.ireturn, 0, 0, 0)) rfl) rfl
theorem b51_35 {σ : zSt} {P : Option Value → zSt → Prop} {a0 a1 : Nat} {x2 : Int32} {u3 : Option Value} :
    wp 51 35 [some (.ref a0), some (.ref a1), some (.int x2), u3] [] σ P ↔ wp 51 37 [some (.ref a0), some (.ref a1), some (.int x2), some (.int 0)] [] σ P := by
  refine (wp_ic (n' := 36) rfl (zcode_of mc_51 (r := (.iconst 0, 0, 0, 0)) rfl) ci_0).trans ?_
  refine (wp_s (n := 37) (zcode_of mc_51 (r := (.istore_n 3, 0, 0, 0)) rfl) rfl rfl).trans ?_
  exact Iff.rfl
theorem b51_37 {σ : zSt} {P : Option Value → zSt → Prop} {a0 a1 : Nat} {x2 x3 : Int32} :
    wp 51 37 [some (.ref a0), some (.ref a1), some (.int x2), some (.int x3)] [] σ P ↔ (zIs σ a0 5 ∧ (if ((zfi σ 5 3 a0) - 1) ≤ x3 then wp 51 63 [some (.ref a0), some (.ref a1), some (.int x2), some (.int x3)] [] σ P else wp 51 47 [some (.ref a0), some (.ref a1), some (.int x2), some (.int x3)] [] σ P)) := by
  refine (wp_s (n := 38) (zcode_of mc_51 (r := (.iload_n 3, 0, 0, 0)) rfl) rfl rfl).trans ?_
  refine (wp_s (n := 39) (zcode_of mc_51 (r := (.aload_n 0, 0, 0, 0)) rfl) rfl rfl).trans ?_
  refine (wc_is (zcode_of mc_51 (r := (.getfield 22, 5, 3, 0)) rfl)).trans (and_congr_right fun h1 => ?_)
  refine (wc_getI (n' := 42) rfl (zcode_of mc_51 (r := (.getfield 22, 5, 3, 0)) rfl) rfl h1).trans ?_
  refine (wp_ic (n' := 43) rfl (zcode_of mc_51 (r := (.iconst 1, 0, 0, 0)) rfl) ci_1).trans ?_
  refine (wp_s (n := 44) (zcode_of mc_51 (r := (.isub, 0, 0, 0)) rfl) rfl rfl).trans ?_
  exact wp_jump (off := 19) (t := 63) (zcode_of mc_51 (r := (.if_icmp .ge 19, 0, 0, 0)) rfl) rfl rfl (by decide)
theorem b51_47 {σ : zSt} {P : Option Value → zSt → Prop} (hC : CShape σ) {a0 a1 : Nat} {x2 x3 : Int32} :
    wp 51 47 [some (.ref a0), some (.ref a1), some (.int x2), some (.int x3)] [] σ P ↔ (zIs σ a0 5 ∧ (zIn x3 6 ∧ (if x2 < (zai σ 3 (a0 + 2) (Int32.toNatClampNeg x3)) then wp 51 63 [some (.ref a0), some (.ref a1), some (.int x2), some (.int x3)] [] σ P else wp 51 57 [some (.ref a0), some (.ref a1), some (.int x2), some (.int x3)] [] σ P))) := by
  refine (wp_s (n := 48) (zcode_of mc_51 (r := (.iload_n 2, 0, 0, 0)) rfl) rfl rfl).trans ?_
  refine (wp_s (n := 49) (zcode_of mc_51 (r := (.aload_n 0, 0, 0, 0)) rfl) rfl rfl).trans ?_
  refine (wc_is (zcode_of mc_51 (r := (.getfield 15, 5, 1, 0)) rfl)).trans (and_congr_right fun h1 => ?_)
  refine (wc_getR (n' := 52) (d := 2) rfl (zcode_of mc_51 (r := (.getfield 15, 5, 1, 0)) rfl) rfl hC le_5_1 rfl rfl rfl h1).trans ?_
  refine (wp_s (n := 53) (zcode_of mc_51 (r := (.iload_n 3, 0, 0, 0)) rfl) rfl rfl).trans ?_
  refine (wc_ld (n' := 54) rfl (zcode_of mc_51 (r := (.iaload, 0, 0, 0)) rfl) (cs_T hC le_5_1 h1) rfl).trans (and_congr_right fun h2 => ?_)
  exact wp_jump (off := 9) (t := 63) (zcode_of mc_51 (r := (.if_icmp .lt 9, 0, 0, 0)) rfl) rfl rfl (by decide)
theorem b51_57 {σ : zSt} {P : Option Value → zSt → Prop} {a0 a1 : Nat} {x2 x3 : Int32} :
    wp 51 57 [some (.ref a0), some (.ref a1), some (.int x2), some (.int x3)] [] σ P ↔ wp 51 37 [some (.ref a0), some (.ref a1), some (.int x2), some (.int (x3 + 1))] [] σ P := by
  refine (wp_inc (n' := 60) rfl (zcode_of mc_51 (r := (.iinc 3 1, 0, 0, 0)) rfl) rfl rfl ci_1).trans ?_
  exact wp_goto (off := (-23)) (t := 37) (zcode_of mc_51 (r := (.goto (-23), 0, 0, 0)) rfl) (by decide)
theorem b51_63 {σ : zSt} {P : Option Value → zSt → Prop} {a0 a1 : Nat} {x2 x3 : Int32} :
    wp 51 63 [some (.ref a0), some (.ref a1), some (.int x2), some (.int x3)] [] σ P ↔ P (some (.int (10 + x3))) σ := by
  refine (wp_bp (n' := 65) rfl (zcode_of mc_51 (r := (.bipush 10, 0, 0, 0)) rfl) cb_10).trans ?_
  refine (wp_s (n := 66) (zcode_of mc_51 (r := (.iload_n 3, 0, 0, 0)) rfl) rfl rfl).trans ?_
  refine (wp_s (n := 67) (zcode_of mc_51 (r := (.iadd, 0, 0, 0)) rfl) rfl rfl).trans ?_
  exact wp_retI (zcode_of mc_51 (r := (.ireturn, 0, 0, 0)) rfl) rfl
theorem mc_52 : mCode 52 = zc_52 := rfl
theorem b52 {σ : zSt} {P : Option Value → zSt → Prop} {a0 : Nat} :
    wpM 52 [.ref a0] σ P ↔ ((¬ (4 : Int32) < 0 ∧ ¬ (40 : Int32) < 0 ∧ Int32.toNatClampNeg 4 * 4 ≤ 536870912 ∧ Int32.toNatClampNeg 40 * 4 ≤ 536870912 ∧ Int32.toNatClampNeg 40 ≤ 536870912) ∧ wp 52 12 [some (.ref a0)] [.ref (znx σ), .ref a0] (zNewM σ (Int32.toNatClampNeg 4) (Int32.toNatClampNeg 40)) P) := by
  show wp 52 0 [some (.ref a0)] [] σ P ↔ _
  refine (wp_s (n := 1) (zcode_of mc_52 (r := (.aload_n 0, 0, 0, 0)) rfl) rfl rfl).trans ?_
  refine (wc_oi (n' := 4) rfl (zcode_of mc_52 (r := (.invokespecial 3, 0, 5, 0)) rfl) (Nat.le_of_ble_eq_true rfl)).trans ?_
  refine (wp_s (n := 5) (zcode_of mc_52 (r := (.aload_n 0, 0, 0, 0)) rfl) rfl rfl).trans ?_
  refine (wp_ic (n' := 6) rfl (zcode_of mc_52 (r := (.iconst 4, 0, 0, 0)) rfl) ci_4).trans ?_
  refine (wp_bp (n' := 8) rfl (zcode_of mc_52 (r := (.bipush 40, 0, 0, 0)) rfl) cb_40).trans ?_
  refine (wc_mna (n' := 12) rfl (zcode_of mc_52 (r := (.multianewarray 11 2, 9, 10, 0)) rfl)).trans (and_congr_right fun h1 => ?_)
  exact Iff.rfl
theorem b52_12 {σ : zSt} {P : Option Value → zSt → Prop} {a0 s0 s1 : Nat} :
    wp 52 12 [some (.ref a0)] [.ref s0, .ref s1] σ P ↔ (zIs σ s1 6 ∧ (zIs σ a0 6 ∧ P none (sfi (sfi (sfi (sfi (sfr σ 6 0 s1 (some s0)) 6 1 a0 0) 6 2 a0 0) 6 3 a0 0) 6 4 a0 0))) := by
  refine (wc_isP (zcode_of mc_52 (r := (.putfield 13, 6, 0, 0)) rfl)).trans (and_congr_right fun h1 => ?_)
  refine (wc_putR (n' := 15) rfl (zcode_of mc_52 (r := (.putfield 13, 6, 0, 0)) rfl) rfl h1).trans ?_
  refine (wp_s (n := 16) (zcode_of mc_52 (r := (.aload_n 0, 0, 0, 0)) rfl) rfl rfl).trans ?_
  refine (wp_ic (n' := 17) rfl (zcode_of mc_52 (r := (.iconst 0, 0, 0, 0)) rfl) ci_0).trans ?_
  refine (wc_isP (σ := sfr σ 6 0 s1 (some s0)) (zcode_of mc_52 (r := (.putfield 16, 6, 1, 0)) rfl)).trans (and_congr_right fun h2 => ?_)
  refine (wc_putI (σ := sfr σ 6 0 s1 (some s0)) (n' := 20) rfl (zcode_of mc_52 (r := (.putfield 16, 6, 1, 0)) rfl) rfl h2).trans ?_
  refine (wp_s (n := 21) (zcode_of mc_52 (r := (.aload_n 0, 0, 0, 0)) rfl) rfl rfl).trans ?_
  refine (wp_ic (n' := 22) rfl (zcode_of mc_52 (r := (.iconst 0, 0, 0, 0)) rfl) ci_0).trans ?_
  refine (wc_putI (σ := sfi (sfr σ 6 0 s1 (some s0)) 6 1 a0 0) (n' := 25) rfl (zcode_of mc_52 (r := (.putfield 20, 6, 2, 0)) rfl) rfl h2).trans ?_
  refine (wp_s (n := 26) (zcode_of mc_52 (r := (.aload_n 0, 0, 0, 0)) rfl) rfl rfl).trans ?_
  refine (wp_ic (n' := 27) rfl (zcode_of mc_52 (r := (.iconst 0, 0, 0, 0)) rfl) ci_0).trans ?_
  refine (wc_putI (σ := sfi (sfi (sfr σ 6 0 s1 (some s0)) 6 1 a0 0) 6 2 a0 0) (n' := 30) rfl (zcode_of mc_52 (r := (.putfield 23, 6, 3, 0)) rfl) rfl h2).trans ?_
  refine (wp_s (n := 31) (zcode_of mc_52 (r := (.aload_n 0, 0, 0, 0)) rfl) rfl rfl).trans ?_
  refine (wp_ic (n' := 32) rfl (zcode_of mc_52 (r := (.iconst 0, 0, 0, 0)) rfl) ci_0).trans ?_
  refine (wc_putI (σ := sfi (sfi (sfi (sfr σ 6 0 s1 (some s0)) 6 1 a0 0) 6 2 a0 0) 6 3 a0 0) (n' := 35) rfl (zcode_of mc_52 (r := (.putfield 26, 6, 4, 0)) rfl) rfl h2).trans ?_
  exact wp_retV (zcode_of mc_52 (r := (.return_, 0, 0, 0)) rfl) rfl
theorem mc_53 : mCode 53 = zc_53 := rfl
theorem b53 {σ : zSt} {P : Option Value → zSt → Prop} {a0 : Nat} :
    wpM 53 [.ref a0] σ P ↔ (zIs σ a0 6 ∧ P none (sfi (sfi (sfi (sfi σ 6 1 a0 0) 6 2 a0 0) 6 3 a0 0) 6 4 a0 0)) := by
  show wp 53 0 [some (.ref a0)] [] σ P ↔ _
  refine (wp_s (n := 1) (zcode_of mc_53 (r := (.aload_n 0, 0, 0, 0)) rfl) rfl rfl).trans ?_
  refine (wp_ic (n' := 2) rfl (zcode_of mc_53 (r := (.iconst 0, 0, 0, 0)) rfl) ci_0).trans ?_
  refine (wc_isP (zcode_of mc_53 (r := (.putfield 16, 6, 1, 0)) rfl)).trans (and_congr_right fun h1 => ?_)
  refine (wc_putI (n' := 5) rfl (zcode_of mc_53 (r := (.putfield 16, 6, 1, 0)) rfl) rfl h1).trans ?_
  refine (wp_s (n := 6) (zcode_of mc_53 (r := (.aload_n 0, 0, 0, 0)) rfl) rfl rfl).trans ?_
  refine (wp_ic (n' := 7) rfl (zcode_of mc_53 (r := (.iconst 0, 0, 0, 0)) rfl) ci_0).trans ?_
  refine (wc_putI (σ := sfi σ 6 1 a0 0) (n' := 10) rfl (zcode_of mc_53 (r := (.putfield 20, 6, 2, 0)) rfl) rfl h1).trans ?_
  refine (wp_s (n := 11) (zcode_of mc_53 (r := (.aload_n 0, 0, 0, 0)) rfl) rfl rfl).trans ?_
  refine (wp_ic (n' := 12) rfl (zcode_of mc_53 (r := (.iconst 0, 0, 0, 0)) rfl) ci_0).trans ?_
  refine (wc_putI (σ := sfi (sfi σ 6 1 a0 0) 6 2 a0 0) (n' := 15) rfl (zcode_of mc_53 (r := (.putfield 23, 6, 3, 0)) rfl) rfl h1).trans ?_
  refine (wp_s (n := 16) (zcode_of mc_53 (r := (.aload_n 0, 0, 0, 0)) rfl) rfl rfl).trans ?_
  refine (wp_ic (n' := 17) rfl (zcode_of mc_53 (r := (.iconst 0, 0, 0, 0)) rfl) ci_0).trans ?_
  refine (wc_putI (σ := sfi (sfi (sfi σ 6 1 a0 0) 6 2 a0 0) 6 3 a0 0) (n' := 20) rfl (zcode_of mc_53 (r := (.putfield 26, 6, 4, 0)) rfl) rfl h1).trans ?_
  exact wp_retV (zcode_of mc_53 (r := (.return_, 0, 0, 0)) rfl) rfl
theorem mc_54 : mCode 54 = zc_54 := rfl
theorem b54 {σ : zSt} {P : Option Value → zSt → Prop} {a0 : Nat} :
    wpM 54 [.ref a0] σ P ↔ (zIs σ a0 6 ∧ P none (sfi (sfi σ 6 1 a0 0) 6 4 a0 ((zfi σ 6 4 a0) + 1))) := by
  show wp 54 0 [some (.ref a0)] [] σ P ↔ _
  refine (wp_s (n := 1) (zcode_of mc_54 (r := (.aload_n 0, 0, 0, 0)) rfl) rfl rfl).trans ?_
  refine (wp_ic (n' := 2) rfl (zcode_of mc_54 (r := (.iconst 0, 0, 0, 0)) rfl) ci_0).trans ?_
  refine (wc_isP (zcode_of mc_54 (r := (.putfield 16, 6, 1, 0)) rfl)).trans (and_congr_right fun h1 => ?_)
  refine (wc_putI (n' := 5) rfl (zcode_of mc_54 (r := (.putfield 16, 6, 1, 0)) rfl) rfl h1).trans ?_
  refine (wp_s (n := 6) (zcode_of mc_54 (r := (.aload_n 0, 0, 0, 0)) rfl) rfl rfl).trans ?_
  refine (wp_s (n := 7) (zcode_of mc_54 (r := (.dup, 0, 0, 0)) rfl) rfl rfl).trans ?_
  refine (wc_getI (σ := sfi σ 6 1 a0 0) (n' := 10) rfl (zcode_of mc_54 (r := (.getfield 26, 6, 4, 0)) rfl) rfl h1).trans ?_
  refine (wp_ic (n' := 11) rfl (zcode_of mc_54 (r := (.iconst 1, 0, 0, 0)) rfl) ci_1).trans ?_
  refine (wp_s (n := 12) (zcode_of mc_54 (r := (.iadd, 0, 0, 0)) rfl) rfl rfl).trans ?_
  refine (wc_putI (σ := sfi σ 6 1 a0 0) (n' := 15) rfl (zcode_of mc_54 (r := (.putfield 26, 6, 4, 0)) rfl) rfl h1).trans ?_
  exact wp_retV (zcode_of mc_54 (r := (.return_, 0, 0, 0)) rfl) rfl
theorem mc_55 : mCode 55 = zc_55 := rfl
theorem b55 {σ : zSt} {P : Option Value → zSt → Prop} {a0 : Nat} {x1 x2 x3 x4 : Int32} :
    wpM 55 [.ref a0, .int x1, .int x2, .int x3, .int x4] σ P ↔ (zIs σ a0 6 ∧ (if (zfi σ 6 1 a0) < 40 then wp 55 10 [some (.ref a0), some (.int x1), some (.int x2), some (.int x3), some (.int x4)] [] σ P else wp 55 9 [some (.ref a0), some (.int x1), some (.int x2), some (.int x3), some (.int x4)] [] σ P)) := by
  show wp 55 0 [some (.ref a0), some (.int x1), some (.int x2), some (.int x3), some (.int x4)] [] σ P ↔ _
  refine (wp_s (n := 1) (zcode_of mc_55 (r := (.aload_n 0, 0, 0, 0)) rfl) rfl rfl).trans ?_
  refine (wc_is (zcode_of mc_55 (r := (.getfield 16, 6, 1, 0)) rfl)).trans (and_congr_right fun h1 => ?_)
  refine (wc_getI (n' := 4) rfl (zcode_of mc_55 (r := (.getfield 16, 6, 1, 0)) rfl) rfl h1).trans ?_
  refine (wp_bp (n' := 6) rfl (zcode_of mc_55 (r := (.bipush 40, 0, 0, 0)) rfl) cb_40).trans ?_
  exact wp_jump (off := 4) (t := 10) (zcode_of mc_55 (r := (.if_icmp .lt 4, 0, 0, 0)) rfl) rfl rfl (by decide)
theorem b55_9 {σ : zSt} {P : Option Value → zSt → Prop} {a0 : Nat} {x1 x2 x3 x4 : Int32} :
    wp 55 9 [some (.ref a0), some (.int x1), some (.int x2), some (.int x3), some (.int x4)] [] σ P ↔ P none σ := by
  exact wp_retV (zcode_of mc_55 (r := (.return_, 0, 0, 0)) rfl) rfl
theorem b55_10 {σ : zSt} {P : Option Value → zSt → Prop} (hC : CShape σ) {a0 : Nat} {x1 x2 x3 x4 : Int32} :
    wp 55 10 [some (.ref a0), some (.int x1), some (.int x2), some (.int x3), some (.int x4)] [] σ P ↔ (zIs σ a0 6 ∧ (zIn 0 4 ∧ (zIn (zfi σ 6 1 a0) 40 ∧ (zIn 1 4 ∧ (if x2 = 0 then wp 55 40 [some (.ref a0), some (.int x1), some (.int x2), some (.int x3), some (.int x4)] [.int (zfi σ 6 1 a0), .ref ((a0 + 1) + 1 + 1 * Int32.toNatClampNeg 1)] (sai σ 10 ((a0 + 1) + 1 + 1 * Int32.toNatClampNeg 0) (Int32.toNatClampNeg (zfi σ 6 1 a0)) x1) P else wp 55 36 [some (.ref a0), some (.int x1), some (.int x2), some (.int x3), some (.int x4)] [.int (zfi σ 6 1 a0), .ref ((a0 + 1) + 1 + 1 * Int32.toNatClampNeg 1)] (sai σ 10 ((a0 + 1) + 1 + 1 * Int32.toNatClampNeg 0) (Int32.toNatClampNeg (zfi σ 6 1 a0)) x1) P))))) := by
  refine (wp_s (n := 11) (zcode_of mc_55 (r := (.aload_n 0, 0, 0, 0)) rfl) rfl rfl).trans ?_
  refine (wc_is (zcode_of mc_55 (r := (.getfield 13, 6, 0, 0)) rfl)).trans (and_congr_right fun h1 => ?_)
  refine (wc_getR (n' := 14) (d := 1) rfl (zcode_of mc_55 (r := (.getfield 13, 6, 0, 0)) rfl) rfl hC le_6_0 rfl rfl rfl h1).trans ?_
  refine (wp_ic (n' := 15) rfl (zcode_of mc_55 (r := (.iconst 0, 0, 0, 0)) rfl) ci_0).trans ?_
  refine (wc_ald (n' := 16) rfl (zcode_of mc_55 (r := (.aaload, 0, 0, 0)) rfl) hC la_9 rfl rfl rfl rfl rfl (cs_T hC le_6_0 h1)).trans (and_congr_right fun h2 => ?_)
  refine (wp_s (n := 17) (zcode_of mc_55 (r := (.aload_n 0, 0, 0, 0)) rfl) rfl rfl).trans ?_
  refine (wc_getI (n' := 20) rfl (zcode_of mc_55 (r := (.getfield 16, 6, 1, 0)) rfl) rfl h1).trans ?_
  refine (wp_s (n := 21) (zcode_of mc_55 (r := (.iload_n 1, 0, 0, 0)) rfl) rfl rfl).trans ?_
  refine (wc_st (n' := 22) rfl (zcode_of mc_55 (r := (.iastore, 0, 0, 0)) rfl) (cs_A hC la_9 (cs_T hC le_6_0 h1) h2) rfl).trans (and_congr_right fun h3 => ?_)
  refine (wp_s (n := 23) (zcode_of mc_55 (r := (.aload_n 0, 0, 0, 0)) rfl) rfl rfl).trans ?_
  refine (wc_getR (σ := sai σ 10 ((a0 + 1) + 1 + 1 * Int32.toNatClampNeg 0) (Int32.toNatClampNeg (zfi σ 6 1 a0)) x1) (n' := 26) (d := 1) rfl (zcode_of mc_55 (r := (.getfield 13, 6, 0, 0)) rfl) rfl (cs_sai hC) le_6_0 rfl rfl rfl h1).trans ?_
  refine (wp_ic (n' := 27) rfl (zcode_of mc_55 (r := (.iconst 1, 0, 0, 0)) rfl) ci_1).trans ?_
  refine (wc_ald (σ := sai σ 10 ((a0 + 1) + 1 + 1 * Int32.toNatClampNeg 0) (Int32.toNatClampNeg (zfi σ 6 1 a0)) x1) (n' := 28) rfl (zcode_of mc_55 (r := (.aaload, 0, 0, 0)) rfl) (cs_sai hC) la_9 rfl rfl rfl rfl rfl (cs_T (cs_sai hC) le_6_0 h1)).trans (and_congr_right fun h4 => ?_)
  refine (wp_s (n := 29) (zcode_of mc_55 (r := (.aload_n 0, 0, 0, 0)) rfl) rfl rfl).trans ?_
  refine (wc_getI (σ := sai σ 10 ((a0 + 1) + 1 + 1 * Int32.toNatClampNeg 0) (Int32.toNatClampNeg (zfi σ 6 1 a0)) x1) (n' := 32) rfl (zcode_of mc_55 (r := (.getfield 16, 6, 1, 0)) rfl) rfl h1).trans ?_
  refine (wp_s (n := 33) (zcode_of mc_55 (r := (.iload_n 2, 0, 0, 0)) rfl) rfl rfl).trans ?_
  exact wp_jump (off := 7) (t := 40) (zcode_of mc_55 (r := (.ifCond .eq 7, 0, 0, 0)) rfl) rfl rfl (by decide)
theorem b55_36 {σ : zSt} {P : Option Value → zSt → Prop} {a0 s1 : Nat} {x1 x2 x3 x4 s0 : Int32} (hs : ztg σ s1 = (2, 10, 40)) :
    wp 55 36 [some (.ref a0), some (.int x1), some (.int x2), some (.int x3), some (.int x4)] [.int s0, .ref s1] σ P ↔ wp 55 41 [some (.ref a0), some (.int x1), some (.int x2), some (.int x3), some (.int x4)] [.int 1, .int s0, .ref s1] σ P := by
  refine (wp_ic (n' := 37) rfl (zcode_of mc_55 (r := (.iconst 1, 0, 0, 0)) rfl) ci_1).trans ?_
  exact wp_goto (off := 4) (t := 41) (zcode_of mc_55 (r := (.goto 4, 0, 0, 0)) rfl) (by decide)
theorem b55_40 {σ : zSt} {P : Option Value → zSt → Prop} {a0 s1 : Nat} {x1 x2 x3 x4 s0 : Int32} (hs : ztg σ s1 = (2, 10, 40)) :
    wp 55 40 [some (.ref a0), some (.int x1), some (.int x2), some (.int x3), some (.int x4)] [.int s0, .ref s1] σ P ↔ wp 55 41 [some (.ref a0), some (.int x1), some (.int x2), some (.int x3), some (.int x4)] [.int 0, .int s0, .ref s1] σ P := by
  refine (wp_ic (n' := 41) rfl (zcode_of mc_55 (r := (.iconst 0, 0, 0, 0)) rfl) ci_0).trans ?_
  exact Iff.rfl
theorem b55_41 {σ : zSt} {P : Option Value → zSt → Prop} (hC : CShape σ) {a0 s2 : Nat} {x1 x2 x3 x4 s0 s1 : Int32} (hs : ztg σ s2 = (2, 10, 40)) :
    wp 55 41 [some (.ref a0), some (.int x1), some (.int x2), some (.int x3), some (.int x4)] [.int s0, .int s1, .ref s2] σ P ↔ (zIn s1 40 ∧ (zIs σ a0 6 ∧ (zIn 2 4 ∧ (zIn (zfi σ 6 1 a0) 40 ∧ (zIn 3 4 ∧ (zIn (zfi σ 6 1 a0) 40 ∧ (if x2 = 0 then wp 55 94 [some (.ref a0), some (.int x1), some (.int x2), some (.int x3), some (.int x4)] [] (sfi (sai (sai (sai σ 10 s2 (Int32.toNatClampNeg s1) s0) 10 ((a0 + 1) + 1 + 1 * Int32.toNatClampNeg 2) (Int32.toNatClampNeg (zfi σ 6 1 a0)) x3) 10 ((a0 + 1) + 1 + 1 * Int32.toNatClampNeg 3) (Int32.toNatClampNeg (zfi σ 6 1 a0)) x4) 6 1 a0 ((zfi σ 6 1 a0) + 1)) P else wp 55 81 [some (.ref a0), some (.int x1), some (.int x2), some (.int x3), some (.int x4)] [] (sfi (sai (sai (sai σ 10 s2 (Int32.toNatClampNeg s1) s0) 10 ((a0 + 1) + 1 + 1 * Int32.toNatClampNeg 2) (Int32.toNatClampNeg (zfi σ 6 1 a0)) x3) 10 ((a0 + 1) + 1 + 1 * Int32.toNatClampNeg 3) (Int32.toNatClampNeg (zfi σ 6 1 a0)) x4) 6 1 a0 ((zfi σ 6 1 a0) + 1)) P))))))) := by
  refine (wc_st (n' := 42) rfl (zcode_of mc_55 (r := (.iastore, 0, 0, 0)) rfl) hs rfl).trans (and_congr_right fun h1 => ?_)
  refine (wp_s (n := 43) (zcode_of mc_55 (r := (.aload_n 0, 0, 0, 0)) rfl) rfl rfl).trans ?_
  refine (wc_is (σ := sai σ 10 s2 (Int32.toNatClampNeg s1) s0) (zcode_of mc_55 (r := (.getfield 13, 6, 0, 0)) rfl)).trans (and_congr_right fun h2 => ?_)
  refine (wc_getR (σ := sai σ 10 s2 (Int32.toNatClampNeg s1) s0) (n' := 46) (d := 1) rfl (zcode_of mc_55 (r := (.getfield 13, 6, 0, 0)) rfl) rfl (cs_sai hC) le_6_0 rfl rfl rfl h2).trans ?_
  refine (wp_ic (n' := 47) rfl (zcode_of mc_55 (r := (.iconst 2, 0, 0, 0)) rfl) ci_2).trans ?_
  refine (wc_ald (σ := sai σ 10 s2 (Int32.toNatClampNeg s1) s0) (n' := 48) rfl (zcode_of mc_55 (r := (.aaload, 0, 0, 0)) rfl) (cs_sai hC) la_9 rfl rfl rfl rfl rfl (cs_T (cs_sai hC) le_6_0 h2)).trans (and_congr_right fun h3 => ?_)
  refine (wp_s (n := 49) (zcode_of mc_55 (r := (.aload_n 0, 0, 0, 0)) rfl) rfl rfl).trans ?_
  refine (wc_getI (σ := sai σ 10 s2 (Int32.toNatClampNeg s1) s0) (n' := 52) rfl (zcode_of mc_55 (r := (.getfield 16, 6, 1, 0)) rfl) rfl h2).trans ?_
  refine (wp_s (n := 53) (zcode_of mc_55 (r := (.iload_n 3, 0, 0, 0)) rfl) rfl rfl).trans ?_
  refine (wc_st (σ := sai σ 10 s2 (Int32.toNatClampNeg s1) s0) (n' := 54) rfl (zcode_of mc_55 (r := (.iastore, 0, 0, 0)) rfl) (cs_A (cs_sai hC) la_9 (cs_T (cs_sai hC) le_6_0 h2) h3) rfl).trans (and_congr_right fun h4 => ?_)
  refine (wp_s (n := 55) (zcode_of mc_55 (r := (.aload_n 0, 0, 0, 0)) rfl) rfl rfl).trans ?_
  refine (wc_getR (σ := sai (sai σ 10 s2 (Int32.toNatClampNeg s1) s0) 10 ((a0 + 1) + 1 + 1 * Int32.toNatClampNeg 2) (Int32.toNatClampNeg (zfi σ 6 1 a0)) x3) (n' := 58) (d := 1) rfl (zcode_of mc_55 (r := (.getfield 13, 6, 0, 0)) rfl) rfl (cs_sai (cs_sai hC)) le_6_0 rfl rfl rfl h2).trans ?_
  refine (wp_ic (n' := 59) rfl (zcode_of mc_55 (r := (.iconst 3, 0, 0, 0)) rfl) ci_3).trans ?_
  refine (wc_ald (σ := sai (sai σ 10 s2 (Int32.toNatClampNeg s1) s0) 10 ((a0 + 1) + 1 + 1 * Int32.toNatClampNeg 2) (Int32.toNatClampNeg (zfi σ 6 1 a0)) x3) (n' := 60) rfl (zcode_of mc_55 (r := (.aaload, 0, 0, 0)) rfl) (cs_sai (cs_sai hC)) la_9 rfl rfl rfl rfl rfl (cs_T (cs_sai (cs_sai hC)) le_6_0 h2)).trans (and_congr_right fun h5 => ?_)
  refine (wp_s (n := 61) (zcode_of mc_55 (r := (.aload_n 0, 0, 0, 0)) rfl) rfl rfl).trans ?_
  refine (wc_getI (σ := sai (sai σ 10 s2 (Int32.toNatClampNeg s1) s0) 10 ((a0 + 1) + 1 + 1 * Int32.toNatClampNeg 2) (Int32.toNatClampNeg (zfi σ 6 1 a0)) x3) (n' := 64) rfl (zcode_of mc_55 (r := (.getfield 16, 6, 1, 0)) rfl) rfl h2).trans ?_
  refine (wp_s (n := 66) (zcode_of mc_55 (r := (.iload 4, 0, 0, 0)) rfl) rfl rfl).trans ?_
  refine (wc_st (σ := sai (sai σ 10 s2 (Int32.toNatClampNeg s1) s0) 10 ((a0 + 1) + 1 + 1 * Int32.toNatClampNeg 2) (Int32.toNatClampNeg (zfi σ 6 1 a0)) x3) (n' := 67) rfl (zcode_of mc_55 (r := (.iastore, 0, 0, 0)) rfl) (cs_A (cs_sai (cs_sai hC)) la_9 (cs_T (cs_sai (cs_sai hC)) le_6_0 h2) h5) rfl).trans (and_congr_right fun h6 => ?_)
  refine (wp_s (n := 68) (zcode_of mc_55 (r := (.aload_n 0, 0, 0, 0)) rfl) rfl rfl).trans ?_
  refine (wp_s (n := 69) (zcode_of mc_55 (r := (.dup, 0, 0, 0)) rfl) rfl rfl).trans ?_
  refine (wc_getI (σ := sai (sai (sai σ 10 s2 (Int32.toNatClampNeg s1) s0) 10 ((a0 + 1) + 1 + 1 * Int32.toNatClampNeg 2) (Int32.toNatClampNeg (zfi σ 6 1 a0)) x3) 10 ((a0 + 1) + 1 + 1 * Int32.toNatClampNeg 3) (Int32.toNatClampNeg (zfi σ 6 1 a0)) x4) (n' := 72) rfl (zcode_of mc_55 (r := (.getfield 16, 6, 1, 0)) rfl) rfl h2).trans ?_
  refine (wp_ic (n' := 73) rfl (zcode_of mc_55 (r := (.iconst 1, 0, 0, 0)) rfl) ci_1).trans ?_
  refine (wp_s (n := 74) (zcode_of mc_55 (r := (.iadd, 0, 0, 0)) rfl) rfl rfl).trans ?_
  refine (wc_putI (σ := sai (sai (sai σ 10 s2 (Int32.toNatClampNeg s1) s0) 10 ((a0 + 1) + 1 + 1 * Int32.toNatClampNeg 2) (Int32.toNatClampNeg (zfi σ 6 1 a0)) x3) 10 ((a0 + 1) + 1 + 1 * Int32.toNatClampNeg 3) (Int32.toNatClampNeg (zfi σ 6 1 a0)) x4) (n' := 77) rfl (zcode_of mc_55 (r := (.putfield 16, 6, 1, 0)) rfl) rfl h2).trans ?_
  refine (wp_s (n := 78) (zcode_of mc_55 (r := (.iload_n 2, 0, 0, 0)) rfl) rfl rfl).trans ?_
  exact wp_jump (off := 16) (t := 94) (zcode_of mc_55 (r := (.ifCond .eq 16, 0, 0, 0)) rfl) rfl rfl (by decide)
theorem b55_81 {σ : zSt} {P : Option Value → zSt → Prop} {a0 : Nat} {x1 x2 x3 x4 : Int32} :
    wp 55 81 [some (.ref a0), some (.int x1), some (.int x2), some (.int x3), some (.int x4)] [] σ P ↔ (zIs σ a0 6 ∧ wp 55 104 [some (.ref a0), some (.int x1), some (.int x2), some (.int x3), some (.int x4)] [] (sfi σ 6 2 a0 ((zfi σ 6 2 a0) + 1)) P) := by
  refine (wp_s (n := 82) (zcode_of mc_55 (r := (.aload_n 0, 0, 0, 0)) rfl) rfl rfl).trans ?_
  refine (wp_s (n := 83) (zcode_of mc_55 (r := (.dup, 0, 0, 0)) rfl) rfl rfl).trans ?_
  refine (wc_is (zcode_of mc_55 (r := (.getfield 20, 6, 2, 0)) rfl)).trans (and_congr_right fun h1 => ?_)
  refine (wc_getI (n' := 86) rfl (zcode_of mc_55 (r := (.getfield 20, 6, 2, 0)) rfl) rfl h1).trans ?_
  refine (wp_ic (n' := 87) rfl (zcode_of mc_55 (r := (.iconst 1, 0, 0, 0)) rfl) ci_1).trans ?_
  refine (wp_s (n := 88) (zcode_of mc_55 (r := (.iadd, 0, 0, 0)) rfl) rfl rfl).trans ?_
  refine (wc_putI (n' := 91) rfl (zcode_of mc_55 (r := (.putfield 20, 6, 2, 0)) rfl) rfl h1).trans ?_
  exact wp_goto (off := 13) (t := 104) (zcode_of mc_55 (r := (.goto 13, 0, 0, 0)) rfl) (by decide)
theorem b55_94 {σ : zSt} {P : Option Value → zSt → Prop} {a0 : Nat} {x1 x2 x3 x4 : Int32} :
    wp 55 94 [some (.ref a0), some (.int x1), some (.int x2), some (.int x3), some (.int x4)] [] σ P ↔ (zIs σ a0 6 ∧ wp 55 104 [some (.ref a0), some (.int x1), some (.int x2), some (.int x3), some (.int x4)] [] (sfi σ 6 3 a0 ((zfi σ 6 3 a0) + 1)) P) := by
  refine (wp_s (n := 95) (zcode_of mc_55 (r := (.aload_n 0, 0, 0, 0)) rfl) rfl rfl).trans ?_
  refine (wp_s (n := 96) (zcode_of mc_55 (r := (.dup, 0, 0, 0)) rfl) rfl rfl).trans ?_
  refine (wc_is (zcode_of mc_55 (r := (.getfield 23, 6, 3, 0)) rfl)).trans (and_congr_right fun h1 => ?_)
  refine (wc_getI (n' := 99) rfl (zcode_of mc_55 (r := (.getfield 23, 6, 3, 0)) rfl) rfl h1).trans ?_
  refine (wp_ic (n' := 100) rfl (zcode_of mc_55 (r := (.iconst 1, 0, 0, 0)) rfl) ci_1).trans ?_
  refine (wp_s (n := 101) (zcode_of mc_55 (r := (.iadd, 0, 0, 0)) rfl) rfl rfl).trans ?_
  refine (wc_putI (n' := 104) rfl (zcode_of mc_55 (r := (.putfield 23, 6, 3, 0)) rfl) rfl h1).trans ?_
  exact Iff.rfl
theorem b55_104 {σ : zSt} {P : Option Value → zSt → Prop} {a0 : Nat} {x1 x2 x3 x4 : Int32} :
    wp 55 104 [some (.ref a0), some (.int x1), some (.int x2), some (.int x3), some (.int x4)] [] σ P ↔ P none σ := by
  exact wp_retV (zcode_of mc_55 (r := (.return_, 0, 0, 0)) rfl) rfl
theorem mc_56 : mCode 56 = zc_56 := rfl
theorem b56 {σ : zSt} {P : Option Value → zSt → Prop} {a0 : Nat} :
    wpM 56 [.ref a0] σ P ↔ ((¬ (3 : Int32) < 0 ∧ Int32.toNatClampNeg 3 * 4 ≤ 536870912) ∧ wp 56 9 [some (.ref a0), none] [.ref (znx σ), .ref a0] (zNewR σ 7 (Int32.toNatClampNeg 3)) P) := by
  show wp 56 0 [some (.ref a0), none] [] σ P ↔ _
  refine (wp_s (n := 1) (zcode_of mc_56 (r := (.aload_n 0, 0, 0, 0)) rfl) rfl rfl).trans ?_
  refine (wc_oi (n' := 4) rfl (zcode_of mc_56 (r := (.invokespecial 3, 0, 5, 0)) rfl) (Nat.le_of_ble_eq_true rfl)).trans ?_
  refine (wp_s (n := 5) (zcode_of mc_56 (r := (.aload_n 0, 0, 0, 0)) rfl) rfl rfl).trans ?_
  refine (wp_ic (n' := 6) rfl (zcode_of mc_56 (r := (.iconst 3, 0, 0, 0)) rfl) ci_3).trans ?_
  refine (wc_ana (n' := 9) rfl (zcode_of mc_56 (r := (.anewarray 9, 7, 0, 0)) rfl)).trans (and_congr_right fun h1 => ?_)
  exact Iff.rfl
theorem b56_9 {σ : zSt} {P : Option Value → zSt → Prop} {a0 s0 s1 : Nat} {u1 : Option Value} :
    wp 56 9 [some (.ref a0), u1] [.ref s0, .ref s1] σ P ↔ (zIs σ s1 7 ∧ (zIs σ a0 7 ∧ wp 56 24 [some (.ref a0), some (.int 0)] [] (sfi (sfi (sfr σ 7 0 s1 (some s0)) 7 1 a0 0) 7 2 a0 0) P)) := by
  refine (wc_isP (zcode_of mc_56 (r := (.putfield 11, 7, 0, 0)) rfl)).trans (and_congr_right fun h1 => ?_)
  refine (wc_putR (n' := 12) rfl (zcode_of mc_56 (r := (.putfield 11, 7, 0, 0)) rfl) rfl h1).trans ?_
  refine (wp_s (n := 13) (zcode_of mc_56 (r := (.aload_n 0, 0, 0, 0)) rfl) rfl rfl).trans ?_
  refine (wp_ic (n' := 14) rfl (zcode_of mc_56 (r := (.iconst 0, 0, 0, 0)) rfl) ci_0).trans ?_
  refine (wc_isP (σ := sfr σ 7 0 s1 (some s0)) (zcode_of mc_56 (r := (.putfield 17, 7, 1, 0)) rfl)).trans (and_congr_right fun h2 => ?_)
  refine (wc_putI (σ := sfr σ 7 0 s1 (some s0)) (n' := 17) rfl (zcode_of mc_56 (r := (.putfield 17, 7, 1, 0)) rfl) rfl h2).trans ?_
  refine (wp_s (n := 18) (zcode_of mc_56 (r := (.aload_n 0, 0, 0, 0)) rfl) rfl rfl).trans ?_
  refine (wp_ic (n' := 19) rfl (zcode_of mc_56 (r := (.iconst 0, 0, 0, 0)) rfl) ci_0).trans ?_
  refine (wc_putI (σ := sfi (sfr σ 7 0 s1 (some s0)) 7 1 a0 0) (n' := 22) rfl (zcode_of mc_56 (r := (.putfield 21, 7, 2, 0)) rfl) rfl h2).trans ?_
  refine (wp_ic (n' := 23) rfl (zcode_of mc_56 (r := (.iconst 0, 0, 0, 0)) rfl) ci_0).trans ?_
  refine (wp_s (n := 24) (zcode_of mc_56 (r := (.istore_n 1, 0, 0, 0)) rfl) rfl rfl).trans ?_
  exact Iff.rfl
theorem b56_24 {σ : zSt} {P : Option Value → zSt → Prop} {a0 : Nat} {x1 : Int32} :
    wp 56 24 [some (.ref a0), some (.int x1)] [] σ P ↔ (zIs σ a0 7 ∧ ((zfr σ 7 0 a0).isSome = true ∧ (((ztg σ (zrf σ 7 0 a0)).1 = 2 ∨ (ztg σ (zrf σ 7 0 a0)).1 = 3 ∨ (ztg σ (zrf σ 7 0 a0)).1 = 4 ∨ (ztg σ (zrf σ 7 0 a0)).1 = 5) ∧ (if (zln σ (zrf σ 7 0 a0)) ≤ x1 then wp 56 52 [some (.ref a0), some (.int x1)] [] σ P else wp 56 33 [some (.ref a0), some (.int x1)] [] σ P)))) := by
  refine (wp_s (n := 25) (zcode_of mc_56 (r := (.iload_n 1, 0, 0, 0)) rfl) rfl rfl).trans ?_
  refine (wp_s (n := 26) (zcode_of mc_56 (r := (.aload_n 0, 0, 0, 0)) rfl) rfl rfl).trans ?_
  refine (wc_is (zcode_of mc_56 (r := (.getfield 11, 7, 0, 0)) rfl)).trans (and_congr_right fun h1 => ?_)
  refine (wc_getE (n' := 29) rfl (zcode_of mc_56 (r := (.getfield 11, 7, 0, 0)) rfl) rfl h1).trans (and_congr_right fun h2 => ?_)
  refine (wc_len (n' := 30) rfl (zcode_of mc_56 (r := (.arraylength, 0, 0, 0)) rfl)).trans (and_congr_right fun h3 => ?_)
  exact wp_jump (off := 22) (t := 52) (zcode_of mc_56 (r := (.if_icmp .ge 22, 0, 0, 0)) rfl) rfl rfl (by decide)
theorem b56_33 {σ : zSt} {P : Option Value → zSt → Prop} {a0 : Nat} {x1 : Int32} :
    wp 56 33 [some (.ref a0), some (.int x1)] [] σ P ↔ (zIs σ a0 7 ∧ ((zfr σ 7 0 a0).isSome = true ∧ wp 56 41 [some (.ref a0), some (.int x1)] [.ref (znx σ), .int x1, .ref (zrf σ 7 0 a0)] (zNew σ 2) P)) := by
  refine (wp_s (n := 34) (zcode_of mc_56 (r := (.aload_n 0, 0, 0, 0)) rfl) rfl rfl).trans ?_
  refine (wc_is (zcode_of mc_56 (r := (.getfield 11, 7, 0, 0)) rfl)).trans (and_congr_right fun h1 => ?_)
  refine (wc_getE (n' := 37) rfl (zcode_of mc_56 (r := (.getfield 11, 7, 0, 0)) rfl) rfl h1).trans (and_congr_right fun h2 => ?_)
  refine (wp_s (n := 38) (zcode_of mc_56 (r := (.iload_n 1, 0, 0, 0)) rfl) rfl rfl).trans ?_
  refine (wc_new (n' := 41) rfl (zcode_of mc_56 (r := (.new 9, 2, 0, 0)) rfl)).trans ?_
  exact Iff.rfl
theorem b56_41 {σ : zSt} {P : Option Value → zSt → Prop} {a0 s0 s2 : Nat} {x1 s1 : Int32} :
    wp 56 41 [some (.ref a0), some (.int x1)] [.ref s0, .int s1, .ref s2] σ P ↔ wpM 14 [.ref s0] σ (fun r τ => wp 56 45 [some (.ref a0), some (.int x1)] (r.toList ++ [.ref s0, .int s1, .ref s2]) τ P) := by
  refine (wp_s (n := 42) (zcode_of mc_56 (r := (.dup, 0, 0, 0)) rfl) rfl rfl).trans ?_
  exact wp_call (q := ([.ref s0], [.ref s0, .int s1, .ref s2])) (zcode_of mc_56 (r := (.invokespecial 24, 14, 3, 0)) rfl) rfl (zCa_I (Nat.le_of_ble_eq_true rfl) rfl (Or.inr rfl)) ⟨Nat.le_of_ble_eq_true rfl, Nat.le_of_ble_eq_true rfl⟩
theorem b56_45 {σ : zSt} {P : Option Value → zSt → Prop} {a0 s0 s2 : Nat} {x1 s1 : Int32} :
    wp 56 45 [some (.ref a0), some (.int x1)] [.ref s0, .int s1, .ref s2] σ P ↔ (((ztg σ s2).1 = 3 ∧ zAsg (ztg σ s2).2.1 (ztg σ s0) = true ∧ zIn s1 (ztg σ s2).2.2) ∧ wp 56 24 [some (.ref a0), some (.int (x1 + 1))] [] (sar σ (ztg σ s2).2.1 s2 (Int32.toNatClampNeg s1) (some s0)) P) := by
  refine (wc_ast (n' := 46) rfl (zcode_of mc_56 (r := (.aastore, 0, 0, 0)) rfl)).trans (and_congr_right fun h1 => ?_)
  refine (wp_inc (n' := 49) rfl (zcode_of mc_56 (r := (.iinc 1 1, 0, 0, 0)) rfl) rfl rfl ci_1).trans ?_
  exact wp_goto (off := (-25)) (t := 24) (zcode_of mc_56 (r := (.goto (-25), 0, 0, 0)) rfl) (by decide)
theorem b56_52 {σ : zSt} {P : Option Value → zSt → Prop} {a0 : Nat} {x1 : Int32} :
    wp 56 52 [some (.ref a0), some (.int x1)] [] σ P ↔ P none σ := by
  exact wp_retV (zcode_of mc_56 (r := (.return_, 0, 0, 0)) rfl) rfl
theorem mc_57 : mCode 57 = zc_57 := rfl
theorem b57 {σ : zSt} {P : Option Value → zSt → Prop} {a0 : Nat} {x1 : Int32} :
    wpM 57 [.ref a0, .int x1] σ P ↔ (zIs σ a0 7 ∧ wpM 58 [.ref a0, .int 0] (sfi σ 7 1 a0 (if 3 < x1 then 3 else x1)) (fun r τ => wp 57 14 [some (.ref a0), some (.int x1)] (r.toList ++ []) τ P)) := by
  show wp 57 0 [some (.ref a0), some (.int x1)] [] σ P ↔ _
  refine (wp_s (n := 1) (zcode_of mc_57 (r := (.aload_n 0, 0, 0, 0)) rfl) rfl rfl).trans ?_
  refine (wp_s (n := 2) (zcode_of mc_57 (r := (.iload_n 1, 0, 0, 0)) rfl) rfl rfl).trans ?_
  refine (wp_ic (n' := 3) rfl (zcode_of mc_57 (r := (.iconst 3, 0, 0, 0)) rfl) ci_3).trans ?_
  refine (wc_min (n' := 6) rfl (zcode_of mc_57 (r := (.invokestatic 25, 0, 9, 2)) rfl) (Nat.le_of_ble_eq_true rfl)).trans ?_
  refine (wc_isP (zcode_of mc_57 (r := (.putfield 17, 7, 1, 0)) rfl)).trans (and_congr_right fun h1 => ?_)
  refine (wc_putI (n' := 9) rfl (zcode_of mc_57 (r := (.putfield 17, 7, 1, 0)) rfl) rfl h1).trans ?_
  refine (wp_s (n := 10) (zcode_of mc_57 (r := (.aload_n 0, 0, 0, 0)) rfl) rfl rfl).trans ?_
  refine (wp_ic (n' := 11) rfl (zcode_of mc_57 (r := (.iconst 0, 0, 0, 0)) rfl) ci_0).trans ?_
  exact wp_call (q := ([.ref a0, .int 0], [])) (zcode_of mc_57 (r := (.invokevirtual 31, 58, 0, 1)) rfl) rfl (zCa_V (Nat.le_of_ble_eq_true rfl) rfl h1) ⟨Nat.le_of_ble_eq_true rfl, Nat.le_of_ble_eq_true rfl⟩
theorem b57_14 {σ : zSt} {P : Option Value → zSt → Prop} {a0 : Nat} {x1 : Int32} :
    wp 57 14 [some (.ref a0), some (.int x1)] [] σ P ↔ P none σ := by
  exact wp_retV (zcode_of mc_57 (r := (.return_, 0, 0, 0)) rfl) rfl
theorem mc_58 : mCode 58 = zc_58 := rfl
theorem b58 {σ : zSt} {P : Option Value → zSt → Prop} {a0 : Nat} {x1 : Int32} :
    wpM 58 [.ref a0, .int x1] σ P ↔ (zIs σ a0 7 ∧ wp 58 7 [some (.ref a0), some (.int x1), some (.int 0)] [] (sfi σ 7 2 a0 x1) P) := by
  show wp 58 0 [some (.ref a0), some (.int x1), none] [] σ P ↔ _
  refine (wp_s (n := 1) (zcode_of mc_58 (r := (.aload_n 0, 0, 0, 0)) rfl) rfl rfl).trans ?_
  refine (wp_s (n := 2) (zcode_of mc_58 (r := (.iload_n 1, 0, 0, 0)) rfl) rfl rfl).trans ?_
  refine (wc_isP (zcode_of mc_58 (r := (.putfield 21, 7, 2, 0)) rfl)).trans (and_congr_right fun h1 => ?_)
  refine (wc_putI (n' := 5) rfl (zcode_of mc_58 (r := (.putfield 21, 7, 2, 0)) rfl) rfl h1).trans ?_
  refine (wp_ic (n' := 6) rfl (zcode_of mc_58 (r := (.iconst 0, 0, 0, 0)) rfl) ci_0).trans ?_
  refine (wp_s (n := 7) (zcode_of mc_58 (r := (.istore_n 2, 0, 0, 0)) rfl) rfl rfl).trans ?_
  exact Iff.rfl
theorem b58_7 {σ : zSt} {P : Option Value → zSt → Prop} (hC : CShape σ) {a0 : Nat} {x1 x2 : Int32} :
    wp 58 7 [some (.ref a0), some (.int x1), some (.int x2)] [] σ P ↔ (zIs σ a0 7 ∧ (((ztg σ (a0 + 1)).1 = 2 ∨ (ztg σ (a0 + 1)).1 = 3 ∨ (ztg σ (a0 + 1)).1 = 4 ∨ (ztg σ (a0 + 1)).1 = 5) ∧ (if (zln σ (a0 + 1)) ≤ x2 then wp 58 32 [some (.ref a0), some (.int x1), some (.int x2)] [] σ P else wp 58 16 [some (.ref a0), some (.int x1), some (.int x2)] [] σ P))) := by
  refine (wp_s (n := 8) (zcode_of mc_58 (r := (.iload_n 2, 0, 0, 0)) rfl) rfl rfl).trans ?_
  refine (wp_s (n := 9) (zcode_of mc_58 (r := (.aload_n 0, 0, 0, 0)) rfl) rfl rfl).trans ?_
  refine (wc_is (zcode_of mc_58 (r := (.getfield 11, 7, 0, 0)) rfl)).trans (and_congr_right fun h1 => ?_)
  refine (wc_getR (n' := 12) (d := 1) rfl (zcode_of mc_58 (r := (.getfield 11, 7, 0, 0)) rfl) rfl hC le_7_0 rfl rfl rfl h1).trans ?_
  refine (wc_len (n' := 13) rfl (zcode_of mc_58 (r := (.arraylength, 0, 0, 0)) rfl)).trans (and_congr_right fun h2 => ?_)
  exact wp_jump (off := 19) (t := 32) (zcode_of mc_58 (r := (.if_icmp .ge 19, 0, 0, 0)) rfl) rfl rfl (by decide)
