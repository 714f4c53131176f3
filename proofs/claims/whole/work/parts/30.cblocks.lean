theorem b97_20 {σ : zSt} {P : Option Value → zSt → Prop} {a0 : Nat} {x1 x2 s0 : Int32} {u3 u4 u5 u6 u7 : Option Value} :
    wp 97 20 [some (.ref a0), some (.int x1), some (.int x2), u3, u4, u5, u6, u7] [.int s0] σ P ↔ (if ¬ s0 = 0 then wp 97 26 [some (.ref a0), some (.int x1), some (.int x2), u3, u4, u5, u6, u7] [] σ P else wp 97 23 [some (.ref a0), some (.int x1), some (.int x2), u3, u4, u5, u6, u7] [] σ P) := by
  exact wp_jump (off := 6) (t := 26) (zcode_of mc_97 (r := (.ifCond .ne 6, 0, 0, 0)) rfl) rfl rfl (by decide)
theorem b97_23 {σ : zSt} {P : Option Value → zSt → Prop} {a0 : Nat} {x1 x2 : Int32} {u3 u4 u5 u6 u7 : Option Value} :
    wp 97 23 [some (.ref a0), some (.int x1), some (.int x2), u3, u4, u5, u6, u7] [] σ P ↔ P (some (.int (-2))) σ := by
  refine (wp_bp (n' := 25) rfl (zcode_of mc_97 (r := (.bipush (-2), 0, 0, 0)) rfl) cb_m2).trans ?_
  exact wp_retI (zcode_of mc_97 (r := (.ireturn, 0, 0, 0)) rfl) rfl
theorem b97_26 {σ : zSt} {P : Option Value → zSt → Prop} {a0 : Nat} {x1 x2 : Int32} {u3 u4 u5 u6 u7 : Option Value} :
    wp 97 26 [some (.ref a0), some (.int x1), some (.int x2), u3, u4, u5, u6, u7] [] σ P ↔ (if ¬ x2 = (-1) then wp 97 41 [some (.ref a0), some (.int x1), some (.int x2), u3, u4, u5, u6, u7] [] σ P else wp 97 31 [some (.ref a0), some (.int x1), some (.int x2), u3, u4, u5, u6, u7] [] σ P) := by
  refine (wp_s (n := 27) (zcode_of mc_97 (r := (.iload_n 2, 0, 0, 0)) rfl) rfl rfl).trans ?_
  refine (wp_ic (n' := 28) rfl (zcode_of mc_97 (r := (.iconst (-1), 0, 0, 0)) rfl) ci_m1).trans ?_
  exact wp_jump (off := 13) (t := 41) (zcode_of mc_97 (r := (.if_icmp .ne 13, 0, 0, 0)) rfl) rfl rfl (by decide)
theorem b97_31 {σ : zSt} {P : Option Value → zSt → Prop} (hC : CShape σ) {a0 : Nat} {x1 x2 : Int32} {u3 u4 u5 u6 u7 : Option Value} :
    wp 97 31 [some (.ref a0), some (.int x1), some (.int x2), u3, u4, u5, u6, u7] [] σ P ↔ (zIs σ a0 11 ∧ wpM 35 [.ref (a0 + 13)] σ (fun r τ => wp 97 38 [some (.ref a0), some (.int x1), some (.int x2), u3, u4, u5, u6, u7] (r.toList ++ []) τ P)) := by
  refine (wp_s (n := 32) (zcode_of mc_97 (r := (.aload_n 0, 0, 0, 0)) rfl) rfl rfl).trans ?_
  refine (wc_is (zcode_of mc_97 (r := (.getfield 26, 11, 2, 0)) rfl)).trans (and_congr_right fun h1 => ?_)
  refine (wc_getR (n' := 35) (d := 13) rfl (zcode_of mc_97 (r := (.getfield 26, 11, 2, 0)) rfl) rfl hC le_11_2 rfl rfl rfl h1).trans ?_
  exact wp_call (q := ([.ref (a0 + 13)], [])) (zcode_of mc_97 (r := (.invokevirtual 193, 35, 0, 0)) rfl) rfl (zCa_V (Nat.le_of_ble_eq_true rfl) rfl (zIs_of (cs_T hC le_11_2 h1))) ⟨Nat.le_of_ble_eq_true rfl, Nat.le_of_ble_eq_true rfl⟩
theorem b97_38 {σ : zSt} {P : Option Value → zSt → Prop} {a0 : Nat} {x1 x2 : Int32} {s0 : Int64} {u3 u4 u5 u6 u7 : Option Value} :
    wp 97 38 [some (.ref a0), some (.int x1), some (.int x2), u3, u4, u5, u6, u7] [.long s0] σ P ↔ wp 97 59 [some (.ref a0), some (.int x1), some (.int x2), u3, u4, u5, u6, u7] [.long s0] σ P := by
  exact wp_goto (off := 21) (t := 59) (zcode_of mc_97 (r := (.goto 21, 0, 0, 0)) rfl) (by decide)
theorem b97_41 {σ : zSt} {P : Option Value → zSt → Prop} (hC : CShape σ) {a0 : Nat} {x1 x2 : Int32} {u3 u4 u5 u6 u7 : Option Value} :
    wp 97 41 [some (.ref a0), some (.int x1), some (.int x2), u3, u4, u5, u6, u7] [] σ P ↔ (zIs σ a0 11 ∧ wpM 77 [.ref (a0 + 1), .int x2] σ (fun r τ => wp 97 53 [some (.ref a0), some (.int x1), some (.int x2), u3, u4, u5, u6, u7] (r.toList ++ [.ref (a0 + 13)]) τ P)) := by
  refine (wp_s (n := 42) (zcode_of mc_97 (r := (.aload_n 0, 0, 0, 0)) rfl) rfl rfl).trans ?_
  refine (wc_is (zcode_of mc_97 (r := (.getfield 26, 11, 2, 0)) rfl)).trans (and_congr_right fun h1 => ?_)
  refine (wc_getR (n' := 45) (d := 13) rfl (zcode_of mc_97 (r := (.getfield 26, 11, 2, 0)) rfl) rfl hC le_11_2 rfl rfl rfl h1).trans ?_
  refine (wp_s (n := 46) (zcode_of mc_97 (r := (.aload_n 0, 0, 0, 0)) rfl) rfl rfl).trans ?_
  refine (wc_getR (n' := 49) (d := 1) rfl (zcode_of mc_97 (r := (.getfield 12, 11, 0, 0)) rfl) rfl hC le_11_0 rfl rfl rfl h1).trans ?_
  refine (wp_s (n := 50) (zcode_of mc_97 (r := (.iload_n 2, 0, 0, 0)) rfl) rfl rfl).trans ?_
  exact wp_call (q := ([.ref (a0 + 1), .int x2], [.ref (a0 + 13)])) (zcode_of mc_97 (r := (.invokevirtual 73, 77, 0, 1)) rfl) rfl (zCa_V (Nat.le_of_ble_eq_true rfl) rfl (zIs_of (cs_T hC le_11_0 h1))) ⟨Nat.le_of_ble_eq_true rfl, Nat.le_of_ble_eq_true rfl⟩
theorem b97_53 {σ : zSt} {P : Option Value → zSt → Prop} {a0 s0 s1 : Nat} {x1 x2 : Int32} {u3 u4 u5 u6 u7 : Option Value} :
    wp 97 53 [some (.ref a0), some (.int x1), some (.int x2), u3, u4, u5, u6, u7] [.ref s0, .ref s1] σ P ↔ (zIs σ s0 8 ∧ wpM 63 [.ref s0] σ (fun r τ => wp 97 56 [some (.ref a0), some (.int x1), some (.int x2), u3, u4, u5, u6, u7] (r.toList ++ [.ref s1]) τ P)) := by
  refine (wc_isV (cl := 8) (rest := [.ref s1]) (zcode_of mc_97 (r := (.invokevirtual 197, 63, 0, 0)) rfl) rfl rfl rfl).trans (and_congr_right fun h1 => ?_)
  exact wp_call (q := ([.ref s0], [.ref s1])) (zcode_of mc_97 (r := (.invokevirtual 197, 63, 0, 0)) rfl) rfl (zCa_V (Nat.le_of_ble_eq_true rfl) rfl h1) ⟨Nat.le_of_ble_eq_true rfl, Nat.le_of_ble_eq_true rfl⟩
theorem b97_56 {σ : zSt} {P : Option Value → zSt → Prop} {a0 s1 : Nat} {x1 x2 : Int32} {s0 : Int64} {u3 u4 u5 u6 u7 : Option Value} :
    wp 97 56 [some (.ref a0), some (.int x1), some (.int x2), u3, u4, u5, u6, u7] [.long s0, .ref s1] σ P ↔ (zIs σ s1 4 ∧ wpM 37 [.ref s1, .long s0] σ (fun r τ => wp 97 59 [some (.ref a0), some (.int x1), some (.int x2), u3, u4, u5, u6, u7] (r.toList ++ []) τ P)) := by
  refine (wc_isV (cl := 4) (rest := []) (zcode_of mc_97 (r := (.invokevirtual 200, 37, 0, 1)) rfl) rfl rfl rfl).trans (and_congr_right fun h1 => ?_)
  exact wp_call (q := ([.ref s1, .long s0], [])) (zcode_of mc_97 (r := (.invokevirtual 200, 37, 0, 1)) rfl) rfl (zCa_V (Nat.le_of_ble_eq_true rfl) rfl h1) ⟨Nat.le_of_ble_eq_true rfl, Nat.le_of_ble_eq_true rfl⟩
theorem b97_59 {σ : zSt} {P : Option Value → zSt → Prop} (hC : CShape σ) {a0 : Nat} {x1 x2 : Int32} {s0 : Int64} {u3 u4 u5 u6 u7 : Option Value} :
    wp 97 59 [some (.ref a0), some (.int x1), some (.int x2), u3, u4, u5, u6, u7] [.long s0] σ P ↔ (zIs σ a0 11 ∧ wpM 54 [.ref (a0 + 21)] σ (fun r τ => wp 97 76 [some (.ref a0), some (.int x1), some (.int x2), some (.long s0), none, some (.int (zfi σ 6 2 (a0 + 21))), u6, u7] (r.toList ++ []) τ P)) := by
  refine (wp_s (n := 60) (zcode_of mc_97 (r := (.lstore_n 3, 0, 0, 0)) rfl) rfl rfl).trans ?_
  refine (wp_s (n := 61) (zcode_of mc_97 (r := (.aload_n 0, 0, 0, 0)) rfl) rfl rfl).trans ?_
  refine (wc_is (zcode_of mc_97 (r := (.getfield 47, 11, 5, 0)) rfl)).trans (and_congr_right fun h1 => ?_)
  refine (wc_getR (n' := 64) (d := 21) rfl (zcode_of mc_97 (r := (.getfield 47, 11, 5, 0)) rfl) rfl hC le_11_5 rfl rfl rfl h1).trans ?_
  refine (wc_getI (n' := 67) rfl (zcode_of mc_97 (r := (.getfield 204, 6, 2, 0)) rfl) rfl (zIs_of (cs_T hC le_11_5 h1))).trans ?_
  refine (wp_s (n := 69) (zcode_of mc_97 (r := (.istore 5, 0, 0, 0)) rfl) rfl rfl).trans ?_
  refine (wp_s (n := 70) (zcode_of mc_97 (r := (.aload_n 0, 0, 0, 0)) rfl) rfl rfl).trans ?_
  refine (wc_getR (n' := 73) (d := 21) rfl (zcode_of mc_97 (r := (.getfield 47, 11, 5, 0)) rfl) rfl hC le_11_5 rfl rfl rfl h1).trans ?_
  exact wp_call (q := ([.ref (a0 + 21)], [])) (zcode_of mc_97 (r := (.invokevirtual 207, 54, 0, 0)) rfl) rfl (zCa_V (Nat.le_of_ble_eq_true rfl) rfl (zIs_of (cs_T hC le_11_5 h1))) ⟨Nat.le_of_ble_eq_true rfl, Nat.le_of_ble_eq_true rfl⟩
theorem b97_76 {σ : zSt} {P : Option Value → zSt → Prop} {a0 : Nat} {x1 x2 x5 : Int32} {x3 : Int64} {u6 u7 : Option Value} :
    wp 97 76 [some (.ref a0), some (.int x1), some (.int x2), some (.long x3), none, some (.int x5), u6, u7] [] σ P ↔ wp 97 79 [some (.ref a0), some (.int x1), some (.int x2), some (.long x3), none, some (.int x5), some (.int 0), u7] [] σ P := by
  refine (wp_ic (n' := 77) rfl (zcode_of mc_97 (r := (.iconst 0, 0, 0, 0)) rfl) ci_0).trans ?_
  refine (wp_s (n := 79) (zcode_of mc_97 (r := (.istore 6, 0, 0, 0)) rfl) rfl rfl).trans ?_
  exact Iff.rfl
theorem b97_79 {σ : zSt} {P : Option Value → zSt → Prop} {a0 : Nat} {x1 x2 x5 x6 : Int32} {x3 : Int64} {u7 : Option Value} :
    wp 97 79 [some (.ref a0), some (.int x1), some (.int x2), some (.long x3), none, some (.int x5), some (.int x6), u7] [] σ P ↔ (if 40 ≤ x6 then wp 97 136 [some (.ref a0), some (.int x1), some (.int x2), some (.long x3), none, some (.int x5), some (.int x6), u7] [] σ P else wp 97 86 [some (.ref a0), some (.int x1), some (.int x2), some (.long x3), none, some (.int x5), some (.int x6), u7] [] σ P) := by
  refine (wp_s (n := 81) (zcode_of mc_97 (r := (.iload 6, 0, 0, 0)) rfl) rfl rfl).trans ?_
  refine (wp_bp (n' := 83) rfl (zcode_of mc_97 (r := (.bipush 40, 0, 0, 0)) rfl) cb_40).trans ?_
  exact wp_jump (off := 53) (t := 136) (zcode_of mc_97 (r := (.if_icmp .ge 53, 0, 0, 0)) rfl) rfl rfl (by decide)
theorem b97_86 {σ : zSt} {P : Option Value → zSt → Prop} {a0 : Nat} {x1 x2 x5 x6 : Int32} {x3 : Int64} {u7 : Option Value} :
    wp 97 86 [some (.ref a0), some (.int x1), some (.int x2), some (.long x3), none, some (.int x5), some (.int x6), u7] [] σ P ↔ (if (lg_cmp x3 0) = 0 then wp 97 136 [some (.ref a0), some (.int x1), some (.int x2), some (.long x3), none, some (.int x5), some (.int x6), u7] [] σ P else wp 97 92 [some (.ref a0), some (.int x1), some (.int x2), some (.long x3), none, some (.int x5), some (.int x6), u7] [] σ P) := by
  refine (wp_s (n := 87) (zcode_of mc_97 (r := (.lload_n 3, 0, 0, 0)) rfl) rfl rfl).trans ?_
  refine (wp_lc (n' := 88) rfl (zcode_of mc_97 (r := (.lconst 0, 0, 0, 0)) rfl) cc_0).trans ?_
  refine (wp_s (n := 89) (zcode_of mc_97 (r := (.lcmp, 0, 0, 0)) rfl) rfl rfl).trans ?_
  exact wp_jump (off := 47) (t := 136) (zcode_of mc_97 (r := (.ifCond .eq 47, 0, 0, 0)) rfl) rfl rfl (by decide)
theorem b97_92 {σ : zSt} {P : Option Value → zSt → Prop} (hC : CShape σ) {a0 : Nat} {x1 x2 x5 x6 : Int32} {x3 : Int64} {u7 : Option Value} :
    wp 97 92 [some (.ref a0), some (.int x1), some (.int x2), some (.long x3), none, some (.int x5), some (.int x6), u7] [] σ P ↔ (zIs σ a0 11 ∧ wpM 40 [.ref (a0 + 13), .long x3] σ (fun r τ => wp 97 100 [some (.ref a0), some (.int x1), some (.int x2), some (.long x3), none, some (.int x5), some (.int x6), u7] (r.toList ++ []) τ P)) := by
  refine (wp_s (n := 93) (zcode_of mc_97 (r := (.aload_n 0, 0, 0, 0)) rfl) rfl rfl).trans ?_
  refine (wc_is (zcode_of mc_97 (r := (.getfield 26, 11, 2, 0)) rfl)).trans (and_congr_right fun h1 => ?_)
  refine (wc_getR (n' := 96) (d := 13) rfl (zcode_of mc_97 (r := (.getfield 26, 11, 2, 0)) rfl) rfl hC le_11_2 rfl rfl rfl h1).trans ?_
  refine (wp_s (n := 97) (zcode_of mc_97 (r := (.lload_n 3, 0, 0, 0)) rfl) rfl rfl).trans ?_
  exact wp_call (q := ([.ref (a0 + 13), .long x3], [])) (zcode_of mc_97 (r := (.invokevirtual 210, 40, 0, 1)) rfl) rfl (zCa_V (Nat.le_of_ble_eq_true rfl) rfl (zIs_of (cs_T hC le_11_2 h1))) ⟨Nat.le_of_ble_eq_true rfl, Nat.le_of_ble_eq_true rfl⟩
theorem b97_100 {σ : zSt} {P : Option Value → zSt → Prop} {a0 : Nat} {x1 x2 x5 x6 s0 : Int32} {x3 : Int64} {u7 : Option Value} :
    wp 97 100 [some (.ref a0), some (.int x1), some (.int x2), some (.long x3), none, some (.int x5), some (.int x6), u7] [.int s0] σ P ↔ (if ¬ s0 = (-1) then wp 97 111 [some (.ref a0), some (.int x1), some (.int x2), some (.long x3), none, some (.int x5), some (.int x6), some (.int s0)] [] σ P else wp 97 108 [some (.ref a0), some (.int x1), some (.int x2), some (.long x3), none, some (.int x5), some (.int x6), some (.int s0)] [] σ P) := by
  refine (wp_s (n := 102) (zcode_of mc_97 (r := (.istore 7, 0, 0, 0)) rfl) rfl rfl).trans ?_
  refine (wp_s (n := 104) (zcode_of mc_97 (r := (.iload 7, 0, 0, 0)) rfl) rfl rfl).trans ?_
  refine (wp_ic (n' := 105) rfl (zcode_of mc_97 (r := (.iconst (-1), 0, 0, 0)) rfl) ci_m1).trans ?_
  exact wp_jump (off := 6) (t := 111) (zcode_of mc_97 (r := (.if_icmp .ne 6, 0, 0, 0)) rfl) rfl rfl (by decide)
theorem b97_108 {σ : zSt} {P : Option Value → zSt → Prop} {a0 : Nat} {x1 x2 x5 x6 x7 : Int32} {x3 : Int64} :
    wp 97 108 [some (.ref a0), some (.int x1), some (.int x2), some (.long x3), none, some (.int x5), some (.int x6), some (.int x7)] [] σ P ↔ wp 97 136 [some (.ref a0), some (.int x1), some (.int x2), some (.long x3), none, some (.int x5), some (.int x6), some (.int x7)] [] σ P := by
  exact wp_goto (off := 28) (t := 136) (zcode_of mc_97 (r := (.goto 28, 0, 0, 0)) rfl) (by decide)
theorem b97_111 {σ : zSt} {P : Option Value → zSt → Prop} {a0 : Nat} {x1 x2 x5 x6 x7 : Int32} {x3 : Int64} :
    wp 97 111 [some (.ref a0), some (.int x1), some (.int x2), some (.long x3), none, some (.int x5), some (.int x6), some (.int x7)] [] σ P ↔ (zIs σ a0 11 ∧ wpM 111 [.ref a0, .int x1, .int x7] σ (fun r τ => wp 97 118 [some (.ref a0), some (.int x1), some (.int x2), some (.long x3), none, some (.int x5), some (.int x6), some (.int x7)] (r.toList ++ []) τ P)) := by
  refine (wp_s (n := 112) (zcode_of mc_97 (r := (.aload_n 0, 0, 0, 0)) rfl) rfl rfl).trans ?_
  refine (wp_s (n := 113) (zcode_of mc_97 (r := (.iload_n 1, 0, 0, 0)) rfl) rfl rfl).trans ?_
  refine (wp_s (n := 115) (zcode_of mc_97 (r := (.iload 7, 0, 0, 0)) rfl) rfl rfl).trans ?_
  refine (wc_isV (cl := 11) (rest := []) (zcode_of mc_97 (r := (.invokevirtual 213, 111, 0, 2)) rfl) rfl rfl rfl).trans (and_congr_right fun h1 => ?_)
  exact wp_call (q := ([.ref a0, .int x1, .int x7], [])) (zcode_of mc_97 (r := (.invokevirtual 213, 111, 0, 2)) rfl) rfl (zCa_V (Nat.le_of_ble_eq_true rfl) rfl h1) ⟨Nat.le_of_ble_eq_true rfl, Nat.le_of_ble_eq_true rfl⟩
theorem b97_118 {σ : zSt} {P : Option Value → zSt → Prop} {a0 : Nat} {x1 x2 x5 x6 x7 : Int32} {x3 : Int64} :
    wp 97 118 [some (.ref a0), some (.int x1), some (.int x2), some (.long x3), none, some (.int x5), some (.int x6), some (.int x7)] [] σ P ↔ wpM 108 [.int x7] σ (fun r τ => wp 97 124 [some (.ref a0), some (.int x1), some (.int x2), some (.long x3), none, some (.int x5), some (.int x6), some (.int x7)] (r.toList ++ [.long x3]) τ P) := by
  refine (wp_s (n := 119) (zcode_of mc_97 (r := (.lload_n 3, 0, 0, 0)) rfl) rfl rfl).trans ?_
  refine (wp_s (n := 121) (zcode_of mc_97 (r := (.iload 7, 0, 0, 0)) rfl) rfl rfl).trans ?_
  exact wp_call (q := ([.int x7], [.long x3])) (zcode_of mc_97 (r := (.invokestatic 189, 108, 1, 1)) rfl) rfl rfl ⟨Nat.le_of_ble_eq_true rfl, Nat.le_of_ble_eq_true rfl⟩
theorem b97_124 {σ : zSt} {P : Option Value → zSt → Prop} {a0 : Nat} {x1 x2 x5 x6 x7 : Int32} {x3 s0 s1 : Int64} :
    wp 97 124 [some (.ref a0), some (.int x1), some (.int x2), some (.long x3), none, some (.int x5), some (.int x6), some (.int x7)] [.long s0, .long s1] σ P ↔ wp 97 79 [some (.ref a0), some (.int x1), some (.int x2), some (.long (s1 &&& (s0 ^^^ (-1)))), none, some (.int x5), some (.int (x6 + 1)), some (.int x7)] [] σ P := by
  refine (wp_ldc2 (n' := 127) rfl (zcode_of mc_97 (r := (.ldc2_w 217, 0, 0, -1)) rfl) cl_m1).trans ?_
  refine (wp_s (n := 128) (zcode_of mc_97 (r := (.lxor, 0, 0, 0)) rfl) rfl rfl).trans ?_
  refine (wp_s (n := 129) (zcode_of mc_97 (r := (.land, 0, 0, 0)) rfl) rfl rfl).trans ?_
  refine (wp_s (n := 130) (zcode_of mc_97 (r := (.lstore_n 3, 0, 0, 0)) rfl) rfl rfl).trans ?_
  refine (wp_inc (n' := 133) rfl (zcode_of mc_97 (r := (.iinc 6 1, 0, 0, 0)) rfl) rfl rfl ci_1).trans ?_
  exact wp_goto (off := (-54)) (t := 79) (zcode_of mc_97 (r := (.goto (-54), 0, 0, 0)) rfl) (by decide)
theorem b97_136 {σ : zSt} {P : Option Value → zSt → Prop} (hC : CShape σ) {a0 : Nat} {x1 x2 x5 x6 : Int32} {x3 : Int64} {u7 : Option Value} :
    wp 97 136 [some (.ref a0), some (.int x1), some (.int x2), some (.long x3), none, some (.int x5), some (.int x6), u7] [] σ P ↔ (zIs σ a0 11 ∧ P (some (.int ((zfi σ 6 2 (a0 + 21)) - x5))) σ) := by
  refine (wp_s (n := 137) (zcode_of mc_97 (r := (.aload_n 0, 0, 0, 0)) rfl) rfl rfl).trans ?_
  refine (wc_is (zcode_of mc_97 (r := (.getfield 47, 11, 5, 0)) rfl)).trans (and_congr_right fun h1 => ?_)
  refine (wc_getR (n' := 140) (d := 21) rfl (zcode_of mc_97 (r := (.getfield 47, 11, 5, 0)) rfl) rfl hC le_11_5 rfl rfl rfl h1).trans ?_
  refine (wc_getI (n' := 143) rfl (zcode_of mc_97 (r := (.getfield 204, 6, 2, 0)) rfl) rfl (zIs_of (cs_T hC le_11_5 h1))).trans ?_
  refine (wp_s (n := 145) (zcode_of mc_97 (r := (.iload 5, 0, 0, 0)) rfl) rfl rfl).trans ?_
  refine (wp_s (n := 146) (zcode_of mc_97 (r := (.isub, 0, 0, 0)) rfl) rfl rfl).trans ?_
  exact wp_retI (zcode_of mc_97 (r := (.ireturn, 0, 0, 0)) rfl) rfl
theorem mc_98 : mCode 98 = zc_98 := rfl
theorem b98 {σ : zSt} {P : Option Value → zSt → Prop} {a0 : Nat} {x1 x2 : Int32} :
    wpM 98 [.ref a0, .int x1, .int x2] σ P ↔ (if x1 < 0 then wp 98 24 [some (.ref a0), some (.int x1), some (.int x2)] [] σ P else wp 98 4 [some (.ref a0), some (.int x1), some (.int x2)] [] σ P) := by
  show wp 98 0 [some (.ref a0), some (.int x1), some (.int x2)] [] σ P ↔ _
  refine (wp_s (n := 1) (zcode_of mc_98 (r := (.iload_n 1, 0, 0, 0)) rfl) rfl rfl).trans ?_
  exact wp_jump (off := 23) (t := 24) (zcode_of mc_98 (r := (.ifCond .lt 23, 0, 0, 0)) rfl) rfl rfl (by decide)
theorem b98_4 {σ : zSt} {P : Option Value → zSt → Prop} (hC : CShape σ) {a0 : Nat} {x1 x2 : Int32} :
    wp 98 4 [some (.ref a0), some (.int x1), some (.int x2)] [] σ P ↔ (zIs σ a0 11 ∧ (if (zfi σ 6 1 (a0 + 21)) ≤ x1 then wp 98 24 [some (.ref a0), some (.int x1), some (.int x2)] [] σ P else wp 98 15 [some (.ref a0), some (.int x1), some (.int x2)] [] σ P)) := by
  refine (wp_s (n := 5) (zcode_of mc_98 (r := (.iload_n 1, 0, 0, 0)) rfl) rfl rfl).trans ?_
  refine (wp_s (n := 6) (zcode_of mc_98 (r := (.aload_n 0, 0, 0, 0)) rfl) rfl rfl).trans ?_
  refine (wc_is (zcode_of mc_98 (r := (.getfield 47, 11, 5, 0)) rfl)).trans (and_congr_right fun h1 => ?_)
  refine (wc_getR (n' := 9) (d := 21) rfl (zcode_of mc_98 (r := (.getfield 47, 11, 5, 0)) rfl) rfl hC le_11_5 rfl rfl rfl h1).trans ?_
  refine (wc_getI (n' := 12) rfl (zcode_of mc_98 (r := (.getfield 219, 6, 1, 0)) rfl) rfl (zIs_of (cs_T hC le_11_5 h1))).trans ?_
  exact wp_jump (off := 12) (t := 24) (zcode_of mc_98 (r := (.if_icmp .ge 12, 0, 0, 0)) rfl) rfl rfl (by decide)
theorem b98_15 {σ : zSt} {P : Option Value → zSt → Prop} {a0 : Nat} {x1 x2 : Int32} :
    wp 98 15 [some (.ref a0), some (.int x1), some (.int x2)] [] σ P ↔ (if x2 < 0 then wp 98 24 [some (.ref a0), some (.int x1), some (.int x2)] [] σ P else wp 98 19 [some (.ref a0), some (.int x1), some (.int x2)] [] σ P) := by
  refine (wp_s (n := 16) (zcode_of mc_98 (r := (.iload_n 2, 0, 0, 0)) rfl) rfl rfl).trans ?_
  exact wp_jump (off := 8) (t := 24) (zcode_of mc_98 (r := (.ifCond .lt 8, 0, 0, 0)) rfl) rfl rfl (by decide)
theorem b98_19 {σ : zSt} {P : Option Value → zSt → Prop} {a0 : Nat} {x1 x2 : Int32} :
    wp 98 19 [some (.ref a0), some (.int x1), some (.int x2)] [] σ P ↔ (if x2 < 4 then wp 98 27 [some (.ref a0), some (.int x1), some (.int x2)] [] σ P else wp 98 24 [some (.ref a0), some (.int x1), some (.int x2)] [] σ P) := by
  refine (wp_s (n := 20) (zcode_of mc_98 (r := (.iload_n 2, 0, 0, 0)) rfl) rfl rfl).trans ?_
  refine (wp_ic (n' := 21) rfl (zcode_of mc_98 (r := (.iconst 4, 0, 0, 0)) rfl) ci_4).trans ?_
  exact wp_jump (off := 6) (t := 27) (zcode_of mc_98 (r := (.if_icmp .lt 6, 0, 0, 0)) rfl) rfl rfl (by decide)
theorem b98_24 {σ : zSt} {P : Option Value → zSt → Prop} {a0 : Nat} {x1 x2 : Int32} :
    wp 98 24 [some (.ref a0), some (.int x1), some (.int x2)] [] σ P ↔ P (some (.int (-2))) σ := by
  refine (wp_bp (n' := 26) rfl (zcode_of mc_98 (r := (.bipush (-2), 0, 0, 0)) rfl) cb_m2).trans ?_
  exact wp_retI (zcode_of mc_98 (r := (.ireturn, 0, 0, 0)) rfl) rfl
theorem b98_27 {σ : zSt} {P : Option Value → zSt → Prop} (hC : CShape σ) {a0 : Nat} {x1 x2 : Int32} :
    wp 98 27 [some (.ref a0), some (.int x1), some (.int x2)] [] σ P ↔ (zIs σ a0 11 ∧ (zIn x2 4 ∧ (zIn x1 40 ∧ P (some (.int (zai σ 10 (((a0 + 21) + 1) + 1 + 1 * Int32.toNatClampNeg x2) (Int32.toNatClampNeg x1)))) σ))) := by
  refine (wp_s (n := 28) (zcode_of mc_98 (r := (.aload_n 0, 0, 0, 0)) rfl) rfl rfl).trans ?_
  refine (wc_is (zcode_of mc_98 (r := (.getfield 47, 11, 5, 0)) rfl)).trans (and_congr_right fun h1 => ?_)
  refine (wc_getR (n' := 31) (d := 21) rfl (zcode_of mc_98 (r := (.getfield 47, 11, 5, 0)) rfl) rfl hC le_11_5 rfl rfl rfl h1).trans ?_
  refine (wc_getR (n' := 34) (d := 1) rfl (zcode_of mc_98 (r := (.getfield 220, 6, 0, 0)) rfl) rfl hC le_6_0 rfl rfl rfl (zIs_of (cs_T hC le_11_5 h1))).trans ?_
  refine (wp_s (n := 35) (zcode_of mc_98 (r := (.iload_n 2, 0, 0, 0)) rfl) rfl rfl).trans ?_
  refine (wc_ald (n' := 36) rfl (zcode_of mc_98 (r := (.aaload, 0, 0, 0)) rfl) hC la_9 rfl rfl rfl rfl rfl (cs_T hC le_6_0 (zIs_of (cs_T hC le_11_5 h1)))).trans (and_congr_right fun h2 => ?_)
  refine (wp_s (n := 37) (zcode_of mc_98 (r := (.iload_n 1, 0, 0, 0)) rfl) rfl rfl).trans ?_
  refine (wc_ld (n' := 38) rfl (zcode_of mc_98 (r := (.iaload, 0, 0, 0)) rfl) (cs_A hC la_9 (cs_T hC le_6_0 (zIs_of (cs_T hC le_11_5 h1))) h2) rfl).trans (and_congr_right fun h3 => ?_)
  exact wp_retI (zcode_of mc_98 (r := (.ireturn, 0, 0, 0)) rfl) rfl
theorem mc_99 : mCode 99 = zc_99 := rfl
theorem b99 {σ : zSt} {P : Option Value → zSt → Prop} {a0 : Nat} {x1 x2 : Int32} :
    wpM 99 [.ref a0, .int x1, .int x2] σ P ↔ wpM 107 [.int x1] σ (fun r τ => wp 99 4 [some (.ref a0), some (.int x1), some (.int x2)] (r.toList ++ []) τ P) := by
  show wp 99 0 [some (.ref a0), some (.int x1), some (.int x2)] [] σ P ↔ _
  refine (wp_s (n := 1) (zcode_of mc_99 (r := (.iload_n 1, 0, 0, 0)) rfl) rfl rfl).trans ?_
  exact wp_call (q := ([.int x1], [])) (zcode_of mc_99 (r := (.invokestatic 118, 107, 1, 1)) rfl) rfl rfl ⟨Nat.le_of_ble_eq_true rfl, Nat.le_of_ble_eq_true rfl⟩
theorem b99_4 {σ : zSt} {P : Option Value → zSt → Prop} {a0 : Nat} {x1 x2 s0 : Int32} :
    wp 99 4 [some (.ref a0), some (.int x1), some (.int x2)] [.int s0] σ P ↔ (if s0 = 0 then wp 99 18 [some (.ref a0), some (.int x1), some (.int x2)] [] σ P else wp 99 7 [some (.ref a0), some (.int x1), some (.int x2)] [] σ P) := by
  exact wp_jump (off := 14) (t := 18) (zcode_of mc_99 (r := (.ifCond .eq 14, 0, 0, 0)) rfl) rfl rfl (by decide)
theorem b99_7 {σ : zSt} {P : Option Value → zSt → Prop} (hC : CShape σ) {a0 : Nat} {x1 x2 : Int32} :
    wp 99 7 [some (.ref a0), some (.int x1), some (.int x2)] [] σ P ↔ (zIs σ a0 11 ∧ wpM 32 [.ref (a0 + 13), .int x2] σ (fun r τ => wp 99 15 [some (.ref a0), some (.int x1), some (.int x2)] (r.toList ++ []) τ P)) := by
  refine (wp_s (n := 8) (zcode_of mc_99 (r := (.aload_n 0, 0, 0, 0)) rfl) rfl rfl).trans ?_
  refine (wc_is (zcode_of mc_99 (r := (.getfield 26, 11, 2, 0)) rfl)).trans (and_congr_right fun h1 => ?_)
  refine (wc_getR (n' := 11) (d := 13) rfl (zcode_of mc_99 (r := (.getfield 26, 11, 2, 0)) rfl) rfl hC le_11_2 rfl rfl rfl h1).trans ?_
  refine (wp_s (n := 12) (zcode_of mc_99 (r := (.iload_n 2, 0, 0, 0)) rfl) rfl rfl).trans ?_
  exact wp_call (q := ([.ref (a0 + 13), .int x2], [])) (zcode_of mc_99 (r := (.invokevirtual 134, 32, 0, 1)) rfl) rfl (zCa_V (Nat.le_of_ble_eq_true rfl) rfl (zIs_of (cs_T hC le_11_2 h1))) ⟨Nat.le_of_ble_eq_true rfl, Nat.le_of_ble_eq_true rfl⟩
theorem b99_15 {σ : zSt} {P : Option Value → zSt → Prop} {a0 : Nat} {x1 x2 s0 : Int32} :
    wp 99 15 [some (.ref a0), some (.int x1), some (.int x2)] [.int s0] σ P ↔ (if ¬ s0 = 0 then wp 99 21 [some (.ref a0), some (.int x1), some (.int x2)] [] σ P else wp 99 18 [some (.ref a0), some (.int x1), some (.int x2)] [] σ P) := by
  exact wp_jump (off := 6) (t := 21) (zcode_of mc_99 (r := (.ifCond .ne 6, 0, 0, 0)) rfl) rfl rfl (by decide)
theorem b99_18 {σ : zSt} {P : Option Value → zSt → Prop} {a0 : Nat} {x1 x2 : Int32} :
    wp 99 18 [some (.ref a0), some (.int x1), some (.int x2)] [] σ P ↔ P (some (.int (-2))) σ := by
  refine (wp_bp (n' := 20) rfl (zcode_of mc_99 (r := (.bipush (-2), 0, 0, 0)) rfl) cb_m2).trans ?_
  exact wp_retI (zcode_of mc_99 (r := (.ireturn, 0, 0, 0)) rfl) rfl
theorem b99_21 {σ : zSt} {P : Option Value → zSt → Prop} (hC : CShape σ) {a0 : Nat} {x1 x2 : Int32} :
    wp 99 21 [some (.ref a0), some (.int x1), some (.int x2)] [] σ P ↔ (zIs σ a0 11 ∧ wpM 33 [.ref (a0 + 13), .int x2] σ (fun r τ => wp 99 33 [some (.ref a0), some (.int x1), some (.int x2)] (r.toList ++ [.ref (a0 + 27)]) τ P)) := by
  refine (wp_s (n := 22) (zcode_of mc_99 (r := (.aload_n 0, 0, 0, 0)) rfl) rfl rfl).trans ?_
  refine (wc_is (zcode_of mc_99 (r := (.getfield 54, 11, 6, 0)) rfl)).trans (and_congr_right fun h1 => ?_)
  refine (wc_getR (n' := 25) (d := 27) rfl (zcode_of mc_99 (r := (.getfield 54, 11, 6, 0)) rfl) rfl hC le_11_6 rfl rfl rfl h1).trans ?_
  refine (wp_s (n := 26) (zcode_of mc_99 (r := (.aload_n 0, 0, 0, 0)) rfl) rfl rfl).trans ?_
  refine (wc_getR (n' := 29) (d := 13) rfl (zcode_of mc_99 (r := (.getfield 26, 11, 2, 0)) rfl) rfl hC le_11_2 rfl rfl rfl h1).trans ?_
  refine (wp_s (n := 30) (zcode_of mc_99 (r := (.iload_n 2, 0, 0, 0)) rfl) rfl rfl).trans ?_
  exact wp_call (q := ([.ref (a0 + 13), .int x2], [.ref (a0 + 27)])) (zcode_of mc_99 (r := (.invokevirtual 135, 33, 0, 1)) rfl) rfl (zCa_V (Nat.le_of_ble_eq_true rfl) rfl (zIs_of (cs_T hC le_11_2 h1))) ⟨Nat.le_of_ble_eq_true rfl, Nat.le_of_ble_eq_true rfl⟩
theorem b99_33 {σ : zSt} {P : Option Value → zSt → Prop} {a0 s0 s1 : Nat} {x1 x2 : Int32} :
    wp 99 33 [some (.ref a0), some (.int x1), some (.int x2)] [.ref s0, .ref s1] σ P ↔ (zIs σ s1 5 ∧ wpM 42 [.ref s1, .ref s0, .int x1] σ (fun r τ => wp 99 37 [some (.ref a0), some (.int x1), some (.int x2)] (r.toList ++ []) τ P)) := by
  refine (wp_s (n := 34) (zcode_of mc_99 (r := (.iload_n 1, 0, 0, 0)) rfl) rfl rfl).trans ?_
  refine (wc_isV (cl := 5) (rest := []) (zcode_of mc_99 (r := (.invokevirtual 224, 42, 0, 2)) rfl) rfl rfl rfl).trans (and_congr_right fun h1 => ?_)
  exact wp_call (q := ([.ref s1, .ref s0, .int x1], [])) (zcode_of mc_99 (r := (.invokevirtual 224, 42, 0, 2)) rfl) rfl (zCa_V (Nat.le_of_ble_eq_true rfl) rfl h1) ⟨Nat.le_of_ble_eq_true rfl, Nat.le_of_ble_eq_true rfl⟩
theorem b99_37 {σ : zSt} {P : Option Value → zSt → Prop} (hC : CShape σ) {a0 : Nat} {x1 x2 : Int32} :
    wp 99 37 [some (.ref a0), some (.int x1), some (.int x2)] [] σ P ↔ (zIs σ a0 11 ∧ wpM 33 [.ref (a0 + 13), .int x2] σ (fun r τ => wp 99 49 [some (.ref a0), some (.int x1), some (.int x2)] (r.toList ++ [.ref (a0 + 27)]) τ P)) := by
  refine (wp_s (n := 38) (zcode_of mc_99 (r := (.aload_n 0, 0, 0, 0)) rfl) rfl rfl).trans ?_
  refine (wc_is (zcode_of mc_99 (r := (.getfield 54, 11, 6, 0)) rfl)).trans (and_congr_right fun h1 => ?_)
  refine (wc_getR (n' := 41) (d := 27) rfl (zcode_of mc_99 (r := (.getfield 54, 11, 6, 0)) rfl) rfl hC le_11_6 rfl rfl rfl h1).trans ?_
  refine (wp_s (n := 42) (zcode_of mc_99 (r := (.aload_n 0, 0, 0, 0)) rfl) rfl rfl).trans ?_
  refine (wc_getR (n' := 45) (d := 13) rfl (zcode_of mc_99 (r := (.getfield 26, 11, 2, 0)) rfl) rfl hC le_11_2 rfl rfl rfl h1).trans ?_
  refine (wp_s (n := 46) (zcode_of mc_99 (r := (.iload_n 2, 0, 0, 0)) rfl) rfl rfl).trans ?_
  exact wp_call (q := ([.ref (a0 + 13), .int x2], [.ref (a0 + 27)])) (zcode_of mc_99 (r := (.invokevirtual 135, 33, 0, 1)) rfl) rfl (zCa_V (Nat.le_of_ble_eq_true rfl) rfl (zIs_of (cs_T hC le_11_2 h1))) ⟨Nat.le_of_ble_eq_true rfl, Nat.le_of_ble_eq_true rfl⟩
theorem b99_49 {σ : zSt} {P : Option Value → zSt → Prop} (hC : CShape σ) {a0 s0 s1 : Nat} {x1 x2 : Int32} :
    wp 99 49 [some (.ref a0), some (.int x1), some (.int x2)] [.ref s0, .ref s1] σ P ↔ (zIs σ s0 0 ∧ (zIn x1 2 ∧ (zIs σ s1 5 ∧ wpM 51 [.ref s1, .ref ((s0 + 5) + 1 + 3 * Int32.toNatClampNeg x1)] σ (fun r τ => wp 99 57 [some (.ref a0), some (.int x1), some (.int x2)] (r.toList ++ []) τ P)))) := by
  refine (wc_is (zcode_of mc_99 (r := (.getfield 228, 0, 4, 0)) rfl)).trans (and_congr_right fun h1 => ?_)
  refine (wc_getR (n' := 52) (d := 5) rfl (zcode_of mc_99 (r := (.getfield 228, 0, 4, 0)) rfl) rfl hC le_0_4 rfl rfl rfl h1).trans ?_
  refine (wp_s (n := 53) (zcode_of mc_99 (r := (.iload_n 1, 0, 0, 0)) rfl) rfl rfl).trans ?_
  refine (wc_ald (n' := 54) rfl (zcode_of mc_99 (r := (.aaload, 0, 0, 0)) rfl) hC la_8 rfl rfl rfl rfl rfl (cs_T hC le_0_4 h1)).trans (and_congr_right fun h2 => ?_)
  refine (wc_isV (cl := 5) (rest := []) (zcode_of mc_99 (r := (.invokevirtual 232, 51, 0, 1)) rfl) rfl rfl rfl).trans (and_congr_right fun h3 => ?_)
  exact wp_call (q := ([.ref s1, .ref ((s0 + 5) + 1 + 3 * Int32.toNatClampNeg x1)], [])) (zcode_of mc_99 (r := (.invokevirtual 232, 51, 0, 1)) rfl) rfl (zCa_V (Nat.le_of_ble_eq_true rfl) rfl h3) ⟨Nat.le_of_ble_eq_true rfl, Nat.le_of_ble_eq_true rfl⟩
theorem b99_57 {σ : zSt} {P : Option Value → zSt → Prop} {a0 : Nat} {x1 x2 s0 : Int32} :
    wp 99 57 [some (.ref a0), some (.int x1), some (.int x2)] [.int s0] σ P ↔ P (some (.int s0)) σ := by
  exact wp_retI (zcode_of mc_99 (r := (.ireturn, 0, 0, 0)) rfl) rfl
theorem mc_100 : mCode 100 = zc_100 := rfl
theorem b100 {σ : zSt} {P : Option Value → zSt → Prop} {a0 : Nat} {x1 x2 : Int32} :
    wpM 100 [.ref a0, .int x1, .int x2] σ P ↔ wpM 107 [.int x1] σ (fun r τ => wp 100 4 [some (.ref a0), some (.int x1), some (.int x2)] (r.toList ++ []) τ P) := by
  show wp 100 0 [some (.ref a0), some (.int x1), some (.int x2)] [] σ P ↔ _
  refine (wp_s (n := 1) (zcode_of mc_100 (r := (.iload_n 1, 0, 0, 0)) rfl) rfl rfl).trans ?_
  exact wp_call (q := ([.int x1], [])) (zcode_of mc_100 (r := (.invokestatic 118, 107, 1, 1)) rfl) rfl rfl ⟨Nat.le_of_ble_eq_true rfl, Nat.le_of_ble_eq_true rfl⟩
theorem b100_4 {σ : zSt} {P : Option Value → zSt → Prop} {a0 : Nat} {x1 x2 s0 : Int32} :
    wp 100 4 [some (.ref a0), some (.int x1), some (.int x2)] [.int s0] σ P ↔ (if s0 = 0 then wp 100 18 [some (.ref a0), some (.int x1), some (.int x2)] [] σ P else wp 100 7 [some (.ref a0), some (.int x1), some (.int x2)] [] σ P) := by
  exact wp_jump (off := 14) (t := 18) (zcode_of mc_100 (r := (.ifCond .eq 14, 0, 0, 0)) rfl) rfl rfl (by decide)
theorem b100_7 {σ : zSt} {P : Option Value → zSt → Prop} (hC : CShape σ) {a0 : Nat} {x1 x2 : Int32} :
    wp 100 7 [some (.ref a0), some (.int x1), some (.int x2)] [] σ P ↔ (zIs σ a0 11 ∧ wpM 32 [.ref (a0 + 13), .int x2] σ (fun r τ => wp 100 15 [some (.ref a0), some (.int x1), some (.int x2)] (r.toList ++ []) τ P)) := by
  refine (wp_s (n := 8) (zcode_of mc_100 (r := (.aload_n 0, 0, 0, 0)) rfl) rfl rfl).trans ?_
  refine (wc_is (zcode_of mc_100 (r := (.getfield 26, 11, 2, 0)) rfl)).trans (and_congr_right fun h1 => ?_)
  refine (wc_getR (n' := 11) (d := 13) rfl (zcode_of mc_100 (r := (.getfield 26, 11, 2, 0)) rfl) rfl hC le_11_2 rfl rfl rfl h1).trans ?_
  refine (wp_s (n := 12) (zcode_of mc_100 (r := (.iload_n 2, 0, 0, 0)) rfl) rfl rfl).trans ?_
  exact wp_call (q := ([.ref (a0 + 13), .int x2], [])) (zcode_of mc_100 (r := (.invokevirtual 134, 32, 0, 1)) rfl) rfl (zCa_V (Nat.le_of_ble_eq_true rfl) rfl (zIs_of (cs_T hC le_11_2 h1))) ⟨Nat.le_of_ble_eq_true rfl, Nat.le_of_ble_eq_true rfl⟩
theorem b100_15 {σ : zSt} {P : Option Value → zSt → Prop} {a0 : Nat} {x1 x2 s0 : Int32} :
    wp 100 15 [some (.ref a0), some (.int x1), some (.int x2)] [.int s0] σ P ↔ (if ¬ s0 = 0 then wp 100 20 [some (.ref a0), some (.int x1), some (.int x2)] [] σ P else wp 100 18 [some (.ref a0), some (.int x1), some (.int x2)] [] σ P) := by
  exact wp_jump (off := 5) (t := 20) (zcode_of mc_100 (r := (.ifCond .ne 5, 0, 0, 0)) rfl) rfl rfl (by decide)
theorem b100_18 {σ : zSt} {P : Option Value → zSt → Prop} {a0 : Nat} {x1 x2 : Int32} :
    wp 100 18 [some (.ref a0), some (.int x1), some (.int x2)] [] σ P ↔ P (some (.long 0)) σ := by
  refine (wp_lc (n' := 19) rfl (zcode_of mc_100 (r := (.lconst 0, 0, 0, 0)) rfl) cc_0).trans ?_
  exact wp_retL (zcode_of mc_100 (r := (.lreturn, 0, 0, 0)) rfl) rfl
theorem b100_20 {σ : zSt} {P : Option Value → zSt → Prop} (hC : CShape σ) {a0 : Nat} {x1 x2 : Int32} :
    wp 100 20 [some (.ref a0), some (.int x1), some (.int x2)] [] σ P ↔ (zIs σ a0 11 ∧ wpM 33 [.ref (a0 + 13), .int x2] σ (fun r τ => wp 100 32 [some (.ref a0), some (.int x1), some (.int x2)] (r.toList ++ [.ref (a0 + 27)]) τ P)) := by
  refine (wp_s (n := 21) (zcode_of mc_100 (r := (.aload_n 0, 0, 0, 0)) rfl) rfl rfl).trans ?_
  refine (wc_is (zcode_of mc_100 (r := (.getfield 54, 11, 6, 0)) rfl)).trans (and_congr_right fun h1 => ?_)
  refine (wc_getR (n' := 24) (d := 27) rfl (zcode_of mc_100 (r := (.getfield 54, 11, 6, 0)) rfl) rfl hC le_11_6 rfl rfl rfl h1).trans ?_
  refine (wp_s (n := 25) (zcode_of mc_100 (r := (.aload_n 0, 0, 0, 0)) rfl) rfl rfl).trans ?_
  refine (wc_getR (n' := 28) (d := 13) rfl (zcode_of mc_100 (r := (.getfield 26, 11, 2, 0)) rfl) rfl hC le_11_2 rfl rfl rfl h1).trans ?_
  refine (wp_s (n := 29) (zcode_of mc_100 (r := (.iload_n 2, 0, 0, 0)) rfl) rfl rfl).trans ?_
  exact wp_call (q := ([.ref (a0 + 13), .int x2], [.ref (a0 + 27)])) (zcode_of mc_100 (r := (.invokevirtual 135, 33, 0, 1)) rfl) rfl (zCa_V (Nat.le_of_ble_eq_true rfl) rfl (zIs_of (cs_T hC le_11_2 h1))) ⟨Nat.le_of_ble_eq_true rfl, Nat.le_of_ble_eq_true rfl⟩
theorem b100_32 {σ : zSt} {P : Option Value → zSt → Prop} {a0 s0 s1 : Nat} {x1 x2 : Int32} :
    wp 100 32 [some (.ref a0), some (.int x1), some (.int x2)] [.ref s0, .ref s1] σ P ↔ (zIs σ s1 5 ∧ wpM 42 [.ref s1, .ref s0, .int x1] σ (fun r τ => wp 100 36 [some (.ref a0), some (.int x1), some (.int x2)] (r.toList ++ []) τ P)) := by
  refine (wp_s (n := 33) (zcode_of mc_100 (r := (.iload_n 1, 0, 0, 0)) rfl) rfl rfl).trans ?_
  refine (wc_isV (cl := 5) (rest := []) (zcode_of mc_100 (r := (.invokevirtual 224, 42, 0, 2)) rfl) rfl rfl rfl).trans (and_congr_right fun h1 => ?_)
  exact wp_call (q := ([.ref s1, .ref s0, .int x1], [])) (zcode_of mc_100 (r := (.invokevirtual 224, 42, 0, 2)) rfl) rfl (zCa_V (Nat.le_of_ble_eq_true rfl) rfl h1) ⟨Nat.le_of_ble_eq_true rfl, Nat.le_of_ble_eq_true rfl⟩
theorem b100_36 {σ : zSt} {P : Option Value → zSt → Prop} (hC : CShape σ) {a0 : Nat} {x1 x2 : Int32} :
    wp 100 36 [some (.ref a0), some (.int x1), some (.int x2)] [] σ P ↔ (zIs σ a0 11 ∧ wpM 48 [.ref (a0 + 27)] σ (fun r τ => wp 100 43 [some (.ref a0), some (.int x1), some (.int x2)] (r.toList ++ []) τ P)) := by
  refine (wp_s (n := 37) (zcode_of mc_100 (r := (.aload_n 0, 0, 0, 0)) rfl) rfl rfl).trans ?_
  refine (wc_is (zcode_of mc_100 (r := (.getfield 54, 11, 6, 0)) rfl)).trans (and_congr_right fun h1 => ?_)
  refine (wc_getR (n' := 40) (d := 27) rfl (zcode_of mc_100 (r := (.getfield 54, 11, 6, 0)) rfl) rfl hC le_11_6 rfl rfl rfl h1).trans ?_
  exact wp_call (q := ([.ref (a0 + 27)], [])) (zcode_of mc_100 (r := (.invokevirtual 236, 48, 0, 0)) rfl) rfl (zCa_V (Nat.le_of_ble_eq_true rfl) rfl (zIs_of (cs_T hC le_11_6 h1))) ⟨Nat.le_of_ble_eq_true rfl, Nat.le_of_ble_eq_true rfl⟩
theorem b100_43 {σ : zSt} {P : Option Value → zSt → Prop} {a0 : Nat} {x1 x2 : Int32} {s0 : Int64} :
    wp 100 43 [some (.ref a0), some (.int x1), some (.int x2)] [.long s0] σ P ↔ P (some (.long s0)) σ := by
  exact wp_retL (zcode_of mc_100 (r := (.lreturn, 0, 0, 0)) rfl) rfl
theorem mc_101 : mCode 101 = zc_101 := rfl
theorem b101 {σ : zSt} {P : Option Value → zSt → Prop} {a0 : Nat} {x1 : Int32} :
    wpM 101 [.ref a0, .int x1] σ P ↔ wpM 107 [.int x1] σ (fun r τ => wp 101 4 [some (.ref a0), some (.int x1), none] (r.toList ++ []) τ P) := by
  show wp 101 0 [some (.ref a0), some (.int x1), none] [] σ P ↔ _
  refine (wp_s (n := 1) (zcode_of mc_101 (r := (.iload_n 1, 0, 0, 0)) rfl) rfl rfl).trans ?_
  exact wp_call (q := ([.int x1], [])) (zcode_of mc_101 (r := (.invokestatic 118, 107, 1, 1)) rfl) rfl rfl ⟨Nat.le_of_ble_eq_true rfl, Nat.le_of_ble_eq_true rfl⟩
theorem b101_4 {σ : zSt} {P : Option Value → zSt → Prop} {a0 : Nat} {x1 s0 : Int32} {u2 : Option Value} :
    wp 101 4 [some (.ref a0), some (.int x1), u2] [.int s0] σ P ↔ (if ¬ s0 = 0 then wp 101 10 [some (.ref a0), some (.int x1), u2] [] σ P else wp 101 7 [some (.ref a0), some (.int x1), u2] [] σ P) := by
  exact wp_jump (off := 6) (t := 10) (zcode_of mc_101 (r := (.ifCond .ne 6, 0, 0, 0)) rfl) rfl rfl (by decide)
theorem b101_7 {σ : zSt} {P : Option Value → zSt → Prop} {a0 : Nat} {x1 : Int32} {u2 : Option Value} :
    wp 101 7 [some (.ref a0), some (.int x1), u2] [] σ P ↔ P (some (.int (-2))) σ := by
  refine (wp_bp (n' := 9) rfl (zcode_of mc_101 (r := (.bipush (-2), 0, 0, 0)) rfl) cb_m2).trans ?_
  exact wp_retI (zcode_of mc_101 (r := (.ireturn, 0, 0, 0)) rfl) rfl
theorem b101_10 {σ : zSt} {P : Option Value → zSt → Prop} {a0 : Nat} {x1 : Int32} {u2 : Option Value} :
    wp 101 10 [some (.ref a0), some (.int x1), u2] [] σ P ↔ wp 101 12 [some (.ref a0), some (.int x1), some (.int 0)] [] σ P := by
  refine (wp_ic (n' := 11) rfl (zcode_of mc_101 (r := (.iconst 0, 0, 0, 0)) rfl) ci_0).trans ?_
  refine (wp_s (n := 12) (zcode_of mc_101 (r := (.istore_n 2, 0, 0, 0)) rfl) rfl rfl).trans ?_
  exact Iff.rfl
theorem b101_12 {σ : zSt} {P : Option Value → zSt → Prop} (hC : CShape σ) {a0 : Nat} {x1 x2 : Int32} :
    wp 101 12 [some (.ref a0), some (.int x1), some (.int x2)] [] σ P ↔ (zIs σ a0 11 ∧ wpM 31 [.ref (a0 + 13)] σ (fun r τ => wp 101 20 [some (.ref a0), some (.int x1), some (.int x2)] (r.toList ++ [.int x2]) τ P)) := by
  refine (wp_s (n := 13) (zcode_of mc_101 (r := (.iload_n 2, 0, 0, 0)) rfl) rfl rfl).trans ?_
  refine (wp_s (n := 14) (zcode_of mc_101 (r := (.aload_n 0, 0, 0, 0)) rfl) rfl rfl).trans ?_
  refine (wc_is (zcode_of mc_101 (r := (.getfield 26, 11, 2, 0)) rfl)).trans (and_congr_right fun h1 => ?_)
  refine (wc_getR (n' := 17) (d := 13) rfl (zcode_of mc_101 (r := (.getfield 26, 11, 2, 0)) rfl) rfl hC le_11_2 rfl rfl rfl h1).trans ?_
  exact wp_call (q := ([.ref (a0 + 13)], [.int x2])) (zcode_of mc_101 (r := (.invokevirtual 131, 31, 0, 0)) rfl) rfl (zCa_V (Nat.le_of_ble_eq_true rfl) rfl (zIs_of (cs_T hC le_11_2 h1))) ⟨Nat.le_of_ble_eq_true rfl, Nat.le_of_ble_eq_true rfl⟩
theorem b101_20 {σ : zSt} {P : Option Value → zSt → Prop} {a0 : Nat} {x1 x2 s0 s1 : Int32} :
    wp 101 20 [some (.ref a0), some (.int x1), some (.int x2)] [.int s0, .int s1] σ P ↔ (if s0 ≤ s1 then wp 101 70 [some (.ref a0), some (.int x1), some (.int x2)] [] σ P else wp 101 23 [some (.ref a0), some (.int x1), some (.int x2)] [] σ P) := by
  exact wp_jump (off := 50) (t := 70) (zcode_of mc_101 (r := (.if_icmp .ge 50, 0, 0, 0)) rfl) rfl rfl (by decide)
theorem b101_23 {σ : zSt} {P : Option Value → zSt → Prop} (hC : CShape σ) {a0 : Nat} {x1 x2 : Int32} :
    wp 101 23 [some (.ref a0), some (.int x1), some (.int x2)] [] σ P ↔ (zIs σ a0 11 ∧ wpM 33 [.ref (a0 + 13), .int x2] σ (fun r τ => wp 101 35 [some (.ref a0), some (.int x1), some (.int x2)] (r.toList ++ [.ref (a0 + 18)]) τ P)) := by
  refine (wp_s (n := 24) (zcode_of mc_101 (r := (.aload_n 0, 0, 0, 0)) rfl) rfl rfl).trans ?_
  refine (wc_is (zcode_of mc_101 (r := (.getfield 40, 11, 4, 0)) rfl)).trans (and_congr_right fun h1 => ?_)
  refine (wc_getR (n' := 27) (d := 18) rfl (zcode_of mc_101 (r := (.getfield 40, 11, 4, 0)) rfl) rfl hC le_11_4 rfl rfl rfl h1).trans ?_
  refine (wp_s (n := 28) (zcode_of mc_101 (r := (.aload_n 0, 0, 0, 0)) rfl) rfl rfl).trans ?_
  refine (wc_getR (n' := 31) (d := 13) rfl (zcode_of mc_101 (r := (.getfield 26, 11, 2, 0)) rfl) rfl hC le_11_2 rfl rfl rfl h1).trans ?_
  refine (wp_s (n := 32) (zcode_of mc_101 (r := (.iload_n 2, 0, 0, 0)) rfl) rfl rfl).trans ?_
  exact wp_call (q := ([.ref (a0 + 13), .int x2], [.ref (a0 + 18)])) (zcode_of mc_101 (r := (.invokevirtual 135, 33, 0, 1)) rfl) rfl (zCa_V (Nat.le_of_ble_eq_true rfl) rfl (zIs_of (cs_T hC le_11_2 h1))) ⟨Nat.le_of_ble_eq_true rfl, Nat.le_of_ble_eq_true rfl⟩
theorem b101_35 {σ : zSt} {P : Option Value → zSt → Prop} (hC : CShape σ) {a0 s0 s1 : Nat} {x1 x2 : Int32} :
    wp 101 35 [some (.ref a0), some (.int x1), some (.int x2)] [.ref s0, .ref s1] σ P ↔ (zIs σ a0 11 ∧ (zIs σ s1 9 ∧ wpM 66 [.ref s1, .ref s0, .int x1, .ref (a0 + 30)] σ (fun r τ => wp 101 43 [some (.ref a0), some (.int x1), some (.int x2)] (r.toList ++ []) τ P))) := by
  refine (wp_s (n := 36) (zcode_of mc_101 (r := (.iload_n 1, 0, 0, 0)) rfl) rfl rfl).trans ?_
  refine (wp_s (n := 37) (zcode_of mc_101 (r := (.aload_n 0, 0, 0, 0)) rfl) rfl rfl).trans ?_
  refine (wc_is (zcode_of mc_101 (r := (.getfield 61, 11, 7, 0)) rfl)).trans (and_congr_right fun h1 => ?_)
  refine (wc_getR (n' := 40) (d := 30) rfl (zcode_of mc_101 (r := (.getfield 61, 11, 7, 0)) rfl) rfl hC le_11_7 rfl rfl rfl h1).trans ?_
  refine (wc_isV (cl := 9) (rest := []) (zcode_of mc_101 (r := (.invokevirtual 239, 66, 0, 3)) rfl) rfl rfl rfl).trans (and_congr_right fun h2 => ?_)
  exact wp_call (q := ([.ref s1, .ref s0, .int x1, .ref (a0 + 30)], [])) (zcode_of mc_101 (r := (.invokevirtual 239, 66, 0, 3)) rfl) rfl (zCa_V (Nat.le_of_ble_eq_true rfl) rfl h2) ⟨Nat.le_of_ble_eq_true rfl, Nat.le_of_ble_eq_true rfl⟩
theorem b101_43 {σ : zSt} {P : Option Value → zSt → Prop} (hC : CShape σ) {a0 : Nat} {x1 x2 : Int32} :
    wp 101 43 [some (.ref a0), some (.int x1), some (.int x2)] [] σ P ↔ (zIs σ a0 11 ∧ wpM 33 [.ref (a0 + 13), .int x2] σ (fun r τ => wp 101 51 [some (.ref a0), some (.int x1), some (.int x2)] (r.toList ++ []) τ P)) := by
  refine (wp_s (n := 44) (zcode_of mc_101 (r := (.aload_n 0, 0, 0, 0)) rfl) rfl rfl).trans ?_
  refine (wc_is (zcode_of mc_101 (r := (.getfield 26, 11, 2, 0)) rfl)).trans (and_congr_right fun h1 => ?_)
  refine (wc_getR (n' := 47) (d := 13) rfl (zcode_of mc_101 (r := (.getfield 26, 11, 2, 0)) rfl) rfl hC le_11_2 rfl rfl rfl h1).trans ?_
  refine (wp_s (n := 48) (zcode_of mc_101 (r := (.iload_n 2, 0, 0, 0)) rfl) rfl rfl).trans ?_
  exact wp_call (q := ([.ref (a0 + 13), .int x2], [])) (zcode_of mc_101 (r := (.invokevirtual 135, 33, 0, 1)) rfl) rfl (zCa_V (Nat.le_of_ble_eq_true rfl) rfl (zIs_of (cs_T hC le_11_2 h1))) ⟨Nat.le_of_ble_eq_true rfl, Nat.le_of_ble_eq_true rfl⟩
theorem b101_51 {σ : zSt} {P : Option Value → zSt → Prop} (hC : CShape σ) {a0 s0 : Nat} {x1 x2 : Int32} :
    wp 101 51 [some (.ref a0), some (.int x1), some (.int x2)] [.ref s0] σ P ↔ (zIs σ a0 11 ∧ (zIs σ s0 0 ∧ wpM 5 [.ref s0, .ref (a0 + 30), .int x1] σ (fun r τ => wp 101 59 [some (.ref a0), some (.int x1), some (.int x2)] (r.toList ++ []) τ P))) := by
  refine (wp_s (n := 52) (zcode_of mc_101 (r := (.aload_n 0, 0, 0, 0)) rfl) rfl rfl).trans ?_
  refine (wc_is (zcode_of mc_101 (r := (.getfield 61, 11, 7, 0)) rfl)).trans (and_congr_right fun h1 => ?_)
  refine (wc_getR (n' := 55) (d := 30) rfl (zcode_of mc_101 (r := (.getfield 61, 11, 7, 0)) rfl) rfl hC le_11_7 rfl rfl rfl h1).trans ?_
  refine (wp_s (n := 56) (zcode_of mc_101 (r := (.iload_n 1, 0, 0, 0)) rfl) rfl rfl).trans ?_
  refine (wc_isV (cl := 0) (rest := []) (zcode_of mc_101 (r := (.invokevirtual 243, 5, 0, 2)) rfl) rfl rfl rfl).trans (and_congr_right fun h2 => ?_)
  exact wp_call (q := ([.ref s0, .ref (a0 + 30), .int x1], [])) (zcode_of mc_101 (r := (.invokevirtual 243, 5, 0, 2)) rfl) rfl (zCa_V (Nat.le_of_ble_eq_true rfl) rfl h2) ⟨Nat.le_of_ble_eq_true rfl, Nat.le_of_ble_eq_true rfl⟩
theorem b101_59 {σ : zSt} {P : Option Value → zSt → Prop} {a0 : Nat} {x1 x2 s0 : Int32} :
    wp 101 59 [some (.ref a0), some (.int x1), some (.int x2)] [.int s0] σ P ↔ (if ¬ s0 = 0 then wp 101 64 [some (.ref a0), some (.int x1), some (.int x2)] [] σ P else wp 101 62 [some (.ref a0), some (.int x1), some (.int x2)] [] σ P) := by
  exact wp_jump (off := 5) (t := 64) (zcode_of mc_101 (r := (.ifCond .ne 5, 0, 0, 0)) rfl) rfl rfl (by decide)
theorem b101_62 {σ : zSt} {P : Option Value → zSt → Prop} {a0 : Nat} {x1 x2 : Int32} :
    wp 101 62 [some (.ref a0), some (.int x1), some (.int x2)] [] σ P ↔ P (some (.int 0)) σ := by
  refine (wp_ic (n' := 63) rfl (zcode_of mc_101 (r := (.iconst 0, 0, 0, 0)) rfl) ci_0).trans ?_
  exact wp_retI (zcode_of mc_101 (r := (.ireturn, 0, 0, 0)) rfl) rfl
theorem b101_64 {σ : zSt} {P : Option Value → zSt → Prop} {a0 : Nat} {x1 x2 : Int32} :
    wp 101 64 [some (.ref a0), some (.int x1), some (.int x2)] [] σ P ↔ wp 101 12 [some (.ref a0), some (.int x1), some (.int (x2 + 1))] [] σ P := by
  refine (wp_inc (n' := 67) rfl (zcode_of mc_101 (r := (.iinc 2 1, 0, 0, 0)) rfl) rfl rfl ci_1).trans ?_
  exact wp_goto (off := (-55)) (t := 12) (zcode_of mc_101 (r := (.goto (-55), 0, 0, 0)) rfl) (by decide)
theorem b101_70 {σ : zSt} {P : Option Value → zSt → Prop} {a0 : Nat} {x1 x2 : Int32} :
    wp 101 70 [some (.ref a0), some (.int x1), some (.int x2)] [] σ P ↔ P (some (.int 1)) σ := by
  refine (wp_ic (n' := 71) rfl (zcode_of mc_101 (r := (.iconst 1, 0, 0, 0)) rfl) ci_1).trans ?_
  exact wp_retI (zcode_of mc_101 (r := (.ireturn, 0, 0, 0)) rfl) rfl
theorem mc_102 : mCode 102 = zc_102 := rfl
theorem b102 {σ : zSt} {P : Option Value → zSt → Prop} {a0 : Nat} {x1 : Int32} :
    wpM 102 [.ref a0, .int x1] σ P ↔ (if x1 < 0 then wp 102 11 [some (.ref a0), some (.int x1)] [] σ P else wp 102 4 [some (.ref a0), some (.int x1)] [] σ P) := by
  show wp 102 0 [some (.ref a0), some (.int x1)] [] σ P ↔ _
  refine (wp_s (n := 1) (zcode_of mc_102 (r := (.iload_n 1, 0, 0, 0)) rfl) rfl rfl).trans ?_
  exact wp_jump (off := 10) (t := 11) (zcode_of mc_102 (r := (.ifCond .lt 10, 0, 0, 0)) rfl) rfl rfl (by decide)
theorem b102_4 {σ : zSt} {P : Option Value → zSt → Prop} {a0 : Nat} {x1 : Int32} :
    wp 102 4 [some (.ref a0), some (.int x1)] [] σ P ↔ (if x1 ≤ 4000 then wp 102 14 [some (.ref a0), some (.int x1)] [] σ P else wp 102 11 [some (.ref a0), some (.int x1)] [] σ P) := by
  refine (wp_s (n := 5) (zcode_of mc_102 (r := (.iload_n 1, 0, 0, 0)) rfl) rfl rfl).trans ?_
  refine (wp_sp (n' := 8) rfl (zcode_of mc_102 (r := (.sipush 4000, 0, 0, 0)) rfl) cs_4000).trans ?_
  exact wp_jump (off := 6) (t := 14) (zcode_of mc_102 (r := (.if_icmp .le 6, 0, 0, 0)) rfl) rfl rfl (by decide)
theorem b102_11 {σ : zSt} {P : Option Value → zSt → Prop} {a0 : Nat} {x1 : Int32} :
    wp 102 11 [some (.ref a0), some (.int x1)] [] σ P ↔ P (some (.int (-2))) σ := by
  refine (wp_bp (n' := 13) rfl (zcode_of mc_102 (r := (.bipush (-2), 0, 0, 0)) rfl) cb_m2).trans ?_
  exact wp_retI (zcode_of mc_102 (r := (.ireturn, 0, 0, 0)) rfl) rfl
theorem b102_14 {σ : zSt} {P : Option Value → zSt → Prop} (hC : CShape σ) {a0 : Nat} {x1 : Int32} :
    wp 102 14 [some (.ref a0), some (.int x1)] [] σ P ↔ (zIs σ a0 11 ∧ wpM 12 [.ref (a0 + 15)] (sfi σ 1 2 (a0 + 15) x1) (fun r τ => wp 102 29 [some (.ref a0), some (.int x1)] (r.toList ++ []) τ P)) := by
  refine (wp_s (n := 15) (zcode_of mc_102 (r := (.aload_n 0, 0, 0, 0)) rfl) rfl rfl).trans ?_
  refine (wc_is (zcode_of mc_102 (r := (.getfield 33, 11, 3, 0)) rfl)).trans (and_congr_right fun h1 => ?_)
  refine (wc_getR (n' := 18) (d := 15) rfl (zcode_of mc_102 (r := (.getfield 33, 11, 3, 0)) rfl) rfl hC le_11_3 rfl rfl rfl h1).trans ?_
  refine (wp_s (n := 19) (zcode_of mc_102 (r := (.iload_n 1, 0, 0, 0)) rfl) rfl rfl).trans ?_
  refine (wc_putI (n' := 22) rfl (zcode_of mc_102 (r := (.putfield 247, 1, 2, 0)) rfl) rfl (zIs_of (cs_T hC le_11_3 h1))).trans ?_
  refine (wp_s (n := 23) (zcode_of mc_102 (r := (.aload_n 0, 0, 0, 0)) rfl) rfl rfl).trans ?_
  refine (wc_getR (σ := sfi σ 1 2 (a0 + 15) x1) (n' := 26) (d := 15) rfl (zcode_of mc_102 (r := (.getfield 33, 11, 3, 0)) rfl) rfl (cs_sfi hC) le_11_3 rfl rfl rfl h1).trans ?_
  exact wp_call (q := ([.ref (a0 + 15)], [])) (zcode_of mc_102 (r := (.invokevirtual 250, 12, 0, 0)) rfl) rfl (zCa_V (Nat.le_of_ble_eq_true rfl) rfl (zIs_of (cs_T (cs_sfi hC) le_11_3 h1))) ⟨Nat.le_of_ble_eq_true rfl, Nat.le_of_ble_eq_true rfl⟩
theorem b102_29 {σ : zSt} {P : Option Value → zSt → Prop} {a0 : Nat} {x1 s0 : Int32} :
    wp 102 29 [some (.ref a0), some (.int x1)] [.int s0] σ P ↔ P (some (.int s0)) σ := by
  exact wp_retI (zcode_of mc_102 (r := (.ireturn, 0, 0, 0)) rfl) rfl
theorem mc_103 : mCode 103 = zc_103 := rfl
theorem b103 {σ : zSt} {P : Option Value → zSt → Prop} {a0 : Nat} {x1 x2 : Int32} :
    wpM 103 [.ref a0, .int x1, .int x2] σ P ↔ (if x1 < 0 then wp 103 18 [some (.ref a0), some (.int x1), some (.int x2), none] [] σ P else wp 103 4 [some (.ref a0), some (.int x1), some (.int x2), none] [] σ P) := by
  show wp 103 0 [some (.ref a0), some (.int x1), some (.int x2), none] [] σ P ↔ _
  refine (wp_s (n := 1) (zcode_of mc_103 (r := (.iload_n 1, 0, 0, 0)) rfl) rfl rfl).trans ?_
  exact wp_jump (off := 17) (t := 18) (zcode_of mc_103 (r := (.ifCond .lt 17, 0, 0, 0)) rfl) rfl rfl (by decide)
theorem b103_4 {σ : zSt} {P : Option Value → zSt → Prop} (hC : CShape σ) {a0 : Nat} {x1 x2 : Int32} {u3 : Option Value} :
    wp 103 4 [some (.ref a0), some (.int x1), some (.int x2), u3] [] σ P ↔ (zIs σ a0 11 ∧ wpM 187 [.ref ((a0 + 15) + 1)] σ (fun r τ => wp 103 15 [some (.ref a0), some (.int x1), some (.int x2), u3] (r.toList ++ [.int x1]) τ P)) := by
  refine (wp_s (n := 5) (zcode_of mc_103 (r := (.iload_n 1, 0, 0, 0)) rfl) rfl rfl).trans ?_
  refine (wp_s (n := 6) (zcode_of mc_103 (r := (.aload_n 0, 0, 0, 0)) rfl) rfl rfl).trans ?_
  refine (wc_is (zcode_of mc_103 (r := (.getfield 33, 11, 3, 0)) rfl)).trans (and_congr_right fun h1 => ?_)
  refine (wc_getR (n' := 9) (d := 15) rfl (zcode_of mc_103 (r := (.getfield 33, 11, 3, 0)) rfl) rfl hC le_11_3 rfl rfl rfl h1).trans ?_
  refine (wc_getR (n' := 12) (d := 1) rfl (zcode_of mc_103 (r := (.getfield 253, 1, 0, 0)) rfl) rfl hC le_1_0 rfl rfl rfl (zIs_of (cs_T hC le_11_3 h1))).trans ?_
  exact wp_call (q := ([.ref ((a0 + 15) + 1)], [.int x1])) (zcode_of mc_103 (r := (.invokevirtual 151, 187, 0, 0)) rfl) rfl (zCa_V (Nat.le_of_ble_eq_true rfl) rfl (zIs_of (cs_T hC le_1_0 (zIs_of (cs_T hC le_11_3 h1))))) ⟨Nat.le_of_ble_eq_true rfl, Nat.le_of_ble_eq_true rfl⟩
theorem b103_15 {σ : zSt} {P : Option Value → zSt → Prop} {a0 : Nat} {x1 x2 s0 s1 : Int32} {u3 : Option Value} :
    wp 103 15 [some (.ref a0), some (.int x1), some (.int x2), u3] [.int s0, .int s1] σ P ↔ (if s1 < s0 then wp 103 22 [some (.ref a0), some (.int x1), some (.int x2), u3] [] σ P else wp 103 18 [some (.ref a0), some (.int x1), some (.int x2), u3] [] σ P) := by
  exact wp_jump (off := 7) (t := 22) (zcode_of mc_103 (r := (.if_icmp .lt 7, 0, 0, 0)) rfl) rfl rfl (by decide)
theorem b103_18 {σ : zSt} {P : Option Value → zSt → Prop} {a0 : Nat} {x1 x2 : Int32} {u3 : Option Value} :
    wp 103 18 [some (.ref a0), some (.int x1), some (.int x2), u3] [] σ P ↔ P (some (.long (-9223372036854775808))) σ := by
  refine (wp_ldc2 (n' := 21) rfl (zcode_of mc_103 (r := (.ldc2_w 256, 0, 0, -9223372036854775808)) rfl) cl_m9223372036854775808).trans ?_
  exact wp_retL (zcode_of mc_103 (r := (.lreturn, 0, 0, 0)) rfl) rfl
theorem b103_22 {σ : zSt} {P : Option Value → zSt → Prop} (hC : CShape σ) {a0 : Nat} {x1 x2 : Int32} {u3 : Option Value} :
    wp 103 22 [some (.ref a0), some (.int x1), some (.int x2), u3] [] σ P ↔ (zIs σ a0 11 ∧ wpM 190 [.ref ((a0 + 15) + 1), .int x1] σ (fun r τ => wp 103 33 [some (.ref a0), some (.int x1), some (.int x2), u3] (r.toList ++ []) τ P)) := by
  refine (wp_s (n := 23) (zcode_of mc_103 (r := (.aload_n 0, 0, 0, 0)) rfl) rfl rfl).trans ?_
  refine (wc_is (zcode_of mc_103 (r := (.getfield 33, 11, 3, 0)) rfl)).trans (and_congr_right fun h1 => ?_)
  refine (wc_getR (n' := 26) (d := 15) rfl (zcode_of mc_103 (r := (.getfield 33, 11, 3, 0)) rfl) rfl hC le_11_3 rfl rfl rfl h1).trans ?_
  refine (wc_getR (n' := 29) (d := 1) rfl (zcode_of mc_103 (r := (.getfield 253, 1, 0, 0)) rfl) rfl hC le_1_0 rfl rfl rfl (zIs_of (cs_T hC le_11_3 h1))).trans ?_
  refine (wp_s (n := 30) (zcode_of mc_103 (r := (.iload_n 1, 0, 0, 0)) rfl) rfl rfl).trans ?_
  exact wp_call (q := ([.ref ((a0 + 15) + 1), .int x1], [])) (zcode_of mc_103 (r := (.invokevirtual 258, 190, 0, 1)) rfl) rfl (zCa_V (Nat.le_of_ble_eq_true rfl) rfl (zIs_of (cs_T hC le_1_0 (zIs_of (cs_T hC le_11_3 h1))))) ⟨Nat.le_of_ble_eq_true rfl, Nat.le_of_ble_eq_true rfl⟩
set_option maxRecDepth 20000 in
theorem b103_33 {σ : zSt} {P : Option Value → zSt → Prop} {a0 s0 : Nat} {x1 x2 : Int32} {u3 : Option Value} :
    wp 103 33 [some (.ref a0), some (.int x1), some (.int x2), u3] [.ref s0] σ P ↔ (zIs σ s0 3 ∧ (if x2 = 0 then wp 103 72 [some (.ref a0), some (.int x1), some (.int x2), some (.ref s0)] [] σ P else if x2 = 1 then wp 103 77 [some (.ref a0), some (.int x1), some (.int x2), some (.ref s0)] [] σ P else if x2 = 2 then wp 103 86 [some (.ref a0), some (.int x1), some (.int x2), some (.ref s0)] [] σ P else if x2 = 3 then wp 103 95 [some (.ref a0), some (.int x1), some (.int x2), some (.ref s0)] [] σ P else if x2 = 4 then wp 103 101 [some (.ref a0), some (.int x1), some (.int x2), some (.ref s0)] [] σ P else wp 103 110 [some (.ref a0), some (.int x1), some (.int x2), some (.ref s0)] [] σ P)) := by
  refine (wc_chk (n' := 36) rfl (zcode_of mc_103 (r := (.checkcast 262, 3, 0, 0)) rfl)).trans (and_congr_right fun h1 => ?_)
  refine (wp_s (n := 37) (zcode_of mc_103 (r := (.astore_n 3, 0, 0, 0)) rfl) rfl rfl).trans ?_
  refine (wp_s (n := 38) (zcode_of mc_103 (r := (.iload_n 2, 0, 0, 0)) rfl) rfl rfl).trans ?_
  generalize hv9 : (x2 : Int32) = v9
  by_cases h100 : v9 = 0
  · rw [if_pos h100, h100]
    exact wp_swI (zcode_of mc_103 (r := (.tableswitch 72 0 4 #[34, 39, 48, 57, 63], 0, 0, 0)) rfl) (t := 72) (by decide)
  rw [if_neg h100]
  by_cases h101 : v9 = 1
  · rw [if_pos h101, h101]
    exact wp_swI (zcode_of mc_103 (r := (.tableswitch 72 0 4 #[34, 39, 48, 57, 63], 0, 0, 0)) rfl) (t := 77) (by decide)
  rw [if_neg h101]
  by_cases h102 : v9 = 2
  · rw [if_pos h102, h102]
    exact wp_swI (zcode_of mc_103 (r := (.tableswitch 72 0 4 #[34, 39, 48, 57, 63], 0, 0, 0)) rfl) (t := 86) (by decide)
  rw [if_neg h102]
  by_cases h103 : v9 = 3
  · rw [if_pos h103, h103]
    exact wp_swI (zcode_of mc_103 (r := (.tableswitch 72 0 4 #[34, 39, 48, 57, 63], 0, 0, 0)) rfl) (t := 95) (by decide)
  rw [if_neg h103]
  by_cases h104 : v9 = 4
  · rw [if_pos h104, h104]
    exact wp_swI (zcode_of mc_103 (r := (.tableswitch 72 0 4 #[34, 39, 48, 57, 63], 0, 0, 0)) rfl) (t := 101) (by decide)
  rw [if_neg h104]
  exact wp_swO (zcode_of mc_103 (r := (.tableswitch 72 0 4 #[34, 39, 48, 57, 63], 0, 0, 0)) rfl) (t := 110) (by decide) (zsw_lo (fun k g1 g2 => by
    rcases (show k = 0 ∨ k = 1 ∨ k = 2 ∨ k = 3 ∨ k = 4 by omega) with rfl | rfl | rfl | rfl | rfl
    · exact h100
    · exact h101
    · exact h102
    · exact h103
    · exact h104) (by decide) (by decide))
theorem b103_72 {σ : zSt} {P : Option Value → zSt → Prop} {a0 a3 : Nat} {x1 x2 : Int32} :
    wp 103 72 [some (.ref a0), some (.int x1), some (.int x2), some (.ref a3)] [] σ P ↔ (zIs σ a3 3 ∧ P (some (.long (zfl σ 3 2 a3))) σ) := by
  refine (wp_s (n := 73) (zcode_of mc_103 (r := (.aload_n 3, 0, 0, 0)) rfl) rfl rfl).trans ?_
  refine (wc_is (zcode_of mc_103 (r := (.getfield 264, 3, 2, 0)) rfl)).trans (and_congr_right fun h1 => ?_)
  refine (wc_getL (n' := 76) rfl (zcode_of mc_103 (r := (.getfield 264, 3, 2, 0)) rfl) rfl h1).trans ?_
  exact wp_retL (zcode_of mc_103 (r := (.lreturn, 0, 0, 0)) rfl) rfl
theorem b103_77 {σ : zSt} {P : Option Value → zSt → Prop} (hC : CShape σ) {a0 a3 : Nat} {x1 x2 : Int32} :
    wp 103 77 [some (.ref a0), some (.int x1), some (.int x2), some (.ref a3)] [] σ P ↔ (zIs σ a3 3 ∧ wpM 59 [.ref (a3 + 4)] σ (fun r τ => wp 103 84 [some (.ref a0), some (.int x1), some (.int x2), some (.ref a3)] (r.toList ++ []) τ P)) := by
  refine (wp_s (n := 78) (zcode_of mc_103 (r := (.aload_n 3, 0, 0, 0)) rfl) rfl rfl).trans ?_
  refine (wc_is (zcode_of mc_103 (r := (.getfield 266, 3, 1, 0)) rfl)).trans (and_congr_right fun h1 => ?_)
  refine (wc_getR (n' := 81) (d := 4) rfl (zcode_of mc_103 (r := (.getfield 266, 3, 1, 0)) rfl) rfl hC le_3_1 rfl rfl rfl h1).trans ?_
  exact wp_call (q := ([.ref (a3 + 4)], [])) (zcode_of mc_103 (r := (.invokevirtual 269, 59, 0, 0)) rfl) rfl (zCa_V (Nat.le_of_ble_eq_true rfl) rfl (zIs_of (cs_T hC le_3_1 h1))) ⟨Nat.le_of_ble_eq_true rfl, Nat.le_of_ble_eq_true rfl⟩
theorem b103_84 {σ : zSt} {P : Option Value → zSt → Prop} {a0 a3 : Nat} {x1 x2 s0 : Int32} :
    wp 103 84 [some (.ref a0), some (.int x1), some (.int x2), some (.ref a3)] [.int s0] σ P ↔ P (some (.long (Int32.toInt64 s0))) σ := by
  refine (wp_s (n := 85) (zcode_of mc_103 (r := (.i2l, 0, 0, 0)) rfl) rfl rfl).trans ?_
  exact wp_retL (zcode_of mc_103 (r := (.lreturn, 0, 0, 0)) rfl) rfl
theorem b103_86 {σ : zSt} {P : Option Value → zSt → Prop} (hC : CShape σ) {a0 a3 : Nat} {x1 x2 : Int32} :
    wp 103 86 [some (.ref a0), some (.int x1), some (.int x2), some (.ref a3)] [] σ P ↔ (zIs σ a3 3 ∧ P (some (.long (Int32.toInt64 (zfi σ 7 2 (a3 + 4))))) σ) := by
  refine (wp_s (n := 87) (zcode_of mc_103 (r := (.aload_n 3, 0, 0, 0)) rfl) rfl rfl).trans ?_
  refine (wc_is (zcode_of mc_103 (r := (.getfield 266, 3, 1, 0)) rfl)).trans (and_congr_right fun h1 => ?_)
  refine (wc_getR (n' := 90) (d := 4) rfl (zcode_of mc_103 (r := (.getfield 266, 3, 1, 0)) rfl) rfl hC le_3_1 rfl rfl rfl h1).trans ?_
  refine (wc_getI (n' := 93) rfl (zcode_of mc_103 (r := (.getfield 270, 7, 2, 0)) rfl) rfl (zIs_of (cs_T hC le_3_1 h1))).trans ?_
  refine (wp_s (n := 94) (zcode_of mc_103 (r := (.i2l, 0, 0, 0)) rfl) rfl rfl).trans ?_
  exact wp_retL (zcode_of mc_103 (r := (.lreturn, 0, 0, 0)) rfl) rfl
theorem b103_95 {σ : zSt} {P : Option Value → zSt → Prop} {a0 a3 : Nat} {x1 x2 : Int32} :
    wp 103 95 [some (.ref a0), some (.int x1), some (.int x2), some (.ref a3)] [] σ P ↔ (zIs σ a3 3 ∧ P (some (.long (Int32.toInt64 (zfi σ 3 3 a3)))) σ) := by
  refine (wp_s (n := 96) (zcode_of mc_103 (r := (.aload_n 3, 0, 0, 0)) rfl) rfl rfl).trans ?_
  refine (wc_is (zcode_of mc_103 (r := (.getfield 273, 3, 3, 0)) rfl)).trans (and_congr_right fun h1 => ?_)
  refine (wc_getI (n' := 99) rfl (zcode_of mc_103 (r := (.getfield 273, 3, 3, 0)) rfl) rfl h1).trans ?_
  refine (wp_s (n := 100) (zcode_of mc_103 (r := (.i2l, 0, 0, 0)) rfl) rfl rfl).trans ?_
  exact wp_retL (zcode_of mc_103 (r := (.lreturn, 0, 0, 0)) rfl) rfl
theorem b103_101 {σ : zSt} {P : Option Value → zSt → Prop} (hC : CShape σ) {a0 a3 : Nat} {x1 x2 : Int32} :
    wp 103 101 [some (.ref a0), some (.int x1), some (.int x2), some (.ref a3)] [] σ P ↔ (zIs σ a3 3 ∧ P (some (.long (Int32.toInt64 (zfi σ 7 1 (a3 + 4))))) σ) := by
  refine (wp_s (n := 102) (zcode_of mc_103 (r := (.aload_n 3, 0, 0, 0)) rfl) rfl rfl).trans ?_
  refine (wc_is (zcode_of mc_103 (r := (.getfield 266, 3, 1, 0)) rfl)).trans (and_congr_right fun h1 => ?_)
  refine (wc_getR (n' := 105) (d := 4) rfl (zcode_of mc_103 (r := (.getfield 266, 3, 1, 0)) rfl) rfl hC le_3_1 rfl rfl rfl h1).trans ?_
  refine (wc_getI (n' := 108) rfl (zcode_of mc_103 (r := (.getfield 276, 7, 1, 0)) rfl) rfl (zIs_of (cs_T hC le_3_1 h1))).trans ?_
  refine (wp_s (n := 109) (zcode_of mc_103 (r := (.i2l, 0, 0, 0)) rfl) rfl rfl).trans ?_
  exact wp_retL (zcode_of mc_103 (r := (.lreturn, 0, 0, 0)) rfl) rfl
theorem b103_110 {σ : zSt} {P : Option Value → zSt → Prop} {a0 a3 : Nat} {x1 x2 : Int32} :
    wp 103 110 [some (.ref a0), some (.int x1), some (.int x2), some (.ref a3)] [] σ P ↔ P (some (.long (-9223372036854775808))) σ := by
  refine (wp_ldc2 (n' := 113) rfl (zcode_of mc_103 (r := (.ldc2_w 256, 0, 0, -9223372036854775808)) rfl) cl_m9223372036854775808).trans ?_
  exact wp_retL (zcode_of mc_103 (r := (.lreturn, 0, 0, 0)) rfl) rfl
theorem mc_104 : mCode 104 = zc_104 := rfl
theorem b104 {σ : zSt} {P : Option Value → zSt → Prop} (hC : CShape σ) {a0 : Nat} :
    wpM 104 [.ref a0] σ P ↔ (zIs σ a0 11 ∧ wpM 13 [.ref (a0 + 15)] σ (fun r τ => wp 104 7 [some (.ref a0)] (r.toList ++ []) τ P)) := by
  show wp 104 0 [some (.ref a0)] [] σ P ↔ _
  refine (wp_s (n := 1) (zcode_of mc_104 (r := (.aload_n 0, 0, 0, 0)) rfl) rfl rfl).trans ?_
  refine (wc_is (zcode_of mc_104 (r := (.getfield 33, 11, 3, 0)) rfl)).trans (and_congr_right fun h1 => ?_)
  refine (wc_getR (n' := 4) (d := 15) rfl (zcode_of mc_104 (r := (.getfield 33, 11, 3, 0)) rfl) rfl hC le_11_3 rfl rfl rfl h1).trans ?_
  exact wp_call (q := ([.ref (a0 + 15)], [])) (zcode_of mc_104 (r := (.invokevirtual 278, 13, 0, 0)) rfl) rfl (zCa_V (Nat.le_of_ble_eq_true rfl) rfl (zIs_of (cs_T hC le_11_3 h1))) ⟨Nat.le_of_ble_eq_true rfl, Nat.le_of_ble_eq_true rfl⟩
theorem b104_7 {σ : zSt} {P : Option Value → zSt → Prop} {a0 : Nat} {s0 : Int32} :
    wp 104 7 [some (.ref a0)] [.int s0] σ P ↔ P (some (.int s0)) σ := by
  exact wp_retI (zcode_of mc_104 (r := (.ireturn, 0, 0, 0)) rfl) rfl
theorem mc_105 : mCode 105 = zc_105 := rfl
set_option maxRecDepth 20000 in
theorem b105 {σ : zSt} {P : Option Value → zSt → Prop} {a0 : Nat} {x1 : Int32} :
    wpM 105 [.ref a0, .int x1] σ P ↔ (if x1 = 0 then wp 105 60 [some (.ref a0), some (.int x1)] [] σ P else if x1 = 1 then wp 105 68 [some (.ref a0), some (.int x1)] [] σ P else if x1 = 2 then wp 105 76 [some (.ref a0), some (.int x1)] [] σ P else if x1 = 3 then wp 105 84 [some (.ref a0), some (.int x1)] [] σ P else if x1 = 4 then wp 105 95 [some (.ref a0), some (.int x1)] [] σ P else if x1 = 5 then wp 105 103 [some (.ref a0), some (.int x1)] [] σ P else if x1 = 6 then wp 105 111 [some (.ref a0), some (.int x1)] [] σ P else if x1 = 7 then wp 105 119 [some (.ref a0), some (.int x1)] [] σ P else if x1 = 8 then wp 105 127 [some (.ref a0), some (.int x1)] [] σ P else if x1 = 9 then wp 105 135 [some (.ref a0), some (.int x1)] [] σ P else if x1 = 10 then wp 105 143 [some (.ref a0), some (.int x1)] [] σ P else wp 105 151 [some (.ref a0), some (.int x1)] [] σ P) := by
  show wp 105 0 [some (.ref a0), some (.int x1)] [] σ P ↔ _
  refine (wp_s (n := 1) (zcode_of mc_105 (r := (.iload_n 1, 0, 0, 0)) rfl) rfl rfl).trans ?_
  generalize hv9 : (x1 : Int32) = v9
  by_cases h100 : v9 = 0
  · rw [if_pos h100, h100]
    exact wp_swI (zcode_of mc_105 (r := (.tableswitch 150 0 10 #[59, 67, 75, 83, 94, 102, 110, 118, 126, 134, 142], 0, 0, 0)) rfl) (t := 60) (by decide)
  rw [if_neg h100]
  by_cases h101 : v9 = 1
  · rw [if_pos h101, h101]
    exact wp_swI (zcode_of mc_105 (r := (.tableswitch 150 0 10 #[59, 67, 75, 83, 94, 102, 110, 118, 126, 134, 142], 0, 0, 0)) rfl) (t := 68) (by decide)
  rw [if_neg h101]
  by_cases h102 : v9 = 2
  · rw [if_pos h102, h102]
    exact wp_swI (zcode_of mc_105 (r := (.tableswitch 150 0 10 #[59, 67, 75, 83, 94, 102, 110, 118, 126, 134, 142], 0, 0, 0)) rfl) (t := 76) (by decide)
  rw [if_neg h102]
  by_cases h103 : v9 = 3
  · rw [if_pos h103, h103]
    exact wp_swI (zcode_of mc_105 (r := (.tableswitch 150 0 10 #[59, 67, 75, 83, 94, 102, 110, 118, 126, 134, 142], 0, 0, 0)) rfl) (t := 84) (by decide)
  rw [if_neg h103]
  by_cases h104 : v9 = 4
  · rw [if_pos h104, h104]
    exact wp_swI (zcode_of mc_105 (r := (.tableswitch 150 0 10 #[59, 67, 75, 83, 94, 102, 110, 118, 126, 134, 142], 0, 0, 0)) rfl) (t := 95) (by decide)
  rw [if_neg h104]
  by_cases h105 : v9 = 5
  · rw [if_pos h105, h105]
    exact wp_swI (zcode_of mc_105 (r := (.tableswitch 150 0 10 #[59, 67, 75, 83, 94, 102, 110, 118, 126, 134, 142], 0, 0, 0)) rfl) (t := 103) (by decide)
  rw [if_neg h105]
  by_cases h106 : v9 = 6
  · rw [if_pos h106, h106]
    exact wp_swI (zcode_of mc_105 (r := (.tableswitch 150 0 10 #[59, 67, 75, 83, 94, 102, 110, 118, 126, 134, 142], 0, 0, 0)) rfl) (t := 111) (by decide)
  rw [if_neg h106]
  by_cases h107 : v9 = 7
  · rw [if_pos h107, h107]
    exact wp_swI (zcode_of mc_105 (r := (.tableswitch 150 0 10 #[59, 67, 75, 83, 94, 102, 110, 118, 126, 134, 142], 0, 0, 0)) rfl) (t := 119) (by decide)
  rw [if_neg h107]
  by_cases h108 : v9 = 8
  · rw [if_pos h108, h108]
    exact wp_swI (zcode_of mc_105 (r := (.tableswitch 150 0 10 #[59, 67, 75, 83, 94, 102, 110, 118, 126, 134, 142], 0, 0, 0)) rfl) (t := 127) (by decide)
  rw [if_neg h108]
  by_cases h109 : v9 = 9
  · rw [if_pos h109, h109]
    exact wp_swI (zcode_of mc_105 (r := (.tableswitch 150 0 10 #[59, 67, 75, 83, 94, 102, 110, 118, 126, 134, 142], 0, 0, 0)) rfl) (t := 135) (by decide)
  rw [if_neg h109]
  by_cases h110 : v9 = 10
  · rw [if_pos h110, h110]
    exact wp_swI (zcode_of mc_105 (r := (.tableswitch 150 0 10 #[59, 67, 75, 83, 94, 102, 110, 118, 126, 134, 142], 0, 0, 0)) rfl) (t := 143) (by decide)
  rw [if_neg h110]
  exact wp_swO (zcode_of mc_105 (r := (.tableswitch 150 0 10 #[59, 67, 75, 83, 94, 102, 110, 118, 126, 134, 142], 0, 0, 0)) rfl) (t := 151) (by decide) (zsw_lo (fun k g1 g2 => by
    rcases (show k = 0 ∨ k = 1 ∨ k = 2 ∨ k = 3 ∨ k = 4 ∨ k = 5 ∨ k = 6 ∨ k = 7 ∨ k = 8 ∨ k = 9 ∨ k = 10 by omega) with rfl | rfl | rfl | rfl | rfl | rfl | rfl | rfl | rfl | rfl | rfl
    · exact h100
    · exact h101
    · exact h102
    · exact h103
    · exact h104
    · exact h105
    · exact h106
    · exact h107
    · exact h108
    · exact h109
    · exact h110) (by decide) (by decide))
theorem b105_60 {σ : zSt} {P : Option Value → zSt → Prop} (hC : CShape σ) {a0 : Nat} {x1 : Int32} :
    wp 105 60 [some (.ref a0), some (.int x1)] [] σ P ↔ (zIs σ a0 11 ∧ wpM 75 [.ref (a0 + 1)] σ (fun r τ => wp 105 67 [some (.ref a0), some (.int x1)] (r.toList ++ []) τ P)) := by
  refine (wp_s (n := 61) (zcode_of mc_105 (r := (.aload_n 0, 0, 0, 0)) rfl) rfl rfl).trans ?_
  refine (wc_is (zcode_of mc_105 (r := (.getfield 12, 11, 0, 0)) rfl)).trans (and_congr_right fun h1 => ?_)
  refine (wc_getR (n' := 64) (d := 1) rfl (zcode_of mc_105 (r := (.getfield 12, 11, 0, 0)) rfl) rfl hC le_11_0 rfl rfl rfl h1).trans ?_
  exact wp_call (q := ([.ref (a0 + 1)], [])) (zcode_of mc_105 (r := (.invokevirtual 87, 75, 0, 0)) rfl) rfl (zCa_V (Nat.le_of_ble_eq_true rfl) rfl (zIs_of (cs_T hC le_11_0 h1))) ⟨Nat.le_of_ble_eq_true rfl, Nat.le_of_ble_eq_true rfl⟩
theorem b105_67 {σ : zSt} {P : Option Value → zSt → Prop} {a0 : Nat} {x1 s0 : Int32} :
    wp 105 67 [some (.ref a0), some (.int x1)] [.int s0] σ P ↔ P (some (.int s0)) σ := by
  exact wp_retI (zcode_of mc_105 (r := (.ireturn, 0, 0, 0)) rfl) rfl
theorem b105_68 {σ : zSt} {P : Option Value → zSt → Prop} (hC : CShape σ) {a0 : Nat} {x1 : Int32} :
    wp 105 68 [some (.ref a0), some (.int x1)] [] σ P ↔ (zIs σ a0 11 ∧ wpM 31 [.ref (a0 + 13)] σ (fun r τ => wp 105 75 [some (.ref a0), some (.int x1)] (r.toList ++ []) τ P)) := by
  refine (wp_s (n := 69) (zcode_of mc_105 (r := (.aload_n 0, 0, 0, 0)) rfl) rfl rfl).trans ?_
  refine (wc_is (zcode_of mc_105 (r := (.getfield 26, 11, 2, 0)) rfl)).trans (and_congr_right fun h1 => ?_)
  refine (wc_getR (n' := 72) (d := 13) rfl (zcode_of mc_105 (r := (.getfield 26, 11, 2, 0)) rfl) rfl hC le_11_2 rfl rfl rfl h1).trans ?_
  exact wp_call (q := ([.ref (a0 + 13)], [])) (zcode_of mc_105 (r := (.invokevirtual 131, 31, 0, 0)) rfl) rfl (zCa_V (Nat.le_of_ble_eq_true rfl) rfl (zIs_of (cs_T hC le_11_2 h1))) ⟨Nat.le_of_ble_eq_true rfl, Nat.le_of_ble_eq_true rfl⟩
theorem b105_75 {σ : zSt} {P : Option Value → zSt → Prop} {a0 : Nat} {x1 s0 : Int32} :
    wp 105 75 [some (.ref a0), some (.int x1)] [.int s0] σ P ↔ P (some (.int s0)) σ := by
  exact wp_retI (zcode_of mc_105 (r := (.ireturn, 0, 0, 0)) rfl) rfl
theorem b105_76 {σ : zSt} {P : Option Value → zSt → Prop} (hC : CShape σ) {a0 : Nat} {x1 : Int32} :
    wp 105 76 [some (.ref a0), some (.int x1)] [] σ P ↔ (zIs σ a0 11 ∧ P (some (.int (zfi σ 2 1 (a0 + 11)))) σ) := by
  refine (wp_s (n := 77) (zcode_of mc_105 (r := (.aload_n 0, 0, 0, 0)) rfl) rfl rfl).trans ?_
  refine (wc_is (zcode_of mc_105 (r := (.getfield 19, 11, 1, 0)) rfl)).trans (and_congr_right fun h1 => ?_)
  refine (wc_getR (n' := 80) (d := 11) rfl (zcode_of mc_105 (r := (.getfield 19, 11, 1, 0)) rfl) rfl hC le_11_1 rfl rfl rfl h1).trans ?_
  refine (wc_getI (n' := 83) rfl (zcode_of mc_105 (r := (.getfield 65, 2, 1, 0)) rfl) rfl (zIs_of (cs_T hC le_11_1 h1))).trans ?_
  exact wp_retI (zcode_of mc_105 (r := (.ireturn, 0, 0, 0)) rfl) rfl
theorem b105_84 {σ : zSt} {P : Option Value → zSt → Prop} (hC : CShape σ) {a0 : Nat} {x1 : Int32} :
    wp 105 84 [some (.ref a0), some (.int x1)] [] σ P ↔ (zIs σ a0 11 ∧ wpM 187 [.ref ((a0 + 15) + 1)] σ (fun r τ => wp 105 94 [some (.ref a0), some (.int x1)] (r.toList ++ []) τ P)) := by
  refine (wp_s (n := 85) (zcode_of mc_105 (r := (.aload_n 0, 0, 0, 0)) rfl) rfl rfl).trans ?_
  refine (wc_is (zcode_of mc_105 (r := (.getfield 33, 11, 3, 0)) rfl)).trans (and_congr_right fun h1 => ?_)
  refine (wc_getR (n' := 88) (d := 15) rfl (zcode_of mc_105 (r := (.getfield 33, 11, 3, 0)) rfl) rfl hC le_11_3 rfl rfl rfl h1).trans ?_
  refine (wc_getR (n' := 91) (d := 1) rfl (zcode_of mc_105 (r := (.getfield 253, 1, 0, 0)) rfl) rfl hC le_1_0 rfl rfl rfl (zIs_of (cs_T hC le_11_3 h1))).trans ?_
  exact wp_call (q := ([.ref ((a0 + 15) + 1)], [])) (zcode_of mc_105 (r := (.invokevirtual 151, 187, 0, 0)) rfl) rfl (zCa_V (Nat.le_of_ble_eq_true rfl) rfl (zIs_of (cs_T hC le_1_0 (zIs_of (cs_T hC le_11_3 h1))))) ⟨Nat.le_of_ble_eq_true rfl, Nat.le_of_ble_eq_true rfl⟩
theorem b105_94 {σ : zSt} {P : Option Value → zSt → Prop} {a0 : Nat} {x1 s0 : Int32} :
    wp 105 94 [some (.ref a0), some (.int x1)] [.int s0] σ P ↔ P (some (.int s0)) σ := by
  exact wp_retI (zcode_of mc_105 (r := (.ireturn, 0, 0, 0)) rfl) rfl
theorem b105_95 {σ : zSt} {P : Option Value → zSt → Prop} (hC : CShape σ) {a0 : Nat} {x1 : Int32} :
    wp 105 95 [some (.ref a0), some (.int x1)] [] σ P ↔ (zIs σ a0 11 ∧ P (some (.int (zfi σ 1 3 (a0 + 15)))) σ) := by
  refine (wp_s (n := 96) (zcode_of mc_105 (r := (.aload_n 0, 0, 0, 0)) rfl) rfl rfl).trans ?_
  refine (wc_is (zcode_of mc_105 (r := (.getfield 33, 11, 3, 0)) rfl)).trans (and_congr_right fun h1 => ?_)
  refine (wc_getR (n' := 99) (d := 15) rfl (zcode_of mc_105 (r := (.getfield 33, 11, 3, 0)) rfl) rfl hC le_11_3 rfl rfl rfl h1).trans ?_
  refine (wc_getI (n' := 102) rfl (zcode_of mc_105 (r := (.getfield 281, 1, 3, 0)) rfl) rfl (zIs_of (cs_T hC le_11_3 h1))).trans ?_
  exact wp_retI (zcode_of mc_105 (r := (.ireturn, 0, 0, 0)) rfl) rfl
theorem b105_103 {σ : zSt} {P : Option Value → zSt → Prop} (hC : CShape σ) {a0 : Nat} {x1 : Int32} :
    wp 105 103 [some (.ref a0), some (.int x1)] [] σ P ↔ (zIs σ a0 11 ∧ P (some (.int (zfi σ 1 2 (a0 + 15)))) σ) := by
  refine (wp_s (n := 104) (zcode_of mc_105 (r := (.aload_n 0, 0, 0, 0)) rfl) rfl rfl).trans ?_
  refine (wc_is (zcode_of mc_105 (r := (.getfield 33, 11, 3, 0)) rfl)).trans (and_congr_right fun h1 => ?_)
  refine (wc_getR (n' := 107) (d := 15) rfl (zcode_of mc_105 (r := (.getfield 33, 11, 3, 0)) rfl) rfl hC le_11_3 rfl rfl rfl h1).trans ?_
  refine (wc_getI (n' := 110) rfl (zcode_of mc_105 (r := (.getfield 247, 1, 2, 0)) rfl) rfl (zIs_of (cs_T hC le_11_3 h1))).trans ?_
  exact wp_retI (zcode_of mc_105 (r := (.ireturn, 0, 0, 0)) rfl) rfl
theorem b105_111 {σ : zSt} {P : Option Value → zSt → Prop} (hC : CShape σ) {a0 : Nat} {x1 : Int32} :
    wp 105 111 [some (.ref a0), some (.int x1)] [] σ P ↔ (zIs σ a0 11 ∧ P (some (.int (zfi σ 6 1 (a0 + 21)))) σ) := by
  refine (wp_s (n := 112) (zcode_of mc_105 (r := (.aload_n 0, 0, 0, 0)) rfl) rfl rfl).trans ?_
  refine (wc_is (zcode_of mc_105 (r := (.getfield 47, 11, 5, 0)) rfl)).trans (and_congr_right fun h1 => ?_)
  refine (wc_getR (n' := 115) (d := 21) rfl (zcode_of mc_105 (r := (.getfield 47, 11, 5, 0)) rfl) rfl hC le_11_5 rfl rfl rfl h1).trans ?_
  refine (wc_getI (n' := 118) rfl (zcode_of mc_105 (r := (.getfield 219, 6, 1, 0)) rfl) rfl (zIs_of (cs_T hC le_11_5 h1))).trans ?_
  exact wp_retI (zcode_of mc_105 (r := (.ireturn, 0, 0, 0)) rfl) rfl
theorem b105_119 {σ : zSt} {P : Option Value → zSt → Prop} (hC : CShape σ) {a0 : Nat} {x1 : Int32} :
    wp 105 119 [some (.ref a0), some (.int x1)] [] σ P ↔ (zIs σ a0 11 ∧ P (some (.int (zfi σ 6 2 (a0 + 21)))) σ) := by
  refine (wp_s (n := 120) (zcode_of mc_105 (r := (.aload_n 0, 0, 0, 0)) rfl) rfl rfl).trans ?_
  refine (wc_is (zcode_of mc_105 (r := (.getfield 47, 11, 5, 0)) rfl)).trans (and_congr_right fun h1 => ?_)
  refine (wc_getR (n' := 123) (d := 21) rfl (zcode_of mc_105 (r := (.getfield 47, 11, 5, 0)) rfl) rfl hC le_11_5 rfl rfl rfl h1).trans ?_
  refine (wc_getI (n' := 126) rfl (zcode_of mc_105 (r := (.getfield 204, 6, 2, 0)) rfl) rfl (zIs_of (cs_T hC le_11_5 h1))).trans ?_
  exact wp_retI (zcode_of mc_105 (r := (.ireturn, 0, 0, 0)) rfl) rfl
theorem b105_127 {σ : zSt} {P : Option Value → zSt → Prop} (hC : CShape σ) {a0 : Nat} {x1 : Int32} :
    wp 105 127 [some (.ref a0), some (.int x1)] [] σ P ↔ (zIs σ a0 11 ∧ P (some (.int (zfi σ 6 3 (a0 + 21)))) σ) := by
  refine (wp_s (n := 128) (zcode_of mc_105 (r := (.aload_n 0, 0, 0, 0)) rfl) rfl rfl).trans ?_
  refine (wc_is (zcode_of mc_105 (r := (.getfield 47, 11, 5, 0)) rfl)).trans (and_congr_right fun h1 => ?_)
  refine (wc_getR (n' := 131) (d := 21) rfl (zcode_of mc_105 (r := (.getfield 47, 11, 5, 0)) rfl) rfl hC le_11_5 rfl rfl rfl h1).trans ?_
  refine (wc_getI (n' := 134) rfl (zcode_of mc_105 (r := (.getfield 284, 6, 3, 0)) rfl) rfl (zIs_of (cs_T hC le_11_5 h1))).trans ?_
  exact wp_retI (zcode_of mc_105 (r := (.ireturn, 0, 0, 0)) rfl) rfl
theorem b105_135 {σ : zSt} {P : Option Value → zSt → Prop} (hC : CShape σ) {a0 : Nat} {x1 : Int32} :
    wp 105 135 [some (.ref a0), some (.int x1)] [] σ P ↔ (zIs σ a0 11 ∧ P (some (.int (zfi σ 1 4 (a0 + 15)))) σ) := by
  refine (wp_s (n := 136) (zcode_of mc_105 (r := (.aload_n 0, 0, 0, 0)) rfl) rfl rfl).trans ?_
  refine (wc_is (zcode_of mc_105 (r := (.getfield 33, 11, 3, 0)) rfl)).trans (and_congr_right fun h1 => ?_)
  refine (wc_getR (n' := 139) (d := 15) rfl (zcode_of mc_105 (r := (.getfield 33, 11, 3, 0)) rfl) rfl hC le_11_3 rfl rfl rfl h1).trans ?_
  refine (wc_getI (n' := 142) rfl (zcode_of mc_105 (r := (.getfield 285, 1, 4, 0)) rfl) rfl (zIs_of (cs_T hC le_11_3 h1))).trans ?_
  exact wp_retI (zcode_of mc_105 (r := (.ireturn, 0, 0, 0)) rfl) rfl
theorem b105_143 {σ : zSt} {P : Option Value → zSt → Prop} (hC : CShape σ) {a0 : Nat} {x1 : Int32} :
    wp 105 143 [some (.ref a0), some (.int x1)] [] σ P ↔ (zIs σ a0 11 ∧ P (some (.int (zfi σ 6 4 (a0 + 21)))) σ) := by
  refine (wp_s (n := 144) (zcode_of mc_105 (r := (.aload_n 0, 0, 0, 0)) rfl) rfl rfl).trans ?_
  refine (wc_is (zcode_of mc_105 (r := (.getfield 47, 11, 5, 0)) rfl)).trans (and_congr_right fun h1 => ?_)
  refine (wc_getR (n' := 147) (d := 21) rfl (zcode_of mc_105 (r := (.getfield 47, 11, 5, 0)) rfl) rfl hC le_11_5 rfl rfl rfl h1).trans ?_
  refine (wc_getI (n' := 150) rfl (zcode_of mc_105 (r := (.getfield 288, 6, 4, 0)) rfl) rfl (zIs_of (cs_T hC le_11_5 h1))).trans ?_
  exact wp_retI (zcode_of mc_105 (r := (.ireturn, 0, 0, 0)) rfl) rfl
theorem b105_151 {σ : zSt} {P : Option Value → zSt → Prop} {a0 : Nat} {x1 : Int32} :
    wp 105 151 [some (.ref a0), some (.int x1)] [] σ P ↔ P (some (.int (-2))) σ := by
  refine (wp_bp (n' := 153) rfl (zcode_of mc_105 (r := (.bipush (-2), 0, 0, 0)) rfl) cb_m2).trans ?_
  exact wp_retI (zcode_of mc_105 (r := (.ireturn, 0, 0, 0)) rfl) rfl
theorem mc_106 : mCode 106 = zc_106 := rfl
theorem b106 {σ : zSt} {P : Option Value → zSt → Prop} (hC : CShape σ) {a0 : Nat} :
    wpM 106 [.ref a0] σ P ↔ (zIs σ a0 11 ∧ wpM 74 [.ref (a0 + 1)] σ (fun r τ => wp 106 7 [some (.ref a0)] (r.toList ++ []) τ P)) := by
  show wp 106 0 [some (.ref a0)] [] σ P ↔ _
  refine (wp_s (n := 1) (zcode_of mc_106 (r := (.aload_n 0, 0, 0, 0)) rfl) rfl rfl).trans ?_
  refine (wc_is (zcode_of mc_106 (r := (.getfield 12, 11, 0, 0)) rfl)).trans (and_congr_right fun h1 => ?_)
  refine (wc_getR (n' := 4) (d := 1) rfl (zcode_of mc_106 (r := (.getfield 12, 11, 0, 0)) rfl) rfl hC le_11_0 rfl rfl rfl h1).trans ?_
  exact wp_call (q := ([.ref (a0 + 1)], [])) (zcode_of mc_106 (r := (.invokevirtual 291, 74, 0, 0)) rfl) rfl (zCa_V (Nat.le_of_ble_eq_true rfl) rfl (zIs_of (cs_T hC le_11_0 h1))) ⟨Nat.le_of_ble_eq_true rfl, Nat.le_of_ble_eq_true rfl⟩
theorem b106_7 {σ : zSt} {P : Option Value → zSt → Prop} (hC : CShape σ) {a0 : Nat} :
    wp 106 7 [some (.ref a0)] [] σ P ↔ (zIs σ a0 11 ∧ wpM 196 [.ref ((a0 + 13) + 1)] (sfi σ 2 1 (a0 + 11) 0) (fun r τ => wp 106 25 [some (.ref a0)] (r.toList ++ []) τ P)) := by
  refine (wp_s (n := 8) (zcode_of mc_106 (r := (.aload_n 0, 0, 0, 0)) rfl) rfl rfl).trans ?_
  refine (wc_is (zcode_of mc_106 (r := (.getfield 19, 11, 1, 0)) rfl)).trans (and_congr_right fun h1 => ?_)
  refine (wc_getR (n' := 11) (d := 11) rfl (zcode_of mc_106 (r := (.getfield 19, 11, 1, 0)) rfl) rfl hC le_11_1 rfl rfl rfl h1).trans ?_
  refine (wp_ic (n' := 12) rfl (zcode_of mc_106 (r := (.iconst 0, 0, 0, 0)) rfl) ci_0).trans ?_
  refine (wc_putI (n' := 15) rfl (zcode_of mc_106 (r := (.putfield 65, 2, 1, 0)) rfl) rfl (zIs_of (cs_T hC le_11_1 h1))).trans ?_
  refine (wp_s (n := 16) (zcode_of mc_106 (r := (.aload_n 0, 0, 0, 0)) rfl) rfl rfl).trans ?_
  refine (wc_getR (σ := sfi σ 2 1 (a0 + 11) 0) (n' := 19) (d := 13) rfl (zcode_of mc_106 (r := (.getfield 26, 11, 2, 0)) rfl) rfl (cs_sfi hC) le_11_2 rfl rfl rfl h1).trans ?_
  refine (wc_getR (σ := sfi σ 2 1 (a0 + 11) 0) (n' := 22) (d := 1) rfl (zcode_of mc_106 (r := (.getfield 294, 4, 0, 0)) rfl) rfl (cs_sfi hC) le_4_0 rfl rfl rfl (zIs_of (cs_T (cs_sfi hC) le_11_2 h1))).trans ?_
  exact wp_call (q := ([.ref ((a0 + 13) + 1)], [])) (zcode_of mc_106 (r := (.invokevirtual 297, 196, 0, 0)) rfl) rfl (zCa_V (Nat.le_of_ble_eq_true rfl) rfl (zIs_of (cs_T (cs_sfi hC) le_4_0 (zIs_of (cs_T (cs_sfi hC) le_11_2 h1))))) ⟨Nat.le_of_ble_eq_true rfl, Nat.le_of_ble_eq_true rfl⟩
theorem b106_25 {σ : zSt} {P : Option Value → zSt → Prop} (hC : CShape σ) {a0 : Nat} :
    wp 106 25 [some (.ref a0)] [] σ P ↔ (zIs σ a0 11 ∧ wpM 7 [.ref (a0 + 15)] σ (fun r τ => wp 106 32 [some (.ref a0)] (r.toList ++ []) τ P)) := by
  refine (wp_s (n := 26) (zcode_of mc_106 (r := (.aload_n 0, 0, 0, 0)) rfl) rfl rfl).trans ?_
  refine (wc_is (zcode_of mc_106 (r := (.getfield 33, 11, 3, 0)) rfl)).trans (and_congr_right fun h1 => ?_)
  refine (wc_getR (n' := 29) (d := 15) rfl (zcode_of mc_106 (r := (.getfield 33, 11, 3, 0)) rfl) rfl hC le_11_3 rfl rfl rfl h1).trans ?_
  exact wp_call (q := ([.ref (a0 + 15)], [])) (zcode_of mc_106 (r := (.invokevirtual 300, 7, 0, 0)) rfl) rfl (zCa_V (Nat.le_of_ble_eq_true rfl) rfl (zIs_of (cs_T hC le_11_3 h1))) ⟨Nat.le_of_ble_eq_true rfl, Nat.le_of_ble_eq_true rfl⟩
theorem b106_32 {σ : zSt} {P : Option Value → zSt → Prop} (hC : CShape σ) {a0 : Nat} :
    wp 106 32 [some (.ref a0)] [] σ P ↔ (zIs σ a0 11 ∧ wpM 53 [.ref (a0 + 21)] σ (fun r τ => wp 106 39 [some (.ref a0)] (r.toList ++ []) τ P)) := by
  refine (wp_s (n := 33) (zcode_of mc_106 (r := (.aload_n 0, 0, 0, 0)) rfl) rfl rfl).trans ?_
  refine (wc_is (zcode_of mc_106 (r := (.getfield 47, 11, 5, 0)) rfl)).trans (and_congr_right fun h1 => ?_)
  refine (wc_getR (n' := 36) (d := 21) rfl (zcode_of mc_106 (r := (.getfield 47, 11, 5, 0)) rfl) rfl hC le_11_5 rfl rfl rfl h1).trans ?_
  exact wp_call (q := ([.ref (a0 + 21)], [])) (zcode_of mc_106 (r := (.invokevirtual 301, 53, 0, 0)) rfl) rfl (zCa_V (Nat.le_of_ble_eq_true rfl) rfl (zIs_of (cs_T hC le_11_5 h1))) ⟨Nat.le_of_ble_eq_true rfl, Nat.le_of_ble_eq_true rfl⟩
theorem b106_39 {σ : zSt} {P : Option Value → zSt → Prop} {a0 : Nat} :
    wp 106 39 [some (.ref a0)] [] σ P ↔ P (some (.int 1)) σ := by
  refine (wp_ic (n' := 40) rfl (zcode_of mc_106 (r := (.iconst 1, 0, 0, 0)) rfl) ci_1).trans ?_
  exact wp_retI (zcode_of mc_106 (r := (.ireturn, 0, 0, 0)) rfl) rfl
theorem mc_107 : mCode 107 = zc_107 := rfl
theorem b107 {σ : zSt} {P : Option Value → zSt → Prop} {x0 : Int32} :
    wpM 107 [.int x0] σ P ↔ (if x0 < 0 then wp 107 13 [some (.int x0)] [] σ P else wp 107 4 [some (.int x0)] [] σ P) := by
  show wp 107 0 [some (.int x0)] [] σ P ↔ _
  refine (wp_s (n := 1) (zcode_of mc_107 (r := (.iload_n 0, 0, 0, 0)) rfl) rfl rfl).trans ?_
  exact wp_jump (off := 12) (t := 13) (zcode_of mc_107 (r := (.ifCond .lt 12, 0, 0, 0)) rfl) rfl rfl (by decide)
theorem b107_4 {σ : zSt} {P : Option Value → zSt → Prop} {x0 : Int32} :
    wp 107 4 [some (.int x0)] [] σ P ↔ (if 2 ≤ x0 then wp 107 13 [some (.int x0)] [] σ P else wp 107 9 [some (.int x0)] [] σ P) := by
  refine (wp_s (n := 5) (zcode_of mc_107 (r := (.iload_n 0, 0, 0, 0)) rfl) rfl rfl).trans ?_
  refine (wp_ic (n' := 6) rfl (zcode_of mc_107 (r := (.iconst 2, 0, 0, 0)) rfl) ci_2).trans ?_
  exact wp_jump (off := 7) (t := 13) (zcode_of mc_107 (r := (.if_icmp .ge 7, 0, 0, 0)) rfl) rfl rfl (by decide)
theorem b107_9 {σ : zSt} {P : Option Value → zSt → Prop} {x0 : Int32} :
    wp 107 9 [some (.int x0)] [] σ P ↔ wp 107 14 [some (.int x0)] [.int 1] σ P := by
  refine (wp_ic (n' := 10) rfl (zcode_of mc_107 (r := (.iconst 1, 0, 0, 0)) rfl) ci_1).trans ?_
  exact wp_goto (off := 4) (t := 14) (zcode_of mc_107 (r := (.goto 4, 0, 0, 0)) rfl) (by decide)
theorem b107_13 {σ : zSt} {P : Option Value → zSt → Prop} {x0 : Int32} :
    wp 107 13 [some (.int x0)] [] σ P ↔ wp 107 14 [some (.int x0)] [.int 0] σ P := by
  refine (wp_ic (n' := 14) rfl (zcode_of mc_107 (r := (.iconst 0, 0, 0, 0)) rfl) ci_0).trans ?_
  exact Iff.rfl
theorem b107_14 {σ : zSt} {P : Option Value → zSt → Prop} {x0 s0 : Int32} :
    wp 107 14 [some (.int x0)] [.int s0] σ P ↔ (((s0 : Int32) = 0 ∨ (s0 : Int32) = 1) ∧ P (some (.int s0)) σ) := by
  exact wp_retZ (zcode_of mc_107 (r := (.ireturn, 0, 0, 0)) rfl) rfl
theorem mc_108 : mCode 108 = zc_108 := rfl
theorem b108 {σ : zSt} {P : Option Value → zSt → Prop} {x0 : Int32} :
    wpM 108 [.int x0] σ P ↔ (if x0 < 0 then wp 108 10 [some (.int x0)] [] σ P else wp 108 4 [some (.int x0)] [] σ P) := by
  show wp 108 0 [some (.int x0)] [] σ P ↔ _
  refine (wp_s (n := 1) (zcode_of mc_108 (r := (.iload_n 0, 0, 0, 0)) rfl) rfl rfl).trans ?_
  exact wp_jump (off := 9) (t := 10) (zcode_of mc_108 (r := (.ifCond .lt 9, 0, 0, 0)) rfl) rfl rfl (by decide)
theorem b108_4 {σ : zSt} {P : Option Value → zSt → Prop} {x0 : Int32} :
    wp 108 4 [some (.int x0)] [] σ P ↔ (if x0 < 40 then wp 108 14 [some (.int x0)] [] σ P else wp 108 10 [some (.int x0)] [] σ P) := by
  refine (wp_s (n := 5) (zcode_of mc_108 (r := (.iload_n 0, 0, 0, 0)) rfl) rfl rfl).trans ?_
  refine (wp_bp (n' := 7) rfl (zcode_of mc_108 (r := (.bipush 40, 0, 0, 0)) rfl) cb_40).trans ?_
  exact wp_jump (off := 7) (t := 14) (zcode_of mc_108 (r := (.if_icmp .lt 7, 0, 0, 0)) rfl) rfl rfl (by decide)
theorem b108_10 {σ : zSt} {P : Option Value → zSt → Prop} {x0 : Int32} :
    wp 108 10 [some (.int x0)] [] σ P ↔ wp 108 17 [some (.int x0)] [.long 0] σ P := by
  refine (wp_lc (n' := 11) rfl (zcode_of mc_108 (r := (.lconst 0, 0, 0, 0)) rfl) cc_0).trans ?_
  exact wp_goto (off := 6) (t := 17) (zcode_of mc_108 (r := (.goto 6, 0, 0, 0)) rfl) (by decide)
theorem b108_14 {σ : zSt} {P : Option Value → zSt → Prop} {x0 : Int32} :
    wp 108 14 [some (.int x0)] [] σ P ↔ wp 108 17 [some (.int x0)] [.long (1 <<< (Int32.toInt64 x0 &&& 63))] σ P := by
  refine (wp_lc (n' := 15) rfl (zcode_of mc_108 (r := (.lconst 1, 0, 0, 0)) rfl) cc_1).trans ?_
  refine (wp_s (n := 16) (zcode_of mc_108 (r := (.iload_n 0, 0, 0, 0)) rfl) rfl rfl).trans ?_
  refine (wp_s (n := 17) (zcode_of mc_108 (r := (.lshl, 0, 0, 0)) rfl) rfl rfl).trans ?_
  exact Iff.rfl
theorem b108_17 {σ : zSt} {P : Option Value → zSt → Prop} {x0 : Int32} {s0 : Int64} :
    wp 108 17 [some (.int x0)] [.long s0] σ P ↔ P (some (.long s0)) σ := by
  exact wp_retL (zcode_of mc_108 (r := (.lreturn, 0, 0, 0)) rfl) rfl
theorem mc_109 : mCode 109 = zc_109 := rfl
theorem b109 {σ : zSt} {P : Option Value → zSt → Prop} {a0 : Nat} {x1 x2 : Int32} :
    wpM 109 [.ref a0, .int x1, .int x2] σ P ↔ wpM 107 [.int x1] σ (fun r τ => wp 109 4 [some (.ref a0), some (.int x1), some (.int x2)] (r.toList ++ []) τ P) := by
  show wp 109 0 [some (.ref a0), some (.int x1), some (.int x2)] [] σ P ↔ _
  refine (wp_s (n := 1) (zcode_of mc_109 (r := (.iload_n 1, 0, 0, 0)) rfl) rfl rfl).trans ?_
  exact wp_call (q := ([.int x1], [])) (zcode_of mc_109 (r := (.invokestatic 118, 107, 1, 1)) rfl) rfl rfl ⟨Nat.le_of_ble_eq_true rfl, Nat.le_of_ble_eq_true rfl⟩
theorem b109_4 {σ : zSt} {P : Option Value → zSt → Prop} {a0 : Nat} {x1 x2 s0 : Int32} :
    wp 109 4 [some (.ref a0), some (.int x1), some (.int x2)] [.int s0] σ P ↔ (if s0 = 0 then wp 109 18 [some (.ref a0), some (.int x1), some (.int x2)] [] σ P else wp 109 7 [some (.ref a0), some (.int x1), some (.int x2)] [] σ P) := by
  exact wp_jump (off := 14) (t := 18) (zcode_of mc_109 (r := (.ifCond .eq 14, 0, 0, 0)) rfl) rfl rfl (by decide)
theorem b109_7 {σ : zSt} {P : Option Value → zSt → Prop} (hC : CShape σ) {a0 : Nat} {x1 x2 : Int32} :
    wp 109 7 [some (.ref a0), some (.int x1), some (.int x2)] [] σ P ↔ (zIs σ a0 11 ∧ wpM 76 [.ref (a0 + 1), .int x2] σ (fun r τ => wp 109 15 [some (.ref a0), some (.int x1), some (.int x2)] (r.toList ++ []) τ P)) := by
  refine (wp_s (n := 8) (zcode_of mc_109 (r := (.aload_n 0, 0, 0, 0)) rfl) rfl rfl).trans ?_
  refine (wc_is (zcode_of mc_109 (r := (.getfield 12, 11, 0, 0)) rfl)).trans (and_congr_right fun h1 => ?_)
  refine (wc_getR (n' := 11) (d := 1) rfl (zcode_of mc_109 (r := (.getfield 12, 11, 0, 0)) rfl) rfl hC le_11_0 rfl rfl rfl h1).trans ?_
  refine (wp_s (n := 12) (zcode_of mc_109 (r := (.iload_n 2, 0, 0, 0)) rfl) rfl rfl).trans ?_
  exact wp_call (q := ([.ref (a0 + 1), .int x2], [])) (zcode_of mc_109 (r := (.invokevirtual 69, 76, 0, 1)) rfl) rfl (zCa_V (Nat.le_of_ble_eq_true rfl) rfl (zIs_of (cs_T hC le_11_0 h1))) ⟨Nat.le_of_ble_eq_true rfl, Nat.le_of_ble_eq_true rfl⟩
theorem b109_15 {σ : zSt} {P : Option Value → zSt → Prop} {a0 : Nat} {x1 x2 s0 : Int32} :
    wp 109 15 [some (.ref a0), some (.int x1), some (.int x2)] [.int s0] σ P ↔ (if ¬ s0 = 0 then wp 109 21 [some (.ref a0), some (.int x1), some (.int x2)] [] σ P else wp 109 18 [some (.ref a0), some (.int x1), some (.int x2)] [] σ P) := by
  exact wp_jump (off := 6) (t := 21) (zcode_of mc_109 (r := (.ifCond .ne 6, 0, 0, 0)) rfl) rfl rfl (by decide)
theorem b109_18 {σ : zSt} {P : Option Value → zSt → Prop} {a0 : Nat} {x1 x2 : Int32} :
    wp 109 18 [some (.ref a0), some (.int x1), some (.int x2)] [] σ P ↔ P (some (.int (-2))) σ := by
  refine (wp_bp (n' := 20) rfl (zcode_of mc_109 (r := (.bipush (-2), 0, 0, 0)) rfl) cb_m2).trans ?_
  exact wp_retI (zcode_of mc_109 (r := (.ireturn, 0, 0, 0)) rfl) rfl
theorem b109_21 {σ : zSt} {P : Option Value → zSt → Prop} (hC : CShape σ) {a0 : Nat} {x1 x2 : Int32} :
    wp 109 21 [some (.ref a0), some (.int x1), some (.int x2)] [] σ P ↔ (zIs σ a0 11 ∧ wpM 77 [.ref (a0 + 1), .int x2] σ (fun r τ => wp 109 29 [some (.ref a0), some (.int x1), some (.int x2)] (r.toList ++ []) τ P)) := by
  refine (wp_s (n := 22) (zcode_of mc_109 (r := (.aload_n 0, 0, 0, 0)) rfl) rfl rfl).trans ?_
  refine (wc_is (zcode_of mc_109 (r := (.getfield 12, 11, 0, 0)) rfl)).trans (and_congr_right fun h1 => ?_)
  refine (wc_getR (n' := 25) (d := 1) rfl (zcode_of mc_109 (r := (.getfield 12, 11, 0, 0)) rfl) rfl hC le_11_0 rfl rfl rfl h1).trans ?_
  refine (wp_s (n := 26) (zcode_of mc_109 (r := (.iload_n 2, 0, 0, 0)) rfl) rfl rfl).trans ?_
  exact wp_call (q := ([.ref (a0 + 1), .int x2], [])) (zcode_of mc_109 (r := (.invokevirtual 73, 77, 0, 1)) rfl) rfl (zCa_V (Nat.le_of_ble_eq_true rfl) rfl (zIs_of (cs_T hC le_11_0 h1))) ⟨Nat.le_of_ble_eq_true rfl, Nat.le_of_ble_eq_true rfl⟩
theorem b109_29 {σ : zSt} {P : Option Value → zSt → Prop} {a0 s0 : Nat} {x1 x2 : Int32} :
    wp 109 29 [some (.ref a0), some (.int x1), some (.int x2)] [.ref s0] σ P ↔ (zIs σ s0 8 ∧ (if (zfi σ 8 3 s0) = 0 then wp 109 40 [some (.ref a0), some (.int x1), some (.int x2)] [] σ P else wp 109 35 [some (.ref a0), some (.int x1), some (.int x2)] [] σ P)) := by
  refine (wc_is (zcode_of mc_109 (r := (.getfield 77, 8, 3, 0)) rfl)).trans (and_congr_right fun h1 => ?_)
  refine (wc_getI (n' := 32) rfl (zcode_of mc_109 (r := (.getfield 77, 8, 3, 0)) rfl) rfl h1).trans ?_
  exact wp_jump (off := 8) (t := 40) (zcode_of mc_109 (r := (.ifCond .eq 8, 0, 0, 0)) rfl) rfl rfl (by decide)
theorem b109_35 {σ : zSt} {P : Option Value → zSt → Prop} {a0 : Nat} {x1 x2 : Int32} :
    wp 109 35 [some (.ref a0), some (.int x1), some (.int x2)] [] σ P ↔ wp 109 41 [some (.ref a0), some (.int x1), some (.int x2)] [.int (-3)] σ P := by
  refine (wp_bp (n' := 37) rfl (zcode_of mc_109 (r := (.bipush (-3), 0, 0, 0)) rfl) cb_m3).trans ?_
  exact wp_goto (off := 4) (t := 41) (zcode_of mc_109 (r := (.goto 4, 0, 0, 0)) rfl) (by decide)
theorem b109_40 {σ : zSt} {P : Option Value → zSt → Prop} {a0 : Nat} {x1 x2 : Int32} :
    wp 109 40 [some (.ref a0), some (.int x1), some (.int x2)] [] σ P ↔ wp 109 41 [some (.ref a0), some (.int x1), some (.int x2)] [.int 0] σ P := by
  refine (wp_ic (n' := 41) rfl (zcode_of mc_109 (r := (.iconst 0, 0, 0, 0)) rfl) ci_0).trans ?_
  exact Iff.rfl
theorem b109_41 {σ : zSt} {P : Option Value → zSt → Prop} {a0 : Nat} {x1 x2 s0 : Int32} :
    wp 109 41 [some (.ref a0), some (.int x1), some (.int x2)] [.int s0] σ P ↔ P (some (.int s0)) σ := by
  exact wp_retI (zcode_of mc_109 (r := (.ireturn, 0, 0, 0)) rfl) rfl
theorem mc_110 : mCode 110 = zc_110 := rfl
theorem b110 {σ : zSt} {P : Option Value → zSt → Prop} {a0 : Nat} {x1 x2 : Int32} :
    wpM 110 [.ref a0, .int x1, .int x2] σ P ↔ (zIs σ a0 11 ∧ wpM 109 [.ref a0, .int x1, .int x2] σ (fun r τ => wp 110 6 [some (.ref a0), some (.int x1), some (.int x2), none] (r.toList ++ []) τ P)) := by
  show wp 110 0 [some (.ref a0), some (.int x1), some (.int x2), none] [] σ P ↔ _
  refine (wp_s (n := 1) (zcode_of mc_110 (r := (.aload_n 0, 0, 0, 0)) rfl) rfl rfl).trans ?_
  refine (wp_s (n := 2) (zcode_of mc_110 (r := (.iload_n 1, 0, 0, 0)) rfl) rfl rfl).trans ?_
  refine (wp_s (n := 3) (zcode_of mc_110 (r := (.iload_n 2, 0, 0, 0)) rfl) rfl rfl).trans ?_
  refine (wc_isV (cl := 11) (rest := []) (zcode_of mc_110 (r := (.invokevirtual 124, 109, 0, 2)) rfl) rfl rfl rfl).trans (and_congr_right fun h1 => ?_)
  exact wp_call (q := ([.ref a0, .int x1, .int x2], [])) (zcode_of mc_110 (r := (.invokevirtual 124, 109, 0, 2)) rfl) rfl (zCa_V (Nat.le_of_ble_eq_true rfl) rfl h1) ⟨Nat.le_of_ble_eq_true rfl, Nat.le_of_ble_eq_true rfl⟩
theorem b110_6 {σ : zSt} {P : Option Value → zSt → Prop} {a0 : Nat} {x1 x2 s0 : Int32} {u3 : Option Value} :
    wp 110 6 [some (.ref a0), some (.int x1), some (.int x2), u3] [.int s0] σ P ↔ (if s0 = 0 then wp 110 13 [some (.ref a0), some (.int x1), some (.int x2), some (.int s0)] [] σ P else wp 110 11 [some (.ref a0), some (.int x1), some (.int x2), some (.int s0)] [] σ P) := by
  refine (wp_s (n := 7) (zcode_of mc_110 (r := (.istore_n 3, 0, 0, 0)) rfl) rfl rfl).trans ?_
  refine (wp_s (n := 8) (zcode_of mc_110 (r := (.iload_n 3, 0, 0, 0)) rfl) rfl rfl).trans ?_
  exact wp_jump (off := 5) (t := 13) (zcode_of mc_110 (r := (.ifCond .eq 5, 0, 0, 0)) rfl) rfl rfl (by decide)
theorem b110_11 {σ : zSt} {P : Option Value → zSt → Prop} {a0 : Nat} {x1 x2 x3 : Int32} :
    wp 110 11 [some (.ref a0), some (.int x1), some (.int x2), some (.int x3)] [] σ P ↔ P (some (.int x3)) σ := by
  refine (wp_s (n := 12) (zcode_of mc_110 (r := (.iload_n 3, 0, 0, 0)) rfl) rfl rfl).trans ?_
  exact wp_retI (zcode_of mc_110 (r := (.ireturn, 0, 0, 0)) rfl) rfl
theorem b110_13 {σ : zSt} {P : Option Value → zSt → Prop} (hC : CShape σ) {a0 : Nat} {x1 x2 x3 : Int32} :
    wp 110 13 [some (.ref a0), some (.int x1), some (.int x2), some (.int x3)] [] σ P ↔ (zIs σ a0 11 ∧ wpM 77 [.ref (a0 + 1), .int x2] σ (fun r τ => wp 110 21 [some (.ref a0), some (.int x1), some (.int x2), some (.int x3)] (r.toList ++ []) τ P)) := by
  refine (wp_s (n := 14) (zcode_of mc_110 (r := (.aload_n 0, 0, 0, 0)) rfl) rfl rfl).trans ?_
  refine (wc_is (zcode_of mc_110 (r := (.getfield 12, 11, 0, 0)) rfl)).trans (and_congr_right fun h1 => ?_)
  refine (wc_getR (n' := 17) (d := 1) rfl (zcode_of mc_110 (r := (.getfield 12, 11, 0, 0)) rfl) rfl hC le_11_0 rfl rfl rfl h1).trans ?_
  refine (wp_s (n := 18) (zcode_of mc_110 (r := (.iload_n 2, 0, 0, 0)) rfl) rfl rfl).trans ?_
  exact wp_call (q := ([.ref (a0 + 1), .int x2], [])) (zcode_of mc_110 (r := (.invokevirtual 73, 77, 0, 1)) rfl) rfl (zCa_V (Nat.le_of_ble_eq_true rfl) rfl (zIs_of (cs_T hC le_11_0 h1))) ⟨Nat.le_of_ble_eq_true rfl, Nat.le_of_ble_eq_true rfl⟩
theorem b110_21 {σ : zSt} {P : Option Value → zSt → Prop} {a0 s0 : Nat} {x1 x2 x3 : Int32} :
    wp 110 21 [some (.ref a0), some (.int x1), some (.int x2), some (.int x3)] [.ref s0] σ P ↔ (zIs σ s0 8 ∧ (if (zfi σ 8 6 s0) = (-1) then wp 110 33 [some (.ref a0), some (.int x1), some (.int x2), some (.int x3)] [] σ P else wp 110 28 [some (.ref a0), some (.int x1), some (.int x2), some (.int x3)] [] σ P)) := by
  refine (wc_is (zcode_of mc_110 (r := (.getfield 100, 8, 6, 0)) rfl)).trans (and_congr_right fun h1 => ?_)
  refine (wc_getI (n' := 24) rfl (zcode_of mc_110 (r := (.getfield 100, 8, 6, 0)) rfl) rfl h1).trans ?_
  refine (wp_ic (n' := 25) rfl (zcode_of mc_110 (r := (.iconst (-1), 0, 0, 0)) rfl) ci_m1).trans ?_
  exact wp_jump (off := 8) (t := 33) (zcode_of mc_110 (r := (.if_icmp .eq 8, 0, 0, 0)) rfl) rfl rfl (by decide)
theorem b110_28 {σ : zSt} {P : Option Value → zSt → Prop} {a0 : Nat} {x1 x2 x3 : Int32} :
    wp 110 28 [some (.ref a0), some (.int x1), some (.int x2), some (.int x3)] [] σ P ↔ wp 110 34 [some (.ref a0), some (.int x1), some (.int x2), some (.int x3)] [.int (-3)] σ P := by
  refine (wp_bp (n' := 30) rfl (zcode_of mc_110 (r := (.bipush (-3), 0, 0, 0)) rfl) cb_m3).trans ?_
  exact wp_goto (off := 4) (t := 34) (zcode_of mc_110 (r := (.goto 4, 0, 0, 0)) rfl) (by decide)
theorem b110_33 {σ : zSt} {P : Option Value → zSt → Prop} {a0 : Nat} {x1 x2 x3 : Int32} :
    wp 110 33 [some (.ref a0), some (.int x1), some (.int x2), some (.int x3)] [] σ P ↔ wp 110 34 [some (.ref a0), some (.int x1), some (.int x2), some (.int x3)] [.int 0] σ P := by
  refine (wp_ic (n' := 34) rfl (zcode_of mc_110 (r := (.iconst 0, 0, 0, 0)) rfl) ci_0).trans ?_
  exact Iff.rfl
theorem b110_34 {σ : zSt} {P : Option Value → zSt → Prop} {a0 : Nat} {x1 x2 x3 s0 : Int32} :
    wp 110 34 [some (.ref a0), some (.int x1), some (.int x2), some (.int x3)] [.int s0] σ P ↔ P (some (.int s0)) σ := by
  exact wp_retI (zcode_of mc_110 (r := (.ireturn, 0, 0, 0)) rfl) rfl
theorem mc_111 : mCode 111 = zc_111 := rfl
theorem b111 {σ : zSt} {P : Option Value → zSt → Prop} (hC : CShape σ) {a0 : Nat} {x1 x2 : Int32} :
    wpM 111 [.ref a0, .int x1, .int x2] σ P ↔ (zIs σ a0 11 ∧ wpM 33 [.ref (a0 + 13), .int x2] σ (fun r τ => wp 111 8 [some (.ref a0), some (.int x1), some (.int x2), none, none, none, none, none] (r.toList ++ []) τ P)) := by
  show wp 111 0 [some (.ref a0), some (.int x1), some (.int x2), none, none, none, none, none] [] σ P ↔ _
  refine (wp_s (n := 1) (zcode_of mc_111 (r := (.aload_n 0, 0, 0, 0)) rfl) rfl rfl).trans ?_
  refine (wc_is (zcode_of mc_111 (r := (.getfield 26, 11, 2, 0)) rfl)).trans (and_congr_right fun h1 => ?_)
  refine (wc_getR (n' := 4) (d := 13) rfl (zcode_of mc_111 (r := (.getfield 26, 11, 2, 0)) rfl) rfl hC le_11_2 rfl rfl rfl h1).trans ?_
  refine (wp_s (n := 5) (zcode_of mc_111 (r := (.iload_n 2, 0, 0, 0)) rfl) rfl rfl).trans ?_
  exact wp_call (q := ([.ref (a0 + 13), .int x2], [])) (zcode_of mc_111 (r := (.invokevirtual 135, 33, 0, 1)) rfl) rfl (zCa_V (Nat.le_of_ble_eq_true rfl) rfl (zIs_of (cs_T hC le_11_2 h1))) ⟨Nat.le_of_ble_eq_true rfl, Nat.le_of_ble_eq_true rfl⟩
theorem b111_8 {σ : zSt} {P : Option Value → zSt → Prop} (hC : CShape σ) {a0 s0 : Nat} {x1 x2 : Int32} {u3 u4 u5 u6 u7 : Option Value} :
    wp 111 8 [some (.ref a0), some (.int x1), some (.int x2), u3, u4, u5, u6, u7] [.ref s0] σ P ↔ (zIs σ a0 11 ∧ wpM 42 [.ref (a0 + 27), .ref s0, .int x1] σ (fun r τ => wp 111 18 [some (.ref a0), some (.int x1), some (.int x2), some (.ref s0), u4, u5, u6, u7] (r.toList ++ []) τ P)) := by
  refine (wp_s (n := 9) (zcode_of mc_111 (r := (.astore_n 3, 0, 0, 0)) rfl) rfl rfl).trans ?_
  refine (wp_s (n := 10) (zcode_of mc_111 (r := (.aload_n 0, 0, 0, 0)) rfl) rfl rfl).trans ?_
  refine (wc_is (zcode_of mc_111 (r := (.getfield 54, 11, 6, 0)) rfl)).trans (and_congr_right fun h1 => ?_)
  refine (wc_getR (n' := 13) (d := 27) rfl (zcode_of mc_111 (r := (.getfield 54, 11, 6, 0)) rfl) rfl hC le_11_6 rfl rfl rfl h1).trans ?_
  refine (wp_s (n := 14) (zcode_of mc_111 (r := (.aload_n 3, 0, 0, 0)) rfl) rfl rfl).trans ?_
  refine (wp_s (n := 15) (zcode_of mc_111 (r := (.iload_n 1, 0, 0, 0)) rfl) rfl rfl).trans ?_
  exact wp_call (q := ([.ref (a0 + 27), .ref s0, .int x1], [])) (zcode_of mc_111 (r := (.invokevirtual 224, 42, 0, 2)) rfl) rfl (zCa_V (Nat.le_of_ble_eq_true rfl) rfl (zIs_of (cs_T hC le_11_6 h1))) ⟨Nat.le_of_ble_eq_true rfl, Nat.le_of_ble_eq_true rfl⟩
theorem b111_18 {σ : zSt} {P : Option Value → zSt → Prop} (hC : CShape σ) {a0 a3 : Nat} {x1 x2 : Int32} {u4 u5 u6 u7 : Option Value} :
    wp 111 18 [some (.ref a0), some (.int x1), some (.int x2), some (.ref a3), u4, u5, u6, u7] [] σ P ↔ (zIs σ a0 11 ∧ (zIs σ a3 0 ∧ (zIn x1 2 ∧ wpM 51 [.ref (a0 + 27), .ref ((a3 + 5) + 1 + 3 * Int32.toNatClampNeg x1)] σ (fun r τ => wp 111 31 [some (.ref a0), some (.int x1), some (.int x2), some (.ref a3), u4, u5, u6, u7] (r.toList ++ []) τ P)))) := by
  refine (wp_s (n := 19) (zcode_of mc_111 (r := (.aload_n 0, 0, 0, 0)) rfl) rfl rfl).trans ?_
  refine (wc_is (zcode_of mc_111 (r := (.getfield 54, 11, 6, 0)) rfl)).trans (and_congr_right fun h1 => ?_)
  refine (wc_getR (n' := 22) (d := 27) rfl (zcode_of mc_111 (r := (.getfield 54, 11, 6, 0)) rfl) rfl hC le_11_6 rfl rfl rfl h1).trans ?_
  refine (wp_s (n := 23) (zcode_of mc_111 (r := (.aload_n 3, 0, 0, 0)) rfl) rfl rfl).trans ?_
  refine (wc_is (zcode_of mc_111 (r := (.getfield 228, 0, 4, 0)) rfl)).trans (and_congr_right fun h2 => ?_)
  refine (wc_getR (n' := 26) (d := 5) rfl (zcode_of mc_111 (r := (.getfield 228, 0, 4, 0)) rfl) rfl hC le_0_4 rfl rfl rfl h2).trans ?_
  refine (wp_s (n := 27) (zcode_of mc_111 (r := (.iload_n 1, 0, 0, 0)) rfl) rfl rfl).trans ?_
  refine (wc_ald (n' := 28) rfl (zcode_of mc_111 (r := (.aaload, 0, 0, 0)) rfl) hC la_8 rfl rfl rfl rfl rfl (cs_T hC le_0_4 h2)).trans (and_congr_right fun h3 => ?_)
  exact wp_call (q := ([.ref (a0 + 27), .ref ((a3 + 5) + 1 + 3 * Int32.toNatClampNeg x1)], [])) (zcode_of mc_111 (r := (.invokevirtual 232, 51, 0, 1)) rfl) rfl (zCa_V (Nat.le_of_ble_eq_true rfl) rfl (zIs_of (cs_T hC le_11_6 h1))) ⟨Nat.le_of_ble_eq_true rfl, Nat.le_of_ble_eq_true rfl⟩
theorem b111_31 {σ : zSt} {P : Option Value → zSt → Prop} (hC : CShape σ) {a0 a3 : Nat} {x1 x2 s0 : Int32} {u4 u5 u6 u7 : Option Value} :
    wp 111 31 [some (.ref a0), some (.int x1), some (.int x2), some (.ref a3), u4, u5, u6, u7] [.int s0] σ P ↔ (zIs σ a0 11 ∧ wpM 8 [.ref (a0 + 15), .ref (a0 + 27)] σ (fun r τ => wp 111 44 [some (.ref a0), some (.int x1), some (.int x2), some (.ref a3), some (.int s0), u5, u6, u7] (r.toList ++ []) τ P)) := by
  refine (wp_s (n := 33) (zcode_of mc_111 (r := (.istore 4, 0, 0, 0)) rfl) rfl rfl).trans ?_
  refine (wp_s (n := 34) (zcode_of mc_111 (r := (.aload_n 0, 0, 0, 0)) rfl) rfl rfl).trans ?_
  refine (wc_is (zcode_of mc_111 (r := (.getfield 33, 11, 3, 0)) rfl)).trans (and_congr_right fun h1 => ?_)
  refine (wc_getR (n' := 37) (d := 15) rfl (zcode_of mc_111 (r := (.getfield 33, 11, 3, 0)) rfl) rfl hC le_11_3 rfl rfl rfl h1).trans ?_
  refine (wp_s (n := 38) (zcode_of mc_111 (r := (.aload_n 0, 0, 0, 0)) rfl) rfl rfl).trans ?_
  refine (wc_getR (n' := 41) (d := 27) rfl (zcode_of mc_111 (r := (.getfield 54, 11, 6, 0)) rfl) rfl hC le_11_6 rfl rfl rfl h1).trans ?_
  exact wp_call (q := ([.ref (a0 + 15), .ref (a0 + 27)], [])) (zcode_of mc_111 (r := (.invokevirtual 302, 8, 0, 1)) rfl) rfl (zCa_V (Nat.le_of_ble_eq_true rfl) rfl (zIs_of (cs_T hC le_11_3 h1))) ⟨Nat.le_of_ble_eq_true rfl, Nat.le_of_ble_eq_true rfl⟩
theorem b111_44 {σ : zSt} {P : Option Value → zSt → Prop} {a0 a3 : Nat} {x1 x2 x4 s0 : Int32} {u5 u6 u7 : Option Value} :
    wp 111 44 [some (.ref a0), some (.int x1), some (.int x2), some (.ref a3), some (.int x4), u5, u6, u7] [.int s0] σ P ↔ (if ¬ s0 = (-1) then wp 111 56 [some (.ref a0), some (.int x1), some (.int x2), some (.ref a3), some (.int x4), some (.int s0), u6, u7] [] σ P else wp 111 52 [some (.ref a0), some (.int x1), some (.int x2), some (.ref a3), some (.int x4), some (.int s0), u6, u7] [] σ P) := by
  refine (wp_s (n := 46) (zcode_of mc_111 (r := (.istore 5, 0, 0, 0)) rfl) rfl rfl).trans ?_
  refine (wp_s (n := 48) (zcode_of mc_111 (r := (.iload 5, 0, 0, 0)) rfl) rfl rfl).trans ?_
  refine (wp_ic (n' := 49) rfl (zcode_of mc_111 (r := (.iconst (-1), 0, 0, 0)) rfl) ci_m1).trans ?_
  exact wp_jump (off := 7) (t := 56) (zcode_of mc_111 (r := (.if_icmp .ne 7, 0, 0, 0)) rfl) rfl rfl (by decide)
theorem b111_52 {σ : zSt} {P : Option Value → zSt → Prop} {a0 a3 : Nat} {x1 x2 x4 x5 : Int32} {u6 u7 : Option Value} :
    wp 111 52 [some (.ref a0), some (.int x1), some (.int x2), some (.ref a3), some (.int x4), some (.int x5), u6, u7] [] σ P ↔ wp 111 57 [some (.ref a0), some (.int x1), some (.int x2), some (.ref a3), some (.int x4), some (.int x5), u6, u7] [.int 1] σ P := by
  refine (wp_ic (n' := 53) rfl (zcode_of mc_111 (r := (.iconst 1, 0, 0, 0)) rfl) ci_1).trans ?_
  exact wp_goto (off := 4) (t := 57) (zcode_of mc_111 (r := (.goto 4, 0, 0, 0)) rfl) (by decide)
theorem b111_56 {σ : zSt} {P : Option Value → zSt → Prop} {a0 a3 : Nat} {x1 x2 x4 x5 : Int32} {u6 u7 : Option Value} :
    wp 111 56 [some (.ref a0), some (.int x1), some (.int x2), some (.ref a3), some (.int x4), some (.int x5), u6, u7] [] σ P ↔ wp 111 57 [some (.ref a0), some (.int x1), some (.int x2), some (.ref a3), some (.int x4), some (.int x5), u6, u7] [.int 0] σ P := by
  refine (wp_ic (n' := 57) rfl (zcode_of mc_111 (r := (.iconst 0, 0, 0, 0)) rfl) ci_0).trans ?_
  exact Iff.rfl
theorem b111_57 {σ : zSt} {P : Option Value → zSt → Prop} {a0 a3 : Nat} {x1 x2 x4 x5 s0 : Int32} {u6 u7 : Option Value} :
    wp 111 57 [some (.ref a0), some (.int x1), some (.int x2), some (.ref a3), some (.int x4), some (.int x5), u6, u7] [.int s0] σ P ↔ (if s0 = 0 then wp 111 78 [some (.ref a0), some (.int x1), some (.int x2), some (.ref a3), some (.int x4), some (.int x5), some (.int s0), u7] [] σ P else wp 111 64 [some (.ref a0), some (.int x1), some (.int x2), some (.ref a3), some (.int x4), some (.int x5), some (.int s0), u7] [] σ P) := by
  refine (wp_s (n := 59) (zcode_of mc_111 (r := (.istore 6, 0, 0, 0)) rfl) rfl rfl).trans ?_
  refine (wp_s (n := 61) (zcode_of mc_111 (r := (.iload 6, 0, 0, 0)) rfl) rfl rfl).trans ?_
  exact wp_jump (off := 17) (t := 78) (zcode_of mc_111 (r := (.ifCond .eq 17, 0, 0, 0)) rfl) rfl rfl (by decide)
theorem b111_64 {σ : zSt} {P : Option Value → zSt → Prop} (hC : CShape σ) {a0 a3 : Nat} {x1 x2 x4 x5 x6 : Int32} {u7 : Option Value} :
    wp 111 64 [some (.ref a0), some (.int x1), some (.int x2), some (.ref a3), some (.int x4), some (.int x5), some (.int x6), u7] [] σ P ↔ (zIs σ a0 11 ∧ wpM 10 [.ref (a0 + 15), .ref (a0 + 27)] σ (fun r τ => wp 111 75 [some (.ref a0), some (.int x1), some (.int x2), some (.ref a3), some (.int x4), some (.int x5), some (.int x6), u7] (r.toList ++ []) τ P)) := by
  refine (wp_s (n := 65) (zcode_of mc_111 (r := (.aload_n 0, 0, 0, 0)) rfl) rfl rfl).trans ?_
  refine (wc_is (zcode_of mc_111 (r := (.getfield 33, 11, 3, 0)) rfl)).trans (and_congr_right fun h1 => ?_)
  refine (wc_getR (n' := 68) (d := 15) rfl (zcode_of mc_111 (r := (.getfield 33, 11, 3, 0)) rfl) rfl hC le_11_3 rfl rfl rfl h1).trans ?_
  refine (wp_s (n := 69) (zcode_of mc_111 (r := (.aload_n 0, 0, 0, 0)) rfl) rfl rfl).trans ?_
  refine (wc_getR (n' := 72) (d := 27) rfl (zcode_of mc_111 (r := (.getfield 54, 11, 6, 0)) rfl) rfl hC le_11_6 rfl rfl rfl h1).trans ?_
  exact wp_call (q := ([.ref (a0 + 15), .ref (a0 + 27)], [])) (zcode_of mc_111 (r := (.invokevirtual 305, 10, 0, 1)) rfl) rfl (zCa_V (Nat.le_of_ble_eq_true rfl) rfl (zIs_of (cs_T hC le_11_3 h1))) ⟨Nat.le_of_ble_eq_true rfl, Nat.le_of_ble_eq_true rfl⟩
theorem b111_75 {σ : zSt} {P : Option Value → zSt → Prop} {a0 a3 s0 : Nat} {x1 x2 x4 x5 x6 : Int32} {u7 : Option Value} :
    wp 111 75 [some (.ref a0), some (.int x1), some (.int x2), some (.ref a3), some (.int x4), some (.int x5), some (.int x6), u7] [.ref s0] σ P ↔ wp 111 87 [some (.ref a0), some (.int x1), some (.int x2), some (.ref a3), some (.int x4), some (.int x5), some (.int x6), u7] [.ref s0] σ P := by
  exact wp_goto (off := 12) (t := 87) (zcode_of mc_111 (r := (.goto 12, 0, 0, 0)) rfl) (by decide)
theorem b111_78 {σ : zSt} {P : Option Value → zSt → Prop} (hC : CShape σ) {a0 a3 : Nat} {x1 x2 x4 x5 x6 : Int32} {u7 : Option Value} :
    wp 111 78 [some (.ref a0), some (.int x1), some (.int x2), some (.ref a3), some (.int x4), some (.int x5), some (.int x6), u7] [] σ P ↔ (zIs σ a0 11 ∧ wpM 9 [.ref (a0 + 15), .int x5] σ (fun r τ => wp 111 87 [some (.ref a0), some (.int x1), some (.int x2), some (.ref a3), some (.int x4), some (.int x5), some (.int x6), u7] (r.toList ++ []) τ P)) := by
  refine (wp_s (n := 79) (zcode_of mc_111 (r := (.aload_n 0, 0, 0, 0)) rfl) rfl rfl).trans ?_
  refine (wc_is (zcode_of mc_111 (r := (.getfield 33, 11, 3, 0)) rfl)).trans (and_congr_right fun h1 => ?_)
  refine (wc_getR (n' := 82) (d := 15) rfl (zcode_of mc_111 (r := (.getfield 33, 11, 3, 0)) rfl) rfl hC le_11_3 rfl rfl rfl h1).trans ?_
  refine (wp_s (n := 84) (zcode_of mc_111 (r := (.iload 5, 0, 0, 0)) rfl) rfl rfl).trans ?_
  exact wp_call (q := ([.ref (a0 + 15), .int x5], [])) (zcode_of mc_111 (r := (.invokevirtual 309, 9, 0, 1)) rfl) rfl (zCa_V (Nat.le_of_ble_eq_true rfl) rfl (zIs_of (cs_T hC le_11_3 h1))) ⟨Nat.le_of_ble_eq_true rfl, Nat.le_of_ble_eq_true rfl⟩
theorem b111_87 {σ : zSt} {P : Option Value → zSt → Prop} {a0 a3 s0 : Nat} {x1 x2 x4 x5 x6 : Int32} {u7 : Option Value} :
    wp 111 87 [some (.ref a0), some (.int x1), some (.int x2), some (.ref a3), some (.int x4), some (.int x5), some (.int x6), u7] [.ref s0] σ P ↔ (if x6 = 0 then wp 111 108 [some (.ref a0), some (.int x1), some (.int x2), some (.ref a3), some (.int x4), some (.int x5), some (.int x6), some (.ref s0)] [] σ P else wp 111 94 [some (.ref a0), some (.int x1), some (.int x2), some (.ref a3), some (.int x4), some (.int x5), some (.int x6), some (.ref s0)] [] σ P) := by
  refine (wp_s (n := 89) (zcode_of mc_111 (r := (.astore 7, 0, 0, 0)) rfl) rfl rfl).trans ?_
  refine (wp_s (n := 91) (zcode_of mc_111 (r := (.iload 6, 0, 0, 0)) rfl) rfl rfl).trans ?_
  exact wp_jump (off := 17) (t := 108) (zcode_of mc_111 (r := (.ifCond .eq 17, 0, 0, 0)) rfl) rfl rfl (by decide)
theorem b111_94 {σ : zSt} {P : Option Value → zSt → Prop} (hC : CShape σ) {a0 a3 a7 : Nat} {x1 x2 x4 x5 x6 : Int32} :
    wp 111 94 [some (.ref a0), some (.int x1), some (.int x2), some (.ref a3), some (.int x4), some (.int x5), some (.int x6), some (.ref a7)] [] σ P ↔ (zIs σ a0 11 ∧ (zIs σ a7 3 ∧ wpM 66 [.ref (a0 + 18), .ref a3, .int x1, .ref (a7 + 4)] σ (fun r τ => wp 111 108 [some (.ref a0), some (.int x1), some (.int x2), some (.ref a3), some (.int x4), some (.int x5), some (.int x6), some (.ref a7)] (r.toList ++ []) τ P))) := by
  refine (wp_s (n := 95) (zcode_of mc_111 (r := (.aload_n 0, 0, 0, 0)) rfl) rfl rfl).trans ?_
  refine (wc_is (zcode_of mc_111 (r := (.getfield 40, 11, 4, 0)) rfl)).trans (and_congr_right fun h1 => ?_)
  refine (wc_getR (n' := 98) (d := 18) rfl (zcode_of mc_111 (r := (.getfield 40, 11, 4, 0)) rfl) rfl hC le_11_4 rfl rfl rfl h1).trans ?_
  refine (wp_s (n := 99) (zcode_of mc_111 (r := (.aload_n 3, 0, 0, 0)) rfl) rfl rfl).trans ?_
  refine (wp_s (n := 100) (zcode_of mc_111 (r := (.iload_n 1, 0, 0, 0)) rfl) rfl rfl).trans ?_
  refine (wp_s (n := 102) (zcode_of mc_111 (r := (.aload 7, 0, 0, 0)) rfl) rfl rfl).trans ?_
  refine (wc_is (zcode_of mc_111 (r := (.getfield 266, 3, 1, 0)) rfl)).trans (and_congr_right fun h2 => ?_)
  refine (wc_getR (n' := 105) (d := 4) rfl (zcode_of mc_111 (r := (.getfield 266, 3, 1, 0)) rfl) rfl hC le_3_1 rfl rfl rfl h2).trans ?_
  exact wp_call (q := ([.ref (a0 + 18), .ref a3, .int x1, .ref (a7 + 4)], [])) (zcode_of mc_111 (r := (.invokevirtual 239, 66, 0, 3)) rfl) rfl (zCa_V (Nat.le_of_ble_eq_true rfl) rfl (zIs_of (cs_T hC le_11_4 h1))) ⟨Nat.le_of_ble_eq_true rfl, Nat.le_of_ble_eq_true rfl⟩
theorem b111_108 {σ : zSt} {P : Option Value → zSt → Prop} (hC : CShape σ) {a0 a3 a7 : Nat} {x1 x2 x4 x5 x6 : Int32} :
    wp 111 108 [some (.ref a0), some (.int x1), some (.int x2), some (.ref a3), some (.int x4), some (.int x5), some (.int x6), some (.ref a7)] [] σ P ↔ (zIs σ a7 3 ∧ (zIs σ a3 0 ∧ wpM 4 [.ref a3, .ref (a7 + 4), .int x1] σ (fun r τ => wp 111 118 [some (.ref a0), some (.int x1), some (.int x2), some (.ref a3), some (.int x4), some (.int x5), some (.int x6), some (.ref a7)] (r.toList ++ []) τ P))) := by
  refine (wp_s (n := 109) (zcode_of mc_111 (r := (.aload_n 3, 0, 0, 0)) rfl) rfl rfl).trans ?_
  refine (wp_s (n := 111) (zcode_of mc_111 (r := (.aload 7, 0, 0, 0)) rfl) rfl rfl).trans ?_
  refine (wc_is (zcode_of mc_111 (r := (.getfield 266, 3, 1, 0)) rfl)).trans (and_congr_right fun h1 => ?_)
  refine (wc_getR (n' := 114) (d := 4) rfl (zcode_of mc_111 (r := (.getfield 266, 3, 1, 0)) rfl) rfl hC le_3_1 rfl rfl rfl h1).trans ?_
  refine (wp_s (n := 115) (zcode_of mc_111 (r := (.iload_n 1, 0, 0, 0)) rfl) rfl rfl).trans ?_
  refine (wc_isV (cl := 0) (rest := []) (zcode_of mc_111 (r := (.invokevirtual 313, 4, 0, 2)) rfl) rfl rfl rfl).trans (and_congr_right fun h2 => ?_)
  exact wp_call (q := ([.ref a3, .ref (a7 + 4), .int x1], [])) (zcode_of mc_111 (r := (.invokevirtual 313, 4, 0, 2)) rfl) rfl (zCa_V (Nat.le_of_ble_eq_true rfl) rfl h2) ⟨Nat.le_of_ble_eq_true rfl, Nat.le_of_ble_eq_true rfl⟩
theorem b111_118 {σ : zSt} {P : Option Value → zSt → Prop} (hC : CShape σ) {a0 a3 a7 : Nat} {x1 x2 x4 x5 x6 : Int32} :
    wp 111 118 [some (.ref a0), some (.int x1), some (.int x2), some (.ref a3), some (.int x4), some (.int x5), some (.int x6), some (.ref a7)] [] σ P ↔ (zIs σ a3 0 ∧ (zIn x1 2 ∧ (zIs σ a0 11 ∧ wpM 47 [.ref ((a3 + 5) + 1 + 3 * Int32.toNatClampNeg x1), .ref (a0 + 27)] σ (fun r τ => wp 111 131 [some (.ref a0), some (.int x1), some (.int x2), some (.ref a3), some (.int x4), some (.int x5), some (.int x6), some (.ref a7)] (r.toList ++ []) τ P)))) := by
  refine (wp_s (n := 119) (zcode_of mc_111 (r := (.aload_n 3, 0, 0, 0)) rfl) rfl rfl).trans ?_
  refine (wc_is (zcode_of mc_111 (r := (.getfield 228, 0, 4, 0)) rfl)).trans (and_congr_right fun h1 => ?_)
  refine (wc_getR (n' := 122) (d := 5) rfl (zcode_of mc_111 (r := (.getfield 228, 0, 4, 0)) rfl) rfl hC le_0_4 rfl rfl rfl h1).trans ?_
  refine (wp_s (n := 123) (zcode_of mc_111 (r := (.iload_n 1, 0, 0, 0)) rfl) rfl rfl).trans ?_
  refine (wc_ald (n' := 124) rfl (zcode_of mc_111 (r := (.aaload, 0, 0, 0)) rfl) hC la_8 rfl rfl rfl rfl rfl (cs_T hC le_0_4 h1)).trans (and_congr_right fun h2 => ?_)
  refine (wp_s (n := 125) (zcode_of mc_111 (r := (.aload_n 0, 0, 0, 0)) rfl) rfl rfl).trans ?_
  refine (wc_is (zcode_of mc_111 (r := (.getfield 54, 11, 6, 0)) rfl)).trans (and_congr_right fun h3 => ?_)
  refine (wc_getR (n' := 128) (d := 27) rfl (zcode_of mc_111 (r := (.getfield 54, 11, 6, 0)) rfl) rfl hC le_11_6 rfl rfl rfl h3).trans ?_
  exact wp_call (q := ([.ref ((a3 + 5) + 1 + 3 * Int32.toNatClampNeg x1), .ref (a0 + 27)], [])) (zcode_of mc_111 (r := (.invokevirtual 317, 47, 0, 1)) rfl) rfl (zCa_V (Nat.le_of_ble_eq_true rfl) rfl (zIs_of (cs_A hC la_8 (cs_T hC le_0_4 h1) h2))) ⟨Nat.le_of_ble_eq_true rfl, Nat.le_of_ble_eq_true rfl⟩
theorem b111_131 {σ : zSt} {P : Option Value → zSt → Prop} (hC : CShape σ) {a0 a3 a7 : Nat} {x1 x2 x4 x5 x6 : Int32} :
    wp 111 131 [some (.ref a0), some (.int x1), some (.int x2), some (.ref a3), some (.int x4), some (.int x5), some (.int x6), some (.ref a7)] [] σ P ↔ (zIs σ a0 11 ∧ (zIs σ a7 3 ∧ wpM 55 [.ref (a0 + 21), .int x2, .int x6, .int (zfi σ 7 2 (a7 + 4)), .int x4] σ (fun r τ => wp 111 151 [some (.ref a0), some (.int x1), some (.int x2), some (.ref a3), some (.int x4), some (.int x5), some (.int x6), some (.ref a7)] (r.toList ++ []) τ P))) := by
  refine (wp_s (n := 132) (zcode_of mc_111 (r := (.aload_n 0, 0, 0, 0)) rfl) rfl rfl).trans ?_
  refine (wc_is (zcode_of mc_111 (r := (.getfield 47, 11, 5, 0)) rfl)).trans (and_congr_right fun h1 => ?_)
  refine (wc_getR (n' := 135) (d := 21) rfl (zcode_of mc_111 (r := (.getfield 47, 11, 5, 0)) rfl) rfl hC le_11_5 rfl rfl rfl h1).trans ?_
  refine (wp_s (n := 136) (zcode_of mc_111 (r := (.iload_n 2, 0, 0, 0)) rfl) rfl rfl).trans ?_
  refine (wp_s (n := 138) (zcode_of mc_111 (r := (.iload 6, 0, 0, 0)) rfl) rfl rfl).trans ?_
  refine (wp_s (n := 140) (zcode_of mc_111 (r := (.aload 7, 0, 0, 0)) rfl) rfl rfl).trans ?_
  refine (wc_is (zcode_of mc_111 (r := (.getfield 266, 3, 1, 0)) rfl)).trans (and_congr_right fun h2 => ?_)
  refine (wc_getR (n' := 143) (d := 4) rfl (zcode_of mc_111 (r := (.getfield 266, 3, 1, 0)) rfl) rfl hC le_3_1 rfl rfl rfl h2).trans ?_
  refine (wc_getI (n' := 146) rfl (zcode_of mc_111 (r := (.getfield 270, 7, 2, 0)) rfl) rfl (zIs_of (cs_T hC le_3_1 h2))).trans ?_
  refine (wp_s (n := 148) (zcode_of mc_111 (r := (.iload 4, 0, 0, 0)) rfl) rfl rfl).trans ?_
  exact wp_call (q := ([.ref (a0 + 21), .int x2, .int x6, .int (zfi σ 7 2 (a7 + 4)), .int x4], [])) (zcode_of mc_111 (r := (.invokevirtual 320, 55, 0, 4)) rfl) rfl (zCa_V (Nat.le_of_ble_eq_true rfl) rfl (zIs_of (cs_T hC le_11_5 h1))) ⟨Nat.le_of_ble_eq_true rfl, Nat.le_of_ble_eq_true rfl⟩
theorem b111_151 {σ : zSt} {P : Option Value → zSt → Prop} {a0 a3 a7 : Nat} {x1 x2 x4 x5 x6 : Int32} :
    wp 111 151 [some (.ref a0), some (.int x1), some (.int x2), some (.ref a3), some (.int x4), some (.int x5), some (.int x6), some (.ref a7)] [] σ P ↔ (if x6 = 0 then wp 111 165 [some (.ref a0), some (.int x1), some (.int x2), some (.ref a3), some (.int x4), some (.int x5), some (.int x6), some (.ref a7)] [] σ P else wp 111 156 [some (.ref a0), some (.int x1), some (.int x2), some (.ref a3), some (.int x4), some (.int x5), some (.int x6), some (.ref a7)] [] σ P) := by
  refine (wp_s (n := 153) (zcode_of mc_111 (r := (.iload 6, 0, 0, 0)) rfl) rfl rfl).trans ?_
  exact wp_jump (off := 12) (t := 165) (zcode_of mc_111 (r := (.ifCond .eq 12, 0, 0, 0)) rfl) rfl rfl (by decide)
theorem b111_156 {σ : zSt} {P : Option Value → zSt → Prop} (hC : CShape σ) {a0 a3 a7 : Nat} {x1 x2 x4 x5 x6 : Int32} :
    wp 111 156 [some (.ref a0), some (.int x1), some (.int x2), some (.ref a3), some (.int x4), some (.int x5), some (.int x6), some (.ref a7)] [] σ P ↔ (zIs σ a0 11 ∧ wpM 11 [.ref (a0 + 15), .ref a7] σ (fun r τ => wp 111 165 [some (.ref a0), some (.int x1), some (.int x2), some (.ref a3), some (.int x4), some (.int x5), some (.int x6), some (.ref a7)] (r.toList ++ []) τ P)) := by
  refine (wp_s (n := 157) (zcode_of mc_111 (r := (.aload_n 0, 0, 0, 0)) rfl) rfl rfl).trans ?_
  refine (wc_is (zcode_of mc_111 (r := (.getfield 33, 11, 3, 0)) rfl)).trans (and_congr_right fun h1 => ?_)
  refine (wc_getR (n' := 160) (d := 15) rfl (zcode_of mc_111 (r := (.getfield 33, 11, 3, 0)) rfl) rfl hC le_11_3 rfl rfl rfl h1).trans ?_
  refine (wp_s (n := 162) (zcode_of mc_111 (r := (.aload 7, 0, 0, 0)) rfl) rfl rfl).trans ?_
  exact wp_call (q := ([.ref (a0 + 15), .ref a7], [])) (zcode_of mc_111 (r := (.invokevirtual 323, 11, 0, 1)) rfl) rfl (zCa_V (Nat.le_of_ble_eq_true rfl) rfl (zIs_of (cs_T hC le_11_3 h1))) ⟨Nat.le_of_ble_eq_true rfl, Nat.le_of_ble_eq_true rfl⟩
theorem b111_165 {σ : zSt} {P : Option Value → zSt → Prop} {a0 a3 a7 : Nat} {x1 x2 x4 x5 x6 : Int32} :
    wp 111 165 [some (.ref a0), some (.int x1), some (.int x2), some (.ref a3), some (.int x4), some (.int x5), some (.int x6), some (.ref a7)] [] σ P ↔ P none σ := by
  exact wp_retV (zcode_of mc_111 (r := (.return_, 0, 0, 0)) rfl) rfl
theorem mc_181 : mCode 181 = zc_181 := rfl
theorem b181 {σ : zSt} {P : Option Value → zSt → Prop} {x0 : Int64} :
    wpM 181 [.long x0] σ P ↔ P (some (.int ((Int64.toInt32 ((((((((x0 - ((((x0 : Int64).toUInt64 >>> ((Int32.toInt64 1).toUInt64 &&& Int64.toUInt64 63)).toInt64) &&& 6148914691236517205)) &&& 3689348814741910323) + (((((x0 - ((((x0 : Int64).toUInt64 >>> ((Int32.toInt64 1).toUInt64 &&& Int64.toUInt64 63)).toInt64) &&& 6148914691236517205)) : Int64).toUInt64 >>> ((Int32.toInt64 2).toUInt64 &&& Int64.toUInt64 63)).toInt64) &&& 3689348814741910323)) + ((((((x0 - ((((x0 : Int64).toUInt64 >>> ((Int32.toInt64 1).toUInt64 &&& Int64.toUInt64 63)).toInt64) &&& 6148914691236517205)) &&& 3689348814741910323) + (((((x0 - ((((x0 : Int64).toUInt64 >>> ((Int32.toInt64 1).toUInt64 &&& Int64.toUInt64 63)).toInt64) &&& 6148914691236517205)) : Int64).toUInt64 >>> ((Int32.toInt64 2).toUInt64 &&& Int64.toUInt64 63)).toInt64) &&& 3689348814741910323)) : Int64).toUInt64 >>> ((Int32.toInt64 4).toUInt64 &&& Int64.toUInt64 63)).toInt64)) &&& 1085102592571150095) + ((((((((x0 - ((((x0 : Int64).toUInt64 >>> ((Int32.toInt64 1).toUInt64 &&& Int64.toUInt64 63)).toInt64) &&& 6148914691236517205)) &&& 3689348814741910323) + (((((x0 - ((((x0 : Int64).toUInt64 >>> ((Int32.toInt64 1).toUInt64 &&& Int64.toUInt64 63)).toInt64) &&& 6148914691236517205)) : Int64).toUInt64 >>> ((Int32.toInt64 2).toUInt64 &&& Int64.toUInt64 63)).toInt64) &&& 3689348814741910323)) + ((((((x0 - ((((x0 : Int64).toUInt64 >>> ((Int32.toInt64 1).toUInt64 &&& Int64.toUInt64 63)).toInt64) &&& 6148914691236517205)) &&& 3689348814741910323) + (((((x0 - ((((x0 : Int64).toUInt64 >>> ((Int32.toInt64 1).toUInt64 &&& Int64.toUInt64 63)).toInt64) &&& 6148914691236517205)) : Int64).toUInt64 >>> ((Int32.toInt64 2).toUInt64 &&& Int64.toUInt64 63)).toInt64) &&& 3689348814741910323)) : Int64).toUInt64 >>> ((Int32.toInt64 4).toUInt64 &&& Int64.toUInt64 63)).toInt64)) &&& 1085102592571150095) : Int64).toUInt64 >>> ((Int32.toInt64 8).toUInt64 &&& Int64.toUInt64 63)).toInt64)) + (((((((((x0 - ((((x0 : Int64).toUInt64 >>> ((Int32.toInt64 1).toUInt64 &&& Int64.toUInt64 63)).toInt64) &&& 6148914691236517205)) &&& 3689348814741910323) + (((((x0 - ((((x0 : Int64).toUInt64 >>> ((Int32.toInt64 1).toUInt64 &&& Int64.toUInt64 63)).toInt64) &&& 6148914691236517205)) : Int64).toUInt64 >>> ((Int32.toInt64 2).toUInt64 &&& Int64.toUInt64 63)).toInt64) &&& 3689348814741910323)) + ((((((x0 - ((((x0 : Int64).toUInt64 >>> ((Int32.toInt64 1).toUInt64 &&& Int64.toUInt64 63)).toInt64) &&& 6148914691236517205)) &&& 3689348814741910323) + (((((x0 - ((((x0 : Int64).toUInt64 >>> ((Int32.toInt64 1).toUInt64 &&& Int64.toUInt64 63)).toInt64) &&& 6148914691236517205)) : Int64).toUInt64 >>> ((Int32.toInt64 2).toUInt64 &&& Int64.toUInt64 63)).toInt64) &&& 3689348814741910323)) : Int64).toUInt64 >>> ((Int32.toInt64 4).toUInt64 &&& Int64.toUInt64 63)).toInt64)) &&& 1085102592571150095) + ((((((((x0 - ((((x0 : Int64).toUInt64 >>> ((Int32.toInt64 1).toUInt64 &&& Int64.toUInt64 63)).toInt64) &&& 6148914691236517205)) &&& 3689348814741910323) + (((((x0 - ((((x0 : Int64).toUInt64 >>> ((Int32.toInt64 1).toUInt64 &&& Int64.toUInt64 63)).toInt64) &&& 6148914691236517205)) : Int64).toUInt64 >>> ((Int32.toInt64 2).toUInt64 &&& Int64.toUInt64 63)).toInt64) &&& 3689348814741910323)) + ((((((x0 - ((((x0 : Int64).toUInt64 >>> ((Int32.toInt64 1).toUInt64 &&& Int64.toUInt64 63)).toInt64) &&& 6148914691236517205)) &&& 3689348814741910323) + (((((x0 - ((((x0 : Int64).toUInt64 >>> ((Int32.toInt64 1).toUInt64 &&& Int64.toUInt64 63)).toInt64) &&& 6148914691236517205)) : Int64).toUInt64 >>> ((Int32.toInt64 2).toUInt64 &&& Int64.toUInt64 63)).toInt64) &&& 3689348814741910323)) : Int64).toUInt64 >>> ((Int32.toInt64 4).toUInt64 &&& Int64.toUInt64 63)).toInt64)) &&& 1085102592571150095) : Int64).toUInt64 >>> ((Int32.toInt64 8).toUInt64 &&& Int64.toUInt64 63)).toInt64)) : Int64).toUInt64 >>> ((Int32.toInt64 16).toUInt64 &&& Int64.toUInt64 63)).toInt64)) + ((((((((((x0 - ((((x0 : Int64).toUInt64 >>> ((Int32.toInt64 1).toUInt64 &&& Int64.toUInt64 63)).toInt64) &&& 6148914691236517205)) &&& 3689348814741910323) + (((((x0 - ((((x0 : Int64).toUInt64 >>> ((Int32.toInt64 1).toUInt64 &&& Int64.toUInt64 63)).toInt64) &&& 6148914691236517205)) : Int64).toUInt64 >>> ((Int32.toInt64 2).toUInt64 &&& Int64.toUInt64 63)).toInt64) &&& 3689348814741910323)) + ((((((x0 - ((((x0 : Int64).toUInt64 >>> ((Int32.toInt64 1).toUInt64 &&& Int64.toUInt64 63)).toInt64) &&& 6148914691236517205)) &&& 3689348814741910323) + (((((x0 - ((((x0 : Int64).toUInt64 >>> ((Int32.toInt64 1).toUInt64 &&& Int64.toUInt64 63)).toInt64) &&& 6148914691236517205)) : Int64).toUInt64 >>> ((Int32.toInt64 2).toUInt64 &&& Int64.toUInt64 63)).toInt64) &&& 3689348814741910323)) : Int64).toUInt64 >>> ((Int32.toInt64 4).toUInt64 &&& Int64.toUInt64 63)).toInt64)) &&& 1085102592571150095) + ((((((((x0 - ((((x0 : Int64).toUInt64 >>> ((Int32.toInt64 1).toUInt64 &&& Int64.toUInt64 63)).toInt64) &&& 6148914691236517205)) &&& 3689348814741910323) + (((((x0 - ((((x0 : Int64).toUInt64 >>> ((Int32.toInt64 1).toUInt64 &&& Int64.toUInt64 63)).toInt64) &&& 6148914691236517205)) : Int64).toUInt64 >>> ((Int32.toInt64 2).toUInt64 &&& Int64.toUInt64 63)).toInt64) &&& 3689348814741910323)) + ((((((x0 - ((((x0 : Int64).toUInt64 >>> ((Int32.toInt64 1).toUInt64 &&& Int64.toUInt64 63)).toInt64) &&& 6148914691236517205)) &&& 3689348814741910323) + (((((x0 - ((((x0 : Int64).toUInt64 >>> ((Int32.toInt64 1).toUInt64 &&& Int64.toUInt64 63)).toInt64) &&& 6148914691236517205)) : Int64).toUInt64 >>> ((Int32.toInt64 2).toUInt64 &&& Int64.toUInt64 63)).toInt64) &&& 3689348814741910323)) : Int64).toUInt64 >>> ((Int32.toInt64 4).toUInt64 &&& Int64.toUInt64 63)).toInt64)) &&& 1085102592571150095) : Int64).toUInt64 >>> ((Int32.toInt64 8).toUInt64 &&& Int64.toUInt64 63)).toInt64)) + (((((((((x0 - ((((x0 : Int64).toUInt64 >>> ((Int32.toInt64 1).toUInt64 &&& Int64.toUInt64 63)).toInt64) &&& 6148914691236517205)) &&& 3689348814741910323) + (((((x0 - ((((x0 : Int64).toUInt64 >>> ((Int32.toInt64 1).toUInt64 &&& Int64.toUInt64 63)).toInt64) &&& 6148914691236517205)) : Int64).toUInt64 >>> ((Int32.toInt64 2).toUInt64 &&& Int64.toUInt64 63)).toInt64) &&& 3689348814741910323)) + ((((((x0 - ((((x0 : Int64).toUInt64 >>> ((Int32.toInt64 1).toUInt64 &&& Int64.toUInt64 63)).toInt64) &&& 6148914691236517205)) &&& 3689348814741910323) + (((((x0 - ((((x0 : Int64).toUInt64 >>> ((Int32.toInt64 1).toUInt64 &&& Int64.toUInt64 63)).toInt64) &&& 6148914691236517205)) : Int64).toUInt64 >>> ((Int32.toInt64 2).toUInt64 &&& Int64.toUInt64 63)).toInt64) &&& 3689348814741910323)) : Int64).toUInt64 >>> ((Int32.toInt64 4).toUInt64 &&& Int64.toUInt64 63)).toInt64)) &&& 1085102592571150095) + ((((((((x0 - ((((x0 : Int64).toUInt64 >>> ((Int32.toInt64 1).toUInt64 &&& Int64.toUInt64 63)).toInt64) &&& 6148914691236517205)) &&& 3689348814741910323) + (((((x0 - ((((x0 : Int64).toUInt64 >>> ((Int32.toInt64 1).toUInt64 &&& Int64.toUInt64 63)).toInt64) &&& 6148914691236517205)) : Int64).toUInt64 >>> ((Int32.toInt64 2).toUInt64 &&& Int64.toUInt64 63)).toInt64) &&& 3689348814741910323)) + ((((((x0 - ((((x0 : Int64).toUInt64 >>> ((Int32.toInt64 1).toUInt64 &&& Int64.toUInt64 63)).toInt64) &&& 6148914691236517205)) &&& 3689348814741910323) + (((((x0 - ((((x0 : Int64).toUInt64 >>> ((Int32.toInt64 1).toUInt64 &&& Int64.toUInt64 63)).toInt64) &&& 6148914691236517205)) : Int64).toUInt64 >>> ((Int32.toInt64 2).toUInt64 &&& Int64.toUInt64 63)).toInt64) &&& 3689348814741910323)) : Int64).toUInt64 >>> ((Int32.toInt64 4).toUInt64 &&& Int64.toUInt64 63)).toInt64)) &&& 1085102592571150095) : Int64).toUInt64 >>> ((Int32.toInt64 8).toUInt64 &&& Int64.toUInt64 63)).toInt64)) : Int64).toUInt64 >>> ((Int32.toInt64 16).toUInt64 &&& Int64.toUInt64 63)).toInt64)) : Int64).toUInt64 >>> ((Int32.toInt64 32).toUInt64 &&& Int64.toUInt64 63)).toInt64))) &&& 127))) σ := by
  show wp 181 0 [some (.long x0), none] [] σ P ↔ _
  refine (wp_s (n := 1) (zcode_of mc_181 (r := (.lload_n 0, 0, 0, 0)) rfl) rfl rfl).trans ?_
  refine (wp_s (n := 2) (zcode_of mc_181 (r := (.lload_n 0, 0, 0, 0)) rfl) rfl rfl).trans ?_
  refine (wp_ic (n' := 3) rfl (zcode_of mc_181 (r := (.iconst 1, 0, 0, 0)) rfl) ci_1).trans ?_
  refine (wp_s (n := 4) (zcode_of mc_181 (r := (.lushr, 0, 0, 0)) rfl) rfl rfl).trans ?_
  refine (wp_ldc2 (n' := 7) rfl (zcode_of mc_181 (r := (.ldc2_w 314, 0, 0, 6148914691236517205)) rfl) cl_6148914691236517205).trans ?_
  refine (wp_s (n := 8) (zcode_of mc_181 (r := (.land, 0, 0, 0)) rfl) rfl rfl).trans ?_
  refine (wp_s (n := 9) (zcode_of mc_181 (r := (.lsub, 0, 0, 0)) rfl) rfl rfl).trans ?_
  refine (wp_s (n := 10) (zcode_of mc_181 (r := (.lstore_n 0, 0, 0, 0)) rfl) rfl rfl).trans ?_
  refine (wp_s (n := 11) (zcode_of mc_181 (r := (.lload_n 0, 0, 0, 0)) rfl) rfl rfl).trans ?_
  refine (wp_ldc2 (n' := 14) rfl (zcode_of mc_181 (r := (.ldc2_w 316, 0, 0, 3689348814741910323)) rfl) cl_3689348814741910323).trans ?_
  refine (wp_s (n := 15) (zcode_of mc_181 (r := (.land, 0, 0, 0)) rfl) rfl rfl).trans ?_
  refine (wp_s (n := 16) (zcode_of mc_181 (r := (.lload_n 0, 0, 0, 0)) rfl) rfl rfl).trans ?_
  refine (wp_ic (n' := 17) rfl (zcode_of mc_181 (r := (.iconst 2, 0, 0, 0)) rfl) ci_2).trans ?_
  refine (wp_s (n := 18) (zcode_of mc_181 (r := (.lushr, 0, 0, 0)) rfl) rfl rfl).trans ?_
  refine (wp_ldc2 (n' := 21) rfl (zcode_of mc_181 (r := (.ldc2_w 316, 0, 0, 3689348814741910323)) rfl) cl_3689348814741910323).trans ?_
  refine (wp_s (n := 22) (zcode_of mc_181 (r := (.land, 0, 0, 0)) rfl) rfl rfl).trans ?_
  refine (wp_s (n := 23) (zcode_of mc_181 (r := (.ladd, 0, 0, 0)) rfl) rfl rfl).trans ?_
  refine (wp_s (n := 24) (zcode_of mc_181 (r := (.lstore_n 0, 0, 0, 0)) rfl) rfl rfl).trans ?_
  refine (wp_s (n := 25) (zcode_of mc_181 (r := (.lload_n 0, 0, 0, 0)) rfl) rfl rfl).trans ?_
  refine (wp_s (n := 26) (zcode_of mc_181 (r := (.lload_n 0, 0, 0, 0)) rfl) rfl rfl).trans ?_
  refine (wp_ic (n' := 27) rfl (zcode_of mc_181 (r := (.iconst 4, 0, 0, 0)) rfl) ci_4).trans ?_
  refine (wp_s (n := 28) (zcode_of mc_181 (r := (.lushr, 0, 0, 0)) rfl) rfl rfl).trans ?_
  refine (wp_s (n := 29) (zcode_of mc_181 (r := (.ladd, 0, 0, 0)) rfl) rfl rfl).trans ?_
  refine (wp_ldc2 (n' := 32) rfl (zcode_of mc_181 (r := (.ldc2_w 318, 0, 0, 1085102592571150095)) rfl) cl_1085102592571150095).trans ?_
  refine (wp_s (n := 33) (zcode_of mc_181 (r := (.land, 0, 0, 0)) rfl) rfl rfl).trans ?_
  refine (wp_s (n := 34) (zcode_of mc_181 (r := (.lstore_n 0, 0, 0, 0)) rfl) rfl rfl).trans ?_
  refine (wp_s (n := 35) (zcode_of mc_181 (r := (.lload_n 0, 0, 0, 0)) rfl) rfl rfl).trans ?_
  refine (wp_s (n := 36) (zcode_of mc_181 (r := (.lload_n 0, 0, 0, 0)) rfl) rfl rfl).trans ?_
  refine (wp_bp (n' := 38) rfl (zcode_of mc_181 (r := (.bipush 8, 0, 0, 0)) rfl) cb_8).trans ?_
  refine (wp_s (n := 39) (zcode_of mc_181 (r := (.lushr, 0, 0, 0)) rfl) rfl rfl).trans ?_
  refine (wp_s (n := 40) (zcode_of mc_181 (r := (.ladd, 0, 0, 0)) rfl) rfl rfl).trans ?_
  refine (wp_s (n := 41) (zcode_of mc_181 (r := (.lstore_n 0, 0, 0, 0)) rfl) rfl rfl).trans ?_
  refine (wp_s (n := 42) (zcode_of mc_181 (r := (.lload_n 0, 0, 0, 0)) rfl) rfl rfl).trans ?_
  refine (wp_s (n := 43) (zcode_of mc_181 (r := (.lload_n 0, 0, 0, 0)) rfl) rfl rfl).trans ?_
  refine (wp_bp (n' := 45) rfl (zcode_of mc_181 (r := (.bipush 16, 0, 0, 0)) rfl) cb_16).trans ?_
  refine (wp_s (n := 46) (zcode_of mc_181 (r := (.lushr, 0, 0, 0)) rfl) rfl rfl).trans ?_
  refine (wp_s (n := 47) (zcode_of mc_181 (r := (.ladd, 0, 0, 0)) rfl) rfl rfl).trans ?_
  refine (wp_s (n := 48) (zcode_of mc_181 (r := (.lstore_n 0, 0, 0, 0)) rfl) rfl rfl).trans ?_
  refine (wp_s (n := 49) (zcode_of mc_181 (r := (.lload_n 0, 0, 0, 0)) rfl) rfl rfl).trans ?_
  refine (wp_s (n := 50) (zcode_of mc_181 (r := (.lload_n 0, 0, 0, 0)) rfl) rfl rfl).trans ?_
  refine (wp_bp (n' := 52) rfl (zcode_of mc_181 (r := (.bipush 32, 0, 0, 0)) rfl) cb_32).trans ?_
  refine (wp_s (n := 53) (zcode_of mc_181 (r := (.lushr, 0, 0, 0)) rfl) rfl rfl).trans ?_
  refine (wp_s (n := 54) (zcode_of mc_181 (r := (.ladd, 0, 0, 0)) rfl) rfl rfl).trans ?_
  refine (wp_s (n := 55) (zcode_of mc_181 (r := (.lstore_n 0, 0, 0, 0)) rfl) rfl rfl).trans ?_
  refine (wp_s (n := 56) (zcode_of mc_181 (r := (.lload_n 0, 0, 0, 0)) rfl) rfl rfl).trans ?_
  refine (wp_s (n := 57) (zcode_of mc_181 (r := (.l2i, 0, 0, 0)) rfl) rfl rfl).trans ?_
  refine (wp_bp (n' := 59) rfl (zcode_of mc_181 (r := (.bipush 127, 0, 0, 0)) rfl) cb_127).trans ?_
  refine (wp_s (n := 60) (zcode_of mc_181 (r := (.iand, 0, 0, 0)) rfl) rfl rfl).trans ?_
  exact wp_retI (zcode_of mc_181 (r := (.ireturn, 0, 0, 0)) rfl) rfl
theorem mc_182 : mCode 182 = zc_182 := rfl
theorem b182 {σ : zSt} {P : Option Value → zSt → Prop} {a0 : Nat} :
    wpM 182 [.ref a0] σ P ↔ P none σ := by
  show wp 182 0 [some (.ref a0)] [] σ P ↔ _
  refine (wp_s (n := 1) (zcode_of mc_182 (r := (.aload_n 0, 0, 0, 0)) rfl) rfl rfl).trans ?_
  refine (wc_oi (n' := 4) rfl (zcode_of mc_182 (r := (.invokespecial 1, 0, 5, 0)) rfl) (Nat.le_of_ble_eq_true rfl)).trans ?_
  exact wp_retV (zcode_of mc_182 (r := (.return_, 0, 0, 0)) rfl) rfl
theorem mc_183 : mCode 183 = zc_183 := rfl
theorem b183 {σ : zSt} {P : Option Value → zSt → Prop} {a0 : Nat} :
    wpM 183 [.ref a0] σ P ↔ wpM 182 [.ref a0] σ (fun r τ => wp 183 4 [some (.ref a0)] (r.toList ++ []) τ P) := by
  show wp 183 0 [some (.ref a0)] [] σ P ↔ _
  refine (wp_s (n := 1) (zcode_of mc_183 (r := (.aload_n 0, 0, 0, 0)) rfl) rfl rfl).trans ?_
  exact wp_call (q := ([.ref a0], [])) (zcode_of mc_183 (r := (.invokespecial 1, 182, 2, 0)) rfl) rfl (zCa_I (Nat.le_of_ble_eq_true rfl) rfl (Or.inl rfl)) ⟨Nat.le_of_ble_eq_true rfl, Nat.le_of_ble_eq_true rfl⟩
theorem b183_4 {σ : zSt} {P : Option Value → zSt → Prop} {a0 : Nat} :
    wp 183 4 [some (.ref a0)] [] σ P ↔ (zIs σ a0 13 ∧ P none (sfi σ 13 0 a0 0)) := by
  refine (wp_s (n := 5) (zcode_of mc_183 (r := (.aload_n 0, 0, 0, 0)) rfl) rfl rfl).trans ?_
  refine (wp_ic (n' := 6) rfl (zcode_of mc_183 (r := (.iconst 0, 0, 0, 0)) rfl) ci_0).trans ?_
  refine (wc_isP (zcode_of mc_183 (r := (.putfield 7, 13, 0, 0)) rfl)).trans (and_congr_right fun h1 => ?_)
  refine (wc_putI (n' := 9) rfl (zcode_of mc_183 (r := (.putfield 7, 13, 0, 0)) rfl) rfl h1).trans ?_
  exact wp_retV (zcode_of mc_183 (r := (.return_, 0, 0, 0)) rfl) rfl
theorem mc_184 : mCode 184 = zc_184 := rfl
theorem b184 {σ : zSt} {P : Option Value → zSt → Prop} {a0 : Nat} :
    wpM 184 [.ref a0] σ P ↔ wpM 183 [.ref a0] σ (fun r τ => wp 184 4 [some (.ref a0)] (r.toList ++ []) τ P) := by
  show wp 184 0 [some (.ref a0)] [] σ P ↔ _
  refine (wp_s (n := 1) (zcode_of mc_184 (r := (.aload_n 0, 0, 0, 0)) rfl) rfl rfl).trans ?_
  exact wp_call (q := ([.ref a0], [])) (zcode_of mc_184 (r := (.invokespecial 1, 183, 2, 0)) rfl) rfl (zCa_I (Nat.le_of_ble_eq_true rfl) rfl (Or.inl rfl)) ⟨Nat.le_of_ble_eq_true rfl, Nat.le_of_ble_eq_true rfl⟩
theorem b184_4 {σ : zSt} {P : Option Value → zSt → Prop} {a0 : Nat} :
    wp 184 4 [some (.ref a0)] [] σ P ↔ (zIs σ a0 13 ∧ P none (sfr σ 13 1 a0 (some (ze0 σ)))) := by
  refine (wp_s (n := 5) (zcode_of mc_184 (r := (.aload_n 0, 0, 0, 0)) rfl) rfl rfl).trans ?_
  refine (wc_gs (n' := 8) rfl (zcode_of mc_184 (r := (.getstatic 39, 0, 0, 0)) rfl)).trans ?_
  refine (wc_isP (zcode_of mc_184 (r := (.putfield 9, 13, 1, 0)) rfl)).trans (and_congr_right fun h1 => ?_)
  refine (wc_putR (n' := 11) rfl (zcode_of mc_184 (r := (.putfield 9, 13, 1, 0)) rfl) rfl h1).trans ?_
  exact wp_retV (zcode_of mc_184 (r := (.return_, 0, 0, 0)) rfl) rfl
theorem mc_185 : mCode 185 = zc_185 := rfl
theorem b185 {σ : zSt} {P : Option Value → zSt → Prop} {a0 : Nat} {x1 : Int32} :
    wpM 185 [.ref a0, .int x1] σ P ↔ (zIs σ a0 13 ∧ ((zfr σ 13 1 a0).isSome = true ∧ (((ztg σ (zrf σ 13 1 a0)).1 = 2 ∨ (ztg σ (zrf σ 13 1 a0)).1 = 3 ∨ (ztg σ (zrf σ 13 1 a0)).1 = 4 ∨ (ztg σ (zrf σ 13 1 a0)).1 = 5) ∧ (if 0 < (zln σ (zrf σ 13 1 a0)) then wp 185 20 [some (.ref a0), some (.int x1), some (.int (zln σ (zrf σ 13 1 a0))), none] [] σ P else wp 185 10 [some (.ref a0), some (.int x1), some (.int (zln σ (zrf σ 13 1 a0))), none] [] σ P)))) := by
  show wp 185 0 [some (.ref a0), some (.int x1), none, none] [] σ P ↔ _
  refine (wp_s (n := 1) (zcode_of mc_185 (r := (.aload_n 0, 0, 0, 0)) rfl) rfl rfl).trans ?_
  refine (wc_is (zcode_of mc_185 (r := (.getfield 9, 13, 1, 0)) rfl)).trans (and_congr_right fun h1 => ?_)
  refine (wc_getE (n' := 4) rfl (zcode_of mc_185 (r := (.getfield 9, 13, 1, 0)) rfl) rfl h1).trans (and_congr_right fun h2 => ?_)
  refine (wc_len (n' := 5) rfl (zcode_of mc_185 (r := (.arraylength, 0, 0, 0)) rfl)).trans (and_congr_right fun h3 => ?_)
  refine (wp_s (n := 6) (zcode_of mc_185 (r := (.istore_n 2, 0, 0, 0)) rfl) rfl rfl).trans ?_
  refine (wp_s (n := 7) (zcode_of mc_185 (r := (.iload_n 2, 0, 0, 0)) rfl) rfl rfl).trans ?_
  exact wp_jump (off := 13) (t := 20) (zcode_of mc_185 (r := (.ifCond .gt 13, 0, 0, 0)) rfl) rfl rfl (by decide)
theorem b185_10 {σ : zSt} {P : Option Value → zSt → Prop} {a0 : Nat} {x1 x2 : Int32} {u3 : Option Value} :
    wp 185 10 [some (.ref a0), some (.int x1), some (.int x2), u3] [] σ P ↔ (zIs σ a0 13 ∧ ((zfr σ 13 1 a0).isSome = true ∧ (if (zrf σ 13 1 a0) = (ze0 σ) then wp 185 45 [some (.ref a0), some (.int x1), some (.int x2), u3] [] σ P else wp 185 20 [some (.ref a0), some (.int x1), some (.int x2), u3] [] σ P))) := by
  refine (wp_s (n := 11) (zcode_of mc_185 (r := (.aload_n 0, 0, 0, 0)) rfl) rfl rfl).trans ?_
  refine (wc_is (zcode_of mc_185 (r := (.getfield 9, 13, 1, 0)) rfl)).trans (and_congr_right fun h1 => ?_)
  refine (wc_getE (n' := 14) rfl (zcode_of mc_185 (r := (.getfield 9, 13, 1, 0)) rfl) rfl h1).trans (and_congr_right fun h2 => ?_)
  refine (wc_gs (n' := 17) rfl (zcode_of mc_185 (r := (.getstatic 39, 0, 0, 0)) rfl)).trans ?_
  exact wc_eq (off := 28) (u := 45) (zcode_of mc_185 (r := (.if_acmp .eq 28, 0, 0, 0)) rfl) (by decide)
theorem b185_20 {σ : zSt} {P : Option Value → zSt → Prop} {a0 : Nat} {x1 x2 : Int32} {u3 : Option Value} :
    wp 185 20 [some (.ref a0), some (.int x1), some (.int x2), u3] [] σ P ↔ wpM 201 [.int x2, .int (x1 - x2), .int (x2 >>> (1 &&& 31))] σ (fun r τ => wp 185 30 [some (.ref a0), some (.int x1), some (.int x2), u3] (r.toList ++ []) τ P) := by
  refine (wp_s (n := 21) (zcode_of mc_185 (r := (.iload_n 2, 0, 0, 0)) rfl) rfl rfl).trans ?_
  refine (wp_s (n := 22) (zcode_of mc_185 (r := (.iload_n 1, 0, 0, 0)) rfl) rfl rfl).trans ?_
  refine (wp_s (n := 23) (zcode_of mc_185 (r := (.iload_n 2, 0, 0, 0)) rfl) rfl rfl).trans ?_
  refine (wp_s (n := 24) (zcode_of mc_185 (r := (.isub, 0, 0, 0)) rfl) rfl rfl).trans ?_
  refine (wp_s (n := 25) (zcode_of mc_185 (r := (.iload_n 2, 0, 0, 0)) rfl) rfl rfl).trans ?_
  refine (wp_ic (n' := 26) rfl (zcode_of mc_185 (r := (.iconst 1, 0, 0, 0)) rfl) ci_1).trans ?_
  refine (wp_s (n := 27) (zcode_of mc_185 (r := (.ishr, 0, 0, 0)) rfl) rfl rfl).trans ?_
  exact wp_call (q := ([.int x2, .int (x1 - x2), .int (x2 >>> (1 &&& 31))], [])) (zcode_of mc_185 (r := (.invokestatic 73, 201, 1, 3)) rfl) rfl rfl ⟨Nat.le_of_ble_eq_true rfl, Nat.le_of_ble_eq_true rfl⟩
theorem b185_30 {σ : zSt} {P : Option Value → zSt → Prop} {a0 : Nat} {x1 x2 s0 : Int32} {u3 : Option Value} :
    wp 185 30 [some (.ref a0), some (.int x1), some (.int x2), u3] [.int s0] σ P ↔ (zIs σ a0 13 ∧ ((zfr σ 13 1 a0).isSome = true ∧ wpM 198 [.ref (zrf σ 13 1 a0), .int s0] σ (fun r τ => wp 185 40 [some (.ref a0), some (.int x1), some (.int x2), some (.int s0)] (r.toList ++ [.ref a0]) τ P))) := by
  refine (wp_s (n := 31) (zcode_of mc_185 (r := (.istore_n 3, 0, 0, 0)) rfl) rfl rfl).trans ?_
  refine (wp_s (n := 32) (zcode_of mc_185 (r := (.aload_n 0, 0, 0, 0)) rfl) rfl rfl).trans ?_
  refine (wp_s (n := 33) (zcode_of mc_185 (r := (.aload_n 0, 0, 0, 0)) rfl) rfl rfl).trans ?_
  refine (wc_is (zcode_of mc_185 (r := (.getfield 9, 13, 1, 0)) rfl)).trans (and_congr_right fun h1 => ?_)
  refine (wc_getE (n' := 36) rfl (zcode_of mc_185 (r := (.getfield 9, 13, 1, 0)) rfl) rfl h1).trans (and_congr_right fun h2 => ?_)
  refine (wp_s (n := 37) (zcode_of mc_185 (r := (.iload_n 3, 0, 0, 0)) rfl) rfl rfl).trans ?_
  exact wp_call (q := ([.ref (zrf σ 13 1 a0), .int s0], [.ref a0])) (zcode_of mc_185 (r := (.invokestatic 66, 198, 1, 2)) rfl) rfl rfl ⟨Nat.le_of_ble_eq_true rfl, Nat.le_of_ble_eq_true rfl⟩
theorem b185_40 {σ : zSt} {P : Option Value → zSt → Prop} {a0 s0 s1 : Nat} {x1 x2 x3 : Int32} :
    wp 185 40 [some (.ref a0), some (.int x1), some (.int x2), some (.int x3)] [.ref s0, .ref s1] σ P ↔ (zIs σ s1 13 ∧ P (some (.ref s0)) (sfr σ 13 1 s1 (some s0))) := by
  refine (wp_s (n := 41) (zcode_of mc_185 (r := (.dup_x1, 0, 0, 0)) rfl) rfl rfl).trans ?_
  refine (wc_isP (zcode_of mc_185 (r := (.putfield 9, 13, 1, 0)) rfl)).trans (and_congr_right fun h1 => ?_)
  refine (wc_putR (n' := 44) rfl (zcode_of mc_185 (r := (.putfield 9, 13, 1, 0)) rfl) rfl h1).trans ?_
  exact wp_retR (zcode_of mc_185 (r := (.areturn, 0, 0, 0)) rfl) rfl
theorem b185_45 {σ : zSt} {P : Option Value → zSt → Prop} {a0 : Nat} {x1 x2 : Int32} {u3 : Option Value} :
    wp 185 45 [some (.ref a0), some (.int x1), some (.int x2), u3] [] σ P ↔ ((¬ ((if 10 < x1 then x1 else 10) : Int32) < 0 ∧ Int32.toNatClampNeg (if 10 < x1 then x1 else 10) * 4 ≤ 536870912) ∧ wp 185 55 [some (.ref a0), some (.int x1), some (.int x2), u3] [.ref (znx σ), .ref a0] (zNewR σ 11 (Int32.toNatClampNeg (if 10 < x1 then x1 else 10))) P) := by
  refine (wp_s (n := 46) (zcode_of mc_185 (r := (.aload_n 0, 0, 0, 0)) rfl) rfl rfl).trans ?_
  refine (wp_bp (n' := 48) rfl (zcode_of mc_185 (r := (.bipush 10, 0, 0, 0)) rfl) cb_10).trans ?_
  refine (wp_s (n := 49) (zcode_of mc_185 (r := (.iload_n 1, 0, 0, 0)) rfl) rfl rfl).trans ?_
  refine (wc_max (n' := 52) rfl (zcode_of mc_185 (r := (.invokestatic 79, 0, 8, 2)) rfl) (Nat.le_of_ble_eq_true rfl)).trans ?_
  refine (wc_ana (n' := 55) rfl (zcode_of mc_185 (r := (.anewarray 7, 11, 0, 0)) rfl)).trans (and_congr_right fun h1 => ?_)
  exact Iff.rfl
theorem b185_55 {σ : zSt} {P : Option Value → zSt → Prop} {a0 s0 s1 : Nat} {x1 x2 : Int32} {u3 : Option Value} :
    wp 185 55 [some (.ref a0), some (.int x1), some (.int x2), u3] [.ref s0, .ref s1] σ P ↔ (zIs σ s1 13 ∧ P (some (.ref s0)) (sfr σ 13 1 s1 (some s0))) := by
  refine (wp_s (n := 56) (zcode_of mc_185 (r := (.dup_x1, 0, 0, 0)) rfl) rfl rfl).trans ?_
  refine (wc_isP (zcode_of mc_185 (r := (.putfield 9, 13, 1, 0)) rfl)).trans (and_congr_right fun h1 => ?_)
  refine (wc_putR (n' := 59) rfl (zcode_of mc_185 (r := (.putfield 9, 13, 1, 0)) rfl) rfl h1).trans ?_
  exact wp_retR (zcode_of mc_185 (r := (.areturn, 0, 0, 0)) rfl) rfl
theorem mc_186 : mCode 186 = zc_186 := rfl
theorem b186 {σ : zSt} {P : Option Value → zSt → Prop} {a0 : Nat} :
    wpM 186 [.ref a0] σ P ↔ (zIs σ a0 13 ∧ wpM 185 [.ref a0, .int ((zfi σ 13 2 a0) + 1)] σ (fun r τ => wp 186 10 [some (.ref a0)] (r.toList ++ []) τ P)) := by
  show wp 186 0 [some (.ref a0)] [] σ P ↔ _
  refine (wp_s (n := 1) (zcode_of mc_186 (r := (.aload_n 0, 0, 0, 0)) rfl) rfl rfl).trans ?_
  refine (wp_s (n := 2) (zcode_of mc_186 (r := (.aload_n 0, 0, 0, 0)) rfl) rfl rfl).trans ?_
  refine (wc_is (zcode_of mc_186 (r := (.getfield 48, 13, 2, 0)) rfl)).trans (and_congr_right fun h1 => ?_)
  refine (wc_getI (n' := 5) rfl (zcode_of mc_186 (r := (.getfield 48, 13, 2, 0)) rfl) rfl h1).trans ?_
  refine (wp_ic (n' := 6) rfl (zcode_of mc_186 (r := (.iconst 1, 0, 0, 0)) rfl) ci_1).trans ?_
  refine (wp_s (n := 7) (zcode_of mc_186 (r := (.iadd, 0, 0, 0)) rfl) rfl rfl).trans ?_
  exact wp_call (q := ([.ref a0, .int ((zfi σ 13 2 a0) + 1)], [])) (zcode_of mc_186 (r := (.invokevirtual 69, 185, 0, 1)) rfl) rfl (zCa_V (Nat.le_of_ble_eq_true rfl) rfl h1) ⟨Nat.le_of_ble_eq_true rfl, Nat.le_of_ble_eq_true rfl⟩
theorem b186_10 {σ : zSt} {P : Option Value → zSt → Prop} {a0 s0 : Nat} :
    wp 186 10 [some (.ref a0)] [.ref s0] σ P ↔ P (some (.ref s0)) σ := by
  exact wp_retR (zcode_of mc_186 (r := (.areturn, 0, 0, 0)) rfl) rfl
theorem mc_187 : mCode 187 = zc_187 := rfl
theorem b187 {σ : zSt} {P : Option Value → zSt → Prop} {a0 : Nat} :
    wpM 187 [.ref a0] σ P ↔ (zIs σ a0 13 ∧ P (some (.int (zfi σ 13 2 a0))) σ) := by
  show wp 187 0 [some (.ref a0)] [] σ P ↔ _
  refine (wp_s (n := 1) (zcode_of mc_187 (r := (.aload_n 0, 0, 0, 0)) rfl) rfl rfl).trans ?_
  refine (wc_is (zcode_of mc_187 (r := (.getfield 48, 13, 2, 0)) rfl)).trans (and_congr_right fun h1 => ?_)
  refine (wc_getI (n' := 4) rfl (zcode_of mc_187 (r := (.getfield 48, 13, 2, 0)) rfl) rfl h1).trans ?_
  exact wp_retI (zcode_of mc_187 (r := (.ireturn, 0, 0, 0)) rfl) rfl
theorem mc_188 : mCode 188 = zc_188 := rfl
theorem b188 {σ : zSt} {P : Option Value → zSt → Prop} {a0 : Nat} :
    wpM 188 [.ref a0] σ P ↔ (zIs σ a0 13 ∧ (if ¬ (zfi σ 13 2 a0) = 0 then wp 188 11 [some (.ref a0)] [] σ P else wp 188 7 [some (.ref a0)] [] σ P)) := by
  show wp 188 0 [some (.ref a0)] [] σ P ↔ _
  refine (wp_s (n := 1) (zcode_of mc_188 (r := (.aload_n 0, 0, 0, 0)) rfl) rfl rfl).trans ?_
  refine (wc_is (zcode_of mc_188 (r := (.getfield 48, 13, 2, 0)) rfl)).trans (and_congr_right fun h1 => ?_)
  refine (wc_getI (n' := 4) rfl (zcode_of mc_188 (r := (.getfield 48, 13, 2, 0)) rfl) rfl h1).trans ?_
  exact wp_jump (off := 7) (t := 11) (zcode_of mc_188 (r := (.ifCond .ne 7, 0, 0, 0)) rfl) rfl rfl (by decide)
theorem b188_7 {σ : zSt} {P : Option Value → zSt → Prop} {a0 : Nat} :
    wp 188 7 [some (.ref a0)] [] σ P ↔ wp 188 12 [some (.ref a0)] [.int 1] σ P := by
  refine (wp_ic (n' := 8) rfl (zcode_of mc_188 (r := (.iconst 1, 0, 0, 0)) rfl) ci_1).trans ?_
  exact wp_goto (off := 4) (t := 12) (zcode_of mc_188 (r := (.goto 4, 0, 0, 0)) rfl) (by decide)
theorem b188_11 {σ : zSt} {P : Option Value → zSt → Prop} {a0 : Nat} :
    wp 188 11 [some (.ref a0)] [] σ P ↔ wp 188 12 [some (.ref a0)] [.int 0] σ P := by
  refine (wp_ic (n' := 12) rfl (zcode_of mc_188 (r := (.iconst 0, 0, 0, 0)) rfl) ci_0).trans ?_
  exact Iff.rfl
theorem b188_12 {σ : zSt} {P : Option Value → zSt → Prop} {a0 : Nat} {s0 : Int32} :
    wp 188 12 [some (.ref a0)] [.int s0] σ P ↔ (((s0 : Int32) = 0 ∨ (s0 : Int32) = 1) ∧ P (some (.int s0)) σ) := by
  exact wp_retZ (zcode_of mc_188 (r := (.ireturn, 0, 0, 0)) rfl) rfl
theorem mc_189 : mCode 189 = zc_189 := rfl
theorem b189 {σ : zSt} {P : Option Value → zSt → Prop} {a0 : Nat} {x1 : Int32} :
    wpM 189 [.ref a0, .int x1] σ P ↔ (zIs σ a0 13 ∧ ((zfr σ 13 1 a0).isSome = true ∧ (((ztg σ (zrf σ 13 1 a0)).1 = 3 ∧ (siteTy (ztg σ (zrf σ 13 1 a0)).2.1).isReference = true ∧ zIn x1 (ztg σ (zrf σ 13 1 a0)).2.2 ∧ (zar σ (ztg σ (zrf σ 13 1 a0)).2.1 (zrf σ 13 1 a0) (Int32.toNatClampNeg x1)).isSome = true) ∧ P (some (.ref (zrq σ (ztg σ (zrf σ 13 1 a0)).2.1 (zrf σ 13 1 a0) (Int32.toNatClampNeg x1)))) σ))) := by
  show wp 189 0 [some (.ref a0), some (.int x1)] [] σ P ↔ _
  refine (wp_s (n := 1) (zcode_of mc_189 (r := (.aload_n 0, 0, 0, 0)) rfl) rfl rfl).trans ?_
  refine (wc_is (zcode_of mc_189 (r := (.getfield 9, 13, 1, 0)) rfl)).trans (and_congr_right fun h1 => ?_)
  refine (wc_getE (n' := 4) rfl (zcode_of mc_189 (r := (.getfield 9, 13, 1, 0)) rfl) rfl h1).trans (and_congr_right fun h2 => ?_)
  refine (wp_s (n := 5) (zcode_of mc_189 (r := (.iload_n 1, 0, 0, 0)) rfl) rfl rfl).trans ?_
  refine (wc_aldE (n' := 6) rfl (zcode_of mc_189 (r := (.aaload, 0, 0, 0)) rfl)).trans (and_congr_right fun h3 => ?_)
  exact wp_retA (zcode_of mc_189 (r := (.areturn, 0, 0, 0)) rfl) rfl
theorem mc_190 : mCode 190 = zc_190 := rfl
theorem b190 {σ : zSt} {P : Option Value → zSt → Prop} {a0 : Nat} {x1 : Int32} :
    wpM 190 [.ref a0, .int x1] σ P ↔ (zIs σ a0 13 ∧ wpM 200 [.int x1, .int (zfi σ 13 2 a0)] σ (fun r τ => wp 190 8 [some (.ref a0), some (.int x1)] (r.toList ++ []) τ P)) := by
  show wp 190 0 [some (.ref a0), some (.int x1)] [] σ P ↔ _
  refine (wp_s (n := 1) (zcode_of mc_190 (r := (.iload_n 1, 0, 0, 0)) rfl) rfl rfl).trans ?_
  refine (wp_s (n := 2) (zcode_of mc_190 (r := (.aload_n 0, 0, 0, 0)) rfl) rfl rfl).trans ?_
  refine (wc_is (zcode_of mc_190 (r := (.getfield 48, 13, 2, 0)) rfl)).trans (and_congr_right fun h1 => ?_)
  refine (wc_getI (n' := 5) rfl (zcode_of mc_190 (r := (.getfield 48, 13, 2, 0)) rfl) rfl h1).trans ?_
  exact wp_call (q := ([.int x1, .int (zfi σ 13 2 a0)], [])) (zcode_of mc_190 (r := (.invokestatic 118, 200, 1, 2)) rfl) rfl rfl ⟨Nat.le_of_ble_eq_true rfl, Nat.le_of_ble_eq_true rfl⟩
theorem b190_8 {σ : zSt} {P : Option Value → zSt → Prop} {a0 : Nat} {x1 s0 : Int32} :
    wp 190 8 [some (.ref a0), some (.int x1)] [.int s0] σ P ↔ (zIs σ a0 13 ∧ wpM 189 [.ref a0, .int x1] σ (fun r τ => wp 190 14 [some (.ref a0), some (.int x1)] (r.toList ++ []) τ P)) := by
  refine (wp_s (n := 9) (zcode_of mc_190 (r := (.pop, 0, 0, 0)) rfl) rfl rfl).trans ?_
  refine (wp_s (n := 10) (zcode_of mc_190 (r := (.aload_n 0, 0, 0, 0)) rfl) rfl rfl).trans ?_
  refine (wp_s (n := 11) (zcode_of mc_190 (r := (.iload_n 1, 0, 0, 0)) rfl) rfl rfl).trans ?_
  refine (wc_isV (cl := 13) (rest := []) (zcode_of mc_190 (r := (.invokevirtual 123, 189, 0, 1)) rfl) rfl rfl rfl).trans (and_congr_right fun h1 => ?_)
  exact wp_call (q := ([.ref a0, .int x1], [])) (zcode_of mc_190 (r := (.invokevirtual 123, 189, 0, 1)) rfl) rfl (zCa_V (Nat.le_of_ble_eq_true rfl) rfl h1) ⟨Nat.le_of_ble_eq_true rfl, Nat.le_of_ble_eq_true rfl⟩
theorem b190_14 {σ : zSt} {P : Option Value → zSt → Prop} {a0 s0 : Nat} {x1 : Int32} :
    wp 190 14 [some (.ref a0), some (.int x1)] [.ref s0] σ P ↔ P (some (.ref s0)) σ := by
  exact wp_retA (zcode_of mc_190 (r := (.areturn, 0, 0, 0)) rfl) rfl
theorem mc_191 : mCode 191 = zc_191 := rfl
theorem b191 {σ : zSt} {P : Option Value → zSt → Prop} {a0 a1 a2 : Nat} {x3 : Int32} :
    wpM 191 [.ref a0, .ref a1, .ref a2, .int x3] σ P ↔ (((ztg σ a2).1 = 2 ∨ (ztg σ a2).1 = 3 ∨ (ztg σ a2).1 = 4 ∨ (ztg σ a2).1 = 5) ∧ (if ¬ x3 = (zln σ a2) then wp 191 11 [some (.ref a0), some (.ref a1), some (.ref a2), some (.int x3)] [] σ P else wp 191 6 [some (.ref a0), some (.ref a1), some (.ref a2), some (.int x3)] [] σ P)) := by
  show wp 191 0 [some (.ref a0), some (.ref a1), some (.ref a2), some (.int x3)] [] σ P ↔ _
  refine (wp_s (n := 1) (zcode_of mc_191 (r := (.iload_n 3, 0, 0, 0)) rfl) rfl rfl).trans ?_
  refine (wp_s (n := 2) (zcode_of mc_191 (r := (.aload_n 2, 0, 0, 0)) rfl) rfl rfl).trans ?_
  refine (wc_len (n' := 3) rfl (zcode_of mc_191 (r := (.arraylength, 0, 0, 0)) rfl)).trans (and_congr_right fun h1 => ?_)
  exact wp_jump (off := 8) (t := 11) (zcode_of mc_191 (r := (.if_icmp .ne 8, 0, 0, 0)) rfl) rfl rfl (by decide)
theorem b191_6 {σ : zSt} {P : Option Value → zSt → Prop} {a0 a1 a2 : Nat} {x3 : Int32} :
    wp 191 6 [some (.ref a0), some (.ref a1), some (.ref a2), some (.int x3)] [] σ P ↔ (zIs σ a0 13 ∧ wpM 186 [.ref a0] σ (fun r τ => wp 191 10 [some (.ref a0), some (.ref a1), some (.ref a2), some (.int x3)] (r.toList ++ []) τ P)) := by
  refine (wp_s (n := 7) (zcode_of mc_191 (r := (.aload_n 0, 0, 0, 0)) rfl) rfl rfl).trans ?_
  refine (wc_isV (cl := 13) (rest := []) (zcode_of mc_191 (r := (.invokevirtual 129, 186, 0, 0)) rfl) rfl rfl rfl).trans (and_congr_right fun h1 => ?_)
  exact wp_call (q := ([.ref a0], [])) (zcode_of mc_191 (r := (.invokevirtual 129, 186, 0, 0)) rfl) rfl (zCa_V (Nat.le_of_ble_eq_true rfl) rfl h1) ⟨Nat.le_of_ble_eq_true rfl, Nat.le_of_ble_eq_true rfl⟩
theorem b191_10 {σ : zSt} {P : Option Value → zSt → Prop} {a0 a1 a2 s0 : Nat} {x3 : Int32} :
    wp 191 10 [some (.ref a0), some (.ref a1), some (.ref a2), some (.int x3)] [.ref s0] σ P ↔ wp 191 11 [some (.ref a0), some (.ref a1), some (.ref s0), some (.int x3)] [] σ P := by
  refine (wp_s (n := 11) (zcode_of mc_191 (r := (.astore_n 2, 0, 0, 0)) rfl) rfl rfl).trans ?_
  exact Iff.rfl
theorem b191_11 {σ : zSt} {P : Option Value → zSt → Prop} {a0 a1 a2 : Nat} {x3 : Int32} :
    wp 191 11 [some (.ref a0), some (.ref a1), some (.ref a2), some (.int x3)] [] σ P ↔ (((ztg σ a2).1 = 3 ∧ zAsg (ztg σ a2).2.1 (ztg σ a1) = true ∧ zIn x3 (ztg σ a2).2.2) ∧ (zIs σ a0 13 ∧ P none (sfi (sar σ (ztg σ a2).2.1 a2 (Int32.toNatClampNeg x3) (some a1)) 13 2 a0 (x3 + 1)))) := by
  refine (wp_s (n := 12) (zcode_of mc_191 (r := (.aload_n 2, 0, 0, 0)) rfl) rfl rfl).trans ?_
  refine (wp_s (n := 13) (zcode_of mc_191 (r := (.iload_n 3, 0, 0, 0)) rfl) rfl rfl).trans ?_
  refine (wp_s (n := 14) (zcode_of mc_191 (r := (.aload_n 1, 0, 0, 0)) rfl) rfl rfl).trans ?_
  refine (wc_ast (n' := 15) rfl (zcode_of mc_191 (r := (.aastore, 0, 0, 0)) rfl)).trans (and_congr_right fun h1 => ?_)
  refine (wp_s (n := 16) (zcode_of mc_191 (r := (.aload_n 0, 0, 0, 0)) rfl) rfl rfl).trans ?_
  refine (wp_s (n := 17) (zcode_of mc_191 (r := (.iload_n 3, 0, 0, 0)) rfl) rfl rfl).trans ?_
  refine (wp_ic (n' := 18) rfl (zcode_of mc_191 (r := (.iconst 1, 0, 0, 0)) rfl) ci_1).trans ?_
  refine (wp_s (n := 19) (zcode_of mc_191 (r := (.iadd, 0, 0, 0)) rfl) rfl rfl).trans ?_
  refine (wc_isP (σ := sar σ (ztg σ a2).2.1 a2 (Int32.toNatClampNeg x3) (some a1)) (zcode_of mc_191 (r := (.putfield 48, 13, 2, 0)) rfl)).trans (and_congr_right fun h2 => ?_)
  refine (wc_putI (σ := sar σ (ztg σ a2).2.1 a2 (Int32.toNatClampNeg x3) (some a1)) (n' := 22) rfl (zcode_of mc_191 (r := (.putfield 48, 13, 2, 0)) rfl) rfl h2).trans ?_
  exact wp_retV (zcode_of mc_191 (r := (.return_, 0, 0, 0)) rfl) rfl
theorem mc_192 : mCode 192 = zc_192 := rfl
theorem b192 {σ : zSt} {P : Option Value → zSt → Prop} {a0 a1 : Nat} :
    wpM 192 [.ref a0, .ref a1] σ P ↔ (zIs σ a0 13 ∧ ((zfr σ 13 1 a0).isSome = true ∧ wpM 191 [.ref a0, .ref a1, .ref (zrf σ 13 1 a0), .int (zfi σ 13 2 a0)] (sfi σ 13 0 a0 ((zfi σ 13 0 a0) + 1)) (fun r τ => wp 192 23 [some (.ref a0), some (.ref a1)] (r.toList ++ []) τ P))) := by
  show wp 192 0 [some (.ref a0), some (.ref a1)] [] σ P ↔ _
  refine (wp_s (n := 1) (zcode_of mc_192 (r := (.aload_n 0, 0, 0, 0)) rfl) rfl rfl).trans ?_
  refine (wp_s (n := 2) (zcode_of mc_192 (r := (.dup, 0, 0, 0)) rfl) rfl rfl).trans ?_
  refine (wc_is (zcode_of mc_192 (r := (.getfield 63, 13, 0, 0)) rfl)).trans (and_congr_right fun h1 => ?_)
  refine (wc_getI (n' := 5) rfl (zcode_of mc_192 (r := (.getfield 63, 13, 0, 0)) rfl) rfl h1).trans ?_
  refine (wp_ic (n' := 6) rfl (zcode_of mc_192 (r := (.iconst 1, 0, 0, 0)) rfl) ci_1).trans ?_
  refine (wp_s (n := 7) (zcode_of mc_192 (r := (.iadd, 0, 0, 0)) rfl) rfl rfl).trans ?_
  refine (wc_putI (n' := 10) rfl (zcode_of mc_192 (r := (.putfield 63, 13, 0, 0)) rfl) rfl h1).trans ?_
  refine (wp_s (n := 11) (zcode_of mc_192 (r := (.aload_n 0, 0, 0, 0)) rfl) rfl rfl).trans ?_
  refine (wp_s (n := 12) (zcode_of mc_192 (r := (.aload_n 1, 0, 0, 0)) rfl) rfl rfl).trans ?_
  refine (wp_s (n := 13) (zcode_of mc_192 (r := (.aload_n 0, 0, 0, 0)) rfl) rfl rfl).trans ?_
  refine (wc_getE (σ := sfi σ 13 0 a0 ((zfi σ 13 0 a0) + 1)) (n' := 16) rfl (zcode_of mc_192 (r := (.getfield 9, 13, 1, 0)) rfl) rfl h1).trans (and_congr_right fun h2 => ?_)
  refine (wp_s (n := 17) (zcode_of mc_192 (r := (.aload_n 0, 0, 0, 0)) rfl) rfl rfl).trans ?_
  refine (wc_getI (σ := sfi σ 13 0 a0 ((zfi σ 13 0 a0) + 1)) (n' := 20) rfl (zcode_of mc_192 (r := (.getfield 48, 13, 2, 0)) rfl) rfl h1).trans ?_
  exact wp_call (q := ([.ref a0, .ref a1, .ref (zrf σ 13 1 a0), .int (zfi σ 13 2 a0)], [])) (zcode_of mc_192 (r := (.invokevirtual 131, 191, 0, 3)) rfl) rfl (zCa_V (Nat.le_of_ble_eq_true rfl) rfl h1) ⟨Nat.le_of_ble_eq_true rfl, Nat.le_of_ble_eq_true rfl⟩
theorem b192_23 {σ : zSt} {P : Option Value → zSt → Prop} {a0 a1 : Nat} :
    wp 192 23 [some (.ref a0), some (.ref a1)] [] σ P ↔ (((1 : Int32) = 0 ∨ (1 : Int32) = 1) ∧ P (some (.int 1)) σ) := by
  refine (wp_ic (n' := 24) rfl (zcode_of mc_192 (r := (.iconst 1, 0, 0, 0)) rfl) ci_1).trans ?_
  exact wp_retZ (zcode_of mc_192 (r := (.ireturn, 0, 0, 0)) rfl) rfl
theorem mc_193 : mCode 193 = zc_193 := rfl
theorem b193 {σ : zSt} {P : Option Value → zSt → Prop} {a0 a2 : Nat} {x1 : Int32} :
    wpM 193 [.ref a0, .int x1, .ref a2] σ P ↔ (zIs σ a0 13 ∧ wpM 197 [.ref a0, .int x1] σ (fun r τ => wp 193 5 [some (.ref a0), some (.int x1), some (.ref a2), none, none] (r.toList ++ []) τ P)) := by
  show wp 193 0 [some (.ref a0), some (.int x1), some (.ref a2), none, none] [] σ P ↔ _
  refine (wp_s (n := 1) (zcode_of mc_193 (r := (.aload_n 0, 0, 0, 0)) rfl) rfl rfl).trans ?_
  refine (wp_s (n := 2) (zcode_of mc_193 (r := (.iload_n 1, 0, 0, 0)) rfl) rfl rfl).trans ?_
  refine (wc_isV (cl := 13) (rest := []) (zcode_of mc_193 (r := (.invokevirtual 135, 197, 0, 1)) rfl) rfl rfl rfl).trans (and_congr_right fun h1 => ?_)
  exact wp_call (q := ([.ref a0, .int x1], [])) (zcode_of mc_193 (r := (.invokevirtual 135, 197, 0, 1)) rfl) rfl (zCa_V (Nat.le_of_ble_eq_true rfl) rfl h1) ⟨Nat.le_of_ble_eq_true rfl, Nat.le_of_ble_eq_true rfl⟩
theorem b193_5 {σ : zSt} {P : Option Value → zSt → Prop} {a0 a2 : Nat} {x1 : Int32} {u3 u4 : Option Value} :
    wp 193 5 [some (.ref a0), some (.int x1), some (.ref a2), u3, u4] [] σ P ↔ (zIs σ a0 13 ∧ ((zfr σ 13 1 a0).isSome = true ∧ (((ztg (sfi σ 13 0 a0 ((zfi σ 13 0 a0) + 1)) (zrf σ 13 1 a0)).1 = 2 ∨ (ztg (sfi σ 13 0 a0 ((zfi σ 13 0 a0) + 1)) (zrf σ 13 1 a0)).1 = 3 ∨ (ztg (sfi σ 13 0 a0 ((zfi σ 13 0 a0) + 1)) (zrf σ 13 1 a0)).1 = 4 ∨ (ztg (sfi σ 13 0 a0 ((zfi σ 13 0 a0) + 1)) (zrf σ 13 1 a0)).1 = 5) ∧ (if ¬ (zfi σ 13 2 a0) = (zln (sfi σ 13 0 a0 ((zfi σ 13 0 a0) + 1)) (zrf σ 13 1 a0)) then wp 193 38 [some (.ref a0), some (.int x1), some (.ref a2), some (.int (zfi σ 13 2 a0)), some (.ref (zrf σ 13 1 a0))] [] (sfi σ 13 0 a0 ((zfi σ 13 0 a0) + 1)) P else wp 193 32 [some (.ref a0), some (.int x1), some (.ref a2), some (.int (zfi σ 13 2 a0)), some (.ref (zrf σ 13 1 a0))] [] (sfi σ 13 0 a0 ((zfi σ 13 0 a0) + 1)) P)))) := by
  refine (wp_s (n := 6) (zcode_of mc_193 (r := (.aload_n 0, 0, 0, 0)) rfl) rfl rfl).trans ?_
  refine (wp_s (n := 7) (zcode_of mc_193 (r := (.dup, 0, 0, 0)) rfl) rfl rfl).trans ?_
  refine (wc_is (zcode_of mc_193 (r := (.getfield 63, 13, 0, 0)) rfl)).trans (and_congr_right fun h1 => ?_)
  refine (wc_getI (n' := 10) rfl (zcode_of mc_193 (r := (.getfield 63, 13, 0, 0)) rfl) rfl h1).trans ?_
  refine (wp_ic (n' := 11) rfl (zcode_of mc_193 (r := (.iconst 1, 0, 0, 0)) rfl) ci_1).trans ?_
  refine (wp_s (n := 12) (zcode_of mc_193 (r := (.iadd, 0, 0, 0)) rfl) rfl rfl).trans ?_
  refine (wc_putI (n' := 15) rfl (zcode_of mc_193 (r := (.putfield 63, 13, 0, 0)) rfl) rfl h1).trans ?_
  refine (wp_s (n := 16) (zcode_of mc_193 (r := (.aload_n 0, 0, 0, 0)) rfl) rfl rfl).trans ?_
  refine (wc_getI (σ := sfi σ 13 0 a0 ((zfi σ 13 0 a0) + 1)) (n' := 19) rfl (zcode_of mc_193 (r := (.getfield 48, 13, 2, 0)) rfl) rfl h1).trans ?_
  refine (wp_s (n := 20) (zcode_of mc_193 (r := (.dup, 0, 0, 0)) rfl) rfl rfl).trans ?_
  refine (wp_s (n := 21) (zcode_of mc_193 (r := (.istore_n 3, 0, 0, 0)) rfl) rfl rfl).trans ?_
  refine (wp_s (n := 22) (zcode_of mc_193 (r := (.aload_n 0, 0, 0, 0)) rfl) rfl rfl).trans ?_
  refine (wc_getE (σ := sfi σ 13 0 a0 ((zfi σ 13 0 a0) + 1)) (n' := 25) rfl (zcode_of mc_193 (r := (.getfield 9, 13, 1, 0)) rfl) rfl h1).trans (and_congr_right fun h2 => ?_)
  refine (wp_s (n := 26) (zcode_of mc_193 (r := (.dup, 0, 0, 0)) rfl) rfl rfl).trans ?_
  refine (wp_s (n := 28) (zcode_of mc_193 (r := (.astore 4, 0, 0, 0)) rfl) rfl rfl).trans ?_
  refine (wc_len (σ := sfi σ 13 0 a0 ((zfi σ 13 0 a0) + 1)) (n' := 29) rfl (zcode_of mc_193 (r := (.arraylength, 0, 0, 0)) rfl)).trans (and_congr_right fun h3 => ?_)
  exact wp_jump (off := 9) (t := 38) (zcode_of mc_193 (r := (.if_icmp .ne 9, 0, 0, 0)) rfl) rfl rfl (by decide)
theorem b193_32 {σ : zSt} {P : Option Value → zSt → Prop} {a0 a2 a4 : Nat} {x1 x3 : Int32} :
    wp 193 32 [some (.ref a0), some (.int x1), some (.ref a2), some (.int x3), some (.ref a4)] [] σ P ↔ (zIs σ a0 13 ∧ wpM 186 [.ref a0] σ (fun r τ => wp 193 36 [some (.ref a0), some (.int x1), some (.ref a2), some (.int x3), some (.ref a4)] (r.toList ++ []) τ P)) := by
  refine (wp_s (n := 33) (zcode_of mc_193 (r := (.aload_n 0, 0, 0, 0)) rfl) rfl rfl).trans ?_
  refine (wc_isV (cl := 13) (rest := []) (zcode_of mc_193 (r := (.invokevirtual 129, 186, 0, 0)) rfl) rfl rfl rfl).trans (and_congr_right fun h1 => ?_)
  exact wp_call (q := ([.ref a0], [])) (zcode_of mc_193 (r := (.invokevirtual 129, 186, 0, 0)) rfl) rfl (zCa_V (Nat.le_of_ble_eq_true rfl) rfl h1) ⟨Nat.le_of_ble_eq_true rfl, Nat.le_of_ble_eq_true rfl⟩
theorem b193_36 {σ : zSt} {P : Option Value → zSt → Prop} {a0 a2 a4 s0 : Nat} {x1 x3 : Int32} :
    wp 193 36 [some (.ref a0), some (.int x1), some (.ref a2), some (.int x3), some (.ref a4)] [.ref s0] σ P ↔ wp 193 38 [some (.ref a0), some (.int x1), some (.ref a2), some (.int x3), some (.ref s0)] [] σ P := by
  refine (wp_s (n := 38) (zcode_of mc_193 (r := (.astore 4, 0, 0, 0)) rfl) rfl rfl).trans ?_
  exact Iff.rfl
theorem b193_38 {σ : zSt} {P : Option Value → zSt → Prop} {a0 a2 a4 : Nat} {x1 x3 : Int32} :
    wp 193 38 [some (.ref a0), some (.int x1), some (.ref a2), some (.int x3), some (.ref a4)] [] σ P ↔ (zCpyOk σ a4 a4 x1 (x1 + 1) (x3 - x1) ∧ (((ztg (sarW σ 11 a4 (va_cpy (zar σ 11 a4) (zar σ 11 a4) (Int32.toNatClampNeg x1) (Int32.toNatClampNeg (x1 + 1)) (Int32.toNatClampNeg (x3 - x1)))) a4).1 = 3 ∧ zAsg (ztg (sarW σ 11 a4 (va_cpy (zar σ 11 a4) (zar σ 11 a4) (Int32.toNatClampNeg x1) (Int32.toNatClampNeg (x1 + 1)) (Int32.toNatClampNeg (x3 - x1)))) a4).2.1 (ztg (sarW σ 11 a4 (va_cpy (zar σ 11 a4) (zar σ 11 a4) (Int32.toNatClampNeg x1) (Int32.toNatClampNeg (x1 + 1)) (Int32.toNatClampNeg (x3 - x1)))) a2) = true ∧ zIn x1 (ztg (sarW σ 11 a4 (va_cpy (zar σ 11 a4) (zar σ 11 a4) (Int32.toNatClampNeg x1) (Int32.toNatClampNeg (x1 + 1)) (Int32.toNatClampNeg (x3 - x1)))) a4).2.2) ∧ (zIs σ a0 13 ∧ P none (sfi (sar (sarW σ 11 a4 (va_cpy (zar σ 11 a4) (zar σ 11 a4) (Int32.toNatClampNeg x1) (Int32.toNatClampNeg (x1 + 1)) (Int32.toNatClampNeg (x3 - x1)))) (ztg (sarW σ 11 a4 (va_cpy (zar σ 11 a4) (zar σ 11 a4) (Int32.toNatClampNeg x1) (Int32.toNatClampNeg (x1 + 1)) (Int32.toNatClampNeg (x3 - x1)))) a4).2.1 a4 (Int32.toNatClampNeg x1) (some a2)) 13 2 a0 (x3 + 1))))) := by
  refine (wp_s (n := 40) (zcode_of mc_193 (r := (.aload 4, 0, 0, 0)) rfl) rfl rfl).trans ?_
  refine (wp_s (n := 41) (zcode_of mc_193 (r := (.iload_n 1, 0, 0, 0)) rfl) rfl rfl).trans ?_
  refine (wp_s (n := 43) (zcode_of mc_193 (r := (.aload 4, 0, 0, 0)) rfl) rfl rfl).trans ?_
  refine (wp_s (n := 44) (zcode_of mc_193 (r := (.iload_n 1, 0, 0, 0)) rfl) rfl rfl).trans ?_
  refine (wp_ic (n' := 45) rfl (zcode_of mc_193 (r := (.iconst 1, 0, 0, 0)) rfl) ci_1).trans ?_
  refine (wp_s (n := 46) (zcode_of mc_193 (r := (.iadd, 0, 0, 0)) rfl) rfl rfl).trans ?_
  refine (wp_s (n := 47) (zcode_of mc_193 (r := (.iload_n 3, 0, 0, 0)) rfl) rfl rfl).trans ?_
  refine (wp_s (n := 48) (zcode_of mc_193 (r := (.iload_n 1, 0, 0, 0)) rfl) rfl rfl).trans ?_
  refine (wp_s (n := 49) (zcode_of mc_193 (r := (.isub, 0, 0, 0)) rfl) rfl rfl).trans ?_
  refine (wc_cpy (n' := 52) rfl (zcode_of mc_193 (r := (.invokestatic 112, 0, 6, 5)) rfl) (Nat.le_of_ble_eq_true rfl)).trans (and_congr_right fun h1 => ?_)
  refine (wp_s (n := 54) (zcode_of mc_193 (r := (.aload 4, 0, 0, 0)) rfl) rfl rfl).trans ?_
  refine (wp_s (n := 55) (zcode_of mc_193 (r := (.iload_n 1, 0, 0, 0)) rfl) rfl rfl).trans ?_
  refine (wp_s (n := 56) (zcode_of mc_193 (r := (.aload_n 2, 0, 0, 0)) rfl) rfl rfl).trans ?_
  refine (wc_ast (σ := sarW σ 11 a4 (va_cpy (zar σ 11 a4) (zar σ 11 a4) (Int32.toNatClampNeg x1) (Int32.toNatClampNeg (x1 + 1)) (Int32.toNatClampNeg (x3 - x1)))) (n' := 57) rfl (zcode_of mc_193 (r := (.aastore, 0, 0, 0)) rfl)).trans (and_congr_right fun h2 => ?_)
  refine (wp_s (n := 58) (zcode_of mc_193 (r := (.aload_n 0, 0, 0, 0)) rfl) rfl rfl).trans ?_
  refine (wp_s (n := 59) (zcode_of mc_193 (r := (.iload_n 3, 0, 0, 0)) rfl) rfl rfl).trans ?_
  refine (wp_ic (n' := 60) rfl (zcode_of mc_193 (r := (.iconst 1, 0, 0, 0)) rfl) ci_1).trans ?_
  refine (wp_s (n := 61) (zcode_of mc_193 (r := (.iadd, 0, 0, 0)) rfl) rfl rfl).trans ?_
  refine (wc_isP (σ := sar (sarW σ 11 a4 (va_cpy (zar σ 11 a4) (zar σ 11 a4) (Int32.toNatClampNeg x1) (Int32.toNatClampNeg (x1 + 1)) (Int32.toNatClampNeg (x3 - x1)))) (ztg (sarW σ 11 a4 (va_cpy (zar σ 11 a4) (zar σ 11 a4) (Int32.toNatClampNeg x1) (Int32.toNatClampNeg (x1 + 1)) (Int32.toNatClampNeg (x3 - x1)))) a4).2.1 a4 (Int32.toNatClampNeg x1) (some a2)) (zcode_of mc_193 (r := (.putfield 48, 13, 2, 0)) rfl)).trans (and_congr_right fun h3 => ?_)
  refine (wc_putI (σ := sar (sarW σ 11 a4 (va_cpy (zar σ 11 a4) (zar σ 11 a4) (Int32.toNatClampNeg x1) (Int32.toNatClampNeg (x1 + 1)) (Int32.toNatClampNeg (x3 - x1)))) (ztg (sarW σ 11 a4 (va_cpy (zar σ 11 a4) (zar σ 11 a4) (Int32.toNatClampNeg x1) (Int32.toNatClampNeg (x1 + 1)) (Int32.toNatClampNeg (x3 - x1)))) a4).2.1 a4 (Int32.toNatClampNeg x1) (some a2)) (n' := 64) rfl (zcode_of mc_193 (r := (.putfield 48, 13, 2, 0)) rfl) rfl h3).trans ?_
  exact wp_retV (zcode_of mc_193 (r := (.return_, 0, 0, 0)) rfl) rfl
theorem mc_194 : mCode 194 = zc_194 := rfl
theorem b194 {σ : zSt} {P : Option Value → zSt → Prop} {a0 : Nat} {x1 : Int32} :
    wpM 194 [.ref a0, .int x1] σ P ↔ (zIs σ a0 13 ∧ wpM 200 [.int x1, .int (zfi σ 13 2 a0)] σ (fun r τ => wp 194 8 [some (.ref a0), some (.int x1), none, none] (r.toList ++ []) τ P)) := by
  show wp 194 0 [some (.ref a0), some (.int x1), none, none] [] σ P ↔ _
  refine (wp_s (n := 1) (zcode_of mc_194 (r := (.iload_n 1, 0, 0, 0)) rfl) rfl rfl).trans ?_
  refine (wp_s (n := 2) (zcode_of mc_194 (r := (.aload_n 0, 0, 0, 0)) rfl) rfl rfl).trans ?_
  refine (wc_is (zcode_of mc_194 (r := (.getfield 48, 13, 2, 0)) rfl)).trans (and_congr_right fun h1 => ?_)
  refine (wc_getI (n' := 5) rfl (zcode_of mc_194 (r := (.getfield 48, 13, 2, 0)) rfl) rfl h1).trans ?_
  exact wp_call (q := ([.int x1, .int (zfi σ 13 2 a0)], [])) (zcode_of mc_194 (r := (.invokestatic 118, 200, 1, 2)) rfl) rfl rfl ⟨Nat.le_of_ble_eq_true rfl, Nat.le_of_ble_eq_true rfl⟩
theorem b194_8 {σ : zSt} {P : Option Value → zSt → Prop} {a0 : Nat} {x1 s0 : Int32} {u2 u3 : Option Value} :
    wp 194 8 [some (.ref a0), some (.int x1), u2, u3] [.int s0] σ P ↔ (zIs σ a0 13 ∧ ((zfr σ 13 1 a0).isSome = true ∧ (((ztg σ (zrf σ 13 1 a0)).1 = 3 ∧ (siteTy (ztg σ (zrf σ 13 1 a0)).2.1).isReference = true ∧ zIn x1 (ztg σ (zrf σ 13 1 a0)).2.2 ∧ (zar σ (ztg σ (zrf σ 13 1 a0)).2.1 (zrf σ 13 1 a0) (Int32.toNatClampNeg x1)).isSome = true) ∧ wpM 195 [.ref a0, .ref (zrf σ 13 1 a0), .int x1] σ (fun r τ => wp 194 24 [some (.ref a0), some (.int x1), some (.ref (zrf σ 13 1 a0)), some (.ref (zrq σ (ztg σ (zrf σ 13 1 a0)).2.1 (zrf σ 13 1 a0) (Int32.toNatClampNeg x1)))] (r.toList ++ []) τ P)))) := by
  refine (wp_s (n := 9) (zcode_of mc_194 (r := (.pop, 0, 0, 0)) rfl) rfl rfl).trans ?_
  refine (wp_s (n := 10) (zcode_of mc_194 (r := (.aload_n 0, 0, 0, 0)) rfl) rfl rfl).trans ?_
  refine (wc_is (zcode_of mc_194 (r := (.getfield 9, 13, 1, 0)) rfl)).trans (and_congr_right fun h1 => ?_)
  refine (wc_getE (n' := 13) rfl (zcode_of mc_194 (r := (.getfield 9, 13, 1, 0)) rfl) rfl h1).trans (and_congr_right fun h2 => ?_)
  refine (wp_s (n := 14) (zcode_of mc_194 (r := (.astore_n 2, 0, 0, 0)) rfl) rfl rfl).trans ?_
  refine (wp_s (n := 15) (zcode_of mc_194 (r := (.aload_n 2, 0, 0, 0)) rfl) rfl rfl).trans ?_
  refine (wp_s (n := 16) (zcode_of mc_194 (r := (.iload_n 1, 0, 0, 0)) rfl) rfl rfl).trans ?_
  refine (wc_aldE (n' := 17) rfl (zcode_of mc_194 (r := (.aaload, 0, 0, 0)) rfl)).trans (and_congr_right fun h3 => ?_)
  refine (wp_s (n := 18) (zcode_of mc_194 (r := (.astore_n 3, 0, 0, 0)) rfl) rfl rfl).trans ?_
  refine (wp_s (n := 19) (zcode_of mc_194 (r := (.aload_n 0, 0, 0, 0)) rfl) rfl rfl).trans ?_
  refine (wp_s (n := 20) (zcode_of mc_194 (r := (.aload_n 2, 0, 0, 0)) rfl) rfl rfl).trans ?_
  refine (wp_s (n := 21) (zcode_of mc_194 (r := (.iload_n 1, 0, 0, 0)) rfl) rfl rfl).trans ?_
  exact wp_call (q := ([.ref a0, .ref (zrf σ 13 1 a0), .int x1], [])) (zcode_of mc_194 (r := (.invokevirtual 144, 195, 0, 2)) rfl) rfl (zCa_V (Nat.le_of_ble_eq_true rfl) rfl h1) ⟨Nat.le_of_ble_eq_true rfl, Nat.le_of_ble_eq_true rfl⟩
theorem b194_24 {σ : zSt} {P : Option Value → zSt → Prop} {a0 a2 a3 : Nat} {x1 : Int32} :
    wp 194 24 [some (.ref a0), some (.int x1), some (.ref a2), some (.ref a3)] [] σ P ↔ P (some (.ref a3)) σ := by
  refine (wp_s (n := 25) (zcode_of mc_194 (r := (.aload_n 3, 0, 0, 0)) rfl) rfl rfl).trans ?_
  exact wp_retA (zcode_of mc_194 (r := (.areturn, 0, 0, 0)) rfl) rfl
theorem mc_195 : mCode 195 = zc_195 := rfl
theorem b195 {σ : zSt} {P : Option Value → zSt → Prop} {a0 a1 : Nat} {x2 : Int32} :
    wpM 195 [.ref a0, .ref a1, .int x2] σ P ↔ (zIs σ a0 13 ∧ (if ((zfi σ 13 2 a0) - 1) ≤ x2 then wp 195 34 [some (.ref a0), some (.ref a1), some (.int x2), some (.int ((zfi σ 13 2 a0) - 1))] [] (sfi σ 13 0 a0 ((zfi σ 13 0 a0) + 1)) P else wp 195 22 [some (.ref a0), some (.ref a1), some (.int x2), some (.int ((zfi σ 13 2 a0) - 1))] [] (sfi σ 13 0 a0 ((zfi σ 13 0 a0) + 1)) P)) := by
  show wp 195 0 [some (.ref a0), some (.ref a1), some (.int x2), none] [] σ P ↔ _
  refine (wp_s (n := 1) (zcode_of mc_195 (r := (.aload_n 0, 0, 0, 0)) rfl) rfl rfl).trans ?_
  refine (wp_s (n := 2) (zcode_of mc_195 (r := (.dup, 0, 0, 0)) rfl) rfl rfl).trans ?_
  refine (wc_is (zcode_of mc_195 (r := (.getfield 63, 13, 0, 0)) rfl)).trans (and_congr_right fun h1 => ?_)
  refine (wc_getI (n' := 5) rfl (zcode_of mc_195 (r := (.getfield 63, 13, 0, 0)) rfl) rfl h1).trans ?_
  refine (wp_ic (n' := 6) rfl (zcode_of mc_195 (r := (.iconst 1, 0, 0, 0)) rfl) ci_1).trans ?_
  refine (wp_s (n := 7) (zcode_of mc_195 (r := (.iadd, 0, 0, 0)) rfl) rfl rfl).trans ?_
  refine (wc_putI (n' := 10) rfl (zcode_of mc_195 (r := (.putfield 63, 13, 0, 0)) rfl) rfl h1).trans ?_
  refine (wp_s (n := 11) (zcode_of mc_195 (r := (.aload_n 0, 0, 0, 0)) rfl) rfl rfl).trans ?_
  refine (wc_getI (σ := sfi σ 13 0 a0 ((zfi σ 13 0 a0) + 1)) (n' := 14) rfl (zcode_of mc_195 (r := (.getfield 48, 13, 2, 0)) rfl) rfl h1).trans ?_
  refine (wp_ic (n' := 15) rfl (zcode_of mc_195 (r := (.iconst 1, 0, 0, 0)) rfl) ci_1).trans ?_
  refine (wp_s (n := 16) (zcode_of mc_195 (r := (.isub, 0, 0, 0)) rfl) rfl rfl).trans ?_
  refine (wp_s (n := 17) (zcode_of mc_195 (r := (.dup, 0, 0, 0)) rfl) rfl rfl).trans ?_
  refine (wp_s (n := 18) (zcode_of mc_195 (r := (.istore_n 3, 0, 0, 0)) rfl) rfl rfl).trans ?_
  refine (wp_s (n := 19) (zcode_of mc_195 (r := (.iload_n 2, 0, 0, 0)) rfl) rfl rfl).trans ?_
  exact wp_jump (off := 15) (t := 34) (zcode_of mc_195 (r := (.if_icmp .le 15, 0, 0, 0)) rfl) rfl rfl (by decide)
theorem b195_22 {σ : zSt} {P : Option Value → zSt → Prop} {a0 a1 : Nat} {x2 x3 : Int32} :
    wp 195 22 [some (.ref a0), some (.ref a1), some (.int x2), some (.int x3)] [] σ P ↔ (zCpyOk σ a1 a1 (x2 + 1) x2 (x3 - x2) ∧ wp 195 34 [some (.ref a0), some (.ref a1), some (.int x2), some (.int x3)] [] (sarW σ 11 a1 (va_cpy (zar σ 11 a1) (zar σ 11 a1) (Int32.toNatClampNeg (x2 + 1)) (Int32.toNatClampNeg x2) (Int32.toNatClampNeg (x3 - x2)))) P) := by
  refine (wp_s (n := 23) (zcode_of mc_195 (r := (.aload_n 1, 0, 0, 0)) rfl) rfl rfl).trans ?_
  refine (wp_s (n := 24) (zcode_of mc_195 (r := (.iload_n 2, 0, 0, 0)) rfl) rfl rfl).trans ?_
  refine (wp_ic (n' := 25) rfl (zcode_of mc_195 (r := (.iconst 1, 0, 0, 0)) rfl) ci_1).trans ?_
  refine (wp_s (n := 26) (zcode_of mc_195 (r := (.iadd, 0, 0, 0)) rfl) rfl rfl).trans ?_
  refine (wp_s (n := 27) (zcode_of mc_195 (r := (.aload_n 1, 0, 0, 0)) rfl) rfl rfl).trans ?_
  refine (wp_s (n := 28) (zcode_of mc_195 (r := (.iload_n 2, 0, 0, 0)) rfl) rfl rfl).trans ?_
  refine (wp_s (n := 29) (zcode_of mc_195 (r := (.iload_n 3, 0, 0, 0)) rfl) rfl rfl).trans ?_
  refine (wp_s (n := 30) (zcode_of mc_195 (r := (.iload_n 2, 0, 0, 0)) rfl) rfl rfl).trans ?_
  refine (wp_s (n := 31) (zcode_of mc_195 (r := (.isub, 0, 0, 0)) rfl) rfl rfl).trans ?_
  refine (wc_cpy (n' := 34) rfl (zcode_of mc_195 (r := (.invokestatic 112, 0, 6, 5)) rfl) (Nat.le_of_ble_eq_true rfl)).trans (and_congr_right fun h1 => ?_)
  exact Iff.rfl
theorem b195_34 {σ : zSt} {P : Option Value → zSt → Prop} {a0 a1 : Nat} {x2 x3 : Int32} :
    wp 195 34 [some (.ref a0), some (.ref a1), some (.int x2), some (.int x3)] [] σ P ↔ (zIs σ a0 13 ∧ (((ztg (sfi σ 13 2 a0 x3) a1).1 = 3 ∧ (siteTy (ztg (sfi σ 13 2 a0 x3) a1).2.1).isReference = true ∧ zIn x3 (ztg (sfi σ 13 2 a0 x3) a1).2.2) ∧ P none (sar (sfi σ 13 2 a0 x3) (ztg (sfi σ 13 2 a0 x3) a1).2.1 a1 (Int32.toNatClampNeg x3) none))) := by
  refine (wp_s (n := 35) (zcode_of mc_195 (r := (.aload_n 1, 0, 0, 0)) rfl) rfl rfl).trans ?_
  refine (wp_s (n := 36) (zcode_of mc_195 (r := (.aload_n 0, 0, 0, 0)) rfl) rfl rfl).trans ?_
  refine (wp_s (n := 37) (zcode_of mc_195 (r := (.iload_n 3, 0, 0, 0)) rfl) rfl rfl).trans ?_
  refine (wp_s (n := 38) (zcode_of mc_195 (r := (.dup_x1, 0, 0, 0)) rfl) rfl rfl).trans ?_
  refine (wc_isP (zcode_of mc_195 (r := (.putfield 48, 13, 2, 0)) rfl)).trans (and_congr_right fun h1 => ?_)
  refine (wc_putI (n' := 41) rfl (zcode_of mc_195 (r := (.putfield 48, 13, 2, 0)) rfl) rfl h1).trans ?_
  refine (wp_s (n := 42) (zcode_of mc_195 (r := (.aconst_null, 0, 0, 0)) rfl) rfl rfl).trans ?_
  refine (wc_astN (σ := sfi σ 13 2 a0 x3) (n' := 43) rfl (zcode_of mc_195 (r := (.aastore, 0, 0, 0)) rfl)).trans (and_congr_right fun h2 => ?_)
  exact wp_retV (zcode_of mc_195 (r := (.return_, 0, 0, 0)) rfl) rfl
theorem mc_196 : mCode 196 = zc_196 := rfl
theorem b196 {σ : zSt} {P : Option Value → zSt → Prop} {a0 : Nat} :
    wpM 196 [.ref a0] σ P ↔ (zIs σ a0 13 ∧ ((zfr σ 13 1 a0).isSome = true ∧ wp 196 27 [some (.ref a0), some (.ref (zrf σ 13 1 a0)), some (.int (zfi σ 13 2 a0)), some (.int 0)] [] (sfi (sfi σ 13 0 a0 ((zfi σ 13 0 a0) + 1)) 13 2 a0 0) P)) := by
  show wp 196 0 [some (.ref a0), none, none, none] [] σ P ↔ _
  refine (wp_s (n := 1) (zcode_of mc_196 (r := (.aload_n 0, 0, 0, 0)) rfl) rfl rfl).trans ?_
  refine (wp_s (n := 2) (zcode_of mc_196 (r := (.dup, 0, 0, 0)) rfl) rfl rfl).trans ?_
  refine (wc_is (zcode_of mc_196 (r := (.getfield 63, 13, 0, 0)) rfl)).trans (and_congr_right fun h1 => ?_)
  refine (wc_getI (n' := 5) rfl (zcode_of mc_196 (r := (.getfield 63, 13, 0, 0)) rfl) rfl h1).trans ?_
  refine (wp_ic (n' := 6) rfl (zcode_of mc_196 (r := (.iconst 1, 0, 0, 0)) rfl) ci_1).trans ?_
  refine (wp_s (n := 7) (zcode_of mc_196 (r := (.iadd, 0, 0, 0)) rfl) rfl rfl).trans ?_
  refine (wc_putI (n' := 10) rfl (zcode_of mc_196 (r := (.putfield 63, 13, 0, 0)) rfl) rfl h1).trans ?_
  refine (wp_s (n := 11) (zcode_of mc_196 (r := (.aload_n 0, 0, 0, 0)) rfl) rfl rfl).trans ?_
  refine (wc_getE (σ := sfi σ 13 0 a0 ((zfi σ 13 0 a0) + 1)) (n' := 14) rfl (zcode_of mc_196 (r := (.getfield 9, 13, 1, 0)) rfl) rfl h1).trans (and_congr_right fun h2 => ?_)
  refine (wp_s (n := 15) (zcode_of mc_196 (r := (.astore_n 1, 0, 0, 0)) rfl) rfl rfl).trans ?_
  refine (wp_s (n := 16) (zcode_of mc_196 (r := (.aload_n 0, 0, 0, 0)) rfl) rfl rfl).trans ?_
  refine (wc_getI (σ := sfi σ 13 0 a0 ((zfi σ 13 0 a0) + 1)) (n' := 19) rfl (zcode_of mc_196 (r := (.getfield 48, 13, 2, 0)) rfl) rfl h1).trans ?_
  refine (wp_s (n := 20) (zcode_of mc_196 (r := (.istore_n 2, 0, 0, 0)) rfl) rfl rfl).trans ?_
  refine (wp_s (n := 21) (zcode_of mc_196 (r := (.aload_n 0, 0, 0, 0)) rfl) rfl rfl).trans ?_
  refine (wp_ic (n' := 22) rfl (zcode_of mc_196 (r := (.iconst 0, 0, 0, 0)) rfl) ci_0).trans ?_
  refine (wp_s (n := 23) (zcode_of mc_196 (r := (.dup_x1, 0, 0, 0)) rfl) rfl rfl).trans ?_
  refine (wc_putI (σ := sfi σ 13 0 a0 ((zfi σ 13 0 a0) + 1)) (n' := 26) rfl (zcode_of mc_196 (r := (.putfield 48, 13, 2, 0)) rfl) rfl h1).trans ?_
  refine (wp_s (n := 27) (zcode_of mc_196 (r := (.istore_n 3, 0, 0, 0)) rfl) rfl rfl).trans ?_
  exact Iff.rfl
theorem b196_27 {σ : zSt} {P : Option Value → zSt → Prop} {a0 a1 : Nat} {x2 x3 : Int32} :
    wp 196 27 [some (.ref a0), some (.ref a1), some (.int x2), some (.int x3)] [] σ P ↔ (if x2 ≤ x3 then wp 196 42 [some (.ref a0), some (.ref a1), some (.int x2), some (.int x3)] [] σ P else wp 196 32 [some (.ref a0), some (.ref a1), some (.int x2), some (.int x3)] [] σ P) := by
  refine (wp_s (n := 28) (zcode_of mc_196 (r := (.iload_n 3, 0, 0, 0)) rfl) rfl rfl).trans ?_
  refine (wp_s (n := 29) (zcode_of mc_196 (r := (.iload_n 2, 0, 0, 0)) rfl) rfl rfl).trans ?_
  exact wp_jump (off := 13) (t := 42) (zcode_of mc_196 (r := (.if_icmp .ge 13, 0, 0, 0)) rfl) rfl rfl (by decide)
theorem b196_32 {σ : zSt} {P : Option Value → zSt → Prop} {a0 a1 : Nat} {x2 x3 : Int32} :
    wp 196 32 [some (.ref a0), some (.ref a1), some (.int x2), some (.int x3)] [] σ P ↔ (((ztg σ a1).1 = 3 ∧ (siteTy (ztg σ a1).2.1).isReference = true ∧ zIn x3 (ztg σ a1).2.2) ∧ wp 196 27 [some (.ref a0), some (.ref a1), some (.int x2), some (.int (x3 + 1))] [] (sar σ (ztg σ a1).2.1 a1 (Int32.toNatClampNeg x3) none) P) := by
  refine (wp_s (n := 33) (zcode_of mc_196 (r := (.aload_n 1, 0, 0, 0)) rfl) rfl rfl).trans ?_
  refine (wp_s (n := 34) (zcode_of mc_196 (r := (.iload_n 3, 0, 0, 0)) rfl) rfl rfl).trans ?_
  refine (wp_s (n := 35) (zcode_of mc_196 (r := (.aconst_null, 0, 0, 0)) rfl) rfl rfl).trans ?_
  refine (wc_astN (n' := 36) rfl (zcode_of mc_196 (r := (.aastore, 0, 0, 0)) rfl)).trans (and_congr_right fun h1 => ?_)
  refine (wp_inc (n' := 39) rfl (zcode_of mc_196 (r := (.iinc 3 1, 0, 0, 0)) rfl) rfl rfl ci_1).trans ?_
  exact wp_goto (off := (-12)) (t := 27) (zcode_of mc_196 (r := (.goto (-12), 0, 0, 0)) rfl) (by decide)
theorem b196_42 {σ : zSt} {P : Option Value → zSt → Prop} {a0 a1 : Nat} {x2 x3 : Int32} :
    wp 196 42 [some (.ref a0), some (.ref a1), some (.int x2), some (.int x3)] [] σ P ↔ P none σ := by
  exact wp_retV (zcode_of mc_196 (r := (.return_, 0, 0, 0)) rfl) rfl
theorem mc_197 : mCode 197 = zc_197 := rfl
theorem b197 {σ : zSt} {P : Option Value → zSt → Prop} {a0 : Nat} {x1 : Int32} :
    wpM 197 [.ref a0, .int x1] σ P ↔ (zIs σ a0 13 ∧ (if (zfi σ 13 2 a0) < x1 then wp 197 12 [some (.ref a0), some (.int x1)] [] σ P else wp 197 8 [some (.ref a0), some (.int x1)] [] σ P)) := by
  show wp 197 0 [some (.ref a0), some (.int x1)] [] σ P ↔ _
  refine (wp_s (n := 1) (zcode_of mc_197 (r := (.iload_n 1, 0, 0, 0)) rfl) rfl rfl).trans ?_
  refine (wp_s (n := 2) (zcode_of mc_197 (r := (.aload_n 0, 0, 0, 0)) rfl) rfl rfl).trans ?_
  refine (wc_is (zcode_of mc_197 (r := (.getfield 48, 13, 2, 0)) rfl)).trans (and_congr_right fun h1 => ?_)
  refine (wc_getI (n' := 5) rfl (zcode_of mc_197 (r := (.getfield 48, 13, 2, 0)) rfl) rfl h1).trans ?_
  exact wp_jump (off := 7) (t := 12) (zcode_of mc_197 (r := (.if_icmp .gt 7, 0, 0, 0)) rfl) rfl rfl (by decide)
theorem b197_8 {σ : zSt} {P : Option Value → zSt → Prop} {a0 : Nat} {x1 : Int32} :
    wp 197 8 [some (.ref a0), some (.int x1)] [] σ P ↔ (if 0 ≤ x1 then wp 197 25 [some (.ref a0), some (.int x1)] [] σ P else wp 197 12 [some (.ref a0), some (.int x1)] [] σ P) := by
  refine (wp_s (n := 9) (zcode_of mc_197 (r := (.iload_n 1, 0, 0, 0)) rfl) rfl rfl).trans ?_
  exact wp_jump (off := 16) (t := 25) (zcode_of mc_197 (r := (.ifCond .ge 16, 0, 0, 0)) rfl) rfl rfl (by decide)
theorem b197_25 {σ : zSt} {P : Option Value → zSt → Prop} {a0 : Nat} {x1 : Int32} :
    wp 197 25 [some (.ref a0), some (.int x1)] [] σ P ↔ P none σ := by
  exact wp_retV (zcode_of mc_197 (r := (.return_, 0, 0, 0)) rfl) rfl
theorem mc_198 : mCode 198 = zc_198 := rfl
theorem b198 {σ : zSt} {P : Option Value → zSt → Prop} {a0 : Nat} {x1 : Int32} :
    wpM 198 [.ref a0, .int x1] σ P ↔ (((ztg σ a0).1 = 3 ∧ (ztg σ a0).2.1 = 11) ∧ wpM 199 [.ref a0, .int x1, .ref (zmi σ)] σ (fun r τ => wp 198 9 [some (.ref a0), some (.int x1)] (r.toList ++ []) τ P)) := by
  show wp 198 0 [some (.ref a0), some (.int x1)] [] σ P ↔ _
  refine (wp_s (n := 1) (zcode_of mc_198 (r := (.aload_n 0, 0, 0, 0)) rfl) rfl rfl).trans ?_
  refine (wp_s (n := 2) (zcode_of mc_198 (r := (.iload_n 1, 0, 0, 0)) rfl) rfl rfl).trans ?_
  refine (wp_s (n := 3) (zcode_of mc_198 (r := (.aload_n 0, 0, 0, 0)) rfl) rfl rfl).trans ?_
  refine (wc_gc (n' := 6) rfl (zcode_of mc_198 (r := (.invokevirtual 86, 0, 7, 0)) rfl) (Nat.le_of_ble_eq_true rfl)).trans (and_congr_right fun h1 => ?_)
  exact wp_call (q := ([.ref a0, .int x1, .ref (zmi σ)], [])) (zcode_of mc_198 (r := (.invokestatic 300, 199, 1, 3)) rfl) rfl rfl ⟨Nat.le_of_ble_eq_true rfl, Nat.le_of_ble_eq_true rfl⟩
theorem b198_9 {σ : zSt} {P : Option Value → zSt → Prop} {a0 s0 : Nat} {x1 : Int32} :
    wp 198 9 [some (.ref a0), some (.int x1)] [.ref s0] σ P ↔ P (some (.ref s0)) σ := by
  exact wp_retR (zcode_of mc_198 (r := (.areturn, 0, 0, 0)) rfl) rfl
theorem mc_199 : mCode 199 = zc_199 := rfl
theorem b199 {σ : zSt} {P : Option Value → zSt → Prop} {a0 a2 : Nat} {x1 : Int32} :
    wpM 199 [.ref a0, .int x1, .ref a2] σ P ↔ (if ¬ a2 = (zmi σ) then wp 199 13 [some (.ref a0), some (.int x1), some (.ref a2), none] [] σ P else wp 199 6 [some (.ref a0), some (.int x1), some (.ref a2), none] [] σ P) := by
  show wp 199 0 [some (.ref a0), some (.int x1), some (.ref a2), none] [] σ P ↔ _
  refine (wp_s (n := 1) (zcode_of mc_199 (r := (.aload_n 2, 0, 0, 0)) rfl) rfl rfl).trans ?_
  refine (wc_ldm (n' := 3) rfl (zcode_of mc_199 (r := (.ldc 110, 1, 0, 0)) rfl)).trans ?_
  exact wc_ne (off := 10) (u := 13) (zcode_of mc_199 (r := (.if_acmp .ne 10, 0, 0, 0)) rfl) (by decide)
theorem b199_6 {σ : zSt} {P : Option Value → zSt → Prop} {a0 a2 : Nat} {x1 : Int32} {u3 : Option Value} :
    wp 199 6 [some (.ref a0), some (.int x1), some (.ref a2), u3] [] σ P ↔ ((¬ (x1 : Int32) < 0 ∧ Int32.toNatClampNeg x1 * 4 ≤ 536870912) ∧ wp 199 10 [some (.ref a0), some (.int x1), some (.ref a2), u3] [.ref (znx σ)] (zNewR σ 11 (Int32.toNatClampNeg x1)) P) := by
  refine (wp_s (n := 7) (zcode_of mc_199 (r := (.iload_n 1, 0, 0, 0)) rfl) rfl rfl).trans ?_
  refine (wc_ana (n' := 10) rfl (zcode_of mc_199 (r := (.anewarray 2, 11, 0, 0)) rfl)).trans (and_congr_right fun h1 => ?_)
  exact Iff.rfl
theorem b199_10 {σ : zSt} {P : Option Value → zSt → Prop} {a0 a2 s0 : Nat} {x1 : Int32} {u3 : Option Value} :
    wp 199 10 [some (.ref a0), some (.int x1), some (.ref a2), u3] [.ref s0] σ P ↔ wp 199 24 [some (.ref a0), some (.int x1), some (.ref a2), u3] [.ref s0] σ P := by
  exact wp_goto (off := 14) (t := 24) (zcode_of mc_199 (r := (.goto 14, 0, 0, 0)) rfl) (by decide)
theorem b199_24 {σ : zSt} {P : Option Value → zSt → Prop} {a0 a2 s0 : Nat} {x1 : Int32} {u3 : Option Value} :
    wp 199 24 [some (.ref a0), some (.int x1), some (.ref a2), u3] [.ref s0] σ P ↔ (((ztg σ a0).1 = 2 ∨ (ztg σ a0).1 = 3 ∨ (ztg σ a0).1 = 4 ∨ (ztg σ a0).1 = 5) ∧ (zCpyOk σ s0 a0 0 0 (if x1 < (zln σ a0) then x1 else (zln σ a0)) ∧ P (some (.ref s0)) (sarW σ 11 s0 (va_cpy (zar σ 11 a0) (zar σ 11 s0) (Int32.toNatClampNeg 0) (Int32.toNatClampNeg 0) (Int32.toNatClampNeg (if x1 < (zln σ a0) then x1 else (zln σ a0))))))) := by
  refine (wp_s (n := 25) (zcode_of mc_199 (r := (.astore_n 3, 0, 0, 0)) rfl) rfl rfl).trans ?_
  refine (wp_s (n := 26) (zcode_of mc_199 (r := (.aload_n 0, 0, 0, 0)) rfl) rfl rfl).trans ?_
  refine (wp_ic (n' := 27) rfl (zcode_of mc_199 (r := (.iconst 0, 0, 0, 0)) rfl) ci_0).trans ?_
  refine (wp_s (n := 28) (zcode_of mc_199 (r := (.aload_n 3, 0, 0, 0)) rfl) rfl rfl).trans ?_
  refine (wp_ic (n' := 29) rfl (zcode_of mc_199 (r := (.iconst 0, 0, 0, 0)) rfl) ci_0).trans ?_
  refine (wp_s (n := 30) (zcode_of mc_199 (r := (.aload_n 0, 0, 0, 0)) rfl) rfl rfl).trans ?_
  refine (wc_len (n' := 31) rfl (zcode_of mc_199 (r := (.arraylength, 0, 0, 0)) rfl)).trans (and_congr_right fun h1 => ?_)
  refine (wp_s (n := 32) (zcode_of mc_199 (r := (.iload_n 1, 0, 0, 0)) rfl) rfl rfl).trans ?_
  refine (wc_min (n' := 35) rfl (zcode_of mc_199 (r := (.invokestatic 304, 0, 9, 2)) rfl) (Nat.le_of_ble_eq_true rfl)).trans ?_
  refine (wc_cpy (n' := 38) rfl (zcode_of mc_199 (r := (.invokestatic 150, 0, 6, 5)) rfl) (Nat.le_of_ble_eq_true rfl)).trans (and_congr_right fun h2 => ?_)
  refine (wp_s (n := 39) (zcode_of mc_199 (r := (.aload_n 3, 0, 0, 0)) rfl) rfl rfl).trans ?_
  exact wp_retR (zcode_of mc_199 (r := (.areturn, 0, 0, 0)) rfl) rfl
theorem mc_200 : mCode 200 = zc_200 := rfl
theorem b200 {σ : zSt} {P : Option Value → zSt → Prop} {x0 x1 : Int32} :
    wpM 200 [.int x0, .int x1] σ P ↔ wpM 203 [.int x0, .int x1, .null] σ (fun r τ => wp 200 6 [some (.int x0), some (.int x1)] (r.toList ++ []) τ P) := by
  show wp 200 0 [some (.int x0), some (.int x1)] [] σ P ↔ _
  refine (wp_s (n := 1) (zcode_of mc_200 (r := (.iload_n 0, 0, 0, 0)) rfl) rfl rfl).trans ?_
  refine (wp_s (n := 2) (zcode_of mc_200 (r := (.iload_n 1, 0, 0, 0)) rfl) rfl rfl).trans ?_
  refine (wp_s (n := 3) (zcode_of mc_200 (r := (.aconst_null, 0, 0, 0)) rfl) rfl rfl).trans ?_
  exact wp_call (q := ([.int x0, .int x1, .null], [])) (zcode_of mc_200 (r := (.invokestatic 105, 203, 1, 3)) rfl) rfl rfl ⟨Nat.le_of_ble_eq_true rfl, Nat.le_of_ble_eq_true rfl⟩
theorem b200_6 {σ : zSt} {P : Option Value → zSt → Prop} {x0 x1 s0 : Int32} :
    wp 200 6 [some (.int x0), some (.int x1)] [.int s0] σ P ↔ P (some (.int s0)) σ := by
  exact wp_retI (zcode_of mc_200 (r := (.ireturn, 0, 0, 0)) rfl) rfl
theorem mc_201 : mCode 201 = zc_201 := rfl
theorem b201 {σ : zSt} {P : Option Value → zSt → Prop} {x0 x1 x2 : Int32} :
    wpM 201 [.int x0, .int x1, .int x2] σ P ↔ (if (x0 + (if x1 < x2 then x2 else x1)) ≤ 0 then wp 201 21 [some (.int x0), some (.int x1), some (.int x2), some (.int (x0 + (if x1 < x2 then x2 else x1)))] [] σ P else wp 201 13 [some (.int x0), some (.int x1), some (.int x2), some (.int (x0 + (if x1 < x2 then x2 else x1)))] [] σ P) := by
  show wp 201 0 [some (.int x0), some (.int x1), some (.int x2), none] [] σ P ↔ _
  refine (wp_s (n := 1) (zcode_of mc_201 (r := (.iload_n 0, 0, 0, 0)) rfl) rfl rfl).trans ?_
  refine (wp_s (n := 2) (zcode_of mc_201 (r := (.iload_n 1, 0, 0, 0)) rfl) rfl rfl).trans ?_
  refine (wp_s (n := 3) (zcode_of mc_201 (r := (.iload_n 2, 0, 0, 0)) rfl) rfl rfl).trans ?_
  refine (wc_max (n' := 6) rfl (zcode_of mc_201 (r := (.invokestatic 194, 0, 8, 2)) rfl) (Nat.le_of_ble_eq_true rfl)).trans ?_
  refine (wp_s (n := 7) (zcode_of mc_201 (r := (.iadd, 0, 0, 0)) rfl) rfl rfl).trans ?_
  refine (wp_s (n := 8) (zcode_of mc_201 (r := (.istore_n 3, 0, 0, 0)) rfl) rfl rfl).trans ?_
  refine (wp_ic (n' := 9) rfl (zcode_of mc_201 (r := (.iconst 0, 0, 0, 0)) rfl) ci_0).trans ?_
  refine (wp_s (n := 10) (zcode_of mc_201 (r := (.iload_n 3, 0, 0, 0)) rfl) rfl rfl).trans ?_
  exact wp_jump (off := 11) (t := 21) (zcode_of mc_201 (r := (.if_icmp .ge 11, 0, 0, 0)) rfl) rfl rfl (by decide)
theorem b201_13 {σ : zSt} {P : Option Value → zSt → Prop} {x0 x1 x2 x3 : Int32} :
    wp 201 13 [some (.int x0), some (.int x1), some (.int x2), some (.int x3)] [] σ P ↔ (if 2147483639 < x3 then wp 201 21 [some (.int x0), some (.int x1), some (.int x2), some (.int x3)] [] σ P else wp 201 19 [some (.int x0), some (.int x1), some (.int x2), some (.int x3)] [] σ P) := by
  refine (wp_s (n := 14) (zcode_of mc_201 (r := (.iload_n 3, 0, 0, 0)) rfl) rfl rfl).trans ?_
  refine (wp_ldc (n' := 16) rfl (zcode_of mc_201 (r := (.ldc 200, 0, 0, 2147483639)) rfl) ci_2147483639).trans ?_
  exact wp_jump (off := 5) (t := 21) (zcode_of mc_201 (r := (.if_icmp .gt 5, 0, 0, 0)) rfl) rfl rfl (by decide)
theorem b201_19 {σ : zSt} {P : Option Value → zSt → Prop} {x0 x1 x2 x3 : Int32} :
    wp 201 19 [some (.int x0), some (.int x1), some (.int x2), some (.int x3)] [] σ P ↔ P (some (.int x3)) σ := by
  refine (wp_s (n := 20) (zcode_of mc_201 (r := (.iload_n 3, 0, 0, 0)) rfl) rfl rfl).trans ?_
  exact wp_retI (zcode_of mc_201 (r := (.ireturn, 0, 0, 0)) rfl) rfl
theorem b201_21 {σ : zSt} {P : Option Value → zSt → Prop} {x0 x1 x2 x3 : Int32} :
    wp 201 21 [some (.int x0), some (.int x1), some (.int x2), some (.int x3)] [] σ P ↔ wpM 202 [.int x0, .int x1] σ (fun r τ => wp 201 26 [some (.int x0), some (.int x1), some (.int x2), some (.int x3)] (r.toList ++ []) τ P) := by
  refine (wp_s (n := 22) (zcode_of mc_201 (r := (.iload_n 0, 0, 0, 0)) rfl) rfl rfl).trans ?_
  refine (wp_s (n := 23) (zcode_of mc_201 (r := (.iload_n 1, 0, 0, 0)) rfl) rfl rfl).trans ?_
  exact wp_call (q := ([.int x0, .int x1], [])) (zcode_of mc_201 (r := (.invokestatic 201, 202, 1, 2)) rfl) rfl rfl ⟨Nat.le_of_ble_eq_true rfl, Nat.le_of_ble_eq_true rfl⟩
theorem b201_26 {σ : zSt} {P : Option Value → zSt → Prop} {x0 x1 x2 x3 s0 : Int32} :
    wp 201 26 [some (.int x0), some (.int x1), some (.int x2), some (.int x3)] [.int s0] σ P ↔ P (some (.int s0)) σ := by
  exact wp_retI (zcode_of mc_201 (r := (.ireturn, 0, 0, 0)) rfl) rfl
theorem mc_202 : mCode 202 = zc_202 := rfl
theorem b202 {σ : zSt} {P : Option Value → zSt → Prop} {x0 x1 : Int32} :
    wpM 202 [.int x0, .int x1] σ P ↔ (if 0 ≤ (x0 + x1) then wp 202 49 [some (.int x0), some (.int x1), some (.int (x0 + x1))] [] σ P else wp 202 8 [some (.int x0), some (.int x1), some (.int (x0 + x1))] [] σ P) := by
  show wp 202 0 [some (.int x0), some (.int x1), none] [] σ P ↔ _
  refine (wp_s (n := 1) (zcode_of mc_202 (r := (.iload_n 0, 0, 0, 0)) rfl) rfl rfl).trans ?_
  refine (wp_s (n := 2) (zcode_of mc_202 (r := (.iload_n 1, 0, 0, 0)) rfl) rfl rfl).trans ?_
  refine (wp_s (n := 3) (zcode_of mc_202 (r := (.iadd, 0, 0, 0)) rfl) rfl rfl).trans ?_
  refine (wp_s (n := 4) (zcode_of mc_202 (r := (.istore_n 2, 0, 0, 0)) rfl) rfl rfl).trans ?_
  refine (wp_s (n := 5) (zcode_of mc_202 (r := (.iload_n 2, 0, 0, 0)) rfl) rfl rfl).trans ?_
  exact wp_jump (off := 44) (t := 49) (zcode_of mc_202 (r := (.ifCond .ge 44, 0, 0, 0)) rfl) rfl rfl (by decide)
theorem b202_49 {σ : zSt} {P : Option Value → zSt → Prop} {x0 x1 x2 : Int32} :
    wp 202 49 [some (.int x0), some (.int x1), some (.int x2)] [] σ P ↔ (if 2147483639 < x2 then wp 202 58 [some (.int x0), some (.int x1), some (.int x2)] [] σ P else wp 202 55 [some (.int x0), some (.int x1), some (.int x2)] [] σ P) := by
  refine (wp_s (n := 50) (zcode_of mc_202 (r := (.iload_n 2, 0, 0, 0)) rfl) rfl rfl).trans ?_
  refine (wp_ldc (n' := 52) rfl (zcode_of mc_202 (r := (.ldc 200, 0, 0, 2147483639)) rfl) ci_2147483639).trans ?_
  exact wp_jump (off := 6) (t := 58) (zcode_of mc_202 (r := (.if_icmp .gt 6, 0, 0, 0)) rfl) rfl rfl (by decide)
theorem b202_55 {σ : zSt} {P : Option Value → zSt → Prop} {x0 x1 x2 : Int32} :
    wp 202 55 [some (.int x0), some (.int x1), some (.int x2)] [] σ P ↔ P (some (.int 2147483639)) σ := by
  refine (wp_ldc (n' := 57) rfl (zcode_of mc_202 (r := (.ldc 200, 0, 0, 2147483639)) rfl) ci_2147483639).trans ?_
  exact wp_retI (zcode_of mc_202 (r := (.ireturn, 0, 0, 0)) rfl) rfl
theorem b202_58 {σ : zSt} {P : Option Value → zSt → Prop} {x0 x1 x2 : Int32} :
    wp 202 58 [some (.int x0), some (.int x1), some (.int x2)] [] σ P ↔ P (some (.int x2)) σ := by
  refine (wp_s (n := 59) (zcode_of mc_202 (r := (.iload_n 2, 0, 0, 0)) rfl) rfl rfl).trans ?_
  exact wp_retI (zcode_of mc_202 (r := (.ireturn, 0, 0, 0)) rfl) rfl
theorem mc_203 : mCode 203 = zc_203 := rfl
theorem b203 {σ : zSt} {P : Option Value → zSt → Prop} {x0 x1 : Int32} :
    wpM 203 [.int x0, .int x1, .null] σ P ↔ (if x0 < 0 then wp 203 9 [some (.int x0), some (.int x1), some (.null)] [] σ P else wp 203 4 [some (.int x0), some (.int x1), some (.null)] [] σ P) := by
  show wp 203 0 [some (.int x0), some (.int x1), some (.null)] [] σ P ↔ _
  refine (wp_s (n := 1) (zcode_of mc_203 (r := (.iload_n 0, 0, 0, 0)) rfl) rfl rfl).trans ?_
  exact wp_jump (off := 8) (t := 9) (zcode_of mc_203 (r := (.ifCond .lt 8, 0, 0, 0)) rfl) rfl rfl (by decide)
theorem b203_4 {σ : zSt} {P : Option Value → zSt → Prop} {x0 x1 : Int32} :
    wp 203 4 [some (.int x0), some (.int x1), some (.null)] [] σ P ↔ (if x0 < x1 then wp 203 16 [some (.int x0), some (.int x1), some (.null)] [] σ P else wp 203 9 [some (.int x0), some (.int x1), some (.null)] [] σ P) := by
  refine (wp_s (n := 5) (zcode_of mc_203 (r := (.iload_n 0, 0, 0, 0)) rfl) rfl rfl).trans ?_
  refine (wp_s (n := 6) (zcode_of mc_203 (r := (.iload_n 1, 0, 0, 0)) rfl) rfl rfl).trans ?_
  exact wp_jump (off := 10) (t := 16) (zcode_of mc_203 (r := (.if_icmp .lt 10, 0, 0, 0)) rfl) rfl rfl (by decide)
theorem b203_16 {σ : zSt} {P : Option Value → zSt → Prop} {x0 x1 : Int32} :
    wp 203 16 [some (.int x0), some (.int x1), some (.null)] [] σ P ↔ P (some (.int x0)) σ := by
  refine (wp_s (n := 17) (zcode_of mc_203 (r := (.iload_n 0, 0, 0, 0)) rfl) rfl rfl).trans ?_
  exact wp_retI (zcode_of mc_203 (r := (.ireturn, 0, 0, 0)) rfl) rfl
theorem mc_204 : mCode 204 = zc_204 := rfl
set_option maxRecDepth 20000 in
theorem b204 {σ : zSt} {P : Option Value → zSt → Prop} {a0 a1 : Nat} {n : Nat} (hs : ztg σ a0 = (4, 12, n)) :
    wpM 204 [.ref a0, .ref a1] σ P ↔ wp 204 3 [some (.ref a0), some (.ref a1), none, none] [.ref (znx σ)] (zNew σ 11) P := by
  show wp 204 0 [some (.ref a0), some (.ref a1), none, none] [] σ P ↔ _
  refine (wc_new (n' := 3) rfl (zcode_of mc_204 (r := (.new 7, 11, 0, 0)) rfl)).trans ?_
  exact Iff.rfl
set_option maxRecDepth 20000 in
theorem b204_3 {σ : zSt} {P : Option Value → zSt → Prop} {a0 a1 s0 : Nat} {u2 u3 : Option Value} {n : Nat} (hs : ztg σ a0 = (4, 12, n)) :
    wp 204 3 [some (.ref a0), some (.ref a1), u2, u3] [.ref s0] σ P ↔ wpM 81 [.ref s0] σ (fun r τ => wp 204 7 [some (.ref a0), some (.ref a1), u2, u3] (r.toList ++ [.ref s0]) τ P) := by
  refine (wp_s (n := 4) (zcode_of mc_204 (r := (.dup, 0, 0, 0)) rfl) rfl rfl).trans ?_
  exact wp_call (q := ([.ref s0], [.ref s0])) (zcode_of mc_204 (r := (.invokespecial 9, 81, 2, 0)) rfl) rfl (zCa_I (Nat.le_of_ble_eq_true rfl) rfl (Or.inl rfl)) ⟨Nat.le_of_ble_eq_true rfl, Nat.le_of_ble_eq_true rfl⟩
set_option maxRecDepth 20000 in
theorem b204_7 {σ : zSt} {P : Option Value → zSt → Prop} {a0 a1 s0 : Nat} {u2 u3 : Option Value} {n : Nat} (hs : ztg σ a0 = (4, 12, n)) :
    wp 204 7 [some (.ref a0), some (.ref a1), u2, u3] [.ref s0] σ P ↔ wp 204 11 [some (.ref a0), some (.ref s0), u2, u3] [.ref (znx σ)] (zNew σ 12) P := by
  refine (wp_s (n := 8) (zcode_of mc_204 (r := (.astore_n 1, 0, 0, 0)) rfl) rfl rfl).trans ?_
  refine (wc_new (n' := 11) rfl (zcode_of mc_204 (r := (.new 10, 12, 0, 0)) rfl)).trans ?_
  exact Iff.rfl
set_option maxRecDepth 20000 in
theorem b204_11 {σ : zSt} {P : Option Value → zSt → Prop} {a0 a1 s0 : Nat} {u2 u3 : Option Value} {n : Nat} (hs : ztg σ a0 = (4, 12, n)) :
    wp 204 11 [some (.ref a0), some (.ref a1), u2, u3] [.ref s0] σ P ↔ wpM 112 [.ref s0] σ (fun r τ => wp 204 15 [some (.ref a0), some (.ref a1), u2, u3] (r.toList ++ [.ref s0]) τ P) := by
  refine (wp_s (n := 12) (zcode_of mc_204 (r := (.dup, 0, 0, 0)) rfl) rfl rfl).trans ?_
  exact wp_call (q := ([.ref s0], [.ref s0])) (zcode_of mc_204 (r := (.invokespecial 12, 112, 2, 0)) rfl) rfl (zCa_I (Nat.le_of_ble_eq_true rfl) rfl (Or.inl rfl)) ⟨Nat.le_of_ble_eq_true rfl, Nat.le_of_ble_eq_true rfl⟩
set_option maxRecDepth 20000 in
theorem b204_15 {σ : zSt} {P : Option Value → zSt → Prop} {a0 a1 s0 : Nat} {u2 u3 : Option Value} {n : Nat} (hs : ztg σ a0 = (4, 12, n)) :
    wp 204 15 [some (.ref a0), some (.ref a1), u2, u3] [.ref s0] σ P ↔ wp 204 18 [some (.ref a0), some (.ref a1), some (.ref s0), some (.int 0)] [] σ P := by
  refine (wp_s (n := 16) (zcode_of mc_204 (r := (.astore_n 2, 0, 0, 0)) rfl) rfl rfl).trans ?_
  refine (wp_ic (n' := 17) rfl (zcode_of mc_204 (r := (.iconst 0, 0, 0, 0)) rfl) ci_0).trans ?_
  refine (wp_s (n := 18) (zcode_of mc_204 (r := (.istore_n 3, 0, 0, 0)) rfl) rfl rfl).trans ?_
  exact Iff.rfl
set_option maxRecDepth 20000 in
theorem b204_18 {σ : zSt} {P : Option Value → zSt → Prop} {a0 a1 a2 : Nat} {x3 : Int32} {n : Nat} (hs : ztg σ a0 = (4, 12, n)) :
    wp 204 18 [some (.ref a0), some (.ref a1), some (.ref a2), some (.int x3)] [] σ P ↔ (((ztg σ a0).1 = 2 ∨ (ztg σ a0).1 = 3 ∨ (ztg σ a0).1 = 4 ∨ (ztg σ a0).1 = 5) ∧ (if ((zln σ a0) - 4) < x3 then wp 204 947 [some (.ref a0), some (.ref a1), some (.ref a2), some (.int x3)] [] σ P else wp 204 26 [some (.ref a0), some (.ref a1), some (.ref a2), some (.int x3)] [] σ P)) := by
  refine (wp_s (n := 19) (zcode_of mc_204 (r := (.iload_n 3, 0, 0, 0)) rfl) rfl rfl).trans ?_
  refine (wp_s (n := 20) (zcode_of mc_204 (r := (.aload_n 0, 0, 0, 0)) rfl) rfl rfl).trans ?_
  refine (wc_len (n' := 21) rfl (zcode_of mc_204 (r := (.arraylength, 0, 0, 0)) rfl)).trans (and_congr_right fun h1 => ?_)
  refine (wp_ic (n' := 22) rfl (zcode_of mc_204 (r := (.iconst 4, 0, 0, 0)) rfl) ci_4).trans ?_
  refine (wp_s (n := 23) (zcode_of mc_204 (r := (.isub, 0, 0, 0)) rfl) rfl rfl).trans ?_
  exact wp_jump (off := 924) (t := 947) (zcode_of mc_204 (r := (.if_icmp .gt 924, 0, 0, 0)) rfl) rfl rfl (by decide)
set_option maxRecDepth 20000 in
theorem b204_26 {σ : zSt} {P : Option Value → zSt → Prop} {a0 a1 a2 : Nat} {x3 : Int32} {n : Nat} (hs : ztg σ a0 = (4, 12, n)) :
    wp 204 26 [some (.ref a0), some (.ref a1), some (.ref a2), some (.int x3)] [] σ P ↔ (zIn x3 n ∧ (if ((zai σ 12 a0 (Int32.toNatClampNeg x3)) &&& 31) = 0 then wp 204 148 [some (.ref a0), some (.ref a1), some (.ref a2), some (.int x3)] [] σ P else if ((zai σ 12 a0 (Int32.toNatClampNeg x3)) &&& 31) = 1 then wp 204 207 [some (.ref a0), some (.ref a1), some (.ref a2), some (.int x3)] [] σ P else if ((zai σ 12 a0 (Int32.toNatClampNeg x3)) &&& 31) = 2 then wp 204 240 [some (.ref a0), some (.ref a1), some (.ref a2), some (.int x3)] [] σ P else if ((zai σ 12 a0 (Int32.toNatClampNeg x3)) &&& 31) = 3 then wp 204 303 [some (.ref a0), some (.ref a1), some (.ref a2), some (.int x3)] [] σ P else if ((zai σ 12 a0 (Int32.toNatClampNeg x3)) &&& 31) = 4 then wp 204 336 [some (.ref a0), some (.ref a1), some (.ref a2), some (.int x3)] [] σ P else if ((zai σ 12 a0 (Int32.toNatClampNeg x3)) &&& 31) = 5 then wp 204 369 [some (.ref a0), some (.ref a1), some (.ref a2), some (.int x3)] [] σ P else if ((zai σ 12 a0 (Int32.toNatClampNeg x3)) &&& 31) = 6 then wp 204 392 [some (.ref a0), some (.ref a1), some (.ref a2), some (.int x3)] [] σ P else if ((zai σ 12 a0 (Int32.toNatClampNeg x3)) &&& 31) = 7 then wp 204 425 [some (.ref a0), some (.ref a1), some (.ref a2), some (.int x3)] [] σ P else if ((zai σ 12 a0 (Int32.toNatClampNeg x3)) &&& 31) = 8 then wp 204 468 [some (.ref a0), some (.ref a1), some (.ref a2), some (.int x3)] [] σ P else if ((zai σ 12 a0 (Int32.toNatClampNeg x3)) &&& 31) = 9 then wp 204 481 [some (.ref a0), some (.ref a1), some (.ref a2), some (.int x3)] [] σ P else if ((zai σ 12 a0 (Int32.toNatClampNeg x3)) &&& 31) = 10 then wp 204 514 [some (.ref a0), some (.ref a1), some (.ref a2), some (.int x3)] [] σ P else if ((zai σ 12 a0 (Int32.toNatClampNeg x3)) &&& 31) = 11 then wp 204 547 [some (.ref a0), some (.ref a1), some (.ref a2), some (.int x3)] [] σ P else if ((zai σ 12 a0 (Int32.toNatClampNeg x3)) &&& 31) = 12 then wp 204 590 [some (.ref a0), some (.ref a1), some (.ref a2), some (.int x3)] [] σ P else if ((zai σ 12 a0 (Int32.toNatClampNeg x3)) &&& 31) = 13 then wp 204 613 [some (.ref a0), some (.ref a1), some (.ref a2), some (.int x3)] [] σ P else if ((zai σ 12 a0 (Int32.toNatClampNeg x3)) &&& 31) = 14 then wp 204 646 [some (.ref a0), some (.ref a1), some (.ref a2), some (.int x3)] [] σ P else if ((zai σ 12 a0 (Int32.toNatClampNeg x3)) &&& 31) = 15 then wp 204 679 [some (.ref a0), some (.ref a1), some (.ref a2), some (.int x3)] [] σ P else if ((zai σ 12 a0 (Int32.toNatClampNeg x3)) &&& 31) = 16 then wp 204 712 [some (.ref a0), some (.ref a1), some (.ref a2), some (.int x3)] [] σ P else if ((zai σ 12 a0 (Int32.toNatClampNeg x3)) &&& 31) = 17 then wp 204 745 [some (.ref a0), some (.ref a1), some (.ref a2), some (.int x3)] [] σ P else if ((zai σ 12 a0 (Int32.toNatClampNeg x3)) &&& 31) = 18 then wp 204 778 [some (.ref a0), some (.ref a1), some (.ref a2), some (.int x3)] [] σ P else if ((zai σ 12 a0 (Int32.toNatClampNeg x3)) &&& 31) = 19 then wp 204 812 [some (.ref a0), some (.ref a1), some (.ref a2), some (.int x3)] [] σ P else if ((zai σ 12 a0 (Int32.toNatClampNeg x3)) &&& 31) = 20 then wp 204 835 [some (.ref a0), some (.ref a1), some (.ref a2), some (.int x3)] [] σ P else if ((zai σ 12 a0 (Int32.toNatClampNeg x3)) &&& 31) = 21 then wp 204 858 [some (.ref a0), some (.ref a1), some (.ref a2), some (.int x3)] [] σ P else if ((zai σ 12 a0 (Int32.toNatClampNeg x3)) &&& 31) = 22 then wp 204 892 [some (.ref a0), some (.ref a1), some (.ref a2), some (.int x3)] [] σ P else if ((zai σ 12 a0 (Int32.toNatClampNeg x3)) &&& 31) = 23 then wp 204 905 [some (.ref a0), some (.ref a1), some (.ref a2), some (.int x3)] [] σ P else if ((zai σ 12 a0 (Int32.toNatClampNeg x3)) &&& 31) = 24 then wp 204 928 [some (.ref a0), some (.ref a1), some (.ref a2), some (.int x3)] [] σ P else wp 204 941 [some (.ref a0), some (.ref a1), some (.ref a2), some (.int x3)] [] σ P)) := by
  refine (wp_s (n := 27) (zcode_of mc_204 (r := (.aload_n 0, 0, 0, 0)) rfl) rfl rfl).trans ?_
  refine (wp_s (n := 28) (zcode_of mc_204 (r := (.iload_n 3, 0, 0, 0)) rfl) rfl rfl).trans ?_
  refine (wc_ldS (n' := 29) rfl (zcode_of mc_204 (r := (.iaload, 0, 0, 0)) rfl) hs rfl).trans (and_congr_right fun h1 => ?_)
  refine (wp_bp (n' := 31) rfl (zcode_of mc_204 (r := (.bipush 31, 0, 0, 0)) rfl) cb_31).trans ?_
  refine (wp_s (n := 32) (zcode_of mc_204 (r := (.iand, 0, 0, 0)) rfl) rfl rfl).trans ?_
  generalize hv9 : (((zai σ 12 a0 (Int32.toNatClampNeg x3)) &&& 31) : Int32) = v9
  by_cases h100 : v9 = 0
  · rw [if_pos h100, h100]
    exact wp_swI (zcode_of mc_204 (r := (.tableswitch 909 0 24 #[116, 175, 208, 271, 304, 337, 360, 393, 436, 449, 482, 515, 558, 581, 614, 647, 680, 713, 746, 780, 803, 826, 860, 873, 896], 0, 0, 0)) rfl) (t := 148) (by decide)
  rw [if_neg h100]
  by_cases h101 : v9 = 1
  · rw [if_pos h101, h101]
    exact wp_swI (zcode_of mc_204 (r := (.tableswitch 909 0 24 #[116, 175, 208, 271, 304, 337, 360, 393, 436, 449, 482, 515, 558, 581, 614, 647, 680, 713, 746, 780, 803, 826, 860, 873, 896], 0, 0, 0)) rfl) (t := 207) (by decide)
  rw [if_neg h101]
  by_cases h102 : v9 = 2
  · rw [if_pos h102, h102]
    exact wp_swI (zcode_of mc_204 (r := (.tableswitch 909 0 24 #[116, 175, 208, 271, 304, 337, 360, 393, 436, 449, 482, 515, 558, 581, 614, 647, 680, 713, 746, 780, 803, 826, 860, 873, 896], 0, 0, 0)) rfl) (t := 240) (by decide)
  rw [if_neg h102]
  by_cases h103 : v9 = 3
  · rw [if_pos h103, h103]
    exact wp_swI (zcode_of mc_204 (r := (.tableswitch 909 0 24 #[116, 175, 208, 271, 304, 337, 360, 393, 436, 449, 482, 515, 558, 581, 614, 647, 680, 713, 746, 780, 803, 826, 860, 873, 896], 0, 0, 0)) rfl) (t := 303) (by decide)
  rw [if_neg h103]
  by_cases h104 : v9 = 4
  · rw [if_pos h104, h104]
    exact wp_swI (zcode_of mc_204 (r := (.tableswitch 909 0 24 #[116, 175, 208, 271, 304, 337, 360, 393, 436, 449, 482, 515, 558, 581, 614, 647, 680, 713, 746, 780, 803, 826, 860, 873, 896], 0, 0, 0)) rfl) (t := 336) (by decide)
  rw [if_neg h104]
  by_cases h105 : v9 = 5
  · rw [if_pos h105, h105]
    exact wp_swI (zcode_of mc_204 (r := (.tableswitch 909 0 24 #[116, 175, 208, 271, 304, 337, 360, 393, 436, 449, 482, 515, 558, 581, 614, 647, 680, 713, 746, 780, 803, 826, 860, 873, 896], 0, 0, 0)) rfl) (t := 369) (by decide)
  rw [if_neg h105]
  by_cases h106 : v9 = 6
  · rw [if_pos h106, h106]
    exact wp_swI (zcode_of mc_204 (r := (.tableswitch 909 0 24 #[116, 175, 208, 271, 304, 337, 360, 393, 436, 449, 482, 515, 558, 581, 614, 647, 680, 713, 746, 780, 803, 826, 860, 873, 896], 0, 0, 0)) rfl) (t := 392) (by decide)
  rw [if_neg h106]
  by_cases h107 : v9 = 7
  · rw [if_pos h107, h107]
    exact wp_swI (zcode_of mc_204 (r := (.tableswitch 909 0 24 #[116, 175, 208, 271, 304, 337, 360, 393, 436, 449, 482, 515, 558, 581, 614, 647, 680, 713, 746, 780, 803, 826, 860, 873, 896], 0, 0, 0)) rfl) (t := 425) (by decide)
  rw [if_neg h107]
  by_cases h108 : v9 = 8
  · rw [if_pos h108, h108]
    exact wp_swI (zcode_of mc_204 (r := (.tableswitch 909 0 24 #[116, 175, 208, 271, 304, 337, 360, 393, 436, 449, 482, 515, 558, 581, 614, 647, 680, 713, 746, 780, 803, 826, 860, 873, 896], 0, 0, 0)) rfl) (t := 468) (by decide)
  rw [if_neg h108]
  by_cases h109 : v9 = 9
  · rw [if_pos h109, h109]
    exact wp_swI (zcode_of mc_204 (r := (.tableswitch 909 0 24 #[116, 175, 208, 271, 304, 337, 360, 393, 436, 449, 482, 515, 558, 581, 614, 647, 680, 713, 746, 780, 803, 826, 860, 873, 896], 0, 0, 0)) rfl) (t := 481) (by decide)
  rw [if_neg h109]
  by_cases h110 : v9 = 10
  · rw [if_pos h110, h110]
    exact wp_swI (zcode_of mc_204 (r := (.tableswitch 909 0 24 #[116, 175, 208, 271, 304, 337, 360, 393, 436, 449, 482, 515, 558, 581, 614, 647, 680, 713, 746, 780, 803, 826, 860, 873, 896], 0, 0, 0)) rfl) (t := 514) (by decide)
  rw [if_neg h110]
  by_cases h111 : v9 = 11
  · rw [if_pos h111, h111]
    exact wp_swI (zcode_of mc_204 (r := (.tableswitch 909 0 24 #[116, 175, 208, 271, 304, 337, 360, 393, 436, 449, 482, 515, 558, 581, 614, 647, 680, 713, 746, 780, 803, 826, 860, 873, 896], 0, 0, 0)) rfl) (t := 547) (by decide)
  rw [if_neg h111]
  by_cases h112 : v9 = 12
  · rw [if_pos h112, h112]
    exact wp_swI (zcode_of mc_204 (r := (.tableswitch 909 0 24 #[116, 175, 208, 271, 304, 337, 360, 393, 436, 449, 482, 515, 558, 581, 614, 647, 680, 713, 746, 780, 803, 826, 860, 873, 896], 0, 0, 0)) rfl) (t := 590) (by decide)
  rw [if_neg h112]
  by_cases h113 : v9 = 13
  · rw [if_pos h113, h113]
    exact wp_swI (zcode_of mc_204 (r := (.tableswitch 909 0 24 #[116, 175, 208, 271, 304, 337, 360, 393, 436, 449, 482, 515, 558, 581, 614, 647, 680, 713, 746, 780, 803, 826, 860, 873, 896], 0, 0, 0)) rfl) (t := 613) (by decide)
  rw [if_neg h113]
  by_cases h114 : v9 = 14
  · rw [if_pos h114, h114]
    exact wp_swI (zcode_of mc_204 (r := (.tableswitch 909 0 24 #[116, 175, 208, 271, 304, 337, 360, 393, 436, 449, 482, 515, 558, 581, 614, 647, 680, 713, 746, 780, 803, 826, 860, 873, 896], 0, 0, 0)) rfl) (t := 646) (by decide)
  rw [if_neg h114]
  by_cases h115 : v9 = 15
  · rw [if_pos h115, h115]
    exact wp_swI (zcode_of mc_204 (r := (.tableswitch 909 0 24 #[116, 175, 208, 271, 304, 337, 360, 393, 436, 449, 482, 515, 558, 581, 614, 647, 680, 713, 746, 780, 803, 826, 860, 873, 896], 0, 0, 0)) rfl) (t := 679) (by decide)
  rw [if_neg h115]
  by_cases h116 : v9 = 16
  · rw [if_pos h116, h116]
    exact wp_swI (zcode_of mc_204 (r := (.tableswitch 909 0 24 #[116, 175, 208, 271, 304, 337, 360, 393, 436, 449, 482, 515, 558, 581, 614, 647, 680, 713, 746, 780, 803, 826, 860, 873, 896], 0, 0, 0)) rfl) (t := 712) (by decide)
  rw [if_neg h116]
  by_cases h117 : v9 = 17
  · rw [if_pos h117, h117]
    exact wp_swI (zcode_of mc_204 (r := (.tableswitch 909 0 24 #[116, 175, 208, 271, 304, 337, 360, 393, 436, 449, 482, 515, 558, 581, 614, 647, 680, 713, 746, 780, 803, 826, 860, 873, 896], 0, 0, 0)) rfl) (t := 745) (by decide)
  rw [if_neg h117]
  by_cases h118 : v9 = 18
  · rw [if_pos h118, h118]
    exact wp_swI (zcode_of mc_204 (r := (.tableswitch 909 0 24 #[116, 175, 208, 271, 304, 337, 360, 393, 436, 449, 482, 515, 558, 581, 614, 647, 680, 713, 746, 780, 803, 826, 860, 873, 896], 0, 0, 0)) rfl) (t := 778) (by decide)
  rw [if_neg h118]
  by_cases h119 : v9 = 19
  · rw [if_pos h119, h119]
    exact wp_swI (zcode_of mc_204 (r := (.tableswitch 909 0 24 #[116, 175, 208, 271, 304, 337, 360, 393, 436, 449, 482, 515, 558, 581, 614, 647, 680, 713, 746, 780, 803, 826, 860, 873, 896], 0, 0, 0)) rfl) (t := 812) (by decide)
  rw [if_neg h119]
  by_cases h120 : v9 = 20
  · rw [if_pos h120, h120]
    exact wp_swI (zcode_of mc_204 (r := (.tableswitch 909 0 24 #[116, 175, 208, 271, 304, 337, 360, 393, 436, 449, 482, 515, 558, 581, 614, 647, 680, 713, 746, 780, 803, 826, 860, 873, 896], 0, 0, 0)) rfl) (t := 835) (by decide)
  rw [if_neg h120]
  by_cases h121 : v9 = 21
  · rw [if_pos h121, h121]
    exact wp_swI (zcode_of mc_204 (r := (.tableswitch 909 0 24 #[116, 175, 208, 271, 304, 337, 360, 393, 436, 449, 482, 515, 558, 581, 614, 647, 680, 713, 746, 780, 803, 826, 860, 873, 896], 0, 0, 0)) rfl) (t := 858) (by decide)
  rw [if_neg h121]
  by_cases h122 : v9 = 22
  · rw [if_pos h122, h122]
    exact wp_swI (zcode_of mc_204 (r := (.tableswitch 909 0 24 #[116, 175, 208, 271, 304, 337, 360, 393, 436, 449, 482, 515, 558, 581, 614, 647, 680, 713, 746, 780, 803, 826, 860, 873, 896], 0, 0, 0)) rfl) (t := 892) (by decide)
  rw [if_neg h122]
  by_cases h123 : v9 = 23
  · rw [if_pos h123, h123]
    exact wp_swI (zcode_of mc_204 (r := (.tableswitch 909 0 24 #[116, 175, 208, 271, 304, 337, 360, 393, 436, 449, 482, 515, 558, 581, 614, 647, 680, 713, 746, 780, 803, 826, 860, 873, 896], 0, 0, 0)) rfl) (t := 905) (by decide)
  rw [if_neg h123]
  by_cases h124 : v9 = 24
  · rw [if_pos h124, h124]
    exact wp_swI (zcode_of mc_204 (r := (.tableswitch 909 0 24 #[116, 175, 208, 271, 304, 337, 360, 393, 436, 449, 482, 515, 558, 581, 614, 647, 680, 713, 746, 780, 803, 826, 860, 873, 896], 0, 0, 0)) rfl) (t := 928) (by decide)
  rw [if_neg h124]
  exact wp_swO (zcode_of mc_204 (r := (.tableswitch 909 0 24 #[116, 175, 208, 271, 304, 337, 360, 393, 436, 449, 482, 515, 558, 581, 614, 647, 680, 713, 746, 780, 803, 826, 860, 873, 896], 0, 0, 0)) rfl) (t := 941) (by decide) (zsw_lo (fun k g1 g2 => by
    rcases (show k = 0 ∨ k = 1 ∨ k = 2 ∨ k = 3 ∨ k = 4 ∨ k = 5 ∨ k = 6 ∨ k = 7 ∨ k = 8 ∨ k = 9 ∨ k = 10 ∨ k = 11 ∨ k = 12 ∨ k = 13 ∨ k = 14 ∨ k = 15 ∨ k = 16 ∨ k = 17 ∨ k = 18 ∨ k = 19 ∨ k = 20 ∨ k = 21 ∨ k = 22 ∨ k = 23 ∨ k = 24 by omega) with rfl | rfl | rfl | rfl | rfl | rfl | rfl | rfl | rfl | rfl | rfl | rfl | rfl | rfl | rfl | rfl | rfl | rfl | rfl | rfl | rfl | rfl | rfl | rfl | rfl
    · exact h100
    · exact h101
    · exact h102
    · exact h103
    · exact h104
    · exact h105
    · exact h106
    · exact h107
    · exact h108
    · exact h109
    · exact h110
    · exact h111
    · exact h112
    · exact h113
    · exact h114
    · exact h115
    · exact h116
    · exact h117
    · exact h118
    · exact h119
    · exact h120
    · exact h121
    · exact h122
    · exact h123
    · exact h124) (by decide) (by decide))
set_option maxRecDepth 20000 in
theorem b204_148 {σ : zSt} {P : Option Value → zSt → Prop} {a0 a1 a2 : Nat} {x3 : Int32} {n : Nat} (hs : ztg σ a0 = (4, 12, n)) :
    wp 204 148 [some (.ref a0), some (.ref a1), some (.ref a2), some (.int x3)] [] σ P ↔ (zIn (x3 + 1) n ∧ (zIn (x3 + 2) n ∧ (zIn (x3 + 3) n ∧ (if (zai σ 12 a0 (Int32.toNatClampNeg (x3 + 3))) = 0 then wp 204 171 [some (.ref a0), some (.ref a1), some (.ref a2), some (.int x3)] [.int (zai σ 12 a0 (Int32.toNatClampNeg (x3 + 2))), .int (zai σ 12 a0 (Int32.toNatClampNeg (x3 + 1))), .ref a1] σ P else wp 204 167 [some (.ref a0), some (.ref a1), some (.ref a2), some (.int x3)] [.int (zai σ 12 a0 (Int32.toNatClampNeg (x3 + 2))), .int (zai σ 12 a0 (Int32.toNatClampNeg (x3 + 1))), .ref a1] σ P)))) := by
  refine (wp_s (n := 149) (zcode_of mc_204 (r := (.aload_n 1, 0, 0, 0)) rfl) rfl rfl).trans ?_
  refine (wp_s (n := 150) (zcode_of mc_204 (r := (.aload_n 0, 0, 0, 0)) rfl) rfl rfl).trans ?_
  refine (wp_s (n := 151) (zcode_of mc_204 (r := (.iload_n 3, 0, 0, 0)) rfl) rfl rfl).trans ?_
  refine (wp_ic (n' := 152) rfl (zcode_of mc_204 (r := (.iconst 1, 0, 0, 0)) rfl) ci_1).trans ?_
  refine (wp_s (n := 153) (zcode_of mc_204 (r := (.iadd, 0, 0, 0)) rfl) rfl rfl).trans ?_
  refine (wc_ldS (n' := 154) rfl (zcode_of mc_204 (r := (.iaload, 0, 0, 0)) rfl) hs rfl).trans (and_congr_right fun h1 => ?_)
  refine (wp_s (n := 155) (zcode_of mc_204 (r := (.aload_n 0, 0, 0, 0)) rfl) rfl rfl).trans ?_
  refine (wp_s (n := 156) (zcode_of mc_204 (r := (.iload_n 3, 0, 0, 0)) rfl) rfl rfl).trans ?_
  refine (wp_ic (n' := 157) rfl (zcode_of mc_204 (r := (.iconst 2, 0, 0, 0)) rfl) ci_2).trans ?_
  refine (wp_s (n := 158) (zcode_of mc_204 (r := (.iadd, 0, 0, 0)) rfl) rfl rfl).trans ?_
  refine (wc_ldS (n' := 159) rfl (zcode_of mc_204 (r := (.iaload, 0, 0, 0)) rfl) hs rfl).trans (and_congr_right fun h2 => ?_)
  refine (wp_s (n := 160) (zcode_of mc_204 (r := (.aload_n 0, 0, 0, 0)) rfl) rfl rfl).trans ?_
  refine (wp_s (n := 161) (zcode_of mc_204 (r := (.iload_n 3, 0, 0, 0)) rfl) rfl rfl).trans ?_
  refine (wp_ic (n' := 162) rfl (zcode_of mc_204 (r := (.iconst 3, 0, 0, 0)) rfl) ci_3).trans ?_
  refine (wp_s (n := 163) (zcode_of mc_204 (r := (.iadd, 0, 0, 0)) rfl) rfl rfl).trans ?_
  refine (wc_ldS (n' := 164) rfl (zcode_of mc_204 (r := (.iaload, 0, 0, 0)) rfl) hs rfl).trans (and_congr_right fun h3 => ?_)
  exact wp_jump (off := 7) (t := 171) (zcode_of mc_204 (r := (.ifCond .eq 7, 0, 0, 0)) rfl) rfl rfl (by decide)
set_option maxRecDepth 20000 in
theorem b204_167 {σ : zSt} {P : Option Value → zSt → Prop} {a0 a1 a2 s2 : Nat} {x3 s0 s1 : Int32} {n : Nat} (hs : ztg σ a0 = (4, 12, n)) :
    wp 204 167 [some (.ref a0), some (.ref a1), some (.ref a2), some (.int x3)] [.int s0, .int s1, .ref s2] σ P ↔ wp 204 172 [some (.ref a0), some (.ref a1), some (.ref a2), some (.int x3)] [.int 1, .int s0, .int s1, .ref s2] σ P := by
  refine (wp_ic (n' := 168) rfl (zcode_of mc_204 (r := (.iconst 1, 0, 0, 0)) rfl) ci_1).trans ?_
  exact wp_goto (off := 4) (t := 172) (zcode_of mc_204 (r := (.goto 4, 0, 0, 0)) rfl) (by decide)
set_option maxRecDepth 20000 in
theorem b204_171 {σ : zSt} {P : Option Value → zSt → Prop} {a0 a1 a2 s2 : Nat} {x3 s0 s1 : Int32} {n : Nat} (hs : ztg σ a0 = (4, 12, n)) :
    wp 204 171 [some (.ref a0), some (.ref a1), some (.ref a2), some (.int x3)] [.int s0, .int s1, .ref s2] σ P ↔ wp 204 172 [some (.ref a0), some (.ref a1), some (.ref a2), some (.int x3)] [.int 0, .int s0, .int s1, .ref s2] σ P := by
  refine (wp_ic (n' := 172) rfl (zcode_of mc_204 (r := (.iconst 0, 0, 0, 0)) rfl) ci_0).trans ?_
  exact Iff.rfl
set_option maxRecDepth 20000 in
theorem b204_172 {σ : zSt} {P : Option Value → zSt → Prop} {a0 a1 a2 s3 : Nat} {x3 s0 s1 s2 : Int32} {n : Nat} (hs : ztg σ a0 = (4, 12, n)) :
    wp 204 172 [some (.ref a0), some (.ref a1), some (.ref a2), some (.int x3)] [.int s0, .int s1, .int s2, .ref s3] σ P ↔ (zIs σ s3 11 ∧ wpM 82 [.ref s3, .int s2, .int s1, .int s0] σ (fun r τ => wp 204 175 [some (.ref a0), some (.ref a1), some (.ref a2), some (.int x3)] (r.toList ++ []) τ P)) := by
  refine (wc_isV (cl := 11) (rest := []) (zcode_of mc_204 (r := (.invokevirtual 13, 82, 0, 3)) rfl) rfl rfl rfl).trans (and_congr_right fun h1 => ?_)
  exact wp_call (q := ([.ref s3, .int s2, .int s1, .int s0], [])) (zcode_of mc_204 (r := (.invokevirtual 13, 82, 0, 3)) rfl) rfl (zCa_V (Nat.le_of_ble_eq_true rfl) rfl h1) ⟨Nat.le_of_ble_eq_true rfl, Nat.le_of_ble_eq_true rfl⟩
set_option maxRecDepth 20000 in
theorem b204_175 {σ : zSt} {P : Option Value → zSt → Prop} {a0 a1 a2 : Nat} {x3 s0 : Int32} {n : Nat} (hs : ztg σ a0 = (4, 12, n)) :
    wp 204 175 [some (.ref a0), some (.ref a1), some (.ref a2), some (.int x3)] [.int s0] σ P ↔ (zIn (x3 + 1) n ∧ (zIn (x3 + 2) n ∧ (zIn (x3 + 3) n ∧ (if (zai σ 12 a0 (Int32.toNatClampNeg (x3 + 3))) = 0 then wp 204 198 [some (.ref a0), some (.ref a1), some (.ref a2), some (.int x3)] [.int (zai σ 12 a0 (Int32.toNatClampNeg (x3 + 2))), .int (zai σ 12 a0 (Int32.toNatClampNeg (x3 + 1))), .ref a2, .int s0] σ P else wp 204 194 [some (.ref a0), some (.ref a1), some (.ref a2), some (.int x3)] [.int (zai σ 12 a0 (Int32.toNatClampNeg (x3 + 2))), .int (zai σ 12 a0 (Int32.toNatClampNeg (x3 + 1))), .ref a2, .int s0] σ P)))) := by
  refine (wp_s (n := 176) (zcode_of mc_204 (r := (.aload_n 2, 0, 0, 0)) rfl) rfl rfl).trans ?_
  refine (wp_s (n := 177) (zcode_of mc_204 (r := (.aload_n 0, 0, 0, 0)) rfl) rfl rfl).trans ?_
  refine (wp_s (n := 178) (zcode_of mc_204 (r := (.iload_n 3, 0, 0, 0)) rfl) rfl rfl).trans ?_
  refine (wp_ic (n' := 179) rfl (zcode_of mc_204 (r := (.iconst 1, 0, 0, 0)) rfl) ci_1).trans ?_
  refine (wp_s (n := 180) (zcode_of mc_204 (r := (.iadd, 0, 0, 0)) rfl) rfl rfl).trans ?_
  refine (wc_ldS (n' := 181) rfl (zcode_of mc_204 (r := (.iaload, 0, 0, 0)) rfl) hs rfl).trans (and_congr_right fun h1 => ?_)
  refine (wp_s (n := 182) (zcode_of mc_204 (r := (.aload_n 0, 0, 0, 0)) rfl) rfl rfl).trans ?_
  refine (wp_s (n := 183) (zcode_of mc_204 (r := (.iload_n 3, 0, 0, 0)) rfl) rfl rfl).trans ?_
  refine (wp_ic (n' := 184) rfl (zcode_of mc_204 (r := (.iconst 2, 0, 0, 0)) rfl) ci_2).trans ?_
  refine (wp_s (n := 185) (zcode_of mc_204 (r := (.iadd, 0, 0, 0)) rfl) rfl rfl).trans ?_
  refine (wc_ldS (n' := 186) rfl (zcode_of mc_204 (r := (.iaload, 0, 0, 0)) rfl) hs rfl).trans (and_congr_right fun h2 => ?_)
  refine (wp_s (n := 187) (zcode_of mc_204 (r := (.aload_n 0, 0, 0, 0)) rfl) rfl rfl).trans ?_
  refine (wp_s (n := 188) (zcode_of mc_204 (r := (.iload_n 3, 0, 0, 0)) rfl) rfl rfl).trans ?_
  refine (wp_ic (n' := 189) rfl (zcode_of mc_204 (r := (.iconst 3, 0, 0, 0)) rfl) ci_3).trans ?_
  refine (wp_s (n := 190) (zcode_of mc_204 (r := (.iadd, 0, 0, 0)) rfl) rfl rfl).trans ?_
  refine (wc_ldS (n' := 191) rfl (zcode_of mc_204 (r := (.iaload, 0, 0, 0)) rfl) hs rfl).trans (and_congr_right fun h3 => ?_)
  exact wp_jump (off := 7) (t := 198) (zcode_of mc_204 (r := (.ifCond .eq 7, 0, 0, 0)) rfl) rfl rfl (by decide)
set_option maxRecDepth 20000 in
theorem b204_194 {σ : zSt} {P : Option Value → zSt → Prop} {a0 a1 a2 s2 : Nat} {x3 s0 s1 s3 : Int32} {n : Nat} (hs : ztg σ a0 = (4, 12, n)) :
    wp 204 194 [some (.ref a0), some (.ref a1), some (.ref a2), some (.int x3)] [.int s0, .int s1, .ref s2, .int s3] σ P ↔ wp 204 199 [some (.ref a0), some (.ref a1), some (.ref a2), some (.int x3)] [.int 1, .int s0, .int s1, .ref s2, .int s3] σ P := by
  refine (wp_ic (n' := 195) rfl (zcode_of mc_204 (r := (.iconst 1, 0, 0, 0)) rfl) ci_1).trans ?_
  exact wp_goto (off := 4) (t := 199) (zcode_of mc_204 (r := (.goto 4, 0, 0, 0)) rfl) (by decide)
set_option maxRecDepth 20000 in
theorem b204_198 {σ : zSt} {P : Option Value → zSt → Prop} {a0 a1 a2 s2 : Nat} {x3 s0 s1 s3 : Int32} {n : Nat} (hs : ztg σ a0 = (4, 12, n)) :
    wp 204 198 [some (.ref a0), some (.ref a1), some (.ref a2), some (.int x3)] [.int s0, .int s1, .ref s2, .int s3] σ P ↔ wp 204 199 [some (.ref a0), some (.ref a1), some (.ref a2), some (.int x3)] [.int 0, .int s0, .int s1, .ref s2, .int s3] σ P := by
  refine (wp_ic (n' := 199) rfl (zcode_of mc_204 (r := (.iconst 0, 0, 0, 0)) rfl) ci_0).trans ?_
  exact Iff.rfl
set_option maxRecDepth 20000 in
theorem b204_199 {σ : zSt} {P : Option Value → zSt → Prop} {a0 a1 a2 s3 : Nat} {x3 s0 s1 s2 s4 : Int32} {n : Nat} (hs : ztg σ a0 = (4, 12, n)) :
    wp 204 199 [some (.ref a0), some (.ref a1), some (.ref a2), some (.int x3)] [.int s0, .int s1, .int s2, .ref s3, .int s4] σ P ↔ (zIs σ s3 12 ∧ wpM 116 [.ref s3, .int s2, .int s1, .int s0] σ (fun r τ => wp 204 202 [some (.ref a0), some (.ref a1), some (.ref a2), some (.int x3)] (r.toList ++ [.int s4]) τ P)) := by
  refine (wc_isV (cl := 12) (rest := [.int s4]) (zcode_of mc_204 (r := (.invokevirtual 17, 116, 0, 3)) rfl) rfl rfl rfl).trans (and_congr_right fun h1 => ?_)
  exact wp_call (q := ([.ref s3, .int s2, .int s1, .int s0], [.int s4])) (zcode_of mc_204 (r := (.invokevirtual 17, 116, 0, 3)) rfl) rfl (zCa_V (Nat.le_of_ble_eq_true rfl) rfl h1) ⟨Nat.le_of_ble_eq_true rfl, Nat.le_of_ble_eq_true rfl⟩
set_option maxRecDepth 20000 in
theorem b204_202 {σ : zSt} {P : Option Value → zSt → Prop} {a0 a1 a2 : Nat} {x3 s0 s1 : Int32} {n : Nat} (hs : ztg σ a0 = (4, 12, n)) :
    wp 204 202 [some (.ref a0), some (.ref a1), some (.ref a2), some (.int x3)] [.int s0, .int s1] σ P ↔ (if s1 = s0 then wp 204 941 [some (.ref a0), some (.ref a1), some (.ref a2), some (.int x3)] [] σ P else wp 204 205 [some (.ref a0), some (.ref a1), some (.ref a2), some (.int x3)] [] σ P) := by
  exact wp_jump (off := 739) (t := 941) (zcode_of mc_204 (r := (.if_icmp .eq 739, 0, 0, 0)) rfl) rfl rfl (by decide)
set_option maxRecDepth 20000 in
theorem b204_205 {σ : zSt} {P : Option Value → zSt → Prop} {a0 a1 a2 : Nat} {x3 : Int32} {n : Nat} (hs : ztg σ a0 = (4, 12, n)) :
    wp 204 205 [some (.ref a0), some (.ref a1), some (.ref a2), some (.int x3)] [] σ P ↔ (((0 : Int32) = 0 ∨ (0 : Int32) = 1) ∧ P (some (.int 0)) σ) := by
  refine (wp_ic (n' := 206) rfl (zcode_of mc_204 (r := (.iconst 0, 0, 0, 0)) rfl) ci_0).trans ?_
  exact wp_retZ (zcode_of mc_204 (r := (.ireturn, 0, 0, 0)) rfl) rfl
set_option maxRecDepth 20000 in
theorem b204_207 {σ : zSt} {P : Option Value → zSt → Prop} {a0 a1 a2 : Nat} {x3 : Int32} {n : Nat} (hs : ztg σ a0 = (4, 12, n)) :
    wp 204 207 [some (.ref a0), some (.ref a1), some (.ref a2), some (.int x3)] [] σ P ↔ (zIn (x3 + 1) n ∧ (zIn (x3 + 2) n ∧ (zIs σ a1 11 ∧ wpM 83 [.ref a1, .int (zai σ 12 a0 (Int32.toNatClampNeg (x3 + 1))), .int (zai σ 12 a0 (Int32.toNatClampNeg (x3 + 2)))] σ (fun r τ => wp 204 221 [some (.ref a0), some (.ref a1), some (.ref a2), some (.int x3)] (r.toList ++ []) τ P)))) := by
  refine (wp_s (n := 208) (zcode_of mc_204 (r := (.aload_n 1, 0, 0, 0)) rfl) rfl rfl).trans ?_
  refine (wp_s (n := 209) (zcode_of mc_204 (r := (.aload_n 0, 0, 0, 0)) rfl) rfl rfl).trans ?_
  refine (wp_s (n := 210) (zcode_of mc_204 (r := (.iload_n 3, 0, 0, 0)) rfl) rfl rfl).trans ?_
  refine (wp_ic (n' := 211) rfl (zcode_of mc_204 (r := (.iconst 1, 0, 0, 0)) rfl) ci_1).trans ?_
  refine (wp_s (n := 212) (zcode_of mc_204 (r := (.iadd, 0, 0, 0)) rfl) rfl rfl).trans ?_
  refine (wc_ldS (n' := 213) rfl (zcode_of mc_204 (r := (.iaload, 0, 0, 0)) rfl) hs rfl).trans (and_congr_right fun h1 => ?_)
  refine (wp_s (n := 214) (zcode_of mc_204 (r := (.aload_n 0, 0, 0, 0)) rfl) rfl rfl).trans ?_
  refine (wp_s (n := 215) (zcode_of mc_204 (r := (.iload_n 3, 0, 0, 0)) rfl) rfl rfl).trans ?_
  refine (wp_ic (n' := 216) rfl (zcode_of mc_204 (r := (.iconst 2, 0, 0, 0)) rfl) ci_2).trans ?_
  refine (wp_s (n := 217) (zcode_of mc_204 (r := (.iadd, 0, 0, 0)) rfl) rfl rfl).trans ?_
  refine (wc_ldS (n' := 218) rfl (zcode_of mc_204 (r := (.iaload, 0, 0, 0)) rfl) hs rfl).trans (and_congr_right fun h2 => ?_)
  refine (wc_isV (cl := 11) (rest := []) (zcode_of mc_204 (r := (.invokevirtual 18, 83, 0, 2)) rfl) rfl rfl rfl).trans (and_congr_right fun h3 => ?_)
  exact wp_call (q := ([.ref a1, .int (zai σ 12 a0 (Int32.toNatClampNeg (x3 + 1))), .int (zai σ 12 a0 (Int32.toNatClampNeg (x3 + 2)))], [])) (zcode_of mc_204 (r := (.invokevirtual 18, 83, 0, 2)) rfl) rfl (zCa_V (Nat.le_of_ble_eq_true rfl) rfl h3) ⟨Nat.le_of_ble_eq_true rfl, Nat.le_of_ble_eq_true rfl⟩
set_option maxRecDepth 20000 in
theorem b204_221 {σ : zSt} {P : Option Value → zSt → Prop} {a0 a1 a2 : Nat} {x3 s0 : Int32} {n : Nat} (hs : ztg σ a0 = (4, 12, n)) :
    wp 204 221 [some (.ref a0), some (.ref a1), some (.ref a2), some (.int x3)] [.int s0] σ P ↔ (zIn (x3 + 1) n ∧ (zIn (x3 + 2) n ∧ (zIs σ a2 12 ∧ wpM 117 [.ref a2, .int (zai σ 12 a0 (Int32.toNatClampNeg (x3 + 1))), .int (zai σ 12 a0 (Int32.toNatClampNeg (x3 + 2)))] σ (fun r τ => wp 204 235 [some (.ref a0), some (.ref a1), some (.ref a2), some (.int x3)] (r.toList ++ [.int s0]) τ P)))) := by
  refine (wp_s (n := 222) (zcode_of mc_204 (r := (.aload_n 2, 0, 0, 0)) rfl) rfl rfl).trans ?_
  refine (wp_s (n := 223) (zcode_of mc_204 (r := (.aload_n 0, 0, 0, 0)) rfl) rfl rfl).trans ?_
  refine (wp_s (n := 224) (zcode_of mc_204 (r := (.iload_n 3, 0, 0, 0)) rfl) rfl rfl).trans ?_
  refine (wp_ic (n' := 225) rfl (zcode_of mc_204 (r := (.iconst 1, 0, 0, 0)) rfl) ci_1).trans ?_
  refine (wp_s (n := 226) (zcode_of mc_204 (r := (.iadd, 0, 0, 0)) rfl) rfl rfl).trans ?_
  refine (wc_ldS (n' := 227) rfl (zcode_of mc_204 (r := (.iaload, 0, 0, 0)) rfl) hs rfl).trans (and_congr_right fun h1 => ?_)
  refine (wp_s (n := 228) (zcode_of mc_204 (r := (.aload_n 0, 0, 0, 0)) rfl) rfl rfl).trans ?_
  refine (wp_s (n := 229) (zcode_of mc_204 (r := (.iload_n 3, 0, 0, 0)) rfl) rfl rfl).trans ?_
  refine (wp_ic (n' := 230) rfl (zcode_of mc_204 (r := (.iconst 2, 0, 0, 0)) rfl) ci_2).trans ?_
  refine (wp_s (n := 231) (zcode_of mc_204 (r := (.iadd, 0, 0, 0)) rfl) rfl rfl).trans ?_
  refine (wc_ldS (n' := 232) rfl (zcode_of mc_204 (r := (.iaload, 0, 0, 0)) rfl) hs rfl).trans (and_congr_right fun h2 => ?_)
  refine (wc_isV (cl := 12) (rest := [.int s0]) (zcode_of mc_204 (r := (.invokevirtual 22, 117, 0, 2)) rfl) rfl rfl rfl).trans (and_congr_right fun h3 => ?_)
  exact wp_call (q := ([.ref a2, .int (zai σ 12 a0 (Int32.toNatClampNeg (x3 + 1))), .int (zai σ 12 a0 (Int32.toNatClampNeg (x3 + 2)))], [.int s0])) (zcode_of mc_204 (r := (.invokevirtual 22, 117, 0, 2)) rfl) rfl (zCa_V (Nat.le_of_ble_eq_true rfl) rfl h3) ⟨Nat.le_of_ble_eq_true rfl, Nat.le_of_ble_eq_true rfl⟩
set_option maxRecDepth 20000 in
theorem b204_235 {σ : zSt} {P : Option Value → zSt → Prop} {a0 a1 a2 : Nat} {x3 s0 s1 : Int32} {n : Nat} (hs : ztg σ a0 = (4, 12, n)) :
    wp 204 235 [some (.ref a0), some (.ref a1), some (.ref a2), some (.int x3)] [.int s0, .int s1] σ P ↔ (if s1 = s0 then wp 204 941 [some (.ref a0), some (.ref a1), some (.ref a2), some (.int x3)] [] σ P else wp 204 238 [some (.ref a0), some (.ref a1), some (.ref a2), some (.int x3)] [] σ P) := by
  exact wp_jump (off := 706) (t := 941) (zcode_of mc_204 (r := (.if_icmp .eq 706, 0, 0, 0)) rfl) rfl rfl (by decide)
set_option maxRecDepth 20000 in
theorem b204_238 {σ : zSt} {P : Option Value → zSt → Prop} {a0 a1 a2 : Nat} {x3 : Int32} {n : Nat} (hs : ztg σ a0 = (4, 12, n)) :
    wp 204 238 [some (.ref a0), some (.ref a1), some (.ref a2), some (.int x3)] [] σ P ↔ (((0 : Int32) = 0 ∨ (0 : Int32) = 1) ∧ P (some (.int 0)) σ) := by
  refine (wp_ic (n' := 239) rfl (zcode_of mc_204 (r := (.iconst 0, 0, 0, 0)) rfl) ci_0).trans ?_
  exact wp_retZ (zcode_of mc_204 (r := (.ireturn, 0, 0, 0)) rfl) rfl
set_option maxRecDepth 20000 in
theorem b204_240 {σ : zSt} {P : Option Value → zSt → Prop} {a0 a1 a2 : Nat} {x3 : Int32} {n : Nat} (hs : ztg σ a0 = (4, 12, n)) :
    wp 204 240 [some (.ref a0), some (.ref a1), some (.ref a2), some (.int x3)] [] σ P ↔ (zIn (x3 + 1) n ∧ (zIn (x3 + 2) n ∧ (zIn (x3 + 3) n ∧ (zIs σ a1 11 ∧ wpM 84 [.ref a1, .long (((Int32.toInt64 (zai σ 12 a0 (Int32.toNatClampNeg (x3 + 1)))) <<< (Int32.toInt64 32 &&& 63)) ||| ((Int32.toInt64 (zai σ 12 a0 (Int32.toNatClampNeg (x3 + 2)))) &&& 4294967295)), .int (zai σ 12 a0 (Int32.toNatClampNeg (x3 + 3)))] σ (fun r τ => wp 204 269 [some (.ref a0), some (.ref a1), some (.ref a2), some (.int x3)] (r.toList ++ []) τ P))))) := by
  refine (wp_s (n := 241) (zcode_of mc_204 (r := (.aload_n 1, 0, 0, 0)) rfl) rfl rfl).trans ?_
  refine (wp_s (n := 242) (zcode_of mc_204 (r := (.aload_n 0, 0, 0, 0)) rfl) rfl rfl).trans ?_
  refine (wp_s (n := 243) (zcode_of mc_204 (r := (.iload_n 3, 0, 0, 0)) rfl) rfl rfl).trans ?_
  refine (wp_ic (n' := 244) rfl (zcode_of mc_204 (r := (.iconst 1, 0, 0, 0)) rfl) ci_1).trans ?_
  refine (wp_s (n := 245) (zcode_of mc_204 (r := (.iadd, 0, 0, 0)) rfl) rfl rfl).trans ?_
  refine (wc_ldS (n' := 246) rfl (zcode_of mc_204 (r := (.iaload, 0, 0, 0)) rfl) hs rfl).trans (and_congr_right fun h1 => ?_)
  refine (wp_s (n := 247) (zcode_of mc_204 (r := (.i2l, 0, 0, 0)) rfl) rfl rfl).trans ?_
  refine (wp_bp (n' := 249) rfl (zcode_of mc_204 (r := (.bipush 32, 0, 0, 0)) rfl) cb_32).trans ?_
  refine (wp_s (n := 250) (zcode_of mc_204 (r := (.lshl, 0, 0, 0)) rfl) rfl rfl).trans ?_
  refine (wp_s (n := 251) (zcode_of mc_204 (r := (.aload_n 0, 0, 0, 0)) rfl) rfl rfl).trans ?_
  refine (wp_s (n := 252) (zcode_of mc_204 (r := (.iload_n 3, 0, 0, 0)) rfl) rfl rfl).trans ?_
  refine (wp_ic (n' := 253) rfl (zcode_of mc_204 (r := (.iconst 2, 0, 0, 0)) rfl) ci_2).trans ?_
  refine (wp_s (n := 254) (zcode_of mc_204 (r := (.iadd, 0, 0, 0)) rfl) rfl rfl).trans ?_
  refine (wc_ldS (n' := 255) rfl (zcode_of mc_204 (r := (.iaload, 0, 0, 0)) rfl) hs rfl).trans (and_congr_right fun h2 => ?_)
  refine (wp_s (n := 256) (zcode_of mc_204 (r := (.i2l, 0, 0, 0)) rfl) rfl rfl).trans ?_
  refine (wp_ldc2 (n' := 259) rfl (zcode_of mc_204 (r := (.ldc2_w 23, 0, 0, 4294967295)) rfl) cl_4294967295).trans ?_
  refine (wp_s (n := 260) (zcode_of mc_204 (r := (.land, 0, 0, 0)) rfl) rfl rfl).trans ?_
  refine (wp_s (n := 261) (zcode_of mc_204 (r := (.lor, 0, 0, 0)) rfl) rfl rfl).trans ?_
  refine (wp_s (n := 262) (zcode_of mc_204 (r := (.aload_n 0, 0, 0, 0)) rfl) rfl rfl).trans ?_
  refine (wp_s (n := 263) (zcode_of mc_204 (r := (.iload_n 3, 0, 0, 0)) rfl) rfl rfl).trans ?_
  refine (wp_ic (n' := 264) rfl (zcode_of mc_204 (r := (.iconst 3, 0, 0, 0)) rfl) ci_3).trans ?_
  refine (wp_s (n := 265) (zcode_of mc_204 (r := (.iadd, 0, 0, 0)) rfl) rfl rfl).trans ?_
  refine (wc_ldS (n' := 266) rfl (zcode_of mc_204 (r := (.iaload, 0, 0, 0)) rfl) hs rfl).trans (and_congr_right fun h3 => ?_)
  refine (wc_isV (cl := 11) (rest := []) (zcode_of mc_204 (r := (.invokevirtual 25, 84, 0, 2)) rfl) rfl rfl rfl).trans (and_congr_right fun h4 => ?_)
  exact wp_call (q := ([.ref a1, .long (((Int32.toInt64 (zai σ 12 a0 (Int32.toNatClampNeg (x3 + 1)))) <<< (Int32.toInt64 32 &&& 63)) ||| ((Int32.toInt64 (zai σ 12 a0 (Int32.toNatClampNeg (x3 + 2)))) &&& 4294967295)), .int (zai σ 12 a0 (Int32.toNatClampNeg (x3 + 3)))], [])) (zcode_of mc_204 (r := (.invokevirtual 25, 84, 0, 2)) rfl) rfl (zCa_V (Nat.le_of_ble_eq_true rfl) rfl h4) ⟨Nat.le_of_ble_eq_true rfl, Nat.le_of_ble_eq_true rfl⟩
set_option maxRecDepth 20000 in
theorem b204_269 {σ : zSt} {P : Option Value → zSt → Prop} {a0 a1 a2 : Nat} {x3 s0 : Int32} {n : Nat} (hs : ztg σ a0 = (4, 12, n)) :
    wp 204 269 [some (.ref a0), some (.ref a1), some (.ref a2), some (.int x3)] [.int s0] σ P ↔ (zIn (x3 + 1) n ∧ (zIn (x3 + 2) n ∧ (zIn (x3 + 3) n ∧ (zIs σ a2 12 ∧ wpM 118 [.ref a2, .long (((Int32.toInt64 (zai σ 12 a0 (Int32.toNatClampNeg (x3 + 1)))) <<< (Int32.toInt64 32 &&& 63)) ||| ((Int32.toInt64 (zai σ 12 a0 (Int32.toNatClampNeg (x3 + 2)))) &&& 4294967295)), .int (zai σ 12 a0 (Int32.toNatClampNeg (x3 + 3)))] σ (fun r τ => wp 204 298 [some (.ref a0), some (.ref a1), some (.ref a2), some (.int x3)] (r.toList ++ [.int s0]) τ P))))) := by
  refine (wp_s (n := 270) (zcode_of mc_204 (r := (.aload_n 2, 0, 0, 0)) rfl) rfl rfl).trans ?_
  refine (wp_s (n := 271) (zcode_of mc_204 (r := (.aload_n 0, 0, 0, 0)) rfl) rfl rfl).trans ?_
  refine (wp_s (n := 272) (zcode_of mc_204 (r := (.iload_n 3, 0, 0, 0)) rfl) rfl rfl).trans ?_
  refine (wp_ic (n' := 273) rfl (zcode_of mc_204 (r := (.iconst 1, 0, 0, 0)) rfl) ci_1).trans ?_
  refine (wp_s (n := 274) (zcode_of mc_204 (r := (.iadd, 0, 0, 0)) rfl) rfl rfl).trans ?_
  refine (wc_ldS (n' := 275) rfl (zcode_of mc_204 (r := (.iaload, 0, 0, 0)) rfl) hs rfl).trans (and_congr_right fun h1 => ?_)
  refine (wp_s (n := 276) (zcode_of mc_204 (r := (.i2l, 0, 0, 0)) rfl) rfl rfl).trans ?_
  refine (wp_bp (n' := 278) rfl (zcode_of mc_204 (r := (.bipush 32, 0, 0, 0)) rfl) cb_32).trans ?_
  refine (wp_s (n := 279) (zcode_of mc_204 (r := (.lshl, 0, 0, 0)) rfl) rfl rfl).trans ?_
  refine (wp_s (n := 280) (zcode_of mc_204 (r := (.aload_n 0, 0, 0, 0)) rfl) rfl rfl).trans ?_
  refine (wp_s (n := 281) (zcode_of mc_204 (r := (.iload_n 3, 0, 0, 0)) rfl) rfl rfl).trans ?_
  refine (wp_ic (n' := 282) rfl (zcode_of mc_204 (r := (.iconst 2, 0, 0, 0)) rfl) ci_2).trans ?_
  refine (wp_s (n := 283) (zcode_of mc_204 (r := (.iadd, 0, 0, 0)) rfl) rfl rfl).trans ?_
  refine (wc_ldS (n' := 284) rfl (zcode_of mc_204 (r := (.iaload, 0, 0, 0)) rfl) hs rfl).trans (and_congr_right fun h2 => ?_)
  refine (wp_s (n := 285) (zcode_of mc_204 (r := (.i2l, 0, 0, 0)) rfl) rfl rfl).trans ?_
  refine (wp_ldc2 (n' := 288) rfl (zcode_of mc_204 (r := (.ldc2_w 23, 0, 0, 4294967295)) rfl) cl_4294967295).trans ?_
  refine (wp_s (n := 289) (zcode_of mc_204 (r := (.land, 0, 0, 0)) rfl) rfl rfl).trans ?_
  refine (wp_s (n := 290) (zcode_of mc_204 (r := (.lor, 0, 0, 0)) rfl) rfl rfl).trans ?_
  refine (wp_s (n := 291) (zcode_of mc_204 (r := (.aload_n 0, 0, 0, 0)) rfl) rfl rfl).trans ?_
  refine (wp_s (n := 292) (zcode_of mc_204 (r := (.iload_n 3, 0, 0, 0)) rfl) rfl rfl).trans ?_
  refine (wp_ic (n' := 293) rfl (zcode_of mc_204 (r := (.iconst 3, 0, 0, 0)) rfl) ci_3).trans ?_
  refine (wp_s (n := 294) (zcode_of mc_204 (r := (.iadd, 0, 0, 0)) rfl) rfl rfl).trans ?_
  refine (wc_ldS (n' := 295) rfl (zcode_of mc_204 (r := (.iaload, 0, 0, 0)) rfl) hs rfl).trans (and_congr_right fun h3 => ?_)
  refine (wc_isV (cl := 12) (rest := [.int s0]) (zcode_of mc_204 (r := (.invokevirtual 29, 118, 0, 2)) rfl) rfl rfl rfl).trans (and_congr_right fun h4 => ?_)
  exact wp_call (q := ([.ref a2, .long (((Int32.toInt64 (zai σ 12 a0 (Int32.toNatClampNeg (x3 + 1)))) <<< (Int32.toInt64 32 &&& 63)) ||| ((Int32.toInt64 (zai σ 12 a0 (Int32.toNatClampNeg (x3 + 2)))) &&& 4294967295)), .int (zai σ 12 a0 (Int32.toNatClampNeg (x3 + 3)))], [.int s0])) (zcode_of mc_204 (r := (.invokevirtual 29, 118, 0, 2)) rfl) rfl (zCa_V (Nat.le_of_ble_eq_true rfl) rfl h4) ⟨Nat.le_of_ble_eq_true rfl, Nat.le_of_ble_eq_true rfl⟩
set_option maxRecDepth 20000 in
theorem b204_298 {σ : zSt} {P : Option Value → zSt → Prop} {a0 a1 a2 : Nat} {x3 s0 s1 : Int32} {n : Nat} (hs : ztg σ a0 = (4, 12, n)) :
    wp 204 298 [some (.ref a0), some (.ref a1), some (.ref a2), some (.int x3)] [.int s0, .int s1] σ P ↔ (if s1 = s0 then wp 204 941 [some (.ref a0), some (.ref a1), some (.ref a2), some (.int x3)] [] σ P else wp 204 301 [some (.ref a0), some (.ref a1), some (.ref a2), some (.int x3)] [] σ P) := by
  exact wp_jump (off := 643) (t := 941) (zcode_of mc_204 (r := (.if_icmp .eq 643, 0, 0, 0)) rfl) rfl rfl (by decide)
set_option maxRecDepth 20000 in
theorem b204_301 {σ : zSt} {P : Option Value → zSt → Prop} {a0 a1 a2 : Nat} {x3 : Int32} {n : Nat} (hs : ztg σ a0 = (4, 12, n)) :
    wp 204 301 [some (.ref a0), some (.ref a1), some (.ref a2), some (.int x3)] [] σ P ↔ (((0 : Int32) = 0 ∨ (0 : Int32) = 1) ∧ P (some (.int 0)) σ) := by
  refine (wp_ic (n' := 302) rfl (zcode_of mc_204 (r := (.iconst 0, 0, 0, 0)) rfl) ci_0).trans ?_
  exact wp_retZ (zcode_of mc_204 (r := (.ireturn, 0, 0, 0)) rfl) rfl
set_option maxRecDepth 20000 in
theorem b204_303 {σ : zSt} {P : Option Value → zSt → Prop} {a0 a1 a2 : Nat} {x3 : Int32} {n : Nat} (hs : ztg σ a0 = (4, 12, n)) :
    wp 204 303 [some (.ref a0), some (.ref a1), some (.ref a2), some (.int x3)] [] σ P ↔ (zIn (x3 + 1) n ∧ (zIn (x3 + 2) n ∧ (zIs σ a1 11 ∧ wpM 85 [.ref a1, .int (zai σ 12 a0 (Int32.toNatClampNeg (x3 + 1))), .int (zai σ 12 a0 (Int32.toNatClampNeg (x3 + 2)))] σ (fun r τ => wp 204 317 [some (.ref a0), some (.ref a1), some (.ref a2), some (.int x3)] (r.toList ++ []) τ P)))) := by
  refine (wp_s (n := 304) (zcode_of mc_204 (r := (.aload_n 1, 0, 0, 0)) rfl) rfl rfl).trans ?_
  refine (wp_s (n := 305) (zcode_of mc_204 (r := (.aload_n 0, 0, 0, 0)) rfl) rfl rfl).trans ?_
  refine (wp_s (n := 306) (zcode_of mc_204 (r := (.iload_n 3, 0, 0, 0)) rfl) rfl rfl).trans ?_
  refine (wp_ic (n' := 307) rfl (zcode_of mc_204 (r := (.iconst 1, 0, 0, 0)) rfl) ci_1).trans ?_
  refine (wp_s (n := 308) (zcode_of mc_204 (r := (.iadd, 0, 0, 0)) rfl) rfl rfl).trans ?_
  refine (wc_ldS (n' := 309) rfl (zcode_of mc_204 (r := (.iaload, 0, 0, 0)) rfl) hs rfl).trans (and_congr_right fun h1 => ?_)
  refine (wp_s (n := 310) (zcode_of mc_204 (r := (.aload_n 0, 0, 0, 0)) rfl) rfl rfl).trans ?_
  refine (wp_s (n := 311) (zcode_of mc_204 (r := (.iload_n 3, 0, 0, 0)) rfl) rfl rfl).trans ?_
  refine (wp_ic (n' := 312) rfl (zcode_of mc_204 (r := (.iconst 2, 0, 0, 0)) rfl) ci_2).trans ?_
  refine (wp_s (n := 313) (zcode_of mc_204 (r := (.iadd, 0, 0, 0)) rfl) rfl rfl).trans ?_
  refine (wc_ldS (n' := 314) rfl (zcode_of mc_204 (r := (.iaload, 0, 0, 0)) rfl) hs rfl).trans (and_congr_right fun h2 => ?_)
  refine (wc_isV (cl := 11) (rest := []) (zcode_of mc_204 (r := (.invokevirtual 30, 85, 0, 2)) rfl) rfl rfl rfl).trans (and_congr_right fun h3 => ?_)
  exact wp_call (q := ([.ref a1, .int (zai σ 12 a0 (Int32.toNatClampNeg (x3 + 1))), .int (zai σ 12 a0 (Int32.toNatClampNeg (x3 + 2)))], [])) (zcode_of mc_204 (r := (.invokevirtual 30, 85, 0, 2)) rfl) rfl (zCa_V (Nat.le_of_ble_eq_true rfl) rfl h3) ⟨Nat.le_of_ble_eq_true rfl, Nat.le_of_ble_eq_true rfl⟩
set_option maxRecDepth 20000 in
theorem b204_317 {σ : zSt} {P : Option Value → zSt → Prop} {a0 a1 a2 : Nat} {x3 s0 : Int32} {n : Nat} (hs : ztg σ a0 = (4, 12, n)) :
    wp 204 317 [some (.ref a0), some (.ref a1), some (.ref a2), some (.int x3)] [.int s0] σ P ↔ (zIn (x3 + 1) n ∧ (zIn (x3 + 2) n ∧ (zIs σ a2 12 ∧ wpM 121 [.ref a2, .int (zai σ 12 a0 (Int32.toNatClampNeg (x3 + 1))), .int (zai σ 12 a0 (Int32.toNatClampNeg (x3 + 2)))] σ (fun r τ => wp 204 331 [some (.ref a0), some (.ref a1), some (.ref a2), some (.int x3)] (r.toList ++ [.int s0]) τ P)))) := by
  refine (wp_s (n := 318) (zcode_of mc_204 (r := (.aload_n 2, 0, 0, 0)) rfl) rfl rfl).trans ?_
  refine (wp_s (n := 319) (zcode_of mc_204 (r := (.aload_n 0, 0, 0, 0)) rfl) rfl rfl).trans ?_
  refine (wp_s (n := 320) (zcode_of mc_204 (r := (.iload_n 3, 0, 0, 0)) rfl) rfl rfl).trans ?_
  refine (wp_ic (n' := 321) rfl (zcode_of mc_204 (r := (.iconst 1, 0, 0, 0)) rfl) ci_1).trans ?_
  refine (wp_s (n := 322) (zcode_of mc_204 (r := (.iadd, 0, 0, 0)) rfl) rfl rfl).trans ?_
  refine (wc_ldS (n' := 323) rfl (zcode_of mc_204 (r := (.iaload, 0, 0, 0)) rfl) hs rfl).trans (and_congr_right fun h1 => ?_)
  refine (wp_s (n := 324) (zcode_of mc_204 (r := (.aload_n 0, 0, 0, 0)) rfl) rfl rfl).trans ?_
  refine (wp_s (n := 325) (zcode_of mc_204 (r := (.iload_n 3, 0, 0, 0)) rfl) rfl rfl).trans ?_
  refine (wp_ic (n' := 326) rfl (zcode_of mc_204 (r := (.iconst 2, 0, 0, 0)) rfl) ci_2).trans ?_
  refine (wp_s (n := 327) (zcode_of mc_204 (r := (.iadd, 0, 0, 0)) rfl) rfl rfl).trans ?_
  refine (wc_ldS (n' := 328) rfl (zcode_of mc_204 (r := (.iaload, 0, 0, 0)) rfl) hs rfl).trans (and_congr_right fun h2 => ?_)
  refine (wc_isV (cl := 12) (rest := [.int s0]) (zcode_of mc_204 (r := (.invokevirtual 33, 121, 0, 2)) rfl) rfl rfl rfl).trans (and_congr_right fun h3 => ?_)
  exact wp_call (q := ([.ref a2, .int (zai σ 12 a0 (Int32.toNatClampNeg (x3 + 1))), .int (zai σ 12 a0 (Int32.toNatClampNeg (x3 + 2)))], [.int s0])) (zcode_of mc_204 (r := (.invokevirtual 33, 121, 0, 2)) rfl) rfl (zCa_V (Nat.le_of_ble_eq_true rfl) rfl h3) ⟨Nat.le_of_ble_eq_true rfl, Nat.le_of_ble_eq_true rfl⟩
set_option maxRecDepth 20000 in
theorem b204_331 {σ : zSt} {P : Option Value → zSt → Prop} {a0 a1 a2 : Nat} {x3 s0 s1 : Int32} {n : Nat} (hs : ztg σ a0 = (4, 12, n)) :
    wp 204 331 [some (.ref a0), some (.ref a1), some (.ref a2), some (.int x3)] [.int s0, .int s1] σ P ↔ (if s1 = s0 then wp 204 941 [some (.ref a0), some (.ref a1), some (.ref a2), some (.int x3)] [] σ P else wp 204 334 [some (.ref a0), some (.ref a1), some (.ref a2), some (.int x3)] [] σ P) := by
  exact wp_jump (off := 610) (t := 941) (zcode_of mc_204 (r := (.if_icmp .eq 610, 0, 0, 0)) rfl) rfl rfl (by decide)
set_option maxRecDepth 20000 in
theorem b204_334 {σ : zSt} {P : Option Value → zSt → Prop} {a0 a1 a2 : Nat} {x3 : Int32} {n : Nat} (hs : ztg σ a0 = (4, 12, n)) :
    wp 204 334 [some (.ref a0), some (.ref a1), some (.ref a2), some (.int x3)] [] σ P ↔ (((0 : Int32) = 0 ∨ (0 : Int32) = 1) ∧ P (some (.int 0)) σ) := by
  refine (wp_ic (n' := 335) rfl (zcode_of mc_204 (r := (.iconst 0, 0, 0, 0)) rfl) ci_0).trans ?_
  exact wp_retZ (zcode_of mc_204 (r := (.ireturn, 0, 0, 0)) rfl) rfl
set_option maxRecDepth 20000 in
theorem b204_336 {σ : zSt} {P : Option Value → zSt → Prop} {a0 a1 a2 : Nat} {x3 : Int32} {n : Nat} (hs : ztg σ a0 = (4, 12, n)) :
    wp 204 336 [some (.ref a0), some (.ref a1), some (.ref a2), some (.int x3)] [] σ P ↔ (zIn (x3 + 1) n ∧ (zIn (x3 + 2) n ∧ (zIs σ a1 11 ∧ wpM 86 [.ref a1, .int (zai σ 12 a0 (Int32.toNatClampNeg (x3 + 1))), .int (zai σ 12 a0 (Int32.toNatClampNeg (x3 + 2)))] σ (fun r τ => wp 204 350 [some (.ref a0), some (.ref a1), some (.ref a2), some (.int x3)] (r.toList ++ []) τ P)))) := by
  refine (wp_s (n := 337) (zcode_of mc_204 (r := (.aload_n 1, 0, 0, 0)) rfl) rfl rfl).trans ?_
  refine (wp_s (n := 338) (zcode_of mc_204 (r := (.aload_n 0, 0, 0, 0)) rfl) rfl rfl).trans ?_
  refine (wp_s (n := 339) (zcode_of mc_204 (r := (.iload_n 3, 0, 0, 0)) rfl) rfl rfl).trans ?_
  refine (wp_ic (n' := 340) rfl (zcode_of mc_204 (r := (.iconst 1, 0, 0, 0)) rfl) ci_1).trans ?_
  refine (wp_s (n := 341) (zcode_of mc_204 (r := (.iadd, 0, 0, 0)) rfl) rfl rfl).trans ?_
  refine (wc_ldS (n' := 342) rfl (zcode_of mc_204 (r := (.iaload, 0, 0, 0)) rfl) hs rfl).trans (and_congr_right fun h1 => ?_)
  refine (wp_s (n := 343) (zcode_of mc_204 (r := (.aload_n 0, 0, 0, 0)) rfl) rfl rfl).trans ?_
  refine (wp_s (n := 344) (zcode_of mc_204 (r := (.iload_n 3, 0, 0, 0)) rfl) rfl rfl).trans ?_
  refine (wp_ic (n' := 345) rfl (zcode_of mc_204 (r := (.iconst 2, 0, 0, 0)) rfl) ci_2).trans ?_
  refine (wp_s (n := 346) (zcode_of mc_204 (r := (.iadd, 0, 0, 0)) rfl) rfl rfl).trans ?_
  refine (wc_ldS (n' := 347) rfl (zcode_of mc_204 (r := (.iaload, 0, 0, 0)) rfl) hs rfl).trans (and_congr_right fun h2 => ?_)
  refine (wc_isV (cl := 11) (rest := []) (zcode_of mc_204 (r := (.invokevirtual 34, 86, 0, 2)) rfl) rfl rfl rfl).trans (and_congr_right fun h3 => ?_)
  exact wp_call (q := ([.ref a1, .int (zai σ 12 a0 (Int32.toNatClampNeg (x3 + 1))), .int (zai σ 12 a0 (Int32.toNatClampNeg (x3 + 2)))], [])) (zcode_of mc_204 (r := (.invokevirtual 34, 86, 0, 2)) rfl) rfl (zCa_V (Nat.le_of_ble_eq_true rfl) rfl h3) ⟨Nat.le_of_ble_eq_true rfl, Nat.le_of_ble_eq_true rfl⟩
set_option maxRecDepth 20000 in
theorem b204_350 {σ : zSt} {P : Option Value → zSt → Prop} {a0 a1 a2 : Nat} {x3 s0 : Int32} {n : Nat} (hs : ztg σ a0 = (4, 12, n)) :
    wp 204 350 [some (.ref a0), some (.ref a1), some (.ref a2), some (.int x3)] [.int s0] σ P ↔ (zIn (x3 + 1) n ∧ (zIn (x3 + 2) n ∧ (zIs σ a2 12 ∧ wpM 122 [.ref a2, .int (zai σ 12 a0 (Int32.toNatClampNeg (x3 + 1))), .int (zai σ 12 a0 (Int32.toNatClampNeg (x3 + 2)))] σ (fun r τ => wp 204 364 [some (.ref a0), some (.ref a1), some (.ref a2), some (.int x3)] (r.toList ++ [.int s0]) τ P)))) := by
  refine (wp_s (n := 351) (zcode_of mc_204 (r := (.aload_n 2, 0, 0, 0)) rfl) rfl rfl).trans ?_
  refine (wp_s (n := 352) (zcode_of mc_204 (r := (.aload_n 0, 0, 0, 0)) rfl) rfl rfl).trans ?_
  refine (wp_s (n := 353) (zcode_of mc_204 (r := (.iload_n 3, 0, 0, 0)) rfl) rfl rfl).trans ?_
  refine (wp_ic (n' := 354) rfl (zcode_of mc_204 (r := (.iconst 1, 0, 0, 0)) rfl) ci_1).trans ?_
  refine (wp_s (n := 355) (zcode_of mc_204 (r := (.iadd, 0, 0, 0)) rfl) rfl rfl).trans ?_
  refine (wc_ldS (n' := 356) rfl (zcode_of mc_204 (r := (.iaload, 0, 0, 0)) rfl) hs rfl).trans (and_congr_right fun h1 => ?_)
  refine (wp_s (n := 357) (zcode_of mc_204 (r := (.aload_n 0, 0, 0, 0)) rfl) rfl rfl).trans ?_
  refine (wp_s (n := 358) (zcode_of mc_204 (r := (.iload_n 3, 0, 0, 0)) rfl) rfl rfl).trans ?_
  refine (wp_ic (n' := 359) rfl (zcode_of mc_204 (r := (.iconst 2, 0, 0, 0)) rfl) ci_2).trans ?_
  refine (wp_s (n := 360) (zcode_of mc_204 (r := (.iadd, 0, 0, 0)) rfl) rfl rfl).trans ?_
  refine (wc_ldS (n' := 361) rfl (zcode_of mc_204 (r := (.iaload, 0, 0, 0)) rfl) hs rfl).trans (and_congr_right fun h2 => ?_)
  refine (wc_isV (cl := 12) (rest := [.int s0]) (zcode_of mc_204 (r := (.invokevirtual 37, 122, 0, 2)) rfl) rfl rfl rfl).trans (and_congr_right fun h3 => ?_)
  exact wp_call (q := ([.ref a2, .int (zai σ 12 a0 (Int32.toNatClampNeg (x3 + 1))), .int (zai σ 12 a0 (Int32.toNatClampNeg (x3 + 2)))], [.int s0])) (zcode_of mc_204 (r := (.invokevirtual 37, 122, 0, 2)) rfl) rfl (zCa_V (Nat.le_of_ble_eq_true rfl) rfl h3) ⟨Nat.le_of_ble_eq_true rfl, Nat.le_of_ble_eq_true rfl⟩
set_option maxRecDepth 20000 in
theorem b204_364 {σ : zSt} {P : Option Value → zSt → Prop} {a0 a1 a2 : Nat} {x3 s0 s1 : Int32} {n : Nat} (hs : ztg σ a0 = (4, 12, n)) :
    wp 204 364 [some (.ref a0), some (.ref a1), some (.ref a2), some (.int x3)] [.int s0, .int s1] σ P ↔ (if s1 = s0 then wp 204 941 [some (.ref a0), some (.ref a1), some (.ref a2), some (.int x3)] [] σ P else wp 204 367 [some (.ref a0), some (.ref a1), some (.ref a2), some (.int x3)] [] σ P) := by
  exact wp_jump (off := 577) (t := 941) (zcode_of mc_204 (r := (.if_icmp .eq 577, 0, 0, 0)) rfl) rfl rfl (by decide)
set_option maxRecDepth 20000 in
theorem b204_367 {σ : zSt} {P : Option Value → zSt → Prop} {a0 a1 a2 : Nat} {x3 : Int32} {n : Nat} (hs : ztg σ a0 = (4, 12, n)) :
    wp 204 367 [some (.ref a0), some (.ref a1), some (.ref a2), some (.int x3)] [] σ P ↔ (((0 : Int32) = 0 ∨ (0 : Int32) = 1) ∧ P (some (.int 0)) σ) := by
  refine (wp_ic (n' := 368) rfl (zcode_of mc_204 (r := (.iconst 0, 0, 0, 0)) rfl) ci_0).trans ?_
  exact wp_retZ (zcode_of mc_204 (r := (.ireturn, 0, 0, 0)) rfl) rfl
set_option maxRecDepth 20000 in
theorem b204_369 {σ : zSt} {P : Option Value → zSt → Prop} {a0 a1 a2 : Nat} {x3 : Int32} {n : Nat} (hs : ztg σ a0 = (4, 12, n)) :
    wp 204 369 [some (.ref a0), some (.ref a1), some (.ref a2), some (.int x3)] [] σ P ↔ (zIn (x3 + 1) n ∧ (zIs σ a1 11 ∧ wpM 87 [.ref a1, .int (zai σ 12 a0 (Int32.toNatClampNeg (x3 + 1)))] σ (fun r τ => wp 204 378 [some (.ref a0), some (.ref a1), some (.ref a2), some (.int x3)] (r.toList ++ []) τ P))) := by
  refine (wp_s (n := 370) (zcode_of mc_204 (r := (.aload_n 1, 0, 0, 0)) rfl) rfl rfl).trans ?_
  refine (wp_s (n := 371) (zcode_of mc_204 (r := (.aload_n 0, 0, 0, 0)) rfl) rfl rfl).trans ?_
  refine (wp_s (n := 372) (zcode_of mc_204 (r := (.iload_n 3, 0, 0, 0)) rfl) rfl rfl).trans ?_
  refine (wp_ic (n' := 373) rfl (zcode_of mc_204 (r := (.iconst 1, 0, 0, 0)) rfl) ci_1).trans ?_
  refine (wp_s (n := 374) (zcode_of mc_204 (r := (.iadd, 0, 0, 0)) rfl) rfl rfl).trans ?_
  refine (wc_ldS (n' := 375) rfl (zcode_of mc_204 (r := (.iaload, 0, 0, 0)) rfl) hs rfl).trans (and_congr_right fun h1 => ?_)
  refine (wc_isV (cl := 11) (rest := []) (zcode_of mc_204 (r := (.invokevirtual 38, 87, 0, 1)) rfl) rfl rfl rfl).trans (and_congr_right fun h2 => ?_)
  exact wp_call (q := ([.ref a1, .int (zai σ 12 a0 (Int32.toNatClampNeg (x3 + 1)))], [])) (zcode_of mc_204 (r := (.invokevirtual 38, 87, 0, 1)) rfl) rfl (zCa_V (Nat.le_of_ble_eq_true rfl) rfl h2) ⟨Nat.le_of_ble_eq_true rfl, Nat.le_of_ble_eq_true rfl⟩
set_option maxRecDepth 20000 in
theorem b204_378 {σ : zSt} {P : Option Value → zSt → Prop} {a0 a1 a2 : Nat} {x3 s0 : Int32} {n : Nat} (hs : ztg σ a0 = (4, 12, n)) :
    wp 204 378 [some (.ref a0), some (.ref a1), some (.ref a2), some (.int x3)] [.int s0] σ P ↔ (zIn (x3 + 1) n ∧ (zIs σ a2 12 ∧ wpM 125 [.ref a2, .int (zai σ 12 a0 (Int32.toNatClampNeg (x3 + 1)))] σ (fun r τ => wp 204 387 [some (.ref a0), some (.ref a1), some (.ref a2), some (.int x3)] (r.toList ++ [.int s0]) τ P))) := by
  refine (wp_s (n := 379) (zcode_of mc_204 (r := (.aload_n 2, 0, 0, 0)) rfl) rfl rfl).trans ?_
  refine (wp_s (n := 380) (zcode_of mc_204 (r := (.aload_n 0, 0, 0, 0)) rfl) rfl rfl).trans ?_
  refine (wp_s (n := 381) (zcode_of mc_204 (r := (.iload_n 3, 0, 0, 0)) rfl) rfl rfl).trans ?_
  refine (wp_ic (n' := 382) rfl (zcode_of mc_204 (r := (.iconst 1, 0, 0, 0)) rfl) ci_1).trans ?_
  refine (wp_s (n := 383) (zcode_of mc_204 (r := (.iadd, 0, 0, 0)) rfl) rfl rfl).trans ?_
  refine (wc_ldS (n' := 384) rfl (zcode_of mc_204 (r := (.iaload, 0, 0, 0)) rfl) hs rfl).trans (and_congr_right fun h1 => ?_)
  refine (wc_isV (cl := 12) (rest := [.int s0]) (zcode_of mc_204 (r := (.invokevirtual 42, 125, 0, 1)) rfl) rfl rfl rfl).trans (and_congr_right fun h2 => ?_)
  exact wp_call (q := ([.ref a2, .int (zai σ 12 a0 (Int32.toNatClampNeg (x3 + 1)))], [.int s0])) (zcode_of mc_204 (r := (.invokevirtual 42, 125, 0, 1)) rfl) rfl (zCa_V (Nat.le_of_ble_eq_true rfl) rfl h2) ⟨Nat.le_of_ble_eq_true rfl, Nat.le_of_ble_eq_true rfl⟩
set_option maxRecDepth 20000 in
theorem b204_387 {σ : zSt} {P : Option Value → zSt → Prop} {a0 a1 a2 : Nat} {x3 s0 s1 : Int32} {n : Nat} (hs : ztg σ a0 = (4, 12, n)) :
    wp 204 387 [some (.ref a0), some (.ref a1), some (.ref a2), some (.int x3)] [.int s0, .int s1] σ P ↔ (if s1 = s0 then wp 204 941 [some (.ref a0), some (.ref a1), some (.ref a2), some (.int x3)] [] σ P else wp 204 390 [some (.ref a0), some (.ref a1), some (.ref a2), some (.int x3)] [] σ P) := by
  exact wp_jump (off := 554) (t := 941) (zcode_of mc_204 (r := (.if_icmp .eq 554, 0, 0, 0)) rfl) rfl rfl (by decide)
set_option maxRecDepth 20000 in
theorem b204_390 {σ : zSt} {P : Option Value → zSt → Prop} {a0 a1 a2 : Nat} {x3 : Int32} {n : Nat} (hs : ztg σ a0 = (4, 12, n)) :
    wp 204 390 [some (.ref a0), some (.ref a1), some (.ref a2), some (.int x3)] [] σ P ↔ (((0 : Int32) = 0 ∨ (0 : Int32) = 1) ∧ P (some (.int 0)) σ) := by
  refine (wp_ic (n' := 391) rfl (zcode_of mc_204 (r := (.iconst 0, 0, 0, 0)) rfl) ci_0).trans ?_
  exact wp_retZ (zcode_of mc_204 (r := (.ireturn, 0, 0, 0)) rfl) rfl
set_option maxRecDepth 20000 in
theorem b204_392 {σ : zSt} {P : Option Value → zSt → Prop} {a0 a1 a2 : Nat} {x3 : Int32} {n : Nat} (hs : ztg σ a0 = (4, 12, n)) :
    wp 204 392 [some (.ref a0), some (.ref a1), some (.ref a2), some (.int x3)] [] σ P ↔ (zIn (x3 + 1) n ∧ (zIn (x3 + 2) n ∧ (zIs σ a1 11 ∧ wpM 88 [.ref a1, .int (zai σ 12 a0 (Int32.toNatClampNeg (x3 + 1))), .int (zai σ 12 a0 (Int32.toNatClampNeg (x3 + 2)))] σ (fun r τ => wp 204 406 [some (.ref a0), some (.ref a1), some (.ref a2), some (.int x3)] (r.toList ++ []) τ P)))) := by
  refine (wp_s (n := 393) (zcode_of mc_204 (r := (.aload_n 1, 0, 0, 0)) rfl) rfl rfl).trans ?_
  refine (wp_s (n := 394) (zcode_of mc_204 (r := (.aload_n 0, 0, 0, 0)) rfl) rfl rfl).trans ?_
  refine (wp_s (n := 395) (zcode_of mc_204 (r := (.iload_n 3, 0, 0, 0)) rfl) rfl rfl).trans ?_
  refine (wp_ic (n' := 396) rfl (zcode_of mc_204 (r := (.iconst 1, 0, 0, 0)) rfl) ci_1).trans ?_
  refine (wp_s (n := 397) (zcode_of mc_204 (r := (.iadd, 0, 0, 0)) rfl) rfl rfl).trans ?_
  refine (wc_ldS (n' := 398) rfl (zcode_of mc_204 (r := (.iaload, 0, 0, 0)) rfl) hs rfl).trans (and_congr_right fun h1 => ?_)
  refine (wp_s (n := 399) (zcode_of mc_204 (r := (.aload_n 0, 0, 0, 0)) rfl) rfl rfl).trans ?_
  refine (wp_s (n := 400) (zcode_of mc_204 (r := (.iload_n 3, 0, 0, 0)) rfl) rfl rfl).trans ?_
  refine (wp_ic (n' := 401) rfl (zcode_of mc_204 (r := (.iconst 2, 0, 0, 0)) rfl) ci_2).trans ?_
  refine (wp_s (n := 402) (zcode_of mc_204 (r := (.iadd, 0, 0, 0)) rfl) rfl rfl).trans ?_
  refine (wc_ldS (n' := 403) rfl (zcode_of mc_204 (r := (.iaload, 0, 0, 0)) rfl) hs rfl).trans (and_congr_right fun h2 => ?_)
  refine (wc_isV (cl := 11) (rest := []) (zcode_of mc_204 (r := (.invokevirtual 43, 88, 0, 2)) rfl) rfl rfl rfl).trans (and_congr_right fun h3 => ?_)
  exact wp_call (q := ([.ref a1, .int (zai σ 12 a0 (Int32.toNatClampNeg (x3 + 1))), .int (zai σ 12 a0 (Int32.toNatClampNeg (x3 + 2)))], [])) (zcode_of mc_204 (r := (.invokevirtual 43, 88, 0, 2)) rfl) rfl (zCa_V (Nat.le_of_ble_eq_true rfl) rfl h3) ⟨Nat.le_of_ble_eq_true rfl, Nat.le_of_ble_eq_true rfl⟩
set_option maxRecDepth 20000 in
theorem b204_406 {σ : zSt} {P : Option Value → zSt → Prop} {a0 a1 a2 : Nat} {x3 s0 : Int32} {n : Nat} (hs : ztg σ a0 = (4, 12, n)) :
    wp 204 406 [some (.ref a0), some (.ref a1), some (.ref a2), some (.int x3)] [.int s0] σ P ↔ (zIn (x3 + 1) n ∧ (zIn (x3 + 2) n ∧ (zIs σ a2 12 ∧ wpM 126 [.ref a2, .int (zai σ 12 a0 (Int32.toNatClampNeg (x3 + 1))), .int (zai σ 12 a0 (Int32.toNatClampNeg (x3 + 2)))] σ (fun r τ => wp 204 420 [some (.ref a0), some (.ref a1), some (.ref a2), some (.int x3)] (r.toList ++ [.int s0]) τ P)))) := by
  refine (wp_s (n := 407) (zcode_of mc_204 (r := (.aload_n 2, 0, 0, 0)) rfl) rfl rfl).trans ?_
  refine (wp_s (n := 408) (zcode_of mc_204 (r := (.aload_n 0, 0, 0, 0)) rfl) rfl rfl).trans ?_
  refine (wp_s (n := 409) (zcode_of mc_204 (r := (.iload_n 3, 0, 0, 0)) rfl) rfl rfl).trans ?_
  refine (wp_ic (n' := 410) rfl (zcode_of mc_204 (r := (.iconst 1, 0, 0, 0)) rfl) ci_1).trans ?_
  refine (wp_s (n := 411) (zcode_of mc_204 (r := (.iadd, 0, 0, 0)) rfl) rfl rfl).trans ?_
  refine (wc_ldS (n' := 412) rfl (zcode_of mc_204 (r := (.iaload, 0, 0, 0)) rfl) hs rfl).trans (and_congr_right fun h1 => ?_)
  refine (wp_s (n := 413) (zcode_of mc_204 (r := (.aload_n 0, 0, 0, 0)) rfl) rfl rfl).trans ?_
  refine (wp_s (n := 414) (zcode_of mc_204 (r := (.iload_n 3, 0, 0, 0)) rfl) rfl rfl).trans ?_
  refine (wp_ic (n' := 415) rfl (zcode_of mc_204 (r := (.iconst 2, 0, 0, 0)) rfl) ci_2).trans ?_
  refine (wp_s (n := 416) (zcode_of mc_204 (r := (.iadd, 0, 0, 0)) rfl) rfl rfl).trans ?_
  refine (wc_ldS (n' := 417) rfl (zcode_of mc_204 (r := (.iaload, 0, 0, 0)) rfl) hs rfl).trans (and_congr_right fun h2 => ?_)
  refine (wc_isV (cl := 12) (rest := [.int s0]) (zcode_of mc_204 (r := (.invokevirtual 46, 126, 0, 2)) rfl) rfl rfl rfl).trans (and_congr_right fun h3 => ?_)
  exact wp_call (q := ([.ref a2, .int (zai σ 12 a0 (Int32.toNatClampNeg (x3 + 1))), .int (zai σ 12 a0 (Int32.toNatClampNeg (x3 + 2)))], [.int s0])) (zcode_of mc_204 (r := (.invokevirtual 46, 126, 0, 2)) rfl) rfl (zCa_V (Nat.le_of_ble_eq_true rfl) rfl h3) ⟨Nat.le_of_ble_eq_true rfl, Nat.le_of_ble_eq_true rfl⟩
set_option maxRecDepth 20000 in
theorem b204_420 {σ : zSt} {P : Option Value → zSt → Prop} {a0 a1 a2 : Nat} {x3 s0 s1 : Int32} {n : Nat} (hs : ztg σ a0 = (4, 12, n)) :
    wp 204 420 [some (.ref a0), some (.ref a1), some (.ref a2), some (.int x3)] [.int s0, .int s1] σ P ↔ (if s1 = s0 then wp 204 941 [some (.ref a0), some (.ref a1), some (.ref a2), some (.int x3)] [] σ P else wp 204 423 [some (.ref a0), some (.ref a1), some (.ref a2), some (.int x3)] [] σ P) := by
  exact wp_jump (off := 521) (t := 941) (zcode_of mc_204 (r := (.if_icmp .eq 521, 0, 0, 0)) rfl) rfl rfl (by decide)
set_option maxRecDepth 20000 in
theorem b204_423 {σ : zSt} {P : Option Value → zSt → Prop} {a0 a1 a2 : Nat} {x3 : Int32} {n : Nat} (hs : ztg σ a0 = (4, 12, n)) :
    wp 204 423 [some (.ref a0), some (.ref a1), some (.ref a2), some (.int x3)] [] σ P ↔ (((0 : Int32) = 0 ∨ (0 : Int32) = 1) ∧ P (some (.int 0)) σ) := by
  refine (wp_ic (n' := 424) rfl (zcode_of mc_204 (r := (.iconst 0, 0, 0, 0)) rfl) ci_0).trans ?_
  exact wp_retZ (zcode_of mc_204 (r := (.ireturn, 0, 0, 0)) rfl) rfl
set_option maxRecDepth 20000 in
theorem b204_425 {σ : zSt} {P : Option Value → zSt → Prop} {a0 a1 a2 : Nat} {x3 : Int32} {n : Nat} (hs : ztg σ a0 = (4, 12, n)) :
    wp 204 425 [some (.ref a0), some (.ref a1), some (.ref a2), some (.int x3)] [] σ P ↔ (zIn (x3 + 1) n ∧ (zIn (x3 + 2) n ∧ (zIn (x3 + 3) n ∧ (zIs σ a1 11 ∧ wpM 89 [.ref a1, .int (zai σ 12 a0 (Int32.toNatClampNeg (x3 + 1))), .int (zai σ 12 a0 (Int32.toNatClampNeg (x3 + 2))), .int (zai σ 12 a0 (Int32.toNatClampNeg (x3 + 3)))] σ (fun r τ => wp 204 444 [some (.ref a0), some (.ref a1), some (.ref a2), some (.int x3)] (r.toList ++ []) τ P))))) := by
  refine (wp_s (n := 426) (zcode_of mc_204 (r := (.aload_n 1, 0, 0, 0)) rfl) rfl rfl).trans ?_
  refine (wp_s (n := 427) (zcode_of mc_204 (r := (.aload_n 0, 0, 0, 0)) rfl) rfl rfl).trans ?_
  refine (wp_s (n := 428) (zcode_of mc_204 (r := (.iload_n 3, 0, 0, 0)) rfl) rfl rfl).trans ?_
  refine (wp_ic (n' := 429) rfl (zcode_of mc_204 (r := (.iconst 1, 0, 0, 0)) rfl) ci_1).trans ?_
  refine (wp_s (n := 430) (zcode_of mc_204 (r := (.iadd, 0, 0, 0)) rfl) rfl rfl).trans ?_
  refine (wc_ldS (n' := 431) rfl (zcode_of mc_204 (r := (.iaload, 0, 0, 0)) rfl) hs rfl).trans (and_congr_right fun h1 => ?_)
  refine (wp_s (n := 432) (zcode_of mc_204 (r := (.aload_n 0, 0, 0, 0)) rfl) rfl rfl).trans ?_
  refine (wp_s (n := 433) (zcode_of mc_204 (r := (.iload_n 3, 0, 0, 0)) rfl) rfl rfl).trans ?_
  refine (wp_ic (n' := 434) rfl (zcode_of mc_204 (r := (.iconst 2, 0, 0, 0)) rfl) ci_2).trans ?_
  refine (wp_s (n := 435) (zcode_of mc_204 (r := (.iadd, 0, 0, 0)) rfl) rfl rfl).trans ?_
  refine (wc_ldS (n' := 436) rfl (zcode_of mc_204 (r := (.iaload, 0, 0, 0)) rfl) hs rfl).trans (and_congr_right fun h2 => ?_)
  refine (wp_s (n := 437) (zcode_of mc_204 (r := (.aload_n 0, 0, 0, 0)) rfl) rfl rfl).trans ?_
  refine (wp_s (n := 438) (zcode_of mc_204 (r := (.iload_n 3, 0, 0, 0)) rfl) rfl rfl).trans ?_
  refine (wp_ic (n' := 439) rfl (zcode_of mc_204 (r := (.iconst 3, 0, 0, 0)) rfl) ci_3).trans ?_
  refine (wp_s (n := 440) (zcode_of mc_204 (r := (.iadd, 0, 0, 0)) rfl) rfl rfl).trans ?_
  refine (wc_ldS (n' := 441) rfl (zcode_of mc_204 (r := (.iaload, 0, 0, 0)) rfl) hs rfl).trans (and_congr_right fun h3 => ?_)
  refine (wc_isV (cl := 11) (rest := []) (zcode_of mc_204 (r := (.invokevirtual 47, 89, 0, 3)) rfl) rfl rfl rfl).trans (and_congr_right fun h4 => ?_)
  exact wp_call (q := ([.ref a1, .int (zai σ 12 a0 (Int32.toNatClampNeg (x3 + 1))), .int (zai σ 12 a0 (Int32.toNatClampNeg (x3 + 2))), .int (zai σ 12 a0 (Int32.toNatClampNeg (x3 + 3)))], [])) (zcode_of mc_204 (r := (.invokevirtual 47, 89, 0, 3)) rfl) rfl (zCa_V (Nat.le_of_ble_eq_true rfl) rfl h4) ⟨Nat.le_of_ble_eq_true rfl, Nat.le_of_ble_eq_true rfl⟩
set_option maxRecDepth 20000 in
theorem b204_444 {σ : zSt} {P : Option Value → zSt → Prop} {a0 a1 a2 : Nat} {x3 s0 : Int32} {n : Nat} (hs : ztg σ a0 = (4, 12, n)) :
    wp 204 444 [some (.ref a0), some (.ref a1), some (.ref a2), some (.int x3)] [.int s0] σ P ↔ (zIn (x3 + 1) n ∧ (zIn (x3 + 2) n ∧ (zIn (x3 + 3) n ∧ (zIs σ a2 12 ∧ wpM 127 [.ref a2, .int (zai σ 12 a0 (Int32.toNatClampNeg (x3 + 1))), .int (zai σ 12 a0 (Int32.toNatClampNeg (x3 + 2))), .int (zai σ 12 a0 (Int32.toNatClampNeg (x3 + 3)))] σ (fun r τ => wp 204 463 [some (.ref a0), some (.ref a1), some (.ref a2), some (.int x3)] (r.toList ++ [.int s0]) τ P))))) := by
  refine (wp_s (n := 445) (zcode_of mc_204 (r := (.aload_n 2, 0, 0, 0)) rfl) rfl rfl).trans ?_
  refine (wp_s (n := 446) (zcode_of mc_204 (r := (.aload_n 0, 0, 0, 0)) rfl) rfl rfl).trans ?_
  refine (wp_s (n := 447) (zcode_of mc_204 (r := (.iload_n 3, 0, 0, 0)) rfl) rfl rfl).trans ?_
  refine (wp_ic (n' := 448) rfl (zcode_of mc_204 (r := (.iconst 1, 0, 0, 0)) rfl) ci_1).trans ?_
  refine (wp_s (n := 449) (zcode_of mc_204 (r := (.iadd, 0, 0, 0)) rfl) rfl rfl).trans ?_
  refine (wc_ldS (n' := 450) rfl (zcode_of mc_204 (r := (.iaload, 0, 0, 0)) rfl) hs rfl).trans (and_congr_right fun h1 => ?_)
  refine (wp_s (n := 451) (zcode_of mc_204 (r := (.aload_n 0, 0, 0, 0)) rfl) rfl rfl).trans ?_
  refine (wp_s (n := 452) (zcode_of mc_204 (r := (.iload_n 3, 0, 0, 0)) rfl) rfl rfl).trans ?_
  refine (wp_ic (n' := 453) rfl (zcode_of mc_204 (r := (.iconst 2, 0, 0, 0)) rfl) ci_2).trans ?_
  refine (wp_s (n := 454) (zcode_of mc_204 (r := (.iadd, 0, 0, 0)) rfl) rfl rfl).trans ?_
  refine (wc_ldS (n' := 455) rfl (zcode_of mc_204 (r := (.iaload, 0, 0, 0)) rfl) hs rfl).trans (and_congr_right fun h2 => ?_)
  refine (wp_s (n := 456) (zcode_of mc_204 (r := (.aload_n 0, 0, 0, 0)) rfl) rfl rfl).trans ?_
  refine (wp_s (n := 457) (zcode_of mc_204 (r := (.iload_n 3, 0, 0, 0)) rfl) rfl rfl).trans ?_
  refine (wp_ic (n' := 458) rfl (zcode_of mc_204 (r := (.iconst 3, 0, 0, 0)) rfl) ci_3).trans ?_
  refine (wp_s (n := 459) (zcode_of mc_204 (r := (.iadd, 0, 0, 0)) rfl) rfl rfl).trans ?_
  refine (wc_ldS (n' := 460) rfl (zcode_of mc_204 (r := (.iaload, 0, 0, 0)) rfl) hs rfl).trans (and_congr_right fun h3 => ?_)
  refine (wc_isV (cl := 12) (rest := [.int s0]) (zcode_of mc_204 (r := (.invokevirtual 51, 127, 0, 3)) rfl) rfl rfl rfl).trans (and_congr_right fun h4 => ?_)
  exact wp_call (q := ([.ref a2, .int (zai σ 12 a0 (Int32.toNatClampNeg (x3 + 1))), .int (zai σ 12 a0 (Int32.toNatClampNeg (x3 + 2))), .int (zai σ 12 a0 (Int32.toNatClampNeg (x3 + 3)))], [.int s0])) (zcode_of mc_204 (r := (.invokevirtual 51, 127, 0, 3)) rfl) rfl (zCa_V (Nat.le_of_ble_eq_true rfl) rfl h4) ⟨Nat.le_of_ble_eq_true rfl, Nat.le_of_ble_eq_true rfl⟩
set_option maxRecDepth 20000 in
theorem b204_463 {σ : zSt} {P : Option Value → zSt → Prop} {a0 a1 a2 : Nat} {x3 s0 s1 : Int32} {n : Nat} (hs : ztg σ a0 = (4, 12, n)) :
    wp 204 463 [some (.ref a0), some (.ref a1), some (.ref a2), some (.int x3)] [.int s0, .int s1] σ P ↔ (if s1 = s0 then wp 204 941 [some (.ref a0), some (.ref a1), some (.ref a2), some (.int x3)] [] σ P else wp 204 466 [some (.ref a0), some (.ref a1), some (.ref a2), some (.int x3)] [] σ P) := by
  exact wp_jump (off := 478) (t := 941) (zcode_of mc_204 (r := (.if_icmp .eq 478, 0, 0, 0)) rfl) rfl rfl (by decide)
set_option maxRecDepth 20000 in
theorem b204_466 {σ : zSt} {P : Option Value → zSt → Prop} {a0 a1 a2 : Nat} {x3 : Int32} {n : Nat} (hs : ztg σ a0 = (4, 12, n)) :
    wp 204 466 [some (.ref a0), some (.ref a1), some (.ref a2), some (.int x3)] [] σ P ↔ (((0 : Int32) = 0 ∨ (0 : Int32) = 1) ∧ P (some (.int 0)) σ) := by
  refine (wp_ic (n' := 467) rfl (zcode_of mc_204 (r := (.iconst 0, 0, 0, 0)) rfl) ci_0).trans ?_
  exact wp_retZ (zcode_of mc_204 (r := (.ireturn, 0, 0, 0)) rfl) rfl
set_option maxRecDepth 20000 in
theorem b204_468 {σ : zSt} {P : Option Value → zSt → Prop} {a0 a1 a2 : Nat} {x3 : Int32} {n : Nat} (hs : ztg σ a0 = (4, 12, n)) :
    wp 204 468 [some (.ref a0), some (.ref a1), some (.ref a2), some (.int x3)] [] σ P ↔ (zIs σ a1 11 ∧ wpM 90 [.ref a1] σ (fun r τ => wp 204 472 [some (.ref a0), some (.ref a1), some (.ref a2), some (.int x3)] (r.toList ++ []) τ P)) := by
  refine (wp_s (n := 469) (zcode_of mc_204 (r := (.aload_n 1, 0, 0, 0)) rfl) rfl rfl).trans ?_
  refine (wc_isV (cl := 11) (rest := []) (zcode_of mc_204 (r := (.invokevirtual 52, 90, 0, 0)) rfl) rfl rfl rfl).trans (and_congr_right fun h1 => ?_)
  exact wp_call (q := ([.ref a1], [])) (zcode_of mc_204 (r := (.invokevirtual 52, 90, 0, 0)) rfl) rfl (zCa_V (Nat.le_of_ble_eq_true rfl) rfl h1) ⟨Nat.le_of_ble_eq_true rfl, Nat.le_of_ble_eq_true rfl⟩
set_option maxRecDepth 20000 in
theorem b204_472 {σ : zSt} {P : Option Value → zSt → Prop} {a0 a1 a2 : Nat} {x3 s0 : Int32} {n : Nat} (hs : ztg σ a0 = (4, 12, n)) :
    wp 204 472 [some (.ref a0), some (.ref a1), some (.ref a2), some (.int x3)] [.int s0] σ P ↔ (zIs σ a2 12 ∧ wpM 128 [.ref a2] σ (fun r τ => wp 204 476 [some (.ref a0), some (.ref a1), some (.ref a2), some (.int x3)] (r.toList ++ [.int s0]) τ P)) := by
  refine (wp_s (n := 473) (zcode_of mc_204 (r := (.aload_n 2, 0, 0, 0)) rfl) rfl rfl).trans ?_
  refine (wc_isV (cl := 12) (rest := [.int s0]) (zcode_of mc_204 (r := (.invokevirtual 56, 128, 0, 0)) rfl) rfl rfl rfl).trans (and_congr_right fun h1 => ?_)
  exact wp_call (q := ([.ref a2], [.int s0])) (zcode_of mc_204 (r := (.invokevirtual 56, 128, 0, 0)) rfl) rfl (zCa_V (Nat.le_of_ble_eq_true rfl) rfl h1) ⟨Nat.le_of_ble_eq_true rfl, Nat.le_of_ble_eq_true rfl⟩
set_option maxRecDepth 20000 in
theorem b204_476 {σ : zSt} {P : Option Value → zSt → Prop} {a0 a1 a2 : Nat} {x3 s0 s1 : Int32} {n : Nat} (hs : ztg σ a0 = (4, 12, n)) :
    wp 204 476 [some (.ref a0), some (.ref a1), some (.ref a2), some (.int x3)] [.int s0, .int s1] σ P ↔ (if s1 = s0 then wp 204 941 [some (.ref a0), some (.ref a1), some (.ref a2), some (.int x3)] [] σ P else wp 204 479 [some (.ref a0), some (.ref a1), some (.ref a2), some (.int x3)] [] σ P) := by
  exact wp_jump (off := 465) (t := 941) (zcode_of mc_204 (r := (.if_icmp .eq 465, 0, 0, 0)) rfl) rfl rfl (by decide)
set_option maxRecDepth 20000 in
theorem b204_479 {σ : zSt} {P : Option Value → zSt → Prop} {a0 a1 a2 : Nat} {x3 : Int32} {n : Nat} (hs : ztg σ a0 = (4, 12, n)) :
    wp 204 479 [some (.ref a0), some (.ref a1), some (.ref a2), some (.int x3)] [] σ P ↔ (((0 : Int32) = 0 ∨ (0 : Int32) = 1) ∧ P (some (.int 0)) σ) := by
  refine (wp_ic (n' := 480) rfl (zcode_of mc_204 (r := (.iconst 0, 0, 0, 0)) rfl) ci_0).trans ?_
  exact wp_retZ (zcode_of mc_204 (r := (.ireturn, 0, 0, 0)) rfl) rfl
set_option maxRecDepth 20000 in
theorem b204_481 {σ : zSt} {P : Option Value → zSt → Prop} {a0 a1 a2 : Nat} {x3 : Int32} {n : Nat} (hs : ztg σ a0 = (4, 12, n)) :
    wp 204 481 [some (.ref a0), some (.ref a1), some (.ref a2), some (.int x3)] [] σ P ↔ (zIn (x3 + 1) n ∧ (zIn (x3 + 2) n ∧ (zIs σ a1 11 ∧ wpM 91 [.ref a1, .int (zai σ 12 a0 (Int32.toNatClampNeg (x3 + 1))), .int (zai σ 12 a0 (Int32.toNatClampNeg (x3 + 2)))] σ (fun r τ => wp 204 495 [some (.ref a0), some (.ref a1), some (.ref a2), some (.int x3)] (r.toList ++ []) τ P)))) := by
  refine (wp_s (n := 482) (zcode_of mc_204 (r := (.aload_n 1, 0, 0, 0)) rfl) rfl rfl).trans ?_
  refine (wp_s (n := 483) (zcode_of mc_204 (r := (.aload_n 0, 0, 0, 0)) rfl) rfl rfl).trans ?_
  refine (wp_s (n := 484) (zcode_of mc_204 (r := (.iload_n 3, 0, 0, 0)) rfl) rfl rfl).trans ?_
  refine (wp_ic (n' := 485) rfl (zcode_of mc_204 (r := (.iconst 1, 0, 0, 0)) rfl) ci_1).trans ?_
  refine (wp_s (n := 486) (zcode_of mc_204 (r := (.iadd, 0, 0, 0)) rfl) rfl rfl).trans ?_
  refine (wc_ldS (n' := 487) rfl (zcode_of mc_204 (r := (.iaload, 0, 0, 0)) rfl) hs rfl).trans (and_congr_right fun h1 => ?_)
  refine (wp_s (n := 488) (zcode_of mc_204 (r := (.aload_n 0, 0, 0, 0)) rfl) rfl rfl).trans ?_
  refine (wp_s (n := 489) (zcode_of mc_204 (r := (.iload_n 3, 0, 0, 0)) rfl) rfl rfl).trans ?_
  refine (wp_ic (n' := 490) rfl (zcode_of mc_204 (r := (.iconst 2, 0, 0, 0)) rfl) ci_2).trans ?_
  refine (wp_s (n := 491) (zcode_of mc_204 (r := (.iadd, 0, 0, 0)) rfl) rfl rfl).trans ?_
  refine (wc_ldS (n' := 492) rfl (zcode_of mc_204 (r := (.iaload, 0, 0, 0)) rfl) hs rfl).trans (and_congr_right fun h2 => ?_)
  refine (wc_isV (cl := 11) (rest := []) (zcode_of mc_204 (r := (.invokevirtual 57, 91, 0, 2)) rfl) rfl rfl rfl).trans (and_congr_right fun h3 => ?_)
  exact wp_call (q := ([.ref a1, .int (zai σ 12 a0 (Int32.toNatClampNeg (x3 + 1))), .int (zai σ 12 a0 (Int32.toNatClampNeg (x3 + 2)))], [])) (zcode_of mc_204 (r := (.invokevirtual 57, 91, 0, 2)) rfl) rfl (zCa_V (Nat.le_of_ble_eq_true rfl) rfl h3) ⟨Nat.le_of_ble_eq_true rfl, Nat.le_of_ble_eq_true rfl⟩
set_option maxRecDepth 20000 in
theorem b204_495 {σ : zSt} {P : Option Value → zSt → Prop} {a0 a1 a2 : Nat} {x3 s0 : Int32} {n : Nat} (hs : ztg σ a0 = (4, 12, n)) :
    wp 204 495 [some (.ref a0), some (.ref a1), some (.ref a2), some (.int x3)] [.int s0] σ P ↔ (zIn (x3 + 1) n ∧ (zIn (x3 + 2) n ∧ (zIs σ a2 12 ∧ wpM 132 [.ref a2, .int (zai σ 12 a0 (Int32.toNatClampNeg (x3 + 1))), .int (zai σ 12 a0 (Int32.toNatClampNeg (x3 + 2)))] σ (fun r τ => wp 204 509 [some (.ref a0), some (.ref a1), some (.ref a2), some (.int x3)] (r.toList ++ [.int s0]) τ P)))) := by
  refine (wp_s (n := 496) (zcode_of mc_204 (r := (.aload_n 2, 0, 0, 0)) rfl) rfl rfl).trans ?_
  refine (wp_s (n := 497) (zcode_of mc_204 (r := (.aload_n 0, 0, 0, 0)) rfl) rfl rfl).trans ?_
  refine (wp_s (n := 498) (zcode_of mc_204 (r := (.iload_n 3, 0, 0, 0)) rfl) rfl rfl).trans ?_
  refine (wp_ic (n' := 499) rfl (zcode_of mc_204 (r := (.iconst 1, 0, 0, 0)) rfl) ci_1).trans ?_
  refine (wp_s (n := 500) (zcode_of mc_204 (r := (.iadd, 0, 0, 0)) rfl) rfl rfl).trans ?_
  refine (wc_ldS (n' := 501) rfl (zcode_of mc_204 (r := (.iaload, 0, 0, 0)) rfl) hs rfl).trans (and_congr_right fun h1 => ?_)
  refine (wp_s (n := 502) (zcode_of mc_204 (r := (.aload_n 0, 0, 0, 0)) rfl) rfl rfl).trans ?_
  refine (wp_s (n := 503) (zcode_of mc_204 (r := (.iload_n 3, 0, 0, 0)) rfl) rfl rfl).trans ?_
  refine (wp_ic (n' := 504) rfl (zcode_of mc_204 (r := (.iconst 2, 0, 0, 0)) rfl) ci_2).trans ?_
  refine (wp_s (n := 505) (zcode_of mc_204 (r := (.iadd, 0, 0, 0)) rfl) rfl rfl).trans ?_
  refine (wc_ldS (n' := 506) rfl (zcode_of mc_204 (r := (.iaload, 0, 0, 0)) rfl) hs rfl).trans (and_congr_right fun h2 => ?_)
  refine (wc_isV (cl := 12) (rest := [.int s0]) (zcode_of mc_204 (r := (.invokevirtual 60, 132, 0, 2)) rfl) rfl rfl rfl).trans (and_congr_right fun h3 => ?_)
  exact wp_call (q := ([.ref a2, .int (zai σ 12 a0 (Int32.toNatClampNeg (x3 + 1))), .int (zai σ 12 a0 (Int32.toNatClampNeg (x3 + 2)))], [.int s0])) (zcode_of mc_204 (r := (.invokevirtual 60, 132, 0, 2)) rfl) rfl (zCa_V (Nat.le_of_ble_eq_true rfl) rfl h3) ⟨Nat.le_of_ble_eq_true rfl, Nat.le_of_ble_eq_true rfl⟩
set_option maxRecDepth 20000 in
theorem b204_509 {σ : zSt} {P : Option Value → zSt → Prop} {a0 a1 a2 : Nat} {x3 s0 s1 : Int32} {n : Nat} (hs : ztg σ a0 = (4, 12, n)) :
    wp 204 509 [some (.ref a0), some (.ref a1), some (.ref a2), some (.int x3)] [.int s0, .int s1] σ P ↔ (if s1 = s0 then wp 204 941 [some (.ref a0), some (.ref a1), some (.ref a2), some (.int x3)] [] σ P else wp 204 512 [some (.ref a0), some (.ref a1), some (.ref a2), some (.int x3)] [] σ P) := by
  exact wp_jump (off := 432) (t := 941) (zcode_of mc_204 (r := (.if_icmp .eq 432, 0, 0, 0)) rfl) rfl rfl (by decide)
set_option maxRecDepth 20000 in
theorem b204_512 {σ : zSt} {P : Option Value → zSt → Prop} {a0 a1 a2 : Nat} {x3 : Int32} {n : Nat} (hs : ztg σ a0 = (4, 12, n)) :
    wp 204 512 [some (.ref a0), some (.ref a1), some (.ref a2), some (.int x3)] [] σ P ↔ (((0 : Int32) = 0 ∨ (0 : Int32) = 1) ∧ P (some (.int 0)) σ) := by
  refine (wp_ic (n' := 513) rfl (zcode_of mc_204 (r := (.iconst 0, 0, 0, 0)) rfl) ci_0).trans ?_
  exact wp_retZ (zcode_of mc_204 (r := (.ireturn, 0, 0, 0)) rfl) rfl
set_option maxRecDepth 20000 in
theorem b204_514 {σ : zSt} {P : Option Value → zSt → Prop} {a0 a1 a2 : Nat} {x3 : Int32} {n : Nat} (hs : ztg σ a0 = (4, 12, n)) :
    wp 204 514 [some (.ref a0), some (.ref a1), some (.ref a2), some (.int x3)] [] σ P ↔ (zIn (x3 + 1) n ∧ (zIn (x3 + 2) n ∧ (zIs σ a1 11 ∧ wpM 92 [.ref a1, .int (zai σ 12 a0 (Int32.toNatClampNeg (x3 + 1))), .int (zai σ 12 a0 (Int32.toNatClampNeg (x3 + 2)))] σ (fun r τ => wp 204 528 [some (.ref a0), some (.ref a1), some (.ref a2), some (.int x3)] (r.toList ++ []) τ P)))) := by
  refine (wp_s (n := 515) (zcode_of mc_204 (r := (.aload_n 1, 0, 0, 0)) rfl) rfl rfl).trans ?_
  refine (wp_s (n := 516) (zcode_of mc_204 (r := (.aload_n 0, 0, 0, 0)) rfl) rfl rfl).trans ?_
  refine (wp_s (n := 517) (zcode_of mc_204 (r := (.iload_n 3, 0, 0, 0)) rfl) rfl rfl).trans ?_
  refine (wp_ic (n' := 518) rfl (zcode_of mc_204 (r := (.iconst 1, 0, 0, 0)) rfl) ci_1).trans ?_
  refine (wp_s (n := 519) (zcode_of mc_204 (r := (.iadd, 0, 0, 0)) rfl) rfl rfl).trans ?_
  refine (wc_ldS (n' := 520) rfl (zcode_of mc_204 (r := (.iaload, 0, 0, 0)) rfl) hs rfl).trans (and_congr_right fun h1 => ?_)
  refine (wp_s (n := 521) (zcode_of mc_204 (r := (.aload_n 0, 0, 0, 0)) rfl) rfl rfl).trans ?_
  refine (wp_s (n := 522) (zcode_of mc_204 (r := (.iload_n 3, 0, 0, 0)) rfl) rfl rfl).trans ?_
  refine (wp_ic (n' := 523) rfl (zcode_of mc_204 (r := (.iconst 2, 0, 0, 0)) rfl) ci_2).trans ?_
  refine (wp_s (n := 524) (zcode_of mc_204 (r := (.iadd, 0, 0, 0)) rfl) rfl rfl).trans ?_
  refine (wc_ldS (n' := 525) rfl (zcode_of mc_204 (r := (.iaload, 0, 0, 0)) rfl) hs rfl).trans (and_congr_right fun h2 => ?_)
  refine (wc_isV (cl := 11) (rest := []) (zcode_of mc_204 (r := (.invokevirtual 61, 92, 0, 2)) rfl) rfl rfl rfl).trans (and_congr_right fun h3 => ?_)
  exact wp_call (q := ([.ref a1, .int (zai σ 12 a0 (Int32.toNatClampNeg (x3 + 1))), .int (zai σ 12 a0 (Int32.toNatClampNeg (x3 + 2)))], [])) (zcode_of mc_204 (r := (.invokevirtual 61, 92, 0, 2)) rfl) rfl (zCa_V (Nat.le_of_ble_eq_true rfl) rfl h3) ⟨Nat.le_of_ble_eq_true rfl, Nat.le_of_ble_eq_true rfl⟩
set_option maxRecDepth 20000 in
theorem b204_528 {σ : zSt} {P : Option Value → zSt → Prop} {a0 a1 a2 : Nat} {x3 s0 : Int32} {n : Nat} (hs : ztg σ a0 = (4, 12, n)) :
    wp 204 528 [some (.ref a0), some (.ref a1), some (.ref a2), some (.int x3)] [.int s0] σ P ↔ (zIn (x3 + 1) n ∧ (zIn (x3 + 2) n ∧ (zIs σ a2 12 ∧ wpM 134 [.ref a2, .int (zai σ 12 a0 (Int32.toNatClampNeg (x3 + 1))), .int (zai σ 12 a0 (Int32.toNatClampNeg (x3 + 2)))] σ (fun r τ => wp 204 542 [some (.ref a0), some (.ref a1), some (.ref a2), some (.int x3)] (r.toList ++ [.int s0]) τ P)))) := by
  refine (wp_s (n := 529) (zcode_of mc_204 (r := (.aload_n 2, 0, 0, 0)) rfl) rfl rfl).trans ?_
  refine (wp_s (n := 530) (zcode_of mc_204 (r := (.aload_n 0, 0, 0, 0)) rfl) rfl rfl).trans ?_
  refine (wp_s (n := 531) (zcode_of mc_204 (r := (.iload_n 3, 0, 0, 0)) rfl) rfl rfl).trans ?_
  refine (wp_ic (n' := 532) rfl (zcode_of mc_204 (r := (.iconst 1, 0, 0, 0)) rfl) ci_1).trans ?_
  refine (wp_s (n := 533) (zcode_of mc_204 (r := (.iadd, 0, 0, 0)) rfl) rfl rfl).trans ?_
  refine (wc_ldS (n' := 534) rfl (zcode_of mc_204 (r := (.iaload, 0, 0, 0)) rfl) hs rfl).trans (and_congr_right fun h1 => ?_)
  refine (wp_s (n := 535) (zcode_of mc_204 (r := (.aload_n 0, 0, 0, 0)) rfl) rfl rfl).trans ?_
  refine (wp_s (n := 536) (zcode_of mc_204 (r := (.iload_n 3, 0, 0, 0)) rfl) rfl rfl).trans ?_
  refine (wp_ic (n' := 537) rfl (zcode_of mc_204 (r := (.iconst 2, 0, 0, 0)) rfl) ci_2).trans ?_
  refine (wp_s (n := 538) (zcode_of mc_204 (r := (.iadd, 0, 0, 0)) rfl) rfl rfl).trans ?_
  refine (wc_ldS (n' := 539) rfl (zcode_of mc_204 (r := (.iaload, 0, 0, 0)) rfl) hs rfl).trans (and_congr_right fun h2 => ?_)
  refine (wc_isV (cl := 12) (rest := [.int s0]) (zcode_of mc_204 (r := (.invokevirtual 64, 134, 0, 2)) rfl) rfl rfl rfl).trans (and_congr_right fun h3 => ?_)
  exact wp_call (q := ([.ref a2, .int (zai σ 12 a0 (Int32.toNatClampNeg (x3 + 1))), .int (zai σ 12 a0 (Int32.toNatClampNeg (x3 + 2)))], [.int s0])) (zcode_of mc_204 (r := (.invokevirtual 64, 134, 0, 2)) rfl) rfl (zCa_V (Nat.le_of_ble_eq_true rfl) rfl h3) ⟨Nat.le_of_ble_eq_true rfl, Nat.le_of_ble_eq_true rfl⟩
set_option maxRecDepth 20000 in
theorem b204_542 {σ : zSt} {P : Option Value → zSt → Prop} {a0 a1 a2 : Nat} {x3 s0 s1 : Int32} {n : Nat} (hs : ztg σ a0 = (4, 12, n)) :
    wp 204 542 [some (.ref a0), some (.ref a1), some (.ref a2), some (.int x3)] [.int s0, .int s1] σ P ↔ (if s1 = s0 then wp 204 941 [some (.ref a0), some (.ref a1), some (.ref a2), some (.int x3)] [] σ P else wp 204 545 [some (.ref a0), some (.ref a1), some (.ref a2), some (.int x3)] [] σ P) := by
  exact wp_jump (off := 399) (t := 941) (zcode_of mc_204 (r := (.if_icmp .eq 399, 0, 0, 0)) rfl) rfl rfl (by decide)
set_option maxRecDepth 20000 in
theorem b204_545 {σ : zSt} {P : Option Value → zSt → Prop} {a0 a1 a2 : Nat} {x3 : Int32} {n : Nat} (hs : ztg σ a0 = (4, 12, n)) :
    wp 204 545 [some (.ref a0), some (.ref a1), some (.ref a2), some (.int x3)] [] σ P ↔ (((0 : Int32) = 0 ∨ (0 : Int32) = 1) ∧ P (some (.int 0)) σ) := by
  refine (wp_ic (n' := 546) rfl (zcode_of mc_204 (r := (.iconst 0, 0, 0, 0)) rfl) ci_0).trans ?_
  exact wp_retZ (zcode_of mc_204 (r := (.ireturn, 0, 0, 0)) rfl) rfl
set_option maxRecDepth 20000 in
theorem b204_547 {σ : zSt} {P : Option Value → zSt → Prop} {a0 a1 a2 : Nat} {x3 : Int32} {n : Nat} (hs : ztg σ a0 = (4, 12, n)) :
    wp 204 547 [some (.ref a0), some (.ref a1), some (.ref a2), some (.int x3)] [] σ P ↔ (zIn (x3 + 1) n ∧ (zIn (x3 + 2) n ∧ (zIn (x3 + 3) n ∧ (zIs σ a1 11 ∧ wpM 93 [.ref a1, .int (zai σ 12 a0 (Int32.toNatClampNeg (x3 + 1))), .int (zai σ 12 a0 (Int32.toNatClampNeg (x3 + 2))), .int (zai σ 12 a0 (Int32.toNatClampNeg (x3 + 3)))] σ (fun r τ => wp 204 566 [some (.ref a0), some (.ref a1), some (.ref a2), some (.int x3)] (r.toList ++ []) τ P))))) := by
  refine (wp_s (n := 548) (zcode_of mc_204 (r := (.aload_n 1, 0, 0, 0)) rfl) rfl rfl).trans ?_
  refine (wp_s (n := 549) (zcode_of mc_204 (r := (.aload_n 0, 0, 0, 0)) rfl) rfl rfl).trans ?_
  refine (wp_s (n := 550) (zcode_of mc_204 (r := (.iload_n 3, 0, 0, 0)) rfl) rfl rfl).trans ?_
  refine (wp_ic (n' := 551) rfl (zcode_of mc_204 (r := (.iconst 1, 0, 0, 0)) rfl) ci_1).trans ?_
  refine (wp_s (n := 552) (zcode_of mc_204 (r := (.iadd, 0, 0, 0)) rfl) rfl rfl).trans ?_
  refine (wc_ldS (n' := 553) rfl (zcode_of mc_204 (r := (.iaload, 0, 0, 0)) rfl) hs rfl).trans (and_congr_right fun h1 => ?_)
  refine (wp_s (n := 554) (zcode_of mc_204 (r := (.aload_n 0, 0, 0, 0)) rfl) rfl rfl).trans ?_
  refine (wp_s (n := 555) (zcode_of mc_204 (r := (.iload_n 3, 0, 0, 0)) rfl) rfl rfl).trans ?_
  refine (wp_ic (n' := 556) rfl (zcode_of mc_204 (r := (.iconst 2, 0, 0, 0)) rfl) ci_2).trans ?_
  refine (wp_s (n := 557) (zcode_of mc_204 (r := (.iadd, 0, 0, 0)) rfl) rfl rfl).trans ?_
  refine (wc_ldS (n' := 558) rfl (zcode_of mc_204 (r := (.iaload, 0, 0, 0)) rfl) hs rfl).trans (and_congr_right fun h2 => ?_)
  refine (wp_s (n := 559) (zcode_of mc_204 (r := (.aload_n 0, 0, 0, 0)) rfl) rfl rfl).trans ?_
  refine (wp_s (n := 560) (zcode_of mc_204 (r := (.iload_n 3, 0, 0, 0)) rfl) rfl rfl).trans ?_
  refine (wp_ic (n' := 561) rfl (zcode_of mc_204 (r := (.iconst 3, 0, 0, 0)) rfl) ci_3).trans ?_
  refine (wp_s (n := 562) (zcode_of mc_204 (r := (.iadd, 0, 0, 0)) rfl) rfl rfl).trans ?_
  refine (wc_ldS (n' := 563) rfl (zcode_of mc_204 (r := (.iaload, 0, 0, 0)) rfl) hs rfl).trans (and_congr_right fun h3 => ?_)
  refine (wc_isV (cl := 11) (rest := []) (zcode_of mc_204 (r := (.invokevirtual 65, 93, 0, 3)) rfl) rfl rfl rfl).trans (and_congr_right fun h4 => ?_)
  exact wp_call (q := ([.ref a1, .int (zai σ 12 a0 (Int32.toNatClampNeg (x3 + 1))), .int (zai σ 12 a0 (Int32.toNatClampNeg (x3 + 2))), .int (zai σ 12 a0 (Int32.toNatClampNeg (x3 + 3)))], [])) (zcode_of mc_204 (r := (.invokevirtual 65, 93, 0, 3)) rfl) rfl (zCa_V (Nat.le_of_ble_eq_true rfl) rfl h4) ⟨Nat.le_of_ble_eq_true rfl, Nat.le_of_ble_eq_true rfl⟩
set_option maxRecDepth 20000 in
theorem b204_566 {σ : zSt} {P : Option Value → zSt → Prop} {a0 a1 a2 : Nat} {x3 s0 : Int32} {n : Nat} (hs : ztg σ a0 = (4, 12, n)) :
    wp 204 566 [some (.ref a0), some (.ref a1), some (.ref a2), some (.int x3)] [.int s0] σ P ↔ (zIn (x3 + 1) n ∧ (zIn (x3 + 2) n ∧ (zIn (x3 + 3) n ∧ (zIs σ a2 12 ∧ wpM 135 [.ref a2, .int (zai σ 12 a0 (Int32.toNatClampNeg (x3 + 1))), .int (zai σ 12 a0 (Int32.toNatClampNeg (x3 + 2))), .int (zai σ 12 a0 (Int32.toNatClampNeg (x3 + 3)))] σ (fun r τ => wp 204 585 [some (.ref a0), some (.ref a1), some (.ref a2), some (.int x3)] (r.toList ++ [.int s0]) τ P))))) := by
  refine (wp_s (n := 567) (zcode_of mc_204 (r := (.aload_n 2, 0, 0, 0)) rfl) rfl rfl).trans ?_
  refine (wp_s (n := 568) (zcode_of mc_204 (r := (.aload_n 0, 0, 0, 0)) rfl) rfl rfl).trans ?_
  refine (wp_s (n := 569) (zcode_of mc_204 (r := (.iload_n 3, 0, 0, 0)) rfl) rfl rfl).trans ?_
  refine (wp_ic (n' := 570) rfl (zcode_of mc_204 (r := (.iconst 1, 0, 0, 0)) rfl) ci_1).trans ?_
  refine (wp_s (n := 571) (zcode_of mc_204 (r := (.iadd, 0, 0, 0)) rfl) rfl rfl).trans ?_
  refine (wc_ldS (n' := 572) rfl (zcode_of mc_204 (r := (.iaload, 0, 0, 0)) rfl) hs rfl).trans (and_congr_right fun h1 => ?_)
  refine (wp_s (n := 573) (zcode_of mc_204 (r := (.aload_n 0, 0, 0, 0)) rfl) rfl rfl).trans ?_
  refine (wp_s (n := 574) (zcode_of mc_204 (r := (.iload_n 3, 0, 0, 0)) rfl) rfl rfl).trans ?_
  refine (wp_ic (n' := 575) rfl (zcode_of mc_204 (r := (.iconst 2, 0, 0, 0)) rfl) ci_2).trans ?_
  refine (wp_s (n := 576) (zcode_of mc_204 (r := (.iadd, 0, 0, 0)) rfl) rfl rfl).trans ?_
  refine (wc_ldS (n' := 577) rfl (zcode_of mc_204 (r := (.iaload, 0, 0, 0)) rfl) hs rfl).trans (and_congr_right fun h2 => ?_)
  refine (wp_s (n := 578) (zcode_of mc_204 (r := (.aload_n 0, 0, 0, 0)) rfl) rfl rfl).trans ?_
  refine (wp_s (n := 579) (zcode_of mc_204 (r := (.iload_n 3, 0, 0, 0)) rfl) rfl rfl).trans ?_
  refine (wp_ic (n' := 580) rfl (zcode_of mc_204 (r := (.iconst 3, 0, 0, 0)) rfl) ci_3).trans ?_
  refine (wp_s (n := 581) (zcode_of mc_204 (r := (.iadd, 0, 0, 0)) rfl) rfl rfl).trans ?_
  refine (wc_ldS (n' := 582) rfl (zcode_of mc_204 (r := (.iaload, 0, 0, 0)) rfl) hs rfl).trans (and_congr_right fun h3 => ?_)
  refine (wc_isV (cl := 12) (rest := [.int s0]) (zcode_of mc_204 (r := (.invokevirtual 68, 135, 0, 3)) rfl) rfl rfl rfl).trans (and_congr_right fun h4 => ?_)
  exact wp_call (q := ([.ref a2, .int (zai σ 12 a0 (Int32.toNatClampNeg (x3 + 1))), .int (zai σ 12 a0 (Int32.toNatClampNeg (x3 + 2))), .int (zai σ 12 a0 (Int32.toNatClampNeg (x3 + 3)))], [.int s0])) (zcode_of mc_204 (r := (.invokevirtual 68, 135, 0, 3)) rfl) rfl (zCa_V (Nat.le_of_ble_eq_true rfl) rfl h4) ⟨Nat.le_of_ble_eq_true rfl, Nat.le_of_ble_eq_true rfl⟩
set_option maxRecDepth 20000 in
theorem b204_585 {σ : zSt} {P : Option Value → zSt → Prop} {a0 a1 a2 : Nat} {x3 s0 s1 : Int32} {n : Nat} (hs : ztg σ a0 = (4, 12, n)) :
    wp 204 585 [some (.ref a0), some (.ref a1), some (.ref a2), some (.int x3)] [.int s0, .int s1] σ P ↔ (if s1 = s0 then wp 204 941 [some (.ref a0), some (.ref a1), some (.ref a2), some (.int x3)] [] σ P else wp 204 588 [some (.ref a0), some (.ref a1), some (.ref a2), some (.int x3)] [] σ P) := by
  exact wp_jump (off := 356) (t := 941) (zcode_of mc_204 (r := (.if_icmp .eq 356, 0, 0, 0)) rfl) rfl rfl (by decide)
set_option maxRecDepth 20000 in
theorem b204_588 {σ : zSt} {P : Option Value → zSt → Prop} {a0 a1 a2 : Nat} {x3 : Int32} {n : Nat} (hs : ztg σ a0 = (4, 12, n)) :
    wp 204 588 [some (.ref a0), some (.ref a1), some (.ref a2), some (.int x3)] [] σ P ↔ (((0 : Int32) = 0 ∨ (0 : Int32) = 1) ∧ P (some (.int 0)) σ) := by
  refine (wp_ic (n' := 589) rfl (zcode_of mc_204 (r := (.iconst 0, 0, 0, 0)) rfl) ci_0).trans ?_
  exact wp_retZ (zcode_of mc_204 (r := (.ireturn, 0, 0, 0)) rfl) rfl
set_option maxRecDepth 20000 in
theorem b204_590 {σ : zSt} {P : Option Value → zSt → Prop} {a0 a1 a2 : Nat} {x3 : Int32} {n : Nat} (hs : ztg σ a0 = (4, 12, n)) :
    wp 204 590 [some (.ref a0), some (.ref a1), some (.ref a2), some (.int x3)] [] σ P ↔ (zIn (x3 + 1) n ∧ (zIs σ a1 11 ∧ wpM 94 [.ref a1, .int (zai σ 12 a0 (Int32.toNatClampNeg (x3 + 1)))] σ (fun r τ => wp 204 599 [some (.ref a0), some (.ref a1), some (.ref a2), some (.int x3)] (r.toList ++ []) τ P))) := by
  refine (wp_s (n := 591) (zcode_of mc_204 (r := (.aload_n 1, 0, 0, 0)) rfl) rfl rfl).trans ?_
  refine (wp_s (n := 592) (zcode_of mc_204 (r := (.aload_n 0, 0, 0, 0)) rfl) rfl rfl).trans ?_
  refine (wp_s (n := 593) (zcode_of mc_204 (r := (.iload_n 3, 0, 0, 0)) rfl) rfl rfl).trans ?_
  refine (wp_ic (n' := 594) rfl (zcode_of mc_204 (r := (.iconst 1, 0, 0, 0)) rfl) ci_1).trans ?_
  refine (wp_s (n := 595) (zcode_of mc_204 (r := (.iadd, 0, 0, 0)) rfl) rfl rfl).trans ?_
  refine (wc_ldS (n' := 596) rfl (zcode_of mc_204 (r := (.iaload, 0, 0, 0)) rfl) hs rfl).trans (and_congr_right fun h1 => ?_)
  refine (wc_isV (cl := 11) (rest := []) (zcode_of mc_204 (r := (.invokevirtual 69, 94, 0, 1)) rfl) rfl rfl rfl).trans (and_congr_right fun h2 => ?_)
  exact wp_call (q := ([.ref a1, .int (zai σ 12 a0 (Int32.toNatClampNeg (x3 + 1)))], [])) (zcode_of mc_204 (r := (.invokevirtual 69, 94, 0, 1)) rfl) rfl (zCa_V (Nat.le_of_ble_eq_true rfl) rfl h2) ⟨Nat.le_of_ble_eq_true rfl, Nat.le_of_ble_eq_true rfl⟩
set_option maxRecDepth 20000 in
theorem b204_599 {σ : zSt} {P : Option Value → zSt → Prop} {a0 a1 a2 : Nat} {x3 s0 : Int32} {n : Nat} (hs : ztg σ a0 = (4, 12, n)) :
    wp 204 599 [some (.ref a0), some (.ref a1), some (.ref a2), some (.int x3)] [.int s0] σ P ↔ (zIn (x3 + 1) n ∧ (zIs σ a2 12 ∧ wpM 136 [.ref a2, .int (zai σ 12 a0 (Int32.toNatClampNeg (x3 + 1)))] σ (fun r τ => wp 204 608 [some (.ref a0), some (.ref a1), some (.ref a2), some (.int x3)] (r.toList ++ [.int s0]) τ P))) := by
  refine (wp_s (n := 600) (zcode_of mc_204 (r := (.aload_n 2, 0, 0, 0)) rfl) rfl rfl).trans ?_
  refine (wp_s (n := 601) (zcode_of mc_204 (r := (.aload_n 0, 0, 0, 0)) rfl) rfl rfl).trans ?_
  refine (wp_s (n := 602) (zcode_of mc_204 (r := (.iload_n 3, 0, 0, 0)) rfl) rfl rfl).trans ?_
  refine (wp_ic (n' := 603) rfl (zcode_of mc_204 (r := (.iconst 1, 0, 0, 0)) rfl) ci_1).trans ?_
  refine (wp_s (n := 604) (zcode_of mc_204 (r := (.iadd, 0, 0, 0)) rfl) rfl rfl).trans ?_
  refine (wc_ldS (n' := 605) rfl (zcode_of mc_204 (r := (.iaload, 0, 0, 0)) rfl) hs rfl).trans (and_congr_right fun h1 => ?_)
  refine (wc_isV (cl := 12) (rest := [.int s0]) (zcode_of mc_204 (r := (.invokevirtual 72, 136, 0, 1)) rfl) rfl rfl rfl).trans (and_congr_right fun h2 => ?_)
  exact wp_call (q := ([.ref a2, .int (zai σ 12 a0 (Int32.toNatClampNeg (x3 + 1)))], [.int s0])) (zcode_of mc_204 (r := (.invokevirtual 72, 136, 0, 1)) rfl) rfl (zCa_V (Nat.le_of_ble_eq_true rfl) rfl h2) ⟨Nat.le_of_ble_eq_true rfl, Nat.le_of_ble_eq_true rfl⟩
set_option maxRecDepth 20000 in
theorem b204_608 {σ : zSt} {P : Option Value → zSt → Prop} {a0 a1 a2 : Nat} {x3 s0 s1 : Int32} {n : Nat} (hs : ztg σ a0 = (4, 12, n)) :
    wp 204 608 [some (.ref a0), some (.ref a1), some (.ref a2), some (.int x3)] [.int s0, .int s1] σ P ↔ (if s1 = s0 then wp 204 941 [some (.ref a0), some (.ref a1), some (.ref a2), some (.int x3)] [] σ P else wp 204 611 [some (.ref a0), some (.ref a1), some (.ref a2), some (.int x3)] [] σ P) := by
  exact wp_jump (off := 333) (t := 941) (zcode_of mc_204 (r := (.if_icmp .eq 333, 0, 0, 0)) rfl) rfl rfl (by decide)
set_option maxRecDepth 20000 in
theorem b204_611 {σ : zSt} {P : Option Value → zSt → Prop} {a0 a1 a2 : Nat} {x3 : Int32} {n : Nat} (hs : ztg σ a0 = (4, 12, n)) :
    wp 204 611 [some (.ref a0), some (.ref a1), some (.ref a2), some (.int x3)] [] σ P ↔ (((0 : Int32) = 0 ∨ (0 : Int32) = 1) ∧ P (some (.int 0)) σ) := by
  refine (wp_ic (n' := 612) rfl (zcode_of mc_204 (r := (.iconst 0, 0, 0, 0)) rfl) ci_0).trans ?_
  exact wp_retZ (zcode_of mc_204 (r := (.ireturn, 0, 0, 0)) rfl) rfl
set_option maxRecDepth 20000 in
theorem b204_613 {σ : zSt} {P : Option Value → zSt → Prop} {a0 a1 a2 : Nat} {x3 : Int32} {n : Nat} (hs : ztg σ a0 = (4, 12, n)) :
    wp 204 613 [some (.ref a0), some (.ref a1), some (.ref a2), some (.int x3)] [] σ P ↔ (zIn (x3 + 1) n ∧ (zIn (x3 + 2) n ∧ (zIs σ a1 11 ∧ wpM 95 [.ref a1, .int (zai σ 12 a0 (Int32.toNatClampNeg (x3 + 1))), .int (zai σ 12 a0 (Int32.toNatClampNeg (x3 + 2)))] σ (fun r τ => wp 204 627 [some (.ref a0), some (.ref a1), some (.ref a2), some (.int x3)] (r.toList ++ []) τ P)))) := by
  refine (wp_s (n := 614) (zcode_of mc_204 (r := (.aload_n 1, 0, 0, 0)) rfl) rfl rfl).trans ?_
  refine (wp_s (n := 615) (zcode_of mc_204 (r := (.aload_n 0, 0, 0, 0)) rfl) rfl rfl).trans ?_
  refine (wp_s (n := 616) (zcode_of mc_204 (r := (.iload_n 3, 0, 0, 0)) rfl) rfl rfl).trans ?_
  refine (wp_ic (n' := 617) rfl (zcode_of mc_204 (r := (.iconst 1, 0, 0, 0)) rfl) ci_1).trans ?_
  refine (wp_s (n := 618) (zcode_of mc_204 (r := (.iadd, 0, 0, 0)) rfl) rfl rfl).trans ?_
  refine (wc_ldS (n' := 619) rfl (zcode_of mc_204 (r := (.iaload, 0, 0, 0)) rfl) hs rfl).trans (and_congr_right fun h1 => ?_)
  refine (wp_s (n := 620) (zcode_of mc_204 (r := (.aload_n 0, 0, 0, 0)) rfl) rfl rfl).trans ?_
  refine (wp_s (n := 621) (zcode_of mc_204 (r := (.iload_n 3, 0, 0, 0)) rfl) rfl rfl).trans ?_
  refine (wp_ic (n' := 622) rfl (zcode_of mc_204 (r := (.iconst 2, 0, 0, 0)) rfl) ci_2).trans ?_
  refine (wp_s (n := 623) (zcode_of mc_204 (r := (.iadd, 0, 0, 0)) rfl) rfl rfl).trans ?_
  refine (wc_ldS (n' := 624) rfl (zcode_of mc_204 (r := (.iaload, 0, 0, 0)) rfl) hs rfl).trans (and_congr_right fun h2 => ?_)
  refine (wc_isV (cl := 11) (rest := []) (zcode_of mc_204 (r := (.invokevirtual 73, 95, 0, 2)) rfl) rfl rfl rfl).trans (and_congr_right fun h3 => ?_)
  exact wp_call (q := ([.ref a1, .int (zai σ 12 a0 (Int32.toNatClampNeg (x3 + 1))), .int (zai σ 12 a0 (Int32.toNatClampNeg (x3 + 2)))], [])) (zcode_of mc_204 (r := (.invokevirtual 73, 95, 0, 2)) rfl) rfl (zCa_V (Nat.le_of_ble_eq_true rfl) rfl h3) ⟨Nat.le_of_ble_eq_true rfl, Nat.le_of_ble_eq_true rfl⟩
set_option maxRecDepth 20000 in
theorem b204_627 {σ : zSt} {P : Option Value → zSt → Prop} {a0 a1 a2 : Nat} {x3 s0 : Int32} {n : Nat} (hs : ztg σ a0 = (4, 12, n)) :
    wp 204 627 [some (.ref a0), some (.ref a1), some (.ref a2), some (.int x3)] [.int s0] σ P ↔ (zIn (x3 + 1) n ∧ (zIn (x3 + 2) n ∧ (zIs σ a2 12 ∧ wpM 137 [.ref a2, .int (zai σ 12 a0 (Int32.toNatClampNeg (x3 + 1))), .int (zai σ 12 a0 (Int32.toNatClampNeg (x3 + 2)))] σ (fun r τ => wp 204 641 [some (.ref a0), some (.ref a1), some (.ref a2), some (.int x3)] (r.toList ++ [.int s0]) τ P)))) := by
  refine (wp_s (n := 628) (zcode_of mc_204 (r := (.aload_n 2, 0, 0, 0)) rfl) rfl rfl).trans ?_
  refine (wp_s (n := 629) (zcode_of mc_204 (r := (.aload_n 0, 0, 0, 0)) rfl) rfl rfl).trans ?_
  refine (wp_s (n := 630) (zcode_of mc_204 (r := (.iload_n 3, 0, 0, 0)) rfl) rfl rfl).trans ?_
  refine (wp_ic (n' := 631) rfl (zcode_of mc_204 (r := (.iconst 1, 0, 0, 0)) rfl) ci_1).trans ?_
  refine (wp_s (n := 632) (zcode_of mc_204 (r := (.iadd, 0, 0, 0)) rfl) rfl rfl).trans ?_
  refine (wc_ldS (n' := 633) rfl (zcode_of mc_204 (r := (.iaload, 0, 0, 0)) rfl) hs rfl).trans (and_congr_right fun h1 => ?_)
  refine (wp_s (n := 634) (zcode_of mc_204 (r := (.aload_n 0, 0, 0, 0)) rfl) rfl rfl).trans ?_
  refine (wp_s (n := 635) (zcode_of mc_204 (r := (.iload_n 3, 0, 0, 0)) rfl) rfl rfl).trans ?_
  refine (wp_ic (n' := 636) rfl (zcode_of mc_204 (r := (.iconst 2, 0, 0, 0)) rfl) ci_2).trans ?_
  refine (wp_s (n := 637) (zcode_of mc_204 (r := (.iadd, 0, 0, 0)) rfl) rfl rfl).trans ?_
  refine (wc_ldS (n' := 638) rfl (zcode_of mc_204 (r := (.iaload, 0, 0, 0)) rfl) hs rfl).trans (and_congr_right fun h2 => ?_)
  refine (wc_isV (cl := 12) (rest := [.int s0]) (zcode_of mc_204 (r := (.invokevirtual 76, 137, 0, 2)) rfl) rfl rfl rfl).trans (and_congr_right fun h3 => ?_)
  exact wp_call (q := ([.ref a2, .int (zai σ 12 a0 (Int32.toNatClampNeg (x3 + 1))), .int (zai σ 12 a0 (Int32.toNatClampNeg (x3 + 2)))], [.int s0])) (zcode_of mc_204 (r := (.invokevirtual 76, 137, 0, 2)) rfl) rfl (zCa_V (Nat.le_of_ble_eq_true rfl) rfl h3) ⟨Nat.le_of_ble_eq_true rfl, Nat.le_of_ble_eq_true rfl⟩
set_option maxRecDepth 20000 in
theorem b204_641 {σ : zSt} {P : Option Value → zSt → Prop} {a0 a1 a2 : Nat} {x3 s0 s1 : Int32} {n : Nat} (hs : ztg σ a0 = (4, 12, n)) :
    wp 204 641 [some (.ref a0), some (.ref a1), some (.ref a2), some (.int x3)] [.int s0, .int s1] σ P ↔ (if s1 = s0 then wp 204 941 [some (.ref a0), some (.ref a1), some (.ref a2), some (.int x3)] [] σ P else wp 204 644 [some (.ref a0), some (.ref a1), some (.ref a2), some (.int x3)] [] σ P) := by
  exact wp_jump (off := 300) (t := 941) (zcode_of mc_204 (r := (.if_icmp .eq 300, 0, 0, 0)) rfl) rfl rfl (by decide)
set_option maxRecDepth 20000 in
theorem b204_644 {σ : zSt} {P : Option Value → zSt → Prop} {a0 a1 a2 : Nat} {x3 : Int32} {n : Nat} (hs : ztg σ a0 = (4, 12, n)) :
    wp 204 644 [some (.ref a0), some (.ref a1), some (.ref a2), some (.int x3)] [] σ P ↔ (((0 : Int32) = 0 ∨ (0 : Int32) = 1) ∧ P (some (.int 0)) σ) := by
  refine (wp_ic (n' := 645) rfl (zcode_of mc_204 (r := (.iconst 0, 0, 0, 0)) rfl) ci_0).trans ?_
  exact wp_retZ (zcode_of mc_204 (r := (.ireturn, 0, 0, 0)) rfl) rfl
set_option maxRecDepth 20000 in
theorem b204_646 {σ : zSt} {P : Option Value → zSt → Prop} {a0 a1 a2 : Nat} {x3 : Int32} {n : Nat} (hs : ztg σ a0 = (4, 12, n)) :
    wp 204 646 [some (.ref a0), some (.ref a1), some (.ref a2), some (.int x3)] [] σ P ↔ (zIn (x3 + 1) n ∧ (zIn (x3 + 2) n ∧ (zIs σ a1 11 ∧ wpM 96 [.ref a1, .int (zai σ 12 a0 (Int32.toNatClampNeg (x3 + 1))), .int (zai σ 12 a0 (Int32.toNatClampNeg (x3 + 2)))] σ (fun r τ => wp 204 660 [some (.ref a0), some (.ref a1), some (.ref a2), some (.int x3)] (r.toList ++ []) τ P)))) := by
  refine (wp_s (n := 647) (zcode_of mc_204 (r := (.aload_n 1, 0, 0, 0)) rfl) rfl rfl).trans ?_
  refine (wp_s (n := 648) (zcode_of mc_204 (r := (.aload_n 0, 0, 0, 0)) rfl) rfl rfl).trans ?_
  refine (wp_s (n := 649) (zcode_of mc_204 (r := (.iload_n 3, 0, 0, 0)) rfl) rfl rfl).trans ?_
  refine (wp_ic (n' := 650) rfl (zcode_of mc_204 (r := (.iconst 1, 0, 0, 0)) rfl) ci_1).trans ?_
  refine (wp_s (n := 651) (zcode_of mc_204 (r := (.iadd, 0, 0, 0)) rfl) rfl rfl).trans ?_
  refine (wc_ldS (n' := 652) rfl (zcode_of mc_204 (r := (.iaload, 0, 0, 0)) rfl) hs rfl).trans (and_congr_right fun h1 => ?_)
  refine (wp_s (n := 653) (zcode_of mc_204 (r := (.aload_n 0, 0, 0, 0)) rfl) rfl rfl).trans ?_
  refine (wp_s (n := 654) (zcode_of mc_204 (r := (.iload_n 3, 0, 0, 0)) rfl) rfl rfl).trans ?_
  refine (wp_ic (n' := 655) rfl (zcode_of mc_204 (r := (.iconst 2, 0, 0, 0)) rfl) ci_2).trans ?_
  refine (wp_s (n := 656) (zcode_of mc_204 (r := (.iadd, 0, 0, 0)) rfl) rfl rfl).trans ?_
  refine (wc_ldS (n' := 657) rfl (zcode_of mc_204 (r := (.iaload, 0, 0, 0)) rfl) hs rfl).trans (and_congr_right fun h2 => ?_)
  refine (wc_isV (cl := 11) (rest := []) (zcode_of mc_204 (r := (.invokevirtual 77, 96, 0, 2)) rfl) rfl rfl rfl).trans (and_congr_right fun h3 => ?_)
  exact wp_call (q := ([.ref a1, .int (zai σ 12 a0 (Int32.toNatClampNeg (x3 + 1))), .int (zai σ 12 a0 (Int32.toNatClampNeg (x3 + 2)))], [])) (zcode_of mc_204 (r := (.invokevirtual 77, 96, 0, 2)) rfl) rfl (zCa_V (Nat.le_of_ble_eq_true rfl) rfl h3) ⟨Nat.le_of_ble_eq_true rfl, Nat.le_of_ble_eq_true rfl⟩
set_option maxRecDepth 20000 in
theorem b204_660 {σ : zSt} {P : Option Value → zSt → Prop} {a0 a1 a2 : Nat} {x3 s0 : Int32} {n : Nat} (hs : ztg σ a0 = (4, 12, n)) :
    wp 204 660 [some (.ref a0), some (.ref a1), some (.ref a2), some (.int x3)] [.int s0] σ P ↔ (zIn (x3 + 1) n ∧ (zIn (x3 + 2) n ∧ (zIs σ a2 12 ∧ wpM 138 [.ref a2, .int (zai σ 12 a0 (Int32.toNatClampNeg (x3 + 1))), .int (zai σ 12 a0 (Int32.toNatClampNeg (x3 + 2)))] σ (fun r τ => wp 204 674 [some (.ref a0), some (.ref a1), some (.ref a2), some (.int x3)] (r.toList ++ [.int s0]) τ P)))) := by
  refine (wp_s (n := 661) (zcode_of mc_204 (r := (.aload_n 2, 0, 0, 0)) rfl) rfl rfl).trans ?_
  refine (wp_s (n := 662) (zcode_of mc_204 (r := (.aload_n 0, 0, 0, 0)) rfl) rfl rfl).trans ?_
  refine (wp_s (n := 663) (zcode_of mc_204 (r := (.iload_n 3, 0, 0, 0)) rfl) rfl rfl).trans ?_
  refine (wp_ic (n' := 664) rfl (zcode_of mc_204 (r := (.iconst 1, 0, 0, 0)) rfl) ci_1).trans ?_
  refine (wp_s (n := 665) (zcode_of mc_204 (r := (.iadd, 0, 0, 0)) rfl) rfl rfl).trans ?_
  refine (wc_ldS (n' := 666) rfl (zcode_of mc_204 (r := (.iaload, 0, 0, 0)) rfl) hs rfl).trans (and_congr_right fun h1 => ?_)
  refine (wp_s (n := 667) (zcode_of mc_204 (r := (.aload_n 0, 0, 0, 0)) rfl) rfl rfl).trans ?_
  refine (wp_s (n := 668) (zcode_of mc_204 (r := (.iload_n 3, 0, 0, 0)) rfl) rfl rfl).trans ?_
  refine (wp_ic (n' := 669) rfl (zcode_of mc_204 (r := (.iconst 2, 0, 0, 0)) rfl) ci_2).trans ?_
  refine (wp_s (n := 670) (zcode_of mc_204 (r := (.iadd, 0, 0, 0)) rfl) rfl rfl).trans ?_
  refine (wc_ldS (n' := 671) rfl (zcode_of mc_204 (r := (.iaload, 0, 0, 0)) rfl) hs rfl).trans (and_congr_right fun h2 => ?_)
  refine (wc_isV (cl := 12) (rest := [.int s0]) (zcode_of mc_204 (r := (.invokevirtual 80, 138, 0, 2)) rfl) rfl rfl rfl).trans (and_congr_right fun h3 => ?_)
  exact wp_call (q := ([.ref a2, .int (zai σ 12 a0 (Int32.toNatClampNeg (x3 + 1))), .int (zai σ 12 a0 (Int32.toNatClampNeg (x3 + 2)))], [.int s0])) (zcode_of mc_204 (r := (.invokevirtual 80, 138, 0, 2)) rfl) rfl (zCa_V (Nat.le_of_ble_eq_true rfl) rfl h3) ⟨Nat.le_of_ble_eq_true rfl, Nat.le_of_ble_eq_true rfl⟩
set_option maxRecDepth 20000 in
theorem b204_674 {σ : zSt} {P : Option Value → zSt → Prop} {a0 a1 a2 : Nat} {x3 s0 s1 : Int32} {n : Nat} (hs : ztg σ a0 = (4, 12, n)) :
    wp 204 674 [some (.ref a0), some (.ref a1), some (.ref a2), some (.int x3)] [.int s0, .int s1] σ P ↔ (if s1 = s0 then wp 204 941 [some (.ref a0), some (.ref a1), some (.ref a2), some (.int x3)] [] σ P else wp 204 677 [some (.ref a0), some (.ref a1), some (.ref a2), some (.int x3)] [] σ P) := by
  exact wp_jump (off := 267) (t := 941) (zcode_of mc_204 (r := (.if_icmp .eq 267, 0, 0, 0)) rfl) rfl rfl (by decide)
set_option maxRecDepth 20000 in
theorem b204_677 {σ : zSt} {P : Option Value → zSt → Prop} {a0 a1 a2 : Nat} {x3 : Int32} {n : Nat} (hs : ztg σ a0 = (4, 12, n)) :
    wp 204 677 [some (.ref a0), some (.ref a1), some (.ref a2), some (.int x3)] [] σ P ↔ (((0 : Int32) = 0 ∨ (0 : Int32) = 1) ∧ P (some (.int 0)) σ) := by
  refine (wp_ic (n' := 678) rfl (zcode_of mc_204 (r := (.iconst 0, 0, 0, 0)) rfl) ci_0).trans ?_
  exact wp_retZ (zcode_of mc_204 (r := (.ireturn, 0, 0, 0)) rfl) rfl
set_option maxRecDepth 20000 in
theorem b204_679 {σ : zSt} {P : Option Value → zSt → Prop} {a0 a1 a2 : Nat} {x3 : Int32} {n : Nat} (hs : ztg σ a0 = (4, 12, n)) :
    wp 204 679 [some (.ref a0), some (.ref a1), some (.ref a2), some (.int x3)] [] σ P ↔ (zIn (x3 + 1) n ∧ (zIn (x3 + 2) n ∧ (zIs σ a1 11 ∧ wpM 97 [.ref a1, .int (zai σ 12 a0 (Int32.toNatClampNeg (x3 + 1))), .int (zai σ 12 a0 (Int32.toNatClampNeg (x3 + 2)))] σ (fun r τ => wp 204 693 [some (.ref a0), some (.ref a1), some (.ref a2), some (.int x3)] (r.toList ++ []) τ P)))) := by
  refine (wp_s (n := 680) (zcode_of mc_204 (r := (.aload_n 1, 0, 0, 0)) rfl) rfl rfl).trans ?_
  refine (wp_s (n := 681) (zcode_of mc_204 (r := (.aload_n 0, 0, 0, 0)) rfl) rfl rfl).trans ?_
  refine (wp_s (n := 682) (zcode_of mc_204 (r := (.iload_n 3, 0, 0, 0)) rfl) rfl rfl).trans ?_
  refine (wp_ic (n' := 683) rfl (zcode_of mc_204 (r := (.iconst 1, 0, 0, 0)) rfl) ci_1).trans ?_
  refine (wp_s (n := 684) (zcode_of mc_204 (r := (.iadd, 0, 0, 0)) rfl) rfl rfl).trans ?_
  refine (wc_ldS (n' := 685) rfl (zcode_of mc_204 (r := (.iaload, 0, 0, 0)) rfl) hs rfl).trans (and_congr_right fun h1 => ?_)
  refine (wp_s (n := 686) (zcode_of mc_204 (r := (.aload_n 0, 0, 0, 0)) rfl) rfl rfl).trans ?_
  refine (wp_s (n := 687) (zcode_of mc_204 (r := (.iload_n 3, 0, 0, 0)) rfl) rfl rfl).trans ?_
  refine (wp_ic (n' := 688) rfl (zcode_of mc_204 (r := (.iconst 2, 0, 0, 0)) rfl) ci_2).trans ?_
  refine (wp_s (n := 689) (zcode_of mc_204 (r := (.iadd, 0, 0, 0)) rfl) rfl rfl).trans ?_
  refine (wc_ldS (n' := 690) rfl (zcode_of mc_204 (r := (.iaload, 0, 0, 0)) rfl) hs rfl).trans (and_congr_right fun h2 => ?_)
  refine (wc_isV (cl := 11) (rest := []) (zcode_of mc_204 (r := (.invokevirtual 81, 97, 0, 2)) rfl) rfl rfl rfl).trans (and_congr_right fun h3 => ?_)
  exact wp_call (q := ([.ref a1, .int (zai σ 12 a0 (Int32.toNatClampNeg (x3 + 1))), .int (zai σ 12 a0 (Int32.toNatClampNeg (x3 + 2)))], [])) (zcode_of mc_204 (r := (.invokevirtual 81, 97, 0, 2)) rfl) rfl (zCa_V (Nat.le_of_ble_eq_true rfl) rfl h3) ⟨Nat.le_of_ble_eq_true rfl, Nat.le_of_ble_eq_true rfl⟩
set_option maxRecDepth 20000 in
theorem b204_693 {σ : zSt} {P : Option Value → zSt → Prop} {a0 a1 a2 : Nat} {x3 s0 : Int32} {n : Nat} (hs : ztg σ a0 = (4, 12, n)) :
    wp 204 693 [some (.ref a0), some (.ref a1), some (.ref a2), some (.int x3)] [.int s0] σ P ↔ (zIn (x3 + 1) n ∧ (zIn (x3 + 2) n ∧ (zIs σ a2 12 ∧ wpM 173 [.ref a2, .int (zai σ 12 a0 (Int32.toNatClampNeg (x3 + 1))), .int (zai σ 12 a0 (Int32.toNatClampNeg (x3 + 2)))] σ (fun r τ => wp 204 707 [some (.ref a0), some (.ref a1), some (.ref a2), some (.int x3)] (r.toList ++ [.int s0]) τ P)))) := by
  refine (wp_s (n := 694) (zcode_of mc_204 (r := (.aload_n 2, 0, 0, 0)) rfl) rfl rfl).trans ?_
  refine (wp_s (n := 695) (zcode_of mc_204 (r := (.aload_n 0, 0, 0, 0)) rfl) rfl rfl).trans ?_
  refine (wp_s (n := 696) (zcode_of mc_204 (r := (.iload_n 3, 0, 0, 0)) rfl) rfl rfl).trans ?_
  refine (wp_ic (n' := 697) rfl (zcode_of mc_204 (r := (.iconst 1, 0, 0, 0)) rfl) ci_1).trans ?_
  refine (wp_s (n := 698) (zcode_of mc_204 (r := (.iadd, 0, 0, 0)) rfl) rfl rfl).trans ?_
  refine (wc_ldS (n' := 699) rfl (zcode_of mc_204 (r := (.iaload, 0, 0, 0)) rfl) hs rfl).trans (and_congr_right fun h1 => ?_)
  refine (wp_s (n := 700) (zcode_of mc_204 (r := (.aload_n 0, 0, 0, 0)) rfl) rfl rfl).trans ?_
  refine (wp_s (n := 701) (zcode_of mc_204 (r := (.iload_n 3, 0, 0, 0)) rfl) rfl rfl).trans ?_
  refine (wp_ic (n' := 702) rfl (zcode_of mc_204 (r := (.iconst 2, 0, 0, 0)) rfl) ci_2).trans ?_
  refine (wp_s (n := 703) (zcode_of mc_204 (r := (.iadd, 0, 0, 0)) rfl) rfl rfl).trans ?_
  refine (wc_ldS (n' := 704) rfl (zcode_of mc_204 (r := (.iaload, 0, 0, 0)) rfl) hs rfl).trans (and_congr_right fun h2 => ?_)
  refine (wc_isV (cl := 12) (rest := [.int s0]) (zcode_of mc_204 (r := (.invokevirtual 84, 173, 0, 2)) rfl) rfl rfl rfl).trans (and_congr_right fun h3 => ?_)
  exact wp_call (q := ([.ref a2, .int (zai σ 12 a0 (Int32.toNatClampNeg (x3 + 1))), .int (zai σ 12 a0 (Int32.toNatClampNeg (x3 + 2)))], [.int s0])) (zcode_of mc_204 (r := (.invokevirtual 84, 173, 0, 2)) rfl) rfl (zCa_V (Nat.le_of_ble_eq_true rfl) rfl h3) ⟨Nat.le_of_ble_eq_true rfl, Nat.le_of_ble_eq_true rfl⟩
set_option maxRecDepth 20000 in
theorem b204_707 {σ : zSt} {P : Option Value → zSt → Prop} {a0 a1 a2 : Nat} {x3 s0 s1 : Int32} {n : Nat} (hs : ztg σ a0 = (4, 12, n)) :
    wp 204 707 [some (.ref a0), some (.ref a1), some (.ref a2), some (.int x3)] [.int s0, .int s1] σ P ↔ (if s1 = s0 then wp 204 941 [some (.ref a0), some (.ref a1), some (.ref a2), some (.int x3)] [] σ P else wp 204 710 [some (.ref a0), some (.ref a1), some (.ref a2), some (.int x3)] [] σ P) := by
  exact wp_jump (off := 234) (t := 941) (zcode_of mc_204 (r := (.if_icmp .eq 234, 0, 0, 0)) rfl) rfl rfl (by decide)
set_option maxRecDepth 20000 in
theorem b204_710 {σ : zSt} {P : Option Value → zSt → Prop} {a0 a1 a2 : Nat} {x3 : Int32} {n : Nat} (hs : ztg σ a0 = (4, 12, n)) :
    wp 204 710 [some (.ref a0), some (.ref a1), some (.ref a2), some (.int x3)] [] σ P ↔ (((0 : Int32) = 0 ∨ (0 : Int32) = 1) ∧ P (some (.int 0)) σ) := by
  refine (wp_ic (n' := 711) rfl (zcode_of mc_204 (r := (.iconst 0, 0, 0, 0)) rfl) ci_0).trans ?_
  exact wp_retZ (zcode_of mc_204 (r := (.ireturn, 0, 0, 0)) rfl) rfl
set_option maxRecDepth 20000 in
theorem b204_712 {σ : zSt} {P : Option Value → zSt → Prop} {a0 a1 a2 : Nat} {x3 : Int32} {n : Nat} (hs : ztg σ a0 = (4, 12, n)) :
    wp 204 712 [some (.ref a0), some (.ref a1), some (.ref a2), some (.int x3)] [] σ P ↔ (zIn (x3 + 1) n ∧ (zIn (x3 + 2) n ∧ (zIs σ a1 11 ∧ wpM 98 [.ref a1, .int (zai σ 12 a0 (Int32.toNatClampNeg (x3 + 1))), .int (zai σ 12 a0 (Int32.toNatClampNeg (x3 + 2)))] σ (fun r τ => wp 204 726 [some (.ref a0), some (.ref a1), some (.ref a2), some (.int x3)] (r.toList ++ []) τ P)))) := by
  refine (wp_s (n := 713) (zcode_of mc_204 (r := (.aload_n 1, 0, 0, 0)) rfl) rfl rfl).trans ?_
  refine (wp_s (n := 714) (zcode_of mc_204 (r := (.aload_n 0, 0, 0, 0)) rfl) rfl rfl).trans ?_
  refine (wp_s (n := 715) (zcode_of mc_204 (r := (.iload_n 3, 0, 0, 0)) rfl) rfl rfl).trans ?_
  refine (wp_ic (n' := 716) rfl (zcode_of mc_204 (r := (.iconst 1, 0, 0, 0)) rfl) ci_1).trans ?_
  refine (wp_s (n := 717) (zcode_of mc_204 (r := (.iadd, 0, 0, 0)) rfl) rfl rfl).trans ?_
  refine (wc_ldS (n' := 718) rfl (zcode_of mc_204 (r := (.iaload, 0, 0, 0)) rfl) hs rfl).trans (and_congr_right fun h1 => ?_)
  refine (wp_s (n := 719) (zcode_of mc_204 (r := (.aload_n 0, 0, 0, 0)) rfl) rfl rfl).trans ?_
  refine (wp_s (n := 720) (zcode_of mc_204 (r := (.iload_n 3, 0, 0, 0)) rfl) rfl rfl).trans ?_
  refine (wp_ic (n' := 721) rfl (zcode_of mc_204 (r := (.iconst 2, 0, 0, 0)) rfl) ci_2).trans ?_
  refine (wp_s (n := 722) (zcode_of mc_204 (r := (.iadd, 0, 0, 0)) rfl) rfl rfl).trans ?_
  refine (wc_ldS (n' := 723) rfl (zcode_of mc_204 (r := (.iaload, 0, 0, 0)) rfl) hs rfl).trans (and_congr_right fun h2 => ?_)
  refine (wc_isV (cl := 11) (rest := []) (zcode_of mc_204 (r := (.invokevirtual 85, 98, 0, 2)) rfl) rfl rfl rfl).trans (and_congr_right fun h3 => ?_)
  exact wp_call (q := ([.ref a1, .int (zai σ 12 a0 (Int32.toNatClampNeg (x3 + 1))), .int (zai σ 12 a0 (Int32.toNatClampNeg (x3 + 2)))], [])) (zcode_of mc_204 (r := (.invokevirtual 85, 98, 0, 2)) rfl) rfl (zCa_V (Nat.le_of_ble_eq_true rfl) rfl h3) ⟨Nat.le_of_ble_eq_true rfl, Nat.le_of_ble_eq_true rfl⟩
set_option maxRecDepth 20000 in
theorem b204_726 {σ : zSt} {P : Option Value → zSt → Prop} {a0 a1 a2 : Nat} {x3 s0 : Int32} {n : Nat} (hs : ztg σ a0 = (4, 12, n)) :
    wp 204 726 [some (.ref a0), some (.ref a1), some (.ref a2), some (.int x3)] [.int s0] σ P ↔ (zIn (x3 + 1) n ∧ (zIn (x3 + 2) n ∧ (zIs σ a2 12 ∧ wpM 174 [.ref a2, .int (zai σ 12 a0 (Int32.toNatClampNeg (x3 + 1))), .int (zai σ 12 a0 (Int32.toNatClampNeg (x3 + 2)))] σ (fun r τ => wp 204 740 [some (.ref a0), some (.ref a1), some (.ref a2), some (.int x3)] (r.toList ++ [.int s0]) τ P)))) := by
  refine (wp_s (n := 727) (zcode_of mc_204 (r := (.aload_n 2, 0, 0, 0)) rfl) rfl rfl).trans ?_
  refine (wp_s (n := 728) (zcode_of mc_204 (r := (.aload_n 0, 0, 0, 0)) rfl) rfl rfl).trans ?_
  refine (wp_s (n := 729) (zcode_of mc_204 (r := (.iload_n 3, 0, 0, 0)) rfl) rfl rfl).trans ?_
  refine (wp_ic (n' := 730) rfl (zcode_of mc_204 (r := (.iconst 1, 0, 0, 0)) rfl) ci_1).trans ?_
  refine (wp_s (n := 731) (zcode_of mc_204 (r := (.iadd, 0, 0, 0)) rfl) rfl rfl).trans ?_
  refine (wc_ldS (n' := 732) rfl (zcode_of mc_204 (r := (.iaload, 0, 0, 0)) rfl) hs rfl).trans (and_congr_right fun h1 => ?_)
  refine (wp_s (n := 733) (zcode_of mc_204 (r := (.aload_n 0, 0, 0, 0)) rfl) rfl rfl).trans ?_
  refine (wp_s (n := 734) (zcode_of mc_204 (r := (.iload_n 3, 0, 0, 0)) rfl) rfl rfl).trans ?_
  refine (wp_ic (n' := 735) rfl (zcode_of mc_204 (r := (.iconst 2, 0, 0, 0)) rfl) ci_2).trans ?_
  refine (wp_s (n := 736) (zcode_of mc_204 (r := (.iadd, 0, 0, 0)) rfl) rfl rfl).trans ?_
  refine (wc_ldS (n' := 737) rfl (zcode_of mc_204 (r := (.iaload, 0, 0, 0)) rfl) hs rfl).trans (and_congr_right fun h2 => ?_)
  refine (wc_isV (cl := 12) (rest := [.int s0]) (zcode_of mc_204 (r := (.invokevirtual 88, 174, 0, 2)) rfl) rfl rfl rfl).trans (and_congr_right fun h3 => ?_)
  exact wp_call (q := ([.ref a2, .int (zai σ 12 a0 (Int32.toNatClampNeg (x3 + 1))), .int (zai σ 12 a0 (Int32.toNatClampNeg (x3 + 2)))], [.int s0])) (zcode_of mc_204 (r := (.invokevirtual 88, 174, 0, 2)) rfl) rfl (zCa_V (Nat.le_of_ble_eq_true rfl) rfl h3) ⟨Nat.le_of_ble_eq_true rfl, Nat.le_of_ble_eq_true rfl⟩
set_option maxRecDepth 20000 in
theorem b204_740 {σ : zSt} {P : Option Value → zSt → Prop} {a0 a1 a2 : Nat} {x3 s0 s1 : Int32} {n : Nat} (hs : ztg σ a0 = (4, 12, n)) :
    wp 204 740 [some (.ref a0), some (.ref a1), some (.ref a2), some (.int x3)] [.int s0, .int s1] σ P ↔ (if s1 = s0 then wp 204 941 [some (.ref a0), some (.ref a1), some (.ref a2), some (.int x3)] [] σ P else wp 204 743 [some (.ref a0), some (.ref a1), some (.ref a2), some (.int x3)] [] σ P) := by
  exact wp_jump (off := 201) (t := 941) (zcode_of mc_204 (r := (.if_icmp .eq 201, 0, 0, 0)) rfl) rfl rfl (by decide)
set_option maxRecDepth 20000 in
theorem b204_743 {σ : zSt} {P : Option Value → zSt → Prop} {a0 a1 a2 : Nat} {x3 : Int32} {n : Nat} (hs : ztg σ a0 = (4, 12, n)) :
    wp 204 743 [some (.ref a0), some (.ref a1), some (.ref a2), some (.int x3)] [] σ P ↔ (((0 : Int32) = 0 ∨ (0 : Int32) = 1) ∧ P (some (.int 0)) σ) := by
  refine (wp_ic (n' := 744) rfl (zcode_of mc_204 (r := (.iconst 0, 0, 0, 0)) rfl) ci_0).trans ?_
  exact wp_retZ (zcode_of mc_204 (r := (.ireturn, 0, 0, 0)) rfl) rfl
set_option maxRecDepth 20000 in
theorem b204_745 {σ : zSt} {P : Option Value → zSt → Prop} {a0 a1 a2 : Nat} {x3 : Int32} {n : Nat} (hs : ztg σ a0 = (4, 12, n)) :
    wp 204 745 [some (.ref a0), some (.ref a1), some (.ref a2), some (.int x3)] [] σ P ↔ (zIn (x3 + 1) n ∧ (zIn (x3 + 2) n ∧ (zIs σ a1 11 ∧ wpM 99 [.ref a1, .int (zai σ 12 a0 (Int32.toNatClampNeg (x3 + 1))), .int (zai σ 12 a0 (Int32.toNatClampNeg (x3 + 2)))] σ (fun r τ => wp 204 759 [some (.ref a0), some (.ref a1), some (.ref a2), some (.int x3)] (r.toList ++ []) τ P)))) := by
  refine (wp_s (n := 746) (zcode_of mc_204 (r := (.aload_n 1, 0, 0, 0)) rfl) rfl rfl).trans ?_
  refine (wp_s (n := 747) (zcode_of mc_204 (r := (.aload_n 0, 0, 0, 0)) rfl) rfl rfl).trans ?_
  refine (wp_s (n := 748) (zcode_of mc_204 (r := (.iload_n 3, 0, 0, 0)) rfl) rfl rfl).trans ?_
  refine (wp_ic (n' := 749) rfl (zcode_of mc_204 (r := (.iconst 1, 0, 0, 0)) rfl) ci_1).trans ?_
  refine (wp_s (n := 750) (zcode_of mc_204 (r := (.iadd, 0, 0, 0)) rfl) rfl rfl).trans ?_
  refine (wc_ldS (n' := 751) rfl (zcode_of mc_204 (r := (.iaload, 0, 0, 0)) rfl) hs rfl).trans (and_congr_right fun h1 => ?_)
  refine (wp_s (n := 752) (zcode_of mc_204 (r := (.aload_n 0, 0, 0, 0)) rfl) rfl rfl).trans ?_
  refine (wp_s (n := 753) (zcode_of mc_204 (r := (.iload_n 3, 0, 0, 0)) rfl) rfl rfl).trans ?_
  refine (wp_ic (n' := 754) rfl (zcode_of mc_204 (r := (.iconst 2, 0, 0, 0)) rfl) ci_2).trans ?_
  refine (wp_s (n := 755) (zcode_of mc_204 (r := (.iadd, 0, 0, 0)) rfl) rfl rfl).trans ?_
  refine (wc_ldS (n' := 756) rfl (zcode_of mc_204 (r := (.iaload, 0, 0, 0)) rfl) hs rfl).trans (and_congr_right fun h2 => ?_)
  refine (wc_isV (cl := 11) (rest := []) (zcode_of mc_204 (r := (.invokevirtual 89, 99, 0, 2)) rfl) rfl rfl rfl).trans (and_congr_right fun h3 => ?_)
  exact wp_call (q := ([.ref a1, .int (zai σ 12 a0 (Int32.toNatClampNeg (x3 + 1))), .int (zai σ 12 a0 (Int32.toNatClampNeg (x3 + 2)))], [])) (zcode_of mc_204 (r := (.invokevirtual 89, 99, 0, 2)) rfl) rfl (zCa_V (Nat.le_of_ble_eq_true rfl) rfl h3) ⟨Nat.le_of_ble_eq_true rfl, Nat.le_of_ble_eq_true rfl⟩
set_option maxRecDepth 20000 in
theorem b204_759 {σ : zSt} {P : Option Value → zSt → Prop} {a0 a1 a2 : Nat} {x3 s0 : Int32} {n : Nat} (hs : ztg σ a0 = (4, 12, n)) :
    wp 204 759 [some (.ref a0), some (.ref a1), some (.ref a2), some (.int x3)] [.int s0] σ P ↔ (zIn (x3 + 1) n ∧ (zIn (x3 + 2) n ∧ (zIs σ a2 12 ∧ wpM 148 [.ref a2, .int (zai σ 12 a0 (Int32.toNatClampNeg (x3 + 1))), .int (zai σ 12 a0 (Int32.toNatClampNeg (x3 + 2)))] σ (fun r τ => wp 204 773 [some (.ref a0), some (.ref a1), some (.ref a2), some (.int x3)] (r.toList ++ [.int s0]) τ P)))) := by
  refine (wp_s (n := 760) (zcode_of mc_204 (r := (.aload_n 2, 0, 0, 0)) rfl) rfl rfl).trans ?_
  refine (wp_s (n := 761) (zcode_of mc_204 (r := (.aload_n 0, 0, 0, 0)) rfl) rfl rfl).trans ?_
  refine (wp_s (n := 762) (zcode_of mc_204 (r := (.iload_n 3, 0, 0, 0)) rfl) rfl rfl).trans ?_
  refine (wp_ic (n' := 763) rfl (zcode_of mc_204 (r := (.iconst 1, 0, 0, 0)) rfl) ci_1).trans ?_
  refine (wp_s (n := 764) (zcode_of mc_204 (r := (.iadd, 0, 0, 0)) rfl) rfl rfl).trans ?_
  refine (wc_ldS (n' := 765) rfl (zcode_of mc_204 (r := (.iaload, 0, 0, 0)) rfl) hs rfl).trans (and_congr_right fun h1 => ?_)
  refine (wp_s (n := 766) (zcode_of mc_204 (r := (.aload_n 0, 0, 0, 0)) rfl) rfl rfl).trans ?_
  refine (wp_s (n := 767) (zcode_of mc_204 (r := (.iload_n 3, 0, 0, 0)) rfl) rfl rfl).trans ?_
  refine (wp_ic (n' := 768) rfl (zcode_of mc_204 (r := (.iconst 2, 0, 0, 0)) rfl) ci_2).trans ?_
  refine (wp_s (n := 769) (zcode_of mc_204 (r := (.iadd, 0, 0, 0)) rfl) rfl rfl).trans ?_
  refine (wc_ldS (n' := 770) rfl (zcode_of mc_204 (r := (.iaload, 0, 0, 0)) rfl) hs rfl).trans (and_congr_right fun h2 => ?_)
  refine (wc_isV (cl := 12) (rest := [.int s0]) (zcode_of mc_204 (r := (.invokevirtual 92, 148, 0, 2)) rfl) rfl rfl rfl).trans (and_congr_right fun h3 => ?_)
  exact wp_call (q := ([.ref a2, .int (zai σ 12 a0 (Int32.toNatClampNeg (x3 + 1))), .int (zai σ 12 a0 (Int32.toNatClampNeg (x3 + 2)))], [.int s0])) (zcode_of mc_204 (r := (.invokevirtual 92, 148, 0, 2)) rfl) rfl (zCa_V (Nat.le_of_ble_eq_true rfl) rfl h3) ⟨Nat.le_of_ble_eq_true rfl, Nat.le_of_ble_eq_true rfl⟩
set_option maxRecDepth 20000 in
theorem b204_773 {σ : zSt} {P : Option Value → zSt → Prop} {a0 a1 a2 : Nat} {x3 s0 s1 : Int32} {n : Nat} (hs : ztg σ a0 = (4, 12, n)) :
    wp 204 773 [some (.ref a0), some (.ref a1), some (.ref a2), some (.int x3)] [.int s0, .int s1] σ P ↔ (if s1 = s0 then wp 204 941 [some (.ref a0), some (.ref a1), some (.ref a2), some (.int x3)] [] σ P else wp 204 776 [some (.ref a0), some (.ref a1), some (.ref a2), some (.int x3)] [] σ P) := by
  exact wp_jump (off := 168) (t := 941) (zcode_of mc_204 (r := (.if_icmp .eq 168, 0, 0, 0)) rfl) rfl rfl (by decide)
set_option maxRecDepth 20000 in
theorem b204_776 {σ : zSt} {P : Option Value → zSt → Prop} {a0 a1 a2 : Nat} {x3 : Int32} {n : Nat} (hs : ztg σ a0 = (4, 12, n)) :
    wp 204 776 [some (.ref a0), some (.ref a1), some (.ref a2), some (.int x3)] [] σ P ↔ (((0 : Int32) = 0 ∨ (0 : Int32) = 1) ∧ P (some (.int 0)) σ) := by
  refine (wp_ic (n' := 777) rfl (zcode_of mc_204 (r := (.iconst 0, 0, 0, 0)) rfl) ci_0).trans ?_
  exact wp_retZ (zcode_of mc_204 (r := (.ireturn, 0, 0, 0)) rfl) rfl
set_option maxRecDepth 20000 in
theorem b204_778 {σ : zSt} {P : Option Value → zSt → Prop} {a0 a1 a2 : Nat} {x3 : Int32} {n : Nat} (hs : ztg σ a0 = (4, 12, n)) :
    wp 204 778 [some (.ref a0), some (.ref a1), some (.ref a2), some (.int x3)] [] σ P ↔ (zIn (x3 + 1) n ∧ (zIn (x3 + 2) n ∧ (zIs σ a1 11 ∧ wpM 100 [.ref a1, .int (zai σ 12 a0 (Int32.toNatClampNeg (x3 + 1))), .int (zai σ 12 a0 (Int32.toNatClampNeg (x3 + 2)))] σ (fun r τ => wp 204 792 [some (.ref a0), some (.ref a1), some (.ref a2), some (.int x3)] (r.toList ++ []) τ P)))) := by
  refine (wp_s (n := 779) (zcode_of mc_204 (r := (.aload_n 1, 0, 0, 0)) rfl) rfl rfl).trans ?_
  refine (wp_s (n := 780) (zcode_of mc_204 (r := (.aload_n 0, 0, 0, 0)) rfl) rfl rfl).trans ?_
  refine (wp_s (n := 781) (zcode_of mc_204 (r := (.iload_n 3, 0, 0, 0)) rfl) rfl rfl).trans ?_
  refine (wp_ic (n' := 782) rfl (zcode_of mc_204 (r := (.iconst 1, 0, 0, 0)) rfl) ci_1).trans ?_
  refine (wp_s (n := 783) (zcode_of mc_204 (r := (.iadd, 0, 0, 0)) rfl) rfl rfl).trans ?_
  refine (wc_ldS (n' := 784) rfl (zcode_of mc_204 (r := (.iaload, 0, 0, 0)) rfl) hs rfl).trans (and_congr_right fun h1 => ?_)
  refine (wp_s (n := 785) (zcode_of mc_204 (r := (.aload_n 0, 0, 0, 0)) rfl) rfl rfl).trans ?_
  refine (wp_s (n := 786) (zcode_of mc_204 (r := (.iload_n 3, 0, 0, 0)) rfl) rfl rfl).trans ?_
  refine (wp_ic (n' := 787) rfl (zcode_of mc_204 (r := (.iconst 2, 0, 0, 0)) rfl) ci_2).trans ?_
  refine (wp_s (n := 788) (zcode_of mc_204 (r := (.iadd, 0, 0, 0)) rfl) rfl rfl).trans ?_
  refine (wc_ldS (n' := 789) rfl (zcode_of mc_204 (r := (.iaload, 0, 0, 0)) rfl) hs rfl).trans (and_congr_right fun h2 => ?_)
  refine (wc_isV (cl := 11) (rest := []) (zcode_of mc_204 (r := (.invokevirtual 93, 100, 0, 2)) rfl) rfl rfl rfl).trans (and_congr_right fun h3 => ?_)
  exact wp_call (q := ([.ref a1, .int (zai σ 12 a0 (Int32.toNatClampNeg (x3 + 1))), .int (zai σ 12 a0 (Int32.toNatClampNeg (x3 + 2)))], [])) (zcode_of mc_204 (r := (.invokevirtual 93, 100, 0, 2)) rfl) rfl (zCa_V (Nat.le_of_ble_eq_true rfl) rfl h3) ⟨Nat.le_of_ble_eq_true rfl, Nat.le_of_ble_eq_true rfl⟩
set_option maxRecDepth 20000 in
theorem b204_792 {σ : zSt} {P : Option Value → zSt → Prop} {a0 a1 a2 : Nat} {x3 : Int32} {s0 : Int64} {n : Nat} (hs : ztg σ a0 = (4, 12, n)) :
    wp 204 792 [some (.ref a0), some (.ref a1), some (.ref a2), some (.int x3)] [.long s0] σ P ↔ (zIn (x3 + 1) n ∧ (zIn (x3 + 2) n ∧ (zIs σ a2 12 ∧ wpM 145 [.ref a2, .int (zai σ 12 a0 (Int32.toNatClampNeg (x3 + 1))), .int (zai σ 12 a0 (Int32.toNatClampNeg (x3 + 2)))] σ (fun r τ => wp 204 806 [some (.ref a0), some (.ref a1), some (.ref a2), some (.int x3)] (r.toList ++ [.long s0]) τ P)))) := by
  refine (wp_s (n := 793) (zcode_of mc_204 (r := (.aload_n 2, 0, 0, 0)) rfl) rfl rfl).trans ?_
  refine (wp_s (n := 794) (zcode_of mc_204 (r := (.aload_n 0, 0, 0, 0)) rfl) rfl rfl).trans ?_
  refine (wp_s (n := 795) (zcode_of mc_204 (r := (.iload_n 3, 0, 0, 0)) rfl) rfl rfl).trans ?_
  refine (wp_ic (n' := 796) rfl (zcode_of mc_204 (r := (.iconst 1, 0, 0, 0)) rfl) ci_1).trans ?_
  refine (wp_s (n := 797) (zcode_of mc_204 (r := (.iadd, 0, 0, 0)) rfl) rfl rfl).trans ?_
  refine (wc_ldS (n' := 798) rfl (zcode_of mc_204 (r := (.iaload, 0, 0, 0)) rfl) hs rfl).trans (and_congr_right fun h1 => ?_)
  refine (wp_s (n := 799) (zcode_of mc_204 (r := (.aload_n 0, 0, 0, 0)) rfl) rfl rfl).trans ?_
  refine (wp_s (n := 800) (zcode_of mc_204 (r := (.iload_n 3, 0, 0, 0)) rfl) rfl rfl).trans ?_
  refine (wp_ic (n' := 801) rfl (zcode_of mc_204 (r := (.iconst 2, 0, 0, 0)) rfl) ci_2).trans ?_
  refine (wp_s (n := 802) (zcode_of mc_204 (r := (.iadd, 0, 0, 0)) rfl) rfl rfl).trans ?_
  refine (wc_ldS (n' := 803) rfl (zcode_of mc_204 (r := (.iaload, 0, 0, 0)) rfl) hs rfl).trans (and_congr_right fun h2 => ?_)
  refine (wc_isV (cl := 12) (rest := [.long s0]) (zcode_of mc_204 (r := (.invokevirtual 97, 145, 0, 2)) rfl) rfl rfl rfl).trans (and_congr_right fun h3 => ?_)
  exact wp_call (q := ([.ref a2, .int (zai σ 12 a0 (Int32.toNatClampNeg (x3 + 1))), .int (zai σ 12 a0 (Int32.toNatClampNeg (x3 + 2)))], [.long s0])) (zcode_of mc_204 (r := (.invokevirtual 97, 145, 0, 2)) rfl) rfl (zCa_V (Nat.le_of_ble_eq_true rfl) rfl h3) ⟨Nat.le_of_ble_eq_true rfl, Nat.le_of_ble_eq_true rfl⟩
set_option maxRecDepth 20000 in
theorem b204_806 {σ : zSt} {P : Option Value → zSt → Prop} {a0 a1 a2 : Nat} {x3 : Int32} {s0 s1 : Int64} {n : Nat} (hs : ztg σ a0 = (4, 12, n)) :
    wp 204 806 [some (.ref a0), some (.ref a1), some (.ref a2), some (.int x3)] [.long s0, .long s1] σ P ↔ (if (lg_cmp s1 s0) = 0 then wp 204 941 [some (.ref a0), some (.ref a1), some (.ref a2), some (.int x3)] [] σ P else wp 204 810 [some (.ref a0), some (.ref a1), some (.ref a2), some (.int x3)] [] σ P) := by
  refine (wp_s (n := 807) (zcode_of mc_204 (r := (.lcmp, 0, 0, 0)) rfl) rfl rfl).trans ?_
  exact wp_jump (off := 134) (t := 941) (zcode_of mc_204 (r := (.ifCond .eq 134, 0, 0, 0)) rfl) rfl rfl (by decide)
set_option maxRecDepth 20000 in
theorem b204_810 {σ : zSt} {P : Option Value → zSt → Prop} {a0 a1 a2 : Nat} {x3 : Int32} {n : Nat} (hs : ztg σ a0 = (4, 12, n)) :
    wp 204 810 [some (.ref a0), some (.ref a1), some (.ref a2), some (.int x3)] [] σ P ↔ (((0 : Int32) = 0 ∨ (0 : Int32) = 1) ∧ P (some (.int 0)) σ) := by
  refine (wp_ic (n' := 811) rfl (zcode_of mc_204 (r := (.iconst 0, 0, 0, 0)) rfl) ci_0).trans ?_
  exact wp_retZ (zcode_of mc_204 (r := (.ireturn, 0, 0, 0)) rfl) rfl
set_option maxRecDepth 20000 in
theorem b204_812 {σ : zSt} {P : Option Value → zSt → Prop} {a0 a1 a2 : Nat} {x3 : Int32} {n : Nat} (hs : ztg σ a0 = (4, 12, n)) :
    wp 204 812 [some (.ref a0), some (.ref a1), some (.ref a2), some (.int x3)] [] σ P ↔ (zIn (x3 + 1) n ∧ (zIs σ a1 11 ∧ wpM 101 [.ref a1, .int (zai σ 12 a0 (Int32.toNatClampNeg (x3 + 1)))] σ (fun r τ => wp 204 821 [some (.ref a0), some (.ref a1), some (.ref a2), some (.int x3)] (r.toList ++ []) τ P))) := by
  refine (wp_s (n := 813) (zcode_of mc_204 (r := (.aload_n 1, 0, 0, 0)) rfl) rfl rfl).trans ?_
  refine (wp_s (n := 814) (zcode_of mc_204 (r := (.aload_n 0, 0, 0, 0)) rfl) rfl rfl).trans ?_
  refine (wp_s (n := 815) (zcode_of mc_204 (r := (.iload_n 3, 0, 0, 0)) rfl) rfl rfl).trans ?_
  refine (wp_ic (n' := 816) rfl (zcode_of mc_204 (r := (.iconst 1, 0, 0, 0)) rfl) ci_1).trans ?_
  refine (wp_s (n := 817) (zcode_of mc_204 (r := (.iadd, 0, 0, 0)) rfl) rfl rfl).trans ?_
  refine (wc_ldS (n' := 818) rfl (zcode_of mc_204 (r := (.iaload, 0, 0, 0)) rfl) hs rfl).trans (and_congr_right fun h1 => ?_)
  refine (wc_isV (cl := 11) (rest := []) (zcode_of mc_204 (r := (.invokevirtual 98, 101, 0, 1)) rfl) rfl rfl rfl).trans (and_congr_right fun h2 => ?_)
  exact wp_call (q := ([.ref a1, .int (zai σ 12 a0 (Int32.toNatClampNeg (x3 + 1)))], [])) (zcode_of mc_204 (r := (.invokevirtual 98, 101, 0, 1)) rfl) rfl (zCa_V (Nat.le_of_ble_eq_true rfl) rfl h2) ⟨Nat.le_of_ble_eq_true rfl, Nat.le_of_ble_eq_true rfl⟩
set_option maxRecDepth 20000 in
theorem b204_821 {σ : zSt} {P : Option Value → zSt → Prop} {a0 a1 a2 : Nat} {x3 s0 : Int32} {n : Nat} (hs : ztg σ a0 = (4, 12, n)) :
    wp 204 821 [some (.ref a0), some (.ref a1), some (.ref a2), some (.int x3)] [.int s0] σ P ↔ (zIn (x3 + 1) n ∧ (zIs σ a2 12 ∧ wpM 175 [.ref a2, .int (zai σ 12 a0 (Int32.toNatClampNeg (x3 + 1)))] σ (fun r τ => wp 204 830 [some (.ref a0), some (.ref a1), some (.ref a2), some (.int x3)] (r.toList ++ [.int s0]) τ P))) := by
  refine (wp_s (n := 822) (zcode_of mc_204 (r := (.aload_n 2, 0, 0, 0)) rfl) rfl rfl).trans ?_
  refine (wp_s (n := 823) (zcode_of mc_204 (r := (.aload_n 0, 0, 0, 0)) rfl) rfl rfl).trans ?_
  refine (wp_s (n := 824) (zcode_of mc_204 (r := (.iload_n 3, 0, 0, 0)) rfl) rfl rfl).trans ?_
  refine (wp_ic (n' := 825) rfl (zcode_of mc_204 (r := (.iconst 1, 0, 0, 0)) rfl) ci_1).trans ?_
  refine (wp_s (n := 826) (zcode_of mc_204 (r := (.iadd, 0, 0, 0)) rfl) rfl rfl).trans ?_
  refine (wc_ldS (n' := 827) rfl (zcode_of mc_204 (r := (.iaload, 0, 0, 0)) rfl) hs rfl).trans (and_congr_right fun h1 => ?_)
  refine (wc_isV (cl := 12) (rest := [.int s0]) (zcode_of mc_204 (r := (.invokevirtual 101, 175, 0, 1)) rfl) rfl rfl rfl).trans (and_congr_right fun h2 => ?_)
  exact wp_call (q := ([.ref a2, .int (zai σ 12 a0 (Int32.toNatClampNeg (x3 + 1)))], [.int s0])) (zcode_of mc_204 (r := (.invokevirtual 101, 175, 0, 1)) rfl) rfl (zCa_V (Nat.le_of_ble_eq_true rfl) rfl h2) ⟨Nat.le_of_ble_eq_true rfl, Nat.le_of_ble_eq_true rfl⟩
set_option maxRecDepth 20000 in
theorem b204_830 {σ : zSt} {P : Option Value → zSt → Prop} {a0 a1 a2 : Nat} {x3 s0 s1 : Int32} {n : Nat} (hs : ztg σ a0 = (4, 12, n)) :
    wp 204 830 [some (.ref a0), some (.ref a1), some (.ref a2), some (.int x3)] [.int s0, .int s1] σ P ↔ (if s1 = s0 then wp 204 941 [some (.ref a0), some (.ref a1), some (.ref a2), some (.int x3)] [] σ P else wp 204 833 [some (.ref a0), some (.ref a1), some (.ref a2), some (.int x3)] [] σ P) := by
  exact wp_jump (off := 111) (t := 941) (zcode_of mc_204 (r := (.if_icmp .eq 111, 0, 0, 0)) rfl) rfl rfl (by decide)
set_option maxRecDepth 20000 in
theorem b204_833 {σ : zSt} {P : Option Value → zSt → Prop} {a0 a1 a2 : Nat} {x3 : Int32} {n : Nat} (hs : ztg σ a0 = (4, 12, n)) :
    wp 204 833 [some (.ref a0), some (.ref a1), some (.ref a2), some (.int x3)] [] σ P ↔ (((0 : Int32) = 0 ∨ (0 : Int32) = 1) ∧ P (some (.int 0)) σ) := by
  refine (wp_ic (n' := 834) rfl (zcode_of mc_204 (r := (.iconst 0, 0, 0, 0)) rfl) ci_0).trans ?_
  exact wp_retZ (zcode_of mc_204 (r := (.ireturn, 0, 0, 0)) rfl) rfl
set_option maxRecDepth 20000 in
theorem b204_835 {σ : zSt} {P : Option Value → zSt → Prop} {a0 a1 a2 : Nat} {x3 : Int32} {n : Nat} (hs : ztg σ a0 = (4, 12, n)) :
    wp 204 835 [some (.ref a0), some (.ref a1), some (.ref a2), some (.int x3)] [] σ P ↔ (zIn (x3 + 1) n ∧ (zIs σ a1 11 ∧ wpM 102 [.ref a1, .int (zai σ 12 a0 (Int32.toNatClampNeg (x3 + 1)))] σ (fun r τ => wp 204 844 [some (.ref a0), some (.ref a1), some (.ref a2), some (.int x3)] (r.toList ++ []) τ P))) := by
  refine (wp_s (n := 836) (zcode_of mc_204 (r := (.aload_n 1, 0, 0, 0)) rfl) rfl rfl).trans ?_
  refine (wp_s (n := 837) (zcode_of mc_204 (r := (.aload_n 0, 0, 0, 0)) rfl) rfl rfl).trans ?_
  refine (wp_s (n := 838) (zcode_of mc_204 (r := (.iload_n 3, 0, 0, 0)) rfl) rfl rfl).trans ?_
  refine (wp_ic (n' := 839) rfl (zcode_of mc_204 (r := (.iconst 1, 0, 0, 0)) rfl) ci_1).trans ?_
  refine (wp_s (n := 840) (zcode_of mc_204 (r := (.iadd, 0, 0, 0)) rfl) rfl rfl).trans ?_
  refine (wc_ldS (n' := 841) rfl (zcode_of mc_204 (r := (.iaload, 0, 0, 0)) rfl) hs rfl).trans (and_congr_right fun h1 => ?_)
  refine (wc_isV (cl := 11) (rest := []) (zcode_of mc_204 (r := (.invokevirtual 102, 102, 0, 1)) rfl) rfl rfl rfl).trans (and_congr_right fun h2 => ?_)
  exact wp_call (q := ([.ref a1, .int (zai σ 12 a0 (Int32.toNatClampNeg (x3 + 1)))], [])) (zcode_of mc_204 (r := (.invokevirtual 102, 102, 0, 1)) rfl) rfl (zCa_V (Nat.le_of_ble_eq_true rfl) rfl h2) ⟨Nat.le_of_ble_eq_true rfl, Nat.le_of_ble_eq_true rfl⟩
set_option maxRecDepth 20000 in
theorem b204_844 {σ : zSt} {P : Option Value → zSt → Prop} {a0 a1 a2 : Nat} {x3 s0 : Int32} {n : Nat} (hs : ztg σ a0 = (4, 12, n)) :
    wp 204 844 [some (.ref a0), some (.ref a1), some (.ref a2), some (.int x3)] [.int s0] σ P ↔ (zIn (x3 + 1) n ∧ (zIs σ a2 12 ∧ wpM 176 [.ref a2, .int (zai σ 12 a0 (Int32.toNatClampNeg (x3 + 1)))] σ (fun r τ => wp 204 853 [some (.ref a0), some (.ref a1), some (.ref a2), some (.int x3)] (r.toList ++ [.int s0]) τ P))) := by
  refine (wp_s (n := 845) (zcode_of mc_204 (r := (.aload_n 2, 0, 0, 0)) rfl) rfl rfl).trans ?_
  refine (wp_s (n := 846) (zcode_of mc_204 (r := (.aload_n 0, 0, 0, 0)) rfl) rfl rfl).trans ?_
  refine (wp_s (n := 847) (zcode_of mc_204 (r := (.iload_n 3, 0, 0, 0)) rfl) rfl rfl).trans ?_
  refine (wp_ic (n' := 848) rfl (zcode_of mc_204 (r := (.iconst 1, 0, 0, 0)) rfl) ci_1).trans ?_
  refine (wp_s (n := 849) (zcode_of mc_204 (r := (.iadd, 0, 0, 0)) rfl) rfl rfl).trans ?_
  refine (wc_ldS (n' := 850) rfl (zcode_of mc_204 (r := (.iaload, 0, 0, 0)) rfl) hs rfl).trans (and_congr_right fun h1 => ?_)
  refine (wc_isV (cl := 12) (rest := [.int s0]) (zcode_of mc_204 (r := (.invokevirtual 105, 176, 0, 1)) rfl) rfl rfl rfl).trans (and_congr_right fun h2 => ?_)
  exact wp_call (q := ([.ref a2, .int (zai σ 12 a0 (Int32.toNatClampNeg (x3 + 1)))], [.int s0])) (zcode_of mc_204 (r := (.invokevirtual 105, 176, 0, 1)) rfl) rfl (zCa_V (Nat.le_of_ble_eq_true rfl) rfl h2) ⟨Nat.le_of_ble_eq_true rfl, Nat.le_of_ble_eq_true rfl⟩
set_option maxRecDepth 20000 in
theorem b204_853 {σ : zSt} {P : Option Value → zSt → Prop} {a0 a1 a2 : Nat} {x3 s0 s1 : Int32} {n : Nat} (hs : ztg σ a0 = (4, 12, n)) :
    wp 204 853 [some (.ref a0), some (.ref a1), some (.ref a2), some (.int x3)] [.int s0, .int s1] σ P ↔ (if s1 = s0 then wp 204 941 [some (.ref a0), some (.ref a1), some (.ref a2), some (.int x3)] [] σ P else wp 204 856 [some (.ref a0), some (.ref a1), some (.ref a2), some (.int x3)] [] σ P) := by
  exact wp_jump (off := 88) (t := 941) (zcode_of mc_204 (r := (.if_icmp .eq 88, 0, 0, 0)) rfl) rfl rfl (by decide)
set_option maxRecDepth 20000 in
theorem b204_856 {σ : zSt} {P : Option Value → zSt → Prop} {a0 a1 a2 : Nat} {x3 : Int32} {n : Nat} (hs : ztg σ a0 = (4, 12, n)) :
    wp 204 856 [some (.ref a0), some (.ref a1), some (.ref a2), some (.int x3)] [] σ P ↔ (((0 : Int32) = 0 ∨ (0 : Int32) = 1) ∧ P (some (.int 0)) σ) := by
  refine (wp_ic (n' := 857) rfl (zcode_of mc_204 (r := (.iconst 0, 0, 0, 0)) rfl) ci_0).trans ?_
  exact wp_retZ (zcode_of mc_204 (r := (.ireturn, 0, 0, 0)) rfl) rfl
set_option maxRecDepth 20000 in
theorem b204_858 {σ : zSt} {P : Option Value → zSt → Prop} {a0 a1 a2 : Nat} {x3 : Int32} {n : Nat} (hs : ztg σ a0 = (4, 12, n)) :
    wp 204 858 [some (.ref a0), some (.ref a1), some (.ref a2), some (.int x3)] [] σ P ↔ (zIn (x3 + 1) n ∧ (zIn (x3 + 2) n ∧ (zIs σ a1 11 ∧ wpM 103 [.ref a1, .int (zai σ 12 a0 (Int32.toNatClampNeg (x3 + 1))), .int (zai σ 12 a0 (Int32.toNatClampNeg (x3 + 2)))] σ (fun r τ => wp 204 872 [some (.ref a0), some (.ref a1), some (.ref a2), some (.int x3)] (r.toList ++ []) τ P)))) := by
  refine (wp_s (n := 859) (zcode_of mc_204 (r := (.aload_n 1, 0, 0, 0)) rfl) rfl rfl).trans ?_
  refine (wp_s (n := 860) (zcode_of mc_204 (r := (.aload_n 0, 0, 0, 0)) rfl) rfl rfl).trans ?_
  refine (wp_s (n := 861) (zcode_of mc_204 (r := (.iload_n 3, 0, 0, 0)) rfl) rfl rfl).trans ?_
  refine (wp_ic (n' := 862) rfl (zcode_of mc_204 (r := (.iconst 1, 0, 0, 0)) rfl) ci_1).trans ?_
  refine (wp_s (n := 863) (zcode_of mc_204 (r := (.iadd, 0, 0, 0)) rfl) rfl rfl).trans ?_
  refine (wc_ldS (n' := 864) rfl (zcode_of mc_204 (r := (.iaload, 0, 0, 0)) rfl) hs rfl).trans (and_congr_right fun h1 => ?_)
  refine (wp_s (n := 865) (zcode_of mc_204 (r := (.aload_n 0, 0, 0, 0)) rfl) rfl rfl).trans ?_
  refine (wp_s (n := 866) (zcode_of mc_204 (r := (.iload_n 3, 0, 0, 0)) rfl) rfl rfl).trans ?_
  refine (wp_ic (n' := 867) rfl (zcode_of mc_204 (r := (.iconst 2, 0, 0, 0)) rfl) ci_2).trans ?_
  refine (wp_s (n := 868) (zcode_of mc_204 (r := (.iadd, 0, 0, 0)) rfl) rfl rfl).trans ?_
  refine (wc_ldS (n' := 869) rfl (zcode_of mc_204 (r := (.iaload, 0, 0, 0)) rfl) hs rfl).trans (and_congr_right fun h2 => ?_)
  refine (wc_isV (cl := 11) (rest := []) (zcode_of mc_204 (r := (.invokevirtual 106, 103, 0, 2)) rfl) rfl rfl rfl).trans (and_congr_right fun h3 => ?_)
  exact wp_call (q := ([.ref a1, .int (zai σ 12 a0 (Int32.toNatClampNeg (x3 + 1))), .int (zai σ 12 a0 (Int32.toNatClampNeg (x3 + 2)))], [])) (zcode_of mc_204 (r := (.invokevirtual 106, 103, 0, 2)) rfl) rfl (zCa_V (Nat.le_of_ble_eq_true rfl) rfl h3) ⟨Nat.le_of_ble_eq_true rfl, Nat.le_of_ble_eq_true rfl⟩
set_option maxRecDepth 20000 in
theorem b204_872 {σ : zSt} {P : Option Value → zSt → Prop} {a0 a1 a2 : Nat} {x3 : Int32} {s0 : Int64} {n : Nat} (hs : ztg σ a0 = (4, 12, n)) :
    wp 204 872 [some (.ref a0), some (.ref a1), some (.ref a2), some (.int x3)] [.long s0] σ P ↔ (zIn (x3 + 1) n ∧ (zIn (x3 + 2) n ∧ (zIs σ a2 12 ∧ wpM 177 [.ref a2, .int (zai σ 12 a0 (Int32.toNatClampNeg (x3 + 1))), .int (zai σ 12 a0 (Int32.toNatClampNeg (x3 + 2)))] σ (fun r τ => wp 204 886 [some (.ref a0), some (.ref a1), some (.ref a2), some (.int x3)] (r.toList ++ [.long s0]) τ P)))) := by
  refine (wp_s (n := 873) (zcode_of mc_204 (r := (.aload_n 2, 0, 0, 0)) rfl) rfl rfl).trans ?_
  refine (wp_s (n := 874) (zcode_of mc_204 (r := (.aload_n 0, 0, 0, 0)) rfl) rfl rfl).trans ?_
  refine (wp_s (n := 875) (zcode_of mc_204 (r := (.iload_n 3, 0, 0, 0)) rfl) rfl rfl).trans ?_
  refine (wp_ic (n' := 876) rfl (zcode_of mc_204 (r := (.iconst 1, 0, 0, 0)) rfl) ci_1).trans ?_
  refine (wp_s (n := 877) (zcode_of mc_204 (r := (.iadd, 0, 0, 0)) rfl) rfl rfl).trans ?_
  refine (wc_ldS (n' := 878) rfl (zcode_of mc_204 (r := (.iaload, 0, 0, 0)) rfl) hs rfl).trans (and_congr_right fun h1 => ?_)
  refine (wp_s (n := 879) (zcode_of mc_204 (r := (.aload_n 0, 0, 0, 0)) rfl) rfl rfl).trans ?_
  refine (wp_s (n := 880) (zcode_of mc_204 (r := (.iload_n 3, 0, 0, 0)) rfl) rfl rfl).trans ?_
  refine (wp_ic (n' := 881) rfl (zcode_of mc_204 (r := (.iconst 2, 0, 0, 0)) rfl) ci_2).trans ?_
  refine (wp_s (n := 882) (zcode_of mc_204 (r := (.iadd, 0, 0, 0)) rfl) rfl rfl).trans ?_
  refine (wc_ldS (n' := 883) rfl (zcode_of mc_204 (r := (.iaload, 0, 0, 0)) rfl) hs rfl).trans (and_congr_right fun h2 => ?_)
  refine (wc_isV (cl := 12) (rest := [.long s0]) (zcode_of mc_204 (r := (.invokevirtual 109, 177, 0, 2)) rfl) rfl rfl rfl).trans (and_congr_right fun h3 => ?_)
  exact wp_call (q := ([.ref a2, .int (zai σ 12 a0 (Int32.toNatClampNeg (x3 + 1))), .int (zai σ 12 a0 (Int32.toNatClampNeg (x3 + 2)))], [.long s0])) (zcode_of mc_204 (r := (.invokevirtual 109, 177, 0, 2)) rfl) rfl (zCa_V (Nat.le_of_ble_eq_true rfl) rfl h3) ⟨Nat.le_of_ble_eq_true rfl, Nat.le_of_ble_eq_true rfl⟩
set_option maxRecDepth 20000 in
theorem b204_886 {σ : zSt} {P : Option Value → zSt → Prop} {a0 a1 a2 : Nat} {x3 : Int32} {s0 s1 : Int64} {n : Nat} (hs : ztg σ a0 = (4, 12, n)) :
    wp 204 886 [some (.ref a0), some (.ref a1), some (.ref a2), some (.int x3)] [.long s0, .long s1] σ P ↔ (if (lg_cmp s1 s0) = 0 then wp 204 941 [some (.ref a0), some (.ref a1), some (.ref a2), some (.int x3)] [] σ P else wp 204 890 [some (.ref a0), some (.ref a1), some (.ref a2), some (.int x3)] [] σ P) := by
  refine (wp_s (n := 887) (zcode_of mc_204 (r := (.lcmp, 0, 0, 0)) rfl) rfl rfl).trans ?_
  exact wp_jump (off := 54) (t := 941) (zcode_of mc_204 (r := (.ifCond .eq 54, 0, 0, 0)) rfl) rfl rfl (by decide)
set_option maxRecDepth 20000 in
theorem b204_890 {σ : zSt} {P : Option Value → zSt → Prop} {a0 a1 a2 : Nat} {x3 : Int32} {n : Nat} (hs : ztg σ a0 = (4, 12, n)) :
    wp 204 890 [some (.ref a0), some (.ref a1), some (.ref a2), some (.int x3)] [] σ P ↔ (((0 : Int32) = 0 ∨ (0 : Int32) = 1) ∧ P (some (.int 0)) σ) := by
  refine (wp_ic (n' := 891) rfl (zcode_of mc_204 (r := (.iconst 0, 0, 0, 0)) rfl) ci_0).trans ?_
  exact wp_retZ (zcode_of mc_204 (r := (.ireturn, 0, 0, 0)) rfl) rfl
set_option maxRecDepth 20000 in
theorem b204_892 {σ : zSt} {P : Option Value → zSt → Prop} {a0 a1 a2 : Nat} {x3 : Int32} {n : Nat} (hs : ztg σ a0 = (4, 12, n)) :
    wp 204 892 [some (.ref a0), some (.ref a1), some (.ref a2), some (.int x3)] [] σ P ↔ (zIs σ a1 11 ∧ wpM 104 [.ref a1] σ (fun r τ => wp 204 896 [some (.ref a0), some (.ref a1), some (.ref a2), some (.int x3)] (r.toList ++ []) τ P)) := by
  refine (wp_s (n := 893) (zcode_of mc_204 (r := (.aload_n 1, 0, 0, 0)) rfl) rfl rfl).trans ?_
  refine (wc_isV (cl := 11) (rest := []) (zcode_of mc_204 (r := (.invokevirtual 110, 104, 0, 0)) rfl) rfl rfl rfl).trans (and_congr_right fun h1 => ?_)
  exact wp_call (q := ([.ref a1], [])) (zcode_of mc_204 (r := (.invokevirtual 110, 104, 0, 0)) rfl) rfl (zCa_V (Nat.le_of_ble_eq_true rfl) rfl h1) ⟨Nat.le_of_ble_eq_true rfl, Nat.le_of_ble_eq_true rfl⟩
set_option maxRecDepth 20000 in
theorem b204_896 {σ : zSt} {P : Option Value → zSt → Prop} {a0 a1 a2 : Nat} {x3 s0 : Int32} {n : Nat} (hs : ztg σ a0 = (4, 12, n)) :
    wp 204 896 [some (.ref a0), some (.ref a1), some (.ref a2), some (.int x3)] [.int s0] σ P ↔ (zIs σ a2 12 ∧ wpM 178 [.ref a2] σ (fun r τ => wp 204 900 [some (.ref a0), some (.ref a1), some (.ref a2), some (.int x3)] (r.toList ++ [.int s0]) τ P)) := by
  refine (wp_s (n := 897) (zcode_of mc_204 (r := (.aload_n 2, 0, 0, 0)) rfl) rfl rfl).trans ?_
  refine (wc_isV (cl := 12) (rest := [.int s0]) (zcode_of mc_204 (r := (.invokevirtual 113, 178, 0, 0)) rfl) rfl rfl rfl).trans (and_congr_right fun h1 => ?_)
  exact wp_call (q := ([.ref a2], [.int s0])) (zcode_of mc_204 (r := (.invokevirtual 113, 178, 0, 0)) rfl) rfl (zCa_V (Nat.le_of_ble_eq_true rfl) rfl h1) ⟨Nat.le_of_ble_eq_true rfl, Nat.le_of_ble_eq_true rfl⟩
set_option maxRecDepth 20000 in
theorem b204_900 {σ : zSt} {P : Option Value → zSt → Prop} {a0 a1 a2 : Nat} {x3 s0 s1 : Int32} {n : Nat} (hs : ztg σ a0 = (4, 12, n)) :
    wp 204 900 [some (.ref a0), some (.ref a1), some (.ref a2), some (.int x3)] [.int s0, .int s1] σ P ↔ (if s1 = s0 then wp 204 941 [some (.ref a0), some (.ref a1), some (.ref a2), some (.int x3)] [] σ P else wp 204 903 [some (.ref a0), some (.ref a1), some (.ref a2), some (.int x3)] [] σ P) := by
  exact wp_jump (off := 41) (t := 941) (zcode_of mc_204 (r := (.if_icmp .eq 41, 0, 0, 0)) rfl) rfl rfl (by decide)
set_option maxRecDepth 20000 in
theorem b204_903 {σ : zSt} {P : Option Value → zSt → Prop} {a0 a1 a2 : Nat} {x3 : Int32} {n : Nat} (hs : ztg σ a0 = (4, 12, n)) :
    wp 204 903 [some (.ref a0), some (.ref a1), some (.ref a2), some (.int x3)] [] σ P ↔ (((0 : Int32) = 0 ∨ (0 : Int32) = 1) ∧ P (some (.int 0)) σ) := by
  refine (wp_ic (n' := 904) rfl (zcode_of mc_204 (r := (.iconst 0, 0, 0, 0)) rfl) ci_0).trans ?_
  exact wp_retZ (zcode_of mc_204 (r := (.ireturn, 0, 0, 0)) rfl) rfl
set_option maxRecDepth 20000 in
theorem b204_905 {σ : zSt} {P : Option Value → zSt → Prop} {a0 a1 a2 : Nat} {x3 : Int32} {n : Nat} (hs : ztg σ a0 = (4, 12, n)) :
    wp 204 905 [some (.ref a0), some (.ref a1), some (.ref a2), some (.int x3)] [] σ P ↔ (zIn (x3 + 1) n ∧ (zIs σ a1 11 ∧ wpM 105 [.ref a1, .int (zai σ 12 a0 (Int32.toNatClampNeg (x3 + 1)))] σ (fun r τ => wp 204 914 [some (.ref a0), some (.ref a1), some (.ref a2), some (.int x3)] (r.toList ++ []) τ P))) := by
  refine (wp_s (n := 906) (zcode_of mc_204 (r := (.aload_n 1, 0, 0, 0)) rfl) rfl rfl).trans ?_
  refine (wp_s (n := 907) (zcode_of mc_204 (r := (.aload_n 0, 0, 0, 0)) rfl) rfl rfl).trans ?_
  refine (wp_s (n := 908) (zcode_of mc_204 (r := (.iload_n 3, 0, 0, 0)) rfl) rfl rfl).trans ?_
  refine (wp_ic (n' := 909) rfl (zcode_of mc_204 (r := (.iconst 1, 0, 0, 0)) rfl) ci_1).trans ?_
  refine (wp_s (n := 910) (zcode_of mc_204 (r := (.iadd, 0, 0, 0)) rfl) rfl rfl).trans ?_
  refine (wc_ldS (n' := 911) rfl (zcode_of mc_204 (r := (.iaload, 0, 0, 0)) rfl) hs rfl).trans (and_congr_right fun h1 => ?_)
  refine (wc_isV (cl := 11) (rest := []) (zcode_of mc_204 (r := (.invokevirtual 114, 105, 0, 1)) rfl) rfl rfl rfl).trans (and_congr_right fun h2 => ?_)
  exact wp_call (q := ([.ref a1, .int (zai σ 12 a0 (Int32.toNatClampNeg (x3 + 1)))], [])) (zcode_of mc_204 (r := (.invokevirtual 114, 105, 0, 1)) rfl) rfl (zCa_V (Nat.le_of_ble_eq_true rfl) rfl h2) ⟨Nat.le_of_ble_eq_true rfl, Nat.le_of_ble_eq_true rfl⟩
set_option maxRecDepth 20000 in
theorem b204_914 {σ : zSt} {P : Option Value → zSt → Prop} {a0 a1 a2 : Nat} {x3 s0 : Int32} {n : Nat} (hs : ztg σ a0 = (4, 12, n)) :
    wp 204 914 [some (.ref a0), some (.ref a1), some (.ref a2), some (.int x3)] [.int s0] σ P ↔ (zIn (x3 + 1) n ∧ (zIs σ a2 12 ∧ wpM 179 [.ref a2, .int (zai σ 12 a0 (Int32.toNatClampNeg (x3 + 1)))] σ (fun r τ => wp 204 923 [some (.ref a0), some (.ref a1), some (.ref a2), some (.int x3)] (r.toList ++ [.int s0]) τ P))) := by
  refine (wp_s (n := 915) (zcode_of mc_204 (r := (.aload_n 2, 0, 0, 0)) rfl) rfl rfl).trans ?_
  refine (wp_s (n := 916) (zcode_of mc_204 (r := (.aload_n 0, 0, 0, 0)) rfl) rfl rfl).trans ?_
  refine (wp_s (n := 917) (zcode_of mc_204 (r := (.iload_n 3, 0, 0, 0)) rfl) rfl rfl).trans ?_
  refine (wp_ic (n' := 918) rfl (zcode_of mc_204 (r := (.iconst 1, 0, 0, 0)) rfl) ci_1).trans ?_
  refine (wp_s (n := 919) (zcode_of mc_204 (r := (.iadd, 0, 0, 0)) rfl) rfl rfl).trans ?_
  refine (wc_ldS (n' := 920) rfl (zcode_of mc_204 (r := (.iaload, 0, 0, 0)) rfl) hs rfl).trans (and_congr_right fun h1 => ?_)
  refine (wc_isV (cl := 12) (rest := [.int s0]) (zcode_of mc_204 (r := (.invokevirtual 117, 179, 0, 1)) rfl) rfl rfl rfl).trans (and_congr_right fun h2 => ?_)
  exact wp_call (q := ([.ref a2, .int (zai σ 12 a0 (Int32.toNatClampNeg (x3 + 1)))], [.int s0])) (zcode_of mc_204 (r := (.invokevirtual 117, 179, 0, 1)) rfl) rfl (zCa_V (Nat.le_of_ble_eq_true rfl) rfl h2) ⟨Nat.le_of_ble_eq_true rfl, Nat.le_of_ble_eq_true rfl⟩
set_option maxRecDepth 20000 in
theorem b204_923 {σ : zSt} {P : Option Value → zSt → Prop} {a0 a1 a2 : Nat} {x3 s0 s1 : Int32} {n : Nat} (hs : ztg σ a0 = (4, 12, n)) :
    wp 204 923 [some (.ref a0), some (.ref a1), some (.ref a2), some (.int x3)] [.int s0, .int s1] σ P ↔ (if s1 = s0 then wp 204 941 [some (.ref a0), some (.ref a1), some (.ref a2), some (.int x3)] [] σ P else wp 204 926 [some (.ref a0), some (.ref a1), some (.ref a2), some (.int x3)] [] σ P) := by
  exact wp_jump (off := 18) (t := 941) (zcode_of mc_204 (r := (.if_icmp .eq 18, 0, 0, 0)) rfl) rfl rfl (by decide)
set_option maxRecDepth 20000 in
theorem b204_926 {σ : zSt} {P : Option Value → zSt → Prop} {a0 a1 a2 : Nat} {x3 : Int32} {n : Nat} (hs : ztg σ a0 = (4, 12, n)) :
    wp 204 926 [some (.ref a0), some (.ref a1), some (.ref a2), some (.int x3)] [] σ P ↔ (((0 : Int32) = 0 ∨ (0 : Int32) = 1) ∧ P (some (.int 0)) σ) := by
  refine (wp_ic (n' := 927) rfl (zcode_of mc_204 (r := (.iconst 0, 0, 0, 0)) rfl) ci_0).trans ?_
  exact wp_retZ (zcode_of mc_204 (r := (.ireturn, 0, 0, 0)) rfl) rfl
set_option maxRecDepth 20000 in
theorem b204_928 {σ : zSt} {P : Option Value → zSt → Prop} {a0 a1 a2 : Nat} {x3 : Int32} {n : Nat} (hs : ztg σ a0 = (4, 12, n)) :
    wp 204 928 [some (.ref a0), some (.ref a1), some (.ref a2), some (.int x3)] [] σ P ↔ (zIs σ a1 11 ∧ wpM 106 [.ref a1] σ (fun r τ => wp 204 932 [some (.ref a0), some (.ref a1), some (.ref a2), some (.int x3)] (r.toList ++ []) τ P)) := by
  refine (wp_s (n := 929) (zcode_of mc_204 (r := (.aload_n 1, 0, 0, 0)) rfl) rfl rfl).trans ?_
  refine (wc_isV (cl := 11) (rest := []) (zcode_of mc_204 (r := (.invokevirtual 118, 106, 0, 0)) rfl) rfl rfl rfl).trans (and_congr_right fun h1 => ?_)
  exact wp_call (q := ([.ref a1], [])) (zcode_of mc_204 (r := (.invokevirtual 118, 106, 0, 0)) rfl) rfl (zCa_V (Nat.le_of_ble_eq_true rfl) rfl h1) ⟨Nat.le_of_ble_eq_true rfl, Nat.le_of_ble_eq_true rfl⟩
set_option maxRecDepth 20000 in
theorem b204_932 {σ : zSt} {P : Option Value → zSt → Prop} {a0 a1 a2 : Nat} {x3 s0 : Int32} {n : Nat} (hs : ztg σ a0 = (4, 12, n)) :
    wp 204 932 [some (.ref a0), some (.ref a1), some (.ref a2), some (.int x3)] [.int s0] σ P ↔ (zIs σ a2 12 ∧ wpM 180 [.ref a2] σ (fun r τ => wp 204 936 [some (.ref a0), some (.ref a1), some (.ref a2), some (.int x3)] (r.toList ++ [.int s0]) τ P)) := by
  refine (wp_s (n := 933) (zcode_of mc_204 (r := (.aload_n 2, 0, 0, 0)) rfl) rfl rfl).trans ?_
  refine (wc_isV (cl := 12) (rest := [.int s0]) (zcode_of mc_204 (r := (.invokevirtual 121, 180, 0, 0)) rfl) rfl rfl rfl).trans (and_congr_right fun h1 => ?_)
  exact wp_call (q := ([.ref a2], [.int s0])) (zcode_of mc_204 (r := (.invokevirtual 121, 180, 0, 0)) rfl) rfl (zCa_V (Nat.le_of_ble_eq_true rfl) rfl h1) ⟨Nat.le_of_ble_eq_true rfl, Nat.le_of_ble_eq_true rfl⟩
set_option maxRecDepth 20000 in
theorem b204_936 {σ : zSt} {P : Option Value → zSt → Prop} {a0 a1 a2 : Nat} {x3 s0 s1 : Int32} {n : Nat} (hs : ztg σ a0 = (4, 12, n)) :
    wp 204 936 [some (.ref a0), some (.ref a1), some (.ref a2), some (.int x3)] [.int s0, .int s1] σ P ↔ (if s1 = s0 then wp 204 941 [some (.ref a0), some (.ref a1), some (.ref a2), some (.int x3)] [] σ P else wp 204 939 [some (.ref a0), some (.ref a1), some (.ref a2), some (.int x3)] [] σ P) := by
  exact wp_jump (off := 5) (t := 941) (zcode_of mc_204 (r := (.if_icmp .eq 5, 0, 0, 0)) rfl) rfl rfl (by decide)
set_option maxRecDepth 20000 in
theorem b204_939 {σ : zSt} {P : Option Value → zSt → Prop} {a0 a1 a2 : Nat} {x3 : Int32} {n : Nat} (hs : ztg σ a0 = (4, 12, n)) :
    wp 204 939 [some (.ref a0), some (.ref a1), some (.ref a2), some (.int x3)] [] σ P ↔ (((0 : Int32) = 0 ∨ (0 : Int32) = 1) ∧ P (some (.int 0)) σ) := by
  refine (wp_ic (n' := 940) rfl (zcode_of mc_204 (r := (.iconst 0, 0, 0, 0)) rfl) ci_0).trans ?_
  exact wp_retZ (zcode_of mc_204 (r := (.ireturn, 0, 0, 0)) rfl) rfl
set_option maxRecDepth 20000 in
theorem b204_941 {σ : zSt} {P : Option Value → zSt → Prop} {a0 a1 a2 : Nat} {x3 : Int32} {n : Nat} (hs : ztg σ a0 = (4, 12, n)) :
    wp 204 941 [some (.ref a0), some (.ref a1), some (.ref a2), some (.int x3)] [] σ P ↔ wp 204 18 [some (.ref a0), some (.ref a1), some (.ref a2), some (.int (x3 + 4))] [] σ P := by
  refine (wp_inc (n' := 944) rfl (zcode_of mc_204 (r := (.iinc 3 4, 0, 0, 0)) rfl) rfl rfl ci_4).trans ?_
  exact wp_goto (off := (-926)) (t := 18) (zcode_of mc_204 (r := (.goto (-926), 0, 0, 0)) rfl) (by decide)
set_option maxRecDepth 20000 in
theorem b204_947 {σ : zSt} {P : Option Value → zSt → Prop} {a0 a1 a2 : Nat} {x3 : Int32} {n : Nat} (hs : ztg σ a0 = (4, 12, n)) :
    wp 204 947 [some (.ref a0), some (.ref a1), some (.ref a2), some (.int x3)] [] σ P ↔ (((1 : Int32) = 0 ∨ (1 : Int32) = 1) ∧ P (some (.int 1)) σ) := by
  refine (wp_ic (n' := 948) rfl (zcode_of mc_204 (r := (.iconst 1, 0, 0, 0)) rfl) ci_1).trans ?_
  exact wp_retZ (zcode_of mc_204 (r := (.ireturn, 0, 0, 0)) rfl) rfl
theorem mc_112 : mCode 112 = zc_112 := rfl
set_option maxRecDepth 20000 in
theorem b112 {σ : zSt} {P : Option Value → zSt → Prop} {a0 : Nat} :
    wpM 112 [.ref a0] σ P ↔ (zIs σ a0 12 ∧ ((¬ (60 : Int32) < 0 ∧ Int32.toNatClampNeg 60 * componentBytes (siteTy 21) ≤ 536870912) ∧ wp 112 14 [some (.ref a0)] [.ref (znx (sfi σ 12 0 a0 1)), .ref a0] (zNewI (sfi σ 12 0 a0 1) 21 (Int32.toNatClampNeg 60)) P)) := by
  show wp 112 0 [some (.ref a0)] [] σ P ↔ _
  refine (wp_s (n := 1) (zcode_of mc_112 (r := (.aload_n 0, 0, 0, 0)) rfl) rfl rfl).trans ?_
  refine (wc_oi (n' := 4) rfl (zcode_of mc_112 (r := (.invokespecial 1, 0, 5, 0)) rfl) (Nat.le_of_ble_eq_true rfl)).trans ?_
  refine (wp_s (n := 5) (zcode_of mc_112 (r := (.aload_n 0, 0, 0, 0)) rfl) rfl rfl).trans ?_
  refine (wp_ic (n' := 6) rfl (zcode_of mc_112 (r := (.iconst 1, 0, 0, 0)) rfl) ci_1).trans ?_
  refine (wc_isP (zcode_of mc_112 (r := (.putfield 7, 12, 0, 0)) rfl)).trans (and_congr_right fun h1 => ?_)
  refine (wc_putI (n' := 9) rfl (zcode_of mc_112 (r := (.putfield 7, 12, 0, 0)) rfl) rfl h1).trans ?_
  refine (wp_s (n := 10) (zcode_of mc_112 (r := (.aload_n 0, 0, 0, 0)) rfl) rfl rfl).trans ?_
  refine (wp_bp (n' := 12) rfl (zcode_of mc_112 (r := (.bipush 60, 0, 0, 0)) rfl) cb_60).trans ?_
  refine (wc_na (σ := sfi σ 12 0 a0 1) (n' := 14) rfl (zcode_of mc_112 (r := (.newarray .int, 21, 0, 0)) rfl)).trans (and_congr_right fun h2 => ?_)
  exact Iff.rfl
set_option maxRecDepth 20000 in
theorem b112_14 {σ : zSt} {P : Option Value → zSt → Prop} {a0 s0 s1 : Nat} :
    wp 112 14 [some (.ref a0)] [.ref s0, .ref s1] σ P ↔ (zIs σ s1 12 ∧ ((¬ (60 : Int32) < 0 ∧ Int32.toNatClampNeg 60 * componentBytes (siteTy 22) ≤ 536870912) ∧ wp 112 22 [some (.ref a0)] [.ref (znx (sfr σ 12 1 s1 (some s0))), .ref a0] (zNewI (sfr σ 12 1 s1 (some s0)) 22 (Int32.toNatClampNeg 60)) P)) := by
  refine (wc_isP (zcode_of mc_112 (r := (.putfield 13, 12, 1, 0)) rfl)).trans (and_congr_right fun h1 => ?_)
  refine (wc_putR (n' := 17) rfl (zcode_of mc_112 (r := (.putfield 13, 12, 1, 0)) rfl) rfl h1).trans ?_
  refine (wp_s (n := 18) (zcode_of mc_112 (r := (.aload_n 0, 0, 0, 0)) rfl) rfl rfl).trans ?_
  refine (wp_bp (n' := 20) rfl (zcode_of mc_112 (r := (.bipush 60, 0, 0, 0)) rfl) cb_60).trans ?_
  refine (wc_na (σ := sfr σ 12 1 s1 (some s0)) (n' := 22) rfl (zcode_of mc_112 (r := (.newarray .int, 22, 0, 0)) rfl)).trans (and_congr_right fun h2 => ?_)
  exact Iff.rfl
set_option maxRecDepth 20000 in
theorem b112_22 {σ : zSt} {P : Option Value → zSt → Prop} {a0 s0 s1 : Nat} :
    wp 112 22 [some (.ref a0)] [.ref s0, .ref s1] σ P ↔ (zIs σ s1 12 ∧ ((¬ (60 : Int32) < 0 ∧ Int32.toNatClampNeg 60 * componentBytes (siteTy 23) ≤ 536870912) ∧ wp 112 30 [some (.ref a0)] [.ref (znx (sfr σ 12 2 s1 (some s0))), .ref a0] (zNewI (sfr σ 12 2 s1 (some s0)) 23 (Int32.toNatClampNeg 60)) P)) := by
  refine (wc_isP (zcode_of mc_112 (r := (.putfield 17, 12, 2, 0)) rfl)).trans (and_congr_right fun h1 => ?_)
  refine (wc_putR (n' := 25) rfl (zcode_of mc_112 (r := (.putfield 17, 12, 2, 0)) rfl) rfl h1).trans ?_
  refine (wp_s (n := 26) (zcode_of mc_112 (r := (.aload_n 0, 0, 0, 0)) rfl) rfl rfl).trans ?_
  refine (wp_bp (n' := 28) rfl (zcode_of mc_112 (r := (.bipush 60, 0, 0, 0)) rfl) cb_60).trans ?_
  refine (wc_na (σ := sfr σ 12 2 s1 (some s0)) (n' := 30) rfl (zcode_of mc_112 (r := (.newarray .boolean, 23, 0, 0)) rfl)).trans (and_congr_right fun h2 => ?_)
  exact Iff.rfl
set_option maxRecDepth 20000 in
theorem b112_30 {σ : zSt} {P : Option Value → zSt → Prop} {a0 s0 s1 : Nat} :
    wp 112 30 [some (.ref a0)] [.ref s0, .ref s1] σ P ↔ (zIs σ s1 12 ∧ ((¬ (60 : Int32) < 0 ∧ Int32.toNatClampNeg 60 * componentBytes (siteTy 24) ≤ 536870912) ∧ wp 112 38 [some (.ref a0)] [.ref (znx (sfr σ 12 3 s1 (some s0))), .ref a0] (zNewI (sfr σ 12 3 s1 (some s0)) 24 (Int32.toNatClampNeg 60)) P)) := by
  refine (wc_isP (zcode_of mc_112 (r := (.putfield 20, 12, 3, 0)) rfl)).trans (and_congr_right fun h1 => ?_)
  refine (wc_putR (n' := 33) rfl (zcode_of mc_112 (r := (.putfield 20, 12, 3, 0)) rfl) rfl h1).trans ?_
  refine (wp_s (n := 34) (zcode_of mc_112 (r := (.aload_n 0, 0, 0, 0)) rfl) rfl rfl).trans ?_
  refine (wp_bp (n' := 36) rfl (zcode_of mc_112 (r := (.bipush 60, 0, 0, 0)) rfl) cb_60).trans ?_
  refine (wc_na (σ := sfr σ 12 3 s1 (some s0)) (n' := 38) rfl (zcode_of mc_112 (r := (.newarray .int, 24, 0, 0)) rfl)).trans (and_congr_right fun h2 => ?_)
  exact Iff.rfl
set_option maxRecDepth 20000 in
theorem b112_38 {σ : zSt} {P : Option Value → zSt → Prop} {a0 s0 s1 : Nat} :
    wp 112 38 [some (.ref a0)] [.ref s0, .ref s1] σ P ↔ (zIs σ s1 12 ∧ ((¬ (180 : Int32) < 0 ∧ Int32.toNatClampNeg 180 * componentBytes (siteTy 25) ≤ 536870912) ∧ wp 112 47 [some (.ref a0)] [.ref (znx (sfr σ 12 4 s1 (some s0))), .ref a0] (zNewI (sfr σ 12 4 s1 (some s0)) 25 (Int32.toNatClampNeg 180)) P)) := by
  refine (wc_isP (zcode_of mc_112 (r := (.putfield 24, 12, 4, 0)) rfl)).trans (and_congr_right fun h1 => ?_)
  refine (wc_putR (n' := 41) rfl (zcode_of mc_112 (r := (.putfield 24, 12, 4, 0)) rfl) rfl h1).trans ?_
  refine (wp_s (n := 42) (zcode_of mc_112 (r := (.aload_n 0, 0, 0, 0)) rfl) rfl rfl).trans ?_
  refine (wp_sp (n' := 45) rfl (zcode_of mc_112 (r := (.sipush 180, 0, 0, 0)) rfl) cs_180).trans ?_
  refine (wc_na (σ := sfr σ 12 4 s1 (some s0)) (n' := 47) rfl (zcode_of mc_112 (r := (.newarray .int, 25, 0, 0)) rfl)).trans (and_congr_right fun h2 => ?_)
  exact Iff.rfl
set_option maxRecDepth 20000 in
theorem b112_47 {σ : zSt} {P : Option Value → zSt → Prop} {a0 s0 s1 : Nat} :
    wp 112 47 [some (.ref a0)] [.ref s0, .ref s1] σ P ↔ (zIs σ s1 12 ∧ ((¬ (11520 : Int32) < 0 ∧ Int32.toNatClampNeg 11520 * componentBytes (siteTy 26) ≤ 536870912) ∧ wp 112 56 [some (.ref a0)] [.ref (znx (sfr σ 12 5 s1 (some s0))), .ref a0] (zNewI (sfr σ 12 5 s1 (some s0)) 26 (Int32.toNatClampNeg 11520)) P)) := by
  refine (wc_isP (zcode_of mc_112 (r := (.putfield 27, 12, 5, 0)) rfl)).trans (and_congr_right fun h1 => ?_)
  refine (wc_putR (n' := 50) rfl (zcode_of mc_112 (r := (.putfield 27, 12, 5, 0)) rfl) rfl h1).trans ?_
  refine (wp_s (n := 51) (zcode_of mc_112 (r := (.aload_n 0, 0, 0, 0)) rfl) rfl rfl).trans ?_
  refine (wp_sp (n' := 54) rfl (zcode_of mc_112 (r := (.sipush 11520, 0, 0, 0)) rfl) cs_11520).trans ?_
  refine (wc_na (σ := sfr σ 12 5 s1 (some s0)) (n' := 56) rfl (zcode_of mc_112 (r := (.newarray .int, 26, 0, 0)) rfl)).trans (and_congr_right fun h2 => ?_)
  exact Iff.rfl
set_option maxRecDepth 20000 in
theorem b112_56 {σ : zSt} {P : Option Value → zSt → Prop} {a0 s0 s1 : Nat} :
    wp 112 56 [some (.ref a0)] [.ref s0, .ref s1] σ P ↔ (zIs σ s1 12 ∧ ((¬ (64 : Int32) < 0 ∧ Int32.toNatClampNeg 64 * componentBytes (siteTy 27) ≤ 536870912) ∧ wp 112 64 [some (.ref a0)] [.ref (znx (sfr σ 12 6 s1 (some s0))), .ref a0] (zNewI (sfr σ 12 6 s1 (some s0)) 27 (Int32.toNatClampNeg 64)) P)) := by
  refine (wc_isP (zcode_of mc_112 (r := (.putfield 30, 12, 6, 0)) rfl)).trans (and_congr_right fun h1 => ?_)
  refine (wc_putR (n' := 59) rfl (zcode_of mc_112 (r := (.putfield 30, 12, 6, 0)) rfl) rfl h1).trans ?_
  refine (wp_s (n := 60) (zcode_of mc_112 (r := (.aload_n 0, 0, 0, 0)) rfl) rfl rfl).trans ?_
  refine (wp_bp (n' := 62) rfl (zcode_of mc_112 (r := (.bipush 64, 0, 0, 0)) rfl) cb_64).trans ?_
  refine (wc_na (σ := sfr σ 12 6 s1 (some s0)) (n' := 64) rfl (zcode_of mc_112 (r := (.newarray .int, 27, 0, 0)) rfl)).trans (and_congr_right fun h2 => ?_)
  exact Iff.rfl
set_option maxRecDepth 20000 in
theorem b112_64 {σ : zSt} {P : Option Value → zSt → Prop} {a0 s0 s1 : Nat} :
    wp 112 64 [some (.ref a0)] [.ref s0, .ref s1] σ P ↔ (zIs σ s1 12 ∧ ((¬ (240 : Int32) < 0 ∧ Int32.toNatClampNeg 240 * componentBytes (siteTy 30) ≤ 536870912) ∧ wp 112 73 [some (.ref a0)] [.ref (znx (sfr σ 12 7 s1 (some s0))), .ref a0] (zNewI (sfr σ 12 7 s1 (some s0)) 30 (Int32.toNatClampNeg 240)) P)) := by
  refine (wc_isP (zcode_of mc_112 (r := (.putfield 33, 12, 7, 0)) rfl)).trans (and_congr_right fun h1 => ?_)
  refine (wc_putR (n' := 67) rfl (zcode_of mc_112 (r := (.putfield 33, 12, 7, 0)) rfl) rfl h1).trans ?_
  refine (wp_s (n := 68) (zcode_of mc_112 (r := (.aload_n 0, 0, 0, 0)) rfl) rfl rfl).trans ?_
  refine (wp_sp (n' := 71) rfl (zcode_of mc_112 (r := (.sipush 240, 0, 0, 0)) rfl) cs_240).trans ?_
  refine (wc_na (σ := sfr σ 12 7 s1 (some s0)) (n' := 73) rfl (zcode_of mc_112 (r := (.newarray .int, 30, 0, 0)) rfl)).trans (and_congr_right fun h2 => ?_)
  exact Iff.rfl
set_option maxRecDepth 20000 in
theorem b112_73 {σ : zSt} {P : Option Value → zSt → Prop} {a0 s0 s1 : Nat} :
    wp 112 73 [some (.ref a0)] [.ref s0, .ref s1] σ P ↔ (zIs σ s1 12 ∧ ((¬ (40 : Int32) < 0 ∧ Int32.toNatClampNeg 40 * componentBytes (siteTy 31) ≤ 536870912) ∧ wp 112 81 [some (.ref a0)] [.ref (znx (sfr σ 12 10 s1 (some s0))), .ref a0] (zNewI (sfr σ 12 10 s1 (some s0)) 31 (Int32.toNatClampNeg 40)) P)) := by
  refine (wc_isP (zcode_of mc_112 (r := (.putfield 36, 12, 10, 0)) rfl)).trans (and_congr_right fun h1 => ?_)
  refine (wc_putR (n' := 76) rfl (zcode_of mc_112 (r := (.putfield 36, 12, 10, 0)) rfl) rfl h1).trans ?_
  refine (wp_s (n := 77) (zcode_of mc_112 (r := (.aload_n 0, 0, 0, 0)) rfl) rfl rfl).trans ?_
  refine (wp_bp (n' := 79) rfl (zcode_of mc_112 (r := (.bipush 40, 0, 0, 0)) rfl) cb_40).trans ?_
  refine (wc_na (σ := sfr σ 12 10 s1 (some s0)) (n' := 81) rfl (zcode_of mc_112 (r := (.newarray .int, 31, 0, 0)) rfl)).trans (and_congr_right fun h2 => ?_)
  exact Iff.rfl
set_option maxRecDepth 20000 in
theorem b112_81 {σ : zSt} {P : Option Value → zSt → Prop} {a0 s0 s1 : Nat} :
    wp 112 81 [some (.ref a0)] [.ref s0, .ref s1] σ P ↔ (zIs σ s1 12 ∧ ((¬ (120 : Int32) < 0 ∧ Int32.toNatClampNeg 120 * componentBytes (siteTy 32) ≤ 536870912) ∧ wp 112 89 [some (.ref a0)] [.ref (znx (sfr σ 12 11 s1 (some s0))), .ref a0] (zNewI (sfr σ 12 11 s1 (some s0)) 32 (Int32.toNatClampNeg 120)) P)) := by
  refine (wc_isP (zcode_of mc_112 (r := (.putfield 39, 12, 11, 0)) rfl)).trans (and_congr_right fun h1 => ?_)
  refine (wc_putR (n' := 84) rfl (zcode_of mc_112 (r := (.putfield 39, 12, 11, 0)) rfl) rfl h1).trans ?_
  refine (wp_s (n := 85) (zcode_of mc_112 (r := (.aload_n 0, 0, 0, 0)) rfl) rfl rfl).trans ?_
  refine (wp_bp (n' := 87) rfl (zcode_of mc_112 (r := (.bipush 120, 0, 0, 0)) rfl) cb_120).trans ?_
  refine (wc_na (σ := sfr σ 12 11 s1 (some s0)) (n' := 89) rfl (zcode_of mc_112 (r := (.newarray .int, 32, 0, 0)) rfl)).trans (and_congr_right fun h2 => ?_)
  exact Iff.rfl
set_option maxRecDepth 20000 in
theorem b112_89 {σ : zSt} {P : Option Value → zSt → Prop} {a0 s0 s1 : Nat} :
    wp 112 89 [some (.ref a0)] [.ref s0, .ref s1] σ P ↔ (zIs σ s1 12 ∧ ((¬ (40 : Int32) < 0 ∧ Int32.toNatClampNeg 40 * componentBytes (siteTy 33) ≤ 536870912) ∧ wp 112 97 [some (.ref a0)] [.ref (znx (sfr σ 12 12 s1 (some s0))), .ref a0] (zNewI (sfr σ 12 12 s1 (some s0)) 33 (Int32.toNatClampNeg 40)) P)) := by
  refine (wc_isP (zcode_of mc_112 (r := (.putfield 42, 12, 12, 0)) rfl)).trans (and_congr_right fun h1 => ?_)
  refine (wc_putR (n' := 92) rfl (zcode_of mc_112 (r := (.putfield 42, 12, 12, 0)) rfl) rfl h1).trans ?_
  refine (wp_s (n := 93) (zcode_of mc_112 (r := (.aload_n 0, 0, 0, 0)) rfl) rfl rfl).trans ?_
  refine (wp_bp (n' := 95) rfl (zcode_of mc_112 (r := (.bipush 40, 0, 0, 0)) rfl) cb_40).trans ?_
  refine (wc_na (σ := sfr σ 12 12 s1 (some s0)) (n' := 97) rfl (zcode_of mc_112 (r := (.newarray .int, 33, 0, 0)) rfl)).trans (and_congr_right fun h2 => ?_)
  exact Iff.rfl
set_option maxRecDepth 20000 in
theorem b112_97 {σ : zSt} {P : Option Value → zSt → Prop} {a0 s0 s1 : Nat} :
    wp 112 97 [some (.ref a0)] [.ref s0, .ref s1] σ P ↔ (zIs σ s1 12 ∧ ((¬ (640 : Int32) < 0 ∧ Int32.toNatClampNeg 640 * componentBytes (siteTy 34) ≤ 536870912) ∧ wp 112 106 [some (.ref a0)] [.ref (znx (sfr σ 12 13 s1 (some s0))), .ref a0] (zNewI (sfr σ 12 13 s1 (some s0)) 34 (Int32.toNatClampNeg 640)) P)) := by
  refine (wc_isP (zcode_of mc_112 (r := (.putfield 45, 12, 13, 0)) rfl)).trans (and_congr_right fun h1 => ?_)
  refine (wc_putR (n' := 100) rfl (zcode_of mc_112 (r := (.putfield 45, 12, 13, 0)) rfl) rfl h1).trans ?_
  refine (wp_s (n := 101) (zcode_of mc_112 (r := (.aload_n 0, 0, 0, 0)) rfl) rfl rfl).trans ?_
  refine (wp_sp (n' := 104) rfl (zcode_of mc_112 (r := (.sipush 640, 0, 0, 0)) rfl) cs_640).trans ?_
  refine (wc_na (σ := sfr σ 12 13 s1 (some s0)) (n' := 106) rfl (zcode_of mc_112 (r := (.newarray .int, 34, 0, 0)) rfl)).trans (and_congr_right fun h2 => ?_)
  exact Iff.rfl
set_option maxRecDepth 20000 in
theorem b112_106 {σ : zSt} {P : Option Value → zSt → Prop} {a0 s0 s1 : Nat} :
    wp 112 106 [some (.ref a0)] [.ref s0, .ref s1] σ P ↔ (zIs σ s1 12 ∧ ((¬ (640 : Int32) < 0 ∧ Int32.toNatClampNeg 640 * componentBytes (siteTy 35) ≤ 536870912) ∧ wp 112 115 [some (.ref a0)] [.ref (znx (sfr σ 12 14 s1 (some s0))), .ref a0] (zNewI (sfr σ 12 14 s1 (some s0)) 35 (Int32.toNatClampNeg 640)) P)) := by
  refine (wc_isP (zcode_of mc_112 (r := (.putfield 48, 12, 14, 0)) rfl)).trans (and_congr_right fun h1 => ?_)
  refine (wc_putR (n' := 109) rfl (zcode_of mc_112 (r := (.putfield 48, 12, 14, 0)) rfl) rfl h1).trans ?_
  refine (wp_s (n := 110) (zcode_of mc_112 (r := (.aload_n 0, 0, 0, 0)) rfl) rfl rfl).trans ?_
  refine (wp_sp (n' := 113) rfl (zcode_of mc_112 (r := (.sipush 640, 0, 0, 0)) rfl) cs_640).trans ?_
  refine (wc_na (σ := sfr σ 12 14 s1 (some s0)) (n' := 115) rfl (zcode_of mc_112 (r := (.newarray .int, 35, 0, 0)) rfl)).trans (and_congr_right fun h2 => ?_)
  exact Iff.rfl
set_option maxRecDepth 20000 in
theorem b112_115 {σ : zSt} {P : Option Value → zSt → Prop} {a0 s0 s1 : Nat} :
    wp 112 115 [some (.ref a0)] [.ref s0, .ref s1] σ P ↔ (zIs σ s1 12 ∧ ((¬ (40 : Int32) < 0 ∧ Int32.toNatClampNeg 40 * componentBytes (siteTy 36) ≤ 536870912) ∧ wp 112 123 [some (.ref a0)] [.ref (znx (sfr σ 12 15 s1 (some s0))), .ref a0] (zNewI (sfr σ 12 15 s1 (some s0)) 36 (Int32.toNatClampNeg 40)) P)) := by
  refine (wc_isP (zcode_of mc_112 (r := (.putfield 51, 12, 15, 0)) rfl)).trans (and_congr_right fun h1 => ?_)
  refine (wc_putR (n' := 118) rfl (zcode_of mc_112 (r := (.putfield 51, 12, 15, 0)) rfl) rfl h1).trans ?_
  refine (wp_s (n := 119) (zcode_of mc_112 (r := (.aload_n 0, 0, 0, 0)) rfl) rfl rfl).trans ?_
  refine (wp_bp (n' := 121) rfl (zcode_of mc_112 (r := (.bipush 40, 0, 0, 0)) rfl) cb_40).trans ?_
  refine (wc_na (σ := sfr σ 12 15 s1 (some s0)) (n' := 123) rfl (zcode_of mc_112 (r := (.newarray .int, 36, 0, 0)) rfl)).trans (and_congr_right fun h2 => ?_)
  exact Iff.rfl
set_option maxRecDepth 20000 in
theorem b112_123 {σ : zSt} {P : Option Value → zSt → Prop} {a0 s0 s1 : Nat} :
    wp 112 123 [some (.ref a0)] [.ref s0, .ref s1] σ P ↔ (zIs σ s1 12 ∧ ((¬ (80 : Int32) < 0 ∧ Int32.toNatClampNeg 80 * componentBytes (siteTy 37) ≤ 536870912) ∧ wp 112 131 [some (.ref a0)] [.ref (znx (sfr σ 12 16 s1 (some s0))), .ref a0] (zNewI (sfr σ 12 16 s1 (some s0)) 37 (Int32.toNatClampNeg 80)) P)) := by
  refine (wc_isP (zcode_of mc_112 (r := (.putfield 54, 12, 16, 0)) rfl)).trans (and_congr_right fun h1 => ?_)
  refine (wc_putR (n' := 126) rfl (zcode_of mc_112 (r := (.putfield 54, 12, 16, 0)) rfl) rfl h1).trans ?_
  refine (wp_s (n := 127) (zcode_of mc_112 (r := (.aload_n 0, 0, 0, 0)) rfl) rfl rfl).trans ?_
  refine (wp_bp (n' := 129) rfl (zcode_of mc_112 (r := (.bipush 80, 0, 0, 0)) rfl) cb_80).trans ?_
  refine (wc_na (σ := sfr σ 12 16 s1 (some s0)) (n' := 131) rfl (zcode_of mc_112 (r := (.newarray .boolean, 37, 0, 0)) rfl)).trans (and_congr_right fun h2 => ?_)
  exact Iff.rfl
set_option maxRecDepth 20000 in
theorem b112_131 {σ : zSt} {P : Option Value → zSt → Prop} {a0 s0 s1 : Nat} :
    wp 112 131 [some (.ref a0)] [.ref s0, .ref s1] σ P ↔ (zIs σ s1 12 ∧ ((¬ (34000 : Int32) < 0 ∧ Int32.toNatClampNeg 34000 * componentBytes (siteTy 38) ≤ 536870912) ∧ wp 112 139 [some (.ref a0)] [.ref (znx (sfr σ 12 17 s1 (some s0))), .ref a0] (zNewI (sfr σ 12 17 s1 (some s0)) 38 (Int32.toNatClampNeg 34000)) P)) := by
  refine (wc_isP (zcode_of mc_112 (r := (.putfield 57, 12, 17, 0)) rfl)).trans (and_congr_right fun h1 => ?_)
  refine (wc_putR (n' := 134) rfl (zcode_of mc_112 (r := (.putfield 57, 12, 17, 0)) rfl) rfl h1).trans ?_
  refine (wp_s (n := 135) (zcode_of mc_112 (r := (.aload_n 0, 0, 0, 0)) rfl) rfl rfl).trans ?_
  refine (wp_ldc (n' := 137) rfl (zcode_of mc_112 (r := (.ldc 60, 0, 0, 34000)) rfl) ci_34000).trans ?_
  refine (wc_na (σ := sfr σ 12 17 s1 (some s0)) (n' := 139) rfl (zcode_of mc_112 (r := (.newarray .int, 38, 0, 0)) rfl)).trans (and_congr_right fun h2 => ?_)
  exact Iff.rfl
set_option maxRecDepth 20000 in
theorem b112_139 {σ : zSt} {P : Option Value → zSt → Prop} {a0 s0 s1 : Nat} :
    wp 112 139 [some (.ref a0)] [.ref s0, .ref s1] σ P ↔ (zIs σ s1 12 ∧ ((¬ (560 : Int32) < 0 ∧ Int32.toNatClampNeg 560 * componentBytes (siteTy 39) ≤ 536870912) ∧ wp 112 148 [some (.ref a0)] [.ref (znx (sfr σ 12 18 s1 (some s0))), .ref a0] (zNewI (sfr σ 12 18 s1 (some s0)) 39 (Int32.toNatClampNeg 560)) P)) := by
  refine (wc_isP (zcode_of mc_112 (r := (.putfield 61, 12, 18, 0)) rfl)).trans (and_congr_right fun h1 => ?_)
  refine (wc_putR (n' := 142) rfl (zcode_of mc_112 (r := (.putfield 61, 12, 18, 0)) rfl) rfl h1).trans ?_
  refine (wp_s (n := 143) (zcode_of mc_112 (r := (.aload_n 0, 0, 0, 0)) rfl) rfl rfl).trans ?_
  refine (wp_sp (n' := 146) rfl (zcode_of mc_112 (r := (.sipush 560, 0, 0, 0)) rfl) cs_560).trans ?_
  refine (wc_na (σ := sfr σ 12 18 s1 (some s0)) (n' := 148) rfl (zcode_of mc_112 (r := (.newarray .int, 39, 0, 0)) rfl)).trans (and_congr_right fun h2 => ?_)
  exact Iff.rfl
set_option maxRecDepth 20000 in
theorem b112_148 {σ : zSt} {P : Option Value → zSt → Prop} {a0 s0 s1 : Nat} :
    wp 112 148 [some (.ref a0)] [.ref s0, .ref s1] σ P ↔ (zIs σ s1 12 ∧ (zIs σ a0 12 ∧ ((¬ (101 : Int32) < 0 ∧ Int32.toNatClampNeg 101 * componentBytes (siteTy 42) ≤ 536870912) ∧ wp 112 163 [some (.ref a0)] [.ref (znx (sfi (sfr σ 12 19 s1 (some s0)) 12 20 a0 1000)), .ref a0] (zNewI (sfi (sfr σ 12 19 s1 (some s0)) 12 20 a0 1000) 42 (Int32.toNatClampNeg 101)) P))) := by
  refine (wc_isP (zcode_of mc_112 (r := (.putfield 64, 12, 19, 0)) rfl)).trans (and_congr_right fun h1 => ?_)
  refine (wc_putR (n' := 151) rfl (zcode_of mc_112 (r := (.putfield 64, 12, 19, 0)) rfl) rfl h1).trans ?_
  refine (wp_s (n := 152) (zcode_of mc_112 (r := (.aload_n 0, 0, 0, 0)) rfl) rfl rfl).trans ?_
  refine (wp_sp (n' := 155) rfl (zcode_of mc_112 (r := (.sipush 1000, 0, 0, 0)) rfl) cs_1000).trans ?_
  refine (wc_isP (σ := sfr σ 12 19 s1 (some s0)) (zcode_of mc_112 (r := (.putfield 67, 12, 20, 0)) rfl)).trans (and_congr_right fun h2 => ?_)
  refine (wc_putI (σ := sfr σ 12 19 s1 (some s0)) (n' := 158) rfl (zcode_of mc_112 (r := (.putfield 67, 12, 20, 0)) rfl) rfl h2).trans ?_
  refine (wp_s (n := 159) (zcode_of mc_112 (r := (.aload_n 0, 0, 0, 0)) rfl) rfl rfl).trans ?_
  refine (wp_bp (n' := 161) rfl (zcode_of mc_112 (r := (.bipush 101, 0, 0, 0)) rfl) cb_101).trans ?_
  refine (wc_na (σ := sfi (sfr σ 12 19 s1 (some s0)) 12 20 a0 1000) (n' := 163) rfl (zcode_of mc_112 (r := (.newarray .int, 42, 0, 0)) rfl)).trans (and_congr_right fun h3 => ?_)
  exact Iff.rfl
set_option maxRecDepth 20000 in
theorem b112_163 {σ : zSt} {P : Option Value → zSt → Prop} {a0 s0 s1 : Nat} :
    wp 112 163 [some (.ref a0)] [.ref s0, .ref s1] σ P ↔ (zIs σ s1 12 ∧ ((¬ (101 : Int32) < 0 ∧ Int32.toNatClampNeg 101 * componentBytes (siteTy 43) ≤ 536870912) ∧ wp 112 171 [some (.ref a0)] [.ref (znx (sfr σ 12 22 s1 (some s0))), .ref a0] (zNewI (sfr σ 12 22 s1 (some s0)) 43 (Int32.toNatClampNeg 101)) P)) := by
  refine (wc_isP (zcode_of mc_112 (r := (.putfield 70, 12, 22, 0)) rfl)).trans (and_congr_right fun h1 => ?_)
  refine (wc_putR (n' := 166) rfl (zcode_of mc_112 (r := (.putfield 70, 12, 22, 0)) rfl) rfl h1).trans ?_
  refine (wp_s (n := 167) (zcode_of mc_112 (r := (.aload_n 0, 0, 0, 0)) rfl) rfl rfl).trans ?_
  refine (wp_bp (n' := 169) rfl (zcode_of mc_112 (r := (.bipush 101, 0, 0, 0)) rfl) cb_101).trans ?_
  refine (wc_na (σ := sfr σ 12 22 s1 (some s0)) (n' := 171) rfl (zcode_of mc_112 (r := (.newarray .boolean, 43, 0, 0)) rfl)).trans (and_congr_right fun h2 => ?_)
  exact Iff.rfl
set_option maxRecDepth 20000 in
theorem b112_171 {σ : zSt} {P : Option Value → zSt → Prop} {a0 s0 s1 : Nat} :
    wp 112 171 [some (.ref a0)] [.ref s0, .ref s1] σ P ↔ (zIs σ s1 12 ∧ ((¬ (42925 : Int32) < 0 ∧ Int32.toNatClampNeg 42925 * componentBytes (siteTy 44) ≤ 536870912) ∧ wp 112 179 [some (.ref a0)] [.ref (znx (sfr σ 12 23 s1 (some s0))), .ref a0] (zNewI (sfr σ 12 23 s1 (some s0)) 44 (Int32.toNatClampNeg 42925)) P)) := by
  refine (wc_isP (zcode_of mc_112 (r := (.putfield 73, 12, 23, 0)) rfl)).trans (and_congr_right fun h1 => ?_)
  refine (wc_putR (n' := 174) rfl (zcode_of mc_112 (r := (.putfield 73, 12, 23, 0)) rfl) rfl h1).trans ?_
  refine (wp_s (n := 175) (zcode_of mc_112 (r := (.aload_n 0, 0, 0, 0)) rfl) rfl rfl).trans ?_
  refine (wp_ldc (n' := 177) rfl (zcode_of mc_112 (r := (.ldc 76, 0, 0, 42925)) rfl) ci_42925).trans ?_
  refine (wc_na (σ := sfr σ 12 23 s1 (some s0)) (n' := 179) rfl (zcode_of mc_112 (r := (.newarray .int, 44, 0, 0)) rfl)).trans (and_congr_right fun h2 => ?_)
  exact Iff.rfl
set_option maxRecDepth 20000 in
theorem b112_179 {σ : zSt} {P : Option Value → zSt → Prop} {a0 s0 s1 : Nat} :
    wp 112 179 [some (.ref a0)] [.ref s0, .ref s1] σ P ↔ (zIs σ s1 12 ∧ ((¬ (101 : Int32) < 0 ∧ Int32.toNatClampNeg 101 * componentBytes (siteTy 45) ≤ 536870912) ∧ wp 112 187 [some (.ref a0)] [.ref (znx (sfr σ 12 24 s1 (some s0))), .ref a0] (zNewI (sfr σ 12 24 s1 (some s0)) 45 (Int32.toNatClampNeg 101)) P)) := by
  refine (wc_isP (zcode_of mc_112 (r := (.putfield 77, 12, 24, 0)) rfl)).trans (and_congr_right fun h1 => ?_)
  refine (wc_putR (n' := 182) rfl (zcode_of mc_112 (r := (.putfield 77, 12, 24, 0)) rfl) rfl h1).trans ?_
  refine (wp_s (n := 183) (zcode_of mc_112 (r := (.aload_n 0, 0, 0, 0)) rfl) rfl rfl).trans ?_
  refine (wp_bp (n' := 185) rfl (zcode_of mc_112 (r := (.bipush 101, 0, 0, 0)) rfl) cb_101).trans ?_
  refine (wc_na (σ := sfr σ 12 24 s1 (some s0)) (n' := 187) rfl (zcode_of mc_112 (r := (.newarray .int, 45, 0, 0)) rfl)).trans (and_congr_right fun h2 => ?_)
  exact Iff.rfl
set_option maxRecDepth 20000 in
theorem b112_187 {σ : zSt} {P : Option Value → zSt → Prop} {a0 s0 s1 : Nat} :
    wp 112 187 [some (.ref a0)] [.ref s0, .ref s1] σ P ↔ (zIs σ s1 12 ∧ ((¬ (101 : Int32) < 0 ∧ Int32.toNatClampNeg 101 * componentBytes (siteTy 46) ≤ 536870912) ∧ wp 112 195 [some (.ref a0)] [.ref (znx (sfr σ 12 25 s1 (some s0))), .ref a0] (zNewI (sfr σ 12 25 s1 (some s0)) 46 (Int32.toNatClampNeg 101)) P)) := by
  refine (wc_isP (zcode_of mc_112 (r := (.putfield 80, 12, 25, 0)) rfl)).trans (and_congr_right fun h1 => ?_)
  refine (wc_putR (n' := 190) rfl (zcode_of mc_112 (r := (.putfield 80, 12, 25, 0)) rfl) rfl h1).trans ?_
  refine (wp_s (n := 191) (zcode_of mc_112 (r := (.aload_n 0, 0, 0, 0)) rfl) rfl rfl).trans ?_
  refine (wp_bp (n' := 193) rfl (zcode_of mc_112 (r := (.bipush 101, 0, 0, 0)) rfl) cb_101).trans ?_
  refine (wc_na (σ := sfr σ 12 25 s1 (some s0)) (n' := 195) rfl (zcode_of mc_112 (r := (.newarray .int, 46, 0, 0)) rfl)).trans (and_congr_right fun h2 => ?_)
  exact Iff.rfl
set_option maxRecDepth 20000 in
theorem b112_195 {σ : zSt} {P : Option Value → zSt → Prop} {a0 s0 s1 : Nat} :
    wp 112 195 [some (.ref a0)] [.ref s0, .ref s1] σ P ↔ (zIs σ s1 12 ∧ ((¬ (101 : Int32) < 0 ∧ Int32.toNatClampNeg 101 * componentBytes (siteTy 47) ≤ 536870912) ∧ wp 112 203 [some (.ref a0)] [.ref (znx (sfr σ 12 26 s1 (some s0))), .ref a0] (zNewI (sfr σ 12 26 s1 (some s0)) 47 (Int32.toNatClampNeg 101)) P)) := by
  refine (wc_isP (zcode_of mc_112 (r := (.putfield 83, 12, 26, 0)) rfl)).trans (and_congr_right fun h1 => ?_)
  refine (wc_putR (n' := 198) rfl (zcode_of mc_112 (r := (.putfield 83, 12, 26, 0)) rfl) rfl h1).trans ?_
  refine (wp_s (n := 199) (zcode_of mc_112 (r := (.aload_n 0, 0, 0, 0)) rfl) rfl rfl).trans ?_
  refine (wp_bp (n' := 201) rfl (zcode_of mc_112 (r := (.bipush 101, 0, 0, 0)) rfl) cb_101).trans ?_
  refine (wc_na (σ := sfr σ 12 26 s1 (some s0)) (n' := 203) rfl (zcode_of mc_112 (r := (.newarray .int, 47, 0, 0)) rfl)).trans (and_congr_right fun h2 => ?_)
  exact Iff.rfl
set_option maxRecDepth 20000 in
theorem b112_203 {σ : zSt} {P : Option Value → zSt → Prop} {a0 s0 s1 : Nat} :
    wp 112 203 [some (.ref a0)] [.ref s0, .ref s1] σ P ↔ (zIs σ s1 12 ∧ ((¬ (101 : Int32) < 0 ∧ Int32.toNatClampNeg 101 * componentBytes (siteTy 48) ≤ 536870912) ∧ wp 112 211 [some (.ref a0)] [.ref (znx (sfr σ 12 27 s1 (some s0))), .ref a0] (zNewI (sfr σ 12 27 s1 (some s0)) 48 (Int32.toNatClampNeg 101)) P)) := by
  refine (wc_isP (zcode_of mc_112 (r := (.putfield 86, 12, 27, 0)) rfl)).trans (and_congr_right fun h1 => ?_)
  refine (wc_putR (n' := 206) rfl (zcode_of mc_112 (r := (.putfield 86, 12, 27, 0)) rfl) rfl h1).trans ?_
  refine (wp_s (n := 207) (zcode_of mc_112 (r := (.aload_n 0, 0, 0, 0)) rfl) rfl rfl).trans ?_
  refine (wp_bp (n' := 209) rfl (zcode_of mc_112 (r := (.bipush 101, 0, 0, 0)) rfl) cb_101).trans ?_
  refine (wc_na (σ := sfr σ 12 27 s1 (some s0)) (n' := 211) rfl (zcode_of mc_112 (r := (.newarray .int, 48, 0, 0)) rfl)).trans (and_congr_right fun h2 => ?_)
  exact Iff.rfl
set_option maxRecDepth 20000 in
theorem b112_211 {σ : zSt} {P : Option Value → zSt → Prop} {a0 s0 s1 : Nat} :
    wp 112 211 [some (.ref a0)] [.ref s0, .ref s1] σ P ↔ (zIs σ s1 12 ∧ ((¬ (101 : Int32) < 0 ∧ Int32.toNatClampNeg 101 * componentBytes (siteTy 49) ≤ 536870912) ∧ wp 112 219 [some (.ref a0)] [.ref (znx (sfr σ 12 28 s1 (some s0))), .ref a0] (zNewI (sfr σ 12 28 s1 (some s0)) 49 (Int32.toNatClampNeg 101)) P)) := by
  refine (wc_isP (zcode_of mc_112 (r := (.putfield 89, 12, 28, 0)) rfl)).trans (and_congr_right fun h1 => ?_)
  refine (wc_putR (n' := 214) rfl (zcode_of mc_112 (r := (.putfield 89, 12, 28, 0)) rfl) rfl h1).trans ?_
  refine (wp_s (n := 215) (zcode_of mc_112 (r := (.aload_n 0, 0, 0, 0)) rfl) rfl rfl).trans ?_
  refine (wp_bp (n' := 217) rfl (zcode_of mc_112 (r := (.bipush 101, 0, 0, 0)) rfl) cb_101).trans ?_
  refine (wc_na (σ := sfr σ 12 28 s1 (some s0)) (n' := 219) rfl (zcode_of mc_112 (r := (.newarray .int, 49, 0, 0)) rfl)).trans (and_congr_right fun h2 => ?_)
  exact Iff.rfl
set_option maxRecDepth 20000 in
theorem b112_219 {σ : zSt} {P : Option Value → zSt → Prop} {a0 s0 s1 : Nat} :
    wp 112 219 [some (.ref a0)] [.ref s0, .ref s1] σ P ↔ (zIs σ s1 12 ∧ ((¬ (303 : Int32) < 0 ∧ Int32.toNatClampNeg 303 * componentBytes (siteTy 50) ≤ 536870912) ∧ wp 112 228 [some (.ref a0)] [.ref (znx (sfr σ 12 29 s1 (some s0))), .ref a0] (zNewI (sfr σ 12 29 s1 (some s0)) 50 (Int32.toNatClampNeg 303)) P)) := by
  refine (wc_isP (zcode_of mc_112 (r := (.putfield 92, 12, 29, 0)) rfl)).trans (and_congr_right fun h1 => ?_)
  refine (wc_putR (n' := 222) rfl (zcode_of mc_112 (r := (.putfield 92, 12, 29, 0)) rfl) rfl h1).trans ?_
  refine (wp_s (n := 223) (zcode_of mc_112 (r := (.aload_n 0, 0, 0, 0)) rfl) rfl rfl).trans ?_
  refine (wp_sp (n' := 226) rfl (zcode_of mc_112 (r := (.sipush 303, 0, 0, 0)) rfl) cs_303).trans ?_
  refine (wc_na (σ := sfr σ 12 29 s1 (some s0)) (n' := 228) rfl (zcode_of mc_112 (r := (.newarray .int, 50, 0, 0)) rfl)).trans (and_congr_right fun h2 => ?_)
  exact Iff.rfl
set_option maxRecDepth 20000 in
theorem b112_228 {σ : zSt} {P : Option Value → zSt → Prop} {a0 s0 s1 : Nat} :
    wp 112 228 [some (.ref a0)] [.ref s0, .ref s1] σ P ↔ (zIs σ s1 12 ∧ ((¬ (19392 : Int32) < 0 ∧ Int32.toNatClampNeg 19392 * componentBytes (siteTy 51) ≤ 536870912) ∧ wp 112 237 [some (.ref a0)] [.ref (znx (sfr σ 12 30 s1 (some s0))), .ref a0] (zNewI (sfr σ 12 30 s1 (some s0)) 51 (Int32.toNatClampNeg 19392)) P)) := by
  refine (wc_isP (zcode_of mc_112 (r := (.putfield 95, 12, 30, 0)) rfl)).trans (and_congr_right fun h1 => ?_)
  refine (wc_putR (n' := 231) rfl (zcode_of mc_112 (r := (.putfield 95, 12, 30, 0)) rfl) rfl h1).trans ?_
  refine (wp_s (n := 232) (zcode_of mc_112 (r := (.aload_n 0, 0, 0, 0)) rfl) rfl rfl).trans ?_
  refine (wp_sp (n' := 235) rfl (zcode_of mc_112 (r := (.sipush 19392, 0, 0, 0)) rfl) cs_19392).trans ?_
  refine (wc_na (σ := sfr σ 12 30 s1 (some s0)) (n' := 237) rfl (zcode_of mc_112 (r := (.newarray .int, 51, 0, 0)) rfl)).trans (and_congr_right fun h2 => ?_)
  exact Iff.rfl
set_option maxRecDepth 20000 in
theorem b112_237 {σ : zSt} {P : Option Value → zSt → Prop} {a0 s0 s1 : Nat} :
    wp 112 237 [some (.ref a0)] [.ref s0, .ref s1] σ P ↔ (zIs σ s1 12 ∧ ((¬ (40 : Int32) < 0 ∧ Int32.toNatClampNeg 40 * componentBytes (siteTy 53) ≤ 536870912) ∧ wp 112 245 [some (.ref a0)] [.ref (znx (sfr σ 12 31 s1 (some s0))), .ref a0] (zNewI (sfr σ 12 31 s1 (some s0)) 53 (Int32.toNatClampNeg 40)) P)) := by
  refine (wc_isP (zcode_of mc_112 (r := (.putfield 98, 12, 31, 0)) rfl)).trans (and_congr_right fun h1 => ?_)
  refine (wc_putR (n' := 240) rfl (zcode_of mc_112 (r := (.putfield 98, 12, 31, 0)) rfl) rfl h1).trans ?_
  refine (wp_s (n := 241) (zcode_of mc_112 (r := (.aload_n 0, 0, 0, 0)) rfl) rfl rfl).trans ?_
  refine (wp_bp (n' := 243) rfl (zcode_of mc_112 (r := (.bipush 40, 0, 0, 0)) rfl) cb_40).trans ?_
  refine (wc_na (σ := sfr σ 12 31 s1 (some s0)) (n' := 245) rfl (zcode_of mc_112 (r := (.newarray .int, 53, 0, 0)) rfl)).trans (and_congr_right fun h2 => ?_)
  exact Iff.rfl
set_option maxRecDepth 20000 in
theorem b112_245 {σ : zSt} {P : Option Value → zSt → Prop} {a0 s0 s1 : Nat} :
    wp 112 245 [some (.ref a0)] [.ref s0, .ref s1] σ P ↔ (zIs σ s1 12 ∧ ((¬ (40 : Int32) < 0 ∧ Int32.toNatClampNeg 40 * componentBytes (siteTy 54) ≤ 536870912) ∧ wp 112 253 [some (.ref a0)] [.ref (znx (sfr σ 12 33 s1 (some s0))), .ref a0] (zNewI (sfr σ 12 33 s1 (some s0)) 54 (Int32.toNatClampNeg 40)) P)) := by
  refine (wc_isP (zcode_of mc_112 (r := (.putfield 101, 12, 33, 0)) rfl)).trans (and_congr_right fun h1 => ?_)
  refine (wc_putR (n' := 248) rfl (zcode_of mc_112 (r := (.putfield 101, 12, 33, 0)) rfl) rfl h1).trans ?_
  refine (wp_s (n := 249) (zcode_of mc_112 (r := (.aload_n 0, 0, 0, 0)) rfl) rfl rfl).trans ?_
  refine (wp_bp (n' := 251) rfl (zcode_of mc_112 (r := (.bipush 40, 0, 0, 0)) rfl) cb_40).trans ?_
  refine (wc_na (σ := sfr σ 12 33 s1 (some s0)) (n' := 253) rfl (zcode_of mc_112 (r := (.newarray .int, 54, 0, 0)) rfl)).trans (and_congr_right fun h2 => ?_)
  exact Iff.rfl
set_option maxRecDepth 20000 in
theorem b112_253 {σ : zSt} {P : Option Value → zSt → Prop} {a0 s0 s1 : Nat} :
    wp 112 253 [some (.ref a0)] [.ref s0, .ref s1] σ P ↔ (zIs σ s1 12 ∧ ((¬ (40 : Int32) < 0 ∧ Int32.toNatClampNeg 40 * componentBytes (siteTy 55) ≤ 536870912) ∧ wp 112 261 [some (.ref a0)] [.ref (znx (sfr σ 12 34 s1 (some s0))), .ref a0] (zNewI (sfr σ 12 34 s1 (some s0)) 55 (Int32.toNatClampNeg 40)) P)) := by
  refine (wc_isP (zcode_of mc_112 (r := (.putfield 104, 12, 34, 0)) rfl)).trans (and_congr_right fun h1 => ?_)
  refine (wc_putR (n' := 256) rfl (zcode_of mc_112 (r := (.putfield 104, 12, 34, 0)) rfl) rfl h1).trans ?_
  refine (wp_s (n := 257) (zcode_of mc_112 (r := (.aload_n 0, 0, 0, 0)) rfl) rfl rfl).trans ?_
  refine (wp_bp (n' := 259) rfl (zcode_of mc_112 (r := (.bipush 40, 0, 0, 0)) rfl) cb_40).trans ?_
  refine (wc_na (σ := sfr σ 12 34 s1 (some s0)) (n' := 261) rfl (zcode_of mc_112 (r := (.newarray .int, 55, 0, 0)) rfl)).trans (and_congr_right fun h2 => ?_)
  exact Iff.rfl
set_option maxRecDepth 20000 in
theorem b112_261 {σ : zSt} {P : Option Value → zSt → Prop} {a0 s0 s1 : Nat} :
    wp 112 261 [some (.ref a0)] [.ref s0, .ref s1] σ P ↔ (zIs σ s1 12 ∧ ((¬ (40 : Int32) < 0 ∧ Int32.toNatClampNeg 40 * componentBytes (siteTy 56) ≤ 536870912) ∧ wp 112 269 [some (.ref a0)] [.ref (znx (sfr σ 12 35 s1 (some s0))), .ref a0] (zNewI (sfr σ 12 35 s1 (some s0)) 56 (Int32.toNatClampNeg 40)) P)) := by
  refine (wc_isP (zcode_of mc_112 (r := (.putfield 107, 12, 35, 0)) rfl)).trans (and_congr_right fun h1 => ?_)
  refine (wc_putR (n' := 264) rfl (zcode_of mc_112 (r := (.putfield 107, 12, 35, 0)) rfl) rfl h1).trans ?_
  refine (wp_s (n := 265) (zcode_of mc_112 (r := (.aload_n 0, 0, 0, 0)) rfl) rfl rfl).trans ?_
  refine (wp_bp (n' := 267) rfl (zcode_of mc_112 (r := (.bipush 40, 0, 0, 0)) rfl) cb_40).trans ?_
  refine (wc_na (σ := sfr σ 12 35 s1 (some s0)) (n' := 269) rfl (zcode_of mc_112 (r := (.newarray .int, 56, 0, 0)) rfl)).trans (and_congr_right fun h2 => ?_)
  exact Iff.rfl
set_option maxRecDepth 20000 in
theorem b112_269 {σ : zSt} {P : Option Value → zSt → Prop} {a0 s0 s1 : Nat} :
    wp 112 269 [some (.ref a0)] [.ref s0, .ref s1] σ P ↔ (zIs σ s1 12 ∧ ((¬ (40 : Int32) < 0 ∧ Int32.toNatClampNeg 40 * componentBytes (siteTy 61) ≤ 536870912) ∧ wp 112 277 [some (.ref a0)] [.ref (znx (sfr σ 12 36 s1 (some s0))), .ref a0] (zNewI (sfr σ 12 36 s1 (some s0)) 61 (Int32.toNatClampNeg 40)) P)) := by
  refine (wc_isP (zcode_of mc_112 (r := (.putfield 110, 12, 36, 0)) rfl)).trans (and_congr_right fun h1 => ?_)
  refine (wc_putR (n' := 272) rfl (zcode_of mc_112 (r := (.putfield 110, 12, 36, 0)) rfl) rfl h1).trans ?_
  refine (wp_s (n := 273) (zcode_of mc_112 (r := (.aload_n 0, 0, 0, 0)) rfl) rfl rfl).trans ?_
  refine (wp_bp (n' := 275) rfl (zcode_of mc_112 (r := (.bipush 40, 0, 0, 0)) rfl) cb_40).trans ?_
  refine (wc_na (σ := sfr σ 12 36 s1 (some s0)) (n' := 277) rfl (zcode_of mc_112 (r := (.newarray .boolean, 61, 0, 0)) rfl)).trans (and_congr_right fun h2 => ?_)
  exact Iff.rfl
set_option maxRecDepth 20000 in
theorem b112_277 {σ : zSt} {P : Option Value → zSt → Prop} {a0 s0 s1 : Nat} :
    wp 112 277 [some (.ref a0)] [.ref s0, .ref s1] σ P ↔ (zIs σ s1 12 ∧ ((¬ (425 : Int32) < 0 ∧ Int32.toNatClampNeg 425 * componentBytes (siteTy 62) ≤ 536870912) ∧ wp 112 286 [some (.ref a0)] [.ref (znx (sfr σ 12 41 s1 (some s0))), .ref a0] (zNewI (sfr σ 12 41 s1 (some s0)) 62 (Int32.toNatClampNeg 425)) P)) := by
  refine (wc_isP (zcode_of mc_112 (r := (.putfield 113, 12, 41, 0)) rfl)).trans (and_congr_right fun h1 => ?_)
  refine (wc_putR (n' := 280) rfl (zcode_of mc_112 (r := (.putfield 113, 12, 41, 0)) rfl) rfl h1).trans ?_
  refine (wp_s (n := 281) (zcode_of mc_112 (r := (.aload_n 0, 0, 0, 0)) rfl) rfl rfl).trans ?_
  refine (wp_sp (n' := 284) rfl (zcode_of mc_112 (r := (.sipush 425, 0, 0, 0)) rfl) cs_425).trans ?_
  refine (wc_na (σ := sfr σ 12 41 s1 (some s0)) (n' := 286) rfl (zcode_of mc_112 (r := (.newarray .int, 62, 0, 0)) rfl)).trans (and_congr_right fun h2 => ?_)
  exact Iff.rfl
set_option maxRecDepth 20000 in
theorem b112_286 {σ : zSt} {P : Option Value → zSt → Prop} {a0 s0 s1 : Nat} :
    wp 112 286 [some (.ref a0)] [.ref s0, .ref s1] σ P ↔ (zIs σ s1 12 ∧ ((¬ (7 : Int32) < 0 ∧ Int32.toNatClampNeg 7 * componentBytes (siteTy 64) ≤ 536870912) ∧ wp 112 294 [some (.ref a0)] [.ref (znx (sfr σ 12 42 s1 (some s0))), .ref a0] (zNewI (sfr σ 12 42 s1 (some s0)) 64 (Int32.toNatClampNeg 7)) P)) := by
  refine (wc_isP (zcode_of mc_112 (r := (.putfield 116, 12, 42, 0)) rfl)).trans (and_congr_right fun h1 => ?_)
  refine (wc_putR (n' := 289) rfl (zcode_of mc_112 (r := (.putfield 116, 12, 42, 0)) rfl) rfl h1).trans ?_
  refine (wp_s (n := 290) (zcode_of mc_112 (r := (.aload_n 0, 0, 0, 0)) rfl) rfl rfl).trans ?_
  refine (wp_bp (n' := 292) rfl (zcode_of mc_112 (r := (.bipush 7, 0, 0, 0)) rfl) cb_7).trans ?_
  refine (wc_na (σ := sfr σ 12 42 s1 (some s0)) (n' := 294) rfl (zcode_of mc_112 (r := (.newarray .int, 64, 0, 0)) rfl)).trans (and_congr_right fun h2 => ?_)
  exact Iff.rfl
set_option maxRecDepth 20000 in
theorem b112_294 {σ : zSt} {P : Option Value → zSt → Prop} {a0 s0 s1 : Nat} :
    wp 112 294 [some (.ref a0)] [.ref s0, .ref s1] σ P ↔ (zIs σ s1 12 ∧ ((¬ (26 : Int32) < 0 ∧ Int32.toNatClampNeg 26 * componentBytes (siteTy 65) ≤ 536870912) ∧ wp 112 302 [some (.ref a0)] [.ref (znx (sfr σ 12 44 s1 (some s0))), .ref a0] (zNewI (sfr σ 12 44 s1 (some s0)) 65 (Int32.toNatClampNeg 26)) P)) := by
  refine (wc_isP (zcode_of mc_112 (r := (.putfield 119, 12, 44, 0)) rfl)).trans (and_congr_right fun h1 => ?_)
  refine (wc_putR (n' := 297) rfl (zcode_of mc_112 (r := (.putfield 119, 12, 44, 0)) rfl) rfl h1).trans ?_
  refine (wp_s (n := 298) (zcode_of mc_112 (r := (.aload_n 0, 0, 0, 0)) rfl) rfl rfl).trans ?_
  refine (wp_bp (n' := 300) rfl (zcode_of mc_112 (r := (.bipush 26, 0, 0, 0)) rfl) cb_26).trans ?_
  refine (wc_na (σ := sfr σ 12 44 s1 (some s0)) (n' := 302) rfl (zcode_of mc_112 (r := (.newarray .int, 65, 0, 0)) rfl)).trans (and_congr_right fun h2 => ?_)
  exact Iff.rfl
set_option maxRecDepth 20000 in
theorem b112_302 {σ : zSt} {P : Option Value → zSt → Prop} {a0 s0 s1 : Nat} :
    wp 112 302 [some (.ref a0)] [.ref s0, .ref s1] σ P ↔ (zIs σ s1 12 ∧ ((¬ (64 : Int32) < 0 ∧ Int32.toNatClampNeg 64 * componentBytes (siteTy 67) ≤ 536870912) ∧ wp 112 310 [some (.ref a0)] [.ref (znx (sfr σ 12 45 s1 (some s0))), .ref a0] (zNewI (sfr σ 12 45 s1 (some s0)) 67 (Int32.toNatClampNeg 64)) P)) := by
  refine (wc_isP (zcode_of mc_112 (r := (.putfield 122, 12, 45, 0)) rfl)).trans (and_congr_right fun h1 => ?_)
  refine (wc_putR (n' := 305) rfl (zcode_of mc_112 (r := (.putfield 122, 12, 45, 0)) rfl) rfl h1).trans ?_
  refine (wp_s (n := 306) (zcode_of mc_112 (r := (.aload_n 0, 0, 0, 0)) rfl) rfl rfl).trans ?_
  refine (wp_bp (n' := 308) rfl (zcode_of mc_112 (r := (.bipush 64, 0, 0, 0)) rfl) cb_64).trans ?_
  refine (wc_na (σ := sfr σ 12 45 s1 (some s0)) (n' := 310) rfl (zcode_of mc_112 (r := (.newarray .int, 67, 0, 0)) rfl)).trans (and_congr_right fun h2 => ?_)
  exact Iff.rfl
set_option maxRecDepth 20000 in
theorem b112_310 {σ : zSt} {P : Option Value → zSt → Prop} {a0 s0 s1 : Nat} :
    wp 112 310 [some (.ref a0)] [.ref s0, .ref s1] σ P ↔ (zIs σ s1 12 ∧ ((¬ (3 : Int32) < 0 ∧ Int32.toNatClampNeg 3 * componentBytes (siteTy 70) ≤ 536870912) ∧ wp 112 317 [some (.ref a0)] [.ref (znx (sfr σ 12 47 s1 (some s0))), .ref a0] (zNewI (sfr σ 12 47 s1 (some s0)) 70 (Int32.toNatClampNeg 3)) P)) := by
  refine (wc_isP (zcode_of mc_112 (r := (.putfield 125, 12, 47, 0)) rfl)).trans (and_congr_right fun h1 => ?_)
  refine (wc_putR (n' := 313) rfl (zcode_of mc_112 (r := (.putfield 125, 12, 47, 0)) rfl) rfl h1).trans ?_
  refine (wp_s (n := 314) (zcode_of mc_112 (r := (.aload_n 0, 0, 0, 0)) rfl) rfl rfl).trans ?_
  refine (wp_ic (n' := 315) rfl (zcode_of mc_112 (r := (.iconst 3, 0, 0, 0)) rfl) ci_3).trans ?_
  refine (wc_na (σ := sfr σ 12 47 s1 (some s0)) (n' := 317) rfl (zcode_of mc_112 (r := (.newarray .int, 70, 0, 0)) rfl)).trans (and_congr_right fun h2 => ?_)
  exact Iff.rfl
set_option maxRecDepth 20000 in
theorem b112_317 {σ : zSt} {P : Option Value → zSt → Prop} {a0 s0 s1 : Nat} :
    wp 112 317 [some (.ref a0)] [.ref s0, .ref s1] σ P ↔ (zIs σ s1 12 ∧ ((¬ (192 : Int32) < 0 ∧ Int32.toNatClampNeg 192 * componentBytes (siteTy 71) ≤ 536870912) ∧ wp 112 326 [some (.ref a0)] [.ref (znx (sfr σ 12 50 s1 (some s0))), .ref a0] (zNewI (sfr σ 12 50 s1 (some s0)) 71 (Int32.toNatClampNeg 192)) P)) := by
  refine (wc_isP (zcode_of mc_112 (r := (.putfield 128, 12, 50, 0)) rfl)).trans (and_congr_right fun h1 => ?_)
  refine (wc_putR (n' := 320) rfl (zcode_of mc_112 (r := (.putfield 128, 12, 50, 0)) rfl) rfl h1).trans ?_
  refine (wp_s (n := 321) (zcode_of mc_112 (r := (.aload_n 0, 0, 0, 0)) rfl) rfl rfl).trans ?_
  refine (wp_sp (n' := 324) rfl (zcode_of mc_112 (r := (.sipush 192, 0, 0, 0)) rfl) cs_192).trans ?_
  refine (wc_na (σ := sfr σ 12 50 s1 (some s0)) (n' := 326) rfl (zcode_of mc_112 (r := (.newarray .int, 71, 0, 0)) rfl)).trans (and_congr_right fun h2 => ?_)
  exact Iff.rfl
set_option maxRecDepth 20000 in
theorem b112_326 {σ : zSt} {P : Option Value → zSt → Prop} {a0 s0 s1 : Nat} :
    wp 112 326 [some (.ref a0)] [.ref s0, .ref s1] σ P ↔ (zIs σ s1 12 ∧ ((¬ (40 : Int32) < 0 ∧ Int32.toNatClampNeg 40 * componentBytes (siteTy 72) ≤ 536870912) ∧ wp 112 334 [some (.ref a0)] [.ref (znx (sfr σ 12 51 s1 (some s0))), .ref a0] (zNewI (sfr σ 12 51 s1 (some s0)) 72 (Int32.toNatClampNeg 40)) P)) := by
  refine (wc_isP (zcode_of mc_112 (r := (.putfield 131, 12, 51, 0)) rfl)).trans (and_congr_right fun h1 => ?_)
  refine (wc_putR (n' := 329) rfl (zcode_of mc_112 (r := (.putfield 131, 12, 51, 0)) rfl) rfl h1).trans ?_
  refine (wp_s (n := 330) (zcode_of mc_112 (r := (.aload_n 0, 0, 0, 0)) rfl) rfl rfl).trans ?_
  refine (wp_bp (n' := 332) rfl (zcode_of mc_112 (r := (.bipush 40, 0, 0, 0)) rfl) cb_40).trans ?_
  refine (wc_na (σ := sfr σ 12 51 s1 (some s0)) (n' := 334) rfl (zcode_of mc_112 (r := (.newarray .boolean, 72, 0, 0)) rfl)).trans (and_congr_right fun h2 => ?_)
  exact Iff.rfl
set_option maxRecDepth 20000 in
theorem b112_334 {σ : zSt} {P : Option Value → zSt → Prop} {a0 s0 s1 : Nat} :
    wp 112 334 [some (.ref a0)] [.ref s0, .ref s1] σ P ↔ (zIs σ s1 12 ∧ ((¬ (40 : Int32) < 0 ∧ Int32.toNatClampNeg 40 * componentBytes (siteTy 73) ≤ 536870912) ∧ wp 112 342 [some (.ref a0)] [.ref (znx (sfr σ 12 52 s1 (some s0))), .ref a0] (zNewI (sfr σ 12 52 s1 (some s0)) 73 (Int32.toNatClampNeg 40)) P)) := by
  refine (wc_isP (zcode_of mc_112 (r := (.putfield 134, 12, 52, 0)) rfl)).trans (and_congr_right fun h1 => ?_)
  refine (wc_putR (n' := 337) rfl (zcode_of mc_112 (r := (.putfield 134, 12, 52, 0)) rfl) rfl h1).trans ?_
  refine (wp_s (n := 338) (zcode_of mc_112 (r := (.aload_n 0, 0, 0, 0)) rfl) rfl rfl).trans ?_
  refine (wp_bp (n' := 340) rfl (zcode_of mc_112 (r := (.bipush 40, 0, 0, 0)) rfl) cb_40).trans ?_
  refine (wc_na (σ := sfr σ 12 52 s1 (some s0)) (n' := 342) rfl (zcode_of mc_112 (r := (.newarray .boolean, 73, 0, 0)) rfl)).trans (and_congr_right fun h2 => ?_)
  exact Iff.rfl
set_option maxRecDepth 20000 in
theorem b112_342 {σ : zSt} {P : Option Value → zSt → Prop} {a0 s0 s1 : Nat} (hs3 : ztg σ (zrf σ 12 3 a0) = (2, 23, 60)) (hs1 : ztg σ (zrf σ 12 1 a0) = (2, 21, 60)) (hs4 : ztg σ (zrf σ 12 4 a0) = (2, 24, 60)) :
    wp 112 342 [some (.ref a0)] [.ref s0, .ref s1] σ P ↔ (zIs σ s1 12 ∧ (zIs σ a0 12 ∧ ((zfr σ 12 3 a0).isSome = true ∧ ((zIn 0 60 ∧ ((1 : Int32) = 0 ∨ (1 : Int32) = 1)) ∧ ((zfr σ 12 1 a0).isSome = true ∧ (zIn 0 60 ∧ ((zfr σ 12 4 a0).isSome = true ∧ (zIn 0 60 ∧ P none (sai (sai (sai (sfr σ 12 53 s1 (some s0)) 23 (zrf σ 12 3 a0) (Int32.toNatClampNeg 0) 1) 21 (zrf σ 12 1 a0) (Int32.toNatClampNeg 0) (-1)) 24 (zrf σ 12 4 a0) (Int32.toNatClampNeg 0) (-1)))))))))) := by
  refine (wc_isP (zcode_of mc_112 (r := (.putfield 137, 12, 53, 0)) rfl)).trans (and_congr_right fun h1 => ?_)
  refine (wc_putR (n' := 345) rfl (zcode_of mc_112 (r := (.putfield 137, 12, 53, 0)) rfl) rfl h1).trans ?_
  refine (wp_s (n := 346) (zcode_of mc_112 (r := (.aload_n 0, 0, 0, 0)) rfl) rfl rfl).trans ?_
  refine (wc_is (σ := sfr σ 12 53 s1 (some s0)) (zcode_of mc_112 (r := (.getfield 20, 12, 3, 0)) rfl)).trans (and_congr_right fun h2 => ?_)
  refine (wc_getE (σ := sfr σ 12 53 s1 (some s0)) (n' := 349) rfl (zcode_of mc_112 (r := (.getfield 20, 12, 3, 0)) rfl) rfl h2).trans (and_congr_right fun h3 => ?_)
  refine (wp_ic (n' := 350) rfl (zcode_of mc_112 (r := (.iconst 0, 0, 0, 0)) rfl) ci_0).trans ?_
  refine (wp_ic (n' := 351) rfl (zcode_of mc_112 (r := (.iconst 1, 0, 0, 0)) rfl) ci_1).trans ?_
  refine (wc_stB (σ := sfr σ 12 53 s1 (some s0)) (n' := 352) rfl (zcode_of mc_112 (r := (.bastore, 0, 0, 0)) rfl) hs3 rfl).trans (and_congr_right fun h4 => ?_)
  refine (wp_s (n := 353) (zcode_of mc_112 (r := (.aload_n 0, 0, 0, 0)) rfl) rfl rfl).trans ?_
  refine (wc_getE (σ := sai (sfr σ 12 53 s1 (some s0)) 23 (zrf σ 12 3 a0) (Int32.toNatClampNeg 0) 1) (n' := 356) rfl (zcode_of mc_112 (r := (.getfield 13, 12, 1, 0)) rfl) rfl h2).trans (and_congr_right fun h5 => ?_)
  refine (wp_ic (n' := 357) rfl (zcode_of mc_112 (r := (.iconst 0, 0, 0, 0)) rfl) ci_0).trans ?_
  refine (wp_ic (n' := 358) rfl (zcode_of mc_112 (r := (.iconst (-1), 0, 0, 0)) rfl) ci_m1).trans ?_
  refine (wc_st (σ := sai (sfr σ 12 53 s1 (some s0)) 23 (zrf σ 12 3 a0) (Int32.toNatClampNeg 0) 1) (n' := 359) rfl (zcode_of mc_112 (r := (.iastore, 0, 0, 0)) rfl) hs1 rfl).trans (and_congr_right fun h6 => ?_)
  refine (wp_s (n := 360) (zcode_of mc_112 (r := (.aload_n 0, 0, 0, 0)) rfl) rfl rfl).trans ?_
  refine (wc_getE (σ := sai (sai (sfr σ 12 53 s1 (some s0)) 23 (zrf σ 12 3 a0) (Int32.toNatClampNeg 0) 1) 21 (zrf σ 12 1 a0) (Int32.toNatClampNeg 0) (-1)) (n' := 363) rfl (zcode_of mc_112 (r := (.getfield 24, 12, 4, 0)) rfl) rfl h2).trans (and_congr_right fun h7 => ?_)
  refine (wp_ic (n' := 364) rfl (zcode_of mc_112 (r := (.iconst 0, 0, 0, 0)) rfl) ci_0).trans ?_
  refine (wp_ic (n' := 365) rfl (zcode_of mc_112 (r := (.iconst (-1), 0, 0, 0)) rfl) ci_m1).trans ?_
  refine (wc_st (σ := sai (sai (sfr σ 12 53 s1 (some s0)) 23 (zrf σ 12 3 a0) (Int32.toNatClampNeg 0) 1) 21 (zrf σ 12 1 a0) (Int32.toNatClampNeg 0) (-1)) (n' := 366) rfl (zcode_of mc_112 (r := (.iastore, 0, 0, 0)) rfl) hs4 rfl).trans (and_congr_right fun h8 => ?_)
  exact wp_retV (zcode_of mc_112 (r := (.return_, 0, 0, 0)) rfl) rfl
