theorem mc_113 : mCode 113 = zc_113 := rfl
theorem b113 {σ : zSt} {o : Nat} {sc : Nat → Int32} {ar : Nat → Nat → Int32} {P : Option Value → zSt → Prop} (hR : RShape σ o) {x0 x1 x2 : Int32} :
    wpM 113 [.int x0, .int x1, .int x2] (rOv σ o sc ar) P ↔ (if x0 < x1 then wp 113 14 [some (.int x0), some (.int x1), some (.int x2)] [] (rOv σ o sc ar) P else wp 113 5 [some (.int x0), some (.int x1), some (.int x2)] [] (rOv σ o sc ar) P) := by
  show wp 113 0 [some (.int x0), some (.int x1), some (.int x2)] [] (rOv σ o sc ar) P ↔ _
  refine (wp_s (n := 1) (zcode_of mc_113 (r := (.iload_n 0, 0, 0, 0)) rfl) rfl rfl).trans ?_
  refine (wp_s (n := 2) (zcode_of mc_113 (r := (.iload_n 1, 0, 0, 0)) rfl) rfl rfl).trans ?_
  exact wp_jump (off := 12) (t := 14) (zcode_of mc_113 (r := (.if_icmp .lt 12, 0, 0, 0)) rfl) rfl rfl (by decide)
theorem b113_5 {σ : zSt} {o : Nat} {sc : Nat → Int32} {ar : Nat → Nat → Int32} {P : Option Value → zSt → Prop} (hR : RShape σ o) {x0 x1 x2 : Int32} :
    wp 113 5 [some (.int x0), some (.int x1), some (.int x2)] [] (rOv σ o sc ar) P ↔ (if x2 < x0 then wp 113 14 [some (.int x0), some (.int x1), some (.int x2)] [] (rOv σ o sc ar) P else wp 113 10 [some (.int x0), some (.int x1), some (.int x2)] [] (rOv σ o sc ar) P) := by
  refine (wp_s (n := 6) (zcode_of mc_113 (r := (.iload_n 0, 0, 0, 0)) rfl) rfl rfl).trans ?_
  refine (wp_s (n := 7) (zcode_of mc_113 (r := (.iload_n 2, 0, 0, 0)) rfl) rfl rfl).trans ?_
  exact wp_jump (off := 7) (t := 14) (zcode_of mc_113 (r := (.if_icmp .gt 7, 0, 0, 0)) rfl) rfl rfl (by decide)
theorem b113_10 {σ : zSt} {o : Nat} {sc : Nat → Int32} {ar : Nat → Nat → Int32} {P : Option Value → zSt → Prop} (hR : RShape σ o) {x0 x1 x2 : Int32} :
    wp 113 10 [some (.int x0), some (.int x1), some (.int x2)] [] (rOv σ o sc ar) P ↔ wp 113 15 [some (.int x0), some (.int x1), some (.int x2)] [.int 1] (rOv σ o sc ar) P := by
  refine (wp_ic (n' := 11) rfl (zcode_of mc_113 (r := (.iconst 1, 0, 0, 0)) rfl) ci_1).trans ?_
  exact wp_goto (off := 4) (t := 15) (zcode_of mc_113 (r := (.goto 4, 0, 0, 0)) rfl) (by decide)
theorem b113_14 {σ : zSt} {o : Nat} {sc : Nat → Int32} {ar : Nat → Nat → Int32} {P : Option Value → zSt → Prop} (hR : RShape σ o) {x0 x1 x2 : Int32} :
    wp 113 14 [some (.int x0), some (.int x1), some (.int x2)] [] (rOv σ o sc ar) P ↔ wp 113 15 [some (.int x0), some (.int x1), some (.int x2)] [.int 0] (rOv σ o sc ar) P := by
  refine (wp_ic (n' := 15) rfl (zcode_of mc_113 (r := (.iconst 0, 0, 0, 0)) rfl) ci_0).trans ?_
  exact Iff.rfl
theorem b113_15 {σ : zSt} {o : Nat} {sc : Nat → Int32} {ar : Nat → Nat → Int32} {P : Option Value → zSt → Prop} (hR : RShape σ o) {x0 x1 x2 s0 : Int32} :
    wp 113 15 [some (.int x0), some (.int x1), some (.int x2)] [.int s0] (rOv σ o sc ar) P ↔ ((s0 = 0 ∨ s0 = 1) ∧ P (some (.int s0)) (rOv σ o sc ar)) := by
  exact wp_retZ (zcode_of mc_113 (r := (.ireturn, 0, 0, 0)) rfl) rfl
theorem mc_114 : mCode 114 = zc_114 := rfl
theorem b114 {σ : zSt} {o : Nat} {sc : Nat → Int32} {ar : Nat → Nat → Int32} {P : Option Value → zSt → Prop} (hR : RShape σ o) {x1 : Int32} :
    wpM 114 [.ref o, .int x1] (rOv σ o sc ar) P ↔ wpM 113 [.int x1, .int 0, .int ((sc 0) - 1)] (rOv σ o sc ar) (fun r τ => wp 114 11 [some (.ref o), some (.int x1)] (r.toList ++ []) τ P) := by
  show wp 114 0 [some (.ref o), some (.int x1)] [] (rOv σ o sc ar) P ↔ _
  refine (wp_s (n := 1) (zcode_of mc_114 (r := (.iload_n 1, 0, 0, 0)) rfl) rfl rfl).trans ?_
  refine (wp_ic (n' := 2) rfl (zcode_of mc_114 (r := (.iconst 0, 0, 0, 0)) rfl) ci_0).trans ?_
  refine (wp_s (n := 3) (zcode_of mc_114 (r := (.aload_n 0, 0, 0, 0)) rfl) rfl rfl).trans ?_
  refine (wr_getI (n' := 6) rfl hR (zcode_of mc_114 (r := (.getfield 7, 12, 0, 0)) rfl) rfl).trans ?_
  refine (wp_ic (n' := 7) rfl (zcode_of mc_114 (r := (.iconst 1, 0, 0, 0)) rfl) ci_1).trans ?_
  refine (wp_s (n := 8) (zcode_of mc_114 (r := (.isub, 0, 0, 0)) rfl) rfl rfl).trans ?_
  exact wp_call (q := ([.int x1, .int 0, .int ((sc 0) - 1)], [])) (zcode_of mc_114 (r := (.invokestatic 140, 113, 1, 3)) rfl) rfl rfl ⟨Nat.le_of_ble_eq_true rfl, Nat.le_of_ble_eq_true rfl⟩
theorem b114_11 {σ : zSt} {o : Nat} {sc : Nat → Int32} {ar : Nat → Nat → Int32} {P : Option Value → zSt → Prop} (hR : RShape σ o) {x1 s0 : Int32} :
    wp 114 11 [some (.ref o), some (.int x1)] [.int s0] (rOv σ o sc ar) P ↔ ((s0 = 0 ∨ s0 = 1) ∧ P (some (.int s0)) (rOv σ o sc ar)) := by
  exact wp_retZ (zcode_of mc_114 (r := (.ireturn, 0, 0, 0)) rfl) rfl
theorem mc_115 : mCode 115 = zc_115 := rfl
theorem b115 {σ : zSt} {o : Nat} {sc : Nat → Int32} {ar : Nat → Nat → Int32} {P : Option Value → zSt → Prop} (hR : RShape σ o) {x1 : Int32} :
    wpM 115 [.ref o, .int x1] (rOv σ o sc ar) P ↔ wpM 113 [.int x1, .int 0, .int ((sc 9) - 1)] (rOv σ o sc ar) (fun r τ => wp 115 11 [some (.ref o), some (.int x1)] (r.toList ++ []) τ P) := by
  show wp 115 0 [some (.ref o), some (.int x1)] [] (rOv σ o sc ar) P ↔ _
  refine (wp_s (n := 1) (zcode_of mc_115 (r := (.iload_n 1, 0, 0, 0)) rfl) rfl rfl).trans ?_
  refine (wp_ic (n' := 2) rfl (zcode_of mc_115 (r := (.iconst 0, 0, 0, 0)) rfl) ci_0).trans ?_
  refine (wp_s (n := 3) (zcode_of mc_115 (r := (.aload_n 0, 0, 0, 0)) rfl) rfl rfl).trans ?_
  refine (wr_getI (n' := 6) rfl hR (zcode_of mc_115 (r := (.getfield 144, 12, 9, 0)) rfl) rfl).trans ?_
  refine (wp_ic (n' := 7) rfl (zcode_of mc_115 (r := (.iconst 1, 0, 0, 0)) rfl) ci_1).trans ?_
  refine (wp_s (n := 8) (zcode_of mc_115 (r := (.isub, 0, 0, 0)) rfl) rfl rfl).trans ?_
  exact wp_call (q := ([.int x1, .int 0, .int ((sc 9) - 1)], [])) (zcode_of mc_115 (r := (.invokestatic 140, 113, 1, 3)) rfl) rfl rfl ⟨Nat.le_of_ble_eq_true rfl, Nat.le_of_ble_eq_true rfl⟩
theorem b115_11 {σ : zSt} {o : Nat} {sc : Nat → Int32} {ar : Nat → Nat → Int32} {P : Option Value → zSt → Prop} (hR : RShape σ o) {x1 s0 : Int32} :
    wp 115 11 [some (.ref o), some (.int x1)] [.int s0] (rOv σ o sc ar) P ↔ ((s0 = 0 ∨ s0 = 1) ∧ P (some (.int s0)) (rOv σ o sc ar)) := by
  exact wp_retZ (zcode_of mc_115 (r := (.ireturn, 0, 0, 0)) rfl) rfl
theorem mc_116 : mCode 116 = zc_116 := rfl
theorem b116 {σ : zSt} {o : Nat} {sc : Nat → Int32} {ar : Nat → Nat → Int32} {P : Option Value → zSt → Prop} (hR : RShape σ o) {x1 x2 x3 : Int32} :
    wpM 116 [.ref o, .int x1, .int x2, .int x3] (rOv σ o sc ar) P ↔ wpM 114 [.ref o, .int x1] (rOv σ o sc ar) (fun r τ => wp 116 5 [some (.ref o), some (.int x1), some (.int x2), some (.int x3), none] (r.toList ++ []) τ P) := by
  show wp 116 0 [some (.ref o), some (.int x1), some (.int x2), some (.int x3), none] [] (rOv σ o sc ar) P ↔ _
  refine (wp_s (n := 1) (zcode_of mc_116 (r := (.aload_n 0, 0, 0, 0)) rfl) rfl rfl).trans ?_
  refine (wp_s (n := 2) (zcode_of mc_116 (r := (.iload_n 1, 0, 0, 0)) rfl) rfl rfl).trans ?_
  exact wp_call (q := ([.ref o, .int x1], [])) (zcode_of mc_116 (r := (.invokevirtual 147, 114, 0, 1)) rfl) rfl (zCa_V (Nat.le_of_ble_eq_true rfl) rfl hR.tg) ⟨Nat.le_of_ble_eq_true rfl, Nat.le_of_ble_eq_true rfl⟩
theorem b116_5 {σ : zSt} {o : Nat} {sc : Nat → Int32} {ar : Nat → Nat → Int32} {P : Option Value → zSt → Prop} (hR : RShape σ o) {x1 x2 x3 s0 : Int32} {u4 : Option Value} :
    wp 116 5 [some (.ref o), some (.int x1), some (.int x2), some (.int x3), u4] [.int s0] (rOv σ o sc ar) P ↔ (if s0 = 0 then wp 116 18 [some (.ref o), some (.int x1), some (.int x2), some (.int x3), u4] [] (rOv σ o sc ar) P else wp 116 8 [some (.ref o), some (.int x1), some (.int x2), some (.int x3), u4] [] (rOv σ o sc ar) P) := by
  exact wp_jump (off := 13) (t := 18) (zcode_of mc_116 (r := (.ifCond .eq 13, 0, 0, 0)) rfl) rfl rfl (by decide)
theorem b116_8 {σ : zSt} {o : Nat} {sc : Nat → Int32} {ar : Nat → Nat → Int32} {P : Option Value → zSt → Prop} (hR : RShape σ o) {x1 x2 x3 : Int32} {u4 : Option Value} :
    wp 116 8 [some (.ref o), some (.int x1), some (.int x2), some (.int x3), u4] [] (rOv σ o sc ar) P ↔ wpM 113 [.int x2, .int 1, .int 26] (rOv σ o sc ar) (fun r τ => wp 116 15 [some (.ref o), some (.int x1), some (.int x2), some (.int x3), u4] (r.toList ++ []) τ P) := by
  refine (wp_s (n := 9) (zcode_of mc_116 (r := (.iload_n 2, 0, 0, 0)) rfl) rfl rfl).trans ?_
  refine (wp_ic (n' := 10) rfl (zcode_of mc_116 (r := (.iconst 1, 0, 0, 0)) rfl) ci_1).trans ?_
  refine (wp_bp (n' := 12) rfl (zcode_of mc_116 (r := (.bipush 26, 0, 0, 0)) rfl) cb_26).trans ?_
  exact wp_call (q := ([.int x2, .int 1, .int 26], [])) (zcode_of mc_116 (r := (.invokestatic 140, 113, 1, 3)) rfl) rfl rfl ⟨Nat.le_of_ble_eq_true rfl, Nat.le_of_ble_eq_true rfl⟩
theorem b116_15 {σ : zSt} {o : Nat} {sc : Nat → Int32} {ar : Nat → Nat → Int32} {P : Option Value → zSt → Prop} (hR : RShape σ o) {x1 x2 x3 s0 : Int32} {u4 : Option Value} :
    wp 116 15 [some (.ref o), some (.int x1), some (.int x2), some (.int x3), u4] [.int s0] (rOv σ o sc ar) P ↔ (if ¬ s0 = 0 then wp 116 21 [some (.ref o), some (.int x1), some (.int x2), some (.int x3), u4] [] (rOv σ o sc ar) P else wp 116 18 [some (.ref o), some (.int x1), some (.int x2), some (.int x3), u4] [] (rOv σ o sc ar) P) := by
  exact wp_jump (off := 6) (t := 21) (zcode_of mc_116 (r := (.ifCond .ne 6, 0, 0, 0)) rfl) rfl rfl (by decide)
theorem b116_18 {σ : zSt} {o : Nat} {sc : Nat → Int32} {ar : Nat → Nat → Int32} {P : Option Value → zSt → Prop} (hR : RShape σ o) {x1 x2 x3 : Int32} {u4 : Option Value} :
    wp 116 18 [some (.ref o), some (.int x1), some (.int x2), some (.int x3), u4] [] (rOv σ o sc ar) P ↔ P (some (.int (-2))) (rOv σ o sc ar) := by
  refine (wp_bp (n' := 20) rfl (zcode_of mc_116 (r := (.bipush (-2), 0, 0, 0)) rfl) cb_m2).trans ?_
  exact wp_retI (zcode_of mc_116 (r := (.ireturn, 0, 0, 0)) rfl) rfl
theorem b116_21 {σ : zSt} {o : Nat} {sc : Nat → Int32} {ar : Nat → Nat → Int32} {P : Option Value → zSt → Prop} (hR : RShape σ o) {x1 x2 x3 : Int32} {u4 : Option Value} :
    wp 116 21 [some (.ref o), some (.int x1), some (.int x2), some (.int x3), u4] [] (rOv σ o sc ar) P ↔ (zIn x1 (rlen 23) ∧ (if ¬ (ar 23 (Int32.toNatClampNeg x1)) = 0 then wp 116 33 [some (.ref o), some (.int x1), some (.int x2), some (.int x3), u4] [] (rOv σ o sc ar) P else wp 116 30 [some (.ref o), some (.int x1), some (.int x2), some (.int x3), u4] [] (rOv σ o sc ar) P)) := by
  refine (wp_s (n := 22) (zcode_of mc_116 (r := (.aload_n 0, 0, 0, 0)) rfl) rfl rfl).trans ?_
  refine (wr_getA (n' := 25) rfl (t := 23) hR (zcode_of mc_116 (r := (.getfield 20, 12, 3, 0)) rfl) rfl rfl).trans ?_
  refine (wp_s (n := 26) (zcode_of mc_116 (r := (.iload_n 1, 0, 0, 0)) rfl) rfl rfl).trans ?_
  refine (wr_ldZ (n' := 27) rfl hR (zcode_of mc_116 (r := (.baload, 0, 0, 0)) rfl) rfl rfl).trans (and_congr Iff.rfl ?_)
  exact wp_jump (off := 6) (t := 33) (zcode_of mc_116 (r := (.ifCond .ne 6, 0, 0, 0)) rfl) rfl rfl (by decide)
theorem b116_30 {σ : zSt} {o : Nat} {sc : Nat → Int32} {ar : Nat → Nat → Int32} {P : Option Value → zSt → Prop} (hR : RShape σ o) {x1 x2 x3 : Int32} {u4 : Option Value} :
    wp 116 30 [some (.ref o), some (.int x1), some (.int x2), some (.int x3), u4] [] (rOv σ o sc ar) P ↔ P (some (.int (-3))) (rOv σ o sc ar) := by
  refine (wp_bp (n' := 32) rfl (zcode_of mc_116 (r := (.bipush (-3), 0, 0, 0)) rfl) cb_m3).trans ?_
  exact wp_retI (zcode_of mc_116 (r := (.ireturn, 0, 0, 0)) rfl) rfl
theorem b116_33 {σ : zSt} {o : Nat} {sc : Nat → Int32} {ar : Nat → Nat → Int32} {P : Option Value → zSt → Prop} (hR : RShape σ o) {x1 x2 x3 : Int32} {u4 : Option Value} :
    wp 116 33 [some (.ref o), some (.int x1), some (.int x2), some (.int x3), u4] [] (rOv σ o sc ar) P ↔ wp 116 36 [some (.ref o), some (.int x1), some (.int x2), some (.int x3), some (.int 1)] [] (rOv σ o sc ar) P := by
  refine (wp_ic (n' := 34) rfl (zcode_of mc_116 (r := (.iconst 1, 0, 0, 0)) rfl) ci_1).trans ?_
  refine (wp_s (n := 36) (zcode_of mc_116 (r := (.istore 4, 0, 0, 0)) rfl) rfl rfl).trans ?_
  exact Iff.rfl
theorem b116_36 {σ : zSt} {o : Nat} {sc : Nat → Int32} {ar : Nat → Nat → Int32} {P : Option Value → zSt → Prop} (hR : RShape σ o) {x1 x2 x3 x4 : Int32} :
    wp 116 36 [some (.ref o), some (.int x1), some (.int x2), some (.int x3), some (.int x4)] [] (rOv σ o sc ar) P ↔ (if (sc 0) ≤ x4 then wp 116 76 [some (.ref o), some (.int x1), some (.int x2), some (.int x3), some (.int x4)] [] (rOv σ o sc ar) P else wp 116 45 [some (.ref o), some (.int x1), some (.int x2), some (.int x3), some (.int x4)] [] (rOv σ o sc ar) P) := by
  refine (wp_s (n := 38) (zcode_of mc_116 (r := (.iload 4, 0, 0, 0)) rfl) rfl rfl).trans ?_
  refine (wp_s (n := 39) (zcode_of mc_116 (r := (.aload_n 0, 0, 0, 0)) rfl) rfl rfl).trans ?_
  refine (wr_getI (n' := 42) rfl hR (zcode_of mc_116 (r := (.getfield 7, 12, 0, 0)) rfl) rfl).trans ?_
  exact wp_jump (off := 34) (t := 76) (zcode_of mc_116 (r := (.if_icmp .ge 34, 0, 0, 0)) rfl) rfl rfl (by decide)
theorem b116_45 {σ : zSt} {o : Nat} {sc : Nat → Int32} {ar : Nat → Nat → Int32} {P : Option Value → zSt → Prop} (hR : RShape σ o) {x1 x2 x3 x4 : Int32} :
    wp 116 45 [some (.ref o), some (.int x1), some (.int x2), some (.int x3), some (.int x4)] [] (rOv σ o sc ar) P ↔ (zIn x4 (rlen 21) ∧ (if ¬ (ar 21 (Int32.toNatClampNeg x4)) = x1 then wp 116 70 [some (.ref o), some (.int x1), some (.int x2), some (.int x3), some (.int x4)] [] (rOv σ o sc ar) P else wp 116 56 [some (.ref o), some (.int x1), some (.int x2), some (.int x3), some (.int x4)] [] (rOv σ o sc ar) P)) := by
  refine (wp_s (n := 46) (zcode_of mc_116 (r := (.aload_n 0, 0, 0, 0)) rfl) rfl rfl).trans ?_
  refine (wr_getA (n' := 49) rfl (t := 21) hR (zcode_of mc_116 (r := (.getfield 13, 12, 1, 0)) rfl) rfl rfl).trans ?_
  refine (wp_s (n := 51) (zcode_of mc_116 (r := (.iload 4, 0, 0, 0)) rfl) rfl rfl).trans ?_
  refine (wr_ld (n' := 52) rfl hR (zcode_of mc_116 (r := (.iaload, 0, 0, 0)) rfl) rfl rfl).trans (and_congr Iff.rfl ?_)
  refine (wp_s (n := 53) (zcode_of mc_116 (r := (.iload_n 1, 0, 0, 0)) rfl) rfl rfl).trans ?_
  exact wp_jump (off := 17) (t := 70) (zcode_of mc_116 (r := (.if_icmp .ne 17, 0, 0, 0)) rfl) rfl rfl (by decide)
theorem b116_56 {σ : zSt} {o : Nat} {sc : Nat → Int32} {ar : Nat → Nat → Int32} {P : Option Value → zSt → Prop} (hR : RShape σ o) {x1 x2 x3 x4 : Int32} :
    wp 116 56 [some (.ref o), some (.int x1), some (.int x2), some (.int x3), some (.int x4)] [] (rOv σ o sc ar) P ↔ (zIn x4 (rlen 22) ∧ (if ¬ (ar 22 (Int32.toNatClampNeg x4)) = x2 then wp 116 70 [some (.ref o), some (.int x1), some (.int x2), some (.int x3), some (.int x4)] [] (rOv σ o sc ar) P else wp 116 67 [some (.ref o), some (.int x1), some (.int x2), some (.int x3), some (.int x4)] [] (rOv σ o sc ar) P)) := by
  refine (wp_s (n := 57) (zcode_of mc_116 (r := (.aload_n 0, 0, 0, 0)) rfl) rfl rfl).trans ?_
  refine (wr_getA (n' := 60) rfl (t := 22) hR (zcode_of mc_116 (r := (.getfield 17, 12, 2, 0)) rfl) rfl rfl).trans ?_
  refine (wp_s (n := 62) (zcode_of mc_116 (r := (.iload 4, 0, 0, 0)) rfl) rfl rfl).trans ?_
  refine (wr_ld (n' := 63) rfl hR (zcode_of mc_116 (r := (.iaload, 0, 0, 0)) rfl) rfl rfl).trans (and_congr Iff.rfl ?_)
  refine (wp_s (n := 64) (zcode_of mc_116 (r := (.iload_n 2, 0, 0, 0)) rfl) rfl rfl).trans ?_
  exact wp_jump (off := 6) (t := 70) (zcode_of mc_116 (r := (.if_icmp .ne 6, 0, 0, 0)) rfl) rfl rfl (by decide)
theorem b116_67 {σ : zSt} {o : Nat} {sc : Nat → Int32} {ar : Nat → Nat → Int32} {P : Option Value → zSt → Prop} (hR : RShape σ o) {x1 x2 x3 x4 : Int32} :
    wp 116 67 [some (.ref o), some (.int x1), some (.int x2), some (.int x3), some (.int x4)] [] (rOv σ o sc ar) P ↔ P (some (.int (-4))) (rOv σ o sc ar) := by
  refine (wp_bp (n' := 69) rfl (zcode_of mc_116 (r := (.bipush (-4), 0, 0, 0)) rfl) cb_m4).trans ?_
  exact wp_retI (zcode_of mc_116 (r := (.ireturn, 0, 0, 0)) rfl) rfl
theorem b116_70 {σ : zSt} {o : Nat} {sc : Nat → Int32} {ar : Nat → Nat → Int32} {P : Option Value → zSt → Prop} (hR : RShape σ o) {x1 x2 x3 x4 : Int32} :
    wp 116 70 [some (.ref o), some (.int x1), some (.int x2), some (.int x3), some (.int x4)] [] (rOv σ o sc ar) P ↔ wp 116 36 [some (.ref o), some (.int x1), some (.int x2), some (.int x3), some (.int (x4 + 1))] [] (rOv σ o sc ar) P := by
  refine (wp_inc (n' := 73) rfl (zcode_of mc_116 (r := (.iinc 4 1, 0, 0, 0)) rfl) rfl rfl ci_1).trans ?_
  exact wp_goto (off := (-37)) (t := 36) (zcode_of mc_116 (r := (.goto (-37), 0, 0, 0)) rfl) (by decide)
theorem b116_76 {σ : zSt} {o : Nat} {sc : Nat → Int32} {ar : Nat → Nat → Int32} {P : Option Value → zSt → Prop} (hR : RShape σ o) {x1 x2 x3 x4 : Int32} :
    wp 116 76 [some (.ref o), some (.int x1), some (.int x2), some (.int x3), some (.int x4)] [] (rOv σ o sc ar) P ↔ (if ¬ (sc 0) = 60 then wp 116 88 [some (.ref o), some (.int x1), some (.int x2), some (.int x3), some (.int x4)] [] (rOv σ o sc ar) P else wp 116 85 [some (.ref o), some (.int x1), some (.int x2), some (.int x3), some (.int x4)] [] (rOv σ o sc ar) P) := by
  refine (wp_s (n := 77) (zcode_of mc_116 (r := (.aload_n 0, 0, 0, 0)) rfl) rfl rfl).trans ?_
  refine (wr_getI (n' := 80) rfl hR (zcode_of mc_116 (r := (.getfield 7, 12, 0, 0)) rfl) rfl).trans ?_
  refine (wp_bp (n' := 82) rfl (zcode_of mc_116 (r := (.bipush 60, 0, 0, 0)) rfl) cb_60).trans ?_
  exact wp_jump (off := 6) (t := 88) (zcode_of mc_116 (r := (.if_icmp .ne 6, 0, 0, 0)) rfl) rfl rfl (by decide)
theorem b116_85 {σ : zSt} {o : Nat} {sc : Nat → Int32} {ar : Nat → Nat → Int32} {P : Option Value → zSt → Prop} (hR : RShape σ o) {x1 x2 x3 x4 : Int32} :
    wp 116 85 [some (.ref o), some (.int x1), some (.int x2), some (.int x3), some (.int x4)] [] (rOv σ o sc ar) P ↔ P (some (.int (-6))) (rOv σ o sc ar) := by
  refine (wp_bp (n' := 87) rfl (zcode_of mc_116 (r := (.bipush (-6), 0, 0, 0)) rfl) cb_m6).trans ?_
  exact wp_retI (zcode_of mc_116 (r := (.ireturn, 0, 0, 0)) rfl) rfl
theorem b116_88 {σ : zSt} {o : Nat} {sc : Nat → Int32} {ar : Nat → Nat → Int32} {P : Option Value → zSt → Prop} (hR : RShape σ o) {x1 x2 x3 x4 : Int32} :
    wp 116 88 [some (.ref o), some (.int x1), some (.int x2), some (.int x3), some (.int x4)] [] (rOv σ o sc ar) P ↔ (zIn (sc 0) (rlen 21) ∧ (zIn (sc 0) (rlen 22) ∧ ((zIn (sc 0) (rlen 23) ∧ ((x3 : Int32) = 0 ∨ (x3 : Int32) = 1)) ∧ (zIn (sc 0) (rlen 24) ∧ wp 116 131 [some (.ref o), some (.int x1), some (.int x2), some (.int x3), some (.int 0)] [] (rOv σ o sc (upA (upA (upA (upA ar 21 (Int32.toNatClampNeg (sc 0)) x1) 22 (Int32.toNatClampNeg (sc 0)) x2) 23 (Int32.toNatClampNeg (sc 0)) x3) 24 (Int32.toNatClampNeg (sc 0)) (-1))) P)))) := by
  refine (wp_s (n := 89) (zcode_of mc_116 (r := (.aload_n 0, 0, 0, 0)) rfl) rfl rfl).trans ?_
  refine (wr_getA (n' := 92) rfl (t := 21) hR (zcode_of mc_116 (r := (.getfield 13, 12, 1, 0)) rfl) rfl rfl).trans ?_
  refine (wp_s (n := 93) (zcode_of mc_116 (r := (.aload_n 0, 0, 0, 0)) rfl) rfl rfl).trans ?_
  refine (wr_getI (n' := 96) rfl hR (zcode_of mc_116 (r := (.getfield 7, 12, 0, 0)) rfl) rfl).trans ?_
  refine (wp_s (n := 97) (zcode_of mc_116 (r := (.iload_n 1, 0, 0, 0)) rfl) rfl rfl).trans ?_
  refine (wr_st (n' := 98) rfl hR (zcode_of mc_116 (r := (.iastore, 0, 0, 0)) rfl) rfl rfl).trans (and_congr Iff.rfl ?_)
  refine (wp_s (n := 99) (zcode_of mc_116 (r := (.aload_n 0, 0, 0, 0)) rfl) rfl rfl).trans ?_
  refine (wr_getA (n' := 102) rfl (t := 22) hR (zcode_of mc_116 (r := (.getfield 17, 12, 2, 0)) rfl) rfl rfl).trans ?_
  refine (wp_s (n := 103) (zcode_of mc_116 (r := (.aload_n 0, 0, 0, 0)) rfl) rfl rfl).trans ?_
  refine (wr_getI (n' := 106) rfl hR (zcode_of mc_116 (r := (.getfield 7, 12, 0, 0)) rfl) rfl).trans ?_
  refine (wp_s (n := 107) (zcode_of mc_116 (r := (.iload_n 2, 0, 0, 0)) rfl) rfl rfl).trans ?_
  refine (wr_st (n' := 108) rfl hR (zcode_of mc_116 (r := (.iastore, 0, 0, 0)) rfl) rfl rfl).trans (and_congr Iff.rfl ?_)
  refine (wp_s (n := 109) (zcode_of mc_116 (r := (.aload_n 0, 0, 0, 0)) rfl) rfl rfl).trans ?_
  refine (wr_getA (n' := 112) rfl (t := 23) hR (zcode_of mc_116 (r := (.getfield 20, 12, 3, 0)) rfl) rfl rfl).trans ?_
  refine (wp_s (n := 113) (zcode_of mc_116 (r := (.aload_n 0, 0, 0, 0)) rfl) rfl rfl).trans ?_
  refine (wr_getI (n' := 116) rfl hR (zcode_of mc_116 (r := (.getfield 7, 12, 0, 0)) rfl) rfl).trans ?_
  refine (wp_s (n := 117) (zcode_of mc_116 (r := (.iload_n 3, 0, 0, 0)) rfl) rfl rfl).trans ?_
  refine (wr_stZ (n' := 118) rfl hR (zcode_of mc_116 (r := (.bastore, 0, 0, 0)) rfl) rfl rfl).trans (and_congr Iff.rfl ?_)
  refine (wp_s (n := 119) (zcode_of mc_116 (r := (.aload_n 0, 0, 0, 0)) rfl) rfl rfl).trans ?_
  refine (wr_getA (n' := 122) rfl (t := 24) hR (zcode_of mc_116 (r := (.getfield 24, 12, 4, 0)) rfl) rfl rfl).trans ?_
  refine (wp_s (n := 123) (zcode_of mc_116 (r := (.aload_n 0, 0, 0, 0)) rfl) rfl rfl).trans ?_
  refine (wr_getI (n' := 126) rfl hR (zcode_of mc_116 (r := (.getfield 7, 12, 0, 0)) rfl) rfl).trans ?_
  refine (wp_ic (n' := 127) rfl (zcode_of mc_116 (r := (.iconst (-1), 0, 0, 0)) rfl) ci_m1).trans ?_
  refine (wr_st (n' := 128) rfl hR (zcode_of mc_116 (r := (.iastore, 0, 0, 0)) rfl) rfl rfl).trans (and_congr Iff.rfl ?_)
  refine (wp_ic (n' := 129) rfl (zcode_of mc_116 (r := (.iconst 0, 0, 0, 0)) rfl) ci_0).trans ?_
  refine (wp_s (n := 131) (zcode_of mc_116 (r := (.istore 4, 0, 0, 0)) rfl) rfl rfl).trans ?_
  exact Iff.rfl
theorem b116_131 {σ : zSt} {o : Nat} {sc : Nat → Int32} {ar : Nat → Nat → Int32} {P : Option Value → zSt → Prop} (hR : RShape σ o) {x1 x2 x3 x4 : Int32} :
    wp 116 131 [some (.ref o), some (.int x1), some (.int x2), some (.int x3), some (.int x4)] [] (rOv σ o sc ar) P ↔ (if 3 ≤ x4 then wp 116 159 [some (.ref o), some (.int x1), some (.int x2), some (.int x3), some (.int x4)] [] (rOv σ o sc ar) P else wp 116 137 [some (.ref o), some (.int x1), some (.int x2), some (.int x3), some (.int x4)] [] (rOv σ o sc ar) P) := by
  refine (wp_s (n := 133) (zcode_of mc_116 (r := (.iload 4, 0, 0, 0)) rfl) rfl rfl).trans ?_
  refine (wp_ic (n' := 134) rfl (zcode_of mc_116 (r := (.iconst 3, 0, 0, 0)) rfl) ci_3).trans ?_
  exact wp_jump (off := 25) (t := 159) (zcode_of mc_116 (r := (.if_icmp .ge 25, 0, 0, 0)) rfl) rfl rfl (by decide)
theorem b116_137 {σ : zSt} {o : Nat} {sc : Nat → Int32} {ar : Nat → Nat → Int32} {P : Option Value → zSt → Prop} (hR : RShape σ o) {x1 x2 x3 x4 : Int32} :
    wp 116 137 [some (.ref o), some (.int x1), some (.int x2), some (.int x3), some (.int x4)] [] (rOv σ o sc ar) P ↔ (zIn ((60 * x4) + (sc 0)) (rlen 25) ∧ wp 116 131 [some (.ref o), some (.int x1), some (.int x2), some (.int x3), some (.int (x4 + 1))] [] (rOv σ o sc (upA ar 25 (Int32.toNatClampNeg ((60 * x4) + (sc 0))) (-1))) P) := by
  refine (wp_s (n := 138) (zcode_of mc_116 (r := (.aload_n 0, 0, 0, 0)) rfl) rfl rfl).trans ?_
  refine (wr_getA (n' := 141) rfl (t := 25) hR (zcode_of mc_116 (r := (.getfield 27, 12, 5, 0)) rfl) rfl rfl).trans ?_
  refine (wp_bp (n' := 143) rfl (zcode_of mc_116 (r := (.bipush 60, 0, 0, 0)) rfl) cb_60).trans ?_
  refine (wp_s (n := 145) (zcode_of mc_116 (r := (.iload 4, 0, 0, 0)) rfl) rfl rfl).trans ?_
  refine (wp_s (n := 146) (zcode_of mc_116 (r := (.imul, 0, 0, 0)) rfl) rfl rfl).trans ?_
  refine (wp_s (n := 147) (zcode_of mc_116 (r := (.aload_n 0, 0, 0, 0)) rfl) rfl rfl).trans ?_
  refine (wr_getI (n' := 150) rfl hR (zcode_of mc_116 (r := (.getfield 7, 12, 0, 0)) rfl) rfl).trans ?_
  refine (wp_s (n := 151) (zcode_of mc_116 (r := (.iadd, 0, 0, 0)) rfl) rfl rfl).trans ?_
  refine (wp_ic (n' := 152) rfl (zcode_of mc_116 (r := (.iconst (-1), 0, 0, 0)) rfl) ci_m1).trans ?_
  refine (wr_st (n' := 153) rfl hR (zcode_of mc_116 (r := (.iastore, 0, 0, 0)) rfl) rfl rfl).trans (and_congr Iff.rfl ?_)
  refine (wp_inc (n' := 156) rfl (zcode_of mc_116 (r := (.iinc 4 1, 0, 0, 0)) rfl) rfl rfl ci_1).trans ?_
  exact wp_goto (off := (-25)) (t := 131) (zcode_of mc_116 (r := (.goto (-25), 0, 0, 0)) rfl) (by decide)
theorem b116_159 {σ : zSt} {o : Nat} {sc : Nat → Int32} {ar : Nat → Nat → Int32} {P : Option Value → zSt → Prop} (hR : RShape σ o) {x1 x2 x3 x4 : Int32} :
    wp 116 159 [some (.ref o), some (.int x1), some (.int x2), some (.int x3), some (.int x4)] [] (rOv σ o sc ar) P ↔ P (some (.int (((upS sc 0 ((sc 0) + 1)) 0) - 1))) (rOv σ o (upS sc 0 ((sc 0) + 1)) ar) := by
  refine (wp_s (n := 160) (zcode_of mc_116 (r := (.aload_n 0, 0, 0, 0)) rfl) rfl rfl).trans ?_
  refine (wp_s (n := 161) (zcode_of mc_116 (r := (.dup, 0, 0, 0)) rfl) rfl rfl).trans ?_
  refine (wr_getI (n' := 164) rfl hR (zcode_of mc_116 (r := (.getfield 7, 12, 0, 0)) rfl) rfl).trans ?_
  refine (wp_ic (n' := 165) rfl (zcode_of mc_116 (r := (.iconst 1, 0, 0, 0)) rfl) ci_1).trans ?_
  refine (wp_s (n := 166) (zcode_of mc_116 (r := (.iadd, 0, 0, 0)) rfl) rfl rfl).trans ?_
  refine (wr_put (n' := 169) rfl hR (zcode_of mc_116 (r := (.putfield 7, 12, 0, 0)) rfl) rfl).trans ?_
  refine (wp_s (n := 170) (zcode_of mc_116 (r := (.aload_n 0, 0, 0, 0)) rfl) rfl rfl).trans ?_
  refine (wr_getI (n' := 173) rfl hR (zcode_of mc_116 (r := (.getfield 7, 12, 0, 0)) rfl) rfl).trans ?_
  refine (wp_ic (n' := 174) rfl (zcode_of mc_116 (r := (.iconst 1, 0, 0, 0)) rfl) ci_1).trans ?_
  refine (wp_s (n := 175) (zcode_of mc_116 (r := (.isub, 0, 0, 0)) rfl) rfl rfl).trans ?_
  exact wp_retI (zcode_of mc_116 (r := (.ireturn, 0, 0, 0)) rfl) rfl
theorem mc_117 : mCode 117 = zc_117 := rfl
theorem b117 {σ : zSt} {o : Nat} {sc : Nat → Int32} {ar : Nat → Nat → Int32} {P : Option Value → zSt → Prop} (hR : RShape σ o) {x1 x2 : Int32} :
    wpM 117 [.ref o, .int x1, .int x2] (rOv σ o sc ar) P ↔ wpM 114 [.ref o, .int x1] (rOv σ o sc ar) (fun r τ => wp 117 5 [some (.ref o), some (.int x1), some (.int x2)] (r.toList ++ []) τ P) := by
  show wp 117 0 [some (.ref o), some (.int x1), some (.int x2)] [] (rOv σ o sc ar) P ↔ _
  refine (wp_s (n := 1) (zcode_of mc_117 (r := (.aload_n 0, 0, 0, 0)) rfl) rfl rfl).trans ?_
  refine (wp_s (n := 2) (zcode_of mc_117 (r := (.iload_n 1, 0, 0, 0)) rfl) rfl rfl).trans ?_
  exact wp_call (q := ([.ref o, .int x1], [])) (zcode_of mc_117 (r := (.invokevirtual 147, 114, 0, 1)) rfl) rfl (zCa_V (Nat.le_of_ble_eq_true rfl) rfl hR.tg) ⟨Nat.le_of_ble_eq_true rfl, Nat.le_of_ble_eq_true rfl⟩
theorem b117_5 {σ : zSt} {o : Nat} {sc : Nat → Int32} {ar : Nat → Nat → Int32} {P : Option Value → zSt → Prop} (hR : RShape σ o) {x1 x2 s0 : Int32} :
    wp 117 5 [some (.ref o), some (.int x1), some (.int x2)] [.int s0] (rOv σ o sc ar) P ↔ (if ¬ s0 = 0 then wp 117 11 [some (.ref o), some (.int x1), some (.int x2)] [] (rOv σ o sc ar) P else wp 117 8 [some (.ref o), some (.int x1), some (.int x2)] [] (rOv σ o sc ar) P) := by
  exact wp_jump (off := 6) (t := 11) (zcode_of mc_117 (r := (.ifCond .ne 6, 0, 0, 0)) rfl) rfl rfl (by decide)
theorem b117_8 {σ : zSt} {o : Nat} {sc : Nat → Int32} {ar : Nat → Nat → Int32} {P : Option Value → zSt → Prop} (hR : RShape σ o) {x1 x2 : Int32} :
    wp 117 8 [some (.ref o), some (.int x1), some (.int x2)] [] (rOv σ o sc ar) P ↔ P (some (.int (-2))) (rOv σ o sc ar) := by
  refine (wp_bp (n' := 10) rfl (zcode_of mc_117 (r := (.bipush (-2), 0, 0, 0)) rfl) cb_m2).trans ?_
  exact wp_retI (zcode_of mc_117 (r := (.ireturn, 0, 0, 0)) rfl) rfl
theorem b117_11 {σ : zSt} {o : Nat} {sc : Nat → Int32} {ar : Nat → Nat → Int32} {P : Option Value → zSt → Prop} (hR : RShape σ o) {x1 x2 : Int32} :
    wp 117 11 [some (.ref o), some (.int x1), some (.int x2)] [] (rOv σ o sc ar) P ↔ (if x2 = 0 then wp 117 44 [some (.ref o), some (.int x1), some (.int x2)] [] (rOv σ o sc ar) P else if x2 = 1 then wp 117 51 [some (.ref o), some (.int x1), some (.int x2)] [] (rOv σ o sc ar) P else if x2 = 2 then wp 117 58 [some (.ref o), some (.int x1), some (.int x2)] [] (rOv σ o sc ar) P else if x2 = 3 then wp 117 73 [some (.ref o), some (.int x1), some (.int x2)] [] (rOv σ o sc ar) P else wp 117 80 [some (.ref o), some (.int x1), some (.int x2)] [] (rOv σ o sc ar) P) := by
  refine (wp_s (n := 12) (zcode_of mc_117 (r := (.iload_n 2, 0, 0, 0)) rfl) rfl rfl).trans ?_
  by_cases h0 : x2 = 0
  · rw [if_pos h0, h0]
    exact wp_swI (zcode_of mc_117 (r := (.tableswitch 68 0 3 #[32, 39, 46, 61], 0, 0, 0)) rfl) (t := 44) (by decide)
  rw [if_neg h0]
  by_cases h1 : x2 = 1
  · rw [if_pos h1, h1]
    exact wp_swI (zcode_of mc_117 (r := (.tableswitch 68 0 3 #[32, 39, 46, 61], 0, 0, 0)) rfl) (t := 51) (by decide)
  rw [if_neg h1]
  by_cases h2 : x2 = 2
  · rw [if_pos h2, h2]
    exact wp_swI (zcode_of mc_117 (r := (.tableswitch 68 0 3 #[32, 39, 46, 61], 0, 0, 0)) rfl) (t := 58) (by decide)
  rw [if_neg h2]
  by_cases h3 : x2 = 3
  · rw [if_pos h3, h3]
    exact wp_swI (zcode_of mc_117 (r := (.tableswitch 68 0 3 #[32, 39, 46, 61], 0, 0, 0)) rfl) (t := 73) (by decide)
  rw [if_neg h3]
  exact wp_swO (zcode_of mc_117 (r := (.tableswitch 68 0 3 #[32, 39, 46, 61], 0, 0, 0)) rfl) (t := 80) (by decide) (zsw_lo (fun k g1 g2 => by
    rcases (show k = 0 ∨ k = 1 ∨ k = 2 ∨ k = 3 by omega) with rfl | rfl | rfl | rfl
    · exact h0
    · exact h1
    · exact h2
    · exact h3) (by decide) (by decide))
theorem b117_44 {σ : zSt} {o : Nat} {sc : Nat → Int32} {ar : Nat → Nat → Int32} {P : Option Value → zSt → Prop} (hR : RShape σ o) {x1 x2 : Int32} :
    wp 117 44 [some (.ref o), some (.int x1), some (.int x2)] [] (rOv σ o sc ar) P ↔ (zIn x1 (rlen 21) ∧ P (some (.int (ar 21 (Int32.toNatClampNeg x1)))) (rOv σ o sc ar)) := by
  refine (wp_s (n := 45) (zcode_of mc_117 (r := (.aload_n 0, 0, 0, 0)) rfl) rfl rfl).trans ?_
  refine (wr_getA (n' := 48) rfl (t := 21) hR (zcode_of mc_117 (r := (.getfield 13, 12, 1, 0)) rfl) rfl rfl).trans ?_
  refine (wp_s (n := 49) (zcode_of mc_117 (r := (.iload_n 1, 0, 0, 0)) rfl) rfl rfl).trans ?_
  refine (wr_ld (n' := 50) rfl hR (zcode_of mc_117 (r := (.iaload, 0, 0, 0)) rfl) rfl rfl).trans (and_congr Iff.rfl ?_)
  exact wp_retI (zcode_of mc_117 (r := (.ireturn, 0, 0, 0)) rfl) rfl
theorem b117_51 {σ : zSt} {o : Nat} {sc : Nat → Int32} {ar : Nat → Nat → Int32} {P : Option Value → zSt → Prop} (hR : RShape σ o) {x1 x2 : Int32} :
    wp 117 51 [some (.ref o), some (.int x1), some (.int x2)] [] (rOv σ o sc ar) P ↔ (zIn x1 (rlen 22) ∧ P (some (.int (ar 22 (Int32.toNatClampNeg x1)))) (rOv σ o sc ar)) := by
  refine (wp_s (n := 52) (zcode_of mc_117 (r := (.aload_n 0, 0, 0, 0)) rfl) rfl rfl).trans ?_
  refine (wr_getA (n' := 55) rfl (t := 22) hR (zcode_of mc_117 (r := (.getfield 17, 12, 2, 0)) rfl) rfl rfl).trans ?_
  refine (wp_s (n := 56) (zcode_of mc_117 (r := (.iload_n 1, 0, 0, 0)) rfl) rfl rfl).trans ?_
  refine (wr_ld (n' := 57) rfl hR (zcode_of mc_117 (r := (.iaload, 0, 0, 0)) rfl) rfl rfl).trans (and_congr Iff.rfl ?_)
  exact wp_retI (zcode_of mc_117 (r := (.ireturn, 0, 0, 0)) rfl) rfl
theorem b117_58 {σ : zSt} {o : Nat} {sc : Nat → Int32} {ar : Nat → Nat → Int32} {P : Option Value → zSt → Prop} (hR : RShape σ o) {x1 x2 : Int32} :
    wp 117 58 [some (.ref o), some (.int x1), some (.int x2)] [] (rOv σ o sc ar) P ↔ (zIn x1 (rlen 23) ∧ (if (ar 23 (Int32.toNatClampNeg x1)) = 0 then wp 117 71 [some (.ref o), some (.int x1), some (.int x2)] [] (rOv σ o sc ar) P else wp 117 67 [some (.ref o), some (.int x1), some (.int x2)] [] (rOv σ o sc ar) P)) := by
  refine (wp_s (n := 59) (zcode_of mc_117 (r := (.aload_n 0, 0, 0, 0)) rfl) rfl rfl).trans ?_
  refine (wr_getA (n' := 62) rfl (t := 23) hR (zcode_of mc_117 (r := (.getfield 20, 12, 3, 0)) rfl) rfl rfl).trans ?_
  refine (wp_s (n := 63) (zcode_of mc_117 (r := (.iload_n 1, 0, 0, 0)) rfl) rfl rfl).trans ?_
  refine (wr_ldZ (n' := 64) rfl hR (zcode_of mc_117 (r := (.baload, 0, 0, 0)) rfl) rfl rfl).trans (and_congr Iff.rfl ?_)
  exact wp_jump (off := 7) (t := 71) (zcode_of mc_117 (r := (.ifCond .eq 7, 0, 0, 0)) rfl) rfl rfl (by decide)
theorem b117_67 {σ : zSt} {o : Nat} {sc : Nat → Int32} {ar : Nat → Nat → Int32} {P : Option Value → zSt → Prop} (hR : RShape σ o) {x1 x2 : Int32} :
    wp 117 67 [some (.ref o), some (.int x1), some (.int x2)] [] (rOv σ o sc ar) P ↔ wp 117 72 [some (.ref o), some (.int x1), some (.int x2)] [.int 1] (rOv σ o sc ar) P := by
  refine (wp_ic (n' := 68) rfl (zcode_of mc_117 (r := (.iconst 1, 0, 0, 0)) rfl) ci_1).trans ?_
  exact wp_goto (off := 4) (t := 72) (zcode_of mc_117 (r := (.goto 4, 0, 0, 0)) rfl) (by decide)
theorem b117_71 {σ : zSt} {o : Nat} {sc : Nat → Int32} {ar : Nat → Nat → Int32} {P : Option Value → zSt → Prop} (hR : RShape σ o) {x1 x2 : Int32} :
    wp 117 71 [some (.ref o), some (.int x1), some (.int x2)] [] (rOv σ o sc ar) P ↔ wp 117 72 [some (.ref o), some (.int x1), some (.int x2)] [.int 0] (rOv σ o sc ar) P := by
  refine (wp_ic (n' := 72) rfl (zcode_of mc_117 (r := (.iconst 0, 0, 0, 0)) rfl) ci_0).trans ?_
  exact Iff.rfl
theorem b117_72 {σ : zSt} {o : Nat} {sc : Nat → Int32} {ar : Nat → Nat → Int32} {P : Option Value → zSt → Prop} (hR : RShape σ o) {x1 x2 s0 : Int32} :
    wp 117 72 [some (.ref o), some (.int x1), some (.int x2)] [.int s0] (rOv σ o sc ar) P ↔ P (some (.int s0)) (rOv σ o sc ar) := by
  exact wp_retI (zcode_of mc_117 (r := (.ireturn, 0, 0, 0)) rfl) rfl
theorem b117_73 {σ : zSt} {o : Nat} {sc : Nat → Int32} {ar : Nat → Nat → Int32} {P : Option Value → zSt → Prop} (hR : RShape σ o) {x1 x2 : Int32} :
    wp 117 73 [some (.ref o), some (.int x1), some (.int x2)] [] (rOv σ o sc ar) P ↔ (zIn x1 (rlen 24) ∧ P (some (.int (ar 24 (Int32.toNatClampNeg x1)))) (rOv σ o sc ar)) := by
  refine (wp_s (n := 74) (zcode_of mc_117 (r := (.aload_n 0, 0, 0, 0)) rfl) rfl rfl).trans ?_
  refine (wr_getA (n' := 77) rfl (t := 24) hR (zcode_of mc_117 (r := (.getfield 24, 12, 4, 0)) rfl) rfl rfl).trans ?_
  refine (wp_s (n := 78) (zcode_of mc_117 (r := (.iload_n 1, 0, 0, 0)) rfl) rfl rfl).trans ?_
  refine (wr_ld (n' := 79) rfl hR (zcode_of mc_117 (r := (.iaload, 0, 0, 0)) rfl) rfl rfl).trans (and_congr Iff.rfl ?_)
  exact wp_retI (zcode_of mc_117 (r := (.ireturn, 0, 0, 0)) rfl) rfl
theorem b117_80 {σ : zSt} {o : Nat} {sc : Nat → Int32} {ar : Nat → Nat → Int32} {P : Option Value → zSt → Prop} (hR : RShape σ o) {x1 x2 : Int32} :
    wp 117 80 [some (.ref o), some (.int x1), some (.int x2)] [] (rOv σ o sc ar) P ↔ P (some (.int (-2))) (rOv σ o sc ar) := by
  refine (wp_bp (n' := 82) rfl (zcode_of mc_117 (r := (.bipush (-2), 0, 0, 0)) rfl) cb_m2).trans ?_
  exact wp_retI (zcode_of mc_117 (r := (.ireturn, 0, 0, 0)) rfl) rfl
theorem mc_118 : mCode 118 = zc_118 := rfl
theorem b118 {σ : zSt} {o : Nat} {sc : Nat → Int32} {ar : Nat → Nat → Int32} {P : Option Value → zSt → Prop} (hR : RShape σ o) {x3 : Int32} {x1 : Int64} :
    wpM 118 [.ref o, .long x1, .int x3] (rOv σ o sc ar) P ↔ wpM 113 [.int x3, .int 1, .int 8] (rOv σ o sc ar) (fun r τ => wp 118 7 [some (.ref o), some (.long x1), none, some (.int x3), none] (r.toList ++ []) τ P) := by
  show wp 118 0 [some (.ref o), some (.long x1), none, some (.int x3), none] [] (rOv σ o sc ar) P ↔ _
  refine (wp_s (n := 1) (zcode_of mc_118 (r := (.iload_n 3, 0, 0, 0)) rfl) rfl rfl).trans ?_
  refine (wp_ic (n' := 2) rfl (zcode_of mc_118 (r := (.iconst 1, 0, 0, 0)) rfl) ci_1).trans ?_
  refine (wp_bp (n' := 4) rfl (zcode_of mc_118 (r := (.bipush 8, 0, 0, 0)) rfl) cb_8).trans ?_
  exact wp_call (q := ([.int x3, .int 1, .int 8], [])) (zcode_of mc_118 (r := (.invokestatic 140, 113, 1, 3)) rfl) rfl rfl ⟨Nat.le_of_ble_eq_true rfl, Nat.le_of_ble_eq_true rfl⟩
theorem b118_7 {σ : zSt} {o : Nat} {sc : Nat → Int32} {ar : Nat → Nat → Int32} {P : Option Value → zSt → Prop} (hR : RShape σ o) {x3 s0 : Int32} {x1 : Int64} {u4 : Option Value} :
    wp 118 7 [some (.ref o), some (.long x1), none, some (.int x3), u4] [.int s0] (rOv σ o sc ar) P ↔ (if ¬ s0 = 0 then wp 118 13 [some (.ref o), some (.long x1), none, some (.int x3), u4] [] (rOv σ o sc ar) P else wp 118 10 [some (.ref o), some (.long x1), none, some (.int x3), u4] [] (rOv σ o sc ar) P) := by
  exact wp_jump (off := 6) (t := 13) (zcode_of mc_118 (r := (.ifCond .ne 6, 0, 0, 0)) rfl) rfl rfl (by decide)
theorem b118_10 {σ : zSt} {o : Nat} {sc : Nat → Int32} {ar : Nat → Nat → Int32} {P : Option Value → zSt → Prop} (hR : RShape σ o) {x3 : Int32} {x1 : Int64} {u4 : Option Value} :
    wp 118 10 [some (.ref o), some (.long x1), none, some (.int x3), u4] [] (rOv σ o sc ar) P ↔ P (some (.int (-2))) (rOv σ o sc ar) := by
  refine (wp_bp (n' := 12) rfl (zcode_of mc_118 (r := (.bipush (-2), 0, 0, 0)) rfl) cb_m2).trans ?_
  exact wp_retI (zcode_of mc_118 (r := (.ireturn, 0, 0, 0)) rfl) rfl
theorem b118_13 {σ : zSt} {o : Nat} {sc : Nat → Int32} {ar : Nat → Nat → Int32} {P : Option Value → zSt → Prop} (hR : RShape σ o) {x3 : Int32} {x1 : Int64} {u4 : Option Value} :
    wp 118 13 [some (.ref o), some (.long x1), none, some (.int x3), u4] [] (rOv σ o sc ar) P ↔ (if ((sc 8) + x3) ≤ 64 then wp 118 27 [some (.ref o), some (.long x1), none, some (.int x3), u4] [] (rOv σ o sc ar) P else wp 118 24 [some (.ref o), some (.long x1), none, some (.int x3), u4] [] (rOv σ o sc ar) P) := by
  refine (wp_s (n := 14) (zcode_of mc_118 (r := (.aload_n 0, 0, 0, 0)) rfl) rfl rfl).trans ?_
  refine (wr_getI (n' := 17) rfl hR (zcode_of mc_118 (r := (.getfield 151, 12, 8, 0)) rfl) rfl).trans ?_
  refine (wp_s (n := 18) (zcode_of mc_118 (r := (.iload_n 3, 0, 0, 0)) rfl) rfl rfl).trans ?_
  refine (wp_s (n := 19) (zcode_of mc_118 (r := (.iadd, 0, 0, 0)) rfl) rfl rfl).trans ?_
  refine (wp_bp (n' := 21) rfl (zcode_of mc_118 (r := (.bipush 64, 0, 0, 0)) rfl) cb_64).trans ?_
  exact wp_jump (off := 6) (t := 27) (zcode_of mc_118 (r := (.if_icmp .le 6, 0, 0, 0)) rfl) rfl rfl (by decide)
theorem b118_24 {σ : zSt} {o : Nat} {sc : Nat → Int32} {ar : Nat → Nat → Int32} {P : Option Value → zSt → Prop} (hR : RShape σ o) {x3 : Int32} {x1 : Int64} {u4 : Option Value} :
    wp 118 24 [some (.ref o), some (.long x1), none, some (.int x3), u4] [] (rOv σ o sc ar) P ↔ P (some (.int (-6))) (rOv σ o sc ar) := by
  refine (wp_bp (n' := 26) rfl (zcode_of mc_118 (r := (.bipush (-6), 0, 0, 0)) rfl) cb_m6).trans ?_
  exact wp_retI (zcode_of mc_118 (r := (.ireturn, 0, 0, 0)) rfl) rfl
theorem b118_27 {σ : zSt} {o : Nat} {sc : Nat → Int32} {ar : Nat → Nat → Int32} {P : Option Value → zSt → Prop} (hR : RShape σ o) {x3 : Int32} {x1 : Int64} {u4 : Option Value} :
    wp 118 27 [some (.ref o), some (.long x1), none, some (.int x3), u4] [] (rOv σ o sc ar) P ↔ wp 118 32 [some (.ref o), some (.long x1), none, some (.int x3), some (.int (x3 - 1))] [] (rOv σ o sc ar) P := by
  refine (wp_s (n := 28) (zcode_of mc_118 (r := (.iload_n 3, 0, 0, 0)) rfl) rfl rfl).trans ?_
  refine (wp_ic (n' := 29) rfl (zcode_of mc_118 (r := (.iconst 1, 0, 0, 0)) rfl) ci_1).trans ?_
  refine (wp_s (n := 30) (zcode_of mc_118 (r := (.isub, 0, 0, 0)) rfl) rfl rfl).trans ?_
  refine (wp_s (n := 32) (zcode_of mc_118 (r := (.istore 4, 0, 0, 0)) rfl) rfl rfl).trans ?_
  exact Iff.rfl
theorem b118_32 {σ : zSt} {o : Nat} {sc : Nat → Int32} {ar : Nat → Nat → Int32} {P : Option Value → zSt → Prop} (hR : RShape σ o) {x3 x4 : Int32} {x1 : Int64} :
    wp 118 32 [some (.ref o), some (.long x1), none, some (.int x3), some (.int x4)] [] (rOv σ o sc ar) P ↔ (if x4 < 0 then wp 118 74 [some (.ref o), some (.long x1), none, some (.int x3), some (.int x4)] [] (rOv σ o sc ar) P else wp 118 37 [some (.ref o), some (.long x1), none, some (.int x3), some (.int x4)] [] (rOv σ o sc ar) P) := by
  refine (wp_s (n := 34) (zcode_of mc_118 (r := (.iload 4, 0, 0, 0)) rfl) rfl rfl).trans ?_
  exact wp_jump (off := 40) (t := 74) (zcode_of mc_118 (r := (.ifCond .lt 40, 0, 0, 0)) rfl) rfl rfl (by decide)
theorem b118_37 {σ : zSt} {o : Nat} {sc : Nat → Int32} {ar : Nat → Nat → Int32} {P : Option Value → zSt → Prop} (hR : RShape σ o) {x3 x4 : Int32} {x1 : Int64} :
    wp 118 37 [some (.ref o), some (.long x1), none, some (.int x3), some (.int x4)] [] (rOv σ o sc ar) P ↔ (zIn (sc 8) (rlen 27) ∧ wp 118 32 [some (.ref o), some (.long x1), none, some (.int x3), some (.int (x4 + (-1)))] [] (rOv σ o (upS sc 8 ((sc 8) + 1)) (upA ar 27 (Int32.toNatClampNeg (sc 8)) (Int64.toInt32 ((x1 >>> (Int32.toInt64 (8 * x4) &&& 63)) &&& 255)))) P) := by
  refine (wp_s (n := 38) (zcode_of mc_118 (r := (.aload_n 0, 0, 0, 0)) rfl) rfl rfl).trans ?_
  refine (wr_getA (n' := 41) rfl (t := 27) hR (zcode_of mc_118 (r := (.getfield 33, 12, 7, 0)) rfl) rfl rfl).trans ?_
  refine (wp_s (n := 42) (zcode_of mc_118 (r := (.aload_n 0, 0, 0, 0)) rfl) rfl rfl).trans ?_
  refine (wr_getI (n' := 45) rfl hR (zcode_of mc_118 (r := (.getfield 151, 12, 8, 0)) rfl) rfl).trans ?_
  refine (wp_s (n := 46) (zcode_of mc_118 (r := (.lload_n 1, 0, 0, 0)) rfl) rfl rfl).trans ?_
  refine (wp_bp (n' := 48) rfl (zcode_of mc_118 (r := (.bipush 8, 0, 0, 0)) rfl) cb_8).trans ?_
  refine (wp_s (n := 50) (zcode_of mc_118 (r := (.iload 4, 0, 0, 0)) rfl) rfl rfl).trans ?_
  refine (wp_s (n := 51) (zcode_of mc_118 (r := (.imul, 0, 0, 0)) rfl) rfl rfl).trans ?_
  refine (wp_s (n := 52) (zcode_of mc_118 (r := (.lshr, 0, 0, 0)) rfl) rfl rfl).trans ?_
  refine (wp_ldc2 (n' := 55) rfl (zcode_of mc_118 (r := (.ldc2_w 154, 0, 0, 255)) rfl) cl_255).trans ?_
  refine (wp_s (n := 56) (zcode_of mc_118 (r := (.land, 0, 0, 0)) rfl) rfl rfl).trans ?_
  refine (wp_s (n := 57) (zcode_of mc_118 (r := (.l2i, 0, 0, 0)) rfl) rfl rfl).trans ?_
  refine (wr_st (n' := 58) rfl hR (zcode_of mc_118 (r := (.iastore, 0, 0, 0)) rfl) rfl rfl).trans (and_congr Iff.rfl ?_)
  refine (wp_s (n := 59) (zcode_of mc_118 (r := (.aload_n 0, 0, 0, 0)) rfl) rfl rfl).trans ?_
  refine (wp_s (n := 60) (zcode_of mc_118 (r := (.dup, 0, 0, 0)) rfl) rfl rfl).trans ?_
  refine (wr_getI (n' := 63) rfl hR (zcode_of mc_118 (r := (.getfield 151, 12, 8, 0)) rfl) rfl).trans ?_
  refine (wp_ic (n' := 64) rfl (zcode_of mc_118 (r := (.iconst 1, 0, 0, 0)) rfl) ci_1).trans ?_
  refine (wp_s (n := 65) (zcode_of mc_118 (r := (.iadd, 0, 0, 0)) rfl) rfl rfl).trans ?_
  refine (wr_put (n' := 68) rfl hR (zcode_of mc_118 (r := (.putfield 151, 12, 8, 0)) rfl) rfl).trans ?_
  refine (wp_inc (n' := 71) rfl (zcode_of mc_118 (r := (.iinc 4 (-1), 0, 0, 0)) rfl) rfl rfl ci_m1).trans ?_
  exact wp_goto (off := (-39)) (t := 32) (zcode_of mc_118 (r := (.goto (-39), 0, 0, 0)) rfl) (by decide)
theorem b118_74 {σ : zSt} {o : Nat} {sc : Nat → Int32} {ar : Nat → Nat → Int32} {P : Option Value → zSt → Prop} (hR : RShape σ o) {x3 x4 : Int32} {x1 : Int64} :
    wp 118 74 [some (.ref o), some (.long x1), none, some (.int x3), some (.int x4)] [] (rOv σ o sc ar) P ↔ P (some (.int (sc 8))) (rOv σ o sc ar) := by
  refine (wp_s (n := 75) (zcode_of mc_118 (r := (.aload_n 0, 0, 0, 0)) rfl) rfl rfl).trans ?_
  refine (wr_getI (n' := 78) rfl hR (zcode_of mc_118 (r := (.getfield 151, 12, 8, 0)) rfl) rfl).trans ?_
  exact wp_retI (zcode_of mc_118 (r := (.ireturn, 0, 0, 0)) rfl) rfl
theorem mc_119 : mCode 119 = zc_119 := rfl
theorem b119 {σ : zSt} {o : Nat} {sc : Nat → Int32} {ar : Nat → Nat → Int32} {P : Option Value → zSt → Prop} (hR : RShape σ o) {x1 x2 : Int32} :
    wpM 119 [.ref o, .int x1, .int x2] (rOv σ o sc ar) P ↔ wpM 113 [.int x1, .int 0, .int 1] (rOv σ o sc ar) (fun r τ => wp 119 6 [some (.ref o), some (.int x1), some (.int x2)] (r.toList ++ []) τ P) := by
  show wp 119 0 [some (.ref o), some (.int x1), some (.int x2)] [] (rOv σ o sc ar) P ↔ _
  refine (wp_s (n := 1) (zcode_of mc_119 (r := (.iload_n 1, 0, 0, 0)) rfl) rfl rfl).trans ?_
  refine (wp_ic (n' := 2) rfl (zcode_of mc_119 (r := (.iconst 0, 0, 0, 0)) rfl) ci_0).trans ?_
  refine (wp_ic (n' := 3) rfl (zcode_of mc_119 (r := (.iconst 1, 0, 0, 0)) rfl) ci_1).trans ?_
  exact wp_call (q := ([.int x1, .int 0, .int 1], [])) (zcode_of mc_119 (r := (.invokestatic 140, 113, 1, 3)) rfl) rfl rfl ⟨Nat.le_of_ble_eq_true rfl, Nat.le_of_ble_eq_true rfl⟩
theorem b119_6 {σ : zSt} {o : Nat} {sc : Nat → Int32} {ar : Nat → Nat → Int32} {P : Option Value → zSt → Prop} (hR : RShape σ o) {x1 x2 s0 : Int32} :
    wp 119 6 [some (.ref o), some (.int x1), some (.int x2)] [.int s0] (rOv σ o sc ar) P ↔ (if s0 = 0 then wp 119 17 [some (.ref o), some (.int x1), some (.int x2)] [] (rOv σ o sc ar) P else wp 119 9 [some (.ref o), some (.int x1), some (.int x2)] [] (rOv σ o sc ar) P) := by
  exact wp_jump (off := 11) (t := 17) (zcode_of mc_119 (r := (.ifCond .eq 11, 0, 0, 0)) rfl) rfl rfl (by decide)
theorem b119_9 {σ : zSt} {o : Nat} {sc : Nat → Int32} {ar : Nat → Nat → Int32} {P : Option Value → zSt → Prop} (hR : RShape σ o) {x1 x2 : Int32} :
    wp 119 9 [some (.ref o), some (.int x1), some (.int x2)] [] (rOv σ o sc ar) P ↔ wpM 114 [.ref o, .int x2] (rOv σ o sc ar) (fun r τ => wp 119 14 [some (.ref o), some (.int x1), some (.int x2)] (r.toList ++ []) τ P) := by
  refine (wp_s (n := 10) (zcode_of mc_119 (r := (.aload_n 0, 0, 0, 0)) rfl) rfl rfl).trans ?_
  refine (wp_s (n := 11) (zcode_of mc_119 (r := (.iload_n 2, 0, 0, 0)) rfl) rfl rfl).trans ?_
  exact wp_call (q := ([.ref o, .int x2], [])) (zcode_of mc_119 (r := (.invokevirtual 147, 114, 0, 1)) rfl) rfl (zCa_V (Nat.le_of_ble_eq_true rfl) rfl hR.tg) ⟨Nat.le_of_ble_eq_true rfl, Nat.le_of_ble_eq_true rfl⟩
theorem b119_14 {σ : zSt} {o : Nat} {sc : Nat → Int32} {ar : Nat → Nat → Int32} {P : Option Value → zSt → Prop} (hR : RShape σ o) {x1 x2 s0 : Int32} :
    wp 119 14 [some (.ref o), some (.int x1), some (.int x2)] [.int s0] (rOv σ o sc ar) P ↔ (if ¬ s0 = 0 then wp 119 21 [some (.ref o), some (.int x1), some (.int x2)] [] (rOv σ o sc ar) P else wp 119 17 [some (.ref o), some (.int x1), some (.int x2)] [] (rOv σ o sc ar) P) := by
  exact wp_jump (off := 7) (t := 21) (zcode_of mc_119 (r := (.ifCond .ne 7, 0, 0, 0)) rfl) rfl rfl (by decide)
theorem b119_17 {σ : zSt} {o : Nat} {sc : Nat → Int32} {ar : Nat → Nat → Int32} {P : Option Value → zSt → Prop} (hR : RShape σ o) {x1 x2 : Int32} :
    wp 119 17 [some (.ref o), some (.int x1), some (.int x2)] [] (rOv σ o sc ar) P ↔ wp 119 22 [some (.ref o), some (.int x1), some (.int x2)] [.int 1] (rOv σ o sc ar) P := by
  refine (wp_ic (n' := 18) rfl (zcode_of mc_119 (r := (.iconst 1, 0, 0, 0)) rfl) ci_1).trans ?_
  exact wp_goto (off := 4) (t := 22) (zcode_of mc_119 (r := (.goto 4, 0, 0, 0)) rfl) (by decide)
theorem b119_21 {σ : zSt} {o : Nat} {sc : Nat → Int32} {ar : Nat → Nat → Int32} {P : Option Value → zSt → Prop} (hR : RShape σ o) {x1 x2 : Int32} :
    wp 119 21 [some (.ref o), some (.int x1), some (.int x2)] [] (rOv σ o sc ar) P ↔ wp 119 22 [some (.ref o), some (.int x1), some (.int x2)] [.int 0] (rOv σ o sc ar) P := by
  refine (wp_ic (n' := 22) rfl (zcode_of mc_119 (r := (.iconst 0, 0, 0, 0)) rfl) ci_0).trans ?_
  exact Iff.rfl
theorem b119_22 {σ : zSt} {o : Nat} {sc : Nat → Int32} {ar : Nat → Nat → Int32} {P : Option Value → zSt → Prop} (hR : RShape σ o) {x1 x2 s0 : Int32} :
    wp 119 22 [some (.ref o), some (.int x1), some (.int x2)] [.int s0] (rOv σ o sc ar) P ↔ ((s0 = 0 ∨ s0 = 1) ∧ P (some (.int s0)) (rOv σ o sc ar)) := by
  exact wp_retZ (zcode_of mc_119 (r := (.ireturn, 0, 0, 0)) rfl) rfl
theorem mc_120 : mCode 120 = zc_120 := rfl
theorem b120 {σ : zSt} {o : Nat} {sc : Nat → Int32} {ar : Nat → Nat → Int32} {P : Option Value → zSt → Prop} (hR : RShape σ o) {x1 : Int32} :
    wpM 120 [.ref o, .int x1] (rOv σ o sc ar) P ↔ (zIn x1 (rlen 23) ∧ (if ¬ (ar 23 (Int32.toNatClampNeg x1)) = 0 then wp 120 23 [some (.ref o), some (.int x1)] [] (rOv σ o sc ar) P else wp 120 9 [some (.ref o), some (.int x1)] [] (rOv σ o sc ar) P)) := by
  show wp 120 0 [some (.ref o), some (.int x1)] [] (rOv σ o sc ar) P ↔ _
  refine (wp_s (n := 1) (zcode_of mc_120 (r := (.aload_n 0, 0, 0, 0)) rfl) rfl rfl).trans ?_
  refine (wr_getA (n' := 4) rfl (t := 23) hR (zcode_of mc_120 (r := (.getfield 20, 12, 3, 0)) rfl) rfl rfl).trans ?_
  refine (wp_s (n := 5) (zcode_of mc_120 (r := (.iload_n 1, 0, 0, 0)) rfl) rfl rfl).trans ?_
  refine (wr_ldZ (n' := 6) rfl hR (zcode_of mc_120 (r := (.baload, 0, 0, 0)) rfl) rfl rfl).trans (and_congr Iff.rfl ?_)
  exact wp_jump (off := 17) (t := 23) (zcode_of mc_120 (r := (.ifCond .ne 17, 0, 0, 0)) rfl) rfl rfl (by decide)
theorem b120_9 {σ : zSt} {o : Nat} {sc : Nat → Int32} {ar : Nat → Nat → Int32} {P : Option Value → zSt → Prop} (hR : RShape σ o) {x1 : Int32} :
    wp 120 9 [some (.ref o), some (.int x1)] [] (rOv σ o sc ar) P ↔ (zIn x1 (rlen 24) ∧ (if ¬ (ar 24 (Int32.toNatClampNeg x1)) = (-1) then wp 120 23 [some (.ref o), some (.int x1)] [] (rOv σ o sc ar) P else wp 120 19 [some (.ref o), some (.int x1)] [] (rOv σ o sc ar) P)) := by
  refine (wp_s (n := 10) (zcode_of mc_120 (r := (.aload_n 0, 0, 0, 0)) rfl) rfl rfl).trans ?_
  refine (wr_getA (n' := 13) rfl (t := 24) hR (zcode_of mc_120 (r := (.getfield 24, 12, 4, 0)) rfl) rfl rfl).trans ?_
  refine (wp_s (n := 14) (zcode_of mc_120 (r := (.iload_n 1, 0, 0, 0)) rfl) rfl rfl).trans ?_
  refine (wr_ld (n' := 15) rfl hR (zcode_of mc_120 (r := (.iaload, 0, 0, 0)) rfl) rfl rfl).trans (and_congr Iff.rfl ?_)
  refine (wp_ic (n' := 16) rfl (zcode_of mc_120 (r := (.iconst (-1), 0, 0, 0)) rfl) ci_m1).trans ?_
  exact wp_jump (off := 7) (t := 23) (zcode_of mc_120 (r := (.if_icmp .ne 7, 0, 0, 0)) rfl) rfl rfl (by decide)
theorem b120_19 {σ : zSt} {o : Nat} {sc : Nat → Int32} {ar : Nat → Nat → Int32} {P : Option Value → zSt → Prop} (hR : RShape σ o) {x1 : Int32} :
    wp 120 19 [some (.ref o), some (.int x1)] [] (rOv σ o sc ar) P ↔ wp 120 24 [some (.ref o), some (.int x1)] [.int 1] (rOv σ o sc ar) P := by
  refine (wp_ic (n' := 20) rfl (zcode_of mc_120 (r := (.iconst 1, 0, 0, 0)) rfl) ci_1).trans ?_
  exact wp_goto (off := 4) (t := 24) (zcode_of mc_120 (r := (.goto 4, 0, 0, 0)) rfl) (by decide)
theorem b120_23 {σ : zSt} {o : Nat} {sc : Nat → Int32} {ar : Nat → Nat → Int32} {P : Option Value → zSt → Prop} (hR : RShape σ o) {x1 : Int32} :
    wp 120 23 [some (.ref o), some (.int x1)] [] (rOv σ o sc ar) P ↔ wp 120 24 [some (.ref o), some (.int x1)] [.int 0] (rOv σ o sc ar) P := by
  refine (wp_ic (n' := 24) rfl (zcode_of mc_120 (r := (.iconst 0, 0, 0, 0)) rfl) ci_0).trans ?_
  exact Iff.rfl
theorem b120_24 {σ : zSt} {o : Nat} {sc : Nat → Int32} {ar : Nat → Nat → Int32} {P : Option Value → zSt → Prop} (hR : RShape σ o) {x1 s0 : Int32} :
    wp 120 24 [some (.ref o), some (.int x1)] [.int s0] (rOv σ o sc ar) P ↔ ((s0 = 0 ∨ s0 = 1) ∧ P (some (.int s0)) (rOv σ o sc ar)) := by
  exact wp_retZ (zcode_of mc_120 (r := (.ireturn, 0, 0, 0)) rfl) rfl
theorem mc_121 : mCode 121 = zc_121 := rfl
theorem b121 {σ : zSt} {o : Nat} {sc : Nat → Int32} {ar : Nat → Nat → Int32} {P : Option Value → zSt → Prop} (hR : RShape σ o) {x1 x2 : Int32} :
    wpM 121 [.ref o, .int x1, .int x2] (rOv σ o sc ar) P ↔ wpM 119 [.ref o, .int x1, .int x2] (rOv σ o sc ar) (fun r τ => wp 121 6 [some (.ref o), some (.int x1), some (.int x2), none, none] (r.toList ++ []) τ P) := by
  show wp 121 0 [some (.ref o), some (.int x1), some (.int x2), none, none] [] (rOv σ o sc ar) P ↔ _
  refine (wp_s (n := 1) (zcode_of mc_121 (r := (.aload_n 0, 0, 0, 0)) rfl) rfl rfl).trans ?_
  refine (wp_s (n := 2) (zcode_of mc_121 (r := (.iload_n 1, 0, 0, 0)) rfl) rfl rfl).trans ?_
  refine (wp_s (n := 3) (zcode_of mc_121 (r := (.iload_n 2, 0, 0, 0)) rfl) rfl rfl).trans ?_
  exact wp_call (q := ([.ref o, .int x1, .int x2], [])) (zcode_of mc_121 (r := (.invokevirtual 156, 119, 0, 2)) rfl) rfl (zCa_V (Nat.le_of_ble_eq_true rfl) rfl hR.tg) ⟨Nat.le_of_ble_eq_true rfl, Nat.le_of_ble_eq_true rfl⟩
theorem b121_6 {σ : zSt} {o : Nat} {sc : Nat → Int32} {ar : Nat → Nat → Int32} {P : Option Value → zSt → Prop} (hR : RShape σ o) {x1 x2 s0 : Int32} {u3 u4 : Option Value} :
    wp 121 6 [some (.ref o), some (.int x1), some (.int x2), u3, u4] [.int s0] (rOv σ o sc ar) P ↔ (if s0 = 0 then wp 121 12 [some (.ref o), some (.int x1), some (.int x2), u3, u4] [] (rOv σ o sc ar) P else wp 121 9 [some (.ref o), some (.int x1), some (.int x2), u3, u4] [] (rOv σ o sc ar) P) := by
  exact wp_jump (off := 6) (t := 12) (zcode_of mc_121 (r := (.ifCond .eq 6, 0, 0, 0)) rfl) rfl rfl (by decide)
theorem b121_9 {σ : zSt} {o : Nat} {sc : Nat → Int32} {ar : Nat → Nat → Int32} {P : Option Value → zSt → Prop} (hR : RShape σ o) {x1 x2 : Int32} {u3 u4 : Option Value} :
    wp 121 9 [some (.ref o), some (.int x1), some (.int x2), u3, u4] [] (rOv σ o sc ar) P ↔ P (some (.int (-2))) (rOv σ o sc ar) := by
  refine (wp_bp (n' := 11) rfl (zcode_of mc_121 (r := (.bipush (-2), 0, 0, 0)) rfl) cb_m2).trans ?_
  exact wp_retI (zcode_of mc_121 (r := (.ireturn, 0, 0, 0)) rfl) rfl
theorem b121_12 {σ : zSt} {o : Nat} {sc : Nat → Int32} {ar : Nat → Nat → Int32} {P : Option Value → zSt → Prop} (hR : RShape σ o) {x1 x2 : Int32} {u3 u4 : Option Value} :
    wp 121 12 [some (.ref o), some (.int x1), some (.int x2), u3, u4] [] (rOv σ o sc ar) P ↔ wpM 120 [.ref o, .int x2] (rOv σ o sc ar) (fun r τ => wp 121 17 [some (.ref o), some (.int x1), some (.int x2), u3, u4] (r.toList ++ []) τ P) := by
  refine (wp_s (n := 13) (zcode_of mc_121 (r := (.aload_n 0, 0, 0, 0)) rfl) rfl rfl).trans ?_
  refine (wp_s (n := 14) (zcode_of mc_121 (r := (.iload_n 2, 0, 0, 0)) rfl) rfl rfl).trans ?_
  exact wp_call (q := ([.ref o, .int x2], [])) (zcode_of mc_121 (r := (.invokevirtual 160, 120, 0, 1)) rfl) rfl (zCa_V (Nat.le_of_ble_eq_true rfl) rfl hR.tg) ⟨Nat.le_of_ble_eq_true rfl, Nat.le_of_ble_eq_true rfl⟩
theorem b121_17 {σ : zSt} {o : Nat} {sc : Nat → Int32} {ar : Nat → Nat → Int32} {P : Option Value → zSt → Prop} (hR : RShape σ o) {x1 x2 s0 : Int32} {u3 u4 : Option Value} :
    wp 121 17 [some (.ref o), some (.int x1), some (.int x2), u3, u4] [.int s0] (rOv σ o sc ar) P ↔ (if ¬ s0 = 0 then wp 121 23 [some (.ref o), some (.int x1), some (.int x2), u3, u4] [] (rOv σ o sc ar) P else wp 121 20 [some (.ref o), some (.int x1), some (.int x2), u3, u4] [] (rOv σ o sc ar) P) := by
  exact wp_jump (off := 6) (t := 23) (zcode_of mc_121 (r := (.ifCond .ne 6, 0, 0, 0)) rfl) rfl rfl (by decide)
theorem b121_20 {σ : zSt} {o : Nat} {sc : Nat → Int32} {ar : Nat → Nat → Int32} {P : Option Value → zSt → Prop} (hR : RShape σ o) {x1 x2 : Int32} {u3 u4 : Option Value} :
    wp 121 20 [some (.ref o), some (.int x1), some (.int x2), u3, u4] [] (rOv σ o sc ar) P ↔ P (some (.int (-3))) (rOv σ o sc ar) := by
  refine (wp_bp (n' := 22) rfl (zcode_of mc_121 (r := (.bipush (-3), 0, 0, 0)) rfl) cb_m3).trans ?_
  exact wp_retI (zcode_of mc_121 (r := (.ireturn, 0, 0, 0)) rfl) rfl
theorem b121_23 {σ : zSt} {o : Nat} {sc : Nat → Int32} {ar : Nat → Nat → Int32} {P : Option Value → zSt → Prop} (hR : RShape σ o) {x1 x2 : Int32} {u3 u4 : Option Value} :
    wp 121 23 [some (.ref o), some (.int x1), some (.int x2), u3, u4] [] (rOv σ o sc ar) P ↔ wp 121 33 [some (.ref o), some (.int x1), some (.int x2), some (.int ((60 * x1) + x2)), some (.int 0)] [] (rOv σ o sc ar) P := by
  refine (wp_bp (n' := 25) rfl (zcode_of mc_121 (r := (.bipush 60, 0, 0, 0)) rfl) cb_60).trans ?_
  refine (wp_s (n := 26) (zcode_of mc_121 (r := (.iload_n 1, 0, 0, 0)) rfl) rfl rfl).trans ?_
  refine (wp_s (n := 27) (zcode_of mc_121 (r := (.imul, 0, 0, 0)) rfl) rfl rfl).trans ?_
  refine (wp_s (n := 28) (zcode_of mc_121 (r := (.iload_n 2, 0, 0, 0)) rfl) rfl rfl).trans ?_
  refine (wp_s (n := 29) (zcode_of mc_121 (r := (.iadd, 0, 0, 0)) rfl) rfl rfl).trans ?_
  refine (wp_s (n := 30) (zcode_of mc_121 (r := (.istore_n 3, 0, 0, 0)) rfl) rfl rfl).trans ?_
  refine (wp_ic (n' := 31) rfl (zcode_of mc_121 (r := (.iconst 0, 0, 0, 0)) rfl) ci_0).trans ?_
  refine (wp_s (n := 33) (zcode_of mc_121 (r := (.istore 4, 0, 0, 0)) rfl) rfl rfl).trans ?_
  exact Iff.rfl
theorem b121_33 {σ : zSt} {o : Nat} {sc : Nat → Int32} {ar : Nat → Nat → Int32} {P : Option Value → zSt → Prop} (hR : RShape σ o) {x1 x2 x3 x4 : Int32} :
    wp 121 33 [some (.ref o), some (.int x1), some (.int x2), some (.int x3), some (.int x4)] [] (rOv σ o sc ar) P ↔ (if (sc 8) ≤ x4 then wp 121 67 [some (.ref o), some (.int x1), some (.int x2), some (.int x3), some (.int x4)] [] (rOv σ o sc ar) P else wp 121 42 [some (.ref o), some (.int x1), some (.int x2), some (.int x3), some (.int x4)] [] (rOv σ o sc ar) P) := by
  refine (wp_s (n := 35) (zcode_of mc_121 (r := (.iload 4, 0, 0, 0)) rfl) rfl rfl).trans ?_
  refine (wp_s (n := 36) (zcode_of mc_121 (r := (.aload_n 0, 0, 0, 0)) rfl) rfl rfl).trans ?_
  refine (wr_getI (n' := 39) rfl hR (zcode_of mc_121 (r := (.getfield 151, 12, 8, 0)) rfl) rfl).trans ?_
  exact wp_jump (off := 28) (t := 67) (zcode_of mc_121 (r := (.if_icmp .ge 28, 0, 0, 0)) rfl) rfl rfl (by decide)
theorem b121_42 {σ : zSt} {o : Nat} {sc : Nat → Int32} {ar : Nat → Nat → Int32} {P : Option Value → zSt → Prop} (hR : RShape σ o) {x1 x2 x3 x4 : Int32} :
    wp 121 42 [some (.ref o), some (.int x1), some (.int x2), some (.int x3), some (.int x4)] [] (rOv σ o sc ar) P ↔ (zIn x4 (rlen 27) ∧ (zIn ((64 * x3) + x4) (rlen 26) ∧ wp 121 33 [some (.ref o), some (.int x1), some (.int x2), some (.int x3), some (.int (x4 + 1))] [] (rOv σ o sc (upA ar 26 (Int32.toNatClampNeg ((64 * x3) + x4)) (ar 27 (Int32.toNatClampNeg x4)))) P)) := by
  refine (wp_s (n := 43) (zcode_of mc_121 (r := (.aload_n 0, 0, 0, 0)) rfl) rfl rfl).trans ?_
  refine (wr_getA (n' := 46) rfl (t := 26) hR (zcode_of mc_121 (r := (.getfield 30, 12, 6, 0)) rfl) rfl rfl).trans ?_
  refine (wp_bp (n' := 48) rfl (zcode_of mc_121 (r := (.bipush 64, 0, 0, 0)) rfl) cb_64).trans ?_
  refine (wp_s (n := 49) (zcode_of mc_121 (r := (.iload_n 3, 0, 0, 0)) rfl) rfl rfl).trans ?_
  refine (wp_s (n := 50) (zcode_of mc_121 (r := (.imul, 0, 0, 0)) rfl) rfl rfl).trans ?_
  refine (wp_s (n := 52) (zcode_of mc_121 (r := (.iload 4, 0, 0, 0)) rfl) rfl rfl).trans ?_
  refine (wp_s (n := 53) (zcode_of mc_121 (r := (.iadd, 0, 0, 0)) rfl) rfl rfl).trans ?_
  refine (wp_s (n := 54) (zcode_of mc_121 (r := (.aload_n 0, 0, 0, 0)) rfl) rfl rfl).trans ?_
  refine (wr_getA (n' := 57) rfl (t := 27) hR (zcode_of mc_121 (r := (.getfield 33, 12, 7, 0)) rfl) rfl rfl).trans ?_
  refine (wp_s (n := 59) (zcode_of mc_121 (r := (.iload 4, 0, 0, 0)) rfl) rfl rfl).trans ?_
  refine (wr_ld (n' := 60) rfl hR (zcode_of mc_121 (r := (.iaload, 0, 0, 0)) rfl) rfl rfl).trans (and_congr Iff.rfl ?_)
  refine (wr_st (n' := 61) rfl hR (zcode_of mc_121 (r := (.iastore, 0, 0, 0)) rfl) rfl rfl).trans (and_congr Iff.rfl ?_)
  refine (wp_inc (n' := 64) rfl (zcode_of mc_121 (r := (.iinc 4 1, 0, 0, 0)) rfl) rfl rfl ci_1).trans ?_
  exact wp_goto (off := (-31)) (t := 33) (zcode_of mc_121 (r := (.goto (-31), 0, 0, 0)) rfl) (by decide)
theorem b121_67 {σ : zSt} {o : Nat} {sc : Nat → Int32} {ar : Nat → Nat → Int32} {P : Option Value → zSt → Prop} (hR : RShape σ o) {x1 x2 x3 x4 : Int32} :
    wp 121 67 [some (.ref o), some (.int x1), some (.int x2), some (.int x3), some (.int x4)] [] (rOv σ o sc ar) P ↔ (zIn x3 (rlen 25) ∧ (zIn x3 (rlen 25) ∧ P (some (.int ((upA ar 25 (Int32.toNatClampNeg x3) (sc 8)) 25 (Int32.toNatClampNeg x3)))) (rOv σ o (upS sc 8 0) (upA ar 25 (Int32.toNatClampNeg x3) (sc 8))))) := by
  refine (wp_s (n := 68) (zcode_of mc_121 (r := (.aload_n 0, 0, 0, 0)) rfl) rfl rfl).trans ?_
  refine (wr_getA (n' := 71) rfl (t := 25) hR (zcode_of mc_121 (r := (.getfield 27, 12, 5, 0)) rfl) rfl rfl).trans ?_
  refine (wp_s (n := 72) (zcode_of mc_121 (r := (.iload_n 3, 0, 0, 0)) rfl) rfl rfl).trans ?_
  refine (wp_s (n := 73) (zcode_of mc_121 (r := (.aload_n 0, 0, 0, 0)) rfl) rfl rfl).trans ?_
  refine (wr_getI (n' := 76) rfl hR (zcode_of mc_121 (r := (.getfield 151, 12, 8, 0)) rfl) rfl).trans ?_
  refine (wr_st (n' := 77) rfl hR (zcode_of mc_121 (r := (.iastore, 0, 0, 0)) rfl) rfl rfl).trans (and_congr Iff.rfl ?_)
  refine (wp_s (n := 78) (zcode_of mc_121 (r := (.aload_n 0, 0, 0, 0)) rfl) rfl rfl).trans ?_
  refine (wp_ic (n' := 79) rfl (zcode_of mc_121 (r := (.iconst 0, 0, 0, 0)) rfl) ci_0).trans ?_
  refine (wr_put (n' := 82) rfl hR (zcode_of mc_121 (r := (.putfield 151, 12, 8, 0)) rfl) rfl).trans ?_
  refine (wp_s (n := 83) (zcode_of mc_121 (r := (.aload_n 0, 0, 0, 0)) rfl) rfl rfl).trans ?_
  refine (wr_getA (n' := 86) rfl (t := 25) hR (zcode_of mc_121 (r := (.getfield 27, 12, 5, 0)) rfl) rfl rfl).trans ?_
  refine (wp_s (n := 87) (zcode_of mc_121 (r := (.iload_n 3, 0, 0, 0)) rfl) rfl rfl).trans ?_
  refine (wr_ld (n' := 88) rfl hR (zcode_of mc_121 (r := (.iaload, 0, 0, 0)) rfl) rfl rfl).trans (and_congr Iff.rfl ?_)
  exact wp_retI (zcode_of mc_121 (r := (.ireturn, 0, 0, 0)) rfl) rfl
theorem mc_122 : mCode 122 = zc_122 := rfl
theorem b122 {σ : zSt} {o : Nat} {sc : Nat → Int32} {ar : Nat → Nat → Int32} {P : Option Value → zSt → Prop} (hR : RShape σ o) {x1 x2 : Int32} :
    wpM 122 [.ref o, .int x1, .int x2] (rOv σ o sc ar) P ↔ wpM 119 [.ref o, .int x1, .int x2] (rOv σ o sc ar) (fun r τ => wp 122 6 [some (.ref o), some (.int x1), some (.int x2), none] (r.toList ++ []) τ P) := by
  show wp 122 0 [some (.ref o), some (.int x1), some (.int x2), none] [] (rOv σ o sc ar) P ↔ _
  refine (wp_s (n := 1) (zcode_of mc_122 (r := (.aload_n 0, 0, 0, 0)) rfl) rfl rfl).trans ?_
  refine (wp_s (n := 2) (zcode_of mc_122 (r := (.iload_n 1, 0, 0, 0)) rfl) rfl rfl).trans ?_
  refine (wp_s (n := 3) (zcode_of mc_122 (r := (.iload_n 2, 0, 0, 0)) rfl) rfl rfl).trans ?_
  exact wp_call (q := ([.ref o, .int x1, .int x2], [])) (zcode_of mc_122 (r := (.invokevirtual 156, 119, 0, 2)) rfl) rfl (zCa_V (Nat.le_of_ble_eq_true rfl) rfl hR.tg) ⟨Nat.le_of_ble_eq_true rfl, Nat.le_of_ble_eq_true rfl⟩
theorem b122_6 {σ : zSt} {o : Nat} {sc : Nat → Int32} {ar : Nat → Nat → Int32} {P : Option Value → zSt → Prop} (hR : RShape σ o) {x1 x2 s0 : Int32} {u3 : Option Value} :
    wp 122 6 [some (.ref o), some (.int x1), some (.int x2), u3] [.int s0] (rOv σ o sc ar) P ↔ (if s0 = 0 then wp 122 12 [some (.ref o), some (.int x1), some (.int x2), u3] [] (rOv σ o sc ar) P else wp 122 9 [some (.ref o), some (.int x1), some (.int x2), u3] [] (rOv σ o sc ar) P) := by
  exact wp_jump (off := 6) (t := 12) (zcode_of mc_122 (r := (.ifCond .eq 6, 0, 0, 0)) rfl) rfl rfl (by decide)
theorem b122_9 {σ : zSt} {o : Nat} {sc : Nat → Int32} {ar : Nat → Nat → Int32} {P : Option Value → zSt → Prop} (hR : RShape σ o) {x1 x2 : Int32} {u3 : Option Value} :
    wp 122 9 [some (.ref o), some (.int x1), some (.int x2), u3] [] (rOv σ o sc ar) P ↔ P (some (.int (-2))) (rOv σ o sc ar) := by
  refine (wp_bp (n' := 11) rfl (zcode_of mc_122 (r := (.bipush (-2), 0, 0, 0)) rfl) cb_m2).trans ?_
  exact wp_retI (zcode_of mc_122 (r := (.ireturn, 0, 0, 0)) rfl) rfl
theorem b122_12 {σ : zSt} {o : Nat} {sc : Nat → Int32} {ar : Nat → Nat → Int32} {P : Option Value → zSt → Prop} (hR : RShape σ o) {x1 x2 : Int32} {u3 : Option Value} :
    wp 122 12 [some (.ref o), some (.int x1), some (.int x2), u3] [] (rOv σ o sc ar) P ↔ wpM 120 [.ref o, .int x2] (rOv σ o sc ar) (fun r τ => wp 122 17 [some (.ref o), some (.int x1), some (.int x2), u3] (r.toList ++ []) τ P) := by
  refine (wp_s (n := 13) (zcode_of mc_122 (r := (.aload_n 0, 0, 0, 0)) rfl) rfl rfl).trans ?_
  refine (wp_s (n := 14) (zcode_of mc_122 (r := (.iload_n 2, 0, 0, 0)) rfl) rfl rfl).trans ?_
  exact wp_call (q := ([.ref o, .int x2], [])) (zcode_of mc_122 (r := (.invokevirtual 160, 120, 0, 1)) rfl) rfl (zCa_V (Nat.le_of_ble_eq_true rfl) rfl hR.tg) ⟨Nat.le_of_ble_eq_true rfl, Nat.le_of_ble_eq_true rfl⟩
theorem b122_17 {σ : zSt} {o : Nat} {sc : Nat → Int32} {ar : Nat → Nat → Int32} {P : Option Value → zSt → Prop} (hR : RShape σ o) {x1 x2 s0 : Int32} {u3 : Option Value} :
    wp 122 17 [some (.ref o), some (.int x1), some (.int x2), u3] [.int s0] (rOv σ o sc ar) P ↔ (if ¬ s0 = 0 then wp 122 23 [some (.ref o), some (.int x1), some (.int x2), u3] [] (rOv σ o sc ar) P else wp 122 20 [some (.ref o), some (.int x1), some (.int x2), u3] [] (rOv σ o sc ar) P) := by
  exact wp_jump (off := 6) (t := 23) (zcode_of mc_122 (r := (.ifCond .ne 6, 0, 0, 0)) rfl) rfl rfl (by decide)
theorem b122_20 {σ : zSt} {o : Nat} {sc : Nat → Int32} {ar : Nat → Nat → Int32} {P : Option Value → zSt → Prop} (hR : RShape σ o) {x1 x2 : Int32} {u3 : Option Value} :
    wp 122 20 [some (.ref o), some (.int x1), some (.int x2), u3] [] (rOv σ o sc ar) P ↔ P (some (.int (-3))) (rOv σ o sc ar) := by
  refine (wp_bp (n' := 22) rfl (zcode_of mc_122 (r := (.bipush (-3), 0, 0, 0)) rfl) cb_m3).trans ?_
  exact wp_retI (zcode_of mc_122 (r := (.ireturn, 0, 0, 0)) rfl) rfl
theorem b122_23 {σ : zSt} {o : Nat} {sc : Nat → Int32} {ar : Nat → Nat → Int32} {P : Option Value → zSt → Prop} (hR : RShape σ o) {x1 x2 : Int32} {u3 : Option Value} :
    wp 122 23 [some (.ref o), some (.int x1), some (.int x2), u3] [] (rOv σ o sc ar) P ↔ (zIn ((60 * x1) + x2) (rlen 25) ∧ (zIn ((60 * x1) + x2) (rlen 25) ∧ P (some (.int (ar 25 (Int32.toNatClampNeg ((60 * x1) + x2))))) (rOv σ o sc (upA ar 25 (Int32.toNatClampNeg ((60 * x1) + x2)) (-1))))) := by
  refine (wp_s (n := 24) (zcode_of mc_122 (r := (.aload_n 0, 0, 0, 0)) rfl) rfl rfl).trans ?_
  refine (wr_getA (n' := 27) rfl (t := 25) hR (zcode_of mc_122 (r := (.getfield 27, 12, 5, 0)) rfl) rfl rfl).trans ?_
  refine (wp_bp (n' := 29) rfl (zcode_of mc_122 (r := (.bipush 60, 0, 0, 0)) rfl) cb_60).trans ?_
  refine (wp_s (n := 30) (zcode_of mc_122 (r := (.iload_n 1, 0, 0, 0)) rfl) rfl rfl).trans ?_
  refine (wp_s (n := 31) (zcode_of mc_122 (r := (.imul, 0, 0, 0)) rfl) rfl rfl).trans ?_
  refine (wp_s (n := 32) (zcode_of mc_122 (r := (.iload_n 2, 0, 0, 0)) rfl) rfl rfl).trans ?_
  refine (wp_s (n := 33) (zcode_of mc_122 (r := (.iadd, 0, 0, 0)) rfl) rfl rfl).trans ?_
  refine (wr_ld (n' := 34) rfl hR (zcode_of mc_122 (r := (.iaload, 0, 0, 0)) rfl) rfl rfl).trans (and_congr Iff.rfl ?_)
  refine (wp_s (n := 35) (zcode_of mc_122 (r := (.istore_n 3, 0, 0, 0)) rfl) rfl rfl).trans ?_
  refine (wp_s (n := 36) (zcode_of mc_122 (r := (.aload_n 0, 0, 0, 0)) rfl) rfl rfl).trans ?_
  refine (wr_getA (n' := 39) rfl (t := 25) hR (zcode_of mc_122 (r := (.getfield 27, 12, 5, 0)) rfl) rfl rfl).trans ?_
  refine (wp_bp (n' := 41) rfl (zcode_of mc_122 (r := (.bipush 60, 0, 0, 0)) rfl) cb_60).trans ?_
  refine (wp_s (n := 42) (zcode_of mc_122 (r := (.iload_n 1, 0, 0, 0)) rfl) rfl rfl).trans ?_
  refine (wp_s (n := 43) (zcode_of mc_122 (r := (.imul, 0, 0, 0)) rfl) rfl rfl).trans ?_
  refine (wp_s (n := 44) (zcode_of mc_122 (r := (.iload_n 2, 0, 0, 0)) rfl) rfl rfl).trans ?_
  refine (wp_s (n := 45) (zcode_of mc_122 (r := (.iadd, 0, 0, 0)) rfl) rfl rfl).trans ?_
  refine (wp_ic (n' := 46) rfl (zcode_of mc_122 (r := (.iconst (-1), 0, 0, 0)) rfl) ci_m1).trans ?_
  refine (wr_st (n' := 47) rfl hR (zcode_of mc_122 (r := (.iastore, 0, 0, 0)) rfl) rfl rfl).trans (and_congr Iff.rfl ?_)
  refine (wp_s (n := 48) (zcode_of mc_122 (r := (.iload_n 3, 0, 0, 0)) rfl) rfl rfl).trans ?_
  exact wp_retI (zcode_of mc_122 (r := (.ireturn, 0, 0, 0)) rfl) rfl
theorem mc_123 : mCode 123 = zc_123 := rfl
theorem b123 {σ : zSt} {o : Nat} {sc : Nat → Int32} {ar : Nat → Nat → Int32} {P : Option Value → zSt → Prop} (hR : RShape σ o) {x1 x2 x3 : Int32} :
    wpM 123 [.ref o, .int x1, .int x2, .int x3] (rOv σ o sc ar) P ↔ (zIn ((60 * x1) + x3) (rlen 25) ∧ (zIn ((60 * x2) + x3) (rlen 25) ∧ (if ¬ (ar 25 (Int32.toNatClampNeg ((60 * x1) + x3))) = (ar 25 (Int32.toNatClampNeg ((60 * x2) + x3))) then wp 123 37 [some (.ref o), some (.int x1), some (.int x2), some (.int x3), some (.int ((60 * x1) + x3)), some (.int ((60 * x2) + x3)), none, none] [] (rOv σ o sc ar) P else wp 123 33 [some (.ref o), some (.int x1), some (.int x2), some (.int x3), some (.int ((60 * x1) + x3)), some (.int ((60 * x2) + x3)), none, none] [] (rOv σ o sc ar) P))) := by
  show wp 123 0 [some (.ref o), some (.int x1), some (.int x2), some (.int x3), none, none, none, none] [] (rOv σ o sc ar) P ↔ _
  refine (wp_bp (n' := 2) rfl (zcode_of mc_123 (r := (.bipush 60, 0, 0, 0)) rfl) cb_60).trans ?_
  refine (wp_s (n := 3) (zcode_of mc_123 (r := (.iload_n 1, 0, 0, 0)) rfl) rfl rfl).trans ?_
  refine (wp_s (n := 4) (zcode_of mc_123 (r := (.imul, 0, 0, 0)) rfl) rfl rfl).trans ?_
  refine (wp_s (n := 5) (zcode_of mc_123 (r := (.iload_n 3, 0, 0, 0)) rfl) rfl rfl).trans ?_
  refine (wp_s (n := 6) (zcode_of mc_123 (r := (.iadd, 0, 0, 0)) rfl) rfl rfl).trans ?_
  refine (wp_s (n := 8) (zcode_of mc_123 (r := (.istore 4, 0, 0, 0)) rfl) rfl rfl).trans ?_
  refine (wp_bp (n' := 10) rfl (zcode_of mc_123 (r := (.bipush 60, 0, 0, 0)) rfl) cb_60).trans ?_
  refine (wp_s (n := 11) (zcode_of mc_123 (r := (.iload_n 2, 0, 0, 0)) rfl) rfl rfl).trans ?_
  refine (wp_s (n := 12) (zcode_of mc_123 (r := (.imul, 0, 0, 0)) rfl) rfl rfl).trans ?_
  refine (wp_s (n := 13) (zcode_of mc_123 (r := (.iload_n 3, 0, 0, 0)) rfl) rfl rfl).trans ?_
  refine (wp_s (n := 14) (zcode_of mc_123 (r := (.iadd, 0, 0, 0)) rfl) rfl rfl).trans ?_
  refine (wp_s (n := 16) (zcode_of mc_123 (r := (.istore 5, 0, 0, 0)) rfl) rfl rfl).trans ?_
  refine (wp_s (n := 17) (zcode_of mc_123 (r := (.aload_n 0, 0, 0, 0)) rfl) rfl rfl).trans ?_
  refine (wr_getA (n' := 20) rfl (t := 25) hR (zcode_of mc_123 (r := (.getfield 27, 12, 5, 0)) rfl) rfl rfl).trans ?_
  refine (wp_s (n := 22) (zcode_of mc_123 (r := (.iload 4, 0, 0, 0)) rfl) rfl rfl).trans ?_
  refine (wr_ld (n' := 23) rfl hR (zcode_of mc_123 (r := (.iaload, 0, 0, 0)) rfl) rfl rfl).trans (and_congr Iff.rfl ?_)
  refine (wp_s (n := 24) (zcode_of mc_123 (r := (.aload_n 0, 0, 0, 0)) rfl) rfl rfl).trans ?_
  refine (wr_getA (n' := 27) rfl (t := 25) hR (zcode_of mc_123 (r := (.getfield 27, 12, 5, 0)) rfl) rfl rfl).trans ?_
  refine (wp_s (n := 29) (zcode_of mc_123 (r := (.iload 5, 0, 0, 0)) rfl) rfl rfl).trans ?_
  refine (wr_ld (n' := 30) rfl hR (zcode_of mc_123 (r := (.iaload, 0, 0, 0)) rfl) rfl rfl).trans (and_congr Iff.rfl ?_)
  exact wp_jump (off := 7) (t := 37) (zcode_of mc_123 (r := (.if_icmp .ne 7, 0, 0, 0)) rfl) rfl rfl (by decide)
theorem b123_33 {σ : zSt} {o : Nat} {sc : Nat → Int32} {ar : Nat → Nat → Int32} {P : Option Value → zSt → Prop} (hR : RShape σ o) {x1 x2 x3 x4 x5 : Int32} {u6 u7 : Option Value} :
    wp 123 33 [some (.ref o), some (.int x1), some (.int x2), some (.int x3), some (.int x4), some (.int x5), u6, u7] [] (rOv σ o sc ar) P ↔ wp 123 38 [some (.ref o), some (.int x1), some (.int x2), some (.int x3), some (.int x4), some (.int x5), u6, u7] [.int 1] (rOv σ o sc ar) P := by
  refine (wp_ic (n' := 34) rfl (zcode_of mc_123 (r := (.iconst 1, 0, 0, 0)) rfl) ci_1).trans ?_
  exact wp_goto (off := 4) (t := 38) (zcode_of mc_123 (r := (.goto 4, 0, 0, 0)) rfl) (by decide)
theorem b123_37 {σ : zSt} {o : Nat} {sc : Nat → Int32} {ar : Nat → Nat → Int32} {P : Option Value → zSt → Prop} (hR : RShape σ o) {x1 x2 x3 x4 x5 : Int32} {u6 u7 : Option Value} :
    wp 123 37 [some (.ref o), some (.int x1), some (.int x2), some (.int x3), some (.int x4), some (.int x5), u6, u7] [] (rOv σ o sc ar) P ↔ wp 123 38 [some (.ref o), some (.int x1), some (.int x2), some (.int x3), some (.int x4), some (.int x5), u6, u7] [.int 0] (rOv σ o sc ar) P := by
  refine (wp_ic (n' := 38) rfl (zcode_of mc_123 (r := (.iconst 0, 0, 0, 0)) rfl) ci_0).trans ?_
  exact Iff.rfl
theorem b123_38 {σ : zSt} {o : Nat} {sc : Nat → Int32} {ar : Nat → Nat → Int32} {P : Option Value → zSt → Prop} (hR : RShape σ o) {x1 x2 x3 x4 x5 s0 : Int32} {u6 u7 : Option Value} :
    wp 123 38 [some (.ref o), some (.int x1), some (.int x2), some (.int x3), some (.int x4), some (.int x5), u6, u7] [.int s0] (rOv σ o sc ar) P ↔ wp 123 43 [some (.ref o), some (.int x1), some (.int x2), some (.int x3), some (.int x4), some (.int x5), some (.int s0), some (.int 0)] [] (rOv σ o sc ar) P := by
  refine (wp_s (n := 40) (zcode_of mc_123 (r := (.istore 6, 0, 0, 0)) rfl) rfl rfl).trans ?_
  refine (wp_ic (n' := 41) rfl (zcode_of mc_123 (r := (.iconst 0, 0, 0, 0)) rfl) ci_0).trans ?_
  refine (wp_s (n := 43) (zcode_of mc_123 (r := (.istore 7, 0, 0, 0)) rfl) rfl rfl).trans ?_
  exact Iff.rfl
theorem b123_43 {σ : zSt} {o : Nat} {sc : Nat → Int32} {ar : Nat → Nat → Int32} {P : Option Value → zSt → Prop} (hR : RShape σ o) {x1 x2 x3 x4 x5 x6 x7 : Int32} :
    wp 123 43 [some (.ref o), some (.int x1), some (.int x2), some (.int x3), some (.int x4), some (.int x5), some (.int x6), some (.int x7)] [] (rOv σ o sc ar) P ↔ (zIn x4 (rlen 25) ∧ (if (ar 25 (Int32.toNatClampNeg x4)) ≤ x7 then wp 123 102 [some (.ref o), some (.int x1), some (.int x2), some (.int x3), some (.int x4), some (.int x5), some (.int x6), some (.int x7)] [] (rOv σ o sc ar) P else wp 123 55 [some (.ref o), some (.int x1), some (.int x2), some (.int x3), some (.int x4), some (.int x5), some (.int x6), some (.int x7)] [] (rOv σ o sc ar) P)) := by
  refine (wp_s (n := 45) (zcode_of mc_123 (r := (.iload 7, 0, 0, 0)) rfl) rfl rfl).trans ?_
  refine (wp_s (n := 46) (zcode_of mc_123 (r := (.aload_n 0, 0, 0, 0)) rfl) rfl rfl).trans ?_
  refine (wr_getA (n' := 49) rfl (t := 25) hR (zcode_of mc_123 (r := (.getfield 27, 12, 5, 0)) rfl) rfl rfl).trans ?_
  refine (wp_s (n := 51) (zcode_of mc_123 (r := (.iload 4, 0, 0, 0)) rfl) rfl rfl).trans ?_
  refine (wr_ld (n' := 52) rfl hR (zcode_of mc_123 (r := (.iaload, 0, 0, 0)) rfl) rfl rfl).trans (and_congr Iff.rfl ?_)
  exact wp_jump (off := 50) (t := 102) (zcode_of mc_123 (r := (.if_icmp .ge 50, 0, 0, 0)) rfl) rfl rfl (by decide)
theorem b123_55 {σ : zSt} {o : Nat} {sc : Nat → Int32} {ar : Nat → Nat → Int32} {P : Option Value → zSt → Prop} (hR : RShape σ o) {x1 x2 x3 x4 x5 x6 x7 : Int32} :
    wp 123 55 [some (.ref o), some (.int x1), some (.int x2), some (.int x3), some (.int x4), some (.int x5), some (.int x6), some (.int x7)] [] (rOv σ o sc ar) P ↔ (if x6 = 0 then wp 123 102 [some (.ref o), some (.int x1), some (.int x2), some (.int x3), some (.int x4), some (.int x5), some (.int x6), some (.int x7)] [] (rOv σ o sc ar) P else wp 123 60 [some (.ref o), some (.int x1), some (.int x2), some (.int x3), some (.int x4), some (.int x5), some (.int x6), some (.int x7)] [] (rOv σ o sc ar) P) := by
  refine (wp_s (n := 57) (zcode_of mc_123 (r := (.iload 6, 0, 0, 0)) rfl) rfl rfl).trans ?_
  exact wp_jump (off := 45) (t := 102) (zcode_of mc_123 (r := (.ifCond .eq 45, 0, 0, 0)) rfl) rfl rfl (by decide)
theorem b123_60 {σ : zSt} {o : Nat} {sc : Nat → Int32} {ar : Nat → Nat → Int32} {P : Option Value → zSt → Prop} (hR : RShape σ o) {x1 x2 x3 x4 x5 x6 x7 : Int32} :
    wp 123 60 [some (.ref o), some (.int x1), some (.int x2), some (.int x3), some (.int x4), some (.int x5), some (.int x6), some (.int x7)] [] (rOv σ o sc ar) P ↔ (zIn ((64 * x4) + x7) (rlen 26) ∧ (zIn ((64 * x5) + x7) (rlen 26) ∧ (if ¬ (ar 26 (Int32.toNatClampNeg ((64 * x4) + x7))) = (ar 26 (Int32.toNatClampNeg ((64 * x5) + x7))) then wp 123 93 [some (.ref o), some (.int x1), some (.int x2), some (.int x3), some (.int x4), some (.int x5), some (.int x6), some (.int x7)] [] (rOv σ o sc ar) P else wp 123 89 [some (.ref o), some (.int x1), some (.int x2), some (.int x3), some (.int x4), some (.int x5), some (.int x6), some (.int x7)] [] (rOv σ o sc ar) P))) := by
  refine (wp_s (n := 61) (zcode_of mc_123 (r := (.aload_n 0, 0, 0, 0)) rfl) rfl rfl).trans ?_
  refine (wr_getA (n' := 64) rfl (t := 26) hR (zcode_of mc_123 (r := (.getfield 30, 12, 6, 0)) rfl) rfl rfl).trans ?_
  refine (wp_bp (n' := 66) rfl (zcode_of mc_123 (r := (.bipush 64, 0, 0, 0)) rfl) cb_64).trans ?_
  refine (wp_s (n := 68) (zcode_of mc_123 (r := (.iload 4, 0, 0, 0)) rfl) rfl rfl).trans ?_
  refine (wp_s (n := 69) (zcode_of mc_123 (r := (.imul, 0, 0, 0)) rfl) rfl rfl).trans ?_
  refine (wp_s (n := 71) (zcode_of mc_123 (r := (.iload 7, 0, 0, 0)) rfl) rfl rfl).trans ?_
  refine (wp_s (n := 72) (zcode_of mc_123 (r := (.iadd, 0, 0, 0)) rfl) rfl rfl).trans ?_
  refine (wr_ld (n' := 73) rfl hR (zcode_of mc_123 (r := (.iaload, 0, 0, 0)) rfl) rfl rfl).trans (and_congr Iff.rfl ?_)
  refine (wp_s (n := 74) (zcode_of mc_123 (r := (.aload_n 0, 0, 0, 0)) rfl) rfl rfl).trans ?_
  refine (wr_getA (n' := 77) rfl (t := 26) hR (zcode_of mc_123 (r := (.getfield 30, 12, 6, 0)) rfl) rfl rfl).trans ?_
  refine (wp_bp (n' := 79) rfl (zcode_of mc_123 (r := (.bipush 64, 0, 0, 0)) rfl) cb_64).trans ?_
  refine (wp_s (n := 81) (zcode_of mc_123 (r := (.iload 5, 0, 0, 0)) rfl) rfl rfl).trans ?_
  refine (wp_s (n := 82) (zcode_of mc_123 (r := (.imul, 0, 0, 0)) rfl) rfl rfl).trans ?_
  refine (wp_s (n := 84) (zcode_of mc_123 (r := (.iload 7, 0, 0, 0)) rfl) rfl rfl).trans ?_
  refine (wp_s (n := 85) (zcode_of mc_123 (r := (.iadd, 0, 0, 0)) rfl) rfl rfl).trans ?_
  refine (wr_ld (n' := 86) rfl hR (zcode_of mc_123 (r := (.iaload, 0, 0, 0)) rfl) rfl rfl).trans (and_congr Iff.rfl ?_)
  exact wp_jump (off := 7) (t := 93) (zcode_of mc_123 (r := (.if_icmp .ne 7, 0, 0, 0)) rfl) rfl rfl (by decide)
theorem b123_89 {σ : zSt} {o : Nat} {sc : Nat → Int32} {ar : Nat → Nat → Int32} {P : Option Value → zSt → Prop} (hR : RShape σ o) {x1 x2 x3 x4 x5 x6 x7 : Int32} :
    wp 123 89 [some (.ref o), some (.int x1), some (.int x2), some (.int x3), some (.int x4), some (.int x5), some (.int x6), some (.int x7)] [] (rOv σ o sc ar) P ↔ wp 123 94 [some (.ref o), some (.int x1), some (.int x2), some (.int x3), some (.int x4), some (.int x5), some (.int x6), some (.int x7)] [.int 1] (rOv σ o sc ar) P := by
  refine (wp_ic (n' := 90) rfl (zcode_of mc_123 (r := (.iconst 1, 0, 0, 0)) rfl) ci_1).trans ?_
  exact wp_goto (off := 4) (t := 94) (zcode_of mc_123 (r := (.goto 4, 0, 0, 0)) rfl) (by decide)
theorem b123_93 {σ : zSt} {o : Nat} {sc : Nat → Int32} {ar : Nat → Nat → Int32} {P : Option Value → zSt → Prop} (hR : RShape σ o) {x1 x2 x3 x4 x5 x6 x7 : Int32} :
    wp 123 93 [some (.ref o), some (.int x1), some (.int x2), some (.int x3), some (.int x4), some (.int x5), some (.int x6), some (.int x7)] [] (rOv σ o sc ar) P ↔ wp 123 94 [some (.ref o), some (.int x1), some (.int x2), some (.int x3), some (.int x4), some (.int x5), some (.int x6), some (.int x7)] [.int 0] (rOv σ o sc ar) P := by
  refine (wp_ic (n' := 94) rfl (zcode_of mc_123 (r := (.iconst 0, 0, 0, 0)) rfl) ci_0).trans ?_
  exact Iff.rfl
theorem b123_94 {σ : zSt} {o : Nat} {sc : Nat → Int32} {ar : Nat → Nat → Int32} {P : Option Value → zSt → Prop} (hR : RShape σ o) {x1 x2 x3 x4 x5 x6 x7 s0 : Int32} :
    wp 123 94 [some (.ref o), some (.int x1), some (.int x2), some (.int x3), some (.int x4), some (.int x5), some (.int x6), some (.int x7)] [.int s0] (rOv σ o sc ar) P ↔ wp 123 43 [some (.ref o), some (.int x1), some (.int x2), some (.int x3), some (.int x4), some (.int x5), some (.int s0), some (.int (x7 + 1))] [] (rOv σ o sc ar) P := by
  refine (wp_s (n := 96) (zcode_of mc_123 (r := (.istore 6, 0, 0, 0)) rfl) rfl rfl).trans ?_
  refine (wp_inc (n' := 99) rfl (zcode_of mc_123 (r := (.iinc 7 1, 0, 0, 0)) rfl) rfl rfl ci_1).trans ?_
  exact wp_goto (off := (-56)) (t := 43) (zcode_of mc_123 (r := (.goto (-56), 0, 0, 0)) rfl) (by decide)
theorem b123_102 {σ : zSt} {o : Nat} {sc : Nat → Int32} {ar : Nat → Nat → Int32} {P : Option Value → zSt → Prop} (hR : RShape σ o) {x1 x2 x3 x4 x5 x6 x7 : Int32} :
    wp 123 102 [some (.ref o), some (.int x1), some (.int x2), some (.int x3), some (.int x4), some (.int x5), some (.int x6), some (.int x7)] [] (rOv σ o sc ar) P ↔ ((x6 = 0 ∨ x6 = 1) ∧ P (some (.int x6)) (rOv σ o sc ar)) := by
  refine (wp_s (n := 104) (zcode_of mc_123 (r := (.iload 6, 0, 0, 0)) rfl) rfl rfl).trans ?_
  exact wp_retZ (zcode_of mc_123 (r := (.ireturn, 0, 0, 0)) rfl) rfl
theorem mc_124 : mCode 124 = zc_124 := rfl
theorem b124 {σ : zSt} {o : Nat} {sc : Nat → Int32} {ar : Nat → Nat → Int32} {P : Option Value → zSt → Prop} (hR : RShape σ o) {x1 x2 x3 : Int32} :
    wpM 124 [.ref o, .int x1, .int x2, .int x3] (rOv σ o sc ar) P ↔ (zIn ((60 * x1) + x3) (rlen 25) ∧ (zIn ((60 * x2) + x3) (rlen 25) ∧ wp 124 33 [some (.ref o), some (.int x1), some (.int x2), some (.int x3), some (.int ((60 * x1) + x3)), some (.int ((60 * x2) + x3)), some (.int 0)] [] (rOv σ o sc (upA ar 25 (Int32.toNatClampNeg ((60 * x2) + x3)) (ar 25 (Int32.toNatClampNeg ((60 * x1) + x3))))) P)) := by
  show wp 124 0 [some (.ref o), some (.int x1), some (.int x2), some (.int x3), none, none, none] [] (rOv σ o sc ar) P ↔ _
  refine (wp_bp (n' := 2) rfl (zcode_of mc_124 (r := (.bipush 60, 0, 0, 0)) rfl) cb_60).trans ?_
  refine (wp_s (n := 3) (zcode_of mc_124 (r := (.iload_n 1, 0, 0, 0)) rfl) rfl rfl).trans ?_
  refine (wp_s (n := 4) (zcode_of mc_124 (r := (.imul, 0, 0, 0)) rfl) rfl rfl).trans ?_
  refine (wp_s (n := 5) (zcode_of mc_124 (r := (.iload_n 3, 0, 0, 0)) rfl) rfl rfl).trans ?_
  refine (wp_s (n := 6) (zcode_of mc_124 (r := (.iadd, 0, 0, 0)) rfl) rfl rfl).trans ?_
  refine (wp_s (n := 8) (zcode_of mc_124 (r := (.istore 4, 0, 0, 0)) rfl) rfl rfl).trans ?_
  refine (wp_bp (n' := 10) rfl (zcode_of mc_124 (r := (.bipush 60, 0, 0, 0)) rfl) cb_60).trans ?_
  refine (wp_s (n := 11) (zcode_of mc_124 (r := (.iload_n 2, 0, 0, 0)) rfl) rfl rfl).trans ?_
  refine (wp_s (n := 12) (zcode_of mc_124 (r := (.imul, 0, 0, 0)) rfl) rfl rfl).trans ?_
  refine (wp_s (n := 13) (zcode_of mc_124 (r := (.iload_n 3, 0, 0, 0)) rfl) rfl rfl).trans ?_
  refine (wp_s (n := 14) (zcode_of mc_124 (r := (.iadd, 0, 0, 0)) rfl) rfl rfl).trans ?_
  refine (wp_s (n := 16) (zcode_of mc_124 (r := (.istore 5, 0, 0, 0)) rfl) rfl rfl).trans ?_
  refine (wp_s (n := 17) (zcode_of mc_124 (r := (.aload_n 0, 0, 0, 0)) rfl) rfl rfl).trans ?_
  refine (wr_getA (n' := 20) rfl (t := 25) hR (zcode_of mc_124 (r := (.getfield 27, 12, 5, 0)) rfl) rfl rfl).trans ?_
  refine (wp_s (n := 22) (zcode_of mc_124 (r := (.iload 5, 0, 0, 0)) rfl) rfl rfl).trans ?_
  refine (wp_s (n := 23) (zcode_of mc_124 (r := (.aload_n 0, 0, 0, 0)) rfl) rfl rfl).trans ?_
  refine (wr_getA (n' := 26) rfl (t := 25) hR (zcode_of mc_124 (r := (.getfield 27, 12, 5, 0)) rfl) rfl rfl).trans ?_
  refine (wp_s (n := 28) (zcode_of mc_124 (r := (.iload 4, 0, 0, 0)) rfl) rfl rfl).trans ?_
  refine (wr_ld (n' := 29) rfl hR (zcode_of mc_124 (r := (.iaload, 0, 0, 0)) rfl) rfl rfl).trans (and_congr Iff.rfl ?_)
  refine (wr_st (n' := 30) rfl hR (zcode_of mc_124 (r := (.iastore, 0, 0, 0)) rfl) rfl rfl).trans (and_congr Iff.rfl ?_)
  refine (wp_ic (n' := 31) rfl (zcode_of mc_124 (r := (.iconst 0, 0, 0, 0)) rfl) ci_0).trans ?_
  refine (wp_s (n := 33) (zcode_of mc_124 (r := (.istore 6, 0, 0, 0)) rfl) rfl rfl).trans ?_
  exact Iff.rfl
theorem b124_33 {σ : zSt} {o : Nat} {sc : Nat → Int32} {ar : Nat → Nat → Int32} {P : Option Value → zSt → Prop} (hR : RShape σ o) {x1 x2 x3 x4 x5 x6 : Int32} :
    wp 124 33 [some (.ref o), some (.int x1), some (.int x2), some (.int x3), some (.int x4), some (.int x5), some (.int x6)] [] (rOv σ o sc ar) P ↔ (zIn x4 (rlen 25) ∧ (if (ar 25 (Int32.toNatClampNeg x4)) ≤ x6 then wp 124 77 [some (.ref o), some (.int x1), some (.int x2), some (.int x3), some (.int x4), some (.int x5), some (.int x6)] [] (rOv σ o sc ar) P else wp 124 45 [some (.ref o), some (.int x1), some (.int x2), some (.int x3), some (.int x4), some (.int x5), some (.int x6)] [] (rOv σ o sc ar) P)) := by
  refine (wp_s (n := 35) (zcode_of mc_124 (r := (.iload 6, 0, 0, 0)) rfl) rfl rfl).trans ?_
  refine (wp_s (n := 36) (zcode_of mc_124 (r := (.aload_n 0, 0, 0, 0)) rfl) rfl rfl).trans ?_
  refine (wr_getA (n' := 39) rfl (t := 25) hR (zcode_of mc_124 (r := (.getfield 27, 12, 5, 0)) rfl) rfl rfl).trans ?_
  refine (wp_s (n := 41) (zcode_of mc_124 (r := (.iload 4, 0, 0, 0)) rfl) rfl rfl).trans ?_
  refine (wr_ld (n' := 42) rfl hR (zcode_of mc_124 (r := (.iaload, 0, 0, 0)) rfl) rfl rfl).trans (and_congr Iff.rfl ?_)
  exact wp_jump (off := 35) (t := 77) (zcode_of mc_124 (r := (.if_icmp .ge 35, 0, 0, 0)) rfl) rfl rfl (by decide)
theorem b124_45 {σ : zSt} {o : Nat} {sc : Nat → Int32} {ar : Nat → Nat → Int32} {P : Option Value → zSt → Prop} (hR : RShape σ o) {x1 x2 x3 x4 x5 x6 : Int32} :
    wp 124 45 [some (.ref o), some (.int x1), some (.int x2), some (.int x3), some (.int x4), some (.int x5), some (.int x6)] [] (rOv σ o sc ar) P ↔ (zIn ((64 * x4) + x6) (rlen 26) ∧ (zIn ((64 * x5) + x6) (rlen 26) ∧ wp 124 33 [some (.ref o), some (.int x1), some (.int x2), some (.int x3), some (.int x4), some (.int x5), some (.int (x6 + 1))] [] (rOv σ o sc (upA ar 26 (Int32.toNatClampNeg ((64 * x5) + x6)) (ar 26 (Int32.toNatClampNeg ((64 * x4) + x6))))) P)) := by
  refine (wp_s (n := 46) (zcode_of mc_124 (r := (.aload_n 0, 0, 0, 0)) rfl) rfl rfl).trans ?_
  refine (wr_getA (n' := 49) rfl (t := 26) hR (zcode_of mc_124 (r := (.getfield 30, 12, 6, 0)) rfl) rfl rfl).trans ?_
  refine (wp_bp (n' := 51) rfl (zcode_of mc_124 (r := (.bipush 64, 0, 0, 0)) rfl) cb_64).trans ?_
  refine (wp_s (n := 53) (zcode_of mc_124 (r := (.iload 5, 0, 0, 0)) rfl) rfl rfl).trans ?_
  refine (wp_s (n := 54) (zcode_of mc_124 (r := (.imul, 0, 0, 0)) rfl) rfl rfl).trans ?_
  refine (wp_s (n := 56) (zcode_of mc_124 (r := (.iload 6, 0, 0, 0)) rfl) rfl rfl).trans ?_
  refine (wp_s (n := 57) (zcode_of mc_124 (r := (.iadd, 0, 0, 0)) rfl) rfl rfl).trans ?_
  refine (wp_s (n := 58) (zcode_of mc_124 (r := (.aload_n 0, 0, 0, 0)) rfl) rfl rfl).trans ?_
  refine (wr_getA (n' := 61) rfl (t := 26) hR (zcode_of mc_124 (r := (.getfield 30, 12, 6, 0)) rfl) rfl rfl).trans ?_
  refine (wp_bp (n' := 63) rfl (zcode_of mc_124 (r := (.bipush 64, 0, 0, 0)) rfl) cb_64).trans ?_
  refine (wp_s (n := 65) (zcode_of mc_124 (r := (.iload 4, 0, 0, 0)) rfl) rfl rfl).trans ?_
  refine (wp_s (n := 66) (zcode_of mc_124 (r := (.imul, 0, 0, 0)) rfl) rfl rfl).trans ?_
  refine (wp_s (n := 68) (zcode_of mc_124 (r := (.iload 6, 0, 0, 0)) rfl) rfl rfl).trans ?_
  refine (wp_s (n := 69) (zcode_of mc_124 (r := (.iadd, 0, 0, 0)) rfl) rfl rfl).trans ?_
  refine (wr_ld (n' := 70) rfl hR (zcode_of mc_124 (r := (.iaload, 0, 0, 0)) rfl) rfl rfl).trans (and_congr Iff.rfl ?_)
  refine (wr_st (n' := 71) rfl hR (zcode_of mc_124 (r := (.iastore, 0, 0, 0)) rfl) rfl rfl).trans (and_congr Iff.rfl ?_)
  refine (wp_inc (n' := 74) rfl (zcode_of mc_124 (r := (.iinc 6 1, 0, 0, 0)) rfl) rfl rfl ci_1).trans ?_
  exact wp_goto (off := (-41)) (t := 33) (zcode_of mc_124 (r := (.goto (-41), 0, 0, 0)) rfl) (by decide)
theorem b124_77 {σ : zSt} {o : Nat} {sc : Nat → Int32} {ar : Nat → Nat → Int32} {P : Option Value → zSt → Prop} (hR : RShape σ o) {x1 x2 x3 x4 x5 x6 : Int32} :
    wp 124 77 [some (.ref o), some (.int x1), some (.int x2), some (.int x3), some (.int x4), some (.int x5), some (.int x6)] [] (rOv σ o sc ar) P ↔ P none (rOv σ o sc ar) := by
  exact wp_retV (zcode_of mc_124 (r := (.return_, 0, 0, 0)) rfl) rfl
theorem mc_125 : mCode 125 = zc_125 := rfl
theorem b125 {σ : zSt} {o : Nat} {sc : Nat → Int32} {ar : Nat → Nat → Int32} {P : Option Value → zSt → Prop} (hR : RShape σ o) {x1 : Int32} :
    wpM 125 [.ref o, .int x1] (rOv σ o sc ar) P ↔ wpM 113 [.int x1, .int 0, .int 1] (rOv σ o sc ar) (fun r τ => wp 125 6 [some (.ref o), some (.int x1), none, none] (r.toList ++ []) τ P) := by
  show wp 125 0 [some (.ref o), some (.int x1), none, none] [] (rOv σ o sc ar) P ↔ _
  refine (wp_s (n := 1) (zcode_of mc_125 (r := (.iload_n 1, 0, 0, 0)) rfl) rfl rfl).trans ?_
  refine (wp_ic (n' := 2) rfl (zcode_of mc_125 (r := (.iconst 0, 0, 0, 0)) rfl) ci_0).trans ?_
  refine (wp_ic (n' := 3) rfl (zcode_of mc_125 (r := (.iconst 1, 0, 0, 0)) rfl) ci_1).trans ?_
  exact wp_call (q := ([.int x1, .int 0, .int 1], [])) (zcode_of mc_125 (r := (.invokestatic 140, 113, 1, 3)) rfl) rfl rfl ⟨Nat.le_of_ble_eq_true rfl, Nat.le_of_ble_eq_true rfl⟩
theorem b125_6 {σ : zSt} {o : Nat} {sc : Nat → Int32} {ar : Nat → Nat → Int32} {P : Option Value → zSt → Prop} (hR : RShape σ o) {x1 s0 : Int32} {u2 u3 : Option Value} :
    wp 125 6 [some (.ref o), some (.int x1), u2, u3] [.int s0] (rOv σ o sc ar) P ↔ (if ¬ s0 = 0 then wp 125 12 [some (.ref o), some (.int x1), u2, u3] [] (rOv σ o sc ar) P else wp 125 9 [some (.ref o), some (.int x1), u2, u3] [] (rOv σ o sc ar) P) := by
  exact wp_jump (off := 6) (t := 12) (zcode_of mc_125 (r := (.ifCond .ne 6, 0, 0, 0)) rfl) rfl rfl (by decide)
theorem b125_9 {σ : zSt} {o : Nat} {sc : Nat → Int32} {ar : Nat → Nat → Int32} {P : Option Value → zSt → Prop} (hR : RShape σ o) {x1 : Int32} {u2 u3 : Option Value} :
    wp 125 9 [some (.ref o), some (.int x1), u2, u3] [] (rOv σ o sc ar) P ↔ P (some (.int (-2))) (rOv σ o sc ar) := by
  refine (wp_bp (n' := 11) rfl (zcode_of mc_125 (r := (.bipush (-2), 0, 0, 0)) rfl) cb_m2).trans ?_
  exact wp_retI (zcode_of mc_125 (r := (.ireturn, 0, 0, 0)) rfl) rfl
theorem b125_12 {σ : zSt} {o : Nat} {sc : Nat → Int32} {ar : Nat → Nat → Int32} {P : Option Value → zSt → Prop} (hR : RShape σ o) {x1 : Int32} {u2 u3 : Option Value} :
    wp 125 12 [some (.ref o), some (.int x1), u2, u3] [] (rOv σ o sc ar) P ↔ wp 125 16 [some (.ref o), some (.int x1), some (.int 0), some (.int 1)] [] (rOv σ o sc ar) P := by
  refine (wp_ic (n' := 13) rfl (zcode_of mc_125 (r := (.iconst 0, 0, 0, 0)) rfl) ci_0).trans ?_
  refine (wp_s (n := 14) (zcode_of mc_125 (r := (.istore_n 2, 0, 0, 0)) rfl) rfl rfl).trans ?_
  refine (wp_ic (n' := 15) rfl (zcode_of mc_125 (r := (.iconst 1, 0, 0, 0)) rfl) ci_1).trans ?_
  refine (wp_s (n := 16) (zcode_of mc_125 (r := (.istore_n 3, 0, 0, 0)) rfl) rfl rfl).trans ?_
  exact Iff.rfl
theorem b125_16 {σ : zSt} {o : Nat} {sc : Nat → Int32} {ar : Nat → Nat → Int32} {P : Option Value → zSt → Prop} (hR : RShape σ o) {x1 x2 x3 : Int32} :
    wp 125 16 [some (.ref o), some (.int x1), some (.int x2), some (.int x3)] [] (rOv σ o sc ar) P ↔ (if (sc 0) ≤ x3 then wp 125 62 [some (.ref o), some (.int x1), some (.int x2), some (.int x3)] [] (rOv σ o sc ar) P else wp 125 24 [some (.ref o), some (.int x1), some (.int x2), some (.int x3)] [] (rOv σ o sc ar) P) := by
  refine (wp_s (n := 17) (zcode_of mc_125 (r := (.iload_n 3, 0, 0, 0)) rfl) rfl rfl).trans ?_
  refine (wp_s (n := 18) (zcode_of mc_125 (r := (.aload_n 0, 0, 0, 0)) rfl) rfl rfl).trans ?_
  refine (wr_getI (n' := 21) rfl hR (zcode_of mc_125 (r := (.getfield 7, 12, 0, 0)) rfl) rfl).trans ?_
  exact wp_jump (off := 41) (t := 62) (zcode_of mc_125 (r := (.if_icmp .ge 41, 0, 0, 0)) rfl) rfl rfl (by decide)
theorem b125_24 {σ : zSt} {o : Nat} {sc : Nat → Int32} {ar : Nat → Nat → Int32} {P : Option Value → zSt → Prop} (hR : RShape σ o) {x1 x2 x3 : Int32} :
    wp 125 24 [some (.ref o), some (.int x1), some (.int x2), some (.int x3)] [] (rOv σ o sc ar) P ↔ wpM 120 [.ref o, .int x3] (rOv σ o sc ar) (fun r τ => wp 125 29 [some (.ref o), some (.int x1), some (.int x2), some (.int x3)] (r.toList ++ []) τ P) := by
  refine (wp_s (n := 25) (zcode_of mc_125 (r := (.aload_n 0, 0, 0, 0)) rfl) rfl rfl).trans ?_
  refine (wp_s (n := 26) (zcode_of mc_125 (r := (.iload_n 3, 0, 0, 0)) rfl) rfl rfl).trans ?_
  exact wp_call (q := ([.ref o, .int x3], [])) (zcode_of mc_125 (r := (.invokevirtual 160, 120, 0, 1)) rfl) rfl (zCa_V (Nat.le_of_ble_eq_true rfl) rfl hR.tg) ⟨Nat.le_of_ble_eq_true rfl, Nat.le_of_ble_eq_true rfl⟩
theorem b125_29 {σ : zSt} {o : Nat} {sc : Nat → Int32} {ar : Nat → Nat → Int32} {P : Option Value → zSt → Prop} (hR : RShape σ o) {x1 x2 x3 s0 : Int32} :
    wp 125 29 [some (.ref o), some (.int x1), some (.int x2), some (.int x3)] [.int s0] (rOv σ o sc ar) P ↔ (if s0 = 0 then wp 125 56 [some (.ref o), some (.int x1), some (.int x2), some (.int x3)] [] (rOv σ o sc ar) P else wp 125 32 [some (.ref o), some (.int x1), some (.int x2), some (.int x3)] [] (rOv σ o sc ar) P) := by
  exact wp_jump (off := 27) (t := 56) (zcode_of mc_125 (r := (.ifCond .eq 27, 0, 0, 0)) rfl) rfl rfl (by decide)
theorem b125_32 {σ : zSt} {o : Nat} {sc : Nat → Int32} {ar : Nat → Nat → Int32} {P : Option Value → zSt → Prop} (hR : RShape σ o) {x1 x2 x3 : Int32} :
    wp 125 32 [some (.ref o), some (.int x1), some (.int x2), some (.int x3)] [] (rOv σ o sc ar) P ↔ wpM 123 [.ref o, .int x1, .int (1 - x1), .int x3] (rOv σ o sc ar) (fun r τ => wp 125 41 [some (.ref o), some (.int x1), some (.int x2), some (.int x3)] (r.toList ++ []) τ P) := by
  refine (wp_s (n := 33) (zcode_of mc_125 (r := (.aload_n 0, 0, 0, 0)) rfl) rfl rfl).trans ?_
  refine (wp_s (n := 34) (zcode_of mc_125 (r := (.iload_n 1, 0, 0, 0)) rfl) rfl rfl).trans ?_
  refine (wp_ic (n' := 35) rfl (zcode_of mc_125 (r := (.iconst 1, 0, 0, 0)) rfl) ci_1).trans ?_
  refine (wp_s (n := 36) (zcode_of mc_125 (r := (.iload_n 1, 0, 0, 0)) rfl) rfl rfl).trans ?_
  refine (wp_s (n := 37) (zcode_of mc_125 (r := (.isub, 0, 0, 0)) rfl) rfl rfl).trans ?_
  refine (wp_s (n := 38) (zcode_of mc_125 (r := (.iload_n 3, 0, 0, 0)) rfl) rfl rfl).trans ?_
  exact wp_call (q := ([.ref o, .int x1, .int (1 - x1), .int x3], [])) (zcode_of mc_125 (r := (.invokevirtual 163, 123, 0, 3)) rfl) rfl (zCa_V (Nat.le_of_ble_eq_true rfl) rfl hR.tg) ⟨Nat.le_of_ble_eq_true rfl, Nat.le_of_ble_eq_true rfl⟩
theorem b125_41 {σ : zSt} {o : Nat} {sc : Nat → Int32} {ar : Nat → Nat → Int32} {P : Option Value → zSt → Prop} (hR : RShape σ o) {x1 x2 x3 s0 : Int32} :
    wp 125 41 [some (.ref o), some (.int x1), some (.int x2), some (.int x3)] [.int s0] (rOv σ o sc ar) P ↔ (if ¬ s0 = 0 then wp 125 56 [some (.ref o), some (.int x1), some (.int x2), some (.int x3)] [] (rOv σ o sc ar) P else wp 125 44 [some (.ref o), some (.int x1), some (.int x2), some (.int x3)] [] (rOv σ o sc ar) P) := by
  exact wp_jump (off := 15) (t := 56) (zcode_of mc_125 (r := (.ifCond .ne 15, 0, 0, 0)) rfl) rfl rfl (by decide)
theorem b125_44 {σ : zSt} {o : Nat} {sc : Nat → Int32} {ar : Nat → Nat → Int32} {P : Option Value → zSt → Prop} (hR : RShape σ o) {x1 x2 x3 : Int32} :
    wp 125 44 [some (.ref o), some (.int x1), some (.int x2), some (.int x3)] [] (rOv σ o sc ar) P ↔ wpM 124 [.ref o, .int (1 - x1), .int x1, .int x3] (rOv σ o sc ar) (fun r τ => wp 125 53 [some (.ref o), some (.int x1), some (.int x2), some (.int x3)] (r.toList ++ []) τ P) := by
  refine (wp_s (n := 45) (zcode_of mc_125 (r := (.aload_n 0, 0, 0, 0)) rfl) rfl rfl).trans ?_
  refine (wp_ic (n' := 46) rfl (zcode_of mc_125 (r := (.iconst 1, 0, 0, 0)) rfl) ci_1).trans ?_
  refine (wp_s (n := 47) (zcode_of mc_125 (r := (.iload_n 1, 0, 0, 0)) rfl) rfl rfl).trans ?_
  refine (wp_s (n := 48) (zcode_of mc_125 (r := (.isub, 0, 0, 0)) rfl) rfl rfl).trans ?_
  refine (wp_s (n := 49) (zcode_of mc_125 (r := (.iload_n 1, 0, 0, 0)) rfl) rfl rfl).trans ?_
  refine (wp_s (n := 50) (zcode_of mc_125 (r := (.iload_n 3, 0, 0, 0)) rfl) rfl rfl).trans ?_
  exact wp_call (q := ([.ref o, .int (1 - x1), .int x1, .int x3], [])) (zcode_of mc_125 (r := (.invokevirtual 166, 124, 0, 3)) rfl) rfl (zCa_V (Nat.le_of_ble_eq_true rfl) rfl hR.tg) ⟨Nat.le_of_ble_eq_true rfl, Nat.le_of_ble_eq_true rfl⟩
theorem b125_53 {σ : zSt} {o : Nat} {sc : Nat → Int32} {ar : Nat → Nat → Int32} {P : Option Value → zSt → Prop} (hR : RShape σ o) {x1 x2 x3 : Int32} :
    wp 125 53 [some (.ref o), some (.int x1), some (.int x2), some (.int x3)] [] (rOv σ o sc ar) P ↔ wp 125 56 [some (.ref o), some (.int x1), some (.int (x2 + 1)), some (.int x3)] [] (rOv σ o sc ar) P := by
  refine (wp_inc (n' := 56) rfl (zcode_of mc_125 (r := (.iinc 2 1, 0, 0, 0)) rfl) rfl rfl ci_1).trans ?_
  exact Iff.rfl
theorem b125_56 {σ : zSt} {o : Nat} {sc : Nat → Int32} {ar : Nat → Nat → Int32} {P : Option Value → zSt → Prop} (hR : RShape σ o) {x1 x2 x3 : Int32} :
    wp 125 56 [some (.ref o), some (.int x1), some (.int x2), some (.int x3)] [] (rOv σ o sc ar) P ↔ wp 125 16 [some (.ref o), some (.int x1), some (.int x2), some (.int (x3 + 1))] [] (rOv σ o sc ar) P := by
  refine (wp_inc (n' := 59) rfl (zcode_of mc_125 (r := (.iinc 3 1, 0, 0, 0)) rfl) rfl rfl ci_1).trans ?_
  exact wp_goto (off := (-43)) (t := 16) (zcode_of mc_125 (r := (.goto (-43), 0, 0, 0)) rfl) (by decide)
theorem b125_62 {σ : zSt} {o : Nat} {sc : Nat → Int32} {ar : Nat → Nat → Int32} {P : Option Value → zSt → Prop} (hR : RShape σ o) {x1 x2 x3 : Int32} :
    wp 125 62 [some (.ref o), some (.int x1), some (.int x2), some (.int x3)] [] (rOv σ o sc ar) P ↔ P (some (.int x2)) (rOv σ o sc ar) := by
  refine (wp_s (n := 63) (zcode_of mc_125 (r := (.iload_n 2, 0, 0, 0)) rfl) rfl rfl).trans ?_
  exact wp_retI (zcode_of mc_125 (r := (.ireturn, 0, 0, 0)) rfl) rfl
theorem mc_126 : mCode 126 = zc_126 := rfl
theorem b126 {σ : zSt} {o : Nat} {sc : Nat → Int32} {ar : Nat → Nat → Int32} {P : Option Value → zSt → Prop} (hR : RShape σ o) {x1 x2 : Int32} :
    wpM 126 [.ref o, .int x1, .int x2] (rOv σ o sc ar) P ↔ wpM 119 [.ref o, .int x1, .int x2] (rOv σ o sc ar) (fun r τ => wp 126 6 [some (.ref o), some (.int x1), some (.int x2)] (r.toList ++ []) τ P) := by
  show wp 126 0 [some (.ref o), some (.int x1), some (.int x2)] [] (rOv σ o sc ar) P ↔ _
  refine (wp_s (n := 1) (zcode_of mc_126 (r := (.aload_n 0, 0, 0, 0)) rfl) rfl rfl).trans ?_
  refine (wp_s (n := 2) (zcode_of mc_126 (r := (.iload_n 1, 0, 0, 0)) rfl) rfl rfl).trans ?_
  refine (wp_s (n := 3) (zcode_of mc_126 (r := (.iload_n 2, 0, 0, 0)) rfl) rfl rfl).trans ?_
  exact wp_call (q := ([.ref o, .int x1, .int x2], [])) (zcode_of mc_126 (r := (.invokevirtual 156, 119, 0, 2)) rfl) rfl (zCa_V (Nat.le_of_ble_eq_true rfl) rfl hR.tg) ⟨Nat.le_of_ble_eq_true rfl, Nat.le_of_ble_eq_true rfl⟩
theorem b126_6 {σ : zSt} {o : Nat} {sc : Nat → Int32} {ar : Nat → Nat → Int32} {P : Option Value → zSt → Prop} (hR : RShape σ o) {x1 x2 s0 : Int32} :
    wp 126 6 [some (.ref o), some (.int x1), some (.int x2)] [.int s0] (rOv σ o sc ar) P ↔ (if s0 = 0 then wp 126 14 [some (.ref o), some (.int x1), some (.int x2)] [] (rOv σ o sc ar) P else wp 126 9 [some (.ref o), some (.int x1), some (.int x2)] [] (rOv σ o sc ar) P) := by
  exact wp_jump (off := 8) (t := 14) (zcode_of mc_126 (r := (.ifCond .eq 8, 0, 0, 0)) rfl) rfl rfl (by decide)
theorem b126_9 {σ : zSt} {o : Nat} {sc : Nat → Int32} {ar : Nat → Nat → Int32} {P : Option Value → zSt → Prop} (hR : RShape σ o) {x1 x2 : Int32} :
    wp 126 9 [some (.ref o), some (.int x1), some (.int x2)] [] (rOv σ o sc ar) P ↔ wp 126 39 [some (.ref o), some (.int x1), some (.int x2)] [.int (-2)] (rOv σ o sc ar) P := by
  refine (wp_bp (n' := 11) rfl (zcode_of mc_126 (r := (.bipush (-2), 0, 0, 0)) rfl) cb_m2).trans ?_
  exact wp_goto (off := 28) (t := 39) (zcode_of mc_126 (r := (.goto 28, 0, 0, 0)) rfl) (by decide)
theorem b126_14 {σ : zSt} {o : Nat} {sc : Nat → Int32} {ar : Nat → Nat → Int32} {P : Option Value → zSt → Prop} (hR : RShape σ o) {x1 x2 : Int32} :
    wp 126 14 [some (.ref o), some (.int x1), some (.int x2)] [] (rOv σ o sc ar) P ↔ (zIn x2 (rlen 23) ∧ (if (ar 23 (Int32.toNatClampNeg x2)) = 0 then wp 126 28 [some (.ref o), some (.int x1), some (.int x2)] [] (rOv σ o sc ar) P else wp 126 23 [some (.ref o), some (.int x1), some (.int x2)] [] (rOv σ o sc ar) P)) := by
  refine (wp_s (n := 15) (zcode_of mc_126 (r := (.aload_n 0, 0, 0, 0)) rfl) rfl rfl).trans ?_
  refine (wr_getA (n' := 18) rfl (t := 23) hR (zcode_of mc_126 (r := (.getfield 20, 12, 3, 0)) rfl) rfl rfl).trans ?_
  refine (wp_s (n := 19) (zcode_of mc_126 (r := (.iload_n 2, 0, 0, 0)) rfl) rfl rfl).trans ?_
  refine (wr_ldZ (n' := 20) rfl hR (zcode_of mc_126 (r := (.baload, 0, 0, 0)) rfl) rfl rfl).trans (and_congr Iff.rfl ?_)
  exact wp_jump (off := 8) (t := 28) (zcode_of mc_126 (r := (.ifCond .eq 8, 0, 0, 0)) rfl) rfl rfl (by decide)
theorem b126_23 {σ : zSt} {o : Nat} {sc : Nat → Int32} {ar : Nat → Nat → Int32} {P : Option Value → zSt → Prop} (hR : RShape σ o) {x1 x2 : Int32} :
    wp 126 23 [some (.ref o), some (.int x1), some (.int x2)] [] (rOv σ o sc ar) P ↔ wp 126 39 [some (.ref o), some (.int x1), some (.int x2)] [.int (-3)] (rOv σ o sc ar) P := by
  refine (wp_bp (n' := 25) rfl (zcode_of mc_126 (r := (.bipush (-3), 0, 0, 0)) rfl) cb_m3).trans ?_
  exact wp_goto (off := 14) (t := 39) (zcode_of mc_126 (r := (.goto 14, 0, 0, 0)) rfl) (by decide)
theorem b126_28 {σ : zSt} {o : Nat} {sc : Nat → Int32} {ar : Nat → Nat → Int32} {P : Option Value → zSt → Prop} (hR : RShape σ o) {x1 x2 : Int32} :
    wp 126 28 [some (.ref o), some (.int x1), some (.int x2)] [] (rOv σ o sc ar) P ↔ (zIn ((60 * x1) + x2) (rlen 25) ∧ wp 126 39 [some (.ref o), some (.int x1), some (.int x2)] [.int (ar 25 (Int32.toNatClampNeg ((60 * x1) + x2)))] (rOv σ o sc ar) P) := by
  refine (wp_s (n := 29) (zcode_of mc_126 (r := (.aload_n 0, 0, 0, 0)) rfl) rfl rfl).trans ?_
  refine (wr_getA (n' := 32) rfl (t := 25) hR (zcode_of mc_126 (r := (.getfield 27, 12, 5, 0)) rfl) rfl rfl).trans ?_
  refine (wp_bp (n' := 34) rfl (zcode_of mc_126 (r := (.bipush 60, 0, 0, 0)) rfl) cb_60).trans ?_
  refine (wp_s (n := 35) (zcode_of mc_126 (r := (.iload_n 1, 0, 0, 0)) rfl) rfl rfl).trans ?_
  refine (wp_s (n := 36) (zcode_of mc_126 (r := (.imul, 0, 0, 0)) rfl) rfl rfl).trans ?_
  refine (wp_s (n := 37) (zcode_of mc_126 (r := (.iload_n 2, 0, 0, 0)) rfl) rfl rfl).trans ?_
  refine (wp_s (n := 38) (zcode_of mc_126 (r := (.iadd, 0, 0, 0)) rfl) rfl rfl).trans ?_
  refine (wr_ld (n' := 39) rfl hR (zcode_of mc_126 (r := (.iaload, 0, 0, 0)) rfl) rfl rfl).trans (and_congr Iff.rfl ?_)
  exact Iff.rfl
theorem b126_39 {σ : zSt} {o : Nat} {sc : Nat → Int32} {ar : Nat → Nat → Int32} {P : Option Value → zSt → Prop} (hR : RShape σ o) {x1 x2 s0 : Int32} :
    wp 126 39 [some (.ref o), some (.int x1), some (.int x2)] [.int s0] (rOv σ o sc ar) P ↔ P (some (.int s0)) (rOv σ o sc ar) := by
  exact wp_retI (zcode_of mc_126 (r := (.ireturn, 0, 0, 0)) rfl) rfl
theorem mc_127 : mCode 127 = zc_127 := rfl
theorem b127 {σ : zSt} {o : Nat} {sc : Nat → Int32} {ar : Nat → Nat → Int32} {P : Option Value → zSt → Prop} (hR : RShape σ o) {x1 x2 x3 : Int32} :
    wpM 127 [.ref o, .int x1, .int x2, .int x3] (rOv σ o sc ar) P ↔ wpM 119 [.ref o, .int x1, .int x2] (rOv σ o sc ar) (fun r τ => wp 127 6 [some (.ref o), some (.int x1), some (.int x2), some (.int x3)] (r.toList ++ []) τ P) := by
  show wp 127 0 [some (.ref o), some (.int x1), some (.int x2), some (.int x3)] [] (rOv σ o sc ar) P ↔ _
  refine (wp_s (n := 1) (zcode_of mc_127 (r := (.aload_n 0, 0, 0, 0)) rfl) rfl rfl).trans ?_
  refine (wp_s (n := 2) (zcode_of mc_127 (r := (.iload_n 1, 0, 0, 0)) rfl) rfl rfl).trans ?_
  refine (wp_s (n := 3) (zcode_of mc_127 (r := (.iload_n 2, 0, 0, 0)) rfl) rfl rfl).trans ?_
  exact wp_call (q := ([.ref o, .int x1, .int x2], [])) (zcode_of mc_127 (r := (.invokevirtual 156, 119, 0, 2)) rfl) rfl (zCa_V (Nat.le_of_ble_eq_true rfl) rfl hR.tg) ⟨Nat.le_of_ble_eq_true rfl, Nat.le_of_ble_eq_true rfl⟩
theorem b127_6 {σ : zSt} {o : Nat} {sc : Nat → Int32} {ar : Nat → Nat → Int32} {P : Option Value → zSt → Prop} (hR : RShape σ o) {x1 x2 x3 s0 : Int32} :
    wp 127 6 [some (.ref o), some (.int x1), some (.int x2), some (.int x3)] [.int s0] (rOv σ o sc ar) P ↔ (if s0 = 0 then wp 127 12 [some (.ref o), some (.int x1), some (.int x2), some (.int x3)] [] (rOv σ o sc ar) P else wp 127 9 [some (.ref o), some (.int x1), some (.int x2), some (.int x3)] [] (rOv σ o sc ar) P) := by
  exact wp_jump (off := 6) (t := 12) (zcode_of mc_127 (r := (.ifCond .eq 6, 0, 0, 0)) rfl) rfl rfl (by decide)
theorem b127_9 {σ : zSt} {o : Nat} {sc : Nat → Int32} {ar : Nat → Nat → Int32} {P : Option Value → zSt → Prop} (hR : RShape σ o) {x1 x2 x3 : Int32} :
    wp 127 9 [some (.ref o), some (.int x1), some (.int x2), some (.int x3)] [] (rOv σ o sc ar) P ↔ P (some (.int (-2))) (rOv σ o sc ar) := by
  refine (wp_bp (n' := 11) rfl (zcode_of mc_127 (r := (.bipush (-2), 0, 0, 0)) rfl) cb_m2).trans ?_
  exact wp_retI (zcode_of mc_127 (r := (.ireturn, 0, 0, 0)) rfl) rfl
theorem b127_12 {σ : zSt} {o : Nat} {sc : Nat → Int32} {ar : Nat → Nat → Int32} {P : Option Value → zSt → Prop} (hR : RShape σ o) {x1 x2 x3 : Int32} :
    wp 127 12 [some (.ref o), some (.int x1), some (.int x2), some (.int x3)] [] (rOv σ o sc ar) P ↔ (zIn x2 (rlen 23) ∧ (if (ar 23 (Int32.toNatClampNeg x2)) = 0 then wp 127 24 [some (.ref o), some (.int x1), some (.int x2), some (.int x3)] [] (rOv σ o sc ar) P else wp 127 21 [some (.ref o), some (.int x1), some (.int x2), some (.int x3)] [] (rOv σ o sc ar) P)) := by
  refine (wp_s (n := 13) (zcode_of mc_127 (r := (.aload_n 0, 0, 0, 0)) rfl) rfl rfl).trans ?_
  refine (wr_getA (n' := 16) rfl (t := 23) hR (zcode_of mc_127 (r := (.getfield 20, 12, 3, 0)) rfl) rfl rfl).trans ?_
  refine (wp_s (n := 17) (zcode_of mc_127 (r := (.iload_n 2, 0, 0, 0)) rfl) rfl rfl).trans ?_
  refine (wr_ldZ (n' := 18) rfl hR (zcode_of mc_127 (r := (.baload, 0, 0, 0)) rfl) rfl rfl).trans (and_congr Iff.rfl ?_)
  exact wp_jump (off := 6) (t := 24) (zcode_of mc_127 (r := (.ifCond .eq 6, 0, 0, 0)) rfl) rfl rfl (by decide)
theorem b127_21 {σ : zSt} {o : Nat} {sc : Nat → Int32} {ar : Nat → Nat → Int32} {P : Option Value → zSt → Prop} (hR : RShape σ o) {x1 x2 x3 : Int32} :
    wp 127 21 [some (.ref o), some (.int x1), some (.int x2), some (.int x3)] [] (rOv σ o sc ar) P ↔ P (some (.int (-3))) (rOv σ o sc ar) := by
  refine (wp_bp (n' := 23) rfl (zcode_of mc_127 (r := (.bipush (-3), 0, 0, 0)) rfl) cb_m3).trans ?_
  exact wp_retI (zcode_of mc_127 (r := (.ireturn, 0, 0, 0)) rfl) rfl
theorem b127_24 {σ : zSt} {o : Nat} {sc : Nat → Int32} {ar : Nat → Nat → Int32} {P : Option Value → zSt → Prop} (hR : RShape σ o) {x1 x2 x3 : Int32} :
    wp 127 24 [some (.ref o), some (.int x1), some (.int x2), some (.int x3)] [] (rOv σ o sc ar) P ↔ (zIn ((60 * x1) + x2) (rlen 25) ∧ wpM 113 [.int x3, .int 0, .int ((ar 25 (Int32.toNatClampNeg ((60 * x1) + x2))) - 1)] (rOv σ o sc ar) (fun r τ => wp 127 42 [some (.ref o), some (.int x1), some (.int x2), some (.int x3)] (r.toList ++ []) τ P)) := by
  refine (wp_s (n := 25) (zcode_of mc_127 (r := (.iload_n 3, 0, 0, 0)) rfl) rfl rfl).trans ?_
  refine (wp_ic (n' := 26) rfl (zcode_of mc_127 (r := (.iconst 0, 0, 0, 0)) rfl) ci_0).trans ?_
  refine (wp_s (n := 27) (zcode_of mc_127 (r := (.aload_n 0, 0, 0, 0)) rfl) rfl rfl).trans ?_
  refine (wr_getA (n' := 30) rfl (t := 25) hR (zcode_of mc_127 (r := (.getfield 27, 12, 5, 0)) rfl) rfl rfl).trans ?_
  refine (wp_bp (n' := 32) rfl (zcode_of mc_127 (r := (.bipush 60, 0, 0, 0)) rfl) cb_60).trans ?_
  refine (wp_s (n := 33) (zcode_of mc_127 (r := (.iload_n 1, 0, 0, 0)) rfl) rfl rfl).trans ?_
  refine (wp_s (n := 34) (zcode_of mc_127 (r := (.imul, 0, 0, 0)) rfl) rfl rfl).trans ?_
  refine (wp_s (n := 35) (zcode_of mc_127 (r := (.iload_n 2, 0, 0, 0)) rfl) rfl rfl).trans ?_
  refine (wp_s (n := 36) (zcode_of mc_127 (r := (.iadd, 0, 0, 0)) rfl) rfl rfl).trans ?_
  refine (wr_ld (n' := 37) rfl hR (zcode_of mc_127 (r := (.iaload, 0, 0, 0)) rfl) rfl rfl).trans (and_congr Iff.rfl ?_)
  refine (wp_ic (n' := 38) rfl (zcode_of mc_127 (r := (.iconst 1, 0, 0, 0)) rfl) ci_1).trans ?_
  refine (wp_s (n := 39) (zcode_of mc_127 (r := (.isub, 0, 0, 0)) rfl) rfl rfl).trans ?_
  exact wp_call (q := ([.int x3, .int 0, .int ((ar 25 (Int32.toNatClampNeg ((60 * x1) + x2))) - 1)], [])) (zcode_of mc_127 (r := (.invokestatic 140, 113, 1, 3)) rfl) rfl rfl ⟨Nat.le_of_ble_eq_true rfl, Nat.le_of_ble_eq_true rfl⟩
theorem b127_42 {σ : zSt} {o : Nat} {sc : Nat → Int32} {ar : Nat → Nat → Int32} {P : Option Value → zSt → Prop} (hR : RShape σ o) {x1 x2 x3 s0 : Int32} :
    wp 127 42 [some (.ref o), some (.int x1), some (.int x2), some (.int x3)] [.int s0] (rOv σ o sc ar) P ↔ (if s0 = 0 then wp 127 64 [some (.ref o), some (.int x1), some (.int x2), some (.int x3)] [] (rOv σ o sc ar) P else wp 127 45 [some (.ref o), some (.int x1), some (.int x2), some (.int x3)] [] (rOv σ o sc ar) P) := by
  exact wp_jump (off := 22) (t := 64) (zcode_of mc_127 (r := (.ifCond .eq 22, 0, 0, 0)) rfl) rfl rfl (by decide)
theorem b127_45 {σ : zSt} {o : Nat} {sc : Nat → Int32} {ar : Nat → Nat → Int32} {P : Option Value → zSt → Prop} (hR : RShape σ o) {x1 x2 x3 : Int32} :
    wp 127 45 [some (.ref o), some (.int x1), some (.int x2), some (.int x3)] [] (rOv σ o sc ar) P ↔ (zIn ((64 * ((60 * x1) + x2)) + x3) (rlen 26) ∧ wp 127 66 [some (.ref o), some (.int x1), some (.int x2), some (.int x3)] [.int (ar 26 (Int32.toNatClampNeg ((64 * ((60 * x1) + x2)) + x3)))] (rOv σ o sc ar) P) := by
  refine (wp_s (n := 46) (zcode_of mc_127 (r := (.aload_n 0, 0, 0, 0)) rfl) rfl rfl).trans ?_
  refine (wr_getA (n' := 49) rfl (t := 26) hR (zcode_of mc_127 (r := (.getfield 30, 12, 6, 0)) rfl) rfl rfl).trans ?_
  refine (wp_bp (n' := 51) rfl (zcode_of mc_127 (r := (.bipush 64, 0, 0, 0)) rfl) cb_64).trans ?_
  refine (wp_bp (n' := 53) rfl (zcode_of mc_127 (r := (.bipush 60, 0, 0, 0)) rfl) cb_60).trans ?_
  refine (wp_s (n := 54) (zcode_of mc_127 (r := (.iload_n 1, 0, 0, 0)) rfl) rfl rfl).trans ?_
  refine (wp_s (n := 55) (zcode_of mc_127 (r := (.imul, 0, 0, 0)) rfl) rfl rfl).trans ?_
  refine (wp_s (n := 56) (zcode_of mc_127 (r := (.iload_n 2, 0, 0, 0)) rfl) rfl rfl).trans ?_
  refine (wp_s (n := 57) (zcode_of mc_127 (r := (.iadd, 0, 0, 0)) rfl) rfl rfl).trans ?_
  refine (wp_s (n := 58) (zcode_of mc_127 (r := (.imul, 0, 0, 0)) rfl) rfl rfl).trans ?_
  refine (wp_s (n := 59) (zcode_of mc_127 (r := (.iload_n 3, 0, 0, 0)) rfl) rfl rfl).trans ?_
  refine (wp_s (n := 60) (zcode_of mc_127 (r := (.iadd, 0, 0, 0)) rfl) rfl rfl).trans ?_
  refine (wr_ld (n' := 61) rfl hR (zcode_of mc_127 (r := (.iaload, 0, 0, 0)) rfl) rfl rfl).trans (and_congr Iff.rfl ?_)
  exact wp_goto (off := 5) (t := 66) (zcode_of mc_127 (r := (.goto 5, 0, 0, 0)) rfl) (by decide)
theorem b127_64 {σ : zSt} {o : Nat} {sc : Nat → Int32} {ar : Nat → Nat → Int32} {P : Option Value → zSt → Prop} (hR : RShape σ o) {x1 x2 x3 : Int32} :
    wp 127 64 [some (.ref o), some (.int x1), some (.int x2), some (.int x3)] [] (rOv σ o sc ar) P ↔ wp 127 66 [some (.ref o), some (.int x1), some (.int x2), some (.int x3)] [.int (-2)] (rOv σ o sc ar) P := by
  refine (wp_bp (n' := 66) rfl (zcode_of mc_127 (r := (.bipush (-2), 0, 0, 0)) rfl) cb_m2).trans ?_
  exact Iff.rfl
theorem b127_66 {σ : zSt} {o : Nat} {sc : Nat → Int32} {ar : Nat → Nat → Int32} {P : Option Value → zSt → Prop} (hR : RShape σ o) {x1 x2 x3 s0 : Int32} :
    wp 127 66 [some (.ref o), some (.int x1), some (.int x2), some (.int x3)] [.int s0] (rOv σ o sc ar) P ↔ P (some (.int s0)) (rOv σ o sc ar) := by
  exact wp_retI (zcode_of mc_127 (r := (.ireturn, 0, 0, 0)) rfl) rfl
theorem mc_128 : mCode 128 = zc_128 := rfl
theorem b128 {σ : zSt} {o : Nat} {sc : Nat → Int32} {ar : Nat → Nat → Int32} {P : Option Value → zSt → Prop} (hR : RShape σ o) :
    wpM 128 [.ref o] (rOv σ o sc ar) P ↔ (if ¬ (sc 9) = 40 then wp 128 12 [some (.ref o)] [] (rOv σ o sc ar) P else wp 128 9 [some (.ref o)] [] (rOv σ o sc ar) P) := by
  show wp 128 0 [some (.ref o)] [] (rOv σ o sc ar) P ↔ _
  refine (wp_s (n := 1) (zcode_of mc_128 (r := (.aload_n 0, 0, 0, 0)) rfl) rfl rfl).trans ?_
  refine (wr_getI (n' := 4) rfl hR (zcode_of mc_128 (r := (.getfield 144, 12, 9, 0)) rfl) rfl).trans ?_
  refine (wp_bp (n' := 6) rfl (zcode_of mc_128 (r := (.bipush 40, 0, 0, 0)) rfl) cb_40).trans ?_
  exact wp_jump (off := 6) (t := 12) (zcode_of mc_128 (r := (.if_icmp .ne 6, 0, 0, 0)) rfl) rfl rfl (by decide)
theorem b128_9 {σ : zSt} {o : Nat} {sc : Nat → Int32} {ar : Nat → Nat → Int32} {P : Option Value → zSt → Prop} (hR : RShape σ o) :
    wp 128 9 [some (.ref o)] [] (rOv σ o sc ar) P ↔ P (some (.int (-6))) (rOv σ o sc ar) := by
  refine (wp_bp (n' := 11) rfl (zcode_of mc_128 (r := (.bipush (-6), 0, 0, 0)) rfl) cb_m6).trans ?_
  exact wp_retI (zcode_of mc_128 (r := (.ireturn, 0, 0, 0)) rfl) rfl
theorem b128_12 {σ : zSt} {o : Nat} {sc : Nat → Int32} {ar : Nat → Nat → Int32} {P : Option Value → zSt → Prop} (hR : RShape σ o) :
    wp 128 12 [some (.ref o)] [] (rOv σ o sc ar) P ↔ (zIn (sc 9) (rlen 31) ∧ (zIn (sc 9) (rlen 33) ∧ (zIn (sc 9) (rlen 36) ∧ ((zIn (sc 9) (rlen 37) ∧ ((0 : Int32) = 0 ∨ (0 : Int32) = 1)) ∧ ((zIn (40 + (sc 9)) (rlen 37) ∧ ((0 : Int32) = 0 ∨ (0 : Int32) = 1)) ∧ P (some (.int (((upS sc 9 ((sc 9) + 1)) 9) - 1))) (rOv σ o (upS sc 9 ((sc 9) + 1)) (upA (upA (upA (upA (upA ar 31 (Int32.toNatClampNeg (sc 9)) 0) 33 (Int32.toNatClampNeg (sc 9)) 0) 36 (Int32.toNatClampNeg (sc 9)) 0) 37 (Int32.toNatClampNeg (sc 9)) 0) 37 (Int32.toNatClampNeg (40 + (sc 9))) 0))))))) := by
  refine (wp_s (n := 13) (zcode_of mc_128 (r := (.aload_n 0, 0, 0, 0)) rfl) rfl rfl).trans ?_
  refine (wr_getA (n' := 16) rfl (t := 31) hR (zcode_of mc_128 (r := (.getfield 39, 12, 11, 0)) rfl) rfl rfl).trans ?_
  refine (wp_s (n := 17) (zcode_of mc_128 (r := (.aload_n 0, 0, 0, 0)) rfl) rfl rfl).trans ?_
  refine (wr_getI (n' := 20) rfl hR (zcode_of mc_128 (r := (.getfield 144, 12, 9, 0)) rfl) rfl).trans ?_
  refine (wp_ic (n' := 21) rfl (zcode_of mc_128 (r := (.iconst 0, 0, 0, 0)) rfl) ci_0).trans ?_
  refine (wr_st (n' := 22) rfl hR (zcode_of mc_128 (r := (.iastore, 0, 0, 0)) rfl) rfl rfl).trans (and_congr Iff.rfl ?_)
  refine (wp_s (n := 23) (zcode_of mc_128 (r := (.aload_n 0, 0, 0, 0)) rfl) rfl rfl).trans ?_
  refine (wr_getA (n' := 26) rfl (t := 33) hR (zcode_of mc_128 (r := (.getfield 45, 12, 13, 0)) rfl) rfl rfl).trans ?_
  refine (wp_s (n := 27) (zcode_of mc_128 (r := (.aload_n 0, 0, 0, 0)) rfl) rfl rfl).trans ?_
  refine (wr_getI (n' := 30) rfl hR (zcode_of mc_128 (r := (.getfield 144, 12, 9, 0)) rfl) rfl).trans ?_
  refine (wp_ic (n' := 31) rfl (zcode_of mc_128 (r := (.iconst 0, 0, 0, 0)) rfl) ci_0).trans ?_
  refine (wr_st (n' := 32) rfl hR (zcode_of mc_128 (r := (.iastore, 0, 0, 0)) rfl) rfl rfl).trans (and_congr Iff.rfl ?_)
  refine (wp_s (n := 33) (zcode_of mc_128 (r := (.aload_n 0, 0, 0, 0)) rfl) rfl rfl).trans ?_
  refine (wr_getA (n' := 36) rfl (t := 36) hR (zcode_of mc_128 (r := (.getfield 54, 12, 16, 0)) rfl) rfl rfl).trans ?_
  refine (wp_s (n := 37) (zcode_of mc_128 (r := (.aload_n 0, 0, 0, 0)) rfl) rfl rfl).trans ?_
  refine (wr_getI (n' := 40) rfl hR (zcode_of mc_128 (r := (.getfield 144, 12, 9, 0)) rfl) rfl).trans ?_
  refine (wp_ic (n' := 41) rfl (zcode_of mc_128 (r := (.iconst 0, 0, 0, 0)) rfl) ci_0).trans ?_
  refine (wr_st (n' := 42) rfl hR (zcode_of mc_128 (r := (.iastore, 0, 0, 0)) rfl) rfl rfl).trans (and_congr Iff.rfl ?_)
  refine (wp_s (n := 43) (zcode_of mc_128 (r := (.aload_n 0, 0, 0, 0)) rfl) rfl rfl).trans ?_
  refine (wr_getA (n' := 46) rfl (t := 37) hR (zcode_of mc_128 (r := (.getfield 57, 12, 17, 0)) rfl) rfl rfl).trans ?_
  refine (wp_s (n := 47) (zcode_of mc_128 (r := (.aload_n 0, 0, 0, 0)) rfl) rfl rfl).trans ?_
  refine (wr_getI (n' := 50) rfl hR (zcode_of mc_128 (r := (.getfield 144, 12, 9, 0)) rfl) rfl).trans ?_
  refine (wp_ic (n' := 51) rfl (zcode_of mc_128 (r := (.iconst 0, 0, 0, 0)) rfl) ci_0).trans ?_
  refine (wr_stZ (n' := 52) rfl hR (zcode_of mc_128 (r := (.bastore, 0, 0, 0)) rfl) rfl rfl).trans (and_congr Iff.rfl ?_)
  refine (wp_s (n := 53) (zcode_of mc_128 (r := (.aload_n 0, 0, 0, 0)) rfl) rfl rfl).trans ?_
  refine (wr_getA (n' := 56) rfl (t := 37) hR (zcode_of mc_128 (r := (.getfield 57, 12, 17, 0)) rfl) rfl rfl).trans ?_
  refine (wp_bp (n' := 58) rfl (zcode_of mc_128 (r := (.bipush 40, 0, 0, 0)) rfl) cb_40).trans ?_
  refine (wp_s (n := 59) (zcode_of mc_128 (r := (.aload_n 0, 0, 0, 0)) rfl) rfl rfl).trans ?_
  refine (wr_getI (n' := 62) rfl hR (zcode_of mc_128 (r := (.getfield 144, 12, 9, 0)) rfl) rfl).trans ?_
  refine (wp_s (n := 63) (zcode_of mc_128 (r := (.iadd, 0, 0, 0)) rfl) rfl rfl).trans ?_
  refine (wp_ic (n' := 64) rfl (zcode_of mc_128 (r := (.iconst 0, 0, 0, 0)) rfl) ci_0).trans ?_
  refine (wr_stZ (n' := 65) rfl hR (zcode_of mc_128 (r := (.bastore, 0, 0, 0)) rfl) rfl rfl).trans (and_congr Iff.rfl ?_)
  refine (wp_s (n := 66) (zcode_of mc_128 (r := (.aload_n 0, 0, 0, 0)) rfl) rfl rfl).trans ?_
  refine (wp_s (n := 67) (zcode_of mc_128 (r := (.dup, 0, 0, 0)) rfl) rfl rfl).trans ?_
  refine (wr_getI (n' := 70) rfl hR (zcode_of mc_128 (r := (.getfield 144, 12, 9, 0)) rfl) rfl).trans ?_
  refine (wp_ic (n' := 71) rfl (zcode_of mc_128 (r := (.iconst 1, 0, 0, 0)) rfl) ci_1).trans ?_
  refine (wp_s (n := 72) (zcode_of mc_128 (r := (.iadd, 0, 0, 0)) rfl) rfl rfl).trans ?_
  refine (wr_put (n' := 75) rfl hR (zcode_of mc_128 (r := (.putfield 144, 12, 9, 0)) rfl) rfl).trans ?_
  refine (wp_s (n := 76) (zcode_of mc_128 (r := (.aload_n 0, 0, 0, 0)) rfl) rfl rfl).trans ?_
  refine (wr_getI (n' := 79) rfl hR (zcode_of mc_128 (r := (.getfield 144, 12, 9, 0)) rfl) rfl).trans ?_
  refine (wp_ic (n' := 80) rfl (zcode_of mc_128 (r := (.iconst 1, 0, 0, 0)) rfl) ci_1).trans ?_
  refine (wp_s (n := 81) (zcode_of mc_128 (r := (.isub, 0, 0, 0)) rfl) rfl rfl).trans ?_
  exact wp_retI (zcode_of mc_128 (r := (.ireturn, 0, 0, 0)) rfl) rfl
theorem mc_129 : mCode 129 = zc_129 := rfl
theorem b129 {σ : zSt} {o : Nat} {sc : Nat → Int32} {ar : Nat → Nat → Int32} {P : Option Value → zSt → Prop} (hR : RShape σ o) {x1 x2 : Int32} :
    wpM 129 [.ref o, .int x1, .int x2] (rOv σ o sc ar) P ↔ wp 129 5 [some (.ref o), some (.int x1), some (.int x2), some (.int 0), some (.int 0), none, none, none] [] (rOv σ o sc ar) P := by
  show wp 129 0 [some (.ref o), some (.int x1), some (.int x2), none, none, none, none, none] [] (rOv σ o sc ar) P ↔ _
  refine (wp_ic (n' := 1) rfl (zcode_of mc_129 (r := (.iconst 0, 0, 0, 0)) rfl) ci_0).trans ?_
  refine (wp_s (n := 2) (zcode_of mc_129 (r := (.istore_n 3, 0, 0, 0)) rfl) rfl rfl).trans ?_
  refine (wp_ic (n' := 3) rfl (zcode_of mc_129 (r := (.iconst 0, 0, 0, 0)) rfl) ci_0).trans ?_
  refine (wp_s (n := 5) (zcode_of mc_129 (r := (.istore 4, 0, 0, 0)) rfl) rfl rfl).trans ?_
  exact Iff.rfl
theorem b129_5 {σ : zSt} {o : Nat} {sc : Nat → Int32} {ar : Nat → Nat → Int32} {P : Option Value → zSt → Prop} (hR : RShape σ o) {x1 x2 x3 x4 : Int32} {u5 u6 u7 : Option Value} :
    wp 129 5 [some (.ref o), some (.int x1), some (.int x2), some (.int x3), some (.int x4), u5, u6, u7] [] (rOv σ o sc ar) P ↔ (zIn x1 (rlen 31) ∧ (if (ar 31 (Int32.toNatClampNeg x1)) ≤ x4 then wp 129 98 [some (.ref o), some (.int x1), some (.int x2), some (.int x3), some (.int x4), u5, u6, u7] [] (rOv σ o sc ar) P else wp 129 16 [some (.ref o), some (.int x1), some (.int x2), some (.int x3), some (.int x4), u5, u6, u7] [] (rOv σ o sc ar) P)) := by
  refine (wp_s (n := 7) (zcode_of mc_129 (r := (.iload 4, 0, 0, 0)) rfl) rfl rfl).trans ?_
  refine (wp_s (n := 8) (zcode_of mc_129 (r := (.aload_n 0, 0, 0, 0)) rfl) rfl rfl).trans ?_
  refine (wr_getA (n' := 11) rfl (t := 31) hR (zcode_of mc_129 (r := (.getfield 39, 12, 11, 0)) rfl) rfl rfl).trans ?_
  refine (wp_s (n := 12) (zcode_of mc_129 (r := (.iload_n 1, 0, 0, 0)) rfl) rfl rfl).trans ?_
  refine (wr_ld (n' := 13) rfl hR (zcode_of mc_129 (r := (.iaload, 0, 0, 0)) rfl) rfl rfl).trans (and_congr Iff.rfl ?_)
  exact wp_jump (off := 85) (t := 98) (zcode_of mc_129 (r := (.if_icmp .ge 85, 0, 0, 0)) rfl) rfl rfl (by decide)
theorem b129_16 {σ : zSt} {o : Nat} {sc : Nat → Int32} {ar : Nat → Nat → Int32} {P : Option Value → zSt → Prop} (hR : RShape σ o) {x1 x2 x3 x4 : Int32} {u5 u6 u7 : Option Value} :
    wp 129 16 [some (.ref o), some (.int x1), some (.int x2), some (.int x3), some (.int x4), u5, u6, u7] [] (rOv σ o sc ar) P ↔ (zIn ((6 * x1) + x4) (rlen 30) ∧ wp 129 33 [some (.ref o), some (.int x1), some (.int x2), some (.int x3), some (.int x4), some (.int (ar 30 (Int32.toNatClampNeg ((6 * x1) + x4)))), some (.int 0), u7] [] (rOv σ o sc ar) P) := by
  refine (wp_s (n := 17) (zcode_of mc_129 (r := (.aload_n 0, 0, 0, 0)) rfl) rfl rfl).trans ?_
  refine (wr_getA (n' := 20) rfl (t := 30) hR (zcode_of mc_129 (r := (.getfield 36, 12, 10, 0)) rfl) rfl rfl).trans ?_
  refine (wp_bp (n' := 22) rfl (zcode_of mc_129 (r := (.bipush 6, 0, 0, 0)) rfl) cb_6).trans ?_
  refine (wp_s (n := 23) (zcode_of mc_129 (r := (.iload_n 1, 0, 0, 0)) rfl) rfl rfl).trans ?_
  refine (wp_s (n := 24) (zcode_of mc_129 (r := (.imul, 0, 0, 0)) rfl) rfl rfl).trans ?_
  refine (wp_s (n := 26) (zcode_of mc_129 (r := (.iload 4, 0, 0, 0)) rfl) rfl rfl).trans ?_
  refine (wp_s (n := 27) (zcode_of mc_129 (r := (.iadd, 0, 0, 0)) rfl) rfl rfl).trans ?_
  refine (wr_ld (n' := 28) rfl hR (zcode_of mc_129 (r := (.iaload, 0, 0, 0)) rfl) rfl rfl).trans (and_congr Iff.rfl ?_)
  refine (wp_s (n := 30) (zcode_of mc_129 (r := (.istore 5, 0, 0, 0)) rfl) rfl rfl).trans ?_
  refine (wp_ic (n' := 31) rfl (zcode_of mc_129 (r := (.iconst 0, 0, 0, 0)) rfl) ci_0).trans ?_
  refine (wp_s (n := 33) (zcode_of mc_129 (r := (.istore 6, 0, 0, 0)) rfl) rfl rfl).trans ?_
  exact Iff.rfl
theorem b129_33 {σ : zSt} {o : Nat} {sc : Nat → Int32} {ar : Nat → Nat → Int32} {P : Option Value → zSt → Prop} (hR : RShape σ o) {x1 x2 x3 x4 x5 x6 : Int32} {u7 : Option Value} :
    wp 129 33 [some (.ref o), some (.int x1), some (.int x2), some (.int x3), some (.int x4), some (.int x5), some (.int x6), u7] [] (rOv σ o sc ar) P ↔ (zIn x2 (rlen 33) ∧ (if (ar 33 (Int32.toNatClampNeg x2)) ≤ x6 then wp 129 92 [some (.ref o), some (.int x1), some (.int x2), some (.int x3), some (.int x4), some (.int x5), some (.int x6), u7] [] (rOv σ o sc ar) P else wp 129 44 [some (.ref o), some (.int x1), some (.int x2), some (.int x3), some (.int x4), some (.int x5), some (.int x6), u7] [] (rOv σ o sc ar) P)) := by
  refine (wp_s (n := 35) (zcode_of mc_129 (r := (.iload 6, 0, 0, 0)) rfl) rfl rfl).trans ?_
  refine (wp_s (n := 36) (zcode_of mc_129 (r := (.aload_n 0, 0, 0, 0)) rfl) rfl rfl).trans ?_
  refine (wr_getA (n' := 39) rfl (t := 33) hR (zcode_of mc_129 (r := (.getfield 45, 12, 13, 0)) rfl) rfl rfl).trans ?_
  refine (wp_s (n := 40) (zcode_of mc_129 (r := (.iload_n 2, 0, 0, 0)) rfl) rfl rfl).trans ?_
  refine (wr_ld (n' := 41) rfl hR (zcode_of mc_129 (r := (.iaload, 0, 0, 0)) rfl) rfl rfl).trans (and_congr Iff.rfl ?_)
  exact wp_jump (off := 51) (t := 92) (zcode_of mc_129 (r := (.if_icmp .ge 51, 0, 0, 0)) rfl) rfl rfl (by decide)
theorem b129_44 {σ : zSt} {o : Nat} {sc : Nat → Int32} {ar : Nat → Nat → Int32} {P : Option Value → zSt → Prop} (hR : RShape σ o) {x1 x2 x3 x4 x5 x6 : Int32} {u7 : Option Value} :
    wp 129 44 [some (.ref o), some (.int x1), some (.int x2), some (.int x3), some (.int x4), some (.int x5), some (.int x6), u7] [] (rOv σ o sc ar) P ↔ (zIn ((3 * x2) + x6) (rlen 32) ∧ (if ¬ x3 = 0 then wp 129 80 [some (.ref o), some (.int x1), some (.int x2), some (.int x3), some (.int x4), some (.int x5), some (.int x6), some (.int (ar 32 (Int32.toNatClampNeg ((3 * x2) + x6))))] [] (rOv σ o sc ar) P else wp 129 61 [some (.ref o), some (.int x1), some (.int x2), some (.int x3), some (.int x4), some (.int x5), some (.int x6), some (.int (ar 32 (Int32.toNatClampNeg ((3 * x2) + x6))))] [] (rOv σ o sc ar) P)) := by
  refine (wp_s (n := 45) (zcode_of mc_129 (r := (.aload_n 0, 0, 0, 0)) rfl) rfl rfl).trans ?_
  refine (wr_getA (n' := 48) rfl (t := 32) hR (zcode_of mc_129 (r := (.getfield 42, 12, 12, 0)) rfl) rfl rfl).trans ?_
  refine (wp_ic (n' := 49) rfl (zcode_of mc_129 (r := (.iconst 3, 0, 0, 0)) rfl) ci_3).trans ?_
  refine (wp_s (n := 50) (zcode_of mc_129 (r := (.iload_n 2, 0, 0, 0)) rfl) rfl rfl).trans ?_
  refine (wp_s (n := 51) (zcode_of mc_129 (r := (.imul, 0, 0, 0)) rfl) rfl rfl).trans ?_
  refine (wp_s (n := 53) (zcode_of mc_129 (r := (.iload 6, 0, 0, 0)) rfl) rfl rfl).trans ?_
  refine (wp_s (n := 54) (zcode_of mc_129 (r := (.iadd, 0, 0, 0)) rfl) rfl rfl).trans ?_
  refine (wr_ld (n' := 55) rfl hR (zcode_of mc_129 (r := (.iaload, 0, 0, 0)) rfl) rfl rfl).trans (and_congr Iff.rfl ?_)
  refine (wp_s (n := 57) (zcode_of mc_129 (r := (.istore 7, 0, 0, 0)) rfl) rfl rfl).trans ?_
  refine (wp_s (n := 58) (zcode_of mc_129 (r := (.iload_n 3, 0, 0, 0)) rfl) rfl rfl).trans ?_
  exact wp_jump (off := 22) (t := 80) (zcode_of mc_129 (r := (.ifCond .ne 22, 0, 0, 0)) rfl) rfl rfl (by decide)
theorem b129_61 {σ : zSt} {o : Nat} {sc : Nat → Int32} {ar : Nat → Nat → Int32} {P : Option Value → zSt → Prop} (hR : RShape σ o) {x1 x2 x3 x4 x5 x6 x7 : Int32} :
    wp 129 61 [some (.ref o), some (.int x1), some (.int x2), some (.int x3), some (.int x4), some (.int x5), some (.int x6), some (.int x7)] [] (rOv σ o sc ar) P ↔ (if x7 = x5 then wp 129 80 [some (.ref o), some (.int x1), some (.int x2), some (.int x3), some (.int x4), some (.int x5), some (.int x6), some (.int x7)] [] (rOv σ o sc ar) P else wp 129 68 [some (.ref o), some (.int x1), some (.int x2), some (.int x3), some (.int x4), some (.int x5), some (.int x6), some (.int x7)] [] (rOv σ o sc ar) P) := by
  refine (wp_s (n := 63) (zcode_of mc_129 (r := (.iload 7, 0, 0, 0)) rfl) rfl rfl).trans ?_
  refine (wp_s (n := 65) (zcode_of mc_129 (r := (.iload 5, 0, 0, 0)) rfl) rfl rfl).trans ?_
  exact wp_jump (off := 15) (t := 80) (zcode_of mc_129 (r := (.if_icmp .eq 15, 0, 0, 0)) rfl) rfl rfl (by decide)
theorem b129_68 {σ : zSt} {o : Nat} {sc : Nat → Int32} {ar : Nat → Nat → Int32} {P : Option Value → zSt → Prop} (hR : RShape σ o) {x1 x2 x3 x4 x5 x6 x7 : Int32} :
    wp 129 68 [some (.ref o), some (.int x1), some (.int x2), some (.int x3), some (.int x4), some (.int x5), some (.int x6), some (.int x7)] [] (rOv σ o sc ar) P ↔ (zIn x7 (rlen 21) ∧ (if ¬ (ar 21 (Int32.toNatClampNeg x7)) = x5 then wp 129 84 [some (.ref o), some (.int x1), some (.int x2), some (.int x3), some (.int x4), some (.int x5), some (.int x6), some (.int x7)] [] (rOv σ o sc ar) P else wp 129 80 [some (.ref o), some (.int x1), some (.int x2), some (.int x3), some (.int x4), some (.int x5), some (.int x6), some (.int x7)] [] (rOv σ o sc ar) P)) := by
  refine (wp_s (n := 69) (zcode_of mc_129 (r := (.aload_n 0, 0, 0, 0)) rfl) rfl rfl).trans ?_
  refine (wr_getA (n' := 72) rfl (t := 21) hR (zcode_of mc_129 (r := (.getfield 13, 12, 1, 0)) rfl) rfl rfl).trans ?_
  refine (wp_s (n := 74) (zcode_of mc_129 (r := (.iload 7, 0, 0, 0)) rfl) rfl rfl).trans ?_
  refine (wr_ld (n' := 75) rfl hR (zcode_of mc_129 (r := (.iaload, 0, 0, 0)) rfl) rfl rfl).trans (and_congr Iff.rfl ?_)
  refine (wp_s (n := 77) (zcode_of mc_129 (r := (.iload 5, 0, 0, 0)) rfl) rfl rfl).trans ?_
  exact wp_jump (off := 7) (t := 84) (zcode_of mc_129 (r := (.if_icmp .ne 7, 0, 0, 0)) rfl) rfl rfl (by decide)
theorem b129_80 {σ : zSt} {o : Nat} {sc : Nat → Int32} {ar : Nat → Nat → Int32} {P : Option Value → zSt → Prop} (hR : RShape σ o) {x1 x2 x3 x4 x5 x6 x7 : Int32} :
    wp 129 80 [some (.ref o), some (.int x1), some (.int x2), some (.int x3), some (.int x4), some (.int x5), some (.int x6), some (.int x7)] [] (rOv σ o sc ar) P ↔ wp 129 85 [some (.ref o), some (.int x1), some (.int x2), some (.int x3), some (.int x4), some (.int x5), some (.int x6), some (.int x7)] [.int 1] (rOv σ o sc ar) P := by
  refine (wp_ic (n' := 81) rfl (zcode_of mc_129 (r := (.iconst 1, 0, 0, 0)) rfl) ci_1).trans ?_
  exact wp_goto (off := 4) (t := 85) (zcode_of mc_129 (r := (.goto 4, 0, 0, 0)) rfl) (by decide)
theorem b129_84 {σ : zSt} {o : Nat} {sc : Nat → Int32} {ar : Nat → Nat → Int32} {P : Option Value → zSt → Prop} (hR : RShape σ o) {x1 x2 x3 x4 x5 x6 x7 : Int32} :
    wp 129 84 [some (.ref o), some (.int x1), some (.int x2), some (.int x3), some (.int x4), some (.int x5), some (.int x6), some (.int x7)] [] (rOv σ o sc ar) P ↔ wp 129 85 [some (.ref o), some (.int x1), some (.int x2), some (.int x3), some (.int x4), some (.int x5), some (.int x6), some (.int x7)] [.int 0] (rOv σ o sc ar) P := by
  refine (wp_ic (n' := 85) rfl (zcode_of mc_129 (r := (.iconst 0, 0, 0, 0)) rfl) ci_0).trans ?_
  exact Iff.rfl
theorem b129_85 {σ : zSt} {o : Nat} {sc : Nat → Int32} {ar : Nat → Nat → Int32} {P : Option Value → zSt → Prop} (hR : RShape σ o) {x1 x2 x3 x4 x5 x6 x7 s0 : Int32} :
    wp 129 85 [some (.ref o), some (.int x1), some (.int x2), some (.int x3), some (.int x4), some (.int x5), some (.int x6), some (.int x7)] [.int s0] (rOv σ o sc ar) P ↔ wp 129 33 [some (.ref o), some (.int x1), some (.int x2), some (.int s0), some (.int x4), some (.int x5), some (.int (x6 + 1)), some (.int x7)] [] (rOv σ o sc ar) P := by
  refine (wp_s (n := 86) (zcode_of mc_129 (r := (.istore_n 3, 0, 0, 0)) rfl) rfl rfl).trans ?_
  refine (wp_inc (n' := 89) rfl (zcode_of mc_129 (r := (.iinc 6 1, 0, 0, 0)) rfl) rfl rfl ci_1).trans ?_
  exact wp_goto (off := (-56)) (t := 33) (zcode_of mc_129 (r := (.goto (-56), 0, 0, 0)) rfl) (by decide)
theorem b129_92 {σ : zSt} {o : Nat} {sc : Nat → Int32} {ar : Nat → Nat → Int32} {P : Option Value → zSt → Prop} (hR : RShape σ o) {x1 x2 x3 x4 x5 x6 : Int32} {u7 : Option Value} :
    wp 129 92 [some (.ref o), some (.int x1), some (.int x2), some (.int x3), some (.int x4), some (.int x5), some (.int x6), u7] [] (rOv σ o sc ar) P ↔ wp 129 5 [some (.ref o), some (.int x1), some (.int x2), some (.int x3), some (.int (x4 + 1)), some (.int x5), some (.int x6), u7] [] (rOv σ o sc ar) P := by
  refine (wp_inc (n' := 95) rfl (zcode_of mc_129 (r := (.iinc 4 1, 0, 0, 0)) rfl) rfl rfl ci_1).trans ?_
  exact wp_goto (off := (-90)) (t := 5) (zcode_of mc_129 (r := (.goto (-90), 0, 0, 0)) rfl) (by decide)
theorem b129_98 {σ : zSt} {o : Nat} {sc : Nat → Int32} {ar : Nat → Nat → Int32} {P : Option Value → zSt → Prop} (hR : RShape σ o) {x1 x2 x3 x4 : Int32} {u5 u6 u7 : Option Value} :
    wp 129 98 [some (.ref o), some (.int x1), some (.int x2), some (.int x3), some (.int x4), u5, u6, u7] [] (rOv σ o sc ar) P ↔ ((x3 = 0 ∨ x3 = 1) ∧ P (some (.int x3)) (rOv σ o sc ar)) := by
  refine (wp_s (n := 99) (zcode_of mc_129 (r := (.iload_n 3, 0, 0, 0)) rfl) rfl rfl).trans ?_
  exact wp_retZ (zcode_of mc_129 (r := (.ireturn, 0, 0, 0)) rfl) rfl
theorem mc_130 : mCode 130 = zc_130 := rfl
theorem b130 {σ : zSt} {o : Nat} {sc : Nat → Int32} {ar : Nat → Nat → Int32} {P : Option Value → zSt → Prop} (hR : RShape σ o) {x1 : Int32} :
    wpM 130 [.ref o, .int x1] (rOv σ o sc ar) P ↔ wp 130 2 [some (.ref o), some (.int x1), some (.int 0), none, none] [] (rOv σ o sc ar) P := by
  show wp 130 0 [some (.ref o), some (.int x1), none, none, none] [] (rOv σ o sc ar) P ↔ _
  refine (wp_ic (n' := 1) rfl (zcode_of mc_130 (r := (.iconst 0, 0, 0, 0)) rfl) ci_0).trans ?_
  refine (wp_s (n := 2) (zcode_of mc_130 (r := (.istore_n 2, 0, 0, 0)) rfl) rfl rfl).trans ?_
  exact Iff.rfl
theorem b130_2 {σ : zSt} {o : Nat} {sc : Nat → Int32} {ar : Nat → Nat → Int32} {P : Option Value → zSt → Prop} (hR : RShape σ o) {x1 x2 : Int32} {u3 u4 : Option Value} :
    wp 130 2 [some (.ref o), some (.int x1), some (.int x2), u3, u4] [] (rOv σ o sc ar) P ↔ (if (sc 9) ≤ x2 then wp 130 28 [some (.ref o), some (.int x1), some (.int x2), u3, u4] [] (rOv σ o sc ar) P else wp 130 10 [some (.ref o), some (.int x1), some (.int x2), u3, u4] [] (rOv σ o sc ar) P) := by
  refine (wp_s (n := 3) (zcode_of mc_130 (r := (.iload_n 2, 0, 0, 0)) rfl) rfl rfl).trans ?_
  refine (wp_s (n := 4) (zcode_of mc_130 (r := (.aload_n 0, 0, 0, 0)) rfl) rfl rfl).trans ?_
  refine (wr_getI (n' := 7) rfl hR (zcode_of mc_130 (r := (.getfield 144, 12, 9, 0)) rfl) rfl).trans ?_
  exact wp_jump (off := 21) (t := 28) (zcode_of mc_130 (r := (.if_icmp .ge 21, 0, 0, 0)) rfl) rfl rfl (by decide)
theorem b130_10 {σ : zSt} {o : Nat} {sc : Nat → Int32} {ar : Nat → Nat → Int32} {P : Option Value → zSt → Prop} (hR : RShape σ o) {x1 x2 : Int32} {u3 u4 : Option Value} :
    wp 130 10 [some (.ref o), some (.int x1), some (.int x2), u3, u4] [] (rOv σ o sc ar) P ↔ wpM 129 [.ref o, .int x1, .int x2] (rOv σ o sc ar) (fun r τ => wp 130 21 [some (.ref o), some (.int x1), some (.int x2), u3, u4] (r.toList ++ [.int x2, .ref (rad o 61)]) τ P) := by
  refine (wp_s (n := 11) (zcode_of mc_130 (r := (.aload_n 0, 0, 0, 0)) rfl) rfl rfl).trans ?_
  refine (wr_getA (n' := 14) rfl (t := 61) hR (zcode_of mc_130 (r := (.getfield 113, 12, 41, 0)) rfl) rfl rfl).trans ?_
  refine (wp_s (n := 15) (zcode_of mc_130 (r := (.iload_n 2, 0, 0, 0)) rfl) rfl rfl).trans ?_
  refine (wp_s (n := 16) (zcode_of mc_130 (r := (.aload_n 0, 0, 0, 0)) rfl) rfl rfl).trans ?_
  refine (wp_s (n := 17) (zcode_of mc_130 (r := (.iload_n 1, 0, 0, 0)) rfl) rfl rfl).trans ?_
  refine (wp_s (n := 18) (zcode_of mc_130 (r := (.iload_n 2, 0, 0, 0)) rfl) rfl rfl).trans ?_
  exact wp_call (q := ([.ref o, .int x1, .int x2], [.int x2, .ref (rad o 61)])) (zcode_of mc_130 (r := (.invokevirtual 170, 129, 0, 2)) rfl) rfl (zCa_V (Nat.le_of_ble_eq_true rfl) rfl hR.tg) ⟨Nat.le_of_ble_eq_true rfl, Nat.le_of_ble_eq_true rfl⟩
theorem b130_21 {σ : zSt} {o : Nat} {sc : Nat → Int32} {ar : Nat → Nat → Int32} {P : Option Value → zSt → Prop} (hR : RShape σ o) {x1 x2 s0 s1 : Int32} {u3 u4 : Option Value} :
    wp 130 21 [some (.ref o), some (.int x1), some (.int x2), u3, u4] [.int s0, .int s1, .ref (rad o 61)] (rOv σ o sc ar) P ↔ ((zIn s1 (rlen 61) ∧ ((s0 : Int32) = 0 ∨ (s0 : Int32) = 1)) ∧ wp 130 2 [some (.ref o), some (.int x1), some (.int (x2 + 1)), u3, u4] [] (rOv σ o sc (upA ar 61 (Int32.toNatClampNeg s1) s0)) P) := by
  refine (wr_stZ (n' := 22) rfl hR (zcode_of mc_130 (r := (.bastore, 0, 0, 0)) rfl) rfl rfl).trans (and_congr Iff.rfl ?_)
  refine (wp_inc (n' := 25) rfl (zcode_of mc_130 (r := (.iinc 2 1, 0, 0, 0)) rfl) rfl rfl ci_1).trans ?_
  exact wp_goto (off := (-23)) (t := 2) (zcode_of mc_130 (r := (.goto (-23), 0, 0, 0)) rfl) (by decide)
theorem b130_28 {σ : zSt} {o : Nat} {sc : Nat → Int32} {ar : Nat → Nat → Int32} {P : Option Value → zSt → Prop} (hR : RShape σ o) {x1 x2 : Int32} {u3 u4 : Option Value} :
    wp 130 28 [some (.ref o), some (.int x1), some (.int x2), u3, u4] [] (rOv σ o sc ar) P ↔ wp 130 30 [some (.ref o), some (.int x1), some (.int 1), u3, u4] [] (rOv σ o sc ar) P := by
  refine (wp_ic (n' := 29) rfl (zcode_of mc_130 (r := (.iconst 1, 0, 0, 0)) rfl) ci_1).trans ?_
  refine (wp_s (n := 30) (zcode_of mc_130 (r := (.istore_n 2, 0, 0, 0)) rfl) rfl rfl).trans ?_
  exact Iff.rfl
theorem b130_30 {σ : zSt} {o : Nat} {sc : Nat → Int32} {ar : Nat → Nat → Int32} {P : Option Value → zSt → Prop} (hR : RShape σ o) {x1 x2 : Int32} {u3 u4 : Option Value} :
    wp 130 30 [some (.ref o), some (.int x1), some (.int x2), u3, u4] [] (rOv σ o sc ar) P ↔ (if x2 = 0 then wp 130 112 [some (.ref o), some (.int x1), some (.int x2), u3, u4] [] (rOv σ o sc ar) P else wp 130 34 [some (.ref o), some (.int x1), some (.int x2), u3, u4] [] (rOv σ o sc ar) P) := by
  refine (wp_s (n := 31) (zcode_of mc_130 (r := (.iload_n 2, 0, 0, 0)) rfl) rfl rfl).trans ?_
  exact wp_jump (off := 81) (t := 112) (zcode_of mc_130 (r := (.ifCond .eq 81, 0, 0, 0)) rfl) rfl rfl (by decide)
theorem b130_34 {σ : zSt} {o : Nat} {sc : Nat → Int32} {ar : Nat → Nat → Int32} {P : Option Value → zSt → Prop} (hR : RShape σ o) {x1 x2 : Int32} {u3 u4 : Option Value} :
    wp 130 34 [some (.ref o), some (.int x1), some (.int x2), u3, u4] [] (rOv σ o sc ar) P ↔ wp 130 38 [some (.ref o), some (.int x1), some (.int 0), some (.int 0), u4] [] (rOv σ o sc ar) P := by
  refine (wp_ic (n' := 35) rfl (zcode_of mc_130 (r := (.iconst 0, 0, 0, 0)) rfl) ci_0).trans ?_
  refine (wp_s (n := 36) (zcode_of mc_130 (r := (.istore_n 2, 0, 0, 0)) rfl) rfl rfl).trans ?_
  refine (wp_ic (n' := 37) rfl (zcode_of mc_130 (r := (.iconst 0, 0, 0, 0)) rfl) ci_0).trans ?_
  refine (wp_s (n := 38) (zcode_of mc_130 (r := (.istore_n 3, 0, 0, 0)) rfl) rfl rfl).trans ?_
  exact Iff.rfl
theorem b130_38 {σ : zSt} {o : Nat} {sc : Nat → Int32} {ar : Nat → Nat → Int32} {P : Option Value → zSt → Prop} (hR : RShape σ o) {x1 x2 x3 : Int32} {u4 : Option Value} :
    wp 130 38 [some (.ref o), some (.int x1), some (.int x2), some (.int x3), u4] [] (rOv σ o sc ar) P ↔ (if (sc 9) ≤ x3 then wp 130 109 [some (.ref o), some (.int x1), some (.int x2), some (.int x3), u4] [] (rOv σ o sc ar) P else wp 130 46 [some (.ref o), some (.int x1), some (.int x2), some (.int x3), u4] [] (rOv σ o sc ar) P) := by
  refine (wp_s (n := 39) (zcode_of mc_130 (r := (.iload_n 3, 0, 0, 0)) rfl) rfl rfl).trans ?_
  refine (wp_s (n := 40) (zcode_of mc_130 (r := (.aload_n 0, 0, 0, 0)) rfl) rfl rfl).trans ?_
  refine (wr_getI (n' := 43) rfl hR (zcode_of mc_130 (r := (.getfield 144, 12, 9, 0)) rfl) rfl).trans ?_
  exact wp_jump (off := 66) (t := 109) (zcode_of mc_130 (r := (.if_icmp .ge 66, 0, 0, 0)) rfl) rfl rfl (by decide)
theorem b130_46 {σ : zSt} {o : Nat} {sc : Nat → Int32} {ar : Nat → Nat → Int32} {P : Option Value → zSt → Prop} (hR : RShape σ o) {x1 x2 x3 : Int32} {u4 : Option Value} :
    wp 130 46 [some (.ref o), some (.int x1), some (.int x2), some (.int x3), u4] [] (rOv σ o sc ar) P ↔ wp 130 49 [some (.ref o), some (.int x1), some (.int x2), some (.int x3), some (.int 0)] [] (rOv σ o sc ar) P := by
  refine (wp_ic (n' := 47) rfl (zcode_of mc_130 (r := (.iconst 0, 0, 0, 0)) rfl) ci_0).trans ?_
  refine (wp_s (n := 49) (zcode_of mc_130 (r := (.istore 4, 0, 0, 0)) rfl) rfl rfl).trans ?_
  exact Iff.rfl
theorem b130_49 {σ : zSt} {o : Nat} {sc : Nat → Int32} {ar : Nat → Nat → Int32} {P : Option Value → zSt → Prop} (hR : RShape σ o) {x1 x2 x3 x4 : Int32} :
    wp 130 49 [some (.ref o), some (.int x1), some (.int x2), some (.int x3), some (.int x4)] [] (rOv σ o sc ar) P ↔ (if (sc 9) ≤ x4 then wp 130 103 [some (.ref o), some (.int x1), some (.int x2), some (.int x3), some (.int x4)] [] (rOv σ o sc ar) P else wp 130 58 [some (.ref o), some (.int x1), some (.int x2), some (.int x3), some (.int x4)] [] (rOv σ o sc ar) P) := by
  refine (wp_s (n := 51) (zcode_of mc_130 (r := (.iload 4, 0, 0, 0)) rfl) rfl rfl).trans ?_
  refine (wp_s (n := 52) (zcode_of mc_130 (r := (.aload_n 0, 0, 0, 0)) rfl) rfl rfl).trans ?_
  refine (wr_getI (n' := 55) rfl hR (zcode_of mc_130 (r := (.getfield 144, 12, 9, 0)) rfl) rfl).trans ?_
  exact wp_jump (off := 48) (t := 103) (zcode_of mc_130 (r := (.if_icmp .ge 48, 0, 0, 0)) rfl) rfl rfl (by decide)
theorem b130_58 {σ : zSt} {o : Nat} {sc : Nat → Int32} {ar : Nat → Nat → Int32} {P : Option Value → zSt → Prop} (hR : RShape σ o) {x1 x2 x3 x4 : Int32} :
    wp 130 58 [some (.ref o), some (.int x1), some (.int x2), some (.int x3), some (.int x4)] [] (rOv σ o sc ar) P ↔ (zIn x3 (rlen 61) ∧ (if (ar 61 (Int32.toNatClampNeg x3)) = 0 then wp 130 103 [some (.ref o), some (.int x1), some (.int x2), some (.int x3), some (.int x4)] [] (rOv σ o sc ar) P else wp 130 67 [some (.ref o), some (.int x1), some (.int x2), some (.int x3), some (.int x4)] [] (rOv σ o sc ar) P)) := by
  refine (wp_s (n := 59) (zcode_of mc_130 (r := (.aload_n 0, 0, 0, 0)) rfl) rfl rfl).trans ?_
  refine (wr_getA (n' := 62) rfl (t := 61) hR (zcode_of mc_130 (r := (.getfield 113, 12, 41, 0)) rfl) rfl rfl).trans ?_
  refine (wp_s (n := 63) (zcode_of mc_130 (r := (.iload_n 3, 0, 0, 0)) rfl) rfl rfl).trans ?_
  refine (wr_ldZ (n' := 64) rfl hR (zcode_of mc_130 (r := (.baload, 0, 0, 0)) rfl) rfl rfl).trans (and_congr Iff.rfl ?_)
  exact wp_jump (off := 39) (t := 103) (zcode_of mc_130 (r := (.ifCond .eq 39, 0, 0, 0)) rfl) rfl rfl (by decide)
theorem b130_67 {σ : zSt} {o : Nat} {sc : Nat → Int32} {ar : Nat → Nat → Int32} {P : Option Value → zSt → Prop} (hR : RShape σ o) {x1 x2 x3 x4 : Int32} :
    wp 130 67 [some (.ref o), some (.int x1), some (.int x2), some (.int x3), some (.int x4)] [] (rOv σ o sc ar) P ↔ (zIn x4 (rlen 61) ∧ (if ¬ (ar 61 (Int32.toNatClampNeg x4)) = 0 then wp 130 97 [some (.ref o), some (.int x1), some (.int x2), some (.int x3), some (.int x4)] [] (rOv σ o sc ar) P else wp 130 77 [some (.ref o), some (.int x1), some (.int x2), some (.int x3), some (.int x4)] [] (rOv σ o sc ar) P)) := by
  refine (wp_s (n := 68) (zcode_of mc_130 (r := (.aload_n 0, 0, 0, 0)) rfl) rfl rfl).trans ?_
  refine (wr_getA (n' := 71) rfl (t := 61) hR (zcode_of mc_130 (r := (.getfield 113, 12, 41, 0)) rfl) rfl rfl).trans ?_
  refine (wp_s (n := 73) (zcode_of mc_130 (r := (.iload 4, 0, 0, 0)) rfl) rfl rfl).trans ?_
  refine (wr_ldZ (n' := 74) rfl hR (zcode_of mc_130 (r := (.baload, 0, 0, 0)) rfl) rfl rfl).trans (and_congr Iff.rfl ?_)
  exact wp_jump (off := 23) (t := 97) (zcode_of mc_130 (r := (.ifCond .ne 23, 0, 0, 0)) rfl) rfl rfl (by decide)
theorem b130_77 {σ : zSt} {o : Nat} {sc : Nat → Int32} {ar : Nat → Nat → Int32} {P : Option Value → zSt → Prop} (hR : RShape σ o) {x1 x2 x3 x4 : Int32} :
    wp 130 77 [some (.ref o), some (.int x1), some (.int x2), some (.int x3), some (.int x4)] [] (rOv σ o sc ar) P ↔ wpM 129 [.ref o, .int x3, .int x4] (rOv σ o sc ar) (fun r τ => wp 130 84 [some (.ref o), some (.int x1), some (.int x2), some (.int x3), some (.int x4)] (r.toList ++ []) τ P) := by
  refine (wp_s (n := 78) (zcode_of mc_130 (r := (.aload_n 0, 0, 0, 0)) rfl) rfl rfl).trans ?_
  refine (wp_s (n := 79) (zcode_of mc_130 (r := (.iload_n 3, 0, 0, 0)) rfl) rfl rfl).trans ?_
  refine (wp_s (n := 81) (zcode_of mc_130 (r := (.iload 4, 0, 0, 0)) rfl) rfl rfl).trans ?_
  exact wp_call (q := ([.ref o, .int x3, .int x4], [])) (zcode_of mc_130 (r := (.invokevirtual 170, 129, 0, 2)) rfl) rfl (zCa_V (Nat.le_of_ble_eq_true rfl) rfl hR.tg) ⟨Nat.le_of_ble_eq_true rfl, Nat.le_of_ble_eq_true rfl⟩
theorem b130_84 {σ : zSt} {o : Nat} {sc : Nat → Int32} {ar : Nat → Nat → Int32} {P : Option Value → zSt → Prop} (hR : RShape σ o) {x1 x2 x3 x4 s0 : Int32} :
    wp 130 84 [some (.ref o), some (.int x1), some (.int x2), some (.int x3), some (.int x4)] [.int s0] (rOv σ o sc ar) P ↔ (if s0 = 0 then wp 130 97 [some (.ref o), some (.int x1), some (.int x2), some (.int x3), some (.int x4)] [] (rOv σ o sc ar) P else wp 130 87 [some (.ref o), some (.int x1), some (.int x2), some (.int x3), some (.int x4)] [] (rOv σ o sc ar) P) := by
  exact wp_jump (off := 13) (t := 97) (zcode_of mc_130 (r := (.ifCond .eq 13, 0, 0, 0)) rfl) rfl rfl (by decide)
theorem b130_87 {σ : zSt} {o : Nat} {sc : Nat → Int32} {ar : Nat → Nat → Int32} {P : Option Value → zSt → Prop} (hR : RShape σ o) {x1 x2 x3 x4 : Int32} :
    wp 130 87 [some (.ref o), some (.int x1), some (.int x2), some (.int x3), some (.int x4)] [] (rOv σ o sc ar) P ↔ ((zIn x4 (rlen 61) ∧ ((1 : Int32) = 0 ∨ (1 : Int32) = 1)) ∧ wp 130 97 [some (.ref o), some (.int x1), some (.int 1), some (.int x3), some (.int x4)] [] (rOv σ o sc (upA ar 61 (Int32.toNatClampNeg x4) 1)) P) := by
  refine (wp_s (n := 88) (zcode_of mc_130 (r := (.aload_n 0, 0, 0, 0)) rfl) rfl rfl).trans ?_
  refine (wr_getA (n' := 91) rfl (t := 61) hR (zcode_of mc_130 (r := (.getfield 113, 12, 41, 0)) rfl) rfl rfl).trans ?_
  refine (wp_s (n := 93) (zcode_of mc_130 (r := (.iload 4, 0, 0, 0)) rfl) rfl rfl).trans ?_
  refine (wp_ic (n' := 94) rfl (zcode_of mc_130 (r := (.iconst 1, 0, 0, 0)) rfl) ci_1).trans ?_
  refine (wr_stZ (n' := 95) rfl hR (zcode_of mc_130 (r := (.bastore, 0, 0, 0)) rfl) rfl rfl).trans (and_congr Iff.rfl ?_)
  refine (wp_ic (n' := 96) rfl (zcode_of mc_130 (r := (.iconst 1, 0, 0, 0)) rfl) ci_1).trans ?_
  refine (wp_s (n := 97) (zcode_of mc_130 (r := (.istore_n 2, 0, 0, 0)) rfl) rfl rfl).trans ?_
  exact Iff.rfl
theorem b130_97 {σ : zSt} {o : Nat} {sc : Nat → Int32} {ar : Nat → Nat → Int32} {P : Option Value → zSt → Prop} (hR : RShape σ o) {x1 x2 x3 x4 : Int32} :
    wp 130 97 [some (.ref o), some (.int x1), some (.int x2), some (.int x3), some (.int x4)] [] (rOv σ o sc ar) P ↔ wp 130 49 [some (.ref o), some (.int x1), some (.int x2), some (.int x3), some (.int (x4 + 1))] [] (rOv σ o sc ar) P := by
  refine (wp_inc (n' := 100) rfl (zcode_of mc_130 (r := (.iinc 4 1, 0, 0, 0)) rfl) rfl rfl ci_1).trans ?_
  exact wp_goto (off := (-51)) (t := 49) (zcode_of mc_130 (r := (.goto (-51), 0, 0, 0)) rfl) (by decide)
theorem b130_103 {σ : zSt} {o : Nat} {sc : Nat → Int32} {ar : Nat → Nat → Int32} {P : Option Value → zSt → Prop} (hR : RShape σ o) {x1 x2 x3 x4 : Int32} :
    wp 130 103 [some (.ref o), some (.int x1), some (.int x2), some (.int x3), some (.int x4)] [] (rOv σ o sc ar) P ↔ wp 130 38 [some (.ref o), some (.int x1), some (.int x2), some (.int (x3 + 1)), some (.int x4)] [] (rOv σ o sc ar) P := by
  refine (wp_inc (n' := 106) rfl (zcode_of mc_130 (r := (.iinc 3 1, 0, 0, 0)) rfl) rfl rfl ci_1).trans ?_
  exact wp_goto (off := (-68)) (t := 38) (zcode_of mc_130 (r := (.goto (-68), 0, 0, 0)) rfl) (by decide)
theorem b130_109 {σ : zSt} {o : Nat} {sc : Nat → Int32} {ar : Nat → Nat → Int32} {P : Option Value → zSt → Prop} (hR : RShape σ o) {x1 x2 x3 : Int32} {u4 : Option Value} :
    wp 130 109 [some (.ref o), some (.int x1), some (.int x2), some (.int x3), u4] [] (rOv σ o sc ar) P ↔ wp 130 30 [some (.ref o), some (.int x1), some (.int x2), some (.int x3), u4] [] (rOv σ o sc ar) P := by
  exact wp_goto (off := (-79)) (t := 30) (zcode_of mc_130 (r := (.goto (-79), 0, 0, 0)) rfl) (by decide)
theorem b130_112 {σ : zSt} {o : Nat} {sc : Nat → Int32} {ar : Nat → Nat → Int32} {P : Option Value → zSt → Prop} (hR : RShape σ o) {x1 x2 : Int32} {u3 u4 : Option Value} :
    wp 130 112 [some (.ref o), some (.int x1), some (.int x2), u3, u4] [] (rOv σ o sc ar) P ↔ P none (rOv σ o sc ar) := by
  exact wp_retV (zcode_of mc_130 (r := (.return_, 0, 0, 0)) rfl) rfl
theorem mc_131 : mCode 131 = zc_131 := rfl
theorem b131 {σ : zSt} {o : Nat} {sc : Nat → Int32} {ar : Nat → Nat → Int32} {P : Option Value → zSt → Prop} (hR : RShape σ o) {x1 : Int32} :
    wpM 131 [.ref o, .int x1] (rOv σ o sc ar) P ↔ wpM 130 [.ref o, .int x1] (rOv σ o sc ar) (fun r τ => wp 131 5 [some (.ref o), some (.int x1)] (r.toList ++ []) τ P) := by
  show wp 131 0 [some (.ref o), some (.int x1)] [] (rOv σ o sc ar) P ↔ _
  refine (wp_s (n := 1) (zcode_of mc_131 (r := (.aload_n 0, 0, 0, 0)) rfl) rfl rfl).trans ?_
  refine (wp_s (n := 2) (zcode_of mc_131 (r := (.iload_n 1, 0, 0, 0)) rfl) rfl rfl).trans ?_
  exact wp_call (q := ([.ref o, .int x1], [])) (zcode_of mc_131 (r := (.invokevirtual 173, 130, 0, 1)) rfl) rfl (zCa_V (Nat.le_of_ble_eq_true rfl) rfl hR.tg) ⟨Nat.le_of_ble_eq_true rfl, Nat.le_of_ble_eq_true rfl⟩
theorem b131_5 {σ : zSt} {o : Nat} {sc : Nat → Int32} {ar : Nat → Nat → Int32} {P : Option Value → zSt → Prop} (hR : RShape σ o) {x1 : Int32} :
    wp 131 5 [some (.ref o), some (.int x1)] [] (rOv σ o sc ar) P ↔ (zIn x1 (rlen 61) ∧ (((ar 61 (Int32.toNatClampNeg x1)) = 0 ∨ (ar 61 (Int32.toNatClampNeg x1)) = 1) ∧ P (some (.int (ar 61 (Int32.toNatClampNeg x1)))) (rOv σ o sc ar))) := by
  refine (wp_s (n := 6) (zcode_of mc_131 (r := (.aload_n 0, 0, 0, 0)) rfl) rfl rfl).trans ?_
  refine (wr_getA (n' := 9) rfl (t := 61) hR (zcode_of mc_131 (r := (.getfield 113, 12, 41, 0)) rfl) rfl rfl).trans ?_
  refine (wp_s (n := 10) (zcode_of mc_131 (r := (.iload_n 1, 0, 0, 0)) rfl) rfl rfl).trans ?_
  refine (wr_ldZ (n' := 11) rfl hR (zcode_of mc_131 (r := (.baload, 0, 0, 0)) rfl) rfl rfl).trans (and_congr Iff.rfl ?_)
  exact wp_retZ (zcode_of mc_131 (r := (.ireturn, 0, 0, 0)) rfl) rfl
theorem mc_132 : mCode 132 = zc_132 := rfl
theorem b132 {σ : zSt} {o : Nat} {sc : Nat → Int32} {ar : Nat → Nat → Int32} {P : Option Value → zSt → Prop} (hR : RShape σ o) {x1 x2 : Int32} :
    wpM 132 [.ref o, .int x1, .int x2] (rOv σ o sc ar) P ↔ wpM 115 [.ref o, .int x1] (rOv σ o sc ar) (fun r τ => wp 132 5 [some (.ref o), some (.int x1), some (.int x2), none] (r.toList ++ []) τ P) := by
  show wp 132 0 [some (.ref o), some (.int x1), some (.int x2), none] [] (rOv σ o sc ar) P ↔ _
  refine (wp_s (n := 1) (zcode_of mc_132 (r := (.aload_n 0, 0, 0, 0)) rfl) rfl rfl).trans ?_
  refine (wp_s (n := 2) (zcode_of mc_132 (r := (.iload_n 1, 0, 0, 0)) rfl) rfl rfl).trans ?_
  exact wp_call (q := ([.ref o, .int x1], [])) (zcode_of mc_132 (r := (.invokevirtual 177, 115, 0, 1)) rfl) rfl (zCa_V (Nat.le_of_ble_eq_true rfl) rfl hR.tg) ⟨Nat.le_of_ble_eq_true rfl, Nat.le_of_ble_eq_true rfl⟩
theorem b132_5 {σ : zSt} {o : Nat} {sc : Nat → Int32} {ar : Nat → Nat → Int32} {P : Option Value → zSt → Prop} (hR : RShape σ o) {x1 x2 s0 : Int32} {u3 : Option Value} :
    wp 132 5 [some (.ref o), some (.int x1), some (.int x2), u3] [.int s0] (rOv σ o sc ar) P ↔ (if s0 = 0 then wp 132 16 [some (.ref o), some (.int x1), some (.int x2), u3] [] (rOv σ o sc ar) P else wp 132 8 [some (.ref o), some (.int x1), some (.int x2), u3] [] (rOv σ o sc ar) P) := by
  exact wp_jump (off := 11) (t := 16) (zcode_of mc_132 (r := (.ifCond .eq 11, 0, 0, 0)) rfl) rfl rfl (by decide)
theorem b132_8 {σ : zSt} {o : Nat} {sc : Nat → Int32} {ar : Nat → Nat → Int32} {P : Option Value → zSt → Prop} (hR : RShape σ o) {x1 x2 : Int32} {u3 : Option Value} :
    wp 132 8 [some (.ref o), some (.int x1), some (.int x2), u3] [] (rOv σ o sc ar) P ↔ wpM 114 [.ref o, .int x2] (rOv σ o sc ar) (fun r τ => wp 132 13 [some (.ref o), some (.int x1), some (.int x2), u3] (r.toList ++ []) τ P) := by
  refine (wp_s (n := 9) (zcode_of mc_132 (r := (.aload_n 0, 0, 0, 0)) rfl) rfl rfl).trans ?_
  refine (wp_s (n := 10) (zcode_of mc_132 (r := (.iload_n 2, 0, 0, 0)) rfl) rfl rfl).trans ?_
  exact wp_call (q := ([.ref o, .int x2], [])) (zcode_of mc_132 (r := (.invokevirtual 147, 114, 0, 1)) rfl) rfl (zCa_V (Nat.le_of_ble_eq_true rfl) rfl hR.tg) ⟨Nat.le_of_ble_eq_true rfl, Nat.le_of_ble_eq_true rfl⟩
theorem b132_13 {σ : zSt} {o : Nat} {sc : Nat → Int32} {ar : Nat → Nat → Int32} {P : Option Value → zSt → Prop} (hR : RShape σ o) {x1 x2 s0 : Int32} {u3 : Option Value} :
    wp 132 13 [some (.ref o), some (.int x1), some (.int x2), u3] [.int s0] (rOv σ o sc ar) P ↔ (if ¬ s0 = 0 then wp 132 19 [some (.ref o), some (.int x1), some (.int x2), u3] [] (rOv σ o sc ar) P else wp 132 16 [some (.ref o), some (.int x1), some (.int x2), u3] [] (rOv σ o sc ar) P) := by
  exact wp_jump (off := 6) (t := 19) (zcode_of mc_132 (r := (.ifCond .ne 6, 0, 0, 0)) rfl) rfl rfl (by decide)
theorem b132_16 {σ : zSt} {o : Nat} {sc : Nat → Int32} {ar : Nat → Nat → Int32} {P : Option Value → zSt → Prop} (hR : RShape σ o) {x1 x2 : Int32} {u3 : Option Value} :
    wp 132 16 [some (.ref o), some (.int x1), some (.int x2), u3] [] (rOv σ o sc ar) P ↔ P (some (.int (-2))) (rOv σ o sc ar) := by
  refine (wp_bp (n' := 18) rfl (zcode_of mc_132 (r := (.bipush (-2), 0, 0, 0)) rfl) cb_m2).trans ?_
  exact wp_retI (zcode_of mc_132 (r := (.ireturn, 0, 0, 0)) rfl) rfl
theorem b132_19 {σ : zSt} {o : Nat} {sc : Nat → Int32} {ar : Nat → Nat → Int32} {P : Option Value → zSt → Prop} (hR : RShape σ o) {x1 x2 : Int32} {u3 : Option Value} :
    wp 132 19 [some (.ref o), some (.int x1), some (.int x2), u3] [] (rOv σ o sc ar) P ↔ wp 132 21 [some (.ref o), some (.int x1), some (.int x2), some (.int 0)] [] (rOv σ o sc ar) P := by
  refine (wp_ic (n' := 20) rfl (zcode_of mc_132 (r := (.iconst 0, 0, 0, 0)) rfl) ci_0).trans ?_
  refine (wp_s (n := 21) (zcode_of mc_132 (r := (.istore_n 3, 0, 0, 0)) rfl) rfl rfl).trans ?_
  exact Iff.rfl
theorem b132_21 {σ : zSt} {o : Nat} {sc : Nat → Int32} {ar : Nat → Nat → Int32} {P : Option Value → zSt → Prop} (hR : RShape σ o) {x1 x2 x3 : Int32} :
    wp 132 21 [some (.ref o), some (.int x1), some (.int x2), some (.int x3)] [] (rOv σ o sc ar) P ↔ (zIn x1 (rlen 31) ∧ (if (ar 31 (Int32.toNatClampNeg x1)) ≤ x3 then wp 132 55 [some (.ref o), some (.int x1), some (.int x2), some (.int x3)] [] (rOv σ o sc ar) P else wp 132 31 [some (.ref o), some (.int x1), some (.int x2), some (.int x3)] [] (rOv σ o sc ar) P)) := by
  refine (wp_s (n := 22) (zcode_of mc_132 (r := (.iload_n 3, 0, 0, 0)) rfl) rfl rfl).trans ?_
  refine (wp_s (n := 23) (zcode_of mc_132 (r := (.aload_n 0, 0, 0, 0)) rfl) rfl rfl).trans ?_
  refine (wr_getA (n' := 26) rfl (t := 31) hR (zcode_of mc_132 (r := (.getfield 39, 12, 11, 0)) rfl) rfl rfl).trans ?_
  refine (wp_s (n := 27) (zcode_of mc_132 (r := (.iload_n 1, 0, 0, 0)) rfl) rfl rfl).trans ?_
  refine (wr_ld (n' := 28) rfl hR (zcode_of mc_132 (r := (.iaload, 0, 0, 0)) rfl) rfl rfl).trans (and_congr Iff.rfl ?_)
  exact wp_jump (off := 27) (t := 55) (zcode_of mc_132 (r := (.if_icmp .ge 27, 0, 0, 0)) rfl) rfl rfl (by decide)
theorem b132_31 {σ : zSt} {o : Nat} {sc : Nat → Int32} {ar : Nat → Nat → Int32} {P : Option Value → zSt → Prop} (hR : RShape σ o) {x1 x2 x3 : Int32} :
    wp 132 31 [some (.ref o), some (.int x1), some (.int x2), some (.int x3)] [] (rOv σ o sc ar) P ↔ (zIn ((6 * x1) + x3) (rlen 30) ∧ (if ¬ (ar 30 (Int32.toNatClampNeg ((6 * x1) + x3))) = x2 then wp 132 49 [some (.ref o), some (.int x1), some (.int x2), some (.int x3)] [] (rOv σ o sc ar) P else wp 132 46 [some (.ref o), some (.int x1), some (.int x2), some (.int x3)] [] (rOv σ o sc ar) P)) := by
  refine (wp_s (n := 32) (zcode_of mc_132 (r := (.aload_n 0, 0, 0, 0)) rfl) rfl rfl).trans ?_
  refine (wr_getA (n' := 35) rfl (t := 30) hR (zcode_of mc_132 (r := (.getfield 36, 12, 10, 0)) rfl) rfl rfl).trans ?_
  refine (wp_bp (n' := 37) rfl (zcode_of mc_132 (r := (.bipush 6, 0, 0, 0)) rfl) cb_6).trans ?_
  refine (wp_s (n := 38) (zcode_of mc_132 (r := (.iload_n 1, 0, 0, 0)) rfl) rfl rfl).trans ?_
  refine (wp_s (n := 39) (zcode_of mc_132 (r := (.imul, 0, 0, 0)) rfl) rfl rfl).trans ?_
  refine (wp_s (n := 40) (zcode_of mc_132 (r := (.iload_n 3, 0, 0, 0)) rfl) rfl rfl).trans ?_
  refine (wp_s (n := 41) (zcode_of mc_132 (r := (.iadd, 0, 0, 0)) rfl) rfl rfl).trans ?_
  refine (wr_ld (n' := 42) rfl hR (zcode_of mc_132 (r := (.iaload, 0, 0, 0)) rfl) rfl rfl).trans (and_congr Iff.rfl ?_)
  refine (wp_s (n := 43) (zcode_of mc_132 (r := (.iload_n 2, 0, 0, 0)) rfl) rfl rfl).trans ?_
  exact wp_jump (off := 6) (t := 49) (zcode_of mc_132 (r := (.if_icmp .ne 6, 0, 0, 0)) rfl) rfl rfl (by decide)
theorem b132_46 {σ : zSt} {o : Nat} {sc : Nat → Int32} {ar : Nat → Nat → Int32} {P : Option Value → zSt → Prop} (hR : RShape σ o) {x1 x2 x3 : Int32} :
    wp 132 46 [some (.ref o), some (.int x1), some (.int x2), some (.int x3)] [] (rOv σ o sc ar) P ↔ P (some (.int (-4))) (rOv σ o sc ar) := by
  refine (wp_bp (n' := 48) rfl (zcode_of mc_132 (r := (.bipush (-4), 0, 0, 0)) rfl) cb_m4).trans ?_
  exact wp_retI (zcode_of mc_132 (r := (.ireturn, 0, 0, 0)) rfl) rfl
theorem b132_49 {σ : zSt} {o : Nat} {sc : Nat → Int32} {ar : Nat → Nat → Int32} {P : Option Value → zSt → Prop} (hR : RShape σ o) {x1 x2 x3 : Int32} :
    wp 132 49 [some (.ref o), some (.int x1), some (.int x2), some (.int x3)] [] (rOv σ o sc ar) P ↔ wp 132 21 [some (.ref o), some (.int x1), some (.int x2), some (.int (x3 + 1))] [] (rOv σ o sc ar) P := by
  refine (wp_inc (n' := 52) rfl (zcode_of mc_132 (r := (.iinc 3 1, 0, 0, 0)) rfl) rfl rfl ci_1).trans ?_
  exact wp_goto (off := (-31)) (t := 21) (zcode_of mc_132 (r := (.goto (-31), 0, 0, 0)) rfl) (by decide)
theorem b132_55 {σ : zSt} {o : Nat} {sc : Nat → Int32} {ar : Nat → Nat → Int32} {P : Option Value → zSt → Prop} (hR : RShape σ o) {x1 x2 x3 : Int32} :
    wp 132 55 [some (.ref o), some (.int x1), some (.int x2), some (.int x3)] [] (rOv σ o sc ar) P ↔ (zIn x1 (rlen 31) ∧ (if ¬ (ar 31 (Int32.toNatClampNeg x1)) = 6 then wp 132 86 [some (.ref o), some (.int x1), some (.int x2), some (.int (ar 31 (Int32.toNatClampNeg x1)))] [] (rOv σ o sc ar) P else wp 132 68 [some (.ref o), some (.int x1), some (.int x2), some (.int (ar 31 (Int32.toNatClampNeg x1)))] [] (rOv σ o sc ar) P)) := by
  refine (wp_s (n := 56) (zcode_of mc_132 (r := (.aload_n 0, 0, 0, 0)) rfl) rfl rfl).trans ?_
  refine (wr_getA (n' := 59) rfl (t := 31) hR (zcode_of mc_132 (r := (.getfield 39, 12, 11, 0)) rfl) rfl rfl).trans ?_
  refine (wp_s (n := 60) (zcode_of mc_132 (r := (.iload_n 1, 0, 0, 0)) rfl) rfl rfl).trans ?_
  refine (wr_ld (n' := 61) rfl hR (zcode_of mc_132 (r := (.iaload, 0, 0, 0)) rfl) rfl rfl).trans (and_congr Iff.rfl ?_)
  refine (wp_s (n := 62) (zcode_of mc_132 (r := (.istore_n 3, 0, 0, 0)) rfl) rfl rfl).trans ?_
  refine (wp_s (n := 63) (zcode_of mc_132 (r := (.iload_n 3, 0, 0, 0)) rfl) rfl rfl).trans ?_
  refine (wp_bp (n' := 65) rfl (zcode_of mc_132 (r := (.bipush 6, 0, 0, 0)) rfl) cb_6).trans ?_
  exact wp_jump (off := 21) (t := 86) (zcode_of mc_132 (r := (.if_icmp .ne 21, 0, 0, 0)) rfl) rfl rfl (by decide)
theorem b132_68 {σ : zSt} {o : Nat} {sc : Nat → Int32} {ar : Nat → Nat → Int32} {P : Option Value → zSt → Prop} (hR : RShape σ o) {x1 x2 x3 : Int32} :
    wp 132 68 [some (.ref o), some (.int x1), some (.int x2), some (.int x3)] [] (rOv σ o sc ar) P ↔ wpM 133 [.ref o, .int x1, .int x2, .int 0] (rOv σ o sc ar) (fun r τ => wp 132 75 [some (.ref o), some (.int x1), some (.int x2), some (.int x3)] (r.toList ++ []) τ P) := by
  refine (wp_s (n := 69) (zcode_of mc_132 (r := (.aload_n 0, 0, 0, 0)) rfl) rfl rfl).trans ?_
  refine (wp_s (n := 70) (zcode_of mc_132 (r := (.iload_n 1, 0, 0, 0)) rfl) rfl rfl).trans ?_
  refine (wp_s (n := 71) (zcode_of mc_132 (r := (.iload_n 2, 0, 0, 0)) rfl) rfl rfl).trans ?_
  refine (wp_ic (n' := 72) rfl (zcode_of mc_132 (r := (.iconst 0, 0, 0, 0)) rfl) ci_0).trans ?_
  exact wp_call (q := ([.ref o, .int x1, .int x2, .int 0], [])) (zcode_of mc_132 (r := (.invokevirtual 180, 133, 0, 3)) rfl) rfl (zCa_V (Nat.le_of_ble_eq_true rfl) rfl hR.tg) ⟨Nat.le_of_ble_eq_true rfl, Nat.le_of_ble_eq_true rfl⟩
theorem b132_75 {σ : zSt} {o : Nat} {sc : Nat → Int32} {ar : Nat → Nat → Int32} {P : Option Value → zSt → Prop} (hR : RShape σ o) {x1 x2 x3 s0 : Int32} :
    wp 132 75 [some (.ref o), some (.int x1), some (.int x2), some (.int x3)] [.int s0] (rOv σ o sc ar) P ↔ (if s0 = 0 then wp 132 83 [some (.ref o), some (.int x1), some (.int x2), some (.int x3)] [] (rOv σ o sc ar) P else wp 132 78 [some (.ref o), some (.int x1), some (.int x2), some (.int x3)] [] (rOv σ o sc ar) P) := by
  exact wp_jump (off := 8) (t := 83) (zcode_of mc_132 (r := (.ifCond .eq 8, 0, 0, 0)) rfl) rfl rfl (by decide)
theorem b132_78 {σ : zSt} {o : Nat} {sc : Nat → Int32} {ar : Nat → Nat → Int32} {P : Option Value → zSt → Prop} (hR : RShape σ o) {x1 x2 x3 : Int32} :
    wp 132 78 [some (.ref o), some (.int x1), some (.int x2), some (.int x3)] [] (rOv σ o sc ar) P ↔ wp 132 85 [some (.ref o), some (.int x1), some (.int x2), some (.int x3)] [.int (-5)] (rOv σ o sc ar) P := by
  refine (wp_bp (n' := 80) rfl (zcode_of mc_132 (r := (.bipush (-5), 0, 0, 0)) rfl) cb_m5).trans ?_
  exact wp_goto (off := 5) (t := 85) (zcode_of mc_132 (r := (.goto 5, 0, 0, 0)) rfl) (by decide)
theorem b132_83 {σ : zSt} {o : Nat} {sc : Nat → Int32} {ar : Nat → Nat → Int32} {P : Option Value → zSt → Prop} (hR : RShape σ o) {x1 x2 x3 : Int32} :
    wp 132 83 [some (.ref o), some (.int x1), some (.int x2), some (.int x3)] [] (rOv σ o sc ar) P ↔ wp 132 85 [some (.ref o), some (.int x1), some (.int x2), some (.int x3)] [.int (-6)] (rOv σ o sc ar) P := by
  refine (wp_bp (n' := 85) rfl (zcode_of mc_132 (r := (.bipush (-6), 0, 0, 0)) rfl) cb_m6).trans ?_
  exact Iff.rfl
theorem b132_85 {σ : zSt} {o : Nat} {sc : Nat → Int32} {ar : Nat → Nat → Int32} {P : Option Value → zSt → Prop} (hR : RShape σ o) {x1 x2 x3 s0 : Int32} :
    wp 132 85 [some (.ref o), some (.int x1), some (.int x2), some (.int x3)] [.int s0] (rOv σ o sc ar) P ↔ P (some (.int s0)) (rOv σ o sc ar) := by
  exact wp_retI (zcode_of mc_132 (r := (.ireturn, 0, 0, 0)) rfl) rfl
theorem b132_86 {σ : zSt} {o : Nat} {sc : Nat → Int32} {ar : Nat → Nat → Int32} {P : Option Value → zSt → Prop} (hR : RShape σ o) {x1 x2 x3 : Int32} :
    wp 132 86 [some (.ref o), some (.int x1), some (.int x2), some (.int x3)] [] (rOv σ o sc ar) P ↔ (zIn ((6 * x1) + x3) (rlen 30) ∧ (zIn x1 (rlen 31) ∧ (zIn x1 (rlen 31) ∧ wpM 131 [.ref o, .int x1] (rOv σ o sc (upA (upA ar 30 (Int32.toNatClampNeg ((6 * x1) + x3)) x2) 31 (Int32.toNatClampNeg x1) (((upA ar 30 (Int32.toNatClampNeg ((6 * x1) + x3)) x2) 31 (Int32.toNatClampNeg x1)) + 1))) (fun r τ => wp 132 113 [some (.ref o), some (.int x1), some (.int x2), some (.int x3)] (r.toList ++ []) τ P)))) := by
  refine (wp_s (n := 87) (zcode_of mc_132 (r := (.aload_n 0, 0, 0, 0)) rfl) rfl rfl).trans ?_
  refine (wr_getA (n' := 90) rfl (t := 30) hR (zcode_of mc_132 (r := (.getfield 36, 12, 10, 0)) rfl) rfl rfl).trans ?_
  refine (wp_bp (n' := 92) rfl (zcode_of mc_132 (r := (.bipush 6, 0, 0, 0)) rfl) cb_6).trans ?_
  refine (wp_s (n := 93) (zcode_of mc_132 (r := (.iload_n 1, 0, 0, 0)) rfl) rfl rfl).trans ?_
  refine (wp_s (n := 94) (zcode_of mc_132 (r := (.imul, 0, 0, 0)) rfl) rfl rfl).trans ?_
  refine (wp_s (n := 95) (zcode_of mc_132 (r := (.iload_n 3, 0, 0, 0)) rfl) rfl rfl).trans ?_
  refine (wp_s (n := 96) (zcode_of mc_132 (r := (.iadd, 0, 0, 0)) rfl) rfl rfl).trans ?_
  refine (wp_s (n := 97) (zcode_of mc_132 (r := (.iload_n 2, 0, 0, 0)) rfl) rfl rfl).trans ?_
  refine (wr_st (n' := 98) rfl hR (zcode_of mc_132 (r := (.iastore, 0, 0, 0)) rfl) rfl rfl).trans (and_congr Iff.rfl ?_)
  refine (wp_s (n := 99) (zcode_of mc_132 (r := (.aload_n 0, 0, 0, 0)) rfl) rfl rfl).trans ?_
  refine (wr_getA (n' := 102) rfl (t := 31) hR (zcode_of mc_132 (r := (.getfield 39, 12, 11, 0)) rfl) rfl rfl).trans ?_
  refine (wp_s (n := 103) (zcode_of mc_132 (r := (.iload_n 1, 0, 0, 0)) rfl) rfl rfl).trans ?_
  refine (wp_s (n := 104) (zcode_of mc_132 (r := (.dup2, 0, 0, 0)) rfl) rfl rfl).trans ?_
  refine (wr_ld (n' := 105) rfl hR (zcode_of mc_132 (r := (.iaload, 0, 0, 0)) rfl) rfl rfl).trans (and_congr Iff.rfl ?_)
  refine (wp_ic (n' := 106) rfl (zcode_of mc_132 (r := (.iconst 1, 0, 0, 0)) rfl) ci_1).trans ?_
  refine (wp_s (n := 107) (zcode_of mc_132 (r := (.iadd, 0, 0, 0)) rfl) rfl rfl).trans ?_
  refine (wr_st (n' := 108) rfl hR (zcode_of mc_132 (r := (.iastore, 0, 0, 0)) rfl) rfl rfl).trans (and_congr Iff.rfl ?_)
  refine (wp_s (n := 109) (zcode_of mc_132 (r := (.aload_n 0, 0, 0, 0)) rfl) rfl rfl).trans ?_
  refine (wp_s (n := 110) (zcode_of mc_132 (r := (.iload_n 1, 0, 0, 0)) rfl) rfl rfl).trans ?_
  exact wp_call (q := ([.ref o, .int x1], [])) (zcode_of mc_132 (r := (.invokevirtual 184, 131, 0, 1)) rfl) rfl (zCa_V (Nat.le_of_ble_eq_true rfl) rfl hR.tg) ⟨Nat.le_of_ble_eq_true rfl, Nat.le_of_ble_eq_true rfl⟩
theorem b132_113 {σ : zSt} {o : Nat} {sc : Nat → Int32} {ar : Nat → Nat → Int32} {P : Option Value → zSt → Prop} (hR : RShape σ o) {x1 x2 x3 s0 : Int32} :
    wp 132 113 [some (.ref o), some (.int x1), some (.int x2), some (.int x3)] [.int s0] (rOv σ o sc ar) P ↔ (if s0 = 0 then wp 132 129 [some (.ref o), some (.int x1), some (.int x2), some (.int x3)] [] (rOv σ o sc ar) P else wp 132 116 [some (.ref o), some (.int x1), some (.int x2), some (.int x3)] [] (rOv σ o sc ar) P) := by
  exact wp_jump (off := 16) (t := 129) (zcode_of mc_132 (r := (.ifCond .eq 16, 0, 0, 0)) rfl) rfl rfl (by decide)
theorem b132_116 {σ : zSt} {o : Nat} {sc : Nat → Int32} {ar : Nat → Nat → Int32} {P : Option Value → zSt → Prop} (hR : RShape σ o) {x1 x2 x3 : Int32} :
    wp 132 116 [some (.ref o), some (.int x1), some (.int x2), some (.int x3)] [] (rOv σ o sc ar) P ↔ (zIn x1 (rlen 31) ∧ (zIn x1 (rlen 31) ∧ P (some (.int (-5))) (rOv σ o sc (upA ar 31 (Int32.toNatClampNeg x1) ((ar 31 (Int32.toNatClampNeg x1)) - 1))))) := by
  refine (wp_s (n := 117) (zcode_of mc_132 (r := (.aload_n 0, 0, 0, 0)) rfl) rfl rfl).trans ?_
  refine (wr_getA (n' := 120) rfl (t := 31) hR (zcode_of mc_132 (r := (.getfield 39, 12, 11, 0)) rfl) rfl rfl).trans ?_
  refine (wp_s (n := 121) (zcode_of mc_132 (r := (.iload_n 1, 0, 0, 0)) rfl) rfl rfl).trans ?_
  refine (wp_s (n := 122) (zcode_of mc_132 (r := (.dup2, 0, 0, 0)) rfl) rfl rfl).trans ?_
  refine (wr_ld (n' := 123) rfl hR (zcode_of mc_132 (r := (.iaload, 0, 0, 0)) rfl) rfl rfl).trans (and_congr Iff.rfl ?_)
  refine (wp_ic (n' := 124) rfl (zcode_of mc_132 (r := (.iconst 1, 0, 0, 0)) rfl) ci_1).trans ?_
  refine (wp_s (n := 125) (zcode_of mc_132 (r := (.isub, 0, 0, 0)) rfl) rfl rfl).trans ?_
  refine (wr_st (n' := 126) rfl hR (zcode_of mc_132 (r := (.iastore, 0, 0, 0)) rfl) rfl rfl).trans (and_congr Iff.rfl ?_)
  refine (wp_bp (n' := 128) rfl (zcode_of mc_132 (r := (.bipush (-5), 0, 0, 0)) rfl) cb_m5).trans ?_
  exact wp_retI (zcode_of mc_132 (r := (.ireturn, 0, 0, 0)) rfl) rfl
theorem b132_129 {σ : zSt} {o : Nat} {sc : Nat → Int32} {ar : Nat → Nat → Int32} {P : Option Value → zSt → Prop} (hR : RShape σ o) {x1 x2 x3 : Int32} :
    wp 132 129 [some (.ref o), some (.int x1), some (.int x2), some (.int x3)] [] (rOv σ o sc ar) P ↔ (zIn x1 (rlen 31) ∧ P (some (.int (ar 31 (Int32.toNatClampNeg x1)))) (rOv σ o sc ar)) := by
  refine (wp_s (n := 130) (zcode_of mc_132 (r := (.aload_n 0, 0, 0, 0)) rfl) rfl rfl).trans ?_
  refine (wr_getA (n' := 133) rfl (t := 31) hR (zcode_of mc_132 (r := (.getfield 39, 12, 11, 0)) rfl) rfl rfl).trans ?_
  refine (wp_s (n := 134) (zcode_of mc_132 (r := (.iload_n 1, 0, 0, 0)) rfl) rfl rfl).trans ?_
  refine (wr_ld (n' := 135) rfl hR (zcode_of mc_132 (r := (.iaload, 0, 0, 0)) rfl) rfl rfl).trans (and_congr Iff.rfl ?_)
  exact wp_retI (zcode_of mc_132 (r := (.ireturn, 0, 0, 0)) rfl) rfl
theorem mc_133 : mCode 133 = zc_133 := rfl
set_option maxRecDepth 20000 in
theorem b133 {σ : zSt} {o : Nat} {sc : Nat → Int32} {ar : Nat → Nat → Int32} {P : Option Value → zSt → Prop} (hR : RShape σ o) {x1 x2 x3 : Int32} :
    wpM 133 [.ref o, .int x1, .int x2, .int x3] (rOv σ o sc ar) P ↔ (if x3 = 0 then wp 133 141 [some (.ref o), some (.int x1), some (.int x2), some (.int x3), some (.int 0), none, none, none] [] (rOv σ o sc ar) P else wp 133 7 [some (.ref o), some (.int x1), some (.int x2), some (.int x3), some (.int 0), none, none, none] [] (rOv σ o sc ar) P) := by
  show wp 133 0 [some (.ref o), some (.int x1), some (.int x2), some (.int x3), none, none, none, none] [] (rOv σ o sc ar) P ↔ _
  refine (wp_ic (n' := 1) rfl (zcode_of mc_133 (r := (.iconst 0, 0, 0, 0)) rfl) ci_0).trans ?_
  refine (wp_s (n := 3) (zcode_of mc_133 (r := (.istore 4, 0, 0, 0)) rfl) rfl rfl).trans ?_
  refine (wp_s (n := 4) (zcode_of mc_133 (r := (.iload_n 3, 0, 0, 0)) rfl) rfl rfl).trans ?_
  exact wp_jump (off := 137) (t := 141) (zcode_of mc_133 (r := (.ifCond .eq 137, 0, 0, 0)) rfl) rfl rfl (by decide)
set_option maxRecDepth 20000 in
theorem b133_7 {σ : zSt} {o : Nat} {sc : Nat → Int32} {ar : Nat → Nat → Int32} {P : Option Value → zSt → Prop} (hR : RShape σ o) {x1 x2 x3 x4 : Int32} {u5 u6 u7 : Option Value} :
    wp 133 7 [some (.ref o), some (.int x1), some (.int x2), some (.int x3), some (.int x4), u5, u6, u7] [] (rOv σ o sc ar) P ↔ wp 133 10 [some (.ref o), some (.int x1), some (.int x2), some (.int x3), some (.int x4), some (.int 0), u6, u7] [] (rOv σ o sc ar) P := by
  refine (wp_ic (n' := 8) rfl (zcode_of mc_133 (r := (.iconst 0, 0, 0, 0)) rfl) ci_0).trans ?_
  refine (wp_s (n := 10) (zcode_of mc_133 (r := (.istore 5, 0, 0, 0)) rfl) rfl rfl).trans ?_
  exact Iff.rfl
set_option maxRecDepth 20000 in
theorem b133_10 {σ : zSt} {o : Nat} {sc : Nat → Int32} {ar : Nat → Nat → Int32} {P : Option Value → zSt → Prop} (hR : RShape σ o) {x1 x2 x3 x4 x5 : Int32} {u6 u7 : Option Value} :
    wp 133 10 [some (.ref o), some (.int x1), some (.int x2), some (.int x3), some (.int x4), some (.int x5), u6, u7] [] (rOv σ o sc ar) P ↔ (if (sc 9) ≤ x5 then wp 133 138 [some (.ref o), some (.int x1), some (.int x2), some (.int x3), some (.int x4), some (.int x5), u6, u7] [] (rOv σ o sc ar) P else wp 133 19 [some (.ref o), some (.int x1), some (.int x2), some (.int x3), some (.int x4), some (.int x5), u6, u7] [] (rOv σ o sc ar) P) := by
  refine (wp_s (n := 12) (zcode_of mc_133 (r := (.iload 5, 0, 0, 0)) rfl) rfl rfl).trans ?_
  refine (wp_s (n := 13) (zcode_of mc_133 (r := (.aload_n 0, 0, 0, 0)) rfl) rfl rfl).trans ?_
  refine (wr_getI (n' := 16) rfl hR (zcode_of mc_133 (r := (.getfield 144, 12, 9, 0)) rfl) rfl).trans ?_
  exact wp_jump (off := 122) (t := 138) (zcode_of mc_133 (r := (.if_icmp .ge 122, 0, 0, 0)) rfl) rfl rfl (by decide)
set_option maxRecDepth 20000 in
theorem b133_19 {σ : zSt} {o : Nat} {sc : Nat → Int32} {ar : Nat → Nat → Int32} {P : Option Value → zSt → Prop} (hR : RShape σ o) {x1 x2 x3 x4 x5 : Int32} {u6 u7 : Option Value} :
    wp 133 19 [some (.ref o), some (.int x1), some (.int x2), some (.int x3), some (.int x4), some (.int x5), u6, u7] [] (rOv σ o sc ar) P ↔ wp 133 25 [some (.ref o), some (.int x1), some (.int x2), some (.int x3), some (.int x4), some (.int x5), some (.int 0), some (.int 0)] [] (rOv σ o sc ar) P := by
  refine (wp_ic (n' := 20) rfl (zcode_of mc_133 (r := (.iconst 0, 0, 0, 0)) rfl) ci_0).trans ?_
  refine (wp_s (n := 22) (zcode_of mc_133 (r := (.istore 6, 0, 0, 0)) rfl) rfl rfl).trans ?_
  refine (wp_ic (n' := 23) rfl (zcode_of mc_133 (r := (.iconst 0, 0, 0, 0)) rfl) ci_0).trans ?_
  refine (wp_s (n := 25) (zcode_of mc_133 (r := (.istore 7, 0, 0, 0)) rfl) rfl rfl).trans ?_
  exact Iff.rfl
set_option maxRecDepth 20000 in
theorem b133_25 {σ : zSt} {o : Nat} {sc : Nat → Int32} {ar : Nat → Nat → Int32} {P : Option Value → zSt → Prop} (hR : RShape σ o) {x1 x2 x3 x4 x5 x6 x7 : Int32} :
    wp 133 25 [some (.ref o), some (.int x1), some (.int x2), some (.int x3), some (.int x4), some (.int x5), some (.int x6), some (.int x7)] [] (rOv σ o sc ar) P ↔ (zIn x5 (rlen 31) ∧ (if (ar 31 (Int32.toNatClampNeg x5)) ≤ x7 then wp 133 94 [some (.ref o), some (.int x1), some (.int x2), some (.int x3), some (.int x4), some (.int x5), some (.int x6), some (.int x7)] [] (rOv σ o sc ar) P else wp 133 37 [some (.ref o), some (.int x1), some (.int x2), some (.int x3), some (.int x4), some (.int x5), some (.int x6), some (.int x7)] [] (rOv σ o sc ar) P)) := by
  refine (wp_s (n := 27) (zcode_of mc_133 (r := (.iload 7, 0, 0, 0)) rfl) rfl rfl).trans ?_
  refine (wp_s (n := 28) (zcode_of mc_133 (r := (.aload_n 0, 0, 0, 0)) rfl) rfl rfl).trans ?_
  refine (wr_getA (n' := 31) rfl (t := 31) hR (zcode_of mc_133 (r := (.getfield 39, 12, 11, 0)) rfl) rfl rfl).trans ?_
  refine (wp_s (n := 33) (zcode_of mc_133 (r := (.iload 5, 0, 0, 0)) rfl) rfl rfl).trans ?_
  refine (wr_ld (n' := 34) rfl hR (zcode_of mc_133 (r := (.iaload, 0, 0, 0)) rfl) rfl rfl).trans (and_congr Iff.rfl ?_)
  exact wp_jump (off := 60) (t := 94) (zcode_of mc_133 (r := (.if_icmp .ge 60, 0, 0, 0)) rfl) rfl rfl (by decide)
set_option maxRecDepth 20000 in
theorem b133_37 {σ : zSt} {o : Nat} {sc : Nat → Int32} {ar : Nat → Nat → Int32} {P : Option Value → zSt → Prop} (hR : RShape σ o) {x1 x2 x3 x4 x5 x6 x7 : Int32} :
    wp 133 37 [some (.ref o), some (.int x1), some (.int x2), some (.int x3), some (.int x4), some (.int x5), some (.int x6), some (.int x7)] [] (rOv σ o sc ar) P ↔ (if ¬ x6 = 0 then wp 133 81 [some (.ref o), some (.int x1), some (.int x2), some (.int x3), some (.int x4), some (.int x5), some (.int x6), some (.int x7)] [] (rOv σ o sc ar) P else wp 133 42 [some (.ref o), some (.int x1), some (.int x2), some (.int x3), some (.int x4), some (.int x5), some (.int x6), some (.int x7)] [] (rOv σ o sc ar) P) := by
  refine (wp_s (n := 39) (zcode_of mc_133 (r := (.iload 6, 0, 0, 0)) rfl) rfl rfl).trans ?_
  exact wp_jump (off := 42) (t := 81) (zcode_of mc_133 (r := (.ifCond .ne 42, 0, 0, 0)) rfl) rfl rfl (by decide)
set_option maxRecDepth 20000 in
theorem b133_42 {σ : zSt} {o : Nat} {sc : Nat → Int32} {ar : Nat → Nat → Int32} {P : Option Value → zSt → Prop} (hR : RShape σ o) {x1 x2 x3 x4 x5 x6 x7 : Int32} :
    wp 133 42 [some (.ref o), some (.int x1), some (.int x2), some (.int x3), some (.int x4), some (.int x5), some (.int x6), some (.int x7)] [] (rOv σ o sc ar) P ↔ (zIn ((6 * x5) + x7) (rlen 30) ∧ (if (ar 30 (Int32.toNatClampNeg ((6 * x5) + x7))) = x2 then wp 133 81 [some (.ref o), some (.int x1), some (.int x2), some (.int x3), some (.int x4), some (.int x5), some (.int x6), some (.int x7)] [] (rOv σ o sc ar) P else wp 133 59 [some (.ref o), some (.int x1), some (.int x2), some (.int x3), some (.int x4), some (.int x5), some (.int x6), some (.int x7)] [] (rOv σ o sc ar) P)) := by
  refine (wp_s (n := 43) (zcode_of mc_133 (r := (.aload_n 0, 0, 0, 0)) rfl) rfl rfl).trans ?_
  refine (wr_getA (n' := 46) rfl (t := 30) hR (zcode_of mc_133 (r := (.getfield 36, 12, 10, 0)) rfl) rfl rfl).trans ?_
  refine (wp_bp (n' := 48) rfl (zcode_of mc_133 (r := (.bipush 6, 0, 0, 0)) rfl) cb_6).trans ?_
  refine (wp_s (n := 50) (zcode_of mc_133 (r := (.iload 5, 0, 0, 0)) rfl) rfl rfl).trans ?_
  refine (wp_s (n := 51) (zcode_of mc_133 (r := (.imul, 0, 0, 0)) rfl) rfl rfl).trans ?_
  refine (wp_s (n := 53) (zcode_of mc_133 (r := (.iload 7, 0, 0, 0)) rfl) rfl rfl).trans ?_
  refine (wp_s (n := 54) (zcode_of mc_133 (r := (.iadd, 0, 0, 0)) rfl) rfl rfl).trans ?_
  refine (wr_ld (n' := 55) rfl hR (zcode_of mc_133 (r := (.iaload, 0, 0, 0)) rfl) rfl rfl).trans (and_congr Iff.rfl ?_)
  refine (wp_s (n := 56) (zcode_of mc_133 (r := (.iload_n 2, 0, 0, 0)) rfl) rfl rfl).trans ?_
  exact wp_jump (off := 25) (t := 81) (zcode_of mc_133 (r := (.if_icmp .eq 25, 0, 0, 0)) rfl) rfl rfl (by decide)
set_option maxRecDepth 20000 in
theorem b133_59 {σ : zSt} {o : Nat} {sc : Nat → Int32} {ar : Nat → Nat → Int32} {P : Option Value → zSt → Prop} (hR : RShape σ o) {x1 x2 x3 x4 x5 x6 x7 : Int32} :
    wp 133 59 [some (.ref o), some (.int x1), some (.int x2), some (.int x3), some (.int x4), some (.int x5), some (.int x6), some (.int x7)] [] (rOv σ o sc ar) P ↔ (zIn ((6 * x5) + x7) (rlen 30) ∧ (zIn x2 (rlen 21) ∧ (if ¬ (ar 30 (Int32.toNatClampNeg ((6 * x5) + x7))) = (ar 21 (Int32.toNatClampNeg x2)) then wp 133 85 [some (.ref o), some (.int x1), some (.int x2), some (.int x3), some (.int x4), some (.int x5), some (.int x6), some (.int x7)] [] (rOv σ o sc ar) P else wp 133 81 [some (.ref o), some (.int x1), some (.int x2), some (.int x3), some (.int x4), some (.int x5), some (.int x6), some (.int x7)] [] (rOv σ o sc ar) P))) := by
  refine (wp_s (n := 60) (zcode_of mc_133 (r := (.aload_n 0, 0, 0, 0)) rfl) rfl rfl).trans ?_
  refine (wr_getA (n' := 63) rfl (t := 30) hR (zcode_of mc_133 (r := (.getfield 36, 12, 10, 0)) rfl) rfl rfl).trans ?_
  refine (wp_bp (n' := 65) rfl (zcode_of mc_133 (r := (.bipush 6, 0, 0, 0)) rfl) cb_6).trans ?_
  refine (wp_s (n := 67) (zcode_of mc_133 (r := (.iload 5, 0, 0, 0)) rfl) rfl rfl).trans ?_
  refine (wp_s (n := 68) (zcode_of mc_133 (r := (.imul, 0, 0, 0)) rfl) rfl rfl).trans ?_
  refine (wp_s (n := 70) (zcode_of mc_133 (r := (.iload 7, 0, 0, 0)) rfl) rfl rfl).trans ?_
  refine (wp_s (n := 71) (zcode_of mc_133 (r := (.iadd, 0, 0, 0)) rfl) rfl rfl).trans ?_
  refine (wr_ld (n' := 72) rfl hR (zcode_of mc_133 (r := (.iaload, 0, 0, 0)) rfl) rfl rfl).trans (and_congr Iff.rfl ?_)
  refine (wp_s (n := 73) (zcode_of mc_133 (r := (.aload_n 0, 0, 0, 0)) rfl) rfl rfl).trans ?_
  refine (wr_getA (n' := 76) rfl (t := 21) hR (zcode_of mc_133 (r := (.getfield 13, 12, 1, 0)) rfl) rfl rfl).trans ?_
  refine (wp_s (n := 77) (zcode_of mc_133 (r := (.iload_n 2, 0, 0, 0)) rfl) rfl rfl).trans ?_
  refine (wr_ld (n' := 78) rfl hR (zcode_of mc_133 (r := (.iaload, 0, 0, 0)) rfl) rfl rfl).trans (and_congr Iff.rfl ?_)
  exact wp_jump (off := 7) (t := 85) (zcode_of mc_133 (r := (.if_icmp .ne 7, 0, 0, 0)) rfl) rfl rfl (by decide)
set_option maxRecDepth 20000 in
theorem b133_81 {σ : zSt} {o : Nat} {sc : Nat → Int32} {ar : Nat → Nat → Int32} {P : Option Value → zSt → Prop} (hR : RShape σ o) {x1 x2 x3 x4 x5 x6 x7 : Int32} :
    wp 133 81 [some (.ref o), some (.int x1), some (.int x2), some (.int x3), some (.int x4), some (.int x5), some (.int x6), some (.int x7)] [] (rOv σ o sc ar) P ↔ wp 133 86 [some (.ref o), some (.int x1), some (.int x2), some (.int x3), some (.int x4), some (.int x5), some (.int x6), some (.int x7)] [.int 1] (rOv σ o sc ar) P := by
  refine (wp_ic (n' := 82) rfl (zcode_of mc_133 (r := (.iconst 1, 0, 0, 0)) rfl) ci_1).trans ?_
  exact wp_goto (off := 4) (t := 86) (zcode_of mc_133 (r := (.goto 4, 0, 0, 0)) rfl) (by decide)
set_option maxRecDepth 20000 in
theorem b133_85 {σ : zSt} {o : Nat} {sc : Nat → Int32} {ar : Nat → Nat → Int32} {P : Option Value → zSt → Prop} (hR : RShape σ o) {x1 x2 x3 x4 x5 x6 x7 : Int32} :
    wp 133 85 [some (.ref o), some (.int x1), some (.int x2), some (.int x3), some (.int x4), some (.int x5), some (.int x6), some (.int x7)] [] (rOv σ o sc ar) P ↔ wp 133 86 [some (.ref o), some (.int x1), some (.int x2), some (.int x3), some (.int x4), some (.int x5), some (.int x6), some (.int x7)] [.int 0] (rOv σ o sc ar) P := by
  refine (wp_ic (n' := 86) rfl (zcode_of mc_133 (r := (.iconst 0, 0, 0, 0)) rfl) ci_0).trans ?_
  exact Iff.rfl
set_option maxRecDepth 20000 in
theorem b133_86 {σ : zSt} {o : Nat} {sc : Nat → Int32} {ar : Nat → Nat → Int32} {P : Option Value → zSt → Prop} (hR : RShape σ o) {x1 x2 x3 x4 x5 x6 x7 s0 : Int32} :
    wp 133 86 [some (.ref o), some (.int x1), some (.int x2), some (.int x3), some (.int x4), some (.int x5), some (.int x6), some (.int x7)] [.int s0] (rOv σ o sc ar) P ↔ wp 133 25 [some (.ref o), some (.int x1), some (.int x2), some (.int x3), some (.int x4), some (.int x5), some (.int s0), some (.int (x7 + 1))] [] (rOv σ o sc ar) P := by
  refine (wp_s (n := 88) (zcode_of mc_133 (r := (.istore 6, 0, 0, 0)) rfl) rfl rfl).trans ?_
  refine (wp_inc (n' := 91) rfl (zcode_of mc_133 (r := (.iinc 7 1, 0, 0, 0)) rfl) rfl rfl ci_1).trans ?_
  exact wp_goto (off := (-66)) (t := 25) (zcode_of mc_133 (r := (.goto (-66), 0, 0, 0)) rfl) (by decide)
set_option maxRecDepth 20000 in
theorem b133_94 {σ : zSt} {o : Nat} {sc : Nat → Int32} {ar : Nat → Nat → Int32} {P : Option Value → zSt → Prop} (hR : RShape σ o) {x1 x2 x3 x4 x5 x6 x7 : Int32} :
    wp 133 94 [some (.ref o), some (.int x1), some (.int x2), some (.int x3), some (.int x4), some (.int x5), some (.int x6), some (.int x7)] [] (rOv σ o sc ar) P ↔ wpM 130 [.ref o, .int x1] (rOv σ o sc ar) (fun r τ => wp 133 99 [some (.ref o), some (.int x1), some (.int x2), some (.int x3), some (.int x4), some (.int x5), some (.int x6), some (.int x7)] (r.toList ++ []) τ P) := by
  refine (wp_s (n := 95) (zcode_of mc_133 (r := (.aload_n 0, 0, 0, 0)) rfl) rfl rfl).trans ?_
  refine (wp_s (n := 96) (zcode_of mc_133 (r := (.iload_n 1, 0, 0, 0)) rfl) rfl rfl).trans ?_
  exact wp_call (q := ([.ref o, .int x1], [])) (zcode_of mc_133 (r := (.invokevirtual 173, 130, 0, 1)) rfl) rfl (zCa_V (Nat.le_of_ble_eq_true rfl) rfl hR.tg) ⟨Nat.le_of_ble_eq_true rfl, Nat.le_of_ble_eq_true rfl⟩
set_option maxRecDepth 20000 in
theorem b133_99 {σ : zSt} {o : Nat} {sc : Nat → Int32} {ar : Nat → Nat → Int32} {P : Option Value → zSt → Prop} (hR : RShape σ o) {x1 x2 x3 x4 x5 x6 x7 : Int32} :
    wp 133 99 [some (.ref o), some (.int x1), some (.int x2), some (.int x3), some (.int x4), some (.int x5), some (.int x6), some (.int x7)] [] (rOv σ o sc ar) P ↔ (if ¬ x4 = 0 then wp 133 125 [some (.ref o), some (.int x1), some (.int x2), some (.int x3), some (.int x4), some (.int x5), some (.int x6), some (.int x7)] [] (rOv σ o sc ar) P else wp 133 104 [some (.ref o), some (.int x1), some (.int x2), some (.int x3), some (.int x4), some (.int x5), some (.int x6), some (.int x7)] [] (rOv σ o sc ar) P) := by
  refine (wp_s (n := 101) (zcode_of mc_133 (r := (.iload 4, 0, 0, 0)) rfl) rfl rfl).trans ?_
  exact wp_jump (off := 24) (t := 125) (zcode_of mc_133 (r := (.ifCond .ne 24, 0, 0, 0)) rfl) rfl rfl (by decide)
set_option maxRecDepth 20000 in
theorem b133_104 {σ : zSt} {o : Nat} {sc : Nat → Int32} {ar : Nat → Nat → Int32} {P : Option Value → zSt → Prop} (hR : RShape σ o) {x1 x2 x3 x4 x5 x6 x7 : Int32} :
    wp 133 104 [some (.ref o), some (.int x1), some (.int x2), some (.int x3), some (.int x4), some (.int x5), some (.int x6), some (.int x7)] [] (rOv σ o sc ar) P ↔ (if x6 = 0 then wp 133 129 [some (.ref o), some (.int x1), some (.int x2), some (.int x3), some (.int x4), some (.int x5), some (.int x6), some (.int x7)] [] (rOv σ o sc ar) P else wp 133 109 [some (.ref o), some (.int x1), some (.int x2), some (.int x3), some (.int x4), some (.int x5), some (.int x6), some (.int x7)] [] (rOv σ o sc ar) P) := by
  refine (wp_s (n := 106) (zcode_of mc_133 (r := (.iload 6, 0, 0, 0)) rfl) rfl rfl).trans ?_
  exact wp_jump (off := 23) (t := 129) (zcode_of mc_133 (r := (.ifCond .eq 23, 0, 0, 0)) rfl) rfl rfl (by decide)
set_option maxRecDepth 20000 in
theorem b133_109 {σ : zSt} {o : Nat} {sc : Nat → Int32} {ar : Nat → Nat → Int32} {P : Option Value → zSt → Prop} (hR : RShape σ o) {x1 x2 x3 x4 x5 x6 x7 : Int32} :
    wp 133 109 [some (.ref o), some (.int x1), some (.int x2), some (.int x3), some (.int x4), some (.int x5), some (.int x6), some (.int x7)] [] (rOv σ o sc ar) P ↔ (if x5 = x1 then wp 133 125 [some (.ref o), some (.int x1), some (.int x2), some (.int x3), some (.int x4), some (.int x5), some (.int x6), some (.int x7)] [] (rOv σ o sc ar) P else wp 133 115 [some (.ref o), some (.int x1), some (.int x2), some (.int x3), some (.int x4), some (.int x5), some (.int x6), some (.int x7)] [] (rOv σ o sc ar) P) := by
  refine (wp_s (n := 111) (zcode_of mc_133 (r := (.iload 5, 0, 0, 0)) rfl) rfl rfl).trans ?_
  refine (wp_s (n := 112) (zcode_of mc_133 (r := (.iload_n 1, 0, 0, 0)) rfl) rfl rfl).trans ?_
  exact wp_jump (off := 13) (t := 125) (zcode_of mc_133 (r := (.if_icmp .eq 13, 0, 0, 0)) rfl) rfl rfl (by decide)
set_option maxRecDepth 20000 in
theorem b133_115 {σ : zSt} {o : Nat} {sc : Nat → Int32} {ar : Nat → Nat → Int32} {P : Option Value → zSt → Prop} (hR : RShape σ o) {x1 x2 x3 x4 x5 x6 x7 : Int32} :
    wp 133 115 [some (.ref o), some (.int x1), some (.int x2), some (.int x3), some (.int x4), some (.int x5), some (.int x6), some (.int x7)] [] (rOv σ o sc ar) P ↔ (zIn x5 (rlen 61) ∧ (if (ar 61 (Int32.toNatClampNeg x5)) = 0 then wp 133 129 [some (.ref o), some (.int x1), some (.int x2), some (.int x3), some (.int x4), some (.int x5), some (.int x6), some (.int x7)] [] (rOv σ o sc ar) P else wp 133 125 [some (.ref o), some (.int x1), some (.int x2), some (.int x3), some (.int x4), some (.int x5), some (.int x6), some (.int x7)] [] (rOv σ o sc ar) P)) := by
  refine (wp_s (n := 116) (zcode_of mc_133 (r := (.aload_n 0, 0, 0, 0)) rfl) rfl rfl).trans ?_
  refine (wr_getA (n' := 119) rfl (t := 61) hR (zcode_of mc_133 (r := (.getfield 113, 12, 41, 0)) rfl) rfl rfl).trans ?_
  refine (wp_s (n := 121) (zcode_of mc_133 (r := (.iload 5, 0, 0, 0)) rfl) rfl rfl).trans ?_
  refine (wr_ldZ (n' := 122) rfl hR (zcode_of mc_133 (r := (.baload, 0, 0, 0)) rfl) rfl rfl).trans (and_congr Iff.rfl ?_)
  exact wp_jump (off := 7) (t := 129) (zcode_of mc_133 (r := (.ifCond .eq 7, 0, 0, 0)) rfl) rfl rfl (by decide)
set_option maxRecDepth 20000 in
theorem b133_125 {σ : zSt} {o : Nat} {sc : Nat → Int32} {ar : Nat → Nat → Int32} {P : Option Value → zSt → Prop} (hR : RShape σ o) {x1 x2 x3 x4 x5 x6 x7 : Int32} :
    wp 133 125 [some (.ref o), some (.int x1), some (.int x2), some (.int x3), some (.int x4), some (.int x5), some (.int x6), some (.int x7)] [] (rOv σ o sc ar) P ↔ wp 133 130 [some (.ref o), some (.int x1), some (.int x2), some (.int x3), some (.int x4), some (.int x5), some (.int x6), some (.int x7)] [.int 1] (rOv σ o sc ar) P := by
  refine (wp_ic (n' := 126) rfl (zcode_of mc_133 (r := (.iconst 1, 0, 0, 0)) rfl) ci_1).trans ?_
  exact wp_goto (off := 4) (t := 130) (zcode_of mc_133 (r := (.goto 4, 0, 0, 0)) rfl) (by decide)
set_option maxRecDepth 20000 in
theorem b133_129 {σ : zSt} {o : Nat} {sc : Nat → Int32} {ar : Nat → Nat → Int32} {P : Option Value → zSt → Prop} (hR : RShape σ o) {x1 x2 x3 x4 x5 x6 x7 : Int32} :
    wp 133 129 [some (.ref o), some (.int x1), some (.int x2), some (.int x3), some (.int x4), some (.int x5), some (.int x6), some (.int x7)] [] (rOv σ o sc ar) P ↔ wp 133 130 [some (.ref o), some (.int x1), some (.int x2), some (.int x3), some (.int x4), some (.int x5), some (.int x6), some (.int x7)] [.int 0] (rOv σ o sc ar) P := by
  refine (wp_ic (n' := 130) rfl (zcode_of mc_133 (r := (.iconst 0, 0, 0, 0)) rfl) ci_0).trans ?_
  exact Iff.rfl
set_option maxRecDepth 20000 in
theorem b133_130 {σ : zSt} {o : Nat} {sc : Nat → Int32} {ar : Nat → Nat → Int32} {P : Option Value → zSt → Prop} (hR : RShape σ o) {x1 x2 x3 x4 x5 x6 x7 s0 : Int32} :
    wp 133 130 [some (.ref o), some (.int x1), some (.int x2), some (.int x3), some (.int x4), some (.int x5), some (.int x6), some (.int x7)] [.int s0] (rOv σ o sc ar) P ↔ wp 133 10 [some (.ref o), some (.int x1), some (.int x2), some (.int x3), some (.int s0), some (.int (x5 + 1)), some (.int x6), some (.int x7)] [] (rOv σ o sc ar) P := by
  refine (wp_s (n := 132) (zcode_of mc_133 (r := (.istore 4, 0, 0, 0)) rfl) rfl rfl).trans ?_
  refine (wp_inc (n' := 135) rfl (zcode_of mc_133 (r := (.iinc 5 1, 0, 0, 0)) rfl) rfl rfl ci_1).trans ?_
  exact wp_goto (off := (-125)) (t := 10) (zcode_of mc_133 (r := (.goto (-125), 0, 0, 0)) rfl) (by decide)
set_option maxRecDepth 20000 in
theorem b133_138 {σ : zSt} {o : Nat} {sc : Nat → Int32} {ar : Nat → Nat → Int32} {P : Option Value → zSt → Prop} (hR : RShape σ o) {x1 x2 x3 x4 x5 : Int32} {u6 u7 : Option Value} :
    wp 133 138 [some (.ref o), some (.int x1), some (.int x2), some (.int x3), some (.int x4), some (.int x5), u6, u7] [] (rOv σ o sc ar) P ↔ ((x4 = 0 ∨ x4 = 1) ∧ P (some (.int x4)) (rOv σ o sc ar)) := by
  refine (wp_s (n := 140) (zcode_of mc_133 (r := (.iload 4, 0, 0, 0)) rfl) rfl rfl).trans ?_
  exact wp_retZ (zcode_of mc_133 (r := (.ireturn, 0, 0, 0)) rfl) rfl
set_option maxRecDepth 20000 in
theorem b133_141 {σ : zSt} {o : Nat} {sc : Nat → Int32} {ar : Nat → Nat → Int32} {P : Option Value → zSt → Prop} (hR : RShape σ o) {x1 x2 x3 x4 : Int32} {u5 u6 u7 : Option Value} :
    wp 133 141 [some (.ref o), some (.int x1), some (.int x2), some (.int x3), some (.int x4), u5, u6, u7] [] (rOv σ o sc ar) P ↔ wpM 130 [.ref o, .int x1] (rOv σ o sc ar) (fun r τ => wp 133 146 [some (.ref o), some (.int x1), some (.int x2), some (.int x3), some (.int x4), u5, u6, u7] (r.toList ++ []) τ P) := by
  refine (wp_s (n := 142) (zcode_of mc_133 (r := (.aload_n 0, 0, 0, 0)) rfl) rfl rfl).trans ?_
  refine (wp_s (n := 143) (zcode_of mc_133 (r := (.iload_n 1, 0, 0, 0)) rfl) rfl rfl).trans ?_
  exact wp_call (q := ([.ref o, .int x1], [])) (zcode_of mc_133 (r := (.invokevirtual 173, 130, 0, 1)) rfl) rfl (zCa_V (Nat.le_of_ble_eq_true rfl) rfl hR.tg) ⟨Nat.le_of_ble_eq_true rfl, Nat.le_of_ble_eq_true rfl⟩
set_option maxRecDepth 20000 in
theorem b133_146 {σ : zSt} {o : Nat} {sc : Nat → Int32} {ar : Nat → Nat → Int32} {P : Option Value → zSt → Prop} (hR : RShape σ o) {x1 x2 x3 x4 : Int32} {u5 u6 u7 : Option Value} :
    wp 133 146 [some (.ref o), some (.int x1), some (.int x2), some (.int x3), some (.int x4), u5, u6, u7] [] (rOv σ o sc ar) P ↔ wp 133 149 [some (.ref o), some (.int x1), some (.int x2), some (.int x3), some (.int x4), some (.int 1), u6, u7] [] (rOv σ o sc ar) P := by
  refine (wp_ic (n' := 147) rfl (zcode_of mc_133 (r := (.iconst 1, 0, 0, 0)) rfl) ci_1).trans ?_
  refine (wp_s (n := 149) (zcode_of mc_133 (r := (.istore 5, 0, 0, 0)) rfl) rfl rfl).trans ?_
  exact Iff.rfl
set_option maxRecDepth 20000 in
theorem b133_149 {σ : zSt} {o : Nat} {sc : Nat → Int32} {ar : Nat → Nat → Int32} {P : Option Value → zSt → Prop} (hR : RShape σ o) {x1 x2 x3 x4 x5 : Int32} {u6 u7 : Option Value} :
    wp 133 149 [some (.ref o), some (.int x1), some (.int x2), some (.int x3), some (.int x4), some (.int x5), u6, u7] [] (rOv σ o sc ar) P ↔ (if (sc 0) ≤ x5 then wp 133 253 [some (.ref o), some (.int x1), some (.int x2), some (.int x3), some (.int x4), some (.int x5), u6, u7] [] (rOv σ o sc ar) P else wp 133 158 [some (.ref o), some (.int x1), some (.int x2), some (.int x3), some (.int x4), some (.int x5), u6, u7] [] (rOv σ o sc ar) P) := by
  refine (wp_s (n := 151) (zcode_of mc_133 (r := (.iload 5, 0, 0, 0)) rfl) rfl rfl).trans ?_
  refine (wp_s (n := 152) (zcode_of mc_133 (r := (.aload_n 0, 0, 0, 0)) rfl) rfl rfl).trans ?_
  refine (wr_getI (n' := 155) rfl hR (zcode_of mc_133 (r := (.getfield 7, 12, 0, 0)) rfl) rfl).trans ?_
  exact wp_jump (off := 98) (t := 253) (zcode_of mc_133 (r := (.if_icmp .ge 98, 0, 0, 0)) rfl) rfl rfl (by decide)
set_option maxRecDepth 20000 in
theorem b133_158 {σ : zSt} {o : Nat} {sc : Nat → Int32} {ar : Nat → Nat → Int32} {P : Option Value → zSt → Prop} (hR : RShape σ o) {x1 x2 x3 x4 x5 : Int32} {u6 u7 : Option Value} :
    wp 133 158 [some (.ref o), some (.int x1), some (.int x2), some (.int x3), some (.int x4), some (.int x5), u6, u7] [] (rOv σ o sc ar) P ↔ (zIn x5 (rlen 24) ∧ (if (ar 24 (Int32.toNatClampNeg x5)) = (-1) then wp 133 194 [some (.ref o), some (.int x1), some (.int x2), some (.int x3), some (.int x4), some (.int x5), some (.int (ar 24 (Int32.toNatClampNeg x5))), u7] [] (rOv σ o sc ar) P else wp 133 173 [some (.ref o), some (.int x1), some (.int x2), some (.int x3), some (.int x4), some (.int x5), some (.int (ar 24 (Int32.toNatClampNeg x5))), u7] [] (rOv σ o sc ar) P)) := by
  refine (wp_s (n := 159) (zcode_of mc_133 (r := (.aload_n 0, 0, 0, 0)) rfl) rfl rfl).trans ?_
  refine (wr_getA (n' := 162) rfl (t := 24) hR (zcode_of mc_133 (r := (.getfield 24, 12, 4, 0)) rfl) rfl rfl).trans ?_
  refine (wp_s (n := 164) (zcode_of mc_133 (r := (.iload 5, 0, 0, 0)) rfl) rfl rfl).trans ?_
  refine (wr_ld (n' := 165) rfl hR (zcode_of mc_133 (r := (.iaload, 0, 0, 0)) rfl) rfl rfl).trans (and_congr Iff.rfl ?_)
  refine (wp_s (n := 167) (zcode_of mc_133 (r := (.istore 6, 0, 0, 0)) rfl) rfl rfl).trans ?_
  refine (wp_s (n := 169) (zcode_of mc_133 (r := (.iload 6, 0, 0, 0)) rfl) rfl rfl).trans ?_
  refine (wp_ic (n' := 170) rfl (zcode_of mc_133 (r := (.iconst (-1), 0, 0, 0)) rfl) ci_m1).trans ?_
  exact wp_jump (off := 24) (t := 194) (zcode_of mc_133 (r := (.if_icmp .eq 24, 0, 0, 0)) rfl) rfl rfl (by decide)
set_option maxRecDepth 20000 in
theorem b133_173 {σ : zSt} {o : Nat} {sc : Nat → Int32} {ar : Nat → Nat → Int32} {P : Option Value → zSt → Prop} (hR : RShape σ o) {x1 x2 x3 x4 x5 x6 : Int32} {u7 : Option Value} :
    wp 133 173 [some (.ref o), some (.int x1), some (.int x2), some (.int x3), some (.int x4), some (.int x5), some (.int x6), u7] [] (rOv σ o sc ar) P ↔ (if x5 = x2 then wp 133 190 [some (.ref o), some (.int x1), some (.int x2), some (.int x3), some (.int x4), some (.int x5), some (.int x6), u7] [] (rOv σ o sc ar) P else wp 133 179 [some (.ref o), some (.int x1), some (.int x2), some (.int x3), some (.int x4), some (.int x5), some (.int x6), u7] [] (rOv σ o sc ar) P) := by
  refine (wp_s (n := 175) (zcode_of mc_133 (r := (.iload 5, 0, 0, 0)) rfl) rfl rfl).trans ?_
  refine (wp_s (n := 176) (zcode_of mc_133 (r := (.iload_n 2, 0, 0, 0)) rfl) rfl rfl).trans ?_
  exact wp_jump (off := 14) (t := 190) (zcode_of mc_133 (r := (.if_icmp .eq 14, 0, 0, 0)) rfl) rfl rfl (by decide)
set_option maxRecDepth 20000 in
theorem b133_179 {σ : zSt} {o : Nat} {sc : Nat → Int32} {ar : Nat → Nat → Int32} {P : Option Value → zSt → Prop} (hR : RShape σ o) {x1 x2 x3 x4 x5 x6 : Int32} {u7 : Option Value} :
    wp 133 179 [some (.ref o), some (.int x1), some (.int x2), some (.int x3), some (.int x4), some (.int x5), some (.int x6), u7] [] (rOv σ o sc ar) P ↔ (zIn x5 (rlen 21) ∧ (if ¬ (ar 21 (Int32.toNatClampNeg x5)) = x2 then wp 133 194 [some (.ref o), some (.int x1), some (.int x2), some (.int x3), some (.int x4), some (.int x5), some (.int x6), u7] [] (rOv σ o sc ar) P else wp 133 190 [some (.ref o), some (.int x1), some (.int x2), some (.int x3), some (.int x4), some (.int x5), some (.int x6), u7] [] (rOv σ o sc ar) P)) := by
  refine (wp_s (n := 180) (zcode_of mc_133 (r := (.aload_n 0, 0, 0, 0)) rfl) rfl rfl).trans ?_
  refine (wr_getA (n' := 183) rfl (t := 21) hR (zcode_of mc_133 (r := (.getfield 13, 12, 1, 0)) rfl) rfl rfl).trans ?_
  refine (wp_s (n := 185) (zcode_of mc_133 (r := (.iload 5, 0, 0, 0)) rfl) rfl rfl).trans ?_
  refine (wr_ld (n' := 186) rfl hR (zcode_of mc_133 (r := (.iaload, 0, 0, 0)) rfl) rfl rfl).trans (and_congr Iff.rfl ?_)
  refine (wp_s (n := 187) (zcode_of mc_133 (r := (.iload_n 2, 0, 0, 0)) rfl) rfl rfl).trans ?_
  exact wp_jump (off := 7) (t := 194) (zcode_of mc_133 (r := (.if_icmp .ne 7, 0, 0, 0)) rfl) rfl rfl (by decide)
set_option maxRecDepth 20000 in
theorem b133_190 {σ : zSt} {o : Nat} {sc : Nat → Int32} {ar : Nat → Nat → Int32} {P : Option Value → zSt → Prop} (hR : RShape σ o) {x1 x2 x3 x4 x5 x6 : Int32} {u7 : Option Value} :
    wp 133 190 [some (.ref o), some (.int x1), some (.int x2), some (.int x3), some (.int x4), some (.int x5), some (.int x6), u7] [] (rOv σ o sc ar) P ↔ wp 133 195 [some (.ref o), some (.int x1), some (.int x2), some (.int x3), some (.int x4), some (.int x5), some (.int x6), u7] [.int 1] (rOv σ o sc ar) P := by
  refine (wp_ic (n' := 191) rfl (zcode_of mc_133 (r := (.iconst 1, 0, 0, 0)) rfl) ci_1).trans ?_
  exact wp_goto (off := 4) (t := 195) (zcode_of mc_133 (r := (.goto 4, 0, 0, 0)) rfl) (by decide)
set_option maxRecDepth 20000 in
theorem b133_194 {σ : zSt} {o : Nat} {sc : Nat → Int32} {ar : Nat → Nat → Int32} {P : Option Value → zSt → Prop} (hR : RShape σ o) {x1 x2 x3 x4 x5 x6 : Int32} {u7 : Option Value} :
    wp 133 194 [some (.ref o), some (.int x1), some (.int x2), some (.int x3), some (.int x4), some (.int x5), some (.int x6), u7] [] (rOv σ o sc ar) P ↔ wp 133 195 [some (.ref o), some (.int x1), some (.int x2), some (.int x3), some (.int x4), some (.int x5), some (.int x6), u7] [.int 0] (rOv σ o sc ar) P := by
  refine (wp_ic (n' := 195) rfl (zcode_of mc_133 (r := (.iconst 0, 0, 0, 0)) rfl) ci_0).trans ?_
  exact Iff.rfl
set_option maxRecDepth 20000 in
theorem b133_195 {σ : zSt} {o : Nat} {sc : Nat → Int32} {ar : Nat → Nat → Int32} {P : Option Value → zSt → Prop} (hR : RShape σ o) {x1 x2 x3 x4 x5 x6 s0 : Int32} {u7 : Option Value} :
    wp 133 195 [some (.ref o), some (.int x1), some (.int x2), some (.int x3), some (.int x4), some (.int x5), some (.int x6), u7] [.int s0] (rOv σ o sc ar) P ↔ (if s0 = 0 then wp 133 247 [some (.ref o), some (.int x1), some (.int x2), some (.int x3), some (.int x4), some (.int x5), some (.int x6), some (.int s0)] [] (rOv σ o sc ar) P else wp 133 202 [some (.ref o), some (.int x1), some (.int x2), some (.int x3), some (.int x4), some (.int x5), some (.int x6), some (.int s0)] [] (rOv σ o sc ar) P) := by
  refine (wp_s (n := 197) (zcode_of mc_133 (r := (.istore 7, 0, 0, 0)) rfl) rfl rfl).trans ?_
  refine (wp_s (n := 199) (zcode_of mc_133 (r := (.iload 7, 0, 0, 0)) rfl) rfl rfl).trans ?_
  exact wp_jump (off := 48) (t := 247) (zcode_of mc_133 (r := (.ifCond .eq 48, 0, 0, 0)) rfl) rfl rfl (by decide)
set_option maxRecDepth 20000 in
theorem b133_202 {σ : zSt} {o : Nat} {sc : Nat → Int32} {ar : Nat → Nat → Int32} {P : Option Value → zSt → Prop} (hR : RShape σ o) {x1 x2 x3 x4 x5 x6 x7 : Int32} :
    wp 133 202 [some (.ref o), some (.int x1), some (.int x2), some (.int x3), some (.int x4), some (.int x5), some (.int x6), some (.int x7)] [] (rOv σ o sc ar) P ↔ (if ¬ x4 = 0 then wp 133 213 [some (.ref o), some (.int x1), some (.int x2), some (.int x3), some (.int x4), some (.int x5), some (.int x6), some (.int x7)] [] (rOv σ o sc ar) P else wp 133 207 [some (.ref o), some (.int x1), some (.int x2), some (.int x3), some (.int x4), some (.int x5), some (.int x6), some (.int x7)] [] (rOv σ o sc ar) P) := by
  refine (wp_s (n := 204) (zcode_of mc_133 (r := (.iload 4, 0, 0, 0)) rfl) rfl rfl).trans ?_
  exact wp_jump (off := 9) (t := 213) (zcode_of mc_133 (r := (.ifCond .ne 9, 0, 0, 0)) rfl) rfl rfl (by decide)
set_option maxRecDepth 20000 in
theorem b133_207 {σ : zSt} {o : Nat} {sc : Nat → Int32} {ar : Nat → Nat → Int32} {P : Option Value → zSt → Prop} (hR : RShape σ o) {x1 x2 x3 x4 x5 x6 x7 : Int32} :
    wp 133 207 [some (.ref o), some (.int x1), some (.int x2), some (.int x3), some (.int x4), some (.int x5), some (.int x6), some (.int x7)] [] (rOv σ o sc ar) P ↔ (if ¬ x6 = x1 then wp 133 217 [some (.ref o), some (.int x1), some (.int x2), some (.int x3), some (.int x4), some (.int x5), some (.int x6), some (.int x7)] [] (rOv σ o sc ar) P else wp 133 213 [some (.ref o), some (.int x1), some (.int x2), some (.int x3), some (.int x4), some (.int x5), some (.int x6), some (.int x7)] [] (rOv σ o sc ar) P) := by
  refine (wp_s (n := 209) (zcode_of mc_133 (r := (.iload 6, 0, 0, 0)) rfl) rfl rfl).trans ?_
  refine (wp_s (n := 210) (zcode_of mc_133 (r := (.iload_n 1, 0, 0, 0)) rfl) rfl rfl).trans ?_
  exact wp_jump (off := 7) (t := 217) (zcode_of mc_133 (r := (.if_icmp .ne 7, 0, 0, 0)) rfl) rfl rfl (by decide)
set_option maxRecDepth 20000 in
theorem b133_213 {σ : zSt} {o : Nat} {sc : Nat → Int32} {ar : Nat → Nat → Int32} {P : Option Value → zSt → Prop} (hR : RShape σ o) {x1 x2 x3 x4 x5 x6 x7 : Int32} :
    wp 133 213 [some (.ref o), some (.int x1), some (.int x2), some (.int x3), some (.int x4), some (.int x5), some (.int x6), some (.int x7)] [] (rOv σ o sc ar) P ↔ wp 133 218 [some (.ref o), some (.int x1), some (.int x2), some (.int x3), some (.int x4), some (.int x5), some (.int x6), some (.int x7)] [.int 1] (rOv σ o sc ar) P := by
  refine (wp_ic (n' := 214) rfl (zcode_of mc_133 (r := (.iconst 1, 0, 0, 0)) rfl) ci_1).trans ?_
  exact wp_goto (off := 4) (t := 218) (zcode_of mc_133 (r := (.goto 4, 0, 0, 0)) rfl) (by decide)
set_option maxRecDepth 20000 in
theorem b133_217 {σ : zSt} {o : Nat} {sc : Nat → Int32} {ar : Nat → Nat → Int32} {P : Option Value → zSt → Prop} (hR : RShape σ o) {x1 x2 x3 x4 x5 x6 x7 : Int32} :
    wp 133 217 [some (.ref o), some (.int x1), some (.int x2), some (.int x3), some (.int x4), some (.int x5), some (.int x6), some (.int x7)] [] (rOv σ o sc ar) P ↔ wp 133 218 [some (.ref o), some (.int x1), some (.int x2), some (.int x3), some (.int x4), some (.int x5), some (.int x6), some (.int x7)] [.int 0] (rOv σ o sc ar) P := by
  refine (wp_ic (n' := 218) rfl (zcode_of mc_133 (r := (.iconst 0, 0, 0, 0)) rfl) ci_0).trans ?_
  exact Iff.rfl
set_option maxRecDepth 20000 in
theorem b133_218 {σ : zSt} {o : Nat} {sc : Nat → Int32} {ar : Nat → Nat → Int32} {P : Option Value → zSt → Prop} (hR : RShape σ o) {x1 x2 x3 x4 x5 x6 x7 s0 : Int32} :
    wp 133 218 [some (.ref o), some (.int x1), some (.int x2), some (.int x3), some (.int x4), some (.int x5), some (.int x6), some (.int x7)] [.int s0] (rOv σ o sc ar) P ↔ wpM 130 [.ref o, .int x6] (rOv σ o sc ar) (fun r τ => wp 133 226 [some (.ref o), some (.int x1), some (.int x2), some (.int x3), some (.int s0), some (.int x5), some (.int x6), some (.int x7)] (r.toList ++ []) τ P) := by
  refine (wp_s (n := 220) (zcode_of mc_133 (r := (.istore 4, 0, 0, 0)) rfl) rfl rfl).trans ?_
  refine (wp_s (n := 221) (zcode_of mc_133 (r := (.aload_n 0, 0, 0, 0)) rfl) rfl rfl).trans ?_
  refine (wp_s (n := 223) (zcode_of mc_133 (r := (.iload 6, 0, 0, 0)) rfl) rfl rfl).trans ?_
  exact wp_call (q := ([.ref o, .int x6], [])) (zcode_of mc_133 (r := (.invokevirtual 173, 130, 0, 1)) rfl) rfl (zCa_V (Nat.le_of_ble_eq_true rfl) rfl hR.tg) ⟨Nat.le_of_ble_eq_true rfl, Nat.le_of_ble_eq_true rfl⟩
set_option maxRecDepth 20000 in
theorem b133_226 {σ : zSt} {o : Nat} {sc : Nat → Int32} {ar : Nat → Nat → Int32} {P : Option Value → zSt → Prop} (hR : RShape σ o) {x1 x2 x3 x4 x5 x6 x7 : Int32} :
    wp 133 226 [some (.ref o), some (.int x1), some (.int x2), some (.int x3), some (.int x4), some (.int x5), some (.int x6), some (.int x7)] [] (rOv σ o sc ar) P ↔ (if ¬ x4 = 0 then wp 133 240 [some (.ref o), some (.int x1), some (.int x2), some (.int x3), some (.int x4), some (.int x5), some (.int x6), some (.int x7)] [] (rOv σ o sc ar) P else wp 133 231 [some (.ref o), some (.int x1), some (.int x2), some (.int x3), some (.int x4), some (.int x5), some (.int x6), some (.int x7)] [] (rOv σ o sc ar) P) := by
  refine (wp_s (n := 228) (zcode_of mc_133 (r := (.iload 4, 0, 0, 0)) rfl) rfl rfl).trans ?_
  exact wp_jump (off := 12) (t := 240) (zcode_of mc_133 (r := (.ifCond .ne 12, 0, 0, 0)) rfl) rfl rfl (by decide)
set_option maxRecDepth 20000 in
theorem b133_231 {σ : zSt} {o : Nat} {sc : Nat → Int32} {ar : Nat → Nat → Int32} {P : Option Value → zSt → Prop} (hR : RShape σ o) {x1 x2 x3 x4 x5 x6 x7 : Int32} :
    wp 133 231 [some (.ref o), some (.int x1), some (.int x2), some (.int x3), some (.int x4), some (.int x5), some (.int x6), some (.int x7)] [] (rOv σ o sc ar) P ↔ (zIn x1 (rlen 61) ∧ (if (ar 61 (Int32.toNatClampNeg x1)) = 0 then wp 133 244 [some (.ref o), some (.int x1), some (.int x2), some (.int x3), some (.int x4), some (.int x5), some (.int x6), some (.int x7)] [] (rOv σ o sc ar) P else wp 133 240 [some (.ref o), some (.int x1), some (.int x2), some (.int x3), some (.int x4), some (.int x5), some (.int x6), some (.int x7)] [] (rOv σ o sc ar) P)) := by
  refine (wp_s (n := 232) (zcode_of mc_133 (r := (.aload_n 0, 0, 0, 0)) rfl) rfl rfl).trans ?_
  refine (wr_getA (n' := 235) rfl (t := 61) hR (zcode_of mc_133 (r := (.getfield 113, 12, 41, 0)) rfl) rfl rfl).trans ?_
  refine (wp_s (n := 236) (zcode_of mc_133 (r := (.iload_n 1, 0, 0, 0)) rfl) rfl rfl).trans ?_
  refine (wr_ldZ (n' := 237) rfl hR (zcode_of mc_133 (r := (.baload, 0, 0, 0)) rfl) rfl rfl).trans (and_congr Iff.rfl ?_)
  exact wp_jump (off := 7) (t := 244) (zcode_of mc_133 (r := (.ifCond .eq 7, 0, 0, 0)) rfl) rfl rfl (by decide)
set_option maxRecDepth 20000 in
theorem b133_240 {σ : zSt} {o : Nat} {sc : Nat → Int32} {ar : Nat → Nat → Int32} {P : Option Value → zSt → Prop} (hR : RShape σ o) {x1 x2 x3 x4 x5 x6 x7 : Int32} :
    wp 133 240 [some (.ref o), some (.int x1), some (.int x2), some (.int x3), some (.int x4), some (.int x5), some (.int x6), some (.int x7)] [] (rOv σ o sc ar) P ↔ wp 133 245 [some (.ref o), some (.int x1), some (.int x2), some (.int x3), some (.int x4), some (.int x5), some (.int x6), some (.int x7)] [.int 1] (rOv σ o sc ar) P := by
  refine (wp_ic (n' := 241) rfl (zcode_of mc_133 (r := (.iconst 1, 0, 0, 0)) rfl) ci_1).trans ?_
  exact wp_goto (off := 4) (t := 245) (zcode_of mc_133 (r := (.goto 4, 0, 0, 0)) rfl) (by decide)
set_option maxRecDepth 20000 in
theorem b133_244 {σ : zSt} {o : Nat} {sc : Nat → Int32} {ar : Nat → Nat → Int32} {P : Option Value → zSt → Prop} (hR : RShape σ o) {x1 x2 x3 x4 x5 x6 x7 : Int32} :
    wp 133 244 [some (.ref o), some (.int x1), some (.int x2), some (.int x3), some (.int x4), some (.int x5), some (.int x6), some (.int x7)] [] (rOv σ o sc ar) P ↔ wp 133 245 [some (.ref o), some (.int x1), some (.int x2), some (.int x3), some (.int x4), some (.int x5), some (.int x6), some (.int x7)] [.int 0] (rOv σ o sc ar) P := by
  refine (wp_ic (n' := 245) rfl (zcode_of mc_133 (r := (.iconst 0, 0, 0, 0)) rfl) ci_0).trans ?_
  exact Iff.rfl
set_option maxRecDepth 20000 in
theorem b133_245 {σ : zSt} {o : Nat} {sc : Nat → Int32} {ar : Nat → Nat → Int32} {P : Option Value → zSt → Prop} (hR : RShape σ o) {x1 x2 x3 x4 x5 x6 x7 s0 : Int32} :
    wp 133 245 [some (.ref o), some (.int x1), some (.int x2), some (.int x3), some (.int x4), some (.int x5), some (.int x6), some (.int x7)] [.int s0] (rOv σ o sc ar) P ↔ wp 133 247 [some (.ref o), some (.int x1), some (.int x2), some (.int x3), some (.int s0), some (.int x5), some (.int x6), some (.int x7)] [] (rOv σ o sc ar) P := by
  refine (wp_s (n := 247) (zcode_of mc_133 (r := (.istore 4, 0, 0, 0)) rfl) rfl rfl).trans ?_
  exact Iff.rfl
set_option maxRecDepth 20000 in
theorem b133_247 {σ : zSt} {o : Nat} {sc : Nat → Int32} {ar : Nat → Nat → Int32} {P : Option Value → zSt → Prop} (hR : RShape σ o) {x1 x2 x3 x4 x5 x6 x7 : Int32} :
    wp 133 247 [some (.ref o), some (.int x1), some (.int x2), some (.int x3), some (.int x4), some (.int x5), some (.int x6), some (.int x7)] [] (rOv σ o sc ar) P ↔ wp 133 149 [some (.ref o), some (.int x1), some (.int x2), some (.int x3), some (.int x4), some (.int (x5 + 1)), some (.int x6), some (.int x7)] [] (rOv σ o sc ar) P := by
  refine (wp_inc (n' := 250) rfl (zcode_of mc_133 (r := (.iinc 5 1, 0, 0, 0)) rfl) rfl rfl ci_1).trans ?_
  exact wp_goto (off := (-101)) (t := 149) (zcode_of mc_133 (r := (.goto (-101), 0, 0, 0)) rfl) (by decide)
set_option maxRecDepth 20000 in
theorem b133_253 {σ : zSt} {o : Nat} {sc : Nat → Int32} {ar : Nat → Nat → Int32} {P : Option Value → zSt → Prop} (hR : RShape σ o) {x1 x2 x3 x4 x5 : Int32} {u6 u7 : Option Value} :
    wp 133 253 [some (.ref o), some (.int x1), some (.int x2), some (.int x3), some (.int x4), some (.int x5), u6, u7] [] (rOv σ o sc ar) P ↔ ((x4 = 0 ∨ x4 = 1) ∧ P (some (.int x4)) (rOv σ o sc ar)) := by
  refine (wp_s (n := 255) (zcode_of mc_133 (r := (.iload 4, 0, 0, 0)) rfl) rfl rfl).trans ?_
  exact wp_retZ (zcode_of mc_133 (r := (.ireturn, 0, 0, 0)) rfl) rfl
theorem mc_134 : mCode 134 = zc_134 := rfl
theorem b134 {σ : zSt} {o : Nat} {sc : Nat → Int32} {ar : Nat → Nat → Int32} {P : Option Value → zSt → Prop} (hR : RShape σ o) {x1 x2 : Int32} :
    wpM 134 [.ref o, .int x1, .int x2] (rOv σ o sc ar) P ↔ wpM 115 [.ref o, .int x1] (rOv σ o sc ar) (fun r τ => wp 134 5 [some (.ref o), some (.int x1), some (.int x2)] (r.toList ++ []) τ P) := by
  show wp 134 0 [some (.ref o), some (.int x1), some (.int x2)] [] (rOv σ o sc ar) P ↔ _
  refine (wp_s (n := 1) (zcode_of mc_134 (r := (.aload_n 0, 0, 0, 0)) rfl) rfl rfl).trans ?_
  refine (wp_s (n := 2) (zcode_of mc_134 (r := (.iload_n 1, 0, 0, 0)) rfl) rfl rfl).trans ?_
  exact wp_call (q := ([.ref o, .int x1], [])) (zcode_of mc_134 (r := (.invokevirtual 177, 115, 0, 1)) rfl) rfl (zCa_V (Nat.le_of_ble_eq_true rfl) rfl hR.tg) ⟨Nat.le_of_ble_eq_true rfl, Nat.le_of_ble_eq_true rfl⟩
theorem b134_5 {σ : zSt} {o : Nat} {sc : Nat → Int32} {ar : Nat → Nat → Int32} {P : Option Value → zSt → Prop} (hR : RShape σ o) {x1 x2 s0 : Int32} :
    wp 134 5 [some (.ref o), some (.int x1), some (.int x2)] [.int s0] (rOv σ o sc ar) P ↔ (if s0 = 0 then wp 134 16 [some (.ref o), some (.int x1), some (.int x2)] [] (rOv σ o sc ar) P else wp 134 8 [some (.ref o), some (.int x1), some (.int x2)] [] (rOv σ o sc ar) P) := by
  exact wp_jump (off := 11) (t := 16) (zcode_of mc_134 (r := (.ifCond .eq 11, 0, 0, 0)) rfl) rfl rfl (by decide)
theorem b134_8 {σ : zSt} {o : Nat} {sc : Nat → Int32} {ar : Nat → Nat → Int32} {P : Option Value → zSt → Prop} (hR : RShape σ o) {x1 x2 : Int32} :
    wp 134 8 [some (.ref o), some (.int x1), some (.int x2)] [] (rOv σ o sc ar) P ↔ wpM 114 [.ref o, .int x2] (rOv σ o sc ar) (fun r τ => wp 134 13 [some (.ref o), some (.int x1), some (.int x2)] (r.toList ++ []) τ P) := by
  refine (wp_s (n := 9) (zcode_of mc_134 (r := (.aload_n 0, 0, 0, 0)) rfl) rfl rfl).trans ?_
  refine (wp_s (n := 10) (zcode_of mc_134 (r := (.iload_n 2, 0, 0, 0)) rfl) rfl rfl).trans ?_
  exact wp_call (q := ([.ref o, .int x2], [])) (zcode_of mc_134 (r := (.invokevirtual 147, 114, 0, 1)) rfl) rfl (zCa_V (Nat.le_of_ble_eq_true rfl) rfl hR.tg) ⟨Nat.le_of_ble_eq_true rfl, Nat.le_of_ble_eq_true rfl⟩
theorem b134_13 {σ : zSt} {o : Nat} {sc : Nat → Int32} {ar : Nat → Nat → Int32} {P : Option Value → zSt → Prop} (hR : RShape σ o) {x1 x2 s0 : Int32} :
    wp 134 13 [some (.ref o), some (.int x1), some (.int x2)] [.int s0] (rOv σ o sc ar) P ↔ (if ¬ s0 = 0 then wp 134 19 [some (.ref o), some (.int x1), some (.int x2)] [] (rOv σ o sc ar) P else wp 134 16 [some (.ref o), some (.int x1), some (.int x2)] [] (rOv σ o sc ar) P) := by
  exact wp_jump (off := 6) (t := 19) (zcode_of mc_134 (r := (.ifCond .ne 6, 0, 0, 0)) rfl) rfl rfl (by decide)
theorem b134_16 {σ : zSt} {o : Nat} {sc : Nat → Int32} {ar : Nat → Nat → Int32} {P : Option Value → zSt → Prop} (hR : RShape σ o) {x1 x2 : Int32} :
    wp 134 16 [some (.ref o), some (.int x1), some (.int x2)] [] (rOv σ o sc ar) P ↔ P (some (.int (-2))) (rOv σ o sc ar) := by
  refine (wp_bp (n' := 18) rfl (zcode_of mc_134 (r := (.bipush (-2), 0, 0, 0)) rfl) cb_m2).trans ?_
  exact wp_retI (zcode_of mc_134 (r := (.ireturn, 0, 0, 0)) rfl) rfl
theorem b134_19 {σ : zSt} {o : Nat} {sc : Nat → Int32} {ar : Nat → Nat → Int32} {P : Option Value → zSt → Prop} (hR : RShape σ o) {x1 x2 : Int32} :
    wp 134 19 [some (.ref o), some (.int x1), some (.int x2)] [] (rOv σ o sc ar) P ↔ (zIn x2 (rlen 23) ∧ (if (ar 23 (Int32.toNatClampNeg x2)) = 0 then wp 134 31 [some (.ref o), some (.int x1), some (.int x2)] [] (rOv σ o sc ar) P else wp 134 28 [some (.ref o), some (.int x1), some (.int x2)] [] (rOv σ o sc ar) P)) := by
  refine (wp_s (n := 20) (zcode_of mc_134 (r := (.aload_n 0, 0, 0, 0)) rfl) rfl rfl).trans ?_
  refine (wr_getA (n' := 23) rfl (t := 23) hR (zcode_of mc_134 (r := (.getfield 20, 12, 3, 0)) rfl) rfl rfl).trans ?_
  refine (wp_s (n := 24) (zcode_of mc_134 (r := (.iload_n 2, 0, 0, 0)) rfl) rfl rfl).trans ?_
  refine (wr_ldZ (n' := 25) rfl hR (zcode_of mc_134 (r := (.baload, 0, 0, 0)) rfl) rfl rfl).trans (and_congr Iff.rfl ?_)
  exact wp_jump (off := 6) (t := 31) (zcode_of mc_134 (r := (.ifCond .eq 6, 0, 0, 0)) rfl) rfl rfl (by decide)
theorem b134_28 {σ : zSt} {o : Nat} {sc : Nat → Int32} {ar : Nat → Nat → Int32} {P : Option Value → zSt → Prop} (hR : RShape σ o) {x1 x2 : Int32} :
    wp 134 28 [some (.ref o), some (.int x1), some (.int x2)] [] (rOv σ o sc ar) P ↔ P (some (.int (-3))) (rOv σ o sc ar) := by
  refine (wp_bp (n' := 30) rfl (zcode_of mc_134 (r := (.bipush (-3), 0, 0, 0)) rfl) cb_m3).trans ?_
  exact wp_retI (zcode_of mc_134 (r := (.ireturn, 0, 0, 0)) rfl) rfl
theorem b134_31 {σ : zSt} {o : Nat} {sc : Nat → Int32} {ar : Nat → Nat → Int32} {P : Option Value → zSt → Prop} (hR : RShape σ o) {x1 x2 : Int32} :
    wp 134 31 [some (.ref o), some (.int x1), some (.int x2)] [] (rOv σ o sc ar) P ↔ (zIn x2 (rlen 24) ∧ (if (ar 24 (Int32.toNatClampNeg x2)) = (-1) then wp 134 44 [some (.ref o), some (.int x1), some (.int x2)] [] (rOv σ o sc ar) P else wp 134 41 [some (.ref o), some (.int x1), some (.int x2)] [] (rOv σ o sc ar) P)) := by
  refine (wp_s (n := 32) (zcode_of mc_134 (r := (.aload_n 0, 0, 0, 0)) rfl) rfl rfl).trans ?_
  refine (wr_getA (n' := 35) rfl (t := 24) hR (zcode_of mc_134 (r := (.getfield 24, 12, 4, 0)) rfl) rfl rfl).trans ?_
  refine (wp_s (n := 36) (zcode_of mc_134 (r := (.iload_n 2, 0, 0, 0)) rfl) rfl rfl).trans ?_
  refine (wr_ld (n' := 37) rfl hR (zcode_of mc_134 (r := (.iaload, 0, 0, 0)) rfl) rfl rfl).trans (and_congr Iff.rfl ?_)
  refine (wp_ic (n' := 38) rfl (zcode_of mc_134 (r := (.iconst (-1), 0, 0, 0)) rfl) ci_m1).trans ?_
  exact wp_jump (off := 6) (t := 44) (zcode_of mc_134 (r := (.if_icmp .eq 6, 0, 0, 0)) rfl) rfl rfl (by decide)
theorem b134_41 {σ : zSt} {o : Nat} {sc : Nat → Int32} {ar : Nat → Nat → Int32} {P : Option Value → zSt → Prop} (hR : RShape σ o) {x1 x2 : Int32} :
    wp 134 41 [some (.ref o), some (.int x1), some (.int x2)] [] (rOv σ o sc ar) P ↔ P (some (.int (-4))) (rOv σ o sc ar) := by
  refine (wp_bp (n' := 43) rfl (zcode_of mc_134 (r := (.bipush (-4), 0, 0, 0)) rfl) cb_m4).trans ?_
  exact wp_retI (zcode_of mc_134 (r := (.ireturn, 0, 0, 0)) rfl) rfl
theorem b134_44 {σ : zSt} {o : Nat} {sc : Nat → Int32} {ar : Nat → Nat → Int32} {P : Option Value → zSt → Prop} (hR : RShape σ o) {x1 x2 : Int32} :
    wp 134 44 [some (.ref o), some (.int x1), some (.int x2)] [] (rOv σ o sc ar) P ↔ wpM 133 [.ref o, .int x1, .int x2, .int 1] (rOv σ o sc ar) (fun r τ => wp 134 51 [some (.ref o), some (.int x1), some (.int x2)] (r.toList ++ []) τ P) := by
  refine (wp_s (n := 45) (zcode_of mc_134 (r := (.aload_n 0, 0, 0, 0)) rfl) rfl rfl).trans ?_
  refine (wp_s (n := 46) (zcode_of mc_134 (r := (.iload_n 1, 0, 0, 0)) rfl) rfl rfl).trans ?_
  refine (wp_s (n := 47) (zcode_of mc_134 (r := (.iload_n 2, 0, 0, 0)) rfl) rfl rfl).trans ?_
  refine (wp_ic (n' := 48) rfl (zcode_of mc_134 (r := (.iconst 1, 0, 0, 0)) rfl) ci_1).trans ?_
  exact wp_call (q := ([.ref o, .int x1, .int x2, .int 1], [])) (zcode_of mc_134 (r := (.invokevirtual 180, 133, 0, 3)) rfl) rfl (zCa_V (Nat.le_of_ble_eq_true rfl) rfl hR.tg) ⟨Nat.le_of_ble_eq_true rfl, Nat.le_of_ble_eq_true rfl⟩
theorem b134_51 {σ : zSt} {o : Nat} {sc : Nat → Int32} {ar : Nat → Nat → Int32} {P : Option Value → zSt → Prop} (hR : RShape σ o) {x1 x2 s0 : Int32} :
    wp 134 51 [some (.ref o), some (.int x1), some (.int x2)] [.int s0] (rOv σ o sc ar) P ↔ (if s0 = 0 then wp 134 57 [some (.ref o), some (.int x1), some (.int x2)] [] (rOv σ o sc ar) P else wp 134 54 [some (.ref o), some (.int x1), some (.int x2)] [] (rOv σ o sc ar) P) := by
  exact wp_jump (off := 6) (t := 57) (zcode_of mc_134 (r := (.ifCond .eq 6, 0, 0, 0)) rfl) rfl rfl (by decide)
theorem b134_54 {σ : zSt} {o : Nat} {sc : Nat → Int32} {ar : Nat → Nat → Int32} {P : Option Value → zSt → Prop} (hR : RShape σ o) {x1 x2 : Int32} :
    wp 134 54 [some (.ref o), some (.int x1), some (.int x2)] [] (rOv σ o sc ar) P ↔ P (some (.int (-5))) (rOv σ o sc ar) := by
  refine (wp_bp (n' := 56) rfl (zcode_of mc_134 (r := (.bipush (-5), 0, 0, 0)) rfl) cb_m5).trans ?_
  exact wp_retI (zcode_of mc_134 (r := (.ireturn, 0, 0, 0)) rfl) rfl
theorem b134_57 {σ : zSt} {o : Nat} {sc : Nat → Int32} {ar : Nat → Nat → Int32} {P : Option Value → zSt → Prop} (hR : RShape σ o) {x1 x2 : Int32} :
    wp 134 57 [some (.ref o), some (.int x1), some (.int x2)] [] (rOv σ o sc ar) P ↔ (zIn x1 (rlen 33) ∧ (if ¬ (ar 33 (Int32.toNatClampNeg x1)) = 3 then wp 134 70 [some (.ref o), some (.int x1), some (.int x2)] [] (rOv σ o sc ar) P else wp 134 67 [some (.ref o), some (.int x1), some (.int x2)] [] (rOv σ o sc ar) P)) := by
  refine (wp_s (n := 58) (zcode_of mc_134 (r := (.aload_n 0, 0, 0, 0)) rfl) rfl rfl).trans ?_
  refine (wr_getA (n' := 61) rfl (t := 33) hR (zcode_of mc_134 (r := (.getfield 45, 12, 13, 0)) rfl) rfl rfl).trans ?_
  refine (wp_s (n := 62) (zcode_of mc_134 (r := (.iload_n 1, 0, 0, 0)) rfl) rfl rfl).trans ?_
  refine (wr_ld (n' := 63) rfl hR (zcode_of mc_134 (r := (.iaload, 0, 0, 0)) rfl) rfl rfl).trans (and_congr Iff.rfl ?_)
  refine (wp_ic (n' := 64) rfl (zcode_of mc_134 (r := (.iconst 3, 0, 0, 0)) rfl) ci_3).trans ?_
  exact wp_jump (off := 6) (t := 70) (zcode_of mc_134 (r := (.if_icmp .ne 6, 0, 0, 0)) rfl) rfl rfl (by decide)
theorem b134_67 {σ : zSt} {o : Nat} {sc : Nat → Int32} {ar : Nat → Nat → Int32} {P : Option Value → zSt → Prop} (hR : RShape σ o) {x1 x2 : Int32} :
    wp 134 67 [some (.ref o), some (.int x1), some (.int x2)] [] (rOv σ o sc ar) P ↔ P (some (.int (-6))) (rOv σ o sc ar) := by
  refine (wp_bp (n' := 69) rfl (zcode_of mc_134 (r := (.bipush (-6), 0, 0, 0)) rfl) cb_m6).trans ?_
  exact wp_retI (zcode_of mc_134 (r := (.ireturn, 0, 0, 0)) rfl) rfl
theorem b134_70 {σ : zSt} {o : Nat} {sc : Nat → Int32} {ar : Nat → Nat → Int32} {P : Option Value → zSt → Prop} (hR : RShape σ o) {x1 x2 : Int32} :
    wp 134 70 [some (.ref o), some (.int x1), some (.int x2)] [] (rOv σ o sc ar) P ↔ (zIn x1 (rlen 33) ∧ (zIn ((3 * x1) + (ar 33 (Int32.toNatClampNeg x1))) (rlen 32) ∧ (zIn x1 (rlen 33) ∧ (zIn x1 (rlen 33) ∧ (zIn x2 (rlen 24) ∧ (zIn x2 (rlen 25) ∧ (zIn (60 + x2) (rlen 25) ∧ (zIn x1 (rlen 33) ∧ P (some (.int ((upA (upA (upA (upA (upA ar 32 (Int32.toNatClampNeg ((3 * x1) + (ar 33 (Int32.toNatClampNeg x1)))) x2) 33 (Int32.toNatClampNeg x1) (((upA ar 32 (Int32.toNatClampNeg ((3 * x1) + (ar 33 (Int32.toNatClampNeg x1)))) x2) 33 (Int32.toNatClampNeg x1)) + 1)) 24 (Int32.toNatClampNeg x2) x1) 25 (Int32.toNatClampNeg x2) (-1)) 25 (Int32.toNatClampNeg (60 + x2)) (-1)) 33 (Int32.toNatClampNeg x1)))) (rOv σ o sc (upA (upA (upA (upA (upA ar 32 (Int32.toNatClampNeg ((3 * x1) + (ar 33 (Int32.toNatClampNeg x1)))) x2) 33 (Int32.toNatClampNeg x1) (((upA ar 32 (Int32.toNatClampNeg ((3 * x1) + (ar 33 (Int32.toNatClampNeg x1)))) x2) 33 (Int32.toNatClampNeg x1)) + 1)) 24 (Int32.toNatClampNeg x2) x1) 25 (Int32.toNatClampNeg x2) (-1)) 25 (Int32.toNatClampNeg (60 + x2)) (-1))))))))))) := by
  refine (wp_s (n := 71) (zcode_of mc_134 (r := (.aload_n 0, 0, 0, 0)) rfl) rfl rfl).trans ?_
  refine (wr_getA (n' := 74) rfl (t := 32) hR (zcode_of mc_134 (r := (.getfield 42, 12, 12, 0)) rfl) rfl rfl).trans ?_
  refine (wp_ic (n' := 75) rfl (zcode_of mc_134 (r := (.iconst 3, 0, 0, 0)) rfl) ci_3).trans ?_
  refine (wp_s (n := 76) (zcode_of mc_134 (r := (.iload_n 1, 0, 0, 0)) rfl) rfl rfl).trans ?_
  refine (wp_s (n := 77) (zcode_of mc_134 (r := (.imul, 0, 0, 0)) rfl) rfl rfl).trans ?_
  refine (wp_s (n := 78) (zcode_of mc_134 (r := (.aload_n 0, 0, 0, 0)) rfl) rfl rfl).trans ?_
  refine (wr_getA (n' := 81) rfl (t := 33) hR (zcode_of mc_134 (r := (.getfield 45, 12, 13, 0)) rfl) rfl rfl).trans ?_
  refine (wp_s (n := 82) (zcode_of mc_134 (r := (.iload_n 1, 0, 0, 0)) rfl) rfl rfl).trans ?_
  refine (wr_ld (n' := 83) rfl hR (zcode_of mc_134 (r := (.iaload, 0, 0, 0)) rfl) rfl rfl).trans (and_congr Iff.rfl ?_)
  refine (wp_s (n := 84) (zcode_of mc_134 (r := (.iadd, 0, 0, 0)) rfl) rfl rfl).trans ?_
  refine (wp_s (n := 85) (zcode_of mc_134 (r := (.iload_n 2, 0, 0, 0)) rfl) rfl rfl).trans ?_
  refine (wr_st (n' := 86) rfl hR (zcode_of mc_134 (r := (.iastore, 0, 0, 0)) rfl) rfl rfl).trans (and_congr Iff.rfl ?_)
  refine (wp_s (n := 87) (zcode_of mc_134 (r := (.aload_n 0, 0, 0, 0)) rfl) rfl rfl).trans ?_
  refine (wr_getA (n' := 90) rfl (t := 33) hR (zcode_of mc_134 (r := (.getfield 45, 12, 13, 0)) rfl) rfl rfl).trans ?_
  refine (wp_s (n := 91) (zcode_of mc_134 (r := (.iload_n 1, 0, 0, 0)) rfl) rfl rfl).trans ?_
  refine (wp_s (n := 92) (zcode_of mc_134 (r := (.dup2, 0, 0, 0)) rfl) rfl rfl).trans ?_
  refine (wr_ld (n' := 93) rfl hR (zcode_of mc_134 (r := (.iaload, 0, 0, 0)) rfl) rfl rfl).trans (and_congr Iff.rfl ?_)
  refine (wp_ic (n' := 94) rfl (zcode_of mc_134 (r := (.iconst 1, 0, 0, 0)) rfl) ci_1).trans ?_
  refine (wp_s (n := 95) (zcode_of mc_134 (r := (.iadd, 0, 0, 0)) rfl) rfl rfl).trans ?_
  refine (wr_st (n' := 96) rfl hR (zcode_of mc_134 (r := (.iastore, 0, 0, 0)) rfl) rfl rfl).trans (and_congr Iff.rfl ?_)
  refine (wp_s (n := 97) (zcode_of mc_134 (r := (.aload_n 0, 0, 0, 0)) rfl) rfl rfl).trans ?_
  refine (wr_getA (n' := 100) rfl (t := 24) hR (zcode_of mc_134 (r := (.getfield 24, 12, 4, 0)) rfl) rfl rfl).trans ?_
  refine (wp_s (n := 101) (zcode_of mc_134 (r := (.iload_n 2, 0, 0, 0)) rfl) rfl rfl).trans ?_
  refine (wp_s (n := 102) (zcode_of mc_134 (r := (.iload_n 1, 0, 0, 0)) rfl) rfl rfl).trans ?_
  refine (wr_st (n' := 103) rfl hR (zcode_of mc_134 (r := (.iastore, 0, 0, 0)) rfl) rfl rfl).trans (and_congr Iff.rfl ?_)
  refine (wp_s (n := 104) (zcode_of mc_134 (r := (.aload_n 0, 0, 0, 0)) rfl) rfl rfl).trans ?_
  refine (wr_getA (n' := 107) rfl (t := 25) hR (zcode_of mc_134 (r := (.getfield 27, 12, 5, 0)) rfl) rfl rfl).trans ?_
  refine (wp_s (n := 108) (zcode_of mc_134 (r := (.iload_n 2, 0, 0, 0)) rfl) rfl rfl).trans ?_
  refine (wp_ic (n' := 109) rfl (zcode_of mc_134 (r := (.iconst (-1), 0, 0, 0)) rfl) ci_m1).trans ?_
  refine (wr_st (n' := 110) rfl hR (zcode_of mc_134 (r := (.iastore, 0, 0, 0)) rfl) rfl rfl).trans (and_congr Iff.rfl ?_)
  refine (wp_s (n := 111) (zcode_of mc_134 (r := (.aload_n 0, 0, 0, 0)) rfl) rfl rfl).trans ?_
  refine (wr_getA (n' := 114) rfl (t := 25) hR (zcode_of mc_134 (r := (.getfield 27, 12, 5, 0)) rfl) rfl rfl).trans ?_
  refine (wp_bp (n' := 116) rfl (zcode_of mc_134 (r := (.bipush 60, 0, 0, 0)) rfl) cb_60).trans ?_
  refine (wp_s (n := 117) (zcode_of mc_134 (r := (.iload_n 2, 0, 0, 0)) rfl) rfl rfl).trans ?_
  refine (wp_s (n := 118) (zcode_of mc_134 (r := (.iadd, 0, 0, 0)) rfl) rfl rfl).trans ?_
  refine (wp_ic (n' := 119) rfl (zcode_of mc_134 (r := (.iconst (-1), 0, 0, 0)) rfl) ci_m1).trans ?_
  refine (wr_st (n' := 120) rfl hR (zcode_of mc_134 (r := (.iastore, 0, 0, 0)) rfl) rfl rfl).trans (and_congr Iff.rfl ?_)
  refine (wp_s (n := 121) (zcode_of mc_134 (r := (.aload_n 0, 0, 0, 0)) rfl) rfl rfl).trans ?_
  refine (wr_getA (n' := 124) rfl (t := 33) hR (zcode_of mc_134 (r := (.getfield 45, 12, 13, 0)) rfl) rfl rfl).trans ?_
  refine (wp_s (n := 125) (zcode_of mc_134 (r := (.iload_n 1, 0, 0, 0)) rfl) rfl rfl).trans ?_
  refine (wr_ld (n' := 126) rfl hR (zcode_of mc_134 (r := (.iaload, 0, 0, 0)) rfl) rfl rfl).trans (and_congr Iff.rfl ?_)
  exact wp_retI (zcode_of mc_134 (r := (.ireturn, 0, 0, 0)) rfl) rfl
theorem mc_135 : mCode 135 = zc_135 := rfl
theorem b135 {σ : zSt} {o : Nat} {sc : Nat → Int32} {ar : Nat → Nat → Int32} {P : Option Value → zSt → Prop} (hR : RShape σ o) {x1 x2 x3 : Int32} :
    wpM 135 [.ref o, .int x1, .int x2, .int x3] (rOv σ o sc ar) P ↔ wpM 115 [.ref o, .int x1] (rOv σ o sc ar) (fun r τ => wp 135 5 [some (.ref o), some (.int x1), some (.int x2), some (.int x3)] (r.toList ++ []) τ P) := by
  show wp 135 0 [some (.ref o), some (.int x1), some (.int x2), some (.int x3)] [] (rOv σ o sc ar) P ↔ _
  refine (wp_s (n := 1) (zcode_of mc_135 (r := (.aload_n 0, 0, 0, 0)) rfl) rfl rfl).trans ?_
  refine (wp_s (n := 2) (zcode_of mc_135 (r := (.iload_n 1, 0, 0, 0)) rfl) rfl rfl).trans ?_
  exact wp_call (q := ([.ref o, .int x1], [])) (zcode_of mc_135 (r := (.invokevirtual 177, 115, 0, 1)) rfl) rfl (zCa_V (Nat.le_of_ble_eq_true rfl) rfl hR.tg) ⟨Nat.le_of_ble_eq_true rfl, Nat.le_of_ble_eq_true rfl⟩
theorem b135_5 {σ : zSt} {o : Nat} {sc : Nat → Int32} {ar : Nat → Nat → Int32} {P : Option Value → zSt → Prop} (hR : RShape σ o) {x1 x2 x3 s0 : Int32} :
    wp 135 5 [some (.ref o), some (.int x1), some (.int x2), some (.int x3)] [.int s0] (rOv σ o sc ar) P ↔ (if s0 = 0 then wp 135 29 [some (.ref o), some (.int x1), some (.int x2), some (.int x3)] [] (rOv σ o sc ar) P else wp 135 8 [some (.ref o), some (.int x1), some (.int x2), some (.int x3)] [] (rOv σ o sc ar) P) := by
  exact wp_jump (off := 24) (t := 29) (zcode_of mc_135 (r := (.ifCond .eq 24, 0, 0, 0)) rfl) rfl rfl (by decide)
theorem b135_8 {σ : zSt} {o : Nat} {sc : Nat → Int32} {ar : Nat → Nat → Int32} {P : Option Value → zSt → Prop} (hR : RShape σ o) {x1 x2 x3 : Int32} :
    wp 135 8 [some (.ref o), some (.int x1), some (.int x2), some (.int x3)] [] (rOv σ o sc ar) P ↔ wpM 113 [.int x2, .int 0, .int 13] (rOv σ o sc ar) (fun r τ => wp 135 15 [some (.ref o), some (.int x1), some (.int x2), some (.int x3)] (r.toList ++ []) τ P) := by
  refine (wp_s (n := 9) (zcode_of mc_135 (r := (.iload_n 2, 0, 0, 0)) rfl) rfl rfl).trans ?_
  refine (wp_ic (n' := 10) rfl (zcode_of mc_135 (r := (.iconst 0, 0, 0, 0)) rfl) ci_0).trans ?_
  refine (wp_bp (n' := 12) rfl (zcode_of mc_135 (r := (.bipush 13, 0, 0, 0)) rfl) cb_13).trans ?_
  exact wp_call (q := ([.int x2, .int 0, .int 13], [])) (zcode_of mc_135 (r := (.invokestatic 140, 113, 1, 3)) rfl) rfl rfl ⟨Nat.le_of_ble_eq_true rfl, Nat.le_of_ble_eq_true rfl⟩
theorem b135_15 {σ : zSt} {o : Nat} {sc : Nat → Int32} {ar : Nat → Nat → Int32} {P : Option Value → zSt → Prop} (hR : RShape σ o) {x1 x2 x3 s0 : Int32} :
    wp 135 15 [some (.ref o), some (.int x1), some (.int x2), some (.int x3)] [.int s0] (rOv σ o sc ar) P ↔ (if s0 = 0 then wp 135 29 [some (.ref o), some (.int x1), some (.int x2), some (.int x3)] [] (rOv σ o sc ar) P else wp 135 18 [some (.ref o), some (.int x1), some (.int x2), some (.int x3)] [] (rOv σ o sc ar) P) := by
  exact wp_jump (off := 14) (t := 29) (zcode_of mc_135 (r := (.ifCond .eq 14, 0, 0, 0)) rfl) rfl rfl (by decide)
