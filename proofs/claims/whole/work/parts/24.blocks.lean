theorem b135_18 {σ : zSt} {o : Nat} {sc : Nat → Int32} {ar : Nat → Nat → Int32} {P : Option Value → zSt → Prop} (hR : RShape σ o) {x1 x2 x3 : Int32} :
    wp 135 18 [some (.ref o), some (.int x1), some (.int x2), some (.int x3)] [] (rOv σ o sc ar) P ↔ wpM 113 [.int x3, .int 0, .int 255] (rOv σ o sc ar) (fun r τ => wp 135 26 [some (.ref o), some (.int x1), some (.int x2), some (.int x3)] (r.toList ++ []) τ P) := by
  refine (wp_s (n := 19) (zcode_of mc_135 (r := (.iload_n 3, 0, 0, 0)) rfl) rfl rfl).trans ?_
  refine (wp_ic (n' := 20) rfl (zcode_of mc_135 (r := (.iconst 0, 0, 0, 0)) rfl) ci_0).trans ?_
  refine (wp_sp (n' := 23) rfl (zcode_of mc_135 (r := (.sipush 255, 0, 0, 0)) rfl) cs_255).trans ?_
  exact wp_call (q := ([.int x3, .int 0, .int 255], [])) (zcode_of mc_135 (r := (.invokestatic 140, 113, 1, 3)) rfl) rfl rfl ⟨Nat.le_of_ble_eq_true rfl, Nat.le_of_ble_eq_true rfl⟩
theorem b135_26 {σ : zSt} {o : Nat} {sc : Nat → Int32} {ar : Nat → Nat → Int32} {P : Option Value → zSt → Prop} (hR : RShape σ o) {x1 x2 x3 s0 : Int32} :
    wp 135 26 [some (.ref o), some (.int x1), some (.int x2), some (.int x3)] [.int s0] (rOv σ o sc ar) P ↔ (if ¬ s0 = 0 then wp 135 32 [some (.ref o), some (.int x1), some (.int x2), some (.int x3)] [] (rOv σ o sc ar) P else wp 135 29 [some (.ref o), some (.int x1), some (.int x2), some (.int x3)] [] (rOv σ o sc ar) P) := by
  exact wp_jump (off := 6) (t := 32) (zcode_of mc_135 (r := (.ifCond .ne 6, 0, 0, 0)) rfl) rfl rfl (by decide)
theorem b135_29 {σ : zSt} {o : Nat} {sc : Nat → Int32} {ar : Nat → Nat → Int32} {P : Option Value → zSt → Prop} (hR : RShape σ o) {x1 x2 x3 : Int32} :
    wp 135 29 [some (.ref o), some (.int x1), some (.int x2), some (.int x3)] [] (rOv σ o sc ar) P ↔ P (some (.int (-2))) (rOv σ o sc ar) := by
  refine (wp_bp (n' := 31) rfl (zcode_of mc_135 (r := (.bipush (-2), 0, 0, 0)) rfl) cb_m2).trans ?_
  exact wp_retI (zcode_of mc_135 (r := (.ireturn, 0, 0, 0)) rfl) rfl
theorem b135_32 {σ : zSt} {o : Nat} {sc : Nat → Int32} {ar : Nat → Nat → Int32} {P : Option Value → zSt → Prop} (hR : RShape σ o) {x1 x2 x3 : Int32} :
    wp 135 32 [some (.ref o), some (.int x1), some (.int x2), some (.int x3)] [] (rOv σ o sc ar) P ↔ (zIn x1 (rlen 36) ∧ (if ¬ (ar 36 (Int32.toNatClampNeg x1)) = 16 then wp 135 46 [some (.ref o), some (.int x1), some (.int x2), some (.int x3)] [] (rOv σ o sc ar) P else wp 135 43 [some (.ref o), some (.int x1), some (.int x2), some (.int x3)] [] (rOv σ o sc ar) P)) := by
  refine (wp_s (n := 33) (zcode_of mc_135 (r := (.aload_n 0, 0, 0, 0)) rfl) rfl rfl).trans ?_
  refine (wr_getA (n' := 36) rfl (t := 36) hR (zcode_of mc_135 (r := (.getfield 54, 12, 16, 0)) rfl) rfl rfl).trans ?_
  refine (wp_s (n := 37) (zcode_of mc_135 (r := (.iload_n 1, 0, 0, 0)) rfl) rfl rfl).trans ?_
  refine (wr_ld (n' := 38) rfl hR (zcode_of mc_135 (r := (.iaload, 0, 0, 0)) rfl) rfl rfl).trans (and_congr Iff.rfl ?_)
  refine (wp_bp (n' := 40) rfl (zcode_of mc_135 (r := (.bipush 16, 0, 0, 0)) rfl) cb_16).trans ?_
  exact wp_jump (off := 6) (t := 46) (zcode_of mc_135 (r := (.if_icmp .ne 6, 0, 0, 0)) rfl) rfl rfl (by decide)
theorem b135_43 {σ : zSt} {o : Nat} {sc : Nat → Int32} {ar : Nat → Nat → Int32} {P : Option Value → zSt → Prop} (hR : RShape σ o) {x1 x2 x3 : Int32} :
    wp 135 43 [some (.ref o), some (.int x1), some (.int x2), some (.int x3)] [] (rOv σ o sc ar) P ↔ P (some (.int (-6))) (rOv σ o sc ar) := by
  refine (wp_bp (n' := 45) rfl (zcode_of mc_135 (r := (.bipush (-6), 0, 0, 0)) rfl) cb_m6).trans ?_
  exact wp_retI (zcode_of mc_135 (r := (.ireturn, 0, 0, 0)) rfl) rfl
theorem b135_46 {σ : zSt} {o : Nat} {sc : Nat → Int32} {ar : Nat → Nat → Int32} {P : Option Value → zSt → Prop} (hR : RShape σ o) {x1 x2 x3 : Int32} :
    wp 135 46 [some (.ref o), some (.int x1), some (.int x2), some (.int x3)] [] (rOv σ o sc ar) P ↔ (zIn x1 (rlen 36) ∧ (zIn ((16 * x1) + (ar 36 (Int32.toNatClampNeg x1))) (rlen 34) ∧ (zIn x1 (rlen 36) ∧ (zIn ((16 * x1) + ((upA ar 34 (Int32.toNatClampNeg ((16 * x1) + (ar 36 (Int32.toNatClampNeg x1)))) x2) 36 (Int32.toNatClampNeg x1))) (rlen 35) ∧ (zIn x1 (rlen 36) ∧ (zIn x1 (rlen 36) ∧ (zIn x1 (rlen 36) ∧ P (some (.int ((upA (upA (upA ar 34 (Int32.toNatClampNeg ((16 * x1) + (ar 36 (Int32.toNatClampNeg x1)))) x2) 35 (Int32.toNatClampNeg ((16 * x1) + ((upA ar 34 (Int32.toNatClampNeg ((16 * x1) + (ar 36 (Int32.toNatClampNeg x1)))) x2) 36 (Int32.toNatClampNeg x1)))) x3) 36 (Int32.toNatClampNeg x1) (((upA (upA ar 34 (Int32.toNatClampNeg ((16 * x1) + (ar 36 (Int32.toNatClampNeg x1)))) x2) 35 (Int32.toNatClampNeg ((16 * x1) + ((upA ar 34 (Int32.toNatClampNeg ((16 * x1) + (ar 36 (Int32.toNatClampNeg x1)))) x2) 36 (Int32.toNatClampNeg x1)))) x3) 36 (Int32.toNatClampNeg x1)) + 1)) 36 (Int32.toNatClampNeg x1)))) (rOv σ o sc (upA (upA (upA ar 34 (Int32.toNatClampNeg ((16 * x1) + (ar 36 (Int32.toNatClampNeg x1)))) x2) 35 (Int32.toNatClampNeg ((16 * x1) + ((upA ar 34 (Int32.toNatClampNeg ((16 * x1) + (ar 36 (Int32.toNatClampNeg x1)))) x2) 36 (Int32.toNatClampNeg x1)))) x3) 36 (Int32.toNatClampNeg x1) (((upA (upA ar 34 (Int32.toNatClampNeg ((16 * x1) + (ar 36 (Int32.toNatClampNeg x1)))) x2) 35 (Int32.toNatClampNeg ((16 * x1) + ((upA ar 34 (Int32.toNatClampNeg ((16 * x1) + (ar 36 (Int32.toNatClampNeg x1)))) x2) 36 (Int32.toNatClampNeg x1)))) x3) 36 (Int32.toNatClampNeg x1)) + 1)))))))))) := by
  refine (wp_s (n := 47) (zcode_of mc_135 (r := (.aload_n 0, 0, 0, 0)) rfl) rfl rfl).trans ?_
  refine (wr_getA (n' := 50) rfl (t := 34) hR (zcode_of mc_135 (r := (.getfield 48, 12, 14, 0)) rfl) rfl rfl).trans ?_
  refine (wp_bp (n' := 52) rfl (zcode_of mc_135 (r := (.bipush 16, 0, 0, 0)) rfl) cb_16).trans ?_
  refine (wp_s (n := 53) (zcode_of mc_135 (r := (.iload_n 1, 0, 0, 0)) rfl) rfl rfl).trans ?_
  refine (wp_s (n := 54) (zcode_of mc_135 (r := (.imul, 0, 0, 0)) rfl) rfl rfl).trans ?_
  refine (wp_s (n := 55) (zcode_of mc_135 (r := (.aload_n 0, 0, 0, 0)) rfl) rfl rfl).trans ?_
  refine (wr_getA (n' := 58) rfl (t := 36) hR (zcode_of mc_135 (r := (.getfield 54, 12, 16, 0)) rfl) rfl rfl).trans ?_
  refine (wp_s (n := 59) (zcode_of mc_135 (r := (.iload_n 1, 0, 0, 0)) rfl) rfl rfl).trans ?_
  refine (wr_ld (n' := 60) rfl hR (zcode_of mc_135 (r := (.iaload, 0, 0, 0)) rfl) rfl rfl).trans (and_congr Iff.rfl ?_)
  refine (wp_s (n := 61) (zcode_of mc_135 (r := (.iadd, 0, 0, 0)) rfl) rfl rfl).trans ?_
  refine (wp_s (n := 62) (zcode_of mc_135 (r := (.iload_n 2, 0, 0, 0)) rfl) rfl rfl).trans ?_
  refine (wr_st (n' := 63) rfl hR (zcode_of mc_135 (r := (.iastore, 0, 0, 0)) rfl) rfl rfl).trans (and_congr Iff.rfl ?_)
  refine (wp_s (n := 64) (zcode_of mc_135 (r := (.aload_n 0, 0, 0, 0)) rfl) rfl rfl).trans ?_
  refine (wr_getA (n' := 67) rfl (t := 35) hR (zcode_of mc_135 (r := (.getfield 51, 12, 15, 0)) rfl) rfl rfl).trans ?_
  refine (wp_bp (n' := 69) rfl (zcode_of mc_135 (r := (.bipush 16, 0, 0, 0)) rfl) cb_16).trans ?_
  refine (wp_s (n := 70) (zcode_of mc_135 (r := (.iload_n 1, 0, 0, 0)) rfl) rfl rfl).trans ?_
  refine (wp_s (n := 71) (zcode_of mc_135 (r := (.imul, 0, 0, 0)) rfl) rfl rfl).trans ?_
  refine (wp_s (n := 72) (zcode_of mc_135 (r := (.aload_n 0, 0, 0, 0)) rfl) rfl rfl).trans ?_
  refine (wr_getA (n' := 75) rfl (t := 36) hR (zcode_of mc_135 (r := (.getfield 54, 12, 16, 0)) rfl) rfl rfl).trans ?_
  refine (wp_s (n := 76) (zcode_of mc_135 (r := (.iload_n 1, 0, 0, 0)) rfl) rfl rfl).trans ?_
  refine (wr_ld (n' := 77) rfl hR (zcode_of mc_135 (r := (.iaload, 0, 0, 0)) rfl) rfl rfl).trans (and_congr Iff.rfl ?_)
  refine (wp_s (n := 78) (zcode_of mc_135 (r := (.iadd, 0, 0, 0)) rfl) rfl rfl).trans ?_
  refine (wp_s (n := 79) (zcode_of mc_135 (r := (.iload_n 3, 0, 0, 0)) rfl) rfl rfl).trans ?_
  refine (wr_st (n' := 80) rfl hR (zcode_of mc_135 (r := (.iastore, 0, 0, 0)) rfl) rfl rfl).trans (and_congr Iff.rfl ?_)
  refine (wp_s (n := 81) (zcode_of mc_135 (r := (.aload_n 0, 0, 0, 0)) rfl) rfl rfl).trans ?_
  refine (wr_getA (n' := 84) rfl (t := 36) hR (zcode_of mc_135 (r := (.getfield 54, 12, 16, 0)) rfl) rfl rfl).trans ?_
  refine (wp_s (n := 85) (zcode_of mc_135 (r := (.iload_n 1, 0, 0, 0)) rfl) rfl rfl).trans ?_
  refine (wp_s (n := 86) (zcode_of mc_135 (r := (.dup2, 0, 0, 0)) rfl) rfl rfl).trans ?_
  refine (wr_ld (n' := 87) rfl hR (zcode_of mc_135 (r := (.iaload, 0, 0, 0)) rfl) rfl rfl).trans (and_congr Iff.rfl ?_)
  refine (wp_ic (n' := 88) rfl (zcode_of mc_135 (r := (.iconst 1, 0, 0, 0)) rfl) ci_1).trans ?_
  refine (wp_s (n := 89) (zcode_of mc_135 (r := (.iadd, 0, 0, 0)) rfl) rfl rfl).trans ?_
  refine (wr_st (n' := 90) rfl hR (zcode_of mc_135 (r := (.iastore, 0, 0, 0)) rfl) rfl rfl).trans (and_congr Iff.rfl ?_)
  refine (wp_s (n := 91) (zcode_of mc_135 (r := (.aload_n 0, 0, 0, 0)) rfl) rfl rfl).trans ?_
  refine (wr_getA (n' := 94) rfl (t := 36) hR (zcode_of mc_135 (r := (.getfield 54, 12, 16, 0)) rfl) rfl rfl).trans ?_
  refine (wp_s (n := 95) (zcode_of mc_135 (r := (.iload_n 1, 0, 0, 0)) rfl) rfl rfl).trans ?_
  refine (wr_ld (n' := 96) rfl hR (zcode_of mc_135 (r := (.iaload, 0, 0, 0)) rfl) rfl rfl).trans (and_congr Iff.rfl ?_)
  exact wp_retI (zcode_of mc_135 (r := (.ireturn, 0, 0, 0)) rfl) rfl
theorem mc_136 : mCode 136 = zc_136 := rfl
theorem b136 {σ : zSt} {o : Nat} {sc : Nat → Int32} {ar : Nat → Nat → Int32} {P : Option Value → zSt → Prop} (hR : RShape σ o) {x1 : Int32} :
    wpM 136 [.ref o, .int x1] (rOv σ o sc ar) P ↔ wpM 115 [.ref o, .int x1] (rOv σ o sc ar) (fun r τ => wp 136 5 [some (.ref o), some (.int x1), none, none, none] (r.toList ++ []) τ P) := by
  show wp 136 0 [some (.ref o), some (.int x1), none, none, none] [] (rOv σ o sc ar) P ↔ _
  refine (wp_s (n := 1) (zcode_of mc_136 (r := (.aload_n 0, 0, 0, 0)) rfl) rfl rfl).trans ?_
  refine (wp_s (n := 2) (zcode_of mc_136 (r := (.iload_n 1, 0, 0, 0)) rfl) rfl rfl).trans ?_
  exact wp_call (q := ([.ref o, .int x1], [])) (zcode_of mc_136 (r := (.invokevirtual 177, 115, 0, 1)) rfl) rfl (zCa_V (Nat.le_of_ble_eq_true rfl) rfl hR.tg) ⟨Nat.le_of_ble_eq_true rfl, Nat.le_of_ble_eq_true rfl⟩
theorem b136_5 {σ : zSt} {o : Nat} {sc : Nat → Int32} {ar : Nat → Nat → Int32} {P : Option Value → zSt → Prop} (hR : RShape σ o) {x1 s0 : Int32} {u2 u3 u4 : Option Value} :
    wp 136 5 [some (.ref o), some (.int x1), u2, u3, u4] [.int s0] (rOv σ o sc ar) P ↔ (if ¬ s0 = 0 then wp 136 11 [some (.ref o), some (.int x1), u2, u3, u4] [] (rOv σ o sc ar) P else wp 136 8 [some (.ref o), some (.int x1), u2, u3, u4] [] (rOv σ o sc ar) P) := by
  exact wp_jump (off := 6) (t := 11) (zcode_of mc_136 (r := (.ifCond .ne 6, 0, 0, 0)) rfl) rfl rfl (by decide)
theorem b136_8 {σ : zSt} {o : Nat} {sc : Nat → Int32} {ar : Nat → Nat → Int32} {P : Option Value → zSt → Prop} (hR : RShape σ o) {x1 : Int32} {u2 u3 u4 : Option Value} :
    wp 136 8 [some (.ref o), some (.int x1), u2, u3, u4] [] (rOv σ o sc ar) P ↔ P (some (.int (-2))) (rOv σ o sc ar) := by
  refine (wp_bp (n' := 10) rfl (zcode_of mc_136 (r := (.bipush (-2), 0, 0, 0)) rfl) cb_m2).trans ?_
  exact wp_retI (zcode_of mc_136 (r := (.ireturn, 0, 0, 0)) rfl) rfl
theorem b136_11 {σ : zSt} {o : Nat} {sc : Nat → Int32} {ar : Nat → Nat → Int32} {P : Option Value → zSt → Prop} (hR : RShape σ o) {x1 : Int32} {u2 u3 u4 : Option Value} :
    wp 136 11 [some (.ref o), some (.int x1), u2, u3, u4] [] (rOv σ o sc ar) P ↔ (zIn x1 (rlen 36) ∧ wp 136 20 [some (.ref o), some (.int x1), some (.int (ar 36 (Int32.toNatClampNeg x1))), some (.int 0), u4] [] (rOv σ o sc ar) P) := by
  refine (wp_s (n := 12) (zcode_of mc_136 (r := (.aload_n 0, 0, 0, 0)) rfl) rfl rfl).trans ?_
  refine (wr_getA (n' := 15) rfl (t := 36) hR (zcode_of mc_136 (r := (.getfield 54, 12, 16, 0)) rfl) rfl rfl).trans ?_
  refine (wp_s (n := 16) (zcode_of mc_136 (r := (.iload_n 1, 0, 0, 0)) rfl) rfl rfl).trans ?_
  refine (wr_ld (n' := 17) rfl hR (zcode_of mc_136 (r := (.iaload, 0, 0, 0)) rfl) rfl rfl).trans (and_congr Iff.rfl ?_)
  refine (wp_s (n := 18) (zcode_of mc_136 (r := (.istore_n 2, 0, 0, 0)) rfl) rfl rfl).trans ?_
  refine (wp_ic (n' := 19) rfl (zcode_of mc_136 (r := (.iconst 0, 0, 0, 0)) rfl) ci_0).trans ?_
  refine (wp_s (n := 20) (zcode_of mc_136 (r := (.istore_n 3, 0, 0, 0)) rfl) rfl rfl).trans ?_
  exact Iff.rfl
theorem b136_20 {σ : zSt} {o : Nat} {sc : Nat → Int32} {ar : Nat → Nat → Int32} {P : Option Value → zSt → Prop} (hR : RShape σ o) {x1 x2 x3 : Int32} {u4 : Option Value} :
    wp 136 20 [some (.ref o), some (.int x1), some (.int x2), some (.int x3), u4] [] (rOv σ o sc ar) P ↔ (zIn x1 (rlen 33) ∧ (if (ar 33 (Int32.toNatClampNeg x1)) ≤ x3 then wp 136 75 [some (.ref o), some (.int x1), some (.int x2), some (.int x3), u4] [] (rOv σ o sc ar) P else wp 136 30 [some (.ref o), some (.int x1), some (.int x2), some (.int x3), u4] [] (rOv σ o sc ar) P)) := by
  refine (wp_s (n := 21) (zcode_of mc_136 (r := (.iload_n 3, 0, 0, 0)) rfl) rfl rfl).trans ?_
  refine (wp_s (n := 22) (zcode_of mc_136 (r := (.aload_n 0, 0, 0, 0)) rfl) rfl rfl).trans ?_
  refine (wr_getA (n' := 25) rfl (t := 33) hR (zcode_of mc_136 (r := (.getfield 45, 12, 13, 0)) rfl) rfl rfl).trans ?_
  refine (wp_s (n := 26) (zcode_of mc_136 (r := (.iload_n 1, 0, 0, 0)) rfl) rfl rfl).trans ?_
  refine (wr_ld (n' := 27) rfl hR (zcode_of mc_136 (r := (.iaload, 0, 0, 0)) rfl) rfl rfl).trans (and_congr Iff.rfl ?_)
  exact wp_jump (off := 48) (t := 75) (zcode_of mc_136 (r := (.if_icmp .ge 48, 0, 0, 0)) rfl) rfl rfl (by decide)
theorem b136_30 {σ : zSt} {o : Nat} {sc : Nat → Int32} {ar : Nat → Nat → Int32} {P : Option Value → zSt → Prop} (hR : RShape σ o) {x1 x2 x3 : Int32} {u4 : Option Value} :
    wp 136 30 [some (.ref o), some (.int x1), some (.int x2), some (.int x3), u4] [] (rOv σ o sc ar) P ↔ (zIn ((3 * x1) + x3) (rlen 32) ∧ (zIn (ar 32 (Int32.toNatClampNeg ((3 * x1) + x3))) (rlen 24) ∧ (zIn (ar 32 (Int32.toNatClampNeg ((3 * x1) + x3))) (rlen 25) ∧ (zIn (60 + (ar 32 (Int32.toNatClampNeg ((3 * x1) + x3)))) (rlen 25) ∧ wp 136 20 [some (.ref o), some (.int x1), some (.int x2), some (.int (x3 + 1)), some (.int (ar 32 (Int32.toNatClampNeg ((3 * x1) + x3))))] [] (rOv σ o sc (upA (upA (upA ar 24 (Int32.toNatClampNeg (ar 32 (Int32.toNatClampNeg ((3 * x1) + x3)))) (-1)) 25 (Int32.toNatClampNeg (ar 32 (Int32.toNatClampNeg ((3 * x1) + x3)))) (-1)) 25 (Int32.toNatClampNeg (60 + (ar 32 (Int32.toNatClampNeg ((3 * x1) + x3))))) (-1))) P)))) := by
  refine (wp_s (n := 31) (zcode_of mc_136 (r := (.aload_n 0, 0, 0, 0)) rfl) rfl rfl).trans ?_
  refine (wr_getA (n' := 34) rfl (t := 32) hR (zcode_of mc_136 (r := (.getfield 42, 12, 12, 0)) rfl) rfl rfl).trans ?_
  refine (wp_ic (n' := 35) rfl (zcode_of mc_136 (r := (.iconst 3, 0, 0, 0)) rfl) ci_3).trans ?_
  refine (wp_s (n := 36) (zcode_of mc_136 (r := (.iload_n 1, 0, 0, 0)) rfl) rfl rfl).trans ?_
  refine (wp_s (n := 37) (zcode_of mc_136 (r := (.imul, 0, 0, 0)) rfl) rfl rfl).trans ?_
  refine (wp_s (n := 38) (zcode_of mc_136 (r := (.iload_n 3, 0, 0, 0)) rfl) rfl rfl).trans ?_
  refine (wp_s (n := 39) (zcode_of mc_136 (r := (.iadd, 0, 0, 0)) rfl) rfl rfl).trans ?_
  refine (wr_ld (n' := 40) rfl hR (zcode_of mc_136 (r := (.iaload, 0, 0, 0)) rfl) rfl rfl).trans (and_congr Iff.rfl ?_)
  refine (wp_s (n := 42) (zcode_of mc_136 (r := (.istore 4, 0, 0, 0)) rfl) rfl rfl).trans ?_
  refine (wp_s (n := 43) (zcode_of mc_136 (r := (.aload_n 0, 0, 0, 0)) rfl) rfl rfl).trans ?_
  refine (wr_getA (n' := 46) rfl (t := 24) hR (zcode_of mc_136 (r := (.getfield 24, 12, 4, 0)) rfl) rfl rfl).trans ?_
  refine (wp_s (n := 48) (zcode_of mc_136 (r := (.iload 4, 0, 0, 0)) rfl) rfl rfl).trans ?_
  refine (wp_ic (n' := 49) rfl (zcode_of mc_136 (r := (.iconst (-1), 0, 0, 0)) rfl) ci_m1).trans ?_
  refine (wr_st (n' := 50) rfl hR (zcode_of mc_136 (r := (.iastore, 0, 0, 0)) rfl) rfl rfl).trans (and_congr Iff.rfl ?_)
  refine (wp_s (n := 51) (zcode_of mc_136 (r := (.aload_n 0, 0, 0, 0)) rfl) rfl rfl).trans ?_
  refine (wr_getA (n' := 54) rfl (t := 25) hR (zcode_of mc_136 (r := (.getfield 27, 12, 5, 0)) rfl) rfl rfl).trans ?_
  refine (wp_s (n := 56) (zcode_of mc_136 (r := (.iload 4, 0, 0, 0)) rfl) rfl rfl).trans ?_
  refine (wp_ic (n' := 57) rfl (zcode_of mc_136 (r := (.iconst (-1), 0, 0, 0)) rfl) ci_m1).trans ?_
  refine (wr_st (n' := 58) rfl hR (zcode_of mc_136 (r := (.iastore, 0, 0, 0)) rfl) rfl rfl).trans (and_congr Iff.rfl ?_)
  refine (wp_s (n := 59) (zcode_of mc_136 (r := (.aload_n 0, 0, 0, 0)) rfl) rfl rfl).trans ?_
  refine (wr_getA (n' := 62) rfl (t := 25) hR (zcode_of mc_136 (r := (.getfield 27, 12, 5, 0)) rfl) rfl rfl).trans ?_
  refine (wp_bp (n' := 64) rfl (zcode_of mc_136 (r := (.bipush 60, 0, 0, 0)) rfl) cb_60).trans ?_
  refine (wp_s (n := 66) (zcode_of mc_136 (r := (.iload 4, 0, 0, 0)) rfl) rfl rfl).trans ?_
  refine (wp_s (n := 67) (zcode_of mc_136 (r := (.iadd, 0, 0, 0)) rfl) rfl rfl).trans ?_
  refine (wp_ic (n' := 68) rfl (zcode_of mc_136 (r := (.iconst (-1), 0, 0, 0)) rfl) ci_m1).trans ?_
  refine (wr_st (n' := 69) rfl hR (zcode_of mc_136 (r := (.iastore, 0, 0, 0)) rfl) rfl rfl).trans (and_congr Iff.rfl ?_)
  refine (wp_inc (n' := 72) rfl (zcode_of mc_136 (r := (.iinc 3 1, 0, 0, 0)) rfl) rfl rfl ci_1).trans ?_
  exact wp_goto (off := (-52)) (t := 20) (zcode_of mc_136 (r := (.goto (-52), 0, 0, 0)) rfl) (by decide)
theorem b136_75 {σ : zSt} {o : Nat} {sc : Nat → Int32} {ar : Nat → Nat → Int32} {P : Option Value → zSt → Prop} (hR : RShape σ o) {x1 x2 x3 : Int32} {u4 : Option Value} :
    wp 136 75 [some (.ref o), some (.int x1), some (.int x2), some (.int x3), u4] [] (rOv σ o sc ar) P ↔ (zIn x1 (rlen 31) ∧ (zIn x1 (rlen 33) ∧ (zIn x1 (rlen 36) ∧ P (some (.int x2)) (rOv σ o sc (upA (upA (upA ar 31 (Int32.toNatClampNeg x1) 0) 33 (Int32.toNatClampNeg x1) 0) 36 (Int32.toNatClampNeg x1) 0))))) := by
  refine (wp_s (n := 76) (zcode_of mc_136 (r := (.aload_n 0, 0, 0, 0)) rfl) rfl rfl).trans ?_
  refine (wr_getA (n' := 79) rfl (t := 31) hR (zcode_of mc_136 (r := (.getfield 39, 12, 11, 0)) rfl) rfl rfl).trans ?_
  refine (wp_s (n := 80) (zcode_of mc_136 (r := (.iload_n 1, 0, 0, 0)) rfl) rfl rfl).trans ?_
  refine (wp_ic (n' := 81) rfl (zcode_of mc_136 (r := (.iconst 0, 0, 0, 0)) rfl) ci_0).trans ?_
  refine (wr_st (n' := 82) rfl hR (zcode_of mc_136 (r := (.iastore, 0, 0, 0)) rfl) rfl rfl).trans (and_congr Iff.rfl ?_)
  refine (wp_s (n := 83) (zcode_of mc_136 (r := (.aload_n 0, 0, 0, 0)) rfl) rfl rfl).trans ?_
  refine (wr_getA (n' := 86) rfl (t := 33) hR (zcode_of mc_136 (r := (.getfield 45, 12, 13, 0)) rfl) rfl rfl).trans ?_
  refine (wp_s (n := 87) (zcode_of mc_136 (r := (.iload_n 1, 0, 0, 0)) rfl) rfl rfl).trans ?_
  refine (wp_ic (n' := 88) rfl (zcode_of mc_136 (r := (.iconst 0, 0, 0, 0)) rfl) ci_0).trans ?_
  refine (wr_st (n' := 89) rfl hR (zcode_of mc_136 (r := (.iastore, 0, 0, 0)) rfl) rfl rfl).trans (and_congr Iff.rfl ?_)
  refine (wp_s (n := 90) (zcode_of mc_136 (r := (.aload_n 0, 0, 0, 0)) rfl) rfl rfl).trans ?_
  refine (wr_getA (n' := 93) rfl (t := 36) hR (zcode_of mc_136 (r := (.getfield 54, 12, 16, 0)) rfl) rfl rfl).trans ?_
  refine (wp_s (n := 94) (zcode_of mc_136 (r := (.iload_n 1, 0, 0, 0)) rfl) rfl rfl).trans ?_
  refine (wp_ic (n' := 95) rfl (zcode_of mc_136 (r := (.iconst 0, 0, 0, 0)) rfl) ci_0).trans ?_
  refine (wr_st (n' := 96) rfl hR (zcode_of mc_136 (r := (.iastore, 0, 0, 0)) rfl) rfl rfl).trans (and_congr Iff.rfl ?_)
  refine (wp_s (n := 97) (zcode_of mc_136 (r := (.iload_n 2, 0, 0, 0)) rfl) rfl rfl).trans ?_
  exact wp_retI (zcode_of mc_136 (r := (.ireturn, 0, 0, 0)) rfl) rfl
theorem mc_137 : mCode 137 = zc_137 := rfl
theorem b137 {σ : zSt} {o : Nat} {sc : Nat → Int32} {ar : Nat → Nat → Int32} {P : Option Value → zSt → Prop} (hR : RShape σ o) {x1 x2 : Int32} :
    wpM 137 [.ref o, .int x1, .int x2] (rOv σ o sc ar) P ↔ wpM 115 [.ref o, .int x1] (rOv σ o sc ar) (fun r τ => wp 137 5 [some (.ref o), some (.int x1), some (.int x2), none, none] (r.toList ++ []) τ P) := by
  show wp 137 0 [some (.ref o), some (.int x1), some (.int x2), none, none] [] (rOv σ o sc ar) P ↔ _
  refine (wp_s (n := 1) (zcode_of mc_137 (r := (.aload_n 0, 0, 0, 0)) rfl) rfl rfl).trans ?_
  refine (wp_s (n := 2) (zcode_of mc_137 (r := (.iload_n 1, 0, 0, 0)) rfl) rfl rfl).trans ?_
  exact wp_call (q := ([.ref o, .int x1], [])) (zcode_of mc_137 (r := (.invokevirtual 177, 115, 0, 1)) rfl) rfl (zCa_V (Nat.le_of_ble_eq_true rfl) rfl hR.tg) ⟨Nat.le_of_ble_eq_true rfl, Nat.le_of_ble_eq_true rfl⟩
theorem b137_5 {σ : zSt} {o : Nat} {sc : Nat → Int32} {ar : Nat → Nat → Int32} {P : Option Value → zSt → Prop} (hR : RShape σ o) {x1 x2 s0 : Int32} {u3 u4 : Option Value} :
    wp 137 5 [some (.ref o), some (.int x1), some (.int x2), u3, u4] [.int s0] (rOv σ o sc ar) P ↔ (if s0 = 0 then wp 137 17 [some (.ref o), some (.int x1), some (.int x2), u3, u4] [] (rOv σ o sc ar) P else wp 137 8 [some (.ref o), some (.int x1), some (.int x2), u3, u4] [] (rOv σ o sc ar) P) := by
  exact wp_jump (off := 12) (t := 17) (zcode_of mc_137 (r := (.ifCond .eq 12, 0, 0, 0)) rfl) rfl rfl (by decide)
theorem b137_8 {σ : zSt} {o : Nat} {sc : Nat → Int32} {ar : Nat → Nat → Int32} {P : Option Value → zSt → Prop} (hR : RShape σ o) {x1 x2 : Int32} {u3 u4 : Option Value} :
    wp 137 8 [some (.ref o), some (.int x1), some (.int x2), u3, u4] [] (rOv σ o sc ar) P ↔ wpM 113 [.int x2, .int 0, .int 3] (rOv σ o sc ar) (fun r τ => wp 137 14 [some (.ref o), some (.int x1), some (.int x2), u3, u4] (r.toList ++ []) τ P) := by
  refine (wp_s (n := 9) (zcode_of mc_137 (r := (.iload_n 2, 0, 0, 0)) rfl) rfl rfl).trans ?_
  refine (wp_ic (n' := 10) rfl (zcode_of mc_137 (r := (.iconst 0, 0, 0, 0)) rfl) ci_0).trans ?_
  refine (wp_ic (n' := 11) rfl (zcode_of mc_137 (r := (.iconst 3, 0, 0, 0)) rfl) ci_3).trans ?_
  exact wp_call (q := ([.int x2, .int 0, .int 3], [])) (zcode_of mc_137 (r := (.invokestatic 140, 113, 1, 3)) rfl) rfl rfl ⟨Nat.le_of_ble_eq_true rfl, Nat.le_of_ble_eq_true rfl⟩
theorem b137_14 {σ : zSt} {o : Nat} {sc : Nat → Int32} {ar : Nat → Nat → Int32} {P : Option Value → zSt → Prop} (hR : RShape σ o) {x1 x2 s0 : Int32} {u3 u4 : Option Value} :
    wp 137 14 [some (.ref o), some (.int x1), some (.int x2), u3, u4] [.int s0] (rOv σ o sc ar) P ↔ (if ¬ s0 = 0 then wp 137 20 [some (.ref o), some (.int x1), some (.int x2), u3, u4] [] (rOv σ o sc ar) P else wp 137 17 [some (.ref o), some (.int x1), some (.int x2), u3, u4] [] (rOv σ o sc ar) P) := by
  exact wp_jump (off := 6) (t := 20) (zcode_of mc_137 (r := (.ifCond .ne 6, 0, 0, 0)) rfl) rfl rfl (by decide)
theorem b137_17 {σ : zSt} {o : Nat} {sc : Nat → Int32} {ar : Nat → Nat → Int32} {P : Option Value → zSt → Prop} (hR : RShape σ o) {x1 x2 : Int32} {u3 u4 : Option Value} :
    wp 137 17 [some (.ref o), some (.int x1), some (.int x2), u3, u4] [] (rOv σ o sc ar) P ↔ P (some (.int (-2))) (rOv σ o sc ar) := by
  refine (wp_bp (n' := 19) rfl (zcode_of mc_137 (r := (.bipush (-2), 0, 0, 0)) rfl) cb_m2).trans ?_
  exact wp_retI (zcode_of mc_137 (r := (.ireturn, 0, 0, 0)) rfl) rfl
theorem b137_20 {σ : zSt} {o : Nat} {sc : Nat → Int32} {ar : Nat → Nat → Int32} {P : Option Value → zSt → Prop} (hR : RShape σ o) {x1 x2 : Int32} {u3 u4 : Option Value} :
    wp 137 20 [some (.ref o), some (.int x1), some (.int x2), u3, u4] [] (rOv σ o sc ar) P ↔ (if 3 ≤ x2 then wp 137 59 [some (.ref o), some (.int x1), some (.int x2), u3, u4] [] (rOv σ o sc ar) P else wp 137 25 [some (.ref o), some (.int x1), some (.int x2), u3, u4] [] (rOv σ o sc ar) P) := by
  refine (wp_s (n := 21) (zcode_of mc_137 (r := (.iload_n 2, 0, 0, 0)) rfl) rfl rfl).trans ?_
  refine (wp_ic (n' := 22) rfl (zcode_of mc_137 (r := (.iconst 3, 0, 0, 0)) rfl) ci_3).trans ?_
  exact wp_jump (off := 37) (t := 59) (zcode_of mc_137 (r := (.if_icmp .ge 37, 0, 0, 0)) rfl) rfl rfl (by decide)
theorem b137_25 {σ : zSt} {o : Nat} {sc : Nat → Int32} {ar : Nat → Nat → Int32} {P : Option Value → zSt → Prop} (hR : RShape σ o) {x1 x2 : Int32} {u3 u4 : Option Value} :
    wp 137 25 [some (.ref o), some (.int x1), some (.int x2), u3, u4] [] (rOv σ o sc ar) P ↔ (if ¬ x2 = 0 then wp 137 38 [some (.ref o), some (.int x1), some (.int x2), u3, u4] [] (rOv σ o sc ar) P else wp 137 29 [some (.ref o), some (.int x1), some (.int x2), u3, u4] [] (rOv σ o sc ar) P) := by
  refine (wp_s (n := 26) (zcode_of mc_137 (r := (.iload_n 2, 0, 0, 0)) rfl) rfl rfl).trans ?_
  exact wp_jump (off := 12) (t := 38) (zcode_of mc_137 (r := (.ifCond .ne 12, 0, 0, 0)) rfl) rfl rfl (by decide)
theorem b137_29 {σ : zSt} {o : Nat} {sc : Nat → Int32} {ar : Nat → Nat → Int32} {P : Option Value → zSt → Prop} (hR : RShape σ o) {x1 x2 : Int32} {u3 u4 : Option Value} :
    wp 137 29 [some (.ref o), some (.int x1), some (.int x2), u3, u4] [] (rOv σ o sc ar) P ↔ (zIn x1 (rlen 31) ∧ wp 137 58 [some (.ref o), some (.int x1), some (.int x2), u3, u4] [.int (ar 31 (Int32.toNatClampNeg x1))] (rOv σ o sc ar) P) := by
  refine (wp_s (n := 30) (zcode_of mc_137 (r := (.aload_n 0, 0, 0, 0)) rfl) rfl rfl).trans ?_
  refine (wr_getA (n' := 33) rfl (t := 31) hR (zcode_of mc_137 (r := (.getfield 39, 12, 11, 0)) rfl) rfl rfl).trans ?_
  refine (wp_s (n := 34) (zcode_of mc_137 (r := (.iload_n 1, 0, 0, 0)) rfl) rfl rfl).trans ?_
  refine (wr_ld (n' := 35) rfl hR (zcode_of mc_137 (r := (.iaload, 0, 0, 0)) rfl) rfl rfl).trans (and_congr Iff.rfl ?_)
  exact wp_goto (off := 23) (t := 58) (zcode_of mc_137 (r := (.goto 23, 0, 0, 0)) rfl) (by decide)
theorem b137_38 {σ : zSt} {o : Nat} {sc : Nat → Int32} {ar : Nat → Nat → Int32} {P : Option Value → zSt → Prop} (hR : RShape σ o) {x1 x2 : Int32} {u3 u4 : Option Value} :
    wp 137 38 [some (.ref o), some (.int x1), some (.int x2), u3, u4] [] (rOv σ o sc ar) P ↔ (if ¬ x2 = 1 then wp 137 52 [some (.ref o), some (.int x1), some (.int x2), u3, u4] [] (rOv σ o sc ar) P else wp 137 43 [some (.ref o), some (.int x1), some (.int x2), u3, u4] [] (rOv σ o sc ar) P) := by
  refine (wp_s (n := 39) (zcode_of mc_137 (r := (.iload_n 2, 0, 0, 0)) rfl) rfl rfl).trans ?_
  refine (wp_ic (n' := 40) rfl (zcode_of mc_137 (r := (.iconst 1, 0, 0, 0)) rfl) ci_1).trans ?_
  exact wp_jump (off := 12) (t := 52) (zcode_of mc_137 (r := (.if_icmp .ne 12, 0, 0, 0)) rfl) rfl rfl (by decide)
theorem b137_43 {σ : zSt} {o : Nat} {sc : Nat → Int32} {ar : Nat → Nat → Int32} {P : Option Value → zSt → Prop} (hR : RShape σ o) {x1 x2 : Int32} {u3 u4 : Option Value} :
    wp 137 43 [some (.ref o), some (.int x1), some (.int x2), u3, u4] [] (rOv σ o sc ar) P ↔ (zIn x1 (rlen 33) ∧ wp 137 58 [some (.ref o), some (.int x1), some (.int x2), u3, u4] [.int (ar 33 (Int32.toNatClampNeg x1))] (rOv σ o sc ar) P) := by
  refine (wp_s (n := 44) (zcode_of mc_137 (r := (.aload_n 0, 0, 0, 0)) rfl) rfl rfl).trans ?_
  refine (wr_getA (n' := 47) rfl (t := 33) hR (zcode_of mc_137 (r := (.getfield 45, 12, 13, 0)) rfl) rfl rfl).trans ?_
  refine (wp_s (n := 48) (zcode_of mc_137 (r := (.iload_n 1, 0, 0, 0)) rfl) rfl rfl).trans ?_
  refine (wr_ld (n' := 49) rfl hR (zcode_of mc_137 (r := (.iaload, 0, 0, 0)) rfl) rfl rfl).trans (and_congr Iff.rfl ?_)
  exact wp_goto (off := 9) (t := 58) (zcode_of mc_137 (r := (.goto 9, 0, 0, 0)) rfl) (by decide)
theorem b137_52 {σ : zSt} {o : Nat} {sc : Nat → Int32} {ar : Nat → Nat → Int32} {P : Option Value → zSt → Prop} (hR : RShape σ o) {x1 x2 : Int32} {u3 u4 : Option Value} :
    wp 137 52 [some (.ref o), some (.int x1), some (.int x2), u3, u4] [] (rOv σ o sc ar) P ↔ (zIn x1 (rlen 36) ∧ wp 137 58 [some (.ref o), some (.int x1), some (.int x2), u3, u4] [.int (ar 36 (Int32.toNatClampNeg x1))] (rOv σ o sc ar) P) := by
  refine (wp_s (n := 53) (zcode_of mc_137 (r := (.aload_n 0, 0, 0, 0)) rfl) rfl rfl).trans ?_
  refine (wr_getA (n' := 56) rfl (t := 36) hR (zcode_of mc_137 (r := (.getfield 54, 12, 16, 0)) rfl) rfl rfl).trans ?_
  refine (wp_s (n := 57) (zcode_of mc_137 (r := (.iload_n 1, 0, 0, 0)) rfl) rfl rfl).trans ?_
  refine (wr_ld (n' := 58) rfl hR (zcode_of mc_137 (r := (.iaload, 0, 0, 0)) rfl) rfl rfl).trans (and_congr Iff.rfl ?_)
  exact Iff.rfl
theorem b137_58 {σ : zSt} {o : Nat} {sc : Nat → Int32} {ar : Nat → Nat → Int32} {P : Option Value → zSt → Prop} (hR : RShape σ o) {x1 x2 s0 : Int32} {u3 u4 : Option Value} :
    wp 137 58 [some (.ref o), some (.int x1), some (.int x2), u3, u4] [.int s0] (rOv σ o sc ar) P ↔ P (some (.int s0)) (rOv σ o sc ar) := by
  exact wp_retI (zcode_of mc_137 (r := (.ireturn, 0, 0, 0)) rfl) rfl
theorem b137_59 {σ : zSt} {o : Nat} {sc : Nat → Int32} {ar : Nat → Nat → Int32} {P : Option Value → zSt → Prop} (hR : RShape σ o) {x1 x2 : Int32} {u3 u4 : Option Value} :
    wp 137 59 [some (.ref o), some (.int x1), some (.int x2), u3, u4] [] (rOv σ o sc ar) P ↔ wp 137 64 [some (.ref o), some (.int x1), some (.int x2), some (.int 0), some (.int 0)] [] (rOv σ o sc ar) P := by
  refine (wp_ic (n' := 60) rfl (zcode_of mc_137 (r := (.iconst 0, 0, 0, 0)) rfl) ci_0).trans ?_
  refine (wp_s (n := 61) (zcode_of mc_137 (r := (.istore_n 3, 0, 0, 0)) rfl) rfl rfl).trans ?_
  refine (wp_ic (n' := 62) rfl (zcode_of mc_137 (r := (.iconst 0, 0, 0, 0)) rfl) ci_0).trans ?_
  refine (wp_s (n := 64) (zcode_of mc_137 (r := (.istore 4, 0, 0, 0)) rfl) rfl rfl).trans ?_
  exact Iff.rfl
theorem b137_64 {σ : zSt} {o : Nat} {sc : Nat → Int32} {ar : Nat → Nat → Int32} {P : Option Value → zSt → Prop} (hR : RShape σ o) {x1 x2 x3 x4 : Int32} :
    wp 137 64 [some (.ref o), some (.int x1), some (.int x2), some (.int x3), some (.int x4)] [] (rOv σ o sc ar) P ↔ (if (sc 9) ≤ x4 then wp 137 97 [some (.ref o), some (.int x1), some (.int x2), some (.int x3), some (.int x4)] [] (rOv σ o sc ar) P else wp 137 73 [some (.ref o), some (.int x1), some (.int x2), some (.int x3), some (.int x4)] [] (rOv σ o sc ar) P) := by
  refine (wp_s (n := 66) (zcode_of mc_137 (r := (.iload 4, 0, 0, 0)) rfl) rfl rfl).trans ?_
  refine (wp_s (n := 67) (zcode_of mc_137 (r := (.aload_n 0, 0, 0, 0)) rfl) rfl rfl).trans ?_
  refine (wr_getI (n' := 70) rfl hR (zcode_of mc_137 (r := (.getfield 144, 12, 9, 0)) rfl) rfl).trans ?_
  exact wp_jump (off := 27) (t := 97) (zcode_of mc_137 (r := (.if_icmp .ge 27, 0, 0, 0)) rfl) rfl rfl (by decide)
theorem b137_73 {σ : zSt} {o : Nat} {sc : Nat → Int32} {ar : Nat → Nat → Int32} {P : Option Value → zSt → Prop} (hR : RShape σ o) {x1 x2 x3 x4 : Int32} :
    wp 137 73 [some (.ref o), some (.int x1), some (.int x2), some (.int x3), some (.int x4)] [] (rOv σ o sc ar) P ↔ wpM 129 [.ref o, .int x1, .int x4] (rOv σ o sc ar) (fun r τ => wp 137 81 [some (.ref o), some (.int x1), some (.int x2), some (.int x3), some (.int x4)] (r.toList ++ [.int x3]) τ P) := by
  refine (wp_s (n := 74) (zcode_of mc_137 (r := (.iload_n 3, 0, 0, 0)) rfl) rfl rfl).trans ?_
  refine (wp_s (n := 75) (zcode_of mc_137 (r := (.aload_n 0, 0, 0, 0)) rfl) rfl rfl).trans ?_
  refine (wp_s (n := 76) (zcode_of mc_137 (r := (.iload_n 1, 0, 0, 0)) rfl) rfl rfl).trans ?_
  refine (wp_s (n := 78) (zcode_of mc_137 (r := (.iload 4, 0, 0, 0)) rfl) rfl rfl).trans ?_
  exact wp_call (q := ([.ref o, .int x1, .int x4], [.int x3])) (zcode_of mc_137 (r := (.invokevirtual 170, 129, 0, 2)) rfl) rfl (zCa_V (Nat.le_of_ble_eq_true rfl) rfl hR.tg) ⟨Nat.le_of_ble_eq_true rfl, Nat.le_of_ble_eq_true rfl⟩
theorem b137_81 {σ : zSt} {o : Nat} {sc : Nat → Int32} {ar : Nat → Nat → Int32} {P : Option Value → zSt → Prop} (hR : RShape σ o) {x1 x2 x3 x4 s0 s1 : Int32} :
    wp 137 81 [some (.ref o), some (.int x1), some (.int x2), some (.int x3), some (.int x4)] [.int s0, .int s1] (rOv σ o sc ar) P ↔ (if s0 = 0 then wp 137 88 [some (.ref o), some (.int x1), some (.int x2), some (.int x3), some (.int x4)] [.int s1] (rOv σ o sc ar) P else wp 137 84 [some (.ref o), some (.int x1), some (.int x2), some (.int x3), some (.int x4)] [.int s1] (rOv σ o sc ar) P) := by
  exact wp_jump (off := 7) (t := 88) (zcode_of mc_137 (r := (.ifCond .eq 7, 0, 0, 0)) rfl) rfl rfl (by decide)
theorem b137_84 {σ : zSt} {o : Nat} {sc : Nat → Int32} {ar : Nat → Nat → Int32} {P : Option Value → zSt → Prop} (hR : RShape σ o) {x1 x2 x3 x4 s0 : Int32} :
    wp 137 84 [some (.ref o), some (.int x1), some (.int x2), some (.int x3), some (.int x4)] [.int s0] (rOv σ o sc ar) P ↔ wp 137 89 [some (.ref o), some (.int x1), some (.int x2), some (.int x3), some (.int x4)] [.int 1, .int s0] (rOv σ o sc ar) P := by
  refine (wp_ic (n' := 85) rfl (zcode_of mc_137 (r := (.iconst 1, 0, 0, 0)) rfl) ci_1).trans ?_
  exact wp_goto (off := 4) (t := 89) (zcode_of mc_137 (r := (.goto 4, 0, 0, 0)) rfl) (by decide)
theorem b137_88 {σ : zSt} {o : Nat} {sc : Nat → Int32} {ar : Nat → Nat → Int32} {P : Option Value → zSt → Prop} (hR : RShape σ o) {x1 x2 x3 x4 s0 : Int32} :
    wp 137 88 [some (.ref o), some (.int x1), some (.int x2), some (.int x3), some (.int x4)] [.int s0] (rOv σ o sc ar) P ↔ wp 137 89 [some (.ref o), some (.int x1), some (.int x2), some (.int x3), some (.int x4)] [.int 0, .int s0] (rOv σ o sc ar) P := by
  refine (wp_ic (n' := 89) rfl (zcode_of mc_137 (r := (.iconst 0, 0, 0, 0)) rfl) ci_0).trans ?_
  exact Iff.rfl
theorem b137_89 {σ : zSt} {o : Nat} {sc : Nat → Int32} {ar : Nat → Nat → Int32} {P : Option Value → zSt → Prop} (hR : RShape σ o) {x1 x2 x3 x4 s0 s1 : Int32} :
    wp 137 89 [some (.ref o), some (.int x1), some (.int x2), some (.int x3), some (.int x4)] [.int s0, .int s1] (rOv σ o sc ar) P ↔ wp 137 64 [some (.ref o), some (.int x1), some (.int x2), some (.int (s1 + s0)), some (.int (x4 + 1))] [] (rOv σ o sc ar) P := by
  refine (wp_s (n := 90) (zcode_of mc_137 (r := (.iadd, 0, 0, 0)) rfl) rfl rfl).trans ?_
  refine (wp_s (n := 91) (zcode_of mc_137 (r := (.istore_n 3, 0, 0, 0)) rfl) rfl rfl).trans ?_
  refine (wp_inc (n' := 94) rfl (zcode_of mc_137 (r := (.iinc 4 1, 0, 0, 0)) rfl) rfl rfl ci_1).trans ?_
  exact wp_goto (off := (-30)) (t := 64) (zcode_of mc_137 (r := (.goto (-30), 0, 0, 0)) rfl) (by decide)
theorem b137_97 {σ : zSt} {o : Nat} {sc : Nat → Int32} {ar : Nat → Nat → Int32} {P : Option Value → zSt → Prop} (hR : RShape σ o) {x1 x2 x3 x4 : Int32} :
    wp 137 97 [some (.ref o), some (.int x1), some (.int x2), some (.int x3), some (.int x4)] [] (rOv σ o sc ar) P ↔ P (some (.int x3)) (rOv σ o sc ar) := by
  refine (wp_s (n := 98) (zcode_of mc_137 (r := (.iload_n 3, 0, 0, 0)) rfl) rfl rfl).trans ?_
  exact wp_retI (zcode_of mc_137 (r := (.ireturn, 0, 0, 0)) rfl) rfl
theorem mc_138 : mCode 138 = zc_138 := rfl
theorem b138 {σ : zSt} {o : Nat} {sc : Nat → Int32} {ar : Nat → Nat → Int32} {P : Option Value → zSt → Prop} (hR : RShape σ o) {x1 x2 : Int32} :
    wpM 138 [.ref o, .int x1, .int x2] (rOv σ o sc ar) P ↔ wpM 115 [.ref o, .int x1] (rOv σ o sc ar) (fun r τ => wp 138 5 [some (.ref o), some (.int x1), some (.int x2)] (r.toList ++ []) τ P) := by
  show wp 138 0 [some (.ref o), some (.int x1), some (.int x2)] [] (rOv σ o sc ar) P ↔ _
  refine (wp_s (n := 1) (zcode_of mc_138 (r := (.aload_n 0, 0, 0, 0)) rfl) rfl rfl).trans ?_
  refine (wp_s (n := 2) (zcode_of mc_138 (r := (.iload_n 1, 0, 0, 0)) rfl) rfl rfl).trans ?_
  exact wp_call (q := ([.ref o, .int x1], [])) (zcode_of mc_138 (r := (.invokevirtual 177, 115, 0, 1)) rfl) rfl (zCa_V (Nat.le_of_ble_eq_true rfl) rfl hR.tg) ⟨Nat.le_of_ble_eq_true rfl, Nat.le_of_ble_eq_true rfl⟩
theorem b138_5 {σ : zSt} {o : Nat} {sc : Nat → Int32} {ar : Nat → Nat → Int32} {P : Option Value → zSt → Prop} (hR : RShape σ o) {x1 x2 s0 : Int32} :
    wp 138 5 [some (.ref o), some (.int x1), some (.int x2)] [.int s0] (rOv σ o sc ar) P ↔ (if s0 = 0 then wp 138 16 [some (.ref o), some (.int x1), some (.int x2)] [] (rOv σ o sc ar) P else wp 138 8 [some (.ref o), some (.int x1), some (.int x2)] [] (rOv σ o sc ar) P) := by
  exact wp_jump (off := 11) (t := 16) (zcode_of mc_138 (r := (.ifCond .eq 11, 0, 0, 0)) rfl) rfl rfl (by decide)
theorem b138_8 {σ : zSt} {o : Nat} {sc : Nat → Int32} {ar : Nat → Nat → Int32} {P : Option Value → zSt → Prop} (hR : RShape σ o) {x1 x2 : Int32} :
    wp 138 8 [some (.ref o), some (.int x1), some (.int x2)] [] (rOv σ o sc ar) P ↔ wpM 115 [.ref o, .int x2] (rOv σ o sc ar) (fun r τ => wp 138 13 [some (.ref o), some (.int x1), some (.int x2)] (r.toList ++ []) τ P) := by
  refine (wp_s (n := 9) (zcode_of mc_138 (r := (.aload_n 0, 0, 0, 0)) rfl) rfl rfl).trans ?_
  refine (wp_s (n := 10) (zcode_of mc_138 (r := (.iload_n 2, 0, 0, 0)) rfl) rfl rfl).trans ?_
  exact wp_call (q := ([.ref o, .int x2], [])) (zcode_of mc_138 (r := (.invokevirtual 177, 115, 0, 1)) rfl) rfl (zCa_V (Nat.le_of_ble_eq_true rfl) rfl hR.tg) ⟨Nat.le_of_ble_eq_true rfl, Nat.le_of_ble_eq_true rfl⟩
theorem b138_13 {σ : zSt} {o : Nat} {sc : Nat → Int32} {ar : Nat → Nat → Int32} {P : Option Value → zSt → Prop} (hR : RShape σ o) {x1 x2 s0 : Int32} :
    wp 138 13 [some (.ref o), some (.int x1), some (.int x2)] [.int s0] (rOv σ o sc ar) P ↔ (if ¬ s0 = 0 then wp 138 21 [some (.ref o), some (.int x1), some (.int x2)] [] (rOv σ o sc ar) P else wp 138 16 [some (.ref o), some (.int x1), some (.int x2)] [] (rOv σ o sc ar) P) := by
  exact wp_jump (off := 8) (t := 21) (zcode_of mc_138 (r := (.ifCond .ne 8, 0, 0, 0)) rfl) rfl rfl (by decide)
theorem b138_16 {σ : zSt} {o : Nat} {sc : Nat → Int32} {ar : Nat → Nat → Int32} {P : Option Value → zSt → Prop} (hR : RShape σ o) {x1 x2 : Int32} :
    wp 138 16 [some (.ref o), some (.int x1), some (.int x2)] [] (rOv σ o sc ar) P ↔ wp 138 35 [some (.ref o), some (.int x1), some (.int x2)] [.int (-2)] (rOv σ o sc ar) P := by
  refine (wp_bp (n' := 18) rfl (zcode_of mc_138 (r := (.bipush (-2), 0, 0, 0)) rfl) cb_m2).trans ?_
  exact wp_goto (off := 17) (t := 35) (zcode_of mc_138 (r := (.goto 17, 0, 0, 0)) rfl) (by decide)
theorem b138_21 {σ : zSt} {o : Nat} {sc : Nat → Int32} {ar : Nat → Nat → Int32} {P : Option Value → zSt → Prop} (hR : RShape σ o) {x1 x2 : Int32} :
    wp 138 21 [some (.ref o), some (.int x1), some (.int x2)] [] (rOv σ o sc ar) P ↔ wpM 129 [.ref o, .int x1, .int x2] (rOv σ o sc ar) (fun r τ => wp 138 27 [some (.ref o), some (.int x1), some (.int x2)] (r.toList ++ []) τ P) := by
  refine (wp_s (n := 22) (zcode_of mc_138 (r := (.aload_n 0, 0, 0, 0)) rfl) rfl rfl).trans ?_
  refine (wp_s (n := 23) (zcode_of mc_138 (r := (.iload_n 1, 0, 0, 0)) rfl) rfl rfl).trans ?_
  refine (wp_s (n := 24) (zcode_of mc_138 (r := (.iload_n 2, 0, 0, 0)) rfl) rfl rfl).trans ?_
  exact wp_call (q := ([.ref o, .int x1, .int x2], [])) (zcode_of mc_138 (r := (.invokevirtual 170, 129, 0, 2)) rfl) rfl (zCa_V (Nat.le_of_ble_eq_true rfl) rfl hR.tg) ⟨Nat.le_of_ble_eq_true rfl, Nat.le_of_ble_eq_true rfl⟩
theorem b138_27 {σ : zSt} {o : Nat} {sc : Nat → Int32} {ar : Nat → Nat → Int32} {P : Option Value → zSt → Prop} (hR : RShape σ o) {x1 x2 s0 : Int32} :
    wp 138 27 [some (.ref o), some (.int x1), some (.int x2)] [.int s0] (rOv σ o sc ar) P ↔ (if s0 = 0 then wp 138 34 [some (.ref o), some (.int x1), some (.int x2)] [] (rOv σ o sc ar) P else wp 138 30 [some (.ref o), some (.int x1), some (.int x2)] [] (rOv σ o sc ar) P) := by
  exact wp_jump (off := 7) (t := 34) (zcode_of mc_138 (r := (.ifCond .eq 7, 0, 0, 0)) rfl) rfl rfl (by decide)
theorem b138_30 {σ : zSt} {o : Nat} {sc : Nat → Int32} {ar : Nat → Nat → Int32} {P : Option Value → zSt → Prop} (hR : RShape σ o) {x1 x2 : Int32} :
    wp 138 30 [some (.ref o), some (.int x1), some (.int x2)] [] (rOv σ o sc ar) P ↔ wp 138 35 [some (.ref o), some (.int x1), some (.int x2)] [.int 1] (rOv σ o sc ar) P := by
  refine (wp_ic (n' := 31) rfl (zcode_of mc_138 (r := (.iconst 1, 0, 0, 0)) rfl) ci_1).trans ?_
  exact wp_goto (off := 4) (t := 35) (zcode_of mc_138 (r := (.goto 4, 0, 0, 0)) rfl) (by decide)
theorem b138_34 {σ : zSt} {o : Nat} {sc : Nat → Int32} {ar : Nat → Nat → Int32} {P : Option Value → zSt → Prop} (hR : RShape σ o) {x1 x2 : Int32} :
    wp 138 34 [some (.ref o), some (.int x1), some (.int x2)] [] (rOv σ o sc ar) P ↔ wp 138 35 [some (.ref o), some (.int x1), some (.int x2)] [.int 0] (rOv σ o sc ar) P := by
  refine (wp_ic (n' := 35) rfl (zcode_of mc_138 (r := (.iconst 0, 0, 0, 0)) rfl) ci_0).trans ?_
  exact Iff.rfl
theorem b138_35 {σ : zSt} {o : Nat} {sc : Nat → Int32} {ar : Nat → Nat → Int32} {P : Option Value → zSt → Prop} (hR : RShape σ o) {x1 x2 s0 : Int32} :
    wp 138 35 [some (.ref o), some (.int x1), some (.int x2)] [.int s0] (rOv σ o sc ar) P ↔ P (some (.int s0)) (rOv σ o sc ar) := by
  exact wp_retI (zcode_of mc_138 (r := (.ireturn, 0, 0, 0)) rfl) rfl
theorem mc_139 : mCode 139 = zc_139 := rfl
theorem b139 {σ : zSt} {o : Nat} {sc : Nat → Int32} {ar : Nat → Nat → Int32} {P : Option Value → zSt → Prop} (hR : RShape σ o) {x1 : Int32} :
    wpM 139 [.ref o, .int x1] (rOv σ o sc ar) P ↔ (zIn (sc 43) (rlen 62) ∧ P none (rOv σ o (upS sc 43 ((sc 43) + 1)) (upA ar 62 (Int32.toNatClampNeg (sc 43)) x1))) := by
  show wp 139 0 [some (.ref o), some (.int x1)] [] (rOv σ o sc ar) P ↔ _
  refine (wp_s (n := 1) (zcode_of mc_139 (r := (.aload_n 0, 0, 0, 0)) rfl) rfl rfl).trans ?_
  refine (wr_getA (n' := 4) rfl (t := 62) hR (zcode_of mc_139 (r := (.getfield 116, 12, 42, 0)) rfl) rfl rfl).trans ?_
  refine (wp_s (n := 5) (zcode_of mc_139 (r := (.aload_n 0, 0, 0, 0)) rfl) rfl rfl).trans ?_
  refine (wr_getI (n' := 8) rfl hR (zcode_of mc_139 (r := (.getfield 187, 12, 43, 0)) rfl) rfl).trans ?_
  refine (wp_s (n := 9) (zcode_of mc_139 (r := (.iload_n 1, 0, 0, 0)) rfl) rfl rfl).trans ?_
  refine (wr_st (n' := 10) rfl hR (zcode_of mc_139 (r := (.iastore, 0, 0, 0)) rfl) rfl rfl).trans (and_congr Iff.rfl ?_)
  refine (wp_s (n := 11) (zcode_of mc_139 (r := (.aload_n 0, 0, 0, 0)) rfl) rfl rfl).trans ?_
  refine (wp_s (n := 12) (zcode_of mc_139 (r := (.dup, 0, 0, 0)) rfl) rfl rfl).trans ?_
  refine (wr_getI (n' := 15) rfl hR (zcode_of mc_139 (r := (.getfield 187, 12, 43, 0)) rfl) rfl).trans ?_
  refine (wp_ic (n' := 16) rfl (zcode_of mc_139 (r := (.iconst 1, 0, 0, 0)) rfl) ci_1).trans ?_
  refine (wp_s (n := 17) (zcode_of mc_139 (r := (.iadd, 0, 0, 0)) rfl) rfl rfl).trans ?_
  refine (wr_put (n' := 20) rfl hR (zcode_of mc_139 (r := (.putfield 187, 12, 43, 0)) rfl) rfl).trans ?_
  exact wp_retV (zcode_of mc_139 (r := (.return_, 0, 0, 0)) rfl) rfl
theorem mc_140 : mCode 140 = zc_140 := rfl
theorem b140 {σ : zSt} {o : Nat} {sc : Nat → Int32} {ar : Nat → Nat → Int32} {P : Option Value → zSt → Prop} (hR : RShape σ o) {x1 : Int32} :
    wpM 140 [.ref o, .int x1] (rOv σ o sc ar) P ↔ (zIn x1 (rlen 33) ∧ wpM 139 [.ref o, .int (ar 33 (Int32.toNatClampNeg x1))] (rOv σ o sc ar) (fun r τ => wp 140 10 [some (.ref o), some (.int x1), none] (r.toList ++ []) τ P)) := by
  show wp 140 0 [some (.ref o), some (.int x1), none] [] (rOv σ o sc ar) P ↔ _
  refine (wp_s (n := 1) (zcode_of mc_140 (r := (.aload_n 0, 0, 0, 0)) rfl) rfl rfl).trans ?_
  refine (wp_s (n := 2) (zcode_of mc_140 (r := (.aload_n 0, 0, 0, 0)) rfl) rfl rfl).trans ?_
  refine (wr_getA (n' := 5) rfl (t := 33) hR (zcode_of mc_140 (r := (.getfield 45, 12, 13, 0)) rfl) rfl rfl).trans ?_
  refine (wp_s (n := 6) (zcode_of mc_140 (r := (.iload_n 1, 0, 0, 0)) rfl) rfl rfl).trans ?_
  refine (wr_ld (n' := 7) rfl hR (zcode_of mc_140 (r := (.iaload, 0, 0, 0)) rfl) rfl rfl).trans (and_congr Iff.rfl ?_)
  exact wp_call (q := ([.ref o, .int (ar 33 (Int32.toNatClampNeg x1))], [])) (zcode_of mc_140 (r := (.invokevirtual 190, 139, 0, 1)) rfl) rfl (zCa_V (Nat.le_of_ble_eq_true rfl) rfl hR.tg) ⟨Nat.le_of_ble_eq_true rfl, Nat.le_of_ble_eq_true rfl⟩
theorem b140_10 {σ : zSt} {o : Nat} {sc : Nat → Int32} {ar : Nat → Nat → Int32} {P : Option Value → zSt → Prop} (hR : RShape σ o) {x1 : Int32} {u2 : Option Value} :
    wp 140 10 [some (.ref o), some (.int x1), u2] [] (rOv σ o sc ar) P ↔ (zIn x1 (rlen 36) ∧ wpM 139 [.ref o, .int (ar 36 (Int32.toNatClampNeg x1))] (rOv σ o sc ar) (fun r τ => wp 140 20 [some (.ref o), some (.int x1), u2] (r.toList ++ []) τ P)) := by
  refine (wp_s (n := 11) (zcode_of mc_140 (r := (.aload_n 0, 0, 0, 0)) rfl) rfl rfl).trans ?_
  refine (wp_s (n := 12) (zcode_of mc_140 (r := (.aload_n 0, 0, 0, 0)) rfl) rfl rfl).trans ?_
  refine (wr_getA (n' := 15) rfl (t := 36) hR (zcode_of mc_140 (r := (.getfield 54, 12, 16, 0)) rfl) rfl rfl).trans ?_
  refine (wp_s (n := 16) (zcode_of mc_140 (r := (.iload_n 1, 0, 0, 0)) rfl) rfl rfl).trans ?_
  refine (wr_ld (n' := 17) rfl hR (zcode_of mc_140 (r := (.iaload, 0, 0, 0)) rfl) rfl rfl).trans (and_congr Iff.rfl ?_)
  exact wp_call (q := ([.ref o, .int (ar 36 (Int32.toNatClampNeg x1))], [])) (zcode_of mc_140 (r := (.invokevirtual 190, 139, 0, 1)) rfl) rfl (zCa_V (Nat.le_of_ble_eq_true rfl) rfl hR.tg) ⟨Nat.le_of_ble_eq_true rfl, Nat.le_of_ble_eq_true rfl⟩
theorem b140_20 {σ : zSt} {o : Nat} {sc : Nat → Int32} {ar : Nat → Nat → Int32} {P : Option Value → zSt → Prop} (hR : RShape σ o) {x1 : Int32} {u2 : Option Value} :
    wp 140 20 [some (.ref o), some (.int x1), u2] [] (rOv σ o sc ar) P ↔ wp 140 22 [some (.ref o), some (.int x1), some (.int 0)] [] (rOv σ o sc ar) P := by
  refine (wp_ic (n' := 21) rfl (zcode_of mc_140 (r := (.iconst 0, 0, 0, 0)) rfl) ci_0).trans ?_
  refine (wp_s (n := 22) (zcode_of mc_140 (r := (.istore_n 2, 0, 0, 0)) rfl) rfl rfl).trans ?_
  exact Iff.rfl
theorem b140_22 {σ : zSt} {o : Nat} {sc : Nat → Int32} {ar : Nat → Nat → Int32} {P : Option Value → zSt → Prop} (hR : RShape σ o) {x1 x2 : Int32} :
    wp 140 22 [some (.ref o), some (.int x1), some (.int x2)] [] (rOv σ o sc ar) P ↔ (zIn x1 (rlen 36) ∧ (if (ar 36 (Int32.toNatClampNeg x1)) ≤ x2 then wp 140 68 [some (.ref o), some (.int x1), some (.int x2)] [] (rOv σ o sc ar) P else wp 140 32 [some (.ref o), some (.int x1), some (.int x2)] [] (rOv σ o sc ar) P)) := by
  refine (wp_s (n := 23) (zcode_of mc_140 (r := (.iload_n 2, 0, 0, 0)) rfl) rfl rfl).trans ?_
  refine (wp_s (n := 24) (zcode_of mc_140 (r := (.aload_n 0, 0, 0, 0)) rfl) rfl rfl).trans ?_
  refine (wr_getA (n' := 27) rfl (t := 36) hR (zcode_of mc_140 (r := (.getfield 54, 12, 16, 0)) rfl) rfl rfl).trans ?_
  refine (wp_s (n := 28) (zcode_of mc_140 (r := (.iload_n 1, 0, 0, 0)) rfl) rfl rfl).trans ?_
  refine (wr_ld (n' := 29) rfl hR (zcode_of mc_140 (r := (.iaload, 0, 0, 0)) rfl) rfl rfl).trans (and_congr Iff.rfl ?_)
  exact wp_jump (off := 39) (t := 68) (zcode_of mc_140 (r := (.if_icmp .ge 39, 0, 0, 0)) rfl) rfl rfl (by decide)
theorem b140_32 {σ : zSt} {o : Nat} {sc : Nat → Int32} {ar : Nat → Nat → Int32} {P : Option Value → zSt → Prop} (hR : RShape σ o) {x1 x2 : Int32} :
    wp 140 32 [some (.ref o), some (.int x1), some (.int x2)] [] (rOv σ o sc ar) P ↔ (zIn ((16 * x1) + x2) (rlen 34) ∧ wpM 139 [.ref o, .int (ar 34 (Int32.toNatClampNeg ((16 * x1) + x2)))] (rOv σ o sc ar) (fun r τ => wp 140 47 [some (.ref o), some (.int x1), some (.int x2)] (r.toList ++ []) τ P)) := by
  refine (wp_s (n := 33) (zcode_of mc_140 (r := (.aload_n 0, 0, 0, 0)) rfl) rfl rfl).trans ?_
  refine (wp_s (n := 34) (zcode_of mc_140 (r := (.aload_n 0, 0, 0, 0)) rfl) rfl rfl).trans ?_
  refine (wr_getA (n' := 37) rfl (t := 34) hR (zcode_of mc_140 (r := (.getfield 48, 12, 14, 0)) rfl) rfl rfl).trans ?_
  refine (wp_bp (n' := 39) rfl (zcode_of mc_140 (r := (.bipush 16, 0, 0, 0)) rfl) cb_16).trans ?_
  refine (wp_s (n := 40) (zcode_of mc_140 (r := (.iload_n 1, 0, 0, 0)) rfl) rfl rfl).trans ?_
  refine (wp_s (n := 41) (zcode_of mc_140 (r := (.imul, 0, 0, 0)) rfl) rfl rfl).trans ?_
  refine (wp_s (n := 42) (zcode_of mc_140 (r := (.iload_n 2, 0, 0, 0)) rfl) rfl rfl).trans ?_
  refine (wp_s (n := 43) (zcode_of mc_140 (r := (.iadd, 0, 0, 0)) rfl) rfl rfl).trans ?_
  refine (wr_ld (n' := 44) rfl hR (zcode_of mc_140 (r := (.iaload, 0, 0, 0)) rfl) rfl rfl).trans (and_congr Iff.rfl ?_)
  exact wp_call (q := ([.ref o, .int (ar 34 (Int32.toNatClampNeg ((16 * x1) + x2)))], [])) (zcode_of mc_140 (r := (.invokevirtual 190, 139, 0, 1)) rfl) rfl (zCa_V (Nat.le_of_ble_eq_true rfl) rfl hR.tg) ⟨Nat.le_of_ble_eq_true rfl, Nat.le_of_ble_eq_true rfl⟩
theorem b140_47 {σ : zSt} {o : Nat} {sc : Nat → Int32} {ar : Nat → Nat → Int32} {P : Option Value → zSt → Prop} (hR : RShape σ o) {x1 x2 : Int32} :
    wp 140 47 [some (.ref o), some (.int x1), some (.int x2)] [] (rOv σ o sc ar) P ↔ (zIn ((16 * x1) + x2) (rlen 35) ∧ wpM 139 [.ref o, .int (ar 35 (Int32.toNatClampNeg ((16 * x1) + x2)))] (rOv σ o sc ar) (fun r τ => wp 140 62 [some (.ref o), some (.int x1), some (.int x2)] (r.toList ++ []) τ P)) := by
  refine (wp_s (n := 48) (zcode_of mc_140 (r := (.aload_n 0, 0, 0, 0)) rfl) rfl rfl).trans ?_
  refine (wp_s (n := 49) (zcode_of mc_140 (r := (.aload_n 0, 0, 0, 0)) rfl) rfl rfl).trans ?_
  refine (wr_getA (n' := 52) rfl (t := 35) hR (zcode_of mc_140 (r := (.getfield 51, 12, 15, 0)) rfl) rfl rfl).trans ?_
  refine (wp_bp (n' := 54) rfl (zcode_of mc_140 (r := (.bipush 16, 0, 0, 0)) rfl) cb_16).trans ?_
  refine (wp_s (n := 55) (zcode_of mc_140 (r := (.iload_n 1, 0, 0, 0)) rfl) rfl rfl).trans ?_
  refine (wp_s (n := 56) (zcode_of mc_140 (r := (.imul, 0, 0, 0)) rfl) rfl rfl).trans ?_
  refine (wp_s (n := 57) (zcode_of mc_140 (r := (.iload_n 2, 0, 0, 0)) rfl) rfl rfl).trans ?_
  refine (wp_s (n := 58) (zcode_of mc_140 (r := (.iadd, 0, 0, 0)) rfl) rfl rfl).trans ?_
  refine (wr_ld (n' := 59) rfl hR (zcode_of mc_140 (r := (.iaload, 0, 0, 0)) rfl) rfl rfl).trans (and_congr Iff.rfl ?_)
  exact wp_call (q := ([.ref o, .int (ar 35 (Int32.toNatClampNeg ((16 * x1) + x2)))], [])) (zcode_of mc_140 (r := (.invokevirtual 190, 139, 0, 1)) rfl) rfl (zCa_V (Nat.le_of_ble_eq_true rfl) rfl hR.tg) ⟨Nat.le_of_ble_eq_true rfl, Nat.le_of_ble_eq_true rfl⟩
theorem b140_62 {σ : zSt} {o : Nat} {sc : Nat → Int32} {ar : Nat → Nat → Int32} {P : Option Value → zSt → Prop} (hR : RShape σ o) {x1 x2 : Int32} :
    wp 140 62 [some (.ref o), some (.int x1), some (.int x2)] [] (rOv σ o sc ar) P ↔ wp 140 22 [some (.ref o), some (.int x1), some (.int (x2 + 1))] [] (rOv σ o sc ar) P := by
  refine (wp_inc (n' := 65) rfl (zcode_of mc_140 (r := (.iinc 2 1, 0, 0, 0)) rfl) rfl rfl ci_1).trans ?_
  exact wp_goto (off := (-43)) (t := 22) (zcode_of mc_140 (r := (.goto (-43), 0, 0, 0)) rfl) (by decide)
theorem b140_68 {σ : zSt} {o : Nat} {sc : Nat → Int32} {ar : Nat → Nat → Int32} {P : Option Value → zSt → Prop} (hR : RShape σ o) {x1 x2 : Int32} :
    wp 140 68 [some (.ref o), some (.int x1), some (.int x2)] [] (rOv σ o sc ar) P ↔ (zIn x1 (rlen 31) ∧ wpM 139 [.ref o, .int (ar 31 (Int32.toNatClampNeg x1))] (rOv σ o sc ar) (fun r τ => wp 140 78 [some (.ref o), some (.int x1), some (.int x2)] (r.toList ++ []) τ P)) := by
  refine (wp_s (n := 69) (zcode_of mc_140 (r := (.aload_n 0, 0, 0, 0)) rfl) rfl rfl).trans ?_
  refine (wp_s (n := 70) (zcode_of mc_140 (r := (.aload_n 0, 0, 0, 0)) rfl) rfl rfl).trans ?_
  refine (wr_getA (n' := 73) rfl (t := 31) hR (zcode_of mc_140 (r := (.getfield 39, 12, 11, 0)) rfl) rfl rfl).trans ?_
  refine (wp_s (n := 74) (zcode_of mc_140 (r := (.iload_n 1, 0, 0, 0)) rfl) rfl rfl).trans ?_
  refine (wr_ld (n' := 75) rfl hR (zcode_of mc_140 (r := (.iaload, 0, 0, 0)) rfl) rfl rfl).trans (and_congr Iff.rfl ?_)
  exact wp_call (q := ([.ref o, .int (ar 31 (Int32.toNatClampNeg x1))], [])) (zcode_of mc_140 (r := (.invokevirtual 190, 139, 0, 1)) rfl) rfl (zCa_V (Nat.le_of_ble_eq_true rfl) rfl hR.tg) ⟨Nat.le_of_ble_eq_true rfl, Nat.le_of_ble_eq_true rfl⟩
theorem b140_78 {σ : zSt} {o : Nat} {sc : Nat → Int32} {ar : Nat → Nat → Int32} {P : Option Value → zSt → Prop} (hR : RShape σ o) {x1 x2 : Int32} :
    wp 140 78 [some (.ref o), some (.int x1), some (.int x2)] [] (rOv σ o sc ar) P ↔ P none (rOv σ o sc ar) := by
  exact wp_retV (zcode_of mc_140 (r := (.return_, 0, 0, 0)) rfl) rfl
theorem mc_141 : mCode 141 = zc_141 := rfl
theorem b141 {σ : zSt} {o : Nat} {sc : Nat → Int32} {ar : Nat → Nat → Int32} {P : Option Value → zSt → Prop} (hR : RShape σ o) {x1 x2 : Int32} :
    wpM 141 [.ref o, .int x1, .int x2] (rOv σ o sc ar) P ↔ wp 141 7 [some (.ref o), some (.int x1), some (.int x2), some (.int 1), none] [] (rOv σ o (upS sc 46 0) ar) P := by
  show wp 141 0 [some (.ref o), some (.int x1), some (.int x2), none, none] [] (rOv σ o sc ar) P ↔ _
  refine (wp_s (n := 1) (zcode_of mc_141 (r := (.aload_n 0, 0, 0, 0)) rfl) rfl rfl).trans ?_
  refine (wp_ic (n' := 2) rfl (zcode_of mc_141 (r := (.iconst 0, 0, 0, 0)) rfl) ci_0).trans ?_
  refine (wr_put (n' := 5) rfl hR (zcode_of mc_141 (r := (.putfield 193, 12, 46, 0)) rfl) rfl).trans ?_
  refine (wp_ic (n' := 6) rfl (zcode_of mc_141 (r := (.iconst 1, 0, 0, 0)) rfl) ci_1).trans ?_
  refine (wp_s (n := 7) (zcode_of mc_141 (r := (.istore_n 3, 0, 0, 0)) rfl) rfl rfl).trans ?_
  exact Iff.rfl
theorem b141_7 {σ : zSt} {o : Nat} {sc : Nat → Int32} {ar : Nat → Nat → Int32} {P : Option Value → zSt → Prop} (hR : RShape σ o) {x1 x2 x3 : Int32} {u4 : Option Value} :
    wp 141 7 [some (.ref o), some (.int x1), some (.int x2), some (.int x3), u4] [] (rOv σ o sc ar) P ↔ (if 26 < x3 then wp 141 105 [some (.ref o), some (.int x1), some (.int x2), some (.int x3), u4] [] (rOv σ o sc ar) P else wp 141 13 [some (.ref o), some (.int x1), some (.int x2), some (.int x3), u4] [] (rOv σ o sc ar) P) := by
  refine (wp_s (n := 8) (zcode_of mc_141 (r := (.iload_n 3, 0, 0, 0)) rfl) rfl rfl).trans ?_
  refine (wp_bp (n' := 10) rfl (zcode_of mc_141 (r := (.bipush 26, 0, 0, 0)) rfl) cb_26).trans ?_
  exact wp_jump (off := 95) (t := 105) (zcode_of mc_141 (r := (.if_icmp .gt 95, 0, 0, 0)) rfl) rfl rfl (by decide)
theorem b141_13 {σ : zSt} {o : Nat} {sc : Nat → Int32} {ar : Nat → Nat → Int32} {P : Option Value → zSt → Prop} (hR : RShape σ o) {x1 x2 x3 : Int32} {u4 : Option Value} :
    wp 141 13 [some (.ref o), some (.int x1), some (.int x2), some (.int x3), u4] [] (rOv σ o sc ar) P ↔ wp 141 16 [some (.ref o), some (.int x1), some (.int x2), some (.int x3), some (.int 1)] [] (rOv σ o sc ar) P := by
  refine (wp_ic (n' := 14) rfl (zcode_of mc_141 (r := (.iconst 1, 0, 0, 0)) rfl) ci_1).trans ?_
  refine (wp_s (n := 16) (zcode_of mc_141 (r := (.istore 4, 0, 0, 0)) rfl) rfl rfl).trans ?_
  exact Iff.rfl
theorem b141_16 {σ : zSt} {o : Nat} {sc : Nat → Int32} {ar : Nat → Nat → Int32} {P : Option Value → zSt → Prop} (hR : RShape σ o) {x1 x2 x3 x4 : Int32} :
    wp 141 16 [some (.ref o), some (.int x1), some (.int x2), some (.int x3), some (.int x4)] [] (rOv σ o sc ar) P ↔ (if (sc 0) ≤ x4 then wp 141 99 [some (.ref o), some (.int x1), some (.int x2), some (.int x3), some (.int x4)] [] (rOv σ o sc ar) P else wp 141 25 [some (.ref o), some (.int x1), some (.int x2), some (.int x3), some (.int x4)] [] (rOv σ o sc ar) P) := by
  refine (wp_s (n := 18) (zcode_of mc_141 (r := (.iload 4, 0, 0, 0)) rfl) rfl rfl).trans ?_
  refine (wp_s (n := 19) (zcode_of mc_141 (r := (.aload_n 0, 0, 0, 0)) rfl) rfl rfl).trans ?_
  refine (wr_getI (n' := 22) rfl hR (zcode_of mc_141 (r := (.getfield 7, 12, 0, 0)) rfl) rfl).trans ?_
  exact wp_jump (off := 77) (t := 99) (zcode_of mc_141 (r := (.if_icmp .ge 77, 0, 0, 0)) rfl) rfl rfl (by decide)
theorem b141_25 {σ : zSt} {o : Nat} {sc : Nat → Int32} {ar : Nat → Nat → Int32} {P : Option Value → zSt → Prop} (hR : RShape σ o) {x1 x2 x3 x4 : Int32} :
    wp 141 25 [some (.ref o), some (.int x1), some (.int x2), some (.int x3), some (.int x4)] [] (rOv σ o sc ar) P ↔ (zIn x4 (rlen 21) ∧ (if ¬ (ar 21 (Int32.toNatClampNeg x4)) = x2 then wp 141 93 [some (.ref o), some (.int x1), some (.int x2), some (.int x3), some (.int x4)] [] (rOv σ o sc ar) P else wp 141 36 [some (.ref o), some (.int x1), some (.int x2), some (.int x3), some (.int x4)] [] (rOv σ o sc ar) P)) := by
  refine (wp_s (n := 26) (zcode_of mc_141 (r := (.aload_n 0, 0, 0, 0)) rfl) rfl rfl).trans ?_
  refine (wr_getA (n' := 29) rfl (t := 21) hR (zcode_of mc_141 (r := (.getfield 13, 12, 1, 0)) rfl) rfl rfl).trans ?_
  refine (wp_s (n := 31) (zcode_of mc_141 (r := (.iload 4, 0, 0, 0)) rfl) rfl rfl).trans ?_
  refine (wr_ld (n' := 32) rfl hR (zcode_of mc_141 (r := (.iaload, 0, 0, 0)) rfl) rfl rfl).trans (and_congr Iff.rfl ?_)
  refine (wp_s (n := 33) (zcode_of mc_141 (r := (.iload_n 2, 0, 0, 0)) rfl) rfl rfl).trans ?_
  exact wp_jump (off := 60) (t := 93) (zcode_of mc_141 (r := (.if_icmp .ne 60, 0, 0, 0)) rfl) rfl rfl (by decide)
theorem b141_36 {σ : zSt} {o : Nat} {sc : Nat → Int32} {ar : Nat → Nat → Int32} {P : Option Value → zSt → Prop} (hR : RShape σ o) {x1 x2 x3 x4 : Int32} :
    wp 141 36 [some (.ref o), some (.int x1), some (.int x2), some (.int x3), some (.int x4)] [] (rOv σ o sc ar) P ↔ (zIn x4 (rlen 22) ∧ (if ¬ (ar 22 (Int32.toNatClampNeg x4)) = x3 then wp 141 93 [some (.ref o), some (.int x1), some (.int x2), some (.int x3), some (.int x4)] [] (rOv σ o sc ar) P else wp 141 47 [some (.ref o), some (.int x1), some (.int x2), some (.int x3), some (.int x4)] [] (rOv σ o sc ar) P)) := by
  refine (wp_s (n := 37) (zcode_of mc_141 (r := (.aload_n 0, 0, 0, 0)) rfl) rfl rfl).trans ?_
  refine (wr_getA (n' := 40) rfl (t := 22) hR (zcode_of mc_141 (r := (.getfield 17, 12, 2, 0)) rfl) rfl rfl).trans ?_
  refine (wp_s (n := 42) (zcode_of mc_141 (r := (.iload 4, 0, 0, 0)) rfl) rfl rfl).trans ?_
  refine (wr_ld (n' := 43) rfl hR (zcode_of mc_141 (r := (.iaload, 0, 0, 0)) rfl) rfl rfl).trans (and_congr Iff.rfl ?_)
  refine (wp_s (n := 44) (zcode_of mc_141 (r := (.iload_n 3, 0, 0, 0)) rfl) rfl rfl).trans ?_
  exact wp_jump (off := 49) (t := 93) (zcode_of mc_141 (r := (.if_icmp .ne 49, 0, 0, 0)) rfl) rfl rfl (by decide)
theorem b141_47 {σ : zSt} {o : Nat} {sc : Nat → Int32} {ar : Nat → Nat → Int32} {P : Option Value → zSt → Prop} (hR : RShape σ o) {x1 x2 x3 x4 : Int32} :
    wp 141 47 [some (.ref o), some (.int x1), some (.int x2), some (.int x3), some (.int x4)] [] (rOv σ o sc ar) P ↔ (zIn x4 (rlen 23) ∧ (if ¬ (ar 23 (Int32.toNatClampNeg x4)) = 0 then wp 141 93 [some (.ref o), some (.int x1), some (.int x2), some (.int x3), some (.int x4)] [] (rOv σ o sc ar) P else wp 141 57 [some (.ref o), some (.int x1), some (.int x2), some (.int x3), some (.int x4)] [] (rOv σ o sc ar) P)) := by
  refine (wp_s (n := 48) (zcode_of mc_141 (r := (.aload_n 0, 0, 0, 0)) rfl) rfl rfl).trans ?_
  refine (wr_getA (n' := 51) rfl (t := 23) hR (zcode_of mc_141 (r := (.getfield 20, 12, 3, 0)) rfl) rfl rfl).trans ?_
  refine (wp_s (n := 53) (zcode_of mc_141 (r := (.iload 4, 0, 0, 0)) rfl) rfl rfl).trans ?_
  refine (wr_ldZ (n' := 54) rfl hR (zcode_of mc_141 (r := (.baload, 0, 0, 0)) rfl) rfl rfl).trans (and_congr Iff.rfl ?_)
  exact wp_jump (off := 39) (t := 93) (zcode_of mc_141 (r := (.ifCond .ne 39, 0, 0, 0)) rfl) rfl rfl (by decide)
theorem b141_57 {σ : zSt} {o : Nat} {sc : Nat → Int32} {ar : Nat → Nat → Int32} {P : Option Value → zSt → Prop} (hR : RShape σ o) {x1 x2 x3 x4 : Int32} :
    wp 141 57 [some (.ref o), some (.int x1), some (.int x2), some (.int x3), some (.int x4)] [] (rOv σ o sc ar) P ↔ (zIn ((60 * x1) + x4) (rlen 25) ∧ (if (ar 25 (Int32.toNatClampNeg ((60 * x1) + x4))) = (-1) then wp 141 93 [some (.ref o), some (.int x1), some (.int x2), some (.int x3), some (.int x4)] [] (rOv σ o sc ar) P else wp 141 73 [some (.ref o), some (.int x1), some (.int x2), some (.int x3), some (.int x4)] [] (rOv σ o sc ar) P)) := by
  refine (wp_s (n := 58) (zcode_of mc_141 (r := (.aload_n 0, 0, 0, 0)) rfl) rfl rfl).trans ?_
  refine (wr_getA (n' := 61) rfl (t := 25) hR (zcode_of mc_141 (r := (.getfield 27, 12, 5, 0)) rfl) rfl rfl).trans ?_
  refine (wp_bp (n' := 63) rfl (zcode_of mc_141 (r := (.bipush 60, 0, 0, 0)) rfl) cb_60).trans ?_
  refine (wp_s (n := 64) (zcode_of mc_141 (r := (.iload_n 1, 0, 0, 0)) rfl) rfl rfl).trans ?_
  refine (wp_s (n := 65) (zcode_of mc_141 (r := (.imul, 0, 0, 0)) rfl) rfl rfl).trans ?_
  refine (wp_s (n := 67) (zcode_of mc_141 (r := (.iload 4, 0, 0, 0)) rfl) rfl rfl).trans ?_
  refine (wp_s (n := 68) (zcode_of mc_141 (r := (.iadd, 0, 0, 0)) rfl) rfl rfl).trans ?_
  refine (wr_ld (n' := 69) rfl hR (zcode_of mc_141 (r := (.iaload, 0, 0, 0)) rfl) rfl rfl).trans (and_congr Iff.rfl ?_)
  refine (wp_ic (n' := 70) rfl (zcode_of mc_141 (r := (.iconst (-1), 0, 0, 0)) rfl) ci_m1).trans ?_
  exact wp_jump (off := 23) (t := 93) (zcode_of mc_141 (r := (.if_icmp .eq 23, 0, 0, 0)) rfl) rfl rfl (by decide)
theorem b141_73 {σ : zSt} {o : Nat} {sc : Nat → Int32} {ar : Nat → Nat → Int32} {P : Option Value → zSt → Prop} (hR : RShape σ o) {x1 x2 x3 x4 : Int32} :
    wp 141 73 [some (.ref o), some (.int x1), some (.int x2), some (.int x3), some (.int x4)] [] (rOv σ o sc ar) P ↔ (zIn (sc 46) (rlen 65) ∧ wp 141 93 [some (.ref o), some (.int x1), some (.int x2), some (.int x3), some (.int x4)] [] (rOv σ o (upS sc 46 ((sc 46) + 1)) (upA ar 65 (Int32.toNatClampNeg (sc 46)) x3)) P) := by
  refine (wp_s (n := 74) (zcode_of mc_141 (r := (.aload_n 0, 0, 0, 0)) rfl) rfl rfl).trans ?_
  refine (wr_getA (n' := 77) rfl (t := 65) hR (zcode_of mc_141 (r := (.getfield 122, 12, 45, 0)) rfl) rfl rfl).trans ?_
  refine (wp_s (n := 78) (zcode_of mc_141 (r := (.aload_n 0, 0, 0, 0)) rfl) rfl rfl).trans ?_
  refine (wr_getI (n' := 81) rfl hR (zcode_of mc_141 (r := (.getfield 193, 12, 46, 0)) rfl) rfl).trans ?_
  refine (wp_s (n := 82) (zcode_of mc_141 (r := (.iload_n 3, 0, 0, 0)) rfl) rfl rfl).trans ?_
  refine (wr_st (n' := 83) rfl hR (zcode_of mc_141 (r := (.iastore, 0, 0, 0)) rfl) rfl rfl).trans (and_congr Iff.rfl ?_)
  refine (wp_s (n := 84) (zcode_of mc_141 (r := (.aload_n 0, 0, 0, 0)) rfl) rfl rfl).trans ?_
  refine (wp_s (n := 85) (zcode_of mc_141 (r := (.dup, 0, 0, 0)) rfl) rfl rfl).trans ?_
  refine (wr_getI (n' := 88) rfl hR (zcode_of mc_141 (r := (.getfield 193, 12, 46, 0)) rfl) rfl).trans ?_
  refine (wp_ic (n' := 89) rfl (zcode_of mc_141 (r := (.iconst 1, 0, 0, 0)) rfl) ci_1).trans ?_
  refine (wp_s (n := 90) (zcode_of mc_141 (r := (.iadd, 0, 0, 0)) rfl) rfl rfl).trans ?_
  refine (wr_put (n' := 93) rfl hR (zcode_of mc_141 (r := (.putfield 193, 12, 46, 0)) rfl) rfl).trans ?_
  exact Iff.rfl
theorem b141_93 {σ : zSt} {o : Nat} {sc : Nat → Int32} {ar : Nat → Nat → Int32} {P : Option Value → zSt → Prop} (hR : RShape σ o) {x1 x2 x3 x4 : Int32} :
    wp 141 93 [some (.ref o), some (.int x1), some (.int x2), some (.int x3), some (.int x4)] [] (rOv σ o sc ar) P ↔ wp 141 16 [some (.ref o), some (.int x1), some (.int x2), some (.int x3), some (.int (x4 + 1))] [] (rOv σ o sc ar) P := by
  refine (wp_inc (n' := 96) rfl (zcode_of mc_141 (r := (.iinc 4 1, 0, 0, 0)) rfl) rfl rfl ci_1).trans ?_
  exact wp_goto (off := (-80)) (t := 16) (zcode_of mc_141 (r := (.goto (-80), 0, 0, 0)) rfl) (by decide)
theorem b141_99 {σ : zSt} {o : Nat} {sc : Nat → Int32} {ar : Nat → Nat → Int32} {P : Option Value → zSt → Prop} (hR : RShape σ o) {x1 x2 x3 x4 : Int32} :
    wp 141 99 [some (.ref o), some (.int x1), some (.int x2), some (.int x3), some (.int x4)] [] (rOv σ o sc ar) P ↔ wp 141 7 [some (.ref o), some (.int x1), some (.int x2), some (.int (x3 + 1)), some (.int x4)] [] (rOv σ o sc ar) P := by
  refine (wp_inc (n' := 102) rfl (zcode_of mc_141 (r := (.iinc 3 1, 0, 0, 0)) rfl) rfl rfl ci_1).trans ?_
  exact wp_goto (off := (-95)) (t := 7) (zcode_of mc_141 (r := (.goto (-95), 0, 0, 0)) rfl) (by decide)
theorem b141_105 {σ : zSt} {o : Nat} {sc : Nat → Int32} {ar : Nat → Nat → Int32} {P : Option Value → zSt → Prop} (hR : RShape σ o) {x1 x2 x3 : Int32} {u4 : Option Value} :
    wp 141 105 [some (.ref o), some (.int x1), some (.int x2), some (.int x3), u4] [] (rOv σ o sc ar) P ↔ P none (rOv σ o sc ar) := by
  exact wp_retV (zcode_of mc_141 (r := (.return_, 0, 0, 0)) rfl) rfl
theorem mc_142 : mCode 142 = zc_142 := rfl
theorem b142 {σ : zSt} {o : Nat} {sc : Nat → Int32} {ar : Nat → Nat → Int32} {P : Option Value → zSt → Prop} (hR : RShape σ o) {x1 x2 : Int32} :
    wpM 142 [.ref o, .int x1, .int x2] (rOv σ o sc ar) P ↔ (zIn x2 (rlen 23) ∧ (if (ar 23 (Int32.toNatClampNeg x2)) = 0 then wp 142 56 [some (.ref o), some (.int x1), some (.int x2), none, none] [] (rOv σ o sc ar) P else wp 142 9 [some (.ref o), some (.int x1), some (.int x2), none, none] [] (rOv σ o sc ar) P)) := by
  show wp 142 0 [some (.ref o), some (.int x1), some (.int x2), none, none] [] (rOv σ o sc ar) P ↔ _
  refine (wp_s (n := 1) (zcode_of mc_142 (r := (.aload_n 0, 0, 0, 0)) rfl) rfl rfl).trans ?_
  refine (wr_getA (n' := 4) rfl (t := 23) hR (zcode_of mc_142 (r := (.getfield 20, 12, 3, 0)) rfl) rfl rfl).trans ?_
  refine (wp_s (n := 5) (zcode_of mc_142 (r := (.iload_n 2, 0, 0, 0)) rfl) rfl rfl).trans ?_
  refine (wr_ldZ (n' := 6) rfl hR (zcode_of mc_142 (r := (.baload, 0, 0, 0)) rfl) rfl rfl).trans (and_congr Iff.rfl ?_)
  exact wp_jump (off := 50) (t := 56) (zcode_of mc_142 (r := (.ifCond .eq 50, 0, 0, 0)) rfl) rfl rfl (by decide)
theorem b142_9 {σ : zSt} {o : Nat} {sc : Nat → Int32} {ar : Nat → Nat → Int32} {P : Option Value → zSt → Prop} (hR : RShape σ o) {x1 x2 : Int32} {u3 u4 : Option Value} :
    wp 142 9 [some (.ref o), some (.int x1), some (.int x2), u3, u4] [] (rOv σ o sc ar) P ↔ wpM 141 [.ref o, .int x1, .int x2] (rOv σ o sc ar) (fun r τ => wp 142 15 [some (.ref o), some (.int x1), some (.int x2), u3, u4] (r.toList ++ []) τ P) := by
  refine (wp_s (n := 10) (zcode_of mc_142 (r := (.aload_n 0, 0, 0, 0)) rfl) rfl rfl).trans ?_
  refine (wp_s (n := 11) (zcode_of mc_142 (r := (.iload_n 1, 0, 0, 0)) rfl) rfl rfl).trans ?_
  refine (wp_s (n := 12) (zcode_of mc_142 (r := (.iload_n 2, 0, 0, 0)) rfl) rfl rfl).trans ?_
  exact wp_call (q := ([.ref o, .int x1, .int x2], [])) (zcode_of mc_142 (r := (.invokevirtual 196, 141, 0, 2)) rfl) rfl (zCa_V (Nat.le_of_ble_eq_true rfl) rfl hR.tg) ⟨Nat.le_of_ble_eq_true rfl, Nat.le_of_ble_eq_true rfl⟩
theorem b142_15 {σ : zSt} {o : Nat} {sc : Nat → Int32} {ar : Nat → Nat → Int32} {P : Option Value → zSt → Prop} (hR : RShape σ o) {x1 x2 : Int32} {u3 u4 : Option Value} :
    wp 142 15 [some (.ref o), some (.int x1), some (.int x2), u3, u4] [] (rOv σ o sc ar) P ↔ wpM 139 [.ref o, .int (-2)] (rOv σ o sc ar) (fun r τ => wp 142 21 [some (.ref o), some (.int x1), some (.int x2), u3, u4] (r.toList ++ []) τ P) := by
  refine (wp_s (n := 16) (zcode_of mc_142 (r := (.aload_n 0, 0, 0, 0)) rfl) rfl rfl).trans ?_
  refine (wp_bp (n' := 18) rfl (zcode_of mc_142 (r := (.bipush (-2), 0, 0, 0)) rfl) cb_m2).trans ?_
  exact wp_call (q := ([.ref o, .int (-2)], [])) (zcode_of mc_142 (r := (.invokevirtual 190, 139, 0, 1)) rfl) rfl (zCa_V (Nat.le_of_ble_eq_true rfl) rfl hR.tg) ⟨Nat.le_of_ble_eq_true rfl, Nat.le_of_ble_eq_true rfl⟩
theorem b142_21 {σ : zSt} {o : Nat} {sc : Nat → Int32} {ar : Nat → Nat → Int32} {P : Option Value → zSt → Prop} (hR : RShape σ o) {x1 x2 : Int32} {u3 u4 : Option Value} :
    wp 142 21 [some (.ref o), some (.int x1), some (.int x2), u3, u4] [] (rOv σ o sc ar) P ↔ wpM 139 [.ref o, .int (sc 46)] (rOv σ o sc ar) (fun r τ => wp 142 29 [some (.ref o), some (.int x1), some (.int x2), u3, u4] (r.toList ++ []) τ P) := by
  refine (wp_s (n := 22) (zcode_of mc_142 (r := (.aload_n 0, 0, 0, 0)) rfl) rfl rfl).trans ?_
  refine (wp_s (n := 23) (zcode_of mc_142 (r := (.aload_n 0, 0, 0, 0)) rfl) rfl rfl).trans ?_
  refine (wr_getI (n' := 26) rfl hR (zcode_of mc_142 (r := (.getfield 193, 12, 46, 0)) rfl) rfl).trans ?_
  exact wp_call (q := ([.ref o, .int (sc 46)], [])) (zcode_of mc_142 (r := (.invokevirtual 190, 139, 0, 1)) rfl) rfl (zCa_V (Nat.le_of_ble_eq_true rfl) rfl hR.tg) ⟨Nat.le_of_ble_eq_true rfl, Nat.le_of_ble_eq_true rfl⟩
theorem b142_29 {σ : zSt} {o : Nat} {sc : Nat → Int32} {ar : Nat → Nat → Int32} {P : Option Value → zSt → Prop} (hR : RShape σ o) {x1 x2 : Int32} {u3 u4 : Option Value} :
    wp 142 29 [some (.ref o), some (.int x1), some (.int x2), u3, u4] [] (rOv σ o sc ar) P ↔ wp 142 31 [some (.ref o), some (.int x1), some (.int x2), some (.int 0), u4] [] (rOv σ o sc ar) P := by
  refine (wp_ic (n' := 30) rfl (zcode_of mc_142 (r := (.iconst 0, 0, 0, 0)) rfl) ci_0).trans ?_
  refine (wp_s (n := 31) (zcode_of mc_142 (r := (.istore_n 3, 0, 0, 0)) rfl) rfl rfl).trans ?_
  exact Iff.rfl
theorem b142_31 {σ : zSt} {o : Nat} {sc : Nat → Int32} {ar : Nat → Nat → Int32} {P : Option Value → zSt → Prop} (hR : RShape σ o) {x1 x2 x3 : Int32} {u4 : Option Value} :
    wp 142 31 [some (.ref o), some (.int x1), some (.int x2), some (.int x3), u4] [] (rOv σ o sc ar) P ↔ (if (sc 46) ≤ x3 then wp 142 55 [some (.ref o), some (.int x1), some (.int x2), some (.int x3), u4] [] (rOv σ o sc ar) P else wp 142 39 [some (.ref o), some (.int x1), some (.int x2), some (.int x3), u4] [] (rOv σ o sc ar) P) := by
  refine (wp_s (n := 32) (zcode_of mc_142 (r := (.iload_n 3, 0, 0, 0)) rfl) rfl rfl).trans ?_
  refine (wp_s (n := 33) (zcode_of mc_142 (r := (.aload_n 0, 0, 0, 0)) rfl) rfl rfl).trans ?_
  refine (wr_getI (n' := 36) rfl hR (zcode_of mc_142 (r := (.getfield 193, 12, 46, 0)) rfl) rfl).trans ?_
  exact wp_jump (off := 19) (t := 55) (zcode_of mc_142 (r := (.if_icmp .ge 19, 0, 0, 0)) rfl) rfl rfl (by decide)
theorem b142_39 {σ : zSt} {o : Nat} {sc : Nat → Int32} {ar : Nat → Nat → Int32} {P : Option Value → zSt → Prop} (hR : RShape σ o) {x1 x2 x3 : Int32} {u4 : Option Value} :
    wp 142 39 [some (.ref o), some (.int x1), some (.int x2), some (.int x3), u4] [] (rOv σ o sc ar) P ↔ (zIn x3 (rlen 65) ∧ wpM 139 [.ref o, .int (ar 65 (Int32.toNatClampNeg x3))] (rOv σ o sc ar) (fun r τ => wp 142 49 [some (.ref o), some (.int x1), some (.int x2), some (.int x3), u4] (r.toList ++ []) τ P)) := by
  refine (wp_s (n := 40) (zcode_of mc_142 (r := (.aload_n 0, 0, 0, 0)) rfl) rfl rfl).trans ?_
  refine (wp_s (n := 41) (zcode_of mc_142 (r := (.aload_n 0, 0, 0, 0)) rfl) rfl rfl).trans ?_
  refine (wr_getA (n' := 44) rfl (t := 65) hR (zcode_of mc_142 (r := (.getfield 122, 12, 45, 0)) rfl) rfl rfl).trans ?_
  refine (wp_s (n := 45) (zcode_of mc_142 (r := (.iload_n 3, 0, 0, 0)) rfl) rfl rfl).trans ?_
  refine (wr_ld (n' := 46) rfl hR (zcode_of mc_142 (r := (.iaload, 0, 0, 0)) rfl) rfl rfl).trans (and_congr Iff.rfl ?_)
  exact wp_call (q := ([.ref o, .int (ar 65 (Int32.toNatClampNeg x3))], [])) (zcode_of mc_142 (r := (.invokevirtual 190, 139, 0, 1)) rfl) rfl (zCa_V (Nat.le_of_ble_eq_true rfl) rfl hR.tg) ⟨Nat.le_of_ble_eq_true rfl, Nat.le_of_ble_eq_true rfl⟩
theorem b142_49 {σ : zSt} {o : Nat} {sc : Nat → Int32} {ar : Nat → Nat → Int32} {P : Option Value → zSt → Prop} (hR : RShape σ o) {x1 x2 x3 : Int32} {u4 : Option Value} :
    wp 142 49 [some (.ref o), some (.int x1), some (.int x2), some (.int x3), u4] [] (rOv σ o sc ar) P ↔ wp 142 31 [some (.ref o), some (.int x1), some (.int x2), some (.int (x3 + 1)), u4] [] (rOv σ o sc ar) P := by
  refine (wp_inc (n' := 52) rfl (zcode_of mc_142 (r := (.iinc 3 1, 0, 0, 0)) rfl) rfl rfl ci_1).trans ?_
  exact wp_goto (off := (-21)) (t := 31) (zcode_of mc_142 (r := (.goto (-21), 0, 0, 0)) rfl) (by decide)
theorem b142_55 {σ : zSt} {o : Nat} {sc : Nat → Int32} {ar : Nat → Nat → Int32} {P : Option Value → zSt → Prop} (hR : RShape σ o) {x1 x2 x3 : Int32} {u4 : Option Value} :
    wp 142 55 [some (.ref o), some (.int x1), some (.int x2), some (.int x3), u4] [] (rOv σ o sc ar) P ↔ P none (rOv σ o sc ar) := by
  exact wp_retV (zcode_of mc_142 (r := (.return_, 0, 0, 0)) rfl) rfl
theorem b142_56 {σ : zSt} {o : Nat} {sc : Nat → Int32} {ar : Nat → Nat → Int32} {P : Option Value → zSt → Prop} (hR : RShape σ o) {x1 x2 : Int32} {u3 u4 : Option Value} :
    wp 142 56 [some (.ref o), some (.int x1), some (.int x2), u3, u4] [] (rOv σ o sc ar) P ↔ (zIn ((60 * x1) + x2) (rlen 25) ∧ wpM 139 [.ref o, .int (ar 25 (Int32.toNatClampNeg ((60 * x1) + x2)))] (rOv σ o sc ar) (fun r τ => wp 142 73 [some (.ref o), some (.int x1), some (.int x2), some (.int ((60 * x1) + x2)), u4] (r.toList ++ []) τ P)) := by
  refine (wp_bp (n' := 58) rfl (zcode_of mc_142 (r := (.bipush 60, 0, 0, 0)) rfl) cb_60).trans ?_
  refine (wp_s (n := 59) (zcode_of mc_142 (r := (.iload_n 1, 0, 0, 0)) rfl) rfl rfl).trans ?_
  refine (wp_s (n := 60) (zcode_of mc_142 (r := (.imul, 0, 0, 0)) rfl) rfl rfl).trans ?_
  refine (wp_s (n := 61) (zcode_of mc_142 (r := (.iload_n 2, 0, 0, 0)) rfl) rfl rfl).trans ?_
  refine (wp_s (n := 62) (zcode_of mc_142 (r := (.iadd, 0, 0, 0)) rfl) rfl rfl).trans ?_
  refine (wp_s (n := 63) (zcode_of mc_142 (r := (.istore_n 3, 0, 0, 0)) rfl) rfl rfl).trans ?_
  refine (wp_s (n := 64) (zcode_of mc_142 (r := (.aload_n 0, 0, 0, 0)) rfl) rfl rfl).trans ?_
  refine (wp_s (n := 65) (zcode_of mc_142 (r := (.aload_n 0, 0, 0, 0)) rfl) rfl rfl).trans ?_
  refine (wr_getA (n' := 68) rfl (t := 25) hR (zcode_of mc_142 (r := (.getfield 27, 12, 5, 0)) rfl) rfl rfl).trans ?_
  refine (wp_s (n := 69) (zcode_of mc_142 (r := (.iload_n 3, 0, 0, 0)) rfl) rfl rfl).trans ?_
  refine (wr_ld (n' := 70) rfl hR (zcode_of mc_142 (r := (.iaload, 0, 0, 0)) rfl) rfl rfl).trans (and_congr Iff.rfl ?_)
  exact wp_call (q := ([.ref o, .int (ar 25 (Int32.toNatClampNeg ((60 * x1) + x2)))], [])) (zcode_of mc_142 (r := (.invokevirtual 190, 139, 0, 1)) rfl) rfl (zCa_V (Nat.le_of_ble_eq_true rfl) rfl hR.tg) ⟨Nat.le_of_ble_eq_true rfl, Nat.le_of_ble_eq_true rfl⟩
theorem b142_73 {σ : zSt} {o : Nat} {sc : Nat → Int32} {ar : Nat → Nat → Int32} {P : Option Value → zSt → Prop} (hR : RShape σ o) {x1 x2 x3 : Int32} {u4 : Option Value} :
    wp 142 73 [some (.ref o), some (.int x1), some (.int x2), some (.int x3), u4] [] (rOv σ o sc ar) P ↔ wp 142 76 [some (.ref o), some (.int x1), some (.int x2), some (.int x3), some (.int 0)] [] (rOv σ o sc ar) P := by
  refine (wp_ic (n' := 74) rfl (zcode_of mc_142 (r := (.iconst 0, 0, 0, 0)) rfl) ci_0).trans ?_
  refine (wp_s (n := 76) (zcode_of mc_142 (r := (.istore 4, 0, 0, 0)) rfl) rfl rfl).trans ?_
  exact Iff.rfl
theorem b142_76 {σ : zSt} {o : Nat} {sc : Nat → Int32} {ar : Nat → Nat → Int32} {P : Option Value → zSt → Prop} (hR : RShape σ o) {x1 x2 x3 x4 : Int32} :
    wp 142 76 [some (.ref o), some (.int x1), some (.int x2), some (.int x3), some (.int x4)] [] (rOv σ o sc ar) P ↔ (zIn x3 (rlen 25) ∧ (if (ar 25 (Int32.toNatClampNeg x3)) ≤ x4 then wp 142 109 [some (.ref o), some (.int x1), some (.int x2), some (.int x3), some (.int x4)] [] (rOv σ o sc ar) P else wp 142 87 [some (.ref o), some (.int x1), some (.int x2), some (.int x3), some (.int x4)] [] (rOv σ o sc ar) P)) := by
  refine (wp_s (n := 78) (zcode_of mc_142 (r := (.iload 4, 0, 0, 0)) rfl) rfl rfl).trans ?_
  refine (wp_s (n := 79) (zcode_of mc_142 (r := (.aload_n 0, 0, 0, 0)) rfl) rfl rfl).trans ?_
  refine (wr_getA (n' := 82) rfl (t := 25) hR (zcode_of mc_142 (r := (.getfield 27, 12, 5, 0)) rfl) rfl rfl).trans ?_
  refine (wp_s (n := 83) (zcode_of mc_142 (r := (.iload_n 3, 0, 0, 0)) rfl) rfl rfl).trans ?_
  refine (wr_ld (n' := 84) rfl hR (zcode_of mc_142 (r := (.iaload, 0, 0, 0)) rfl) rfl rfl).trans (and_congr Iff.rfl ?_)
  exact wp_jump (off := 25) (t := 109) (zcode_of mc_142 (r := (.if_icmp .ge 25, 0, 0, 0)) rfl) rfl rfl (by decide)
theorem b142_87 {σ : zSt} {o : Nat} {sc : Nat → Int32} {ar : Nat → Nat → Int32} {P : Option Value → zSt → Prop} (hR : RShape σ o) {x1 x2 x3 x4 : Int32} :
    wp 142 87 [some (.ref o), some (.int x1), some (.int x2), some (.int x3), some (.int x4)] [] (rOv σ o sc ar) P ↔ (zIn ((64 * x3) + x4) (rlen 26) ∧ wpM 139 [.ref o, .int (ar 26 (Int32.toNatClampNeg ((64 * x3) + x4)))] (rOv σ o sc ar) (fun r τ => wp 142 103 [some (.ref o), some (.int x1), some (.int x2), some (.int x3), some (.int x4)] (r.toList ++ []) τ P)) := by
  refine (wp_s (n := 88) (zcode_of mc_142 (r := (.aload_n 0, 0, 0, 0)) rfl) rfl rfl).trans ?_
  refine (wp_s (n := 89) (zcode_of mc_142 (r := (.aload_n 0, 0, 0, 0)) rfl) rfl rfl).trans ?_
  refine (wr_getA (n' := 92) rfl (t := 26) hR (zcode_of mc_142 (r := (.getfield 30, 12, 6, 0)) rfl) rfl rfl).trans ?_
  refine (wp_bp (n' := 94) rfl (zcode_of mc_142 (r := (.bipush 64, 0, 0, 0)) rfl) cb_64).trans ?_
  refine (wp_s (n := 95) (zcode_of mc_142 (r := (.iload_n 3, 0, 0, 0)) rfl) rfl rfl).trans ?_
  refine (wp_s (n := 96) (zcode_of mc_142 (r := (.imul, 0, 0, 0)) rfl) rfl rfl).trans ?_
  refine (wp_s (n := 98) (zcode_of mc_142 (r := (.iload 4, 0, 0, 0)) rfl) rfl rfl).trans ?_
  refine (wp_s (n := 99) (zcode_of mc_142 (r := (.iadd, 0, 0, 0)) rfl) rfl rfl).trans ?_
  refine (wr_ld (n' := 100) rfl hR (zcode_of mc_142 (r := (.iaload, 0, 0, 0)) rfl) rfl rfl).trans (and_congr Iff.rfl ?_)
  exact wp_call (q := ([.ref o, .int (ar 26 (Int32.toNatClampNeg ((64 * x3) + x4)))], [])) (zcode_of mc_142 (r := (.invokevirtual 190, 139, 0, 1)) rfl) rfl (zCa_V (Nat.le_of_ble_eq_true rfl) rfl hR.tg) ⟨Nat.le_of_ble_eq_true rfl, Nat.le_of_ble_eq_true rfl⟩
theorem b142_103 {σ : zSt} {o : Nat} {sc : Nat → Int32} {ar : Nat → Nat → Int32} {P : Option Value → zSt → Prop} (hR : RShape σ o) {x1 x2 x3 x4 : Int32} :
    wp 142 103 [some (.ref o), some (.int x1), some (.int x2), some (.int x3), some (.int x4)] [] (rOv σ o sc ar) P ↔ wp 142 76 [some (.ref o), some (.int x1), some (.int x2), some (.int x3), some (.int (x4 + 1))] [] (rOv σ o sc ar) P := by
  refine (wp_inc (n' := 106) rfl (zcode_of mc_142 (r := (.iinc 4 1, 0, 0, 0)) rfl) rfl rfl ci_1).trans ?_
  exact wp_goto (off := (-30)) (t := 76) (zcode_of mc_142 (r := (.goto (-30), 0, 0, 0)) rfl) (by decide)
theorem b142_109 {σ : zSt} {o : Nat} {sc : Nat → Int32} {ar : Nat → Nat → Int32} {P : Option Value → zSt → Prop} (hR : RShape σ o) {x1 x2 x3 x4 : Int32} :
    wp 142 109 [some (.ref o), some (.int x1), some (.int x2), some (.int x3), some (.int x4)] [] (rOv σ o sc ar) P ↔ P none (rOv σ o sc ar) := by
  exact wp_retV (zcode_of mc_142 (r := (.return_, 0, 0, 0)) rfl) rfl
theorem mc_143 : mCode 143 = zc_143 := rfl
theorem b143 {σ : zSt} {o : Nat} {sc : Nat → Int32} {ar : Nat → Nat → Int32} {P : Option Value → zSt → Prop} (hR : RShape σ o) {x1 x2 : Int32} :
    wpM 143 [.ref o, .int x1, .int x2] (rOv σ o sc ar) P ↔ wpM 140 [.ref o, .int x2] (rOv σ o (upS sc 43 0) ar) (fun r τ => wp 143 10 [some (.ref o), some (.int x1), some (.int x2), none] (r.toList ++ []) τ P) := by
  show wp 143 0 [some (.ref o), some (.int x1), some (.int x2), none] [] (rOv σ o sc ar) P ↔ _
  refine (wp_s (n := 1) (zcode_of mc_143 (r := (.aload_n 0, 0, 0, 0)) rfl) rfl rfl).trans ?_
  refine (wp_ic (n' := 2) rfl (zcode_of mc_143 (r := (.iconst 0, 0, 0, 0)) rfl) ci_0).trans ?_
  refine (wr_put (n' := 5) rfl hR (zcode_of mc_143 (r := (.putfield 187, 12, 43, 0)) rfl) rfl).trans ?_
  refine (wp_s (n := 6) (zcode_of mc_143 (r := (.aload_n 0, 0, 0, 0)) rfl) rfl rfl).trans ?_
  refine (wp_s (n := 7) (zcode_of mc_143 (r := (.iload_n 2, 0, 0, 0)) rfl) rfl rfl).trans ?_
  exact wp_call (q := ([.ref o, .int x2], [])) (zcode_of mc_143 (r := (.invokevirtual 200, 140, 0, 1)) rfl) rfl (zCa_V (Nat.le_of_ble_eq_true rfl) rfl hR.tg) ⟨Nat.le_of_ble_eq_true rfl, Nat.le_of_ble_eq_true rfl⟩
theorem b143_10 {σ : zSt} {o : Nat} {sc : Nat → Int32} {ar : Nat → Nat → Int32} {P : Option Value → zSt → Prop} (hR : RShape σ o) {x1 x2 : Int32} {u3 : Option Value} :
    wp 143 10 [some (.ref o), some (.int x1), some (.int x2), u3] [] (rOv σ o sc ar) P ↔ (zIn 0 (rlen 64) ∧ wp 143 22 [some (.ref o), some (.int x1), some (.int x2), some (.int 0)] [] (rOv σ o sc (upA ar 64 (Int32.toNatClampNeg 0) (sc 43))) P) := by
  refine (wp_s (n := 11) (zcode_of mc_143 (r := (.aload_n 0, 0, 0, 0)) rfl) rfl rfl).trans ?_
  refine (wr_getA (n' := 14) rfl (t := 64) hR (zcode_of mc_143 (r := (.getfield 119, 12, 44, 0)) rfl) rfl rfl).trans ?_
  refine (wp_ic (n' := 15) rfl (zcode_of mc_143 (r := (.iconst 0, 0, 0, 0)) rfl) ci_0).trans ?_
  refine (wp_s (n := 16) (zcode_of mc_143 (r := (.aload_n 0, 0, 0, 0)) rfl) rfl rfl).trans ?_
  refine (wr_getI (n' := 19) rfl hR (zcode_of mc_143 (r := (.getfield 187, 12, 43, 0)) rfl) rfl).trans ?_
  refine (wr_st (n' := 20) rfl hR (zcode_of mc_143 (r := (.iastore, 0, 0, 0)) rfl) rfl rfl).trans (and_congr Iff.rfl ?_)
  refine (wp_ic (n' := 21) rfl (zcode_of mc_143 (r := (.iconst 0, 0, 0, 0)) rfl) ci_0).trans ?_
  refine (wp_s (n := 22) (zcode_of mc_143 (r := (.istore_n 3, 0, 0, 0)) rfl) rfl rfl).trans ?_
  exact Iff.rfl
theorem b143_22 {σ : zSt} {o : Nat} {sc : Nat → Int32} {ar : Nat → Nat → Int32} {P : Option Value → zSt → Prop} (hR : RShape σ o) {x1 x2 x3 : Int32} :
    wp 143 22 [some (.ref o), some (.int x1), some (.int x2), some (.int x3)] [] (rOv σ o sc ar) P ↔ (zIn x2 (rlen 31) ∧ (if (ar 31 (Int32.toNatClampNeg x2)) ≤ x3 then wp 143 66 [some (.ref o), some (.int x1), some (.int x2), some (.int x3)] [] (rOv σ o sc ar) P else wp 143 32 [some (.ref o), some (.int x1), some (.int x2), some (.int x3)] [] (rOv σ o sc ar) P)) := by
  refine (wp_s (n := 23) (zcode_of mc_143 (r := (.iload_n 3, 0, 0, 0)) rfl) rfl rfl).trans ?_
  refine (wp_s (n := 24) (zcode_of mc_143 (r := (.aload_n 0, 0, 0, 0)) rfl) rfl rfl).trans ?_
  refine (wr_getA (n' := 27) rfl (t := 31) hR (zcode_of mc_143 (r := (.getfield 39, 12, 11, 0)) rfl) rfl rfl).trans ?_
  refine (wp_s (n := 28) (zcode_of mc_143 (r := (.iload_n 2, 0, 0, 0)) rfl) rfl rfl).trans ?_
  refine (wr_ld (n' := 29) rfl hR (zcode_of mc_143 (r := (.iaload, 0, 0, 0)) rfl) rfl rfl).trans (and_congr Iff.rfl ?_)
  exact wp_jump (off := 37) (t := 66) (zcode_of mc_143 (r := (.if_icmp .ge 37, 0, 0, 0)) rfl) rfl rfl (by decide)
theorem b143_32 {σ : zSt} {o : Nat} {sc : Nat → Int32} {ar : Nat → Nat → Int32} {P : Option Value → zSt → Prop} (hR : RShape σ o) {x1 x2 x3 : Int32} :
    wp 143 32 [some (.ref o), some (.int x1), some (.int x2), some (.int x3)] [] (rOv σ o sc ar) P ↔ (zIn ((6 * x2) + x3) (rlen 30) ∧ wpM 142 [.ref o, .int x1, .int (ar 30 (Int32.toNatClampNeg ((6 * x2) + x3)))] (rOv σ o sc ar) (fun r τ => wp 143 48 [some (.ref o), some (.int x1), some (.int x2), some (.int x3)] (r.toList ++ []) τ P)) := by
  refine (wp_s (n := 33) (zcode_of mc_143 (r := (.aload_n 0, 0, 0, 0)) rfl) rfl rfl).trans ?_
  refine (wp_s (n := 34) (zcode_of mc_143 (r := (.iload_n 1, 0, 0, 0)) rfl) rfl rfl).trans ?_
  refine (wp_s (n := 35) (zcode_of mc_143 (r := (.aload_n 0, 0, 0, 0)) rfl) rfl rfl).trans ?_
  refine (wr_getA (n' := 38) rfl (t := 30) hR (zcode_of mc_143 (r := (.getfield 36, 12, 10, 0)) rfl) rfl rfl).trans ?_
  refine (wp_bp (n' := 40) rfl (zcode_of mc_143 (r := (.bipush 6, 0, 0, 0)) rfl) cb_6).trans ?_
  refine (wp_s (n := 41) (zcode_of mc_143 (r := (.iload_n 2, 0, 0, 0)) rfl) rfl rfl).trans ?_
  refine (wp_s (n := 42) (zcode_of mc_143 (r := (.imul, 0, 0, 0)) rfl) rfl rfl).trans ?_
  refine (wp_s (n := 43) (zcode_of mc_143 (r := (.iload_n 3, 0, 0, 0)) rfl) rfl rfl).trans ?_
  refine (wp_s (n := 44) (zcode_of mc_143 (r := (.iadd, 0, 0, 0)) rfl) rfl rfl).trans ?_
  refine (wr_ld (n' := 45) rfl hR (zcode_of mc_143 (r := (.iaload, 0, 0, 0)) rfl) rfl rfl).trans (and_congr Iff.rfl ?_)
  exact wp_call (q := ([.ref o, .int x1, .int (ar 30 (Int32.toNatClampNeg ((6 * x2) + x3)))], [])) (zcode_of mc_143 (r := (.invokevirtual 203, 142, 0, 2)) rfl) rfl (zCa_V (Nat.le_of_ble_eq_true rfl) rfl hR.tg) ⟨Nat.le_of_ble_eq_true rfl, Nat.le_of_ble_eq_true rfl⟩
theorem b143_48 {σ : zSt} {o : Nat} {sc : Nat → Int32} {ar : Nat → Nat → Int32} {P : Option Value → zSt → Prop} (hR : RShape σ o) {x1 x2 x3 : Int32} :
    wp 143 48 [some (.ref o), some (.int x1), some (.int x2), some (.int x3)] [] (rOv σ o sc ar) P ↔ (zIn (x3 + 1) (rlen 64) ∧ wp 143 22 [some (.ref o), some (.int x1), some (.int x2), some (.int (x3 + 1))] [] (rOv σ o sc (upA ar 64 (Int32.toNatClampNeg (x3 + 1)) (sc 43))) P) := by
  refine (wp_s (n := 49) (zcode_of mc_143 (r := (.aload_n 0, 0, 0, 0)) rfl) rfl rfl).trans ?_
  refine (wr_getA (n' := 52) rfl (t := 64) hR (zcode_of mc_143 (r := (.getfield 119, 12, 44, 0)) rfl) rfl rfl).trans ?_
  refine (wp_s (n := 53) (zcode_of mc_143 (r := (.iload_n 3, 0, 0, 0)) rfl) rfl rfl).trans ?_
  refine (wp_ic (n' := 54) rfl (zcode_of mc_143 (r := (.iconst 1, 0, 0, 0)) rfl) ci_1).trans ?_
  refine (wp_s (n := 55) (zcode_of mc_143 (r := (.iadd, 0, 0, 0)) rfl) rfl rfl).trans ?_
  refine (wp_s (n := 56) (zcode_of mc_143 (r := (.aload_n 0, 0, 0, 0)) rfl) rfl rfl).trans ?_
  refine (wr_getI (n' := 59) rfl hR (zcode_of mc_143 (r := (.getfield 187, 12, 43, 0)) rfl) rfl).trans ?_
  refine (wr_st (n' := 60) rfl hR (zcode_of mc_143 (r := (.iastore, 0, 0, 0)) rfl) rfl rfl).trans (and_congr Iff.rfl ?_)
  refine (wp_inc (n' := 63) rfl (zcode_of mc_143 (r := (.iinc 3 1, 0, 0, 0)) rfl) rfl rfl ci_1).trans ?_
  exact wp_goto (off := (-41)) (t := 22) (zcode_of mc_143 (r := (.goto (-41), 0, 0, 0)) rfl) (by decide)
theorem b143_66 {σ : zSt} {o : Nat} {sc : Nat → Int32} {ar : Nat → Nat → Int32} {P : Option Value → zSt → Prop} (hR : RShape σ o) {x1 x2 x3 : Int32} :
    wp 143 66 [some (.ref o), some (.int x1), some (.int x2), some (.int x3)] [] (rOv σ o sc ar) P ↔ P none (rOv σ o sc ar) := by
  exact wp_retV (zcode_of mc_143 (r := (.return_, 0, 0, 0)) rfl) rfl
theorem mc_144 : mCode 144 = zc_144 := rfl
theorem b144 {σ : zSt} {o : Nat} {sc : Nat → Int32} {ar : Nat → Nat → Int32} {P : Option Value → zSt → Prop} (hR : RShape σ o) {t0 : Nat} {x1 x2 : Int32} (ht0 : rOk t0 = true) (hs0 : siteTy t0 = .int) :
    wpM 144 [.ref (rad o t0), .int x1, .int x2] (rOv σ o sc ar) P ↔ wp 144 7 [some (.ref (rad o t0)), some (.int x1), some (.int x2), some (.long 1469598103934665603), none, some (.int x1)] [] (rOv σ o sc ar) P := by
  show wp 144 0 [some (.ref (rad o t0)), some (.int x1), some (.int x2), none, none, none] [] (rOv σ o sc ar) P ↔ _
  refine (wp_ldc2 (n' := 3) rfl (zcode_of mc_144 (r := (.ldc2_w 206, 0, 0, 1469598103934665603)) rfl) cl_1469598103934665603).trans ?_
  refine (wp_s (n := 4) (zcode_of mc_144 (r := (.lstore_n 3, 0, 0, 0)) rfl) rfl rfl).trans ?_
  refine (wp_s (n := 5) (zcode_of mc_144 (r := (.iload_n 1, 0, 0, 0)) rfl) rfl rfl).trans ?_
  refine (wp_s (n := 7) (zcode_of mc_144 (r := (.istore 5, 0, 0, 0)) rfl) rfl rfl).trans ?_
  exact Iff.rfl
theorem b144_7 {σ : zSt} {o : Nat} {sc : Nat → Int32} {ar : Nat → Nat → Int32} {P : Option Value → zSt → Prop} (hR : RShape σ o) {t0 : Nat} {x1 x2 x5 : Int32} {x3 : Int64} (ht0 : rOk t0 = true) (hs0 : siteTy t0 = .int) :
    wp 144 7 [some (.ref (rad o t0)), some (.int x1), some (.int x2), some (.long x3), none, some (.int x5)] [] (rOv σ o sc ar) P ↔ (if (x1 + x2) ≤ x5 then wp 144 33 [some (.ref (rad o t0)), some (.int x1), some (.int x2), some (.long x3), none, some (.int x5)] [] (rOv σ o sc ar) P else wp 144 15 [some (.ref (rad o t0)), some (.int x1), some (.int x2), some (.long x3), none, some (.int x5)] [] (rOv σ o sc ar) P) := by
  refine (wp_s (n := 9) (zcode_of mc_144 (r := (.iload 5, 0, 0, 0)) rfl) rfl rfl).trans ?_
  refine (wp_s (n := 10) (zcode_of mc_144 (r := (.iload_n 1, 0, 0, 0)) rfl) rfl rfl).trans ?_
  refine (wp_s (n := 11) (zcode_of mc_144 (r := (.iload_n 2, 0, 0, 0)) rfl) rfl rfl).trans ?_
  refine (wp_s (n := 12) (zcode_of mc_144 (r := (.iadd, 0, 0, 0)) rfl) rfl rfl).trans ?_
  exact wp_jump (off := 21) (t := 33) (zcode_of mc_144 (r := (.if_icmp .ge 21, 0, 0, 0)) rfl) rfl rfl (by decide)
theorem b144_15 {σ : zSt} {o : Nat} {sc : Nat → Int32} {ar : Nat → Nat → Int32} {P : Option Value → zSt → Prop} (hR : RShape σ o) {t0 : Nat} {x1 x2 x5 : Int32} {x3 : Int64} (ht0 : rOk t0 = true) (hs0 : siteTy t0 = .int) :
    wp 144 15 [some (.ref (rad o t0)), some (.int x1), some (.int x2), some (.long x3), none, some (.int x5)] [] (rOv σ o sc ar) P ↔ (zIn x5 (rlen t0) ∧ wp 144 7 [some (.ref (rad o t0)), some (.int x1), some (.int x2), some (.long ((x3 ^^^ (Int32.toInt64 (ar t0 (Int32.toNatClampNeg x5)))) * 1099511628211)), none, some (.int (x5 + 1))] [] (rOv σ o sc ar) P) := by
  refine (wp_s (n := 16) (zcode_of mc_144 (r := (.lload_n 3, 0, 0, 0)) rfl) rfl rfl).trans ?_
  refine (wp_s (n := 17) (zcode_of mc_144 (r := (.aload_n 0, 0, 0, 0)) rfl) rfl rfl).trans ?_
  refine (wp_s (n := 19) (zcode_of mc_144 (r := (.iload 5, 0, 0, 0)) rfl) rfl rfl).trans ?_
  refine (wr_ld (n' := 20) rfl hR (zcode_of mc_144 (r := (.iaload, 0, 0, 0)) rfl) ht0 hs0).trans (and_congr Iff.rfl ?_)
  refine (wp_s (n := 21) (zcode_of mc_144 (r := (.i2l, 0, 0, 0)) rfl) rfl rfl).trans ?_
  refine (wp_s (n := 22) (zcode_of mc_144 (r := (.lxor, 0, 0, 0)) rfl) rfl rfl).trans ?_
  refine (wp_ldc2 (n' := 25) rfl (zcode_of mc_144 (r := (.ldc2_w 208, 0, 0, 1099511628211)) rfl) cl_1099511628211).trans ?_
  refine (wp_s (n := 26) (zcode_of mc_144 (r := (.lmul, 0, 0, 0)) rfl) rfl rfl).trans ?_
  refine (wp_s (n := 27) (zcode_of mc_144 (r := (.lstore_n 3, 0, 0, 0)) rfl) rfl rfl).trans ?_
  refine (wp_inc (n' := 30) rfl (zcode_of mc_144 (r := (.iinc 5 1, 0, 0, 0)) rfl) rfl rfl ci_1).trans ?_
  exact wp_goto (off := (-23)) (t := 7) (zcode_of mc_144 (r := (.goto (-23), 0, 0, 0)) rfl) (by decide)
theorem b144_33 {σ : zSt} {o : Nat} {sc : Nat → Int32} {ar : Nat → Nat → Int32} {P : Option Value → zSt → Prop} (hR : RShape σ o) {t0 : Nat} {x1 x2 x5 : Int32} {x3 : Int64} (ht0 : rOk t0 = true) (hs0 : siteTy t0 = .int) :
    wp 144 33 [some (.ref (rad o t0)), some (.int x1), some (.int x2), some (.long x3), none, some (.int x5)] [] (rOv σ o sc ar) P ↔ P (some (.long x3)) (rOv σ o sc ar) := by
  refine (wp_s (n := 34) (zcode_of mc_144 (r := (.lload_n 3, 0, 0, 0)) rfl) rfl rfl).trans ?_
  exact wp_retL (zcode_of mc_144 (r := (.lreturn, 0, 0, 0)) rfl) rfl
theorem mc_145 : mCode 145 = zc_145 := rfl
theorem b145 {σ : zSt} {o : Nat} {sc : Nat → Int32} {ar : Nat → Nat → Int32} {P : Option Value → zSt → Prop} (hR : RShape σ o) {x1 x2 : Int32} :
    wpM 145 [.ref o, .int x1, .int x2] (rOv σ o sc ar) P ↔ wpM 113 [.int x1, .int 0, .int 1] (rOv σ o sc ar) (fun r τ => wp 145 6 [some (.ref o), some (.int x1), some (.int x2)] (r.toList ++ []) τ P) := by
  show wp 145 0 [some (.ref o), some (.int x1), some (.int x2)] [] (rOv σ o sc ar) P ↔ _
  refine (wp_s (n := 1) (zcode_of mc_145 (r := (.iload_n 1, 0, 0, 0)) rfl) rfl rfl).trans ?_
  refine (wp_ic (n' := 2) rfl (zcode_of mc_145 (r := (.iconst 0, 0, 0, 0)) rfl) ci_0).trans ?_
  refine (wp_ic (n' := 3) rfl (zcode_of mc_145 (r := (.iconst 1, 0, 0, 0)) rfl) ci_1).trans ?_
  exact wp_call (q := ([.int x1, .int 0, .int 1], [])) (zcode_of mc_145 (r := (.invokestatic 140, 113, 1, 3)) rfl) rfl rfl ⟨Nat.le_of_ble_eq_true rfl, Nat.le_of_ble_eq_true rfl⟩
theorem b145_6 {σ : zSt} {o : Nat} {sc : Nat → Int32} {ar : Nat → Nat → Int32} {P : Option Value → zSt → Prop} (hR : RShape σ o) {x1 x2 s0 : Int32} :
    wp 145 6 [some (.ref o), some (.int x1), some (.int x2)] [.int s0] (rOv σ o sc ar) P ↔ (if s0 = 0 then wp 145 17 [some (.ref o), some (.int x1), some (.int x2)] [] (rOv σ o sc ar) P else wp 145 9 [some (.ref o), some (.int x1), some (.int x2)] [] (rOv σ o sc ar) P) := by
  exact wp_jump (off := 11) (t := 17) (zcode_of mc_145 (r := (.ifCond .eq 11, 0, 0, 0)) rfl) rfl rfl (by decide)
theorem b145_9 {σ : zSt} {o : Nat} {sc : Nat → Int32} {ar : Nat → Nat → Int32} {P : Option Value → zSt → Prop} (hR : RShape σ o) {x1 x2 : Int32} :
    wp 145 9 [some (.ref o), some (.int x1), some (.int x2)] [] (rOv σ o sc ar) P ↔ wpM 115 [.ref o, .int x2] (rOv σ o sc ar) (fun r τ => wp 145 14 [some (.ref o), some (.int x1), some (.int x2)] (r.toList ++ []) τ P) := by
  refine (wp_s (n := 10) (zcode_of mc_145 (r := (.aload_n 0, 0, 0, 0)) rfl) rfl rfl).trans ?_
  refine (wp_s (n := 11) (zcode_of mc_145 (r := (.iload_n 2, 0, 0, 0)) rfl) rfl rfl).trans ?_
  exact wp_call (q := ([.ref o, .int x2], [])) (zcode_of mc_145 (r := (.invokevirtual 177, 115, 0, 1)) rfl) rfl (zCa_V (Nat.le_of_ble_eq_true rfl) rfl hR.tg) ⟨Nat.le_of_ble_eq_true rfl, Nat.le_of_ble_eq_true rfl⟩
theorem b145_14 {σ : zSt} {o : Nat} {sc : Nat → Int32} {ar : Nat → Nat → Int32} {P : Option Value → zSt → Prop} (hR : RShape σ o) {x1 x2 s0 : Int32} :
    wp 145 14 [some (.ref o), some (.int x1), some (.int x2)] [.int s0] (rOv σ o sc ar) P ↔ (if ¬ s0 = 0 then wp 145 19 [some (.ref o), some (.int x1), some (.int x2)] [] (rOv σ o sc ar) P else wp 145 17 [some (.ref o), some (.int x1), some (.int x2)] [] (rOv σ o sc ar) P) := by
  exact wp_jump (off := 5) (t := 19) (zcode_of mc_145 (r := (.ifCond .ne 5, 0, 0, 0)) rfl) rfl rfl (by decide)
theorem b145_17 {σ : zSt} {o : Nat} {sc : Nat → Int32} {ar : Nat → Nat → Int32} {P : Option Value → zSt → Prop} (hR : RShape σ o) {x1 x2 : Int32} :
    wp 145 17 [some (.ref o), some (.int x1), some (.int x2)] [] (rOv σ o sc ar) P ↔ P (some (.long 0)) (rOv σ o sc ar) := by
  refine (wp_lc (n' := 18) rfl (zcode_of mc_145 (r := (.lconst 0, 0, 0, 0)) rfl) cc_0).trans ?_
  exact wp_retL (zcode_of mc_145 (r := (.lreturn, 0, 0, 0)) rfl) rfl
theorem b145_19 {σ : zSt} {o : Nat} {sc : Nat → Int32} {ar : Nat → Nat → Int32} {P : Option Value → zSt → Prop} (hR : RShape σ o) {x1 x2 : Int32} :
    wp 145 19 [some (.ref o), some (.int x1), some (.int x2)] [] (rOv σ o sc ar) P ↔ wpM 143 [.ref o, .int x1, .int x2] (rOv σ o sc ar) (fun r τ => wp 145 25 [some (.ref o), some (.int x1), some (.int x2)] (r.toList ++ []) τ P) := by
  refine (wp_s (n := 20) (zcode_of mc_145 (r := (.aload_n 0, 0, 0, 0)) rfl) rfl rfl).trans ?_
  refine (wp_s (n := 21) (zcode_of mc_145 (r := (.iload_n 1, 0, 0, 0)) rfl) rfl rfl).trans ?_
  refine (wp_s (n := 22) (zcode_of mc_145 (r := (.iload_n 2, 0, 0, 0)) rfl) rfl rfl).trans ?_
  exact wp_call (q := ([.ref o, .int x1, .int x2], [])) (zcode_of mc_145 (r := (.invokevirtual 210, 143, 0, 2)) rfl) rfl (zCa_V (Nat.le_of_ble_eq_true rfl) rfl hR.tg) ⟨Nat.le_of_ble_eq_true rfl, Nat.le_of_ble_eq_true rfl⟩
theorem b145_25 {σ : zSt} {o : Nat} {sc : Nat → Int32} {ar : Nat → Nat → Int32} {P : Option Value → zSt → Prop} (hR : RShape σ o) {x1 x2 : Int32} :
    wp 145 25 [some (.ref o), some (.int x1), some (.int x2)] [] (rOv σ o sc ar) P ↔ wpM 144 [.ref (rad o 62), .int 0, .int (sc 43)] (rOv σ o sc ar) (fun r τ => wp 145 37 [some (.ref o), some (.int x1), some (.int x2)] (r.toList ++ []) τ P) := by
  refine (wp_s (n := 26) (zcode_of mc_145 (r := (.aload_n 0, 0, 0, 0)) rfl) rfl rfl).trans ?_
  refine (wr_getA (n' := 29) rfl (t := 62) hR (zcode_of mc_145 (r := (.getfield 116, 12, 42, 0)) rfl) rfl rfl).trans ?_
  refine (wp_ic (n' := 30) rfl (zcode_of mc_145 (r := (.iconst 0, 0, 0, 0)) rfl) ci_0).trans ?_
  refine (wp_s (n := 31) (zcode_of mc_145 (r := (.aload_n 0, 0, 0, 0)) rfl) rfl rfl).trans ?_
  refine (wr_getI (n' := 34) rfl hR (zcode_of mc_145 (r := (.getfield 187, 12, 43, 0)) rfl) rfl).trans ?_
  exact wp_call (q := ([.ref (rad o 62), .int 0, .int (sc 43)], [])) (zcode_of mc_145 (r := (.invokestatic 213, 144, 1, 3)) rfl) rfl rfl ⟨Nat.le_of_ble_eq_true rfl, Nat.le_of_ble_eq_true rfl⟩
theorem b145_37 {σ : zSt} {o : Nat} {sc : Nat → Int32} {ar : Nat → Nat → Int32} {P : Option Value → zSt → Prop} (hR : RShape σ o) {x1 x2 : Int32} {s0 : Int64} :
    wp 145 37 [some (.ref o), some (.int x1), some (.int x2)] [.long s0] (rOv σ o sc ar) P ↔ P (some (.long s0)) (rOv σ o sc ar) := by
  exact wp_retL (zcode_of mc_145 (r := (.lreturn, 0, 0, 0)) rfl) rfl
theorem mc_146 : mCode 146 = zc_146 := rfl
theorem b146 {σ : zSt} {o : Nat} {sc : Nat → Int32} {ar : Nat → Nat → Int32} {P : Option Value → zSt → Prop} (hR : RShape σ o) {t3 : Nat} {x1 x2 x4 x5 : Int32} (ht3 : rOk t3 = true) (hs3 : siteTy t3 = .int) :
    wpM 146 [.ref o, .int x1, .int x2, .ref (rad o t3), .int x4, .int x5] (rOv σ o sc ar) P ↔ (if ¬ (x2 - x1) = x5 then wp 146 12 [some (.ref o), some (.int x1), some (.int x2), some (.ref (rad o t3)), some (.int x4), some (.int x5), none, none] [] (rOv σ o sc ar) P else wp 146 8 [some (.ref o), some (.int x1), some (.int x2), some (.ref (rad o t3)), some (.int x4), some (.int x5), none, none] [] (rOv σ o sc ar) P) := by
  show wp 146 0 [some (.ref o), some (.int x1), some (.int x2), some (.ref (rad o t3)), some (.int x4), some (.int x5), none, none] [] (rOv σ o sc ar) P ↔ _
  refine (wp_s (n := 1) (zcode_of mc_146 (r := (.iload_n 2, 0, 0, 0)) rfl) rfl rfl).trans ?_
  refine (wp_s (n := 2) (zcode_of mc_146 (r := (.iload_n 1, 0, 0, 0)) rfl) rfl rfl).trans ?_
  refine (wp_s (n := 3) (zcode_of mc_146 (r := (.isub, 0, 0, 0)) rfl) rfl rfl).trans ?_
  refine (wp_s (n := 5) (zcode_of mc_146 (r := (.iload 5, 0, 0, 0)) rfl) rfl rfl).trans ?_
  exact wp_jump (off := 7) (t := 12) (zcode_of mc_146 (r := (.if_icmp .ne 7, 0, 0, 0)) rfl) rfl rfl (by decide)
theorem b146_8 {σ : zSt} {o : Nat} {sc : Nat → Int32} {ar : Nat → Nat → Int32} {P : Option Value → zSt → Prop} (hR : RShape σ o) {t3 : Nat} {x1 x2 x4 x5 : Int32} {u6 u7 : Option Value} (ht3 : rOk t3 = true) (hs3 : siteTy t3 = .int) :
    wp 146 8 [some (.ref o), some (.int x1), some (.int x2), some (.ref (rad o t3)), some (.int x4), some (.int x5), u6, u7] [] (rOv σ o sc ar) P ↔ wp 146 13 [some (.ref o), some (.int x1), some (.int x2), some (.ref (rad o t3)), some (.int x4), some (.int x5), u6, u7] [.int 1] (rOv σ o sc ar) P := by
  refine (wp_ic (n' := 9) rfl (zcode_of mc_146 (r := (.iconst 1, 0, 0, 0)) rfl) ci_1).trans ?_
  exact wp_goto (off := 4) (t := 13) (zcode_of mc_146 (r := (.goto 4, 0, 0, 0)) rfl) (by decide)
theorem b146_12 {σ : zSt} {o : Nat} {sc : Nat → Int32} {ar : Nat → Nat → Int32} {P : Option Value → zSt → Prop} (hR : RShape σ o) {t3 : Nat} {x1 x2 x4 x5 : Int32} {u6 u7 : Option Value} (ht3 : rOk t3 = true) (hs3 : siteTy t3 = .int) :
    wp 146 12 [some (.ref o), some (.int x1), some (.int x2), some (.ref (rad o t3)), some (.int x4), some (.int x5), u6, u7] [] (rOv σ o sc ar) P ↔ wp 146 13 [some (.ref o), some (.int x1), some (.int x2), some (.ref (rad o t3)), some (.int x4), some (.int x5), u6, u7] [.int 0] (rOv σ o sc ar) P := by
  refine (wp_ic (n' := 13) rfl (zcode_of mc_146 (r := (.iconst 0, 0, 0, 0)) rfl) ci_0).trans ?_
  exact Iff.rfl
theorem b146_13 {σ : zSt} {o : Nat} {sc : Nat → Int32} {ar : Nat → Nat → Int32} {P : Option Value → zSt → Prop} (hR : RShape σ o) {t3 : Nat} {x1 x2 x4 x5 s0 : Int32} {u6 u7 : Option Value} (ht3 : rOk t3 = true) (hs3 : siteTy t3 = .int) :
    wp 146 13 [some (.ref o), some (.int x1), some (.int x2), some (.ref (rad o t3)), some (.int x4), some (.int x5), u6, u7] [.int s0] (rOv σ o sc ar) P ↔ wp 146 18 [some (.ref o), some (.int x1), some (.int x2), some (.ref (rad o t3)), some (.int x4), some (.int x5), some (.int s0), some (.int 0)] [] (rOv σ o sc ar) P := by
  refine (wp_s (n := 15) (zcode_of mc_146 (r := (.istore 6, 0, 0, 0)) rfl) rfl rfl).trans ?_
  refine (wp_ic (n' := 16) rfl (zcode_of mc_146 (r := (.iconst 0, 0, 0, 0)) rfl) ci_0).trans ?_
  refine (wp_s (n := 18) (zcode_of mc_146 (r := (.istore 7, 0, 0, 0)) rfl) rfl rfl).trans ?_
  exact Iff.rfl
theorem b146_18 {σ : zSt} {o : Nat} {sc : Nat → Int32} {ar : Nat → Nat → Int32} {P : Option Value → zSt → Prop} (hR : RShape σ o) {t3 : Nat} {x1 x2 x4 x5 x6 x7 : Int32} (ht3 : rOk t3 = true) (hs3 : siteTy t3 = .int) :
    wp 146 18 [some (.ref o), some (.int x1), some (.int x2), some (.ref (rad o t3)), some (.int x4), some (.int x5), some (.int x6), some (.int x7)] [] (rOv σ o sc ar) P ↔ (if x5 ≤ x7 then wp 146 62 [some (.ref o), some (.int x1), some (.int x2), some (.ref (rad o t3)), some (.int x4), some (.int x5), some (.int x6), some (.int x7)] [] (rOv σ o sc ar) P else wp 146 25 [some (.ref o), some (.int x1), some (.int x2), some (.ref (rad o t3)), some (.int x4), some (.int x5), some (.int x6), some (.int x7)] [] (rOv σ o sc ar) P) := by
  refine (wp_s (n := 20) (zcode_of mc_146 (r := (.iload 7, 0, 0, 0)) rfl) rfl rfl).trans ?_
  refine (wp_s (n := 22) (zcode_of mc_146 (r := (.iload 5, 0, 0, 0)) rfl) rfl rfl).trans ?_
  exact wp_jump (off := 40) (t := 62) (zcode_of mc_146 (r := (.if_icmp .ge 40, 0, 0, 0)) rfl) rfl rfl (by decide)
theorem b146_25 {σ : zSt} {o : Nat} {sc : Nat → Int32} {ar : Nat → Nat → Int32} {P : Option Value → zSt → Prop} (hR : RShape σ o) {t3 : Nat} {x1 x2 x4 x5 x6 x7 : Int32} (ht3 : rOk t3 = true) (hs3 : siteTy t3 = .int) :
    wp 146 25 [some (.ref o), some (.int x1), some (.int x2), some (.ref (rad o t3)), some (.int x4), some (.int x5), some (.int x6), some (.int x7)] [] (rOv σ o sc ar) P ↔ (if x6 = 0 then wp 146 62 [some (.ref o), some (.int x1), some (.int x2), some (.ref (rad o t3)), some (.int x4), some (.int x5), some (.int x6), some (.int x7)] [] (rOv σ o sc ar) P else wp 146 30 [some (.ref o), some (.int x1), some (.int x2), some (.ref (rad o t3)), some (.int x4), some (.int x5), some (.int x6), some (.int x7)] [] (rOv σ o sc ar) P) := by
  refine (wp_s (n := 27) (zcode_of mc_146 (r := (.iload 6, 0, 0, 0)) rfl) rfl rfl).trans ?_
  exact wp_jump (off := 35) (t := 62) (zcode_of mc_146 (r := (.ifCond .eq 35, 0, 0, 0)) rfl) rfl rfl (by decide)
theorem b146_30 {σ : zSt} {o : Nat} {sc : Nat → Int32} {ar : Nat → Nat → Int32} {P : Option Value → zSt → Prop} (hR : RShape σ o) {t3 : Nat} {x1 x2 x4 x5 x6 x7 : Int32} (ht3 : rOk t3 = true) (hs3 : siteTy t3 = .int) :
    wp 146 30 [some (.ref o), some (.int x1), some (.int x2), some (.ref (rad o t3)), some (.int x4), some (.int x5), some (.int x6), some (.int x7)] [] (rOv σ o sc ar) P ↔ (zIn (x1 + x7) (rlen 62) ∧ (zIn (x4 + x7) (rlen t3) ∧ (if ¬ (ar 62 (Int32.toNatClampNeg (x1 + x7))) = (ar t3 (Int32.toNatClampNeg (x4 + x7))) then wp 146 53 [some (.ref o), some (.int x1), some (.int x2), some (.ref (rad o t3)), some (.int x4), some (.int x5), some (.int x6), some (.int x7)] [] (rOv σ o sc ar) P else wp 146 49 [some (.ref o), some (.int x1), some (.int x2), some (.ref (rad o t3)), some (.int x4), some (.int x5), some (.int x6), some (.int x7)] [] (rOv σ o sc ar) P))) := by
  refine (wp_s (n := 31) (zcode_of mc_146 (r := (.aload_n 0, 0, 0, 0)) rfl) rfl rfl).trans ?_
  refine (wr_getA (n' := 34) rfl (t := 62) hR (zcode_of mc_146 (r := (.getfield 116, 12, 42, 0)) rfl) rfl rfl).trans ?_
  refine (wp_s (n := 35) (zcode_of mc_146 (r := (.iload_n 1, 0, 0, 0)) rfl) rfl rfl).trans ?_
  refine (wp_s (n := 37) (zcode_of mc_146 (r := (.iload 7, 0, 0, 0)) rfl) rfl rfl).trans ?_
  refine (wp_s (n := 38) (zcode_of mc_146 (r := (.iadd, 0, 0, 0)) rfl) rfl rfl).trans ?_
  refine (wr_ld (n' := 39) rfl hR (zcode_of mc_146 (r := (.iaload, 0, 0, 0)) rfl) rfl rfl).trans (and_congr Iff.rfl ?_)
  refine (wp_s (n := 40) (zcode_of mc_146 (r := (.aload_n 3, 0, 0, 0)) rfl) rfl rfl).trans ?_
  refine (wp_s (n := 42) (zcode_of mc_146 (r := (.iload 4, 0, 0, 0)) rfl) rfl rfl).trans ?_
  refine (wp_s (n := 44) (zcode_of mc_146 (r := (.iload 7, 0, 0, 0)) rfl) rfl rfl).trans ?_
  refine (wp_s (n := 45) (zcode_of mc_146 (r := (.iadd, 0, 0, 0)) rfl) rfl rfl).trans ?_
  refine (wr_ld (n' := 46) rfl hR (zcode_of mc_146 (r := (.iaload, 0, 0, 0)) rfl) ht3 hs3).trans (and_congr Iff.rfl ?_)
  exact wp_jump (off := 7) (t := 53) (zcode_of mc_146 (r := (.if_icmp .ne 7, 0, 0, 0)) rfl) rfl rfl (by decide)
theorem b146_49 {σ : zSt} {o : Nat} {sc : Nat → Int32} {ar : Nat → Nat → Int32} {P : Option Value → zSt → Prop} (hR : RShape σ o) {t3 : Nat} {x1 x2 x4 x5 x6 x7 : Int32} (ht3 : rOk t3 = true) (hs3 : siteTy t3 = .int) :
    wp 146 49 [some (.ref o), some (.int x1), some (.int x2), some (.ref (rad o t3)), some (.int x4), some (.int x5), some (.int x6), some (.int x7)] [] (rOv σ o sc ar) P ↔ wp 146 54 [some (.ref o), some (.int x1), some (.int x2), some (.ref (rad o t3)), some (.int x4), some (.int x5), some (.int x6), some (.int x7)] [.int 1] (rOv σ o sc ar) P := by
  refine (wp_ic (n' := 50) rfl (zcode_of mc_146 (r := (.iconst 1, 0, 0, 0)) rfl) ci_1).trans ?_
  exact wp_goto (off := 4) (t := 54) (zcode_of mc_146 (r := (.goto 4, 0, 0, 0)) rfl) (by decide)
theorem b146_53 {σ : zSt} {o : Nat} {sc : Nat → Int32} {ar : Nat → Nat → Int32} {P : Option Value → zSt → Prop} (hR : RShape σ o) {t3 : Nat} {x1 x2 x4 x5 x6 x7 : Int32} (ht3 : rOk t3 = true) (hs3 : siteTy t3 = .int) :
    wp 146 53 [some (.ref o), some (.int x1), some (.int x2), some (.ref (rad o t3)), some (.int x4), some (.int x5), some (.int x6), some (.int x7)] [] (rOv σ o sc ar) P ↔ wp 146 54 [some (.ref o), some (.int x1), some (.int x2), some (.ref (rad o t3)), some (.int x4), some (.int x5), some (.int x6), some (.int x7)] [.int 0] (rOv σ o sc ar) P := by
  refine (wp_ic (n' := 54) rfl (zcode_of mc_146 (r := (.iconst 0, 0, 0, 0)) rfl) ci_0).trans ?_
  exact Iff.rfl
theorem b146_54 {σ : zSt} {o : Nat} {sc : Nat → Int32} {ar : Nat → Nat → Int32} {P : Option Value → zSt → Prop} (hR : RShape σ o) {t3 : Nat} {x1 x2 x4 x5 x6 x7 s0 : Int32} (ht3 : rOk t3 = true) (hs3 : siteTy t3 = .int) :
    wp 146 54 [some (.ref o), some (.int x1), some (.int x2), some (.ref (rad o t3)), some (.int x4), some (.int x5), some (.int x6), some (.int x7)] [.int s0] (rOv σ o sc ar) P ↔ wp 146 18 [some (.ref o), some (.int x1), some (.int x2), some (.ref (rad o t3)), some (.int x4), some (.int x5), some (.int s0), some (.int (x7 + 1))] [] (rOv σ o sc ar) P := by
  refine (wp_s (n := 56) (zcode_of mc_146 (r := (.istore 6, 0, 0, 0)) rfl) rfl rfl).trans ?_
  refine (wp_inc (n' := 59) rfl (zcode_of mc_146 (r := (.iinc 7 1, 0, 0, 0)) rfl) rfl rfl ci_1).trans ?_
  exact wp_goto (off := (-41)) (t := 18) (zcode_of mc_146 (r := (.goto (-41), 0, 0, 0)) rfl) (by decide)
theorem b146_62 {σ : zSt} {o : Nat} {sc : Nat → Int32} {ar : Nat → Nat → Int32} {P : Option Value → zSt → Prop} (hR : RShape σ o) {t3 : Nat} {x1 x2 x4 x5 x6 x7 : Int32} (ht3 : rOk t3 = true) (hs3 : siteTy t3 = .int) :
    wp 146 62 [some (.ref o), some (.int x1), some (.int x2), some (.ref (rad o t3)), some (.int x4), some (.int x5), some (.int x6), some (.int x7)] [] (rOv σ o sc ar) P ↔ ((x6 = 0 ∨ x6 = 1) ∧ P (some (.int x6)) (rOv σ o sc ar)) := by
  refine (wp_s (n := 64) (zcode_of mc_146 (r := (.iload 6, 0, 0, 0)) rfl) rfl rfl).trans ?_
  exact wp_retZ (zcode_of mc_146 (r := (.ireturn, 0, 0, 0)) rfl) rfl
theorem mc_147 : mCode 147 = zc_147 := rfl
theorem b147 {σ : zSt} {o : Nat} {sc : Nat → Int32} {ar : Nat → Nat → Int32} {P : Option Value → zSt → Prop} (hR : RShape σ o) {x1 x2 : Int32} :
    wpM 147 [.ref o, .int x1, .int x2] (rOv σ o sc ar) P ↔ (zIn ((40 * x1) + x2) (rlen 37) ∧ (if ¬ (ar 37 (Int32.toNatClampNeg ((40 * x1) + x2))) = 0 then wp 147 18 [some (.ref o), some (.int x1), some (.int x2), some (.int ((40 * x1) + x2)), none, none] [] (rOv σ o sc ar) P else wp 147 16 [some (.ref o), some (.int x1), some (.int x2), some (.int ((40 * x1) + x2)), none, none] [] (rOv σ o sc ar) P)) := by
  show wp 147 0 [some (.ref o), some (.int x1), some (.int x2), none, none, none] [] (rOv σ o sc ar) P ↔ _
  refine (wp_bp (n' := 2) rfl (zcode_of mc_147 (r := (.bipush 40, 0, 0, 0)) rfl) cb_40).trans ?_
  refine (wp_s (n := 3) (zcode_of mc_147 (r := (.iload_n 1, 0, 0, 0)) rfl) rfl rfl).trans ?_
  refine (wp_s (n := 4) (zcode_of mc_147 (r := (.imul, 0, 0, 0)) rfl) rfl rfl).trans ?_
  refine (wp_s (n := 5) (zcode_of mc_147 (r := (.iload_n 2, 0, 0, 0)) rfl) rfl rfl).trans ?_
  refine (wp_s (n := 6) (zcode_of mc_147 (r := (.iadd, 0, 0, 0)) rfl) rfl rfl).trans ?_
  refine (wp_s (n := 7) (zcode_of mc_147 (r := (.istore_n 3, 0, 0, 0)) rfl) rfl rfl).trans ?_
  refine (wp_s (n := 8) (zcode_of mc_147 (r := (.aload_n 0, 0, 0, 0)) rfl) rfl rfl).trans ?_
  refine (wr_getA (n' := 11) rfl (t := 37) hR (zcode_of mc_147 (r := (.getfield 57, 12, 17, 0)) rfl) rfl rfl).trans ?_
  refine (wp_s (n := 12) (zcode_of mc_147 (r := (.iload_n 3, 0, 0, 0)) rfl) rfl rfl).trans ?_
  refine (wr_ldZ (n' := 13) rfl hR (zcode_of mc_147 (r := (.baload, 0, 0, 0)) rfl) rfl rfl).trans (and_congr Iff.rfl ?_)
  exact wp_jump (off := 5) (t := 18) (zcode_of mc_147 (r := (.ifCond .ne 5, 0, 0, 0)) rfl) rfl rfl (by decide)
theorem b147_16 {σ : zSt} {o : Nat} {sc : Nat → Int32} {ar : Nat → Nat → Int32} {P : Option Value → zSt → Prop} (hR : RShape σ o) {x1 x2 x3 : Int32} {u4 u5 : Option Value} :
    wp 147 16 [some (.ref o), some (.int x1), some (.int x2), some (.int x3), u4, u5] [] (rOv σ o sc ar) P ↔ P (some (.int (-1))) (rOv σ o sc ar) := by
  refine (wp_ic (n' := 17) rfl (zcode_of mc_147 (r := (.iconst (-1), 0, 0, 0)) rfl) ci_m1).trans ?_
  exact wp_retI (zcode_of mc_147 (r := (.ireturn, 0, 0, 0)) rfl) rfl
theorem b147_18 {σ : zSt} {o : Nat} {sc : Nat → Int32} {ar : Nat → Nat → Int32} {P : Option Value → zSt → Prop} (hR : RShape σ o) {x1 x2 x3 : Int32} {u4 u5 : Option Value} :
    wp 147 18 [some (.ref o), some (.int x1), some (.int x2), some (.int x3), u4, u5] [] (rOv σ o sc ar) P ↔ wpM 143 [.ref o, .int x1, .int x2] (rOv σ o sc ar) (fun r τ => wp 147 24 [some (.ref o), some (.int x1), some (.int x2), some (.int x3), u4, u5] (r.toList ++ []) τ P) := by
  refine (wp_s (n := 19) (zcode_of mc_147 (r := (.aload_n 0, 0, 0, 0)) rfl) rfl rfl).trans ?_
  refine (wp_s (n := 20) (zcode_of mc_147 (r := (.iload_n 1, 0, 0, 0)) rfl) rfl rfl).trans ?_
  refine (wp_s (n := 21) (zcode_of mc_147 (r := (.iload_n 2, 0, 0, 0)) rfl) rfl rfl).trans ?_
  exact wp_call (q := ([.ref o, .int x1, .int x2], [])) (zcode_of mc_147 (r := (.invokevirtual 210, 143, 0, 2)) rfl) rfl (zCa_V (Nat.le_of_ble_eq_true rfl) rfl hR.tg) ⟨Nat.le_of_ble_eq_true rfl, Nat.le_of_ble_eq_true rfl⟩
theorem b147_24 {σ : zSt} {o : Nat} {sc : Nat → Int32} {ar : Nat → Nat → Int32} {P : Option Value → zSt → Prop} (hR : RShape σ o) {x1 x2 x3 : Int32} {u4 u5 : Option Value} :
    wp 147 24 [some (.ref o), some (.int x1), some (.int x2), some (.int x3), u4, u5] [] (rOv σ o sc ar) P ↔ (zIn 0 (rlen 64) ∧ (zIn (7 * x3) (rlen 39) ∧ wpM 146 [.ref o, .int 0, .int (ar 64 (Int32.toNatClampNeg 0)), .ref (rad o 38), .int (425 * x3), .int (ar 39 (Int32.toNatClampNeg (7 * x3)))] (rOv σ o sc ar) (fun r τ => wp 147 53 [some (.ref o), some (.int x1), some (.int x2), some (.int x3), u4, u5] (r.toList ++ []) τ P))) := by
  refine (wp_s (n := 25) (zcode_of mc_147 (r := (.aload_n 0, 0, 0, 0)) rfl) rfl rfl).trans ?_
  refine (wp_ic (n' := 26) rfl (zcode_of mc_147 (r := (.iconst 0, 0, 0, 0)) rfl) ci_0).trans ?_
  refine (wp_s (n := 27) (zcode_of mc_147 (r := (.aload_n 0, 0, 0, 0)) rfl) rfl rfl).trans ?_
  refine (wr_getA (n' := 30) rfl (t := 64) hR (zcode_of mc_147 (r := (.getfield 119, 12, 44, 0)) rfl) rfl rfl).trans ?_
  refine (wp_ic (n' := 31) rfl (zcode_of mc_147 (r := (.iconst 0, 0, 0, 0)) rfl) ci_0).trans ?_
  refine (wr_ld (n' := 32) rfl hR (zcode_of mc_147 (r := (.iaload, 0, 0, 0)) rfl) rfl rfl).trans (and_congr Iff.rfl ?_)
  refine (wp_s (n := 33) (zcode_of mc_147 (r := (.aload_n 0, 0, 0, 0)) rfl) rfl rfl).trans ?_
  refine (wr_getA (n' := 36) rfl (t := 38) hR (zcode_of mc_147 (r := (.getfield 61, 12, 18, 0)) rfl) rfl rfl).trans ?_
  refine (wp_sp (n' := 39) rfl (zcode_of mc_147 (r := (.sipush 425, 0, 0, 0)) rfl) cs_425).trans ?_
  refine (wp_s (n := 40) (zcode_of mc_147 (r := (.iload_n 3, 0, 0, 0)) rfl) rfl rfl).trans ?_
  refine (wp_s (n := 41) (zcode_of mc_147 (r := (.imul, 0, 0, 0)) rfl) rfl rfl).trans ?_
  refine (wp_s (n := 42) (zcode_of mc_147 (r := (.aload_n 0, 0, 0, 0)) rfl) rfl rfl).trans ?_
  refine (wr_getA (n' := 45) rfl (t := 39) hR (zcode_of mc_147 (r := (.getfield 64, 12, 19, 0)) rfl) rfl rfl).trans ?_
  refine (wp_bp (n' := 47) rfl (zcode_of mc_147 (r := (.bipush 7, 0, 0, 0)) rfl) cb_7).trans ?_
  refine (wp_s (n := 48) (zcode_of mc_147 (r := (.iload_n 3, 0, 0, 0)) rfl) rfl rfl).trans ?_
  refine (wp_s (n := 49) (zcode_of mc_147 (r := (.imul, 0, 0, 0)) rfl) rfl rfl).trans ?_
  refine (wr_ld (n' := 50) rfl hR (zcode_of mc_147 (r := (.iaload, 0, 0, 0)) rfl) rfl rfl).trans (and_congr Iff.rfl ?_)
  exact wp_call (q := ([.ref o, .int 0, .int (ar 64 (Int32.toNatClampNeg 0)), .ref (rad o 38), .int (425 * x3), .int (ar 39 (Int32.toNatClampNeg (7 * x3)))], [])) (zcode_of mc_147 (r := (.invokevirtual 217, 146, 0, 5)) rfl) rfl (zCa_V (Nat.le_of_ble_eq_true rfl) rfl hR.tg) ⟨Nat.le_of_ble_eq_true rfl, Nat.le_of_ble_eq_true rfl⟩
theorem b147_53 {σ : zSt} {o : Nat} {sc : Nat → Int32} {ar : Nat → Nat → Int32} {P : Option Value → zSt → Prop} (hR : RShape σ o) {x1 x2 x3 s0 : Int32} {u4 u5 : Option Value} :
    wp 147 53 [some (.ref o), some (.int x1), some (.int x2), some (.int x3), u4, u5] [.int s0] (rOv σ o sc ar) P ↔ (if ¬ s0 = 0 then wp 147 58 [some (.ref o), some (.int x1), some (.int x2), some (.int x3), u4, u5] [] (rOv σ o sc ar) P else wp 147 56 [some (.ref o), some (.int x1), some (.int x2), some (.int x3), u4, u5] [] (rOv σ o sc ar) P) := by
  exact wp_jump (off := 5) (t := 58) (zcode_of mc_147 (r := (.ifCond .ne 5, 0, 0, 0)) rfl) rfl rfl (by decide)
theorem b147_56 {σ : zSt} {o : Nat} {sc : Nat → Int32} {ar : Nat → Nat → Int32} {P : Option Value → zSt → Prop} (hR : RShape σ o) {x1 x2 x3 : Int32} {u4 u5 : Option Value} :
    wp 147 56 [some (.ref o), some (.int x1), some (.int x2), some (.int x3), u4, u5] [] (rOv σ o sc ar) P ↔ P (some (.int 1)) (rOv σ o sc ar) := by
  refine (wp_ic (n' := 57) rfl (zcode_of mc_147 (r := (.iconst 1, 0, 0, 0)) rfl) ci_1).trans ?_
  exact wp_retI (zcode_of mc_147 (r := (.ireturn, 0, 0, 0)) rfl) rfl
theorem b147_58 {σ : zSt} {o : Nat} {sc : Nat → Int32} {ar : Nat → Nat → Int32} {P : Option Value → zSt → Prop} (hR : RShape σ o) {x1 x2 x3 : Int32} {u4 u5 : Option Value} :
    wp 147 58 [some (.ref o), some (.int x1), some (.int x2), some (.int x3), u4, u5] [] (rOv σ o sc ar) P ↔ wp 147 61 [some (.ref o), some (.int x1), some (.int x2), some (.int x3), some (.int 0), u5] [] (rOv σ o sc ar) P := by
  refine (wp_ic (n' := 59) rfl (zcode_of mc_147 (r := (.iconst 0, 0, 0, 0)) rfl) ci_0).trans ?_
  refine (wp_s (n := 61) (zcode_of mc_147 (r := (.istore 4, 0, 0, 0)) rfl) rfl rfl).trans ?_
  exact Iff.rfl
theorem b147_61 {σ : zSt} {o : Nat} {sc : Nat → Int32} {ar : Nat → Nat → Int32} {P : Option Value → zSt → Prop} (hR : RShape σ o) {x1 x2 x3 x4 : Int32} {u5 : Option Value} :
    wp 147 61 [some (.ref o), some (.int x1), some (.int x2), some (.int x3), some (.int x4), u5] [] (rOv σ o sc ar) P ↔ (zIn x2 (rlen 31) ∧ (if (ar 31 (Int32.toNatClampNeg x2)) ≤ x4 then wp 147 150 [some (.ref o), some (.int x1), some (.int x2), some (.int x3), some (.int x4), u5] [] (rOv σ o sc ar) P else wp 147 72 [some (.ref o), some (.int x1), some (.int x2), some (.int x3), some (.int x4), u5] [] (rOv σ o sc ar) P)) := by
  refine (wp_s (n := 63) (zcode_of mc_147 (r := (.iload 4, 0, 0, 0)) rfl) rfl rfl).trans ?_
  refine (wp_s (n := 64) (zcode_of mc_147 (r := (.aload_n 0, 0, 0, 0)) rfl) rfl rfl).trans ?_
  refine (wr_getA (n' := 67) rfl (t := 31) hR (zcode_of mc_147 (r := (.getfield 39, 12, 11, 0)) rfl) rfl rfl).trans ?_
  refine (wp_s (n := 68) (zcode_of mc_147 (r := (.iload_n 2, 0, 0, 0)) rfl) rfl rfl).trans ?_
  refine (wr_ld (n' := 69) rfl hR (zcode_of mc_147 (r := (.iaload, 0, 0, 0)) rfl) rfl rfl).trans (and_congr Iff.rfl ?_)
  exact wp_jump (off := 81) (t := 150) (zcode_of mc_147 (r := (.if_icmp .ge 81, 0, 0, 0)) rfl) rfl rfl (by decide)
theorem b147_72 {σ : zSt} {o : Nat} {sc : Nat → Int32} {ar : Nat → Nat → Int32} {P : Option Value → zSt → Prop} (hR : RShape σ o) {x1 x2 x3 x4 : Int32} {u5 : Option Value} :
    wp 147 72 [some (.ref o), some (.int x1), some (.int x2), some (.int x3), some (.int x4), u5] [] (rOv σ o sc ar) P ↔ (zIn ((7 * x3) + x4) (rlen 39) ∧ (zIn x4 (rlen 64) ∧ (zIn (x4 + 1) (rlen 64) ∧ (zIn (((7 * x3) + x4) + 1) (rlen 39) ∧ wpM 146 [.ref o, .int (ar 64 (Int32.toNatClampNeg x4)), .int (ar 64 (Int32.toNatClampNeg (x4 + 1))), .ref (rad o 38), .int ((425 * x3) + (ar 39 (Int32.toNatClampNeg ((7 * x3) + x4)))), .int ((ar 39 (Int32.toNatClampNeg (((7 * x3) + x4) + 1))) - (ar 39 (Int32.toNatClampNeg ((7 * x3) + x4))))] (rOv σ o sc ar) (fun r τ => wp 147 135 [some (.ref o), some (.int x1), some (.int x2), some (.int x3), some (.int x4), some (.int (ar 39 (Int32.toNatClampNeg ((7 * x3) + x4))))] (r.toList ++ []) τ P))))) := by
  refine (wp_s (n := 73) (zcode_of mc_147 (r := (.aload_n 0, 0, 0, 0)) rfl) rfl rfl).trans ?_
  refine (wr_getA (n' := 76) rfl (t := 39) hR (zcode_of mc_147 (r := (.getfield 64, 12, 19, 0)) rfl) rfl rfl).trans ?_
  refine (wp_bp (n' := 78) rfl (zcode_of mc_147 (r := (.bipush 7, 0, 0, 0)) rfl) cb_7).trans ?_
  refine (wp_s (n := 79) (zcode_of mc_147 (r := (.iload_n 3, 0, 0, 0)) rfl) rfl rfl).trans ?_
  refine (wp_s (n := 80) (zcode_of mc_147 (r := (.imul, 0, 0, 0)) rfl) rfl rfl).trans ?_
  refine (wp_s (n := 82) (zcode_of mc_147 (r := (.iload 4, 0, 0, 0)) rfl) rfl rfl).trans ?_
  refine (wp_s (n := 83) (zcode_of mc_147 (r := (.iadd, 0, 0, 0)) rfl) rfl rfl).trans ?_
  refine (wr_ld (n' := 84) rfl hR (zcode_of mc_147 (r := (.iaload, 0, 0, 0)) rfl) rfl rfl).trans (and_congr Iff.rfl ?_)
  refine (wp_s (n := 86) (zcode_of mc_147 (r := (.istore 5, 0, 0, 0)) rfl) rfl rfl).trans ?_
  refine (wp_s (n := 87) (zcode_of mc_147 (r := (.aload_n 0, 0, 0, 0)) rfl) rfl rfl).trans ?_
  refine (wp_s (n := 88) (zcode_of mc_147 (r := (.aload_n 0, 0, 0, 0)) rfl) rfl rfl).trans ?_
  refine (wr_getA (n' := 91) rfl (t := 64) hR (zcode_of mc_147 (r := (.getfield 119, 12, 44, 0)) rfl) rfl rfl).trans ?_
  refine (wp_s (n := 93) (zcode_of mc_147 (r := (.iload 4, 0, 0, 0)) rfl) rfl rfl).trans ?_
  refine (wr_ld (n' := 94) rfl hR (zcode_of mc_147 (r := (.iaload, 0, 0, 0)) rfl) rfl rfl).trans (and_congr Iff.rfl ?_)
  refine (wp_s (n := 95) (zcode_of mc_147 (r := (.aload_n 0, 0, 0, 0)) rfl) rfl rfl).trans ?_
  refine (wr_getA (n' := 98) rfl (t := 64) hR (zcode_of mc_147 (r := (.getfield 119, 12, 44, 0)) rfl) rfl rfl).trans ?_
  refine (wp_s (n := 100) (zcode_of mc_147 (r := (.iload 4, 0, 0, 0)) rfl) rfl rfl).trans ?_
  refine (wp_ic (n' := 101) rfl (zcode_of mc_147 (r := (.iconst 1, 0, 0, 0)) rfl) ci_1).trans ?_
  refine (wp_s (n := 102) (zcode_of mc_147 (r := (.iadd, 0, 0, 0)) rfl) rfl rfl).trans ?_
  refine (wr_ld (n' := 103) rfl hR (zcode_of mc_147 (r := (.iaload, 0, 0, 0)) rfl) rfl rfl).trans (and_congr Iff.rfl ?_)
  refine (wp_s (n := 104) (zcode_of mc_147 (r := (.aload_n 0, 0, 0, 0)) rfl) rfl rfl).trans ?_
  refine (wr_getA (n' := 107) rfl (t := 38) hR (zcode_of mc_147 (r := (.getfield 61, 12, 18, 0)) rfl) rfl rfl).trans ?_
  refine (wp_sp (n' := 110) rfl (zcode_of mc_147 (r := (.sipush 425, 0, 0, 0)) rfl) cs_425).trans ?_
  refine (wp_s (n := 111) (zcode_of mc_147 (r := (.iload_n 3, 0, 0, 0)) rfl) rfl rfl).trans ?_
  refine (wp_s (n := 112) (zcode_of mc_147 (r := (.imul, 0, 0, 0)) rfl) rfl rfl).trans ?_
  refine (wp_s (n := 114) (zcode_of mc_147 (r := (.iload 5, 0, 0, 0)) rfl) rfl rfl).trans ?_
  refine (wp_s (n := 115) (zcode_of mc_147 (r := (.iadd, 0, 0, 0)) rfl) rfl rfl).trans ?_
  refine (wp_s (n := 116) (zcode_of mc_147 (r := (.aload_n 0, 0, 0, 0)) rfl) rfl rfl).trans ?_
  refine (wr_getA (n' := 119) rfl (t := 39) hR (zcode_of mc_147 (r := (.getfield 64, 12, 19, 0)) rfl) rfl rfl).trans ?_
  refine (wp_bp (n' := 121) rfl (zcode_of mc_147 (r := (.bipush 7, 0, 0, 0)) rfl) cb_7).trans ?_
  refine (wp_s (n := 122) (zcode_of mc_147 (r := (.iload_n 3, 0, 0, 0)) rfl) rfl rfl).trans ?_
  refine (wp_s (n := 123) (zcode_of mc_147 (r := (.imul, 0, 0, 0)) rfl) rfl rfl).trans ?_
  refine (wp_s (n := 125) (zcode_of mc_147 (r := (.iload 4, 0, 0, 0)) rfl) rfl rfl).trans ?_
  refine (wp_s (n := 126) (zcode_of mc_147 (r := (.iadd, 0, 0, 0)) rfl) rfl rfl).trans ?_
  refine (wp_ic (n' := 127) rfl (zcode_of mc_147 (r := (.iconst 1, 0, 0, 0)) rfl) ci_1).trans ?_
  refine (wp_s (n := 128) (zcode_of mc_147 (r := (.iadd, 0, 0, 0)) rfl) rfl rfl).trans ?_
  refine (wr_ld (n' := 129) rfl hR (zcode_of mc_147 (r := (.iaload, 0, 0, 0)) rfl) rfl rfl).trans (and_congr Iff.rfl ?_)
  refine (wp_s (n := 131) (zcode_of mc_147 (r := (.iload 5, 0, 0, 0)) rfl) rfl rfl).trans ?_
  refine (wp_s (n := 132) (zcode_of mc_147 (r := (.isub, 0, 0, 0)) rfl) rfl rfl).trans ?_
  exact wp_call (q := ([.ref o, .int (ar 64 (Int32.toNatClampNeg x4)), .int (ar 64 (Int32.toNatClampNeg (x4 + 1))), .ref (rad o 38), .int ((425 * x3) + (ar 39 (Int32.toNatClampNeg ((7 * x3) + x4)))), .int ((ar 39 (Int32.toNatClampNeg (((7 * x3) + x4) + 1))) - (ar 39 (Int32.toNatClampNeg ((7 * x3) + x4))))], [])) (zcode_of mc_147 (r := (.invokevirtual 217, 146, 0, 5)) rfl) rfl (zCa_V (Nat.le_of_ble_eq_true rfl) rfl hR.tg) ⟨Nat.le_of_ble_eq_true rfl, Nat.le_of_ble_eq_true rfl⟩
theorem b147_135 {σ : zSt} {o : Nat} {sc : Nat → Int32} {ar : Nat → Nat → Int32} {P : Option Value → zSt → Prop} (hR : RShape σ o) {x1 x2 x3 x4 x5 s0 : Int32} :
    wp 147 135 [some (.ref o), some (.int x1), some (.int x2), some (.int x3), some (.int x4), some (.int x5)] [.int s0] (rOv σ o sc ar) P ↔ (if ¬ s0 = 0 then wp 147 144 [some (.ref o), some (.int x1), some (.int x2), some (.int x3), some (.int x4), some (.int x5)] [] (rOv σ o sc ar) P else wp 147 138 [some (.ref o), some (.int x1), some (.int x2), some (.int x3), some (.int x4), some (.int x5)] [] (rOv σ o sc ar) P) := by
  exact wp_jump (off := 9) (t := 144) (zcode_of mc_147 (r := (.ifCond .ne 9, 0, 0, 0)) rfl) rfl rfl (by decide)
theorem b147_138 {σ : zSt} {o : Nat} {sc : Nat → Int32} {ar : Nat → Nat → Int32} {P : Option Value → zSt → Prop} (hR : RShape σ o) {x1 x2 x3 x4 x5 : Int32} :
    wp 147 138 [some (.ref o), some (.int x1), some (.int x2), some (.int x3), some (.int x4), some (.int x5)] [] (rOv σ o sc ar) P ↔ P (some (.int (10 + x4))) (rOv σ o sc ar) := by
  refine (wp_bp (n' := 140) rfl (zcode_of mc_147 (r := (.bipush 10, 0, 0, 0)) rfl) cb_10).trans ?_
  refine (wp_s (n := 142) (zcode_of mc_147 (r := (.iload 4, 0, 0, 0)) rfl) rfl rfl).trans ?_
  refine (wp_s (n := 143) (zcode_of mc_147 (r := (.iadd, 0, 0, 0)) rfl) rfl rfl).trans ?_
  exact wp_retI (zcode_of mc_147 (r := (.ireturn, 0, 0, 0)) rfl) rfl
theorem b147_144 {σ : zSt} {o : Nat} {sc : Nat → Int32} {ar : Nat → Nat → Int32} {P : Option Value → zSt → Prop} (hR : RShape σ o) {x1 x2 x3 x4 x5 : Int32} :
    wp 147 144 [some (.ref o), some (.int x1), some (.int x2), some (.int x3), some (.int x4), some (.int x5)] [] (rOv σ o sc ar) P ↔ wp 147 61 [some (.ref o), some (.int x1), some (.int x2), some (.int x3), some (.int (x4 + 1)), some (.int x5)] [] (rOv σ o sc ar) P := by
  refine (wp_inc (n' := 147) rfl (zcode_of mc_147 (r := (.iinc 4 1, 0, 0, 0)) rfl) rfl rfl ci_1).trans ?_
  exact wp_goto (off := (-86)) (t := 61) (zcode_of mc_147 (r := (.goto (-86), 0, 0, 0)) rfl) (by decide)
theorem b147_150 {σ : zSt} {o : Nat} {sc : Nat → Int32} {ar : Nat → Nat → Int32} {P : Option Value → zSt → Prop} (hR : RShape σ o) {x1 x2 x3 x4 : Int32} {u5 : Option Value} :
    wp 147 150 [some (.ref o), some (.int x1), some (.int x2), some (.int x3), some (.int x4), u5] [] (rOv σ o sc ar) P ↔ P (some (.int 0)) (rOv σ o sc ar) := by
  refine (wp_ic (n' := 151) rfl (zcode_of mc_147 (r := (.iconst 0, 0, 0, 0)) rfl) ci_0).trans ?_
  exact wp_retI (zcode_of mc_147 (r := (.ireturn, 0, 0, 0)) rfl) rfl
theorem mc_148 : mCode 148 = zc_148 := rfl
theorem b148 {σ : zSt} {o : Nat} {sc : Nat → Int32} {ar : Nat → Nat → Int32} {P : Option Value → zSt → Prop} (hR : RShape σ o) {x1 x2 : Int32} :
    wpM 148 [.ref o, .int x1, .int x2] (rOv σ o sc ar) P ↔ wpM 113 [.int x1, .int 0, .int 1] (rOv σ o sc ar) (fun r τ => wp 148 6 [some (.ref o), some (.int x1), some (.int x2)] (r.toList ++ []) τ P) := by
  show wp 148 0 [some (.ref o), some (.int x1), some (.int x2)] [] (rOv σ o sc ar) P ↔ _
  refine (wp_s (n := 1) (zcode_of mc_148 (r := (.iload_n 1, 0, 0, 0)) rfl) rfl rfl).trans ?_
  refine (wp_ic (n' := 2) rfl (zcode_of mc_148 (r := (.iconst 0, 0, 0, 0)) rfl) ci_0).trans ?_
  refine (wp_ic (n' := 3) rfl (zcode_of mc_148 (r := (.iconst 1, 0, 0, 0)) rfl) ci_1).trans ?_
  exact wp_call (q := ([.int x1, .int 0, .int 1], [])) (zcode_of mc_148 (r := (.invokestatic 140, 113, 1, 3)) rfl) rfl rfl ⟨Nat.le_of_ble_eq_true rfl, Nat.le_of_ble_eq_true rfl⟩
theorem b148_6 {σ : zSt} {o : Nat} {sc : Nat → Int32} {ar : Nat → Nat → Int32} {P : Option Value → zSt → Prop} (hR : RShape σ o) {x1 x2 s0 : Int32} :
    wp 148 6 [some (.ref o), some (.int x1), some (.int x2)] [.int s0] (rOv σ o sc ar) P ↔ (if s0 = 0 then wp 148 26 [some (.ref o), some (.int x1), some (.int x2)] [] (rOv σ o sc ar) P else wp 148 9 [some (.ref o), some (.int x1), some (.int x2)] [] (rOv σ o sc ar) P) := by
  exact wp_jump (off := 20) (t := 26) (zcode_of mc_148 (r := (.ifCond .eq 20, 0, 0, 0)) rfl) rfl rfl (by decide)
theorem b148_9 {σ : zSt} {o : Nat} {sc : Nat → Int32} {ar : Nat → Nat → Int32} {P : Option Value → zSt → Prop} (hR : RShape σ o) {x1 x2 : Int32} :
    wp 148 9 [some (.ref o), some (.int x1), some (.int x2)] [] (rOv σ o sc ar) P ↔ wpM 115 [.ref o, .int x2] (rOv σ o sc ar) (fun r τ => wp 148 14 [some (.ref o), some (.int x1), some (.int x2)] (r.toList ++ []) τ P) := by
  refine (wp_s (n := 10) (zcode_of mc_148 (r := (.aload_n 0, 0, 0, 0)) rfl) rfl rfl).trans ?_
  refine (wp_s (n := 11) (zcode_of mc_148 (r := (.iload_n 2, 0, 0, 0)) rfl) rfl rfl).trans ?_
  exact wp_call (q := ([.ref o, .int x2], [])) (zcode_of mc_148 (r := (.invokevirtual 177, 115, 0, 1)) rfl) rfl (zCa_V (Nat.le_of_ble_eq_true rfl) rfl hR.tg) ⟨Nat.le_of_ble_eq_true rfl, Nat.le_of_ble_eq_true rfl⟩
theorem b148_14 {σ : zSt} {o : Nat} {sc : Nat → Int32} {ar : Nat → Nat → Int32} {P : Option Value → zSt → Prop} (hR : RShape σ o) {x1 x2 s0 : Int32} :
    wp 148 14 [some (.ref o), some (.int x1), some (.int x2)] [.int s0] (rOv σ o sc ar) P ↔ (if s0 = 0 then wp 148 26 [some (.ref o), some (.int x1), some (.int x2)] [] (rOv σ o sc ar) P else wp 148 17 [some (.ref o), some (.int x1), some (.int x2)] [] (rOv σ o sc ar) P) := by
  exact wp_jump (off := 12) (t := 26) (zcode_of mc_148 (r := (.ifCond .eq 12, 0, 0, 0)) rfl) rfl rfl (by decide)
theorem b148_17 {σ : zSt} {o : Nat} {sc : Nat → Int32} {ar : Nat → Nat → Int32} {P : Option Value → zSt → Prop} (hR : RShape σ o) {x1 x2 : Int32} :
    wp 148 17 [some (.ref o), some (.int x1), some (.int x2)] [] (rOv σ o sc ar) P ↔ wpM 147 [.ref o, .int x1, .int x2] (rOv σ o sc ar) (fun r τ => wp 148 23 [some (.ref o), some (.int x1), some (.int x2)] (r.toList ++ []) τ P) := by
  refine (wp_s (n := 18) (zcode_of mc_148 (r := (.aload_n 0, 0, 0, 0)) rfl) rfl rfl).trans ?_
  refine (wp_s (n := 19) (zcode_of mc_148 (r := (.iload_n 1, 0, 0, 0)) rfl) rfl rfl).trans ?_
  refine (wp_s (n := 20) (zcode_of mc_148 (r := (.iload_n 2, 0, 0, 0)) rfl) rfl rfl).trans ?_
  exact wp_call (q := ([.ref o, .int x1, .int x2], [])) (zcode_of mc_148 (r := (.invokevirtual 221, 147, 0, 2)) rfl) rfl (zCa_V (Nat.le_of_ble_eq_true rfl) rfl hR.tg) ⟨Nat.le_of_ble_eq_true rfl, Nat.le_of_ble_eq_true rfl⟩
theorem b148_23 {σ : zSt} {o : Nat} {sc : Nat → Int32} {ar : Nat → Nat → Int32} {P : Option Value → zSt → Prop} (hR : RShape σ o) {x1 x2 s0 : Int32} :
    wp 148 23 [some (.ref o), some (.int x1), some (.int x2)] [.int s0] (rOv σ o sc ar) P ↔ wp 148 28 [some (.ref o), some (.int x1), some (.int x2)] [.int s0] (rOv σ o sc ar) P := by
  exact wp_goto (off := 5) (t := 28) (zcode_of mc_148 (r := (.goto 5, 0, 0, 0)) rfl) (by decide)
theorem b148_26 {σ : zSt} {o : Nat} {sc : Nat → Int32} {ar : Nat → Nat → Int32} {P : Option Value → zSt → Prop} (hR : RShape σ o) {x1 x2 : Int32} :
    wp 148 26 [some (.ref o), some (.int x1), some (.int x2)] [] (rOv σ o sc ar) P ↔ wp 148 28 [some (.ref o), some (.int x1), some (.int x2)] [.int (-2)] (rOv σ o sc ar) P := by
  refine (wp_bp (n' := 28) rfl (zcode_of mc_148 (r := (.bipush (-2), 0, 0, 0)) rfl) cb_m2).trans ?_
  exact Iff.rfl
theorem b148_28 {σ : zSt} {o : Nat} {sc : Nat → Int32} {ar : Nat → Nat → Int32} {P : Option Value → zSt → Prop} (hR : RShape σ o) {x1 x2 s0 : Int32} :
    wp 148 28 [some (.ref o), some (.int x1), some (.int x2)] [.int s0] (rOv σ o sc ar) P ↔ P (some (.int s0)) (rOv σ o sc ar) := by
  exact wp_retI (zcode_of mc_148 (r := (.ireturn, 0, 0, 0)) rfl) rfl
theorem mc_149 : mCode 149 = zc_149 := rfl
theorem b149 {σ : zSt} {o : Nat} {sc : Nat → Int32} {ar : Nat → Nat → Int32} {P : Option Value → zSt → Prop} (hR : RShape σ o) {x1 x2 : Int32} :
    wpM 149 [.ref o, .int x1, .int x2] (rOv σ o sc ar) P ↔ ((zIn ((40 * x1) + x2) (rlen 37) ∧ ((1 : Int32) = 0 ∨ (1 : Int32) = 1)) ∧ wpM 143 [.ref o, .int x1, .int x2] (rOv σ o sc (upA ar 37 (Int32.toNatClampNeg ((40 * x1) + x2)) 1)) (fun r τ => wp 149 20 [some (.ref o), some (.int x1), some (.int x2), some (.int ((40 * x1) + x2)), none] (r.toList ++ []) τ P)) := by
  show wp 149 0 [some (.ref o), some (.int x1), some (.int x2), none, none] [] (rOv σ o sc ar) P ↔ _
  refine (wp_bp (n' := 2) rfl (zcode_of mc_149 (r := (.bipush 40, 0, 0, 0)) rfl) cb_40).trans ?_
  refine (wp_s (n := 3) (zcode_of mc_149 (r := (.iload_n 1, 0, 0, 0)) rfl) rfl rfl).trans ?_
  refine (wp_s (n := 4) (zcode_of mc_149 (r := (.imul, 0, 0, 0)) rfl) rfl rfl).trans ?_
  refine (wp_s (n := 5) (zcode_of mc_149 (r := (.iload_n 2, 0, 0, 0)) rfl) rfl rfl).trans ?_
  refine (wp_s (n := 6) (zcode_of mc_149 (r := (.iadd, 0, 0, 0)) rfl) rfl rfl).trans ?_
  refine (wp_s (n := 7) (zcode_of mc_149 (r := (.istore_n 3, 0, 0, 0)) rfl) rfl rfl).trans ?_
  refine (wp_s (n := 8) (zcode_of mc_149 (r := (.aload_n 0, 0, 0, 0)) rfl) rfl rfl).trans ?_
  refine (wr_getA (n' := 11) rfl (t := 37) hR (zcode_of mc_149 (r := (.getfield 57, 12, 17, 0)) rfl) rfl rfl).trans ?_
  refine (wp_s (n := 12) (zcode_of mc_149 (r := (.iload_n 3, 0, 0, 0)) rfl) rfl rfl).trans ?_
  refine (wp_ic (n' := 13) rfl (zcode_of mc_149 (r := (.iconst 1, 0, 0, 0)) rfl) ci_1).trans ?_
  refine (wr_stZ (n' := 14) rfl hR (zcode_of mc_149 (r := (.bastore, 0, 0, 0)) rfl) rfl rfl).trans (and_congr Iff.rfl ?_)
  refine (wp_s (n := 15) (zcode_of mc_149 (r := (.aload_n 0, 0, 0, 0)) rfl) rfl rfl).trans ?_
  refine (wp_s (n := 16) (zcode_of mc_149 (r := (.iload_n 1, 0, 0, 0)) rfl) rfl rfl).trans ?_
  refine (wp_s (n := 17) (zcode_of mc_149 (r := (.iload_n 2, 0, 0, 0)) rfl) rfl rfl).trans ?_
  exact wp_call (q := ([.ref o, .int x1, .int x2], [])) (zcode_of mc_149 (r := (.invokevirtual 210, 143, 0, 2)) rfl) rfl (zCa_V (Nat.le_of_ble_eq_true rfl) rfl hR.tg) ⟨Nat.le_of_ble_eq_true rfl, Nat.le_of_ble_eq_true rfl⟩
theorem b149_20 {σ : zSt} {o : Nat} {sc : Nat → Int32} {ar : Nat → Nat → Int32} {P : Option Value → zSt → Prop} (hR : RShape σ o) {x1 x2 x3 : Int32} {u4 : Option Value} :
    wp 149 20 [some (.ref o), some (.int x1), some (.int x2), some (.int x3), u4] [] (rOv σ o sc ar) P ↔ wp 149 23 [some (.ref o), some (.int x1), some (.int x2), some (.int x3), some (.int 0)] [] (rOv σ o sc ar) P := by
  refine (wp_ic (n' := 21) rfl (zcode_of mc_149 (r := (.iconst 0, 0, 0, 0)) rfl) ci_0).trans ?_
  refine (wp_s (n := 23) (zcode_of mc_149 (r := (.istore 4, 0, 0, 0)) rfl) rfl rfl).trans ?_
  exact Iff.rfl
theorem b149_23 {σ : zSt} {o : Nat} {sc : Nat → Int32} {ar : Nat → Nat → Int32} {P : Option Value → zSt → Prop} (hR : RShape σ o) {x1 x2 x3 x4 : Int32} :
    wp 149 23 [some (.ref o), some (.int x1), some (.int x2), some (.int x3), some (.int x4)] [] (rOv σ o sc ar) P ↔ (if (sc 43) ≤ x4 then wp 149 58 [some (.ref o), some (.int x1), some (.int x2), some (.int x3), some (.int x4)] [] (rOv σ o sc ar) P else wp 149 32 [some (.ref o), some (.int x1), some (.int x2), some (.int x3), some (.int x4)] [] (rOv σ o sc ar) P) := by
  refine (wp_s (n := 25) (zcode_of mc_149 (r := (.iload 4, 0, 0, 0)) rfl) rfl rfl).trans ?_
  refine (wp_s (n := 26) (zcode_of mc_149 (r := (.aload_n 0, 0, 0, 0)) rfl) rfl rfl).trans ?_
  refine (wr_getI (n' := 29) rfl hR (zcode_of mc_149 (r := (.getfield 187, 12, 43, 0)) rfl) rfl).trans ?_
  exact wp_jump (off := 29) (t := 58) (zcode_of mc_149 (r := (.if_icmp .ge 29, 0, 0, 0)) rfl) rfl rfl (by decide)
theorem b149_32 {σ : zSt} {o : Nat} {sc : Nat → Int32} {ar : Nat → Nat → Int32} {P : Option Value → zSt → Prop} (hR : RShape σ o) {x1 x2 x3 x4 : Int32} :
    wp 149 32 [some (.ref o), some (.int x1), some (.int x2), some (.int x3), some (.int x4)] [] (rOv σ o sc ar) P ↔ (zIn x4 (rlen 62) ∧ (zIn ((425 * x3) + x4) (rlen 38) ∧ wp 149 23 [some (.ref o), some (.int x1), some (.int x2), some (.int x3), some (.int (x4 + 1))] [] (rOv σ o sc (upA ar 38 (Int32.toNatClampNeg ((425 * x3) + x4)) (ar 62 (Int32.toNatClampNeg x4)))) P)) := by
  refine (wp_s (n := 33) (zcode_of mc_149 (r := (.aload_n 0, 0, 0, 0)) rfl) rfl rfl).trans ?_
  refine (wr_getA (n' := 36) rfl (t := 38) hR (zcode_of mc_149 (r := (.getfield 61, 12, 18, 0)) rfl) rfl rfl).trans ?_
  refine (wp_sp (n' := 39) rfl (zcode_of mc_149 (r := (.sipush 425, 0, 0, 0)) rfl) cs_425).trans ?_
  refine (wp_s (n := 40) (zcode_of mc_149 (r := (.iload_n 3, 0, 0, 0)) rfl) rfl rfl).trans ?_
  refine (wp_s (n := 41) (zcode_of mc_149 (r := (.imul, 0, 0, 0)) rfl) rfl rfl).trans ?_
  refine (wp_s (n := 43) (zcode_of mc_149 (r := (.iload 4, 0, 0, 0)) rfl) rfl rfl).trans ?_
  refine (wp_s (n := 44) (zcode_of mc_149 (r := (.iadd, 0, 0, 0)) rfl) rfl rfl).trans ?_
  refine (wp_s (n := 45) (zcode_of mc_149 (r := (.aload_n 0, 0, 0, 0)) rfl) rfl rfl).trans ?_
  refine (wr_getA (n' := 48) rfl (t := 62) hR (zcode_of mc_149 (r := (.getfield 116, 12, 42, 0)) rfl) rfl rfl).trans ?_
  refine (wp_s (n := 50) (zcode_of mc_149 (r := (.iload 4, 0, 0, 0)) rfl) rfl rfl).trans ?_
  refine (wr_ld (n' := 51) rfl hR (zcode_of mc_149 (r := (.iaload, 0, 0, 0)) rfl) rfl rfl).trans (and_congr Iff.rfl ?_)
  refine (wr_st (n' := 52) rfl hR (zcode_of mc_149 (r := (.iastore, 0, 0, 0)) rfl) rfl rfl).trans (and_congr Iff.rfl ?_)
  refine (wp_inc (n' := 55) rfl (zcode_of mc_149 (r := (.iinc 4 1, 0, 0, 0)) rfl) rfl rfl ci_1).trans ?_
  exact wp_goto (off := (-32)) (t := 23) (zcode_of mc_149 (r := (.goto (-32), 0, 0, 0)) rfl) (by decide)
theorem b149_58 {σ : zSt} {o : Nat} {sc : Nat → Int32} {ar : Nat → Nat → Int32} {P : Option Value → zSt → Prop} (hR : RShape σ o) {x1 x2 x3 x4 : Int32} :
    wp 149 58 [some (.ref o), some (.int x1), some (.int x2), some (.int x3), some (.int x4)] [] (rOv σ o sc ar) P ↔ wp 149 61 [some (.ref o), some (.int x1), some (.int x2), some (.int x3), some (.int 0)] [] (rOv σ o sc ar) P := by
  refine (wp_ic (n' := 59) rfl (zcode_of mc_149 (r := (.iconst 0, 0, 0, 0)) rfl) ci_0).trans ?_
  refine (wp_s (n := 61) (zcode_of mc_149 (r := (.istore 4, 0, 0, 0)) rfl) rfl rfl).trans ?_
  exact Iff.rfl
theorem b149_61 {σ : zSt} {o : Nat} {sc : Nat → Int32} {ar : Nat → Nat → Int32} {P : Option Value → zSt → Prop} (hR : RShape σ o) {x1 x2 x3 x4 : Int32} :
    wp 149 61 [some (.ref o), some (.int x1), some (.int x2), some (.int x3), some (.int x4)] [] (rOv σ o sc ar) P ↔ (zIn x2 (rlen 31) ∧ (if (ar 31 (Int32.toNatClampNeg x2)) < x4 then wp 149 97 [some (.ref o), some (.int x1), some (.int x2), some (.int x3), some (.int x4)] [] (rOv σ o sc ar) P else wp 149 72 [some (.ref o), some (.int x1), some (.int x2), some (.int x3), some (.int x4)] [] (rOv σ o sc ar) P)) := by
  refine (wp_s (n := 63) (zcode_of mc_149 (r := (.iload 4, 0, 0, 0)) rfl) rfl rfl).trans ?_
  refine (wp_s (n := 64) (zcode_of mc_149 (r := (.aload_n 0, 0, 0, 0)) rfl) rfl rfl).trans ?_
  refine (wr_getA (n' := 67) rfl (t := 31) hR (zcode_of mc_149 (r := (.getfield 39, 12, 11, 0)) rfl) rfl rfl).trans ?_
  refine (wp_s (n := 68) (zcode_of mc_149 (r := (.iload_n 2, 0, 0, 0)) rfl) rfl rfl).trans ?_
  refine (wr_ld (n' := 69) rfl hR (zcode_of mc_149 (r := (.iaload, 0, 0, 0)) rfl) rfl rfl).trans (and_congr Iff.rfl ?_)
  exact wp_jump (off := 28) (t := 97) (zcode_of mc_149 (r := (.if_icmp .gt 28, 0, 0, 0)) rfl) rfl rfl (by decide)
theorem b149_72 {σ : zSt} {o : Nat} {sc : Nat → Int32} {ar : Nat → Nat → Int32} {P : Option Value → zSt → Prop} (hR : RShape σ o) {x1 x2 x3 x4 : Int32} :
    wp 149 72 [some (.ref o), some (.int x1), some (.int x2), some (.int x3), some (.int x4)] [] (rOv σ o sc ar) P ↔ (zIn x4 (rlen 64) ∧ (zIn ((7 * x3) + x4) (rlen 39) ∧ wp 149 61 [some (.ref o), some (.int x1), some (.int x2), some (.int x3), some (.int (x4 + 1))] [] (rOv σ o sc (upA ar 39 (Int32.toNatClampNeg ((7 * x3) + x4)) (ar 64 (Int32.toNatClampNeg x4)))) P)) := by
  refine (wp_s (n := 73) (zcode_of mc_149 (r := (.aload_n 0, 0, 0, 0)) rfl) rfl rfl).trans ?_
  refine (wr_getA (n' := 76) rfl (t := 39) hR (zcode_of mc_149 (r := (.getfield 64, 12, 19, 0)) rfl) rfl rfl).trans ?_
  refine (wp_bp (n' := 78) rfl (zcode_of mc_149 (r := (.bipush 7, 0, 0, 0)) rfl) cb_7).trans ?_
  refine (wp_s (n := 79) (zcode_of mc_149 (r := (.iload_n 3, 0, 0, 0)) rfl) rfl rfl).trans ?_
  refine (wp_s (n := 80) (zcode_of mc_149 (r := (.imul, 0, 0, 0)) rfl) rfl rfl).trans ?_
  refine (wp_s (n := 82) (zcode_of mc_149 (r := (.iload 4, 0, 0, 0)) rfl) rfl rfl).trans ?_
  refine (wp_s (n := 83) (zcode_of mc_149 (r := (.iadd, 0, 0, 0)) rfl) rfl rfl).trans ?_
  refine (wp_s (n := 84) (zcode_of mc_149 (r := (.aload_n 0, 0, 0, 0)) rfl) rfl rfl).trans ?_
  refine (wr_getA (n' := 87) rfl (t := 64) hR (zcode_of mc_149 (r := (.getfield 119, 12, 44, 0)) rfl) rfl rfl).trans ?_
  refine (wp_s (n := 89) (zcode_of mc_149 (r := (.iload 4, 0, 0, 0)) rfl) rfl rfl).trans ?_
  refine (wr_ld (n' := 90) rfl hR (zcode_of mc_149 (r := (.iaload, 0, 0, 0)) rfl) rfl rfl).trans (and_congr Iff.rfl ?_)
  refine (wr_st (n' := 91) rfl hR (zcode_of mc_149 (r := (.iastore, 0, 0, 0)) rfl) rfl rfl).trans (and_congr Iff.rfl ?_)
  refine (wp_inc (n' := 94) rfl (zcode_of mc_149 (r := (.iinc 4 1, 0, 0, 0)) rfl) rfl rfl ci_1).trans ?_
  exact wp_goto (off := (-33)) (t := 61) (zcode_of mc_149 (r := (.goto (-33), 0, 0, 0)) rfl) (by decide)
theorem b149_97 {σ : zSt} {o : Nat} {sc : Nat → Int32} {ar : Nat → Nat → Int32} {P : Option Value → zSt → Prop} (hR : RShape σ o) {x1 x2 x3 x4 : Int32} :
    wp 149 97 [some (.ref o), some (.int x1), some (.int x2), some (.int x3), some (.int x4)] [] (rOv σ o sc ar) P ↔ P none (rOv σ o sc ar) := by
  exact wp_retV (zcode_of mc_149 (r := (.return_, 0, 0, 0)) rfl) rfl
theorem mc_150 : mCode 150 = zc_150 := rfl
theorem b150 {σ : zSt} {o : Nat} {sc : Nat → Int32} {ar : Nat → Nat → Int32} {P : Option Value → zSt → Prop} (hR : RShape σ o) {x1 : Int32} :
    wpM 150 [.ref o, .int x1] (rOv σ o sc ar) P ↔ (if ¬ (sc 48) = 64 then wp 150 17 [some (.ref o), some (.int x1)] [] (rOv σ o sc ar) P else wp 150 9 [some (.ref o), some (.int x1)] [] (rOv σ o sc ar) P) := by
  show wp 150 0 [some (.ref o), some (.int x1)] [] (rOv σ o sc ar) P ↔ _
  refine (wp_s (n := 1) (zcode_of mc_150 (r := (.aload_n 0, 0, 0, 0)) rfl) rfl rfl).trans ?_
  refine (wr_getI (n' := 4) rfl hR (zcode_of mc_150 (r := (.getfield 225, 12, 48, 0)) rfl) rfl).trans ?_
  refine (wp_bp (n' := 6) rfl (zcode_of mc_150 (r := (.bipush 64, 0, 0, 0)) rfl) cb_64).trans ?_
  exact wp_jump (off := 11) (t := 17) (zcode_of mc_150 (r := (.if_icmp .ne 11, 0, 0, 0)) rfl) rfl rfl (by decide)
theorem b150_9 {σ : zSt} {o : Nat} {sc : Nat → Int32} {ar : Nat → Nat → Int32} {P : Option Value → zSt → Prop} (hR : RShape σ o) {x1 : Int32} :
    wp 150 9 [some (.ref o), some (.int x1)] [] (rOv σ o sc ar) P ↔ wp 150 37 [some (.ref o), some (.int x1)] [] (rOv σ o (upS sc 49 2) ar) P := by
  refine (wp_s (n := 10) (zcode_of mc_150 (r := (.aload_n 0, 0, 0, 0)) rfl) rfl rfl).trans ?_
  refine (wp_ic (n' := 11) rfl (zcode_of mc_150 (r := (.iconst 2, 0, 0, 0)) rfl) ci_2).trans ?_
  refine (wr_put (n' := 14) rfl hR (zcode_of mc_150 (r := (.putfield 228, 12, 49, 0)) rfl) rfl).trans ?_
  exact wp_goto (off := 23) (t := 37) (zcode_of mc_150 (r := (.goto 23, 0, 0, 0)) rfl) (by decide)
theorem b150_17 {σ : zSt} {o : Nat} {sc : Nat → Int32} {ar : Nat → Nat → Int32} {P : Option Value → zSt → Prop} (hR : RShape σ o) {x1 : Int32} :
    wp 150 17 [some (.ref o), some (.int x1)] [] (rOv σ o sc ar) P ↔ (zIn (sc 48) (rlen 67) ∧ wp 150 37 [some (.ref o), some (.int x1)] [] (rOv σ o (upS sc 48 ((sc 48) + 1)) (upA ar 67 (Int32.toNatClampNeg (sc 48)) x1)) P) := by
  refine (wp_s (n := 18) (zcode_of mc_150 (r := (.aload_n 0, 0, 0, 0)) rfl) rfl rfl).trans ?_
  refine (wr_getA (n' := 21) rfl (t := 67) hR (zcode_of mc_150 (r := (.getfield 125, 12, 47, 0)) rfl) rfl rfl).trans ?_
  refine (wp_s (n := 22) (zcode_of mc_150 (r := (.aload_n 0, 0, 0, 0)) rfl) rfl rfl).trans ?_
  refine (wr_getI (n' := 25) rfl hR (zcode_of mc_150 (r := (.getfield 225, 12, 48, 0)) rfl) rfl).trans ?_
  refine (wp_s (n := 26) (zcode_of mc_150 (r := (.iload_n 1, 0, 0, 0)) rfl) rfl rfl).trans ?_
  refine (wr_st (n' := 27) rfl hR (zcode_of mc_150 (r := (.iastore, 0, 0, 0)) rfl) rfl rfl).trans (and_congr Iff.rfl ?_)
  refine (wp_s (n := 28) (zcode_of mc_150 (r := (.aload_n 0, 0, 0, 0)) rfl) rfl rfl).trans ?_
  refine (wp_s (n := 29) (zcode_of mc_150 (r := (.dup, 0, 0, 0)) rfl) rfl rfl).trans ?_
  refine (wr_getI (n' := 32) rfl hR (zcode_of mc_150 (r := (.getfield 225, 12, 48, 0)) rfl) rfl).trans ?_
  refine (wp_ic (n' := 33) rfl (zcode_of mc_150 (r := (.iconst 1, 0, 0, 0)) rfl) ci_1).trans ?_
  refine (wp_s (n := 34) (zcode_of mc_150 (r := (.iadd, 0, 0, 0)) rfl) rfl rfl).trans ?_
  refine (wr_put (n' := 37) rfl hR (zcode_of mc_150 (r := (.putfield 225, 12, 48, 0)) rfl) rfl).trans ?_
  exact Iff.rfl
theorem b150_37 {σ : zSt} {o : Nat} {sc : Nat → Int32} {ar : Nat → Nat → Int32} {P : Option Value → zSt → Prop} (hR : RShape σ o) {x1 : Int32} :
    wp 150 37 [some (.ref o), some (.int x1)] [] (rOv σ o sc ar) P ↔ P none (rOv σ o sc ar) := by
  exact wp_retV (zcode_of mc_150 (r := (.return_, 0, 0, 0)) rfl) rfl
theorem mc_151 : mCode 151 = zc_151 := rfl
theorem b151 {σ : zSt} {o : Nat} {sc : Nat → Int32} {ar : Nat → Nat → Int32} {P : Option Value → zSt → Prop} (hR : RShape σ o) {x1 : Int32} :
    wpM 151 [.ref o, .int x1] (rOv σ o sc ar) P ↔ wp 151 7 [some (.ref o), some (.int x1), some (.int 1), none] [] (rOv σ o (upS sc 48 0) ar) P := by
  show wp 151 0 [some (.ref o), some (.int x1), none, none] [] (rOv σ o sc ar) P ↔ _
  refine (wp_s (n := 1) (zcode_of mc_151 (r := (.aload_n 0, 0, 0, 0)) rfl) rfl rfl).trans ?_
  refine (wp_ic (n' := 2) rfl (zcode_of mc_151 (r := (.iconst 0, 0, 0, 0)) rfl) ci_0).trans ?_
  refine (wr_put (n' := 5) rfl hR (zcode_of mc_151 (r := (.putfield 225, 12, 48, 0)) rfl) rfl).trans ?_
  refine (wp_ic (n' := 6) rfl (zcode_of mc_151 (r := (.iconst 1, 0, 0, 0)) rfl) ci_1).trans ?_
  refine (wp_s (n := 7) (zcode_of mc_151 (r := (.istore_n 2, 0, 0, 0)) rfl) rfl rfl).trans ?_
  exact Iff.rfl
theorem b151_7 {σ : zSt} {o : Nat} {sc : Nat → Int32} {ar : Nat → Nat → Int32} {P : Option Value → zSt → Prop} (hR : RShape σ o) {x1 x2 : Int32} {u3 : Option Value} :
    wp 151 7 [some (.ref o), some (.int x1), some (.int x2), u3] [] (rOv σ o sc ar) P ↔ (¬ (x2 : Int32) = 0 ∧ (if (x1 / x2) ≤ 9 then wp 151 23 [some (.ref o), some (.int x1), some (.int x2), u3] [] (rOv σ o sc ar) P else wp 151 15 [some (.ref o), some (.int x1), some (.int x2), u3] [] (rOv σ o sc ar) P)) := by
  refine (wp_s (n := 8) (zcode_of mc_151 (r := (.iload_n 1, 0, 0, 0)) rfl) rfl rfl).trans ?_
  refine (wp_s (n := 9) (zcode_of mc_151 (r := (.iload_n 2, 0, 0, 0)) rfl) rfl rfl).trans ?_
  refine (wp_div (n' := 10) rfl (zcode_of mc_151 (r := (.idiv, 0, 0, 0)) rfl)).trans (and_congr Iff.rfl ?_)
  refine (wp_bp (n' := 12) rfl (zcode_of mc_151 (r := (.bipush 9, 0, 0, 0)) rfl) cb_9).trans ?_
  exact wp_jump (off := 11) (t := 23) (zcode_of mc_151 (r := (.if_icmp .le 11, 0, 0, 0)) rfl) rfl rfl (by decide)
theorem b151_15 {σ : zSt} {o : Nat} {sc : Nat → Int32} {ar : Nat → Nat → Int32} {P : Option Value → zSt → Prop} (hR : RShape σ o) {x1 x2 : Int32} {u3 : Option Value} :
    wp 151 15 [some (.ref o), some (.int x1), some (.int x2), u3] [] (rOv σ o sc ar) P ↔ wp 151 7 [some (.ref o), some (.int x1), some (.int (x2 * 10)), u3] [] (rOv σ o sc ar) P := by
  refine (wp_s (n := 16) (zcode_of mc_151 (r := (.iload_n 2, 0, 0, 0)) rfl) rfl rfl).trans ?_
  refine (wp_bp (n' := 18) rfl (zcode_of mc_151 (r := (.bipush 10, 0, 0, 0)) rfl) cb_10).trans ?_
  refine (wp_s (n := 19) (zcode_of mc_151 (r := (.imul, 0, 0, 0)) rfl) rfl rfl).trans ?_
  refine (wp_s (n := 20) (zcode_of mc_151 (r := (.istore_n 2, 0, 0, 0)) rfl) rfl rfl).trans ?_
  exact wp_goto (off := (-13)) (t := 7) (zcode_of mc_151 (r := (.goto (-13), 0, 0, 0)) rfl) (by decide)
theorem b151_23 {σ : zSt} {o : Nat} {sc : Nat → Int32} {ar : Nat → Nat → Int32} {P : Option Value → zSt → Prop} (hR : RShape σ o) {x1 x2 : Int32} {u3 : Option Value} :
    wp 151 23 [some (.ref o), some (.int x1), some (.int x2), u3] [] (rOv σ o sc ar) P ↔ wp 151 25 [some (.ref o), some (.int x1), some (.int x2), some (.int x2)] [] (rOv σ o sc ar) P := by
  refine (wp_s (n := 24) (zcode_of mc_151 (r := (.iload_n 2, 0, 0, 0)) rfl) rfl rfl).trans ?_
  refine (wp_s (n := 25) (zcode_of mc_151 (r := (.istore_n 3, 0, 0, 0)) rfl) rfl rfl).trans ?_
  exact Iff.rfl
theorem b151_25 {σ : zSt} {o : Nat} {sc : Nat → Int32} {ar : Nat → Nat → Int32} {P : Option Value → zSt → Prop} (hR : RShape σ o) {x1 x2 x3 : Int32} :
    wp 151 25 [some (.ref o), some (.int x1), some (.int x2), some (.int x3)] [] (rOv σ o sc ar) P ↔ (if x3 ≤ 0 then wp 151 50 [some (.ref o), some (.int x1), some (.int x2), some (.int x3)] [] (rOv σ o sc ar) P else wp 151 29 [some (.ref o), some (.int x1), some (.int x2), some (.int x3)] [] (rOv σ o sc ar) P) := by
  refine (wp_s (n := 26) (zcode_of mc_151 (r := (.iload_n 3, 0, 0, 0)) rfl) rfl rfl).trans ?_
  exact wp_jump (off := 24) (t := 50) (zcode_of mc_151 (r := (.ifCond .le 24, 0, 0, 0)) rfl) rfl rfl (by decide)
theorem b151_29 {σ : zSt} {o : Nat} {sc : Nat → Int32} {ar : Nat → Nat → Int32} {P : Option Value → zSt → Prop} (hR : RShape σ o) {x1 x2 x3 : Int32} :
    wp 151 29 [some (.ref o), some (.int x1), some (.int x2), some (.int x3)] [] (rOv σ o sc ar) P ↔ (¬ (x3 : Int32) = 0 ∧ (¬ (10 : Int32) = 0 ∧ wpM 150 [.ref o, .int (48 + ((x1 / x3) - (x1 / x3) / 10 * 10))] (rOv σ o sc ar) (fun r τ => wp 151 42 [some (.ref o), some (.int x1), some (.int x2), some (.int x3)] (r.toList ++ []) τ P))) := by
  refine (wp_s (n := 30) (zcode_of mc_151 (r := (.aload_n 0, 0, 0, 0)) rfl) rfl rfl).trans ?_
  refine (wp_bp (n' := 32) rfl (zcode_of mc_151 (r := (.bipush 48, 0, 0, 0)) rfl) cb_48).trans ?_
  refine (wp_s (n := 33) (zcode_of mc_151 (r := (.iload_n 1, 0, 0, 0)) rfl) rfl rfl).trans ?_
  refine (wp_s (n := 34) (zcode_of mc_151 (r := (.iload_n 3, 0, 0, 0)) rfl) rfl rfl).trans ?_
  refine (wp_div (n' := 35) rfl (zcode_of mc_151 (r := (.idiv, 0, 0, 0)) rfl)).trans (and_congr Iff.rfl ?_)
  refine (wp_bp (n' := 37) rfl (zcode_of mc_151 (r := (.bipush 10, 0, 0, 0)) rfl) cb_10).trans ?_
  refine (wp_rem (n' := 38) rfl (zcode_of mc_151 (r := (.irem, 0, 0, 0)) rfl)).trans (and_congr Iff.rfl ?_)
  refine (wp_s (n := 39) (zcode_of mc_151 (r := (.iadd, 0, 0, 0)) rfl) rfl rfl).trans ?_
  exact wp_call (q := ([.ref o, .int (48 + ((x1 / x3) - (x1 / x3) / 10 * 10))], [])) (zcode_of mc_151 (r := (.invokevirtual 231, 150, 0, 1)) rfl) rfl (zCa_V (Nat.le_of_ble_eq_true rfl) rfl hR.tg) ⟨Nat.le_of_ble_eq_true rfl, Nat.le_of_ble_eq_true rfl⟩
theorem b151_42 {σ : zSt} {o : Nat} {sc : Nat → Int32} {ar : Nat → Nat → Int32} {P : Option Value → zSt → Prop} (hR : RShape σ o) {x1 x2 x3 : Int32} :
    wp 151 42 [some (.ref o), some (.int x1), some (.int x2), some (.int x3)] [] (rOv σ o sc ar) P ↔ (¬ (10 : Int32) = 0 ∧ wp 151 25 [some (.ref o), some (.int x1), some (.int x2), some (.int (x3 / 10))] [] (rOv σ o sc ar) P) := by
  refine (wp_s (n := 43) (zcode_of mc_151 (r := (.iload_n 3, 0, 0, 0)) rfl) rfl rfl).trans ?_
  refine (wp_bp (n' := 45) rfl (zcode_of mc_151 (r := (.bipush 10, 0, 0, 0)) rfl) cb_10).trans ?_
  refine (wp_div (n' := 46) rfl (zcode_of mc_151 (r := (.idiv, 0, 0, 0)) rfl)).trans (and_congr Iff.rfl ?_)
  refine (wp_s (n := 47) (zcode_of mc_151 (r := (.istore_n 3, 0, 0, 0)) rfl) rfl rfl).trans ?_
  exact wp_goto (off := (-22)) (t := 25) (zcode_of mc_151 (r := (.goto (-22), 0, 0, 0)) rfl) (by decide)
theorem b151_50 {σ : zSt} {o : Nat} {sc : Nat → Int32} {ar : Nat → Nat → Int32} {P : Option Value → zSt → Prop} (hR : RShape σ o) {x1 x2 x3 : Int32} :
    wp 151 50 [some (.ref o), some (.int x1), some (.int x2), some (.int x3)] [] (rOv σ o sc ar) P ↔ P none (rOv σ o sc ar) := by
  exact wp_retV (zcode_of mc_151 (r := (.return_, 0, 0, 0)) rfl) rfl
theorem mc_152 : mCode 152 = zc_152 := rfl
theorem b152 {σ : zSt} {o : Nat} {sc : Nat → Int32} {ar : Nat → Nat → Int32} {P : Option Value → zSt → Prop} (hR : RShape σ o) {x1 x2 : Int32} :
    wpM 152 [.ref o, .int x1, .int x2] (rOv σ o sc ar) P ↔ (zIn x2 (rlen 23) ∧ (if (ar 23 (Int32.toNatClampNeg x2)) = 0 then wp 152 24 [some (.ref o), some (.int x1), some (.int x2), some (.int ((60 * x1) + x2)), none] [] (rOv σ o sc ar) P else wp 152 16 [some (.ref o), some (.int x1), some (.int x2), some (.int ((60 * x1) + x2)), none] [] (rOv σ o sc ar) P)) := by
  show wp 152 0 [some (.ref o), some (.int x1), some (.int x2), none, none] [] (rOv σ o sc ar) P ↔ _
  refine (wp_bp (n' := 2) rfl (zcode_of mc_152 (r := (.bipush 60, 0, 0, 0)) rfl) cb_60).trans ?_
  refine (wp_s (n := 3) (zcode_of mc_152 (r := (.iload_n 1, 0, 0, 0)) rfl) rfl rfl).trans ?_
  refine (wp_s (n := 4) (zcode_of mc_152 (r := (.imul, 0, 0, 0)) rfl) rfl rfl).trans ?_
  refine (wp_s (n := 5) (zcode_of mc_152 (r := (.iload_n 2, 0, 0, 0)) rfl) rfl rfl).trans ?_
  refine (wp_s (n := 6) (zcode_of mc_152 (r := (.iadd, 0, 0, 0)) rfl) rfl rfl).trans ?_
  refine (wp_s (n := 7) (zcode_of mc_152 (r := (.istore_n 3, 0, 0, 0)) rfl) rfl rfl).trans ?_
  refine (wp_s (n := 8) (zcode_of mc_152 (r := (.aload_n 0, 0, 0, 0)) rfl) rfl rfl).trans ?_
  refine (wr_getA (n' := 11) rfl (t := 23) hR (zcode_of mc_152 (r := (.getfield 20, 12, 3, 0)) rfl) rfl rfl).trans ?_
  refine (wp_s (n := 12) (zcode_of mc_152 (r := (.iload_n 2, 0, 0, 0)) rfl) rfl rfl).trans ?_
  refine (wr_ldZ (n' := 13) rfl hR (zcode_of mc_152 (r := (.baload, 0, 0, 0)) rfl) rfl rfl).trans (and_congr Iff.rfl ?_)
  exact wp_jump (off := 11) (t := 24) (zcode_of mc_152 (r := (.ifCond .eq 11, 0, 0, 0)) rfl) rfl rfl (by decide)
theorem b152_16 {σ : zSt} {o : Nat} {sc : Nat → Int32} {ar : Nat → Nat → Int32} {P : Option Value → zSt → Prop} (hR : RShape σ o) {x1 x2 x3 : Int32} {u4 : Option Value} :
    wp 152 16 [some (.ref o), some (.int x1), some (.int x2), some (.int x3), u4] [] (rOv σ o sc ar) P ↔ wp 152 78 [some (.ref o), some (.int x1), some (.int x2), some (.int x3), u4] [] (rOv σ o (upS sc 49 4) ar) P := by
  refine (wp_s (n := 17) (zcode_of mc_152 (r := (.aload_n 0, 0, 0, 0)) rfl) rfl rfl).trans ?_
  refine (wp_ic (n' := 18) rfl (zcode_of mc_152 (r := (.iconst 4, 0, 0, 0)) rfl) ci_4).trans ?_
  refine (wr_put (n' := 21) rfl hR (zcode_of mc_152 (r := (.putfield 228, 12, 49, 0)) rfl) rfl).trans ?_
  exact wp_goto (off := 57) (t := 78) (zcode_of mc_152 (r := (.goto 57, 0, 0, 0)) rfl) (by decide)
theorem b152_24 {σ : zSt} {o : Nat} {sc : Nat → Int32} {ar : Nat → Nat → Int32} {P : Option Value → zSt → Prop} (hR : RShape σ o) {x1 x2 x3 : Int32} {u4 : Option Value} :
    wp 152 24 [some (.ref o), some (.int x1), some (.int x2), some (.int x3), u4] [] (rOv σ o sc ar) P ↔ (zIn x3 (rlen 25) ∧ (if ¬ (ar 25 (Int32.toNatClampNeg x3)) = (-1) then wp 152 42 [some (.ref o), some (.int x1), some (.int x2), some (.int x3), u4] [] (rOv σ o sc ar) P else wp 152 34 [some (.ref o), some (.int x1), some (.int x2), some (.int x3), u4] [] (rOv σ o sc ar) P)) := by
  refine (wp_s (n := 25) (zcode_of mc_152 (r := (.aload_n 0, 0, 0, 0)) rfl) rfl rfl).trans ?_
  refine (wr_getA (n' := 28) rfl (t := 25) hR (zcode_of mc_152 (r := (.getfield 27, 12, 5, 0)) rfl) rfl rfl).trans ?_
  refine (wp_s (n := 29) (zcode_of mc_152 (r := (.iload_n 3, 0, 0, 0)) rfl) rfl rfl).trans ?_
  refine (wr_ld (n' := 30) rfl hR (zcode_of mc_152 (r := (.iaload, 0, 0, 0)) rfl) rfl rfl).trans (and_congr Iff.rfl ?_)
  refine (wp_ic (n' := 31) rfl (zcode_of mc_152 (r := (.iconst (-1), 0, 0, 0)) rfl) ci_m1).trans ?_
  exact wp_jump (off := 11) (t := 42) (zcode_of mc_152 (r := (.if_icmp .ne 11, 0, 0, 0)) rfl) rfl rfl (by decide)
theorem b152_34 {σ : zSt} {o : Nat} {sc : Nat → Int32} {ar : Nat → Nat → Int32} {P : Option Value → zSt → Prop} (hR : RShape σ o) {x1 x2 x3 : Int32} {u4 : Option Value} :
    wp 152 34 [some (.ref o), some (.int x1), some (.int x2), some (.int x3), u4] [] (rOv σ o sc ar) P ↔ wp 152 78 [some (.ref o), some (.int x1), some (.int x2), some (.int x3), u4] [] (rOv σ o (upS sc 49 1) ar) P := by
  refine (wp_s (n := 35) (zcode_of mc_152 (r := (.aload_n 0, 0, 0, 0)) rfl) rfl rfl).trans ?_
  refine (wp_ic (n' := 36) rfl (zcode_of mc_152 (r := (.iconst 1, 0, 0, 0)) rfl) ci_1).trans ?_
  refine (wr_put (n' := 39) rfl hR (zcode_of mc_152 (r := (.putfield 228, 12, 49, 0)) rfl) rfl).trans ?_
  exact wp_goto (off := 39) (t := 78) (zcode_of mc_152 (r := (.goto 39, 0, 0, 0)) rfl) (by decide)
theorem b152_42 {σ : zSt} {o : Nat} {sc : Nat → Int32} {ar : Nat → Nat → Int32} {P : Option Value → zSt → Prop} (hR : RShape σ o) {x1 x2 x3 : Int32} {u4 : Option Value} :
    wp 152 42 [some (.ref o), some (.int x1), some (.int x2), some (.int x3), u4] [] (rOv σ o sc ar) P ↔ wp 152 45 [some (.ref o), some (.int x1), some (.int x2), some (.int x3), some (.int 0)] [] (rOv σ o sc ar) P := by
  refine (wp_ic (n' := 43) rfl (zcode_of mc_152 (r := (.iconst 0, 0, 0, 0)) rfl) ci_0).trans ?_
  refine (wp_s (n := 45) (zcode_of mc_152 (r := (.istore 4, 0, 0, 0)) rfl) rfl rfl).trans ?_
  exact Iff.rfl
theorem b152_45 {σ : zSt} {o : Nat} {sc : Nat → Int32} {ar : Nat → Nat → Int32} {P : Option Value → zSt → Prop} (hR : RShape σ o) {x1 x2 x3 x4 : Int32} :
    wp 152 45 [some (.ref o), some (.int x1), some (.int x2), some (.int x3), some (.int x4)] [] (rOv σ o sc ar) P ↔ (zIn x3 (rlen 25) ∧ (if (ar 25 (Int32.toNatClampNeg x3)) ≤ x4 then wp 152 78 [some (.ref o), some (.int x1), some (.int x2), some (.int x3), some (.int x4)] [] (rOv σ o sc ar) P else wp 152 56 [some (.ref o), some (.int x1), some (.int x2), some (.int x3), some (.int x4)] [] (rOv σ o sc ar) P)) := by
  refine (wp_s (n := 47) (zcode_of mc_152 (r := (.iload 4, 0, 0, 0)) rfl) rfl rfl).trans ?_
  refine (wp_s (n := 48) (zcode_of mc_152 (r := (.aload_n 0, 0, 0, 0)) rfl) rfl rfl).trans ?_
  refine (wr_getA (n' := 51) rfl (t := 25) hR (zcode_of mc_152 (r := (.getfield 27, 12, 5, 0)) rfl) rfl rfl).trans ?_
  refine (wp_s (n := 52) (zcode_of mc_152 (r := (.iload_n 3, 0, 0, 0)) rfl) rfl rfl).trans ?_
  refine (wr_ld (n' := 53) rfl hR (zcode_of mc_152 (r := (.iaload, 0, 0, 0)) rfl) rfl rfl).trans (and_congr Iff.rfl ?_)
  exact wp_jump (off := 25) (t := 78) (zcode_of mc_152 (r := (.if_icmp .ge 25, 0, 0, 0)) rfl) rfl rfl (by decide)
theorem b152_56 {σ : zSt} {o : Nat} {sc : Nat → Int32} {ar : Nat → Nat → Int32} {P : Option Value → zSt → Prop} (hR : RShape σ o) {x1 x2 x3 x4 : Int32} :
    wp 152 56 [some (.ref o), some (.int x1), some (.int x2), some (.int x3), some (.int x4)] [] (rOv σ o sc ar) P ↔ (zIn ((64 * x3) + x4) (rlen 26) ∧ wpM 150 [.ref o, .int (ar 26 (Int32.toNatClampNeg ((64 * x3) + x4)))] (rOv σ o sc ar) (fun r τ => wp 152 72 [some (.ref o), some (.int x1), some (.int x2), some (.int x3), some (.int x4)] (r.toList ++ []) τ P)) := by
  refine (wp_s (n := 57) (zcode_of mc_152 (r := (.aload_n 0, 0, 0, 0)) rfl) rfl rfl).trans ?_
  refine (wp_s (n := 58) (zcode_of mc_152 (r := (.aload_n 0, 0, 0, 0)) rfl) rfl rfl).trans ?_
  refine (wr_getA (n' := 61) rfl (t := 26) hR (zcode_of mc_152 (r := (.getfield 30, 12, 6, 0)) rfl) rfl rfl).trans ?_
  refine (wp_bp (n' := 63) rfl (zcode_of mc_152 (r := (.bipush 64, 0, 0, 0)) rfl) cb_64).trans ?_
  refine (wp_s (n := 64) (zcode_of mc_152 (r := (.iload_n 3, 0, 0, 0)) rfl) rfl rfl).trans ?_
  refine (wp_s (n := 65) (zcode_of mc_152 (r := (.imul, 0, 0, 0)) rfl) rfl rfl).trans ?_
  refine (wp_s (n := 67) (zcode_of mc_152 (r := (.iload 4, 0, 0, 0)) rfl) rfl rfl).trans ?_
  refine (wp_s (n := 68) (zcode_of mc_152 (r := (.iadd, 0, 0, 0)) rfl) rfl rfl).trans ?_
  refine (wr_ld (n' := 69) rfl hR (zcode_of mc_152 (r := (.iaload, 0, 0, 0)) rfl) rfl rfl).trans (and_congr Iff.rfl ?_)
  exact wp_call (q := ([.ref o, .int (ar 26 (Int32.toNatClampNeg ((64 * x3) + x4)))], [])) (zcode_of mc_152 (r := (.invokevirtual 231, 150, 0, 1)) rfl) rfl (zCa_V (Nat.le_of_ble_eq_true rfl) rfl hR.tg) ⟨Nat.le_of_ble_eq_true rfl, Nat.le_of_ble_eq_true rfl⟩
theorem b152_72 {σ : zSt} {o : Nat} {sc : Nat → Int32} {ar : Nat → Nat → Int32} {P : Option Value → zSt → Prop} (hR : RShape σ o) {x1 x2 x3 x4 : Int32} :
    wp 152 72 [some (.ref o), some (.int x1), some (.int x2), some (.int x3), some (.int x4)] [] (rOv σ o sc ar) P ↔ wp 152 45 [some (.ref o), some (.int x1), some (.int x2), some (.int x3), some (.int (x4 + 1))] [] (rOv σ o sc ar) P := by
  refine (wp_inc (n' := 75) rfl (zcode_of mc_152 (r := (.iinc 4 1, 0, 0, 0)) rfl) rfl rfl ci_1).trans ?_
  exact wp_goto (off := (-30)) (t := 45) (zcode_of mc_152 (r := (.goto (-30), 0, 0, 0)) rfl) (by decide)
theorem b152_78 {σ : zSt} {o : Nat} {sc : Nat → Int32} {ar : Nat → Nat → Int32} {P : Option Value → zSt → Prop} (hR : RShape σ o) {x1 x2 x3 : Int32} {u4 : Option Value} :
    wp 152 78 [some (.ref o), some (.int x1), some (.int x2), some (.int x3), u4] [] (rOv σ o sc ar) P ↔ P none (rOv σ o sc ar) := by
  exact wp_retV (zcode_of mc_152 (r := (.return_, 0, 0, 0)) rfl) rfl
theorem mc_153 : mCode 153 = zc_153 := rfl
theorem b153 {σ : zSt} {o : Nat} {sc : Nat → Int32} {ar : Nat → Nat → Int32} {P : Option Value → zSt → Prop} (hR : RShape σ o) {x1 x2 : Int32} :
    wpM 153 [.ref o, .int x1, .int x2] (rOv σ o sc ar) P ↔ (zIn x2 (rlen 23) ∧ (if ¬ (ar 23 (Int32.toNatClampNeg x2)) = 0 then wp 153 15 [some (.ref o), some (.int x1), some (.int x2), none] [] (rOv σ o sc ar) P else wp 153 9 [some (.ref o), some (.int x1), some (.int x2), none] [] (rOv σ o sc ar) P)) := by
  show wp 153 0 [some (.ref o), some (.int x1), some (.int x2), none] [] (rOv σ o sc ar) P ↔ _
  refine (wp_s (n := 1) (zcode_of mc_153 (r := (.aload_n 0, 0, 0, 0)) rfl) rfl rfl).trans ?_
  refine (wr_getA (n' := 4) rfl (t := 23) hR (zcode_of mc_153 (r := (.getfield 20, 12, 3, 0)) rfl) rfl rfl).trans ?_
  refine (wp_s (n := 5) (zcode_of mc_153 (r := (.iload_n 2, 0, 0, 0)) rfl) rfl rfl).trans ?_
  refine (wr_ldZ (n' := 6) rfl hR (zcode_of mc_153 (r := (.baload, 0, 0, 0)) rfl) rfl rfl).trans (and_congr Iff.rfl ?_)
  exact wp_jump (off := 9) (t := 15) (zcode_of mc_153 (r := (.ifCond .ne 9, 0, 0, 0)) rfl) rfl rfl (by decide)
theorem b153_9 {σ : zSt} {o : Nat} {sc : Nat → Int32} {ar : Nat → Nat → Int32} {P : Option Value → zSt → Prop} (hR : RShape σ o) {x1 x2 : Int32} {u3 : Option Value} :
    wp 153 9 [some (.ref o), some (.int x1), some (.int x2), u3] [] (rOv σ o sc ar) P ↔ P none (rOv σ o (upS sc 49 4) ar) := by
  refine (wp_s (n := 10) (zcode_of mc_153 (r := (.aload_n 0, 0, 0, 0)) rfl) rfl rfl).trans ?_
  refine (wp_ic (n' := 11) rfl (zcode_of mc_153 (r := (.iconst 4, 0, 0, 0)) rfl) ci_4).trans ?_
  refine (wr_put (n' := 14) rfl hR (zcode_of mc_153 (r := (.putfield 228, 12, 49, 0)) rfl) rfl).trans ?_
  exact wp_retV (zcode_of mc_153 (r := (.return_, 0, 0, 0)) rfl) rfl
theorem b153_15 {σ : zSt} {o : Nat} {sc : Nat → Int32} {ar : Nat → Nat → Int32} {P : Option Value → zSt → Prop} (hR : RShape σ o) {x1 x2 : Int32} {u3 : Option Value} :
    wp 153 15 [some (.ref o), some (.int x1), some (.int x2), u3] [] (rOv σ o sc ar) P ↔ wpM 141 [.ref o, .int x1, .int x2] (rOv σ o sc ar) (fun r τ => wp 153 21 [some (.ref o), some (.int x1), some (.int x2), u3] (r.toList ++ []) τ P) := by
  refine (wp_s (n := 16) (zcode_of mc_153 (r := (.aload_n 0, 0, 0, 0)) rfl) rfl rfl).trans ?_
  refine (wp_s (n := 17) (zcode_of mc_153 (r := (.iload_n 1, 0, 0, 0)) rfl) rfl rfl).trans ?_
  refine (wp_s (n := 18) (zcode_of mc_153 (r := (.iload_n 2, 0, 0, 0)) rfl) rfl rfl).trans ?_
  exact wp_call (q := ([.ref o, .int x1, .int x2], [])) (zcode_of mc_153 (r := (.invokevirtual 196, 141, 0, 2)) rfl) rfl (zCa_V (Nat.le_of_ble_eq_true rfl) rfl hR.tg) ⟨Nat.le_of_ble_eq_true rfl, Nat.le_of_ble_eq_true rfl⟩
theorem b153_21 {σ : zSt} {o : Nat} {sc : Nat → Int32} {ar : Nat → Nat → Int32} {P : Option Value → zSt → Prop} (hR : RShape σ o) {x1 x2 : Int32} {u3 : Option Value} :
    wp 153 21 [some (.ref o), some (.int x1), some (.int x2), u3] [] (rOv σ o sc ar) P ↔ wp 153 23 [some (.ref o), some (.int x1), some (.int x2), some (.int 0)] [] (rOv σ o sc ar) P := by
  refine (wp_ic (n' := 22) rfl (zcode_of mc_153 (r := (.iconst 0, 0, 0, 0)) rfl) ci_0).trans ?_
  refine (wp_s (n := 23) (zcode_of mc_153 (r := (.istore_n 3, 0, 0, 0)) rfl) rfl rfl).trans ?_
  exact Iff.rfl
theorem b153_23 {σ : zSt} {o : Nat} {sc : Nat → Int32} {ar : Nat → Nat → Int32} {P : Option Value → zSt → Prop} (hR : RShape σ o) {x1 x2 x3 : Int32} :
    wp 153 23 [some (.ref o), some (.int x1), some (.int x2), some (.int x3)] [] (rOv σ o sc ar) P ↔ (if (sc 46) ≤ x3 then wp 153 50 [some (.ref o), some (.int x1), some (.int x2), some (.int x3)] [] (rOv σ o sc ar) P else wp 153 31 [some (.ref o), some (.int x1), some (.int x2), some (.int x3)] [] (rOv σ o sc ar) P) := by
  refine (wp_s (n := 24) (zcode_of mc_153 (r := (.iload_n 3, 0, 0, 0)) rfl) rfl rfl).trans ?_
  refine (wp_s (n := 25) (zcode_of mc_153 (r := (.aload_n 0, 0, 0, 0)) rfl) rfl rfl).trans ?_
  refine (wr_getI (n' := 28) rfl hR (zcode_of mc_153 (r := (.getfield 193, 12, 46, 0)) rfl) rfl).trans ?_
  exact wp_jump (off := 22) (t := 50) (zcode_of mc_153 (r := (.if_icmp .ge 22, 0, 0, 0)) rfl) rfl rfl (by decide)
theorem b153_31 {σ : zSt} {o : Nat} {sc : Nat → Int32} {ar : Nat → Nat → Int32} {P : Option Value → zSt → Prop} (hR : RShape σ o) {x1 x2 x3 : Int32} :
    wp 153 31 [some (.ref o), some (.int x1), some (.int x2), some (.int x3)] [] (rOv σ o sc ar) P ↔ (zIn x3 (rlen 65) ∧ wpM 150 [.ref o, .int (96 + (ar 65 (Int32.toNatClampNeg x3)))] (rOv σ o sc ar) (fun r τ => wp 153 44 [some (.ref o), some (.int x1), some (.int x2), some (.int x3)] (r.toList ++ []) τ P)) := by
  refine (wp_s (n := 32) (zcode_of mc_153 (r := (.aload_n 0, 0, 0, 0)) rfl) rfl rfl).trans ?_
  refine (wp_bp (n' := 34) rfl (zcode_of mc_153 (r := (.bipush 96, 0, 0, 0)) rfl) cb_96).trans ?_
  refine (wp_s (n := 35) (zcode_of mc_153 (r := (.aload_n 0, 0, 0, 0)) rfl) rfl rfl).trans ?_
  refine (wr_getA (n' := 38) rfl (t := 65) hR (zcode_of mc_153 (r := (.getfield 122, 12, 45, 0)) rfl) rfl rfl).trans ?_
  refine (wp_s (n := 39) (zcode_of mc_153 (r := (.iload_n 3, 0, 0, 0)) rfl) rfl rfl).trans ?_
  refine (wr_ld (n' := 40) rfl hR (zcode_of mc_153 (r := (.iaload, 0, 0, 0)) rfl) rfl rfl).trans (and_congr Iff.rfl ?_)
  refine (wp_s (n := 41) (zcode_of mc_153 (r := (.iadd, 0, 0, 0)) rfl) rfl rfl).trans ?_
  exact wp_call (q := ([.ref o, .int (96 + (ar 65 (Int32.toNatClampNeg x3)))], [])) (zcode_of mc_153 (r := (.invokevirtual 231, 150, 0, 1)) rfl) rfl (zCa_V (Nat.le_of_ble_eq_true rfl) rfl hR.tg) ⟨Nat.le_of_ble_eq_true rfl, Nat.le_of_ble_eq_true rfl⟩
theorem b153_44 {σ : zSt} {o : Nat} {sc : Nat → Int32} {ar : Nat → Nat → Int32} {P : Option Value → zSt → Prop} (hR : RShape σ o) {x1 x2 x3 : Int32} :
    wp 153 44 [some (.ref o), some (.int x1), some (.int x2), some (.int x3)] [] (rOv σ o sc ar) P ↔ wp 153 23 [some (.ref o), some (.int x1), some (.int x2), some (.int (x3 + 1))] [] (rOv σ o sc ar) P := by
  refine (wp_inc (n' := 47) rfl (zcode_of mc_153 (r := (.iinc 3 1, 0, 0, 0)) rfl) rfl rfl ci_1).trans ?_
  exact wp_goto (off := (-24)) (t := 23) (zcode_of mc_153 (r := (.goto (-24), 0, 0, 0)) rfl) (by decide)
theorem b153_50 {σ : zSt} {o : Nat} {sc : Nat → Int32} {ar : Nat → Nat → Int32} {P : Option Value → zSt → Prop} (hR : RShape σ o) {x1 x2 x3 : Int32} :
    wp 153 50 [some (.ref o), some (.int x1), some (.int x2), some (.int x3)] [] (rOv σ o sc ar) P ↔ P none (rOv σ o sc ar) := by
  exact wp_retV (zcode_of mc_153 (r := (.return_, 0, 0, 0)) rfl) rfl
theorem mc_154 : mCode 154 = zc_154 := rfl
theorem b154 {σ : zSt} {o : Nat} {sc : Nat → Int32} {ar : Nat → Nat → Int32} {P : Option Value → zSt → Prop} (hR : RShape σ o) {x1 : Int32} :
    wpM 154 [.ref o, .int x1] (rOv σ o sc ar) P ↔ (zIn x1 (rlen 70) ∧ wp 154 12 [some (.ref o), some (.int x1), some (.int 0)] [] (rOv σ o sc (upA ar 70 (Int32.toNatClampNeg x1) (sc 48))) P) := by
  show wp 154 0 [some (.ref o), some (.int x1), none] [] (rOv σ o sc ar) P ↔ _
  refine (wp_s (n := 1) (zcode_of mc_154 (r := (.aload_n 0, 0, 0, 0)) rfl) rfl rfl).trans ?_
  refine (wr_getA (n' := 4) rfl (t := 70) hR (zcode_of mc_154 (r := (.getfield 128, 12, 50, 0)) rfl) rfl rfl).trans ?_
  refine (wp_s (n := 5) (zcode_of mc_154 (r := (.iload_n 1, 0, 0, 0)) rfl) rfl rfl).trans ?_
  refine (wp_s (n := 6) (zcode_of mc_154 (r := (.aload_n 0, 0, 0, 0)) rfl) rfl rfl).trans ?_
  refine (wr_getI (n' := 9) rfl hR (zcode_of mc_154 (r := (.getfield 225, 12, 48, 0)) rfl) rfl).trans ?_
  refine (wr_st (n' := 10) rfl hR (zcode_of mc_154 (r := (.iastore, 0, 0, 0)) rfl) rfl rfl).trans (and_congr Iff.rfl ?_)
  refine (wp_ic (n' := 11) rfl (zcode_of mc_154 (r := (.iconst 0, 0, 0, 0)) rfl) ci_0).trans ?_
  refine (wp_s (n := 12) (zcode_of mc_154 (r := (.istore_n 2, 0, 0, 0)) rfl) rfl rfl).trans ?_
  exact Iff.rfl
theorem b154_12 {σ : zSt} {o : Nat} {sc : Nat → Int32} {ar : Nat → Nat → Int32} {P : Option Value → zSt → Prop} (hR : RShape σ o) {x1 x2 : Int32} :
    wp 154 12 [some (.ref o), some (.int x1), some (.int x2)] [] (rOv σ o sc ar) P ↔ (if (sc 48) ≤ x2 then wp 154 43 [some (.ref o), some (.int x1), some (.int x2)] [] (rOv σ o sc ar) P else wp 154 20 [some (.ref o), some (.int x1), some (.int x2)] [] (rOv σ o sc ar) P) := by
  refine (wp_s (n := 13) (zcode_of mc_154 (r := (.iload_n 2, 0, 0, 0)) rfl) rfl rfl).trans ?_
  refine (wp_s (n := 14) (zcode_of mc_154 (r := (.aload_n 0, 0, 0, 0)) rfl) rfl rfl).trans ?_
  refine (wr_getI (n' := 17) rfl hR (zcode_of mc_154 (r := (.getfield 225, 12, 48, 0)) rfl) rfl).trans ?_
  exact wp_jump (off := 26) (t := 43) (zcode_of mc_154 (r := (.if_icmp .ge 26, 0, 0, 0)) rfl) rfl rfl (by decide)
theorem b154_20 {σ : zSt} {o : Nat} {sc : Nat → Int32} {ar : Nat → Nat → Int32} {P : Option Value → zSt → Prop} (hR : RShape σ o) {x1 x2 : Int32} :
    wp 154 20 [some (.ref o), some (.int x1), some (.int x2)] [] (rOv σ o sc ar) P ↔ (zIn x2 (rlen 67) ∧ (zIn ((64 * x1) + x2) (rlen 71) ∧ wp 154 12 [some (.ref o), some (.int x1), some (.int (x2 + 1))] [] (rOv σ o sc (upA ar 71 (Int32.toNatClampNeg ((64 * x1) + x2)) (ar 67 (Int32.toNatClampNeg x2)))) P)) := by
  refine (wp_s (n := 21) (zcode_of mc_154 (r := (.aload_n 0, 0, 0, 0)) rfl) rfl rfl).trans ?_
  refine (wr_getA (n' := 24) rfl (t := 71) hR (zcode_of mc_154 (r := (.getfield 131, 12, 51, 0)) rfl) rfl rfl).trans ?_
  refine (wp_bp (n' := 26) rfl (zcode_of mc_154 (r := (.bipush 64, 0, 0, 0)) rfl) cb_64).trans ?_
  refine (wp_s (n := 27) (zcode_of mc_154 (r := (.iload_n 1, 0, 0, 0)) rfl) rfl rfl).trans ?_
  refine (wp_s (n := 28) (zcode_of mc_154 (r := (.imul, 0, 0, 0)) rfl) rfl rfl).trans ?_
  refine (wp_s (n := 29) (zcode_of mc_154 (r := (.iload_n 2, 0, 0, 0)) rfl) rfl rfl).trans ?_
  refine (wp_s (n := 30) (zcode_of mc_154 (r := (.iadd, 0, 0, 0)) rfl) rfl rfl).trans ?_
  refine (wp_s (n := 31) (zcode_of mc_154 (r := (.aload_n 0, 0, 0, 0)) rfl) rfl rfl).trans ?_
  refine (wr_getA (n' := 34) rfl (t := 67) hR (zcode_of mc_154 (r := (.getfield 125, 12, 47, 0)) rfl) rfl rfl).trans ?_
  refine (wp_s (n := 35) (zcode_of mc_154 (r := (.iload_n 2, 0, 0, 0)) rfl) rfl rfl).trans ?_
  refine (wr_ld (n' := 36) rfl hR (zcode_of mc_154 (r := (.iaload, 0, 0, 0)) rfl) rfl rfl).trans (and_congr Iff.rfl ?_)
  refine (wr_st (n' := 37) rfl hR (zcode_of mc_154 (r := (.iastore, 0, 0, 0)) rfl) rfl rfl).trans (and_congr Iff.rfl ?_)
  refine (wp_inc (n' := 40) rfl (zcode_of mc_154 (r := (.iinc 2 1, 0, 0, 0)) rfl) rfl rfl ci_1).trans ?_
  exact wp_goto (off := (-28)) (t := 12) (zcode_of mc_154 (r := (.goto (-28), 0, 0, 0)) rfl) (by decide)
theorem b154_43 {σ : zSt} {o : Nat} {sc : Nat → Int32} {ar : Nat → Nat → Int32} {P : Option Value → zSt → Prop} (hR : RShape σ o) {x1 x2 : Int32} :
    wp 154 43 [some (.ref o), some (.int x1), some (.int x2)] [] (rOv σ o sc ar) P ↔ P none (rOv σ o (upS sc 48 0) ar) := by
  refine (wp_s (n := 44) (zcode_of mc_154 (r := (.aload_n 0, 0, 0, 0)) rfl) rfl rfl).trans ?_
  refine (wp_ic (n' := 45) rfl (zcode_of mc_154 (r := (.iconst 0, 0, 0, 0)) rfl) ci_0).trans ?_
  refine (wr_put (n' := 48) rfl hR (zcode_of mc_154 (r := (.putfield 225, 12, 48, 0)) rfl) rfl).trans ?_
  exact wp_retV (zcode_of mc_154 (r := (.return_, 0, 0, 0)) rfl) rfl
theorem mc_155 : mCode 155 = zc_155 := rfl
theorem b155 {σ : zSt} {o : Nat} {sc : Nat → Int32} {ar : Nat → Nat → Int32} {P : Option Value → zSt → Prop} (hR : RShape σ o) :
    wpM 155 [.ref o] (rOv σ o sc ar) P ↔ wp 155 2 [some (.ref o), some (.int 0), none] [] (rOv σ o sc ar) P := by
  show wp 155 0 [some (.ref o), none, none] [] (rOv σ o sc ar) P ↔ _
  refine (wp_ic (n' := 1) rfl (zcode_of mc_155 (r := (.iconst 0, 0, 0, 0)) rfl) ci_0).trans ?_
  refine (wp_s (n := 2) (zcode_of mc_155 (r := (.istore_n 1, 0, 0, 0)) rfl) rfl rfl).trans ?_
  exact Iff.rfl
theorem b155_2 {σ : zSt} {o : Nat} {sc : Nat → Int32} {ar : Nat → Nat → Int32} {P : Option Value → zSt → Prop} (hR : RShape σ o) {x1 : Int32} {u2 : Option Value} :
    wp 155 2 [some (.ref o), some (.int x1), u2] [] (rOv σ o sc ar) P ↔ (¬ (2 : Int32) = 0 ∧ (if ((sc 48) / 2) ≤ x1 then wp 155 58 [some (.ref o), some (.int x1), u2] [] (rOv σ o sc ar) P else wp 155 12 [some (.ref o), some (.int x1), u2] [] (rOv σ o sc ar) P)) := by
  refine (wp_s (n := 3) (zcode_of mc_155 (r := (.iload_n 1, 0, 0, 0)) rfl) rfl rfl).trans ?_
  refine (wp_s (n := 4) (zcode_of mc_155 (r := (.aload_n 0, 0, 0, 0)) rfl) rfl rfl).trans ?_
  refine (wr_getI (n' := 7) rfl hR (zcode_of mc_155 (r := (.getfield 225, 12, 48, 0)) rfl) rfl).trans ?_
  refine (wp_ic (n' := 8) rfl (zcode_of mc_155 (r := (.iconst 2, 0, 0, 0)) rfl) ci_2).trans ?_
  refine (wp_div (n' := 9) rfl (zcode_of mc_155 (r := (.idiv, 0, 0, 0)) rfl)).trans (and_congr Iff.rfl ?_)
  exact wp_jump (off := 49) (t := 58) (zcode_of mc_155 (r := (.if_icmp .ge 49, 0, 0, 0)) rfl) rfl rfl (by decide)
theorem b155_12 {σ : zSt} {o : Nat} {sc : Nat → Int32} {ar : Nat → Nat → Int32} {P : Option Value → zSt → Prop} (hR : RShape σ o) {x1 : Int32} {u2 : Option Value} :
    wp 155 12 [some (.ref o), some (.int x1), u2] [] (rOv σ o sc ar) P ↔ (zIn x1 (rlen 67) ∧ (zIn (((sc 48) - 1) - x1) (rlen 67) ∧ (zIn x1 (rlen 67) ∧ (zIn (((sc 48) - 1) - x1) (rlen 67) ∧ wp 155 2 [some (.ref o), some (.int (x1 + 1)), some (.int (ar 67 (Int32.toNatClampNeg x1)))] [] (rOv σ o sc (upA (upA ar 67 (Int32.toNatClampNeg x1) (ar 67 (Int32.toNatClampNeg (((sc 48) - 1) - x1)))) 67 (Int32.toNatClampNeg (((sc 48) - 1) - x1)) (ar 67 (Int32.toNatClampNeg x1)))) P)))) := by
  refine (wp_s (n := 13) (zcode_of mc_155 (r := (.aload_n 0, 0, 0, 0)) rfl) rfl rfl).trans ?_
  refine (wr_getA (n' := 16) rfl (t := 67) hR (zcode_of mc_155 (r := (.getfield 125, 12, 47, 0)) rfl) rfl rfl).trans ?_
  refine (wp_s (n := 17) (zcode_of mc_155 (r := (.iload_n 1, 0, 0, 0)) rfl) rfl rfl).trans ?_
  refine (wr_ld (n' := 18) rfl hR (zcode_of mc_155 (r := (.iaload, 0, 0, 0)) rfl) rfl rfl).trans (and_congr Iff.rfl ?_)
  refine (wp_s (n := 19) (zcode_of mc_155 (r := (.istore_n 2, 0, 0, 0)) rfl) rfl rfl).trans ?_
  refine (wp_s (n := 20) (zcode_of mc_155 (r := (.aload_n 0, 0, 0, 0)) rfl) rfl rfl).trans ?_
  refine (wr_getA (n' := 23) rfl (t := 67) hR (zcode_of mc_155 (r := (.getfield 125, 12, 47, 0)) rfl) rfl rfl).trans ?_
  refine (wp_s (n := 24) (zcode_of mc_155 (r := (.iload_n 1, 0, 0, 0)) rfl) rfl rfl).trans ?_
  refine (wp_s (n := 25) (zcode_of mc_155 (r := (.aload_n 0, 0, 0, 0)) rfl) rfl rfl).trans ?_
  refine (wr_getA (n' := 28) rfl (t := 67) hR (zcode_of mc_155 (r := (.getfield 125, 12, 47, 0)) rfl) rfl rfl).trans ?_
  refine (wp_s (n := 29) (zcode_of mc_155 (r := (.aload_n 0, 0, 0, 0)) rfl) rfl rfl).trans ?_
  refine (wr_getI (n' := 32) rfl hR (zcode_of mc_155 (r := (.getfield 225, 12, 48, 0)) rfl) rfl).trans ?_
  refine (wp_ic (n' := 33) rfl (zcode_of mc_155 (r := (.iconst 1, 0, 0, 0)) rfl) ci_1).trans ?_
  refine (wp_s (n := 34) (zcode_of mc_155 (r := (.isub, 0, 0, 0)) rfl) rfl rfl).trans ?_
  refine (wp_s (n := 35) (zcode_of mc_155 (r := (.iload_n 1, 0, 0, 0)) rfl) rfl rfl).trans ?_
  refine (wp_s (n := 36) (zcode_of mc_155 (r := (.isub, 0, 0, 0)) rfl) rfl rfl).trans ?_
  refine (wr_ld (n' := 37) rfl hR (zcode_of mc_155 (r := (.iaload, 0, 0, 0)) rfl) rfl rfl).trans (and_congr Iff.rfl ?_)
  refine (wr_st (n' := 38) rfl hR (zcode_of mc_155 (r := (.iastore, 0, 0, 0)) rfl) rfl rfl).trans (and_congr Iff.rfl ?_)
  refine (wp_s (n := 39) (zcode_of mc_155 (r := (.aload_n 0, 0, 0, 0)) rfl) rfl rfl).trans ?_
  refine (wr_getA (n' := 42) rfl (t := 67) hR (zcode_of mc_155 (r := (.getfield 125, 12, 47, 0)) rfl) rfl rfl).trans ?_
  refine (wp_s (n := 43) (zcode_of mc_155 (r := (.aload_n 0, 0, 0, 0)) rfl) rfl rfl).trans ?_
  refine (wr_getI (n' := 46) rfl hR (zcode_of mc_155 (r := (.getfield 225, 12, 48, 0)) rfl) rfl).trans ?_
  refine (wp_ic (n' := 47) rfl (zcode_of mc_155 (r := (.iconst 1, 0, 0, 0)) rfl) ci_1).trans ?_
  refine (wp_s (n := 48) (zcode_of mc_155 (r := (.isub, 0, 0, 0)) rfl) rfl rfl).trans ?_
  refine (wp_s (n := 49) (zcode_of mc_155 (r := (.iload_n 1, 0, 0, 0)) rfl) rfl rfl).trans ?_
  refine (wp_s (n := 50) (zcode_of mc_155 (r := (.isub, 0, 0, 0)) rfl) rfl rfl).trans ?_
  refine (wp_s (n := 51) (zcode_of mc_155 (r := (.iload_n 2, 0, 0, 0)) rfl) rfl rfl).trans ?_
  refine (wr_st (n' := 52) rfl hR (zcode_of mc_155 (r := (.iastore, 0, 0, 0)) rfl) rfl rfl).trans (and_congr Iff.rfl ?_)
  refine (wp_inc (n' := 55) rfl (zcode_of mc_155 (r := (.iinc 1 1, 0, 0, 0)) rfl) rfl rfl ci_1).trans ?_
  exact wp_goto (off := (-53)) (t := 2) (zcode_of mc_155 (r := (.goto (-53), 0, 0, 0)) rfl) (by decide)
theorem b155_58 {σ : zSt} {o : Nat} {sc : Nat → Int32} {ar : Nat → Nat → Int32} {P : Option Value → zSt → Prop} (hR : RShape σ o) {x1 : Int32} {u2 : Option Value} :
    wp 155 58 [some (.ref o), some (.int x1), u2] [] (rOv σ o sc ar) P ↔ P none (rOv σ o sc ar) := by
  exact wp_retV (zcode_of mc_155 (r := (.return_, 0, 0, 0)) rfl) rfl
theorem mc_156 : mCode 156 = zc_156 := rfl
theorem b156 {σ : zSt} {o : Nat} {sc : Nat → Int32} {ar : Nat → Nat → Int32} {P : Option Value → zSt → Prop} (hR : RShape σ o) :
    wpM 156 [.ref o] (rOv σ o sc ar) P ↔ wp 156 2 [some (.ref o), some (.int 1), none, none] [] (rOv σ o sc ar) P := by
  show wp 156 0 [some (.ref o), none, none, none] [] (rOv σ o sc ar) P ↔ _
  refine (wp_ic (n' := 1) rfl (zcode_of mc_156 (r := (.iconst 1, 0, 0, 0)) rfl) ci_1).trans ?_
  refine (wp_s (n := 2) (zcode_of mc_156 (r := (.istore_n 1, 0, 0, 0)) rfl) rfl rfl).trans ?_
  exact Iff.rfl
theorem b156_2 {σ : zSt} {o : Nat} {sc : Nat → Int32} {ar : Nat → Nat → Int32} {P : Option Value → zSt → Prop} (hR : RShape σ o) {x1 : Int32} {u2 u3 : Option Value} :
    wp 156 2 [some (.ref o), some (.int x1), u2, u3] [] (rOv σ o sc ar) P ↔ (if (sc 48) ≤ x1 then wp 156 68 [some (.ref o), some (.int x1), u2, u3] [] (rOv σ o sc ar) P else wp 156 10 [some (.ref o), some (.int x1), u2, u3] [] (rOv σ o sc ar) P) := by
  refine (wp_s (n := 3) (zcode_of mc_156 (r := (.iload_n 1, 0, 0, 0)) rfl) rfl rfl).trans ?_
  refine (wp_s (n := 4) (zcode_of mc_156 (r := (.aload_n 0, 0, 0, 0)) rfl) rfl rfl).trans ?_
  refine (wr_getI (n' := 7) rfl hR (zcode_of mc_156 (r := (.getfield 225, 12, 48, 0)) rfl) rfl).trans ?_
  exact wp_jump (off := 61) (t := 68) (zcode_of mc_156 (r := (.if_icmp .ge 61, 0, 0, 0)) rfl) rfl rfl (by decide)
theorem b156_10 {σ : zSt} {o : Nat} {sc : Nat → Int32} {ar : Nat → Nat → Int32} {P : Option Value → zSt → Prop} (hR : RShape σ o) {x1 : Int32} {u2 u3 : Option Value} :
    wp 156 10 [some (.ref o), some (.int x1), u2, u3] [] (rOv σ o sc ar) P ↔ (zIn x1 (rlen 67) ∧ wp 156 19 [some (.ref o), some (.int x1), some (.int (ar 67 (Int32.toNatClampNeg x1))), some (.int x1)] [] (rOv σ o sc ar) P) := by
  refine (wp_s (n := 11) (zcode_of mc_156 (r := (.aload_n 0, 0, 0, 0)) rfl) rfl rfl).trans ?_
  refine (wr_getA (n' := 14) rfl (t := 67) hR (zcode_of mc_156 (r := (.getfield 125, 12, 47, 0)) rfl) rfl rfl).trans ?_
  refine (wp_s (n := 15) (zcode_of mc_156 (r := (.iload_n 1, 0, 0, 0)) rfl) rfl rfl).trans ?_
  refine (wr_ld (n' := 16) rfl hR (zcode_of mc_156 (r := (.iaload, 0, 0, 0)) rfl) rfl rfl).trans (and_congr Iff.rfl ?_)
  refine (wp_s (n := 17) (zcode_of mc_156 (r := (.istore_n 2, 0, 0, 0)) rfl) rfl rfl).trans ?_
  refine (wp_s (n := 18) (zcode_of mc_156 (r := (.iload_n 1, 0, 0, 0)) rfl) rfl rfl).trans ?_
  refine (wp_s (n := 19) (zcode_of mc_156 (r := (.istore_n 3, 0, 0, 0)) rfl) rfl rfl).trans ?_
  exact Iff.rfl
theorem b156_19 {σ : zSt} {o : Nat} {sc : Nat → Int32} {ar : Nat → Nat → Int32} {P : Option Value → zSt → Prop} (hR : RShape σ o) {x1 x2 x3 : Int32} :
    wp 156 19 [some (.ref o), some (.int x1), some (.int x2), some (.int x3)] [] (rOv σ o sc ar) P ↔ (if x3 ≤ 0 then wp 156 55 [some (.ref o), some (.int x1), some (.int x2), some (.int x3)] [] (rOv σ o sc ar) P else wp 156 23 [some (.ref o), some (.int x1), some (.int x2), some (.int x3)] [] (rOv σ o sc ar) P) := by
  refine (wp_s (n := 20) (zcode_of mc_156 (r := (.iload_n 3, 0, 0, 0)) rfl) rfl rfl).trans ?_
  exact wp_jump (off := 35) (t := 55) (zcode_of mc_156 (r := (.ifCond .le 35, 0, 0, 0)) rfl) rfl rfl (by decide)
theorem b156_23 {σ : zSt} {o : Nat} {sc : Nat → Int32} {ar : Nat → Nat → Int32} {P : Option Value → zSt → Prop} (hR : RShape σ o) {x1 x2 x3 : Int32} :
    wp 156 23 [some (.ref o), some (.int x1), some (.int x2), some (.int x3)] [] (rOv σ o sc ar) P ↔ (zIn (x3 - 1) (rlen 67) ∧ (if (ar 67 (Int32.toNatClampNeg (x3 - 1))) ≤ x2 then wp 156 55 [some (.ref o), some (.int x1), some (.int x2), some (.int x3)] [] (rOv σ o sc ar) P else wp 156 35 [some (.ref o), some (.int x1), some (.int x2), some (.int x3)] [] (rOv σ o sc ar) P)) := by
  refine (wp_s (n := 24) (zcode_of mc_156 (r := (.aload_n 0, 0, 0, 0)) rfl) rfl rfl).trans ?_
  refine (wr_getA (n' := 27) rfl (t := 67) hR (zcode_of mc_156 (r := (.getfield 125, 12, 47, 0)) rfl) rfl rfl).trans ?_
  refine (wp_s (n := 28) (zcode_of mc_156 (r := (.iload_n 3, 0, 0, 0)) rfl) rfl rfl).trans ?_
  refine (wp_ic (n' := 29) rfl (zcode_of mc_156 (r := (.iconst 1, 0, 0, 0)) rfl) ci_1).trans ?_
  refine (wp_s (n := 30) (zcode_of mc_156 (r := (.isub, 0, 0, 0)) rfl) rfl rfl).trans ?_
  refine (wr_ld (n' := 31) rfl hR (zcode_of mc_156 (r := (.iaload, 0, 0, 0)) rfl) rfl rfl).trans (and_congr Iff.rfl ?_)
  refine (wp_s (n := 32) (zcode_of mc_156 (r := (.iload_n 2, 0, 0, 0)) rfl) rfl rfl).trans ?_
  exact wp_jump (off := 23) (t := 55) (zcode_of mc_156 (r := (.if_icmp .le 23, 0, 0, 0)) rfl) rfl rfl (by decide)
theorem b156_35 {σ : zSt} {o : Nat} {sc : Nat → Int32} {ar : Nat → Nat → Int32} {P : Option Value → zSt → Prop} (hR : RShape σ o) {x1 x2 x3 : Int32} :
    wp 156 35 [some (.ref o), some (.int x1), some (.int x2), some (.int x3)] [] (rOv σ o sc ar) P ↔ (zIn (x3 - 1) (rlen 67) ∧ (zIn x3 (rlen 67) ∧ wp 156 19 [some (.ref o), some (.int x1), some (.int x2), some (.int (x3 + (-1)))] [] (rOv σ o sc (upA ar 67 (Int32.toNatClampNeg x3) (ar 67 (Int32.toNatClampNeg (x3 - 1))))) P)) := by
  refine (wp_s (n := 36) (zcode_of mc_156 (r := (.aload_n 0, 0, 0, 0)) rfl) rfl rfl).trans ?_
  refine (wr_getA (n' := 39) rfl (t := 67) hR (zcode_of mc_156 (r := (.getfield 125, 12, 47, 0)) rfl) rfl rfl).trans ?_
  refine (wp_s (n := 40) (zcode_of mc_156 (r := (.iload_n 3, 0, 0, 0)) rfl) rfl rfl).trans ?_
  refine (wp_s (n := 41) (zcode_of mc_156 (r := (.aload_n 0, 0, 0, 0)) rfl) rfl rfl).trans ?_
  refine (wr_getA (n' := 44) rfl (t := 67) hR (zcode_of mc_156 (r := (.getfield 125, 12, 47, 0)) rfl) rfl rfl).trans ?_
  refine (wp_s (n := 45) (zcode_of mc_156 (r := (.iload_n 3, 0, 0, 0)) rfl) rfl rfl).trans ?_
  refine (wp_ic (n' := 46) rfl (zcode_of mc_156 (r := (.iconst 1, 0, 0, 0)) rfl) ci_1).trans ?_
  refine (wp_s (n := 47) (zcode_of mc_156 (r := (.isub, 0, 0, 0)) rfl) rfl rfl).trans ?_
  refine (wr_ld (n' := 48) rfl hR (zcode_of mc_156 (r := (.iaload, 0, 0, 0)) rfl) rfl rfl).trans (and_congr Iff.rfl ?_)
  refine (wr_st (n' := 49) rfl hR (zcode_of mc_156 (r := (.iastore, 0, 0, 0)) rfl) rfl rfl).trans (and_congr Iff.rfl ?_)
  refine (wp_inc (n' := 52) rfl (zcode_of mc_156 (r := (.iinc 3 (-1), 0, 0, 0)) rfl) rfl rfl ci_m1).trans ?_
  exact wp_goto (off := (-33)) (t := 19) (zcode_of mc_156 (r := (.goto (-33), 0, 0, 0)) rfl) (by decide)
theorem b156_55 {σ : zSt} {o : Nat} {sc : Nat → Int32} {ar : Nat → Nat → Int32} {P : Option Value → zSt → Prop} (hR : RShape σ o) {x1 x2 x3 : Int32} :
    wp 156 55 [some (.ref o), some (.int x1), some (.int x2), some (.int x3)] [] (rOv σ o sc ar) P ↔ (zIn x3 (rlen 67) ∧ wp 156 2 [some (.ref o), some (.int (x1 + 1)), some (.int x2), some (.int x3)] [] (rOv σ o sc (upA ar 67 (Int32.toNatClampNeg x3) x2)) P) := by
  refine (wp_s (n := 56) (zcode_of mc_156 (r := (.aload_n 0, 0, 0, 0)) rfl) rfl rfl).trans ?_
  refine (wr_getA (n' := 59) rfl (t := 67) hR (zcode_of mc_156 (r := (.getfield 125, 12, 47, 0)) rfl) rfl rfl).trans ?_
  refine (wp_s (n := 60) (zcode_of mc_156 (r := (.iload_n 3, 0, 0, 0)) rfl) rfl rfl).trans ?_
  refine (wp_s (n := 61) (zcode_of mc_156 (r := (.iload_n 2, 0, 0, 0)) rfl) rfl rfl).trans ?_
  refine (wr_st (n' := 62) rfl hR (zcode_of mc_156 (r := (.iastore, 0, 0, 0)) rfl) rfl rfl).trans (and_congr Iff.rfl ?_)
  refine (wp_inc (n' := 65) rfl (zcode_of mc_156 (r := (.iinc 1 1, 0, 0, 0)) rfl) rfl rfl ci_1).trans ?_
  exact wp_goto (off := (-63)) (t := 2) (zcode_of mc_156 (r := (.goto (-63), 0, 0, 0)) rfl) (by decide)
theorem b156_68 {σ : zSt} {o : Nat} {sc : Nat → Int32} {ar : Nat → Nat → Int32} {P : Option Value → zSt → Prop} (hR : RShape σ o) {x1 : Int32} {u2 u3 : Option Value} :
    wp 156 68 [some (.ref o), some (.int x1), u2, u3] [] (rOv σ o sc ar) P ↔ P none (rOv σ o sc ar) := by
  exact wp_retV (zcode_of mc_156 (r := (.return_, 0, 0, 0)) rfl) rfl
theorem mc_157 : mCode 157 = zc_157 := rfl
theorem b157 {σ : zSt} {o : Nat} {sc : Nat → Int32} {ar : Nat → Nat → Int32} {P : Option Value → zSt → Prop} (hR : RShape σ o) :
    wpM 157 [.ref o] (rOv σ o sc ar) P ↔ wp 157 4 [some (.ref o), some (.int 0), some (.int 0), none, none] [] (rOv σ o sc ar) P := by
  show wp 157 0 [some (.ref o), none, none, none, none] [] (rOv σ o sc ar) P ↔ _
  refine (wp_ic (n' := 1) rfl (zcode_of mc_157 (r := (.iconst 0, 0, 0, 0)) rfl) ci_0).trans ?_
  refine (wp_s (n := 2) (zcode_of mc_157 (r := (.istore_n 1, 0, 0, 0)) rfl) rfl rfl).trans ?_
  refine (wp_ic (n' := 3) rfl (zcode_of mc_157 (r := (.iconst 0, 0, 0, 0)) rfl) ci_0).trans ?_
  refine (wp_s (n := 4) (zcode_of mc_157 (r := (.istore_n 2, 0, 0, 0)) rfl) rfl rfl).trans ?_
  exact Iff.rfl
theorem b157_4 {σ : zSt} {o : Nat} {sc : Nat → Int32} {ar : Nat → Nat → Int32} {P : Option Value → zSt → Prop} (hR : RShape σ o) {x1 x2 : Int32} {u3 u4 : Option Value} :
    wp 157 4 [some (.ref o), some (.int x1), some (.int x2), u3, u4] [] (rOv σ o sc ar) P ↔ (if (sc 48) ≤ x2 then wp 157 85 [some (.ref o), some (.int x1), some (.int x2), u3, u4] [] (rOv σ o sc ar) P else wp 157 12 [some (.ref o), some (.int x1), some (.int x2), u3, u4] [] (rOv σ o sc ar) P) := by
  refine (wp_s (n := 5) (zcode_of mc_157 (r := (.iload_n 2, 0, 0, 0)) rfl) rfl rfl).trans ?_
  refine (wp_s (n := 6) (zcode_of mc_157 (r := (.aload_n 0, 0, 0, 0)) rfl) rfl rfl).trans ?_
  refine (wr_getI (n' := 9) rfl hR (zcode_of mc_157 (r := (.getfield 225, 12, 48, 0)) rfl) rfl).trans ?_
  exact wp_jump (off := 76) (t := 85) (zcode_of mc_157 (r := (.if_icmp .ge 76, 0, 0, 0)) rfl) rfl rfl (by decide)
theorem b157_12 {σ : zSt} {o : Nat} {sc : Nat → Int32} {ar : Nat → Nat → Int32} {P : Option Value → zSt → Prop} (hR : RShape σ o) {x1 x2 : Int32} {u3 u4 : Option Value} :
    wp 157 12 [some (.ref o), some (.int x1), some (.int x2), u3, u4] [] (rOv σ o sc ar) P ↔ wp 157 17 [some (.ref o), some (.int x1), some (.int x2), some (.int 0), some (.int 0)] [] (rOv σ o sc ar) P := by
  refine (wp_ic (n' := 13) rfl (zcode_of mc_157 (r := (.iconst 0, 0, 0, 0)) rfl) ci_0).trans ?_
  refine (wp_s (n := 14) (zcode_of mc_157 (r := (.istore_n 3, 0, 0, 0)) rfl) rfl rfl).trans ?_
  refine (wp_ic (n' := 15) rfl (zcode_of mc_157 (r := (.iconst 0, 0, 0, 0)) rfl) ci_0).trans ?_
  refine (wp_s (n := 17) (zcode_of mc_157 (r := (.istore 4, 0, 0, 0)) rfl) rfl rfl).trans ?_
  exact Iff.rfl
theorem b157_17 {σ : zSt} {o : Nat} {sc : Nat → Int32} {ar : Nat → Nat → Int32} {P : Option Value → zSt → Prop} (hR : RShape σ o) {x1 x2 x3 x4 : Int32} :
    wp 157 17 [some (.ref o), some (.int x1), some (.int x2), some (.int x3), some (.int x4)] [] (rOv σ o sc ar) P ↔ (if x1 ≤ x4 then wp 157 55 [some (.ref o), some (.int x1), some (.int x2), some (.int x3), some (.int x4)] [] (rOv σ o sc ar) P else wp 157 23 [some (.ref o), some (.int x1), some (.int x2), some (.int x3), some (.int x4)] [] (rOv σ o sc ar) P) := by
  refine (wp_s (n := 19) (zcode_of mc_157 (r := (.iload 4, 0, 0, 0)) rfl) rfl rfl).trans ?_
  refine (wp_s (n := 20) (zcode_of mc_157 (r := (.iload_n 1, 0, 0, 0)) rfl) rfl rfl).trans ?_
  exact wp_jump (off := 35) (t := 55) (zcode_of mc_157 (r := (.if_icmp .ge 35, 0, 0, 0)) rfl) rfl rfl (by decide)
theorem b157_23 {σ : zSt} {o : Nat} {sc : Nat → Int32} {ar : Nat → Nat → Int32} {P : Option Value → zSt → Prop} (hR : RShape σ o) {x1 x2 x3 x4 : Int32} :
    wp 157 23 [some (.ref o), some (.int x1), some (.int x2), some (.int x3), some (.int x4)] [] (rOv σ o sc ar) P ↔ (if ¬ x3 = 0 then wp 157 43 [some (.ref o), some (.int x1), some (.int x2), some (.int x3), some (.int x4)] [] (rOv σ o sc ar) P else wp 157 27 [some (.ref o), some (.int x1), some (.int x2), some (.int x3), some (.int x4)] [] (rOv σ o sc ar) P) := by
  refine (wp_s (n := 24) (zcode_of mc_157 (r := (.iload_n 3, 0, 0, 0)) rfl) rfl rfl).trans ?_
  exact wp_jump (off := 19) (t := 43) (zcode_of mc_157 (r := (.ifCond .ne 19, 0, 0, 0)) rfl) rfl rfl (by decide)
theorem b157_27 {σ : zSt} {o : Nat} {sc : Nat → Int32} {ar : Nat → Nat → Int32} {P : Option Value → zSt → Prop} (hR : RShape σ o) {x1 x2 x3 x4 : Int32} :
    wp 157 27 [some (.ref o), some (.int x1), some (.int x2), some (.int x3), some (.int x4)] [] (rOv σ o sc ar) P ↔ (zIn x4 (rlen 67) ∧ (zIn x2 (rlen 67) ∧ (if ¬ (ar 67 (Int32.toNatClampNeg x4)) = (ar 67 (Int32.toNatClampNeg x2)) then wp 157 47 [some (.ref o), some (.int x1), some (.int x2), some (.int x3), some (.int x4)] [] (rOv σ o sc ar) P else wp 157 43 [some (.ref o), some (.int x1), some (.int x2), some (.int x3), some (.int x4)] [] (rOv σ o sc ar) P))) := by
  refine (wp_s (n := 28) (zcode_of mc_157 (r := (.aload_n 0, 0, 0, 0)) rfl) rfl rfl).trans ?_
  refine (wr_getA (n' := 31) rfl (t := 67) hR (zcode_of mc_157 (r := (.getfield 125, 12, 47, 0)) rfl) rfl rfl).trans ?_
  refine (wp_s (n := 33) (zcode_of mc_157 (r := (.iload 4, 0, 0, 0)) rfl) rfl rfl).trans ?_
  refine (wr_ld (n' := 34) rfl hR (zcode_of mc_157 (r := (.iaload, 0, 0, 0)) rfl) rfl rfl).trans (and_congr Iff.rfl ?_)
  refine (wp_s (n := 35) (zcode_of mc_157 (r := (.aload_n 0, 0, 0, 0)) rfl) rfl rfl).trans ?_
  refine (wr_getA (n' := 38) rfl (t := 67) hR (zcode_of mc_157 (r := (.getfield 125, 12, 47, 0)) rfl) rfl rfl).trans ?_
  refine (wp_s (n := 39) (zcode_of mc_157 (r := (.iload_n 2, 0, 0, 0)) rfl) rfl rfl).trans ?_
  refine (wr_ld (n' := 40) rfl hR (zcode_of mc_157 (r := (.iaload, 0, 0, 0)) rfl) rfl rfl).trans (and_congr Iff.rfl ?_)
  exact wp_jump (off := 7) (t := 47) (zcode_of mc_157 (r := (.if_icmp .ne 7, 0, 0, 0)) rfl) rfl rfl (by decide)
theorem b157_43 {σ : zSt} {o : Nat} {sc : Nat → Int32} {ar : Nat → Nat → Int32} {P : Option Value → zSt → Prop} (hR : RShape σ o) {x1 x2 x3 x4 : Int32} :
    wp 157 43 [some (.ref o), some (.int x1), some (.int x2), some (.int x3), some (.int x4)] [] (rOv σ o sc ar) P ↔ wp 157 48 [some (.ref o), some (.int x1), some (.int x2), some (.int x3), some (.int x4)] [.int 1] (rOv σ o sc ar) P := by
  refine (wp_ic (n' := 44) rfl (zcode_of mc_157 (r := (.iconst 1, 0, 0, 0)) rfl) ci_1).trans ?_
  exact wp_goto (off := 4) (t := 48) (zcode_of mc_157 (r := (.goto 4, 0, 0, 0)) rfl) (by decide)
theorem b157_47 {σ : zSt} {o : Nat} {sc : Nat → Int32} {ar : Nat → Nat → Int32} {P : Option Value → zSt → Prop} (hR : RShape σ o) {x1 x2 x3 x4 : Int32} :
    wp 157 47 [some (.ref o), some (.int x1), some (.int x2), some (.int x3), some (.int x4)] [] (rOv σ o sc ar) P ↔ wp 157 48 [some (.ref o), some (.int x1), some (.int x2), some (.int x3), some (.int x4)] [.int 0] (rOv σ o sc ar) P := by
  refine (wp_ic (n' := 48) rfl (zcode_of mc_157 (r := (.iconst 0, 0, 0, 0)) rfl) ci_0).trans ?_
  exact Iff.rfl
theorem b157_48 {σ : zSt} {o : Nat} {sc : Nat → Int32} {ar : Nat → Nat → Int32} {P : Option Value → zSt → Prop} (hR : RShape σ o) {x1 x2 x3 x4 s0 : Int32} :
    wp 157 48 [some (.ref o), some (.int x1), some (.int x2), some (.int x3), some (.int x4)] [.int s0] (rOv σ o sc ar) P ↔ wp 157 17 [some (.ref o), some (.int x1), some (.int x2), some (.int s0), some (.int (x4 + 1))] [] (rOv σ o sc ar) P := by
  refine (wp_s (n := 49) (zcode_of mc_157 (r := (.istore_n 3, 0, 0, 0)) rfl) rfl rfl).trans ?_
  refine (wp_inc (n' := 52) rfl (zcode_of mc_157 (r := (.iinc 4 1, 0, 0, 0)) rfl) rfl rfl ci_1).trans ?_
  exact wp_goto (off := (-35)) (t := 17) (zcode_of mc_157 (r := (.goto (-35), 0, 0, 0)) rfl) (by decide)
theorem b157_55 {σ : zSt} {o : Nat} {sc : Nat → Int32} {ar : Nat → Nat → Int32} {P : Option Value → zSt → Prop} (hR : RShape σ o) {x1 x2 x3 x4 : Int32} :
    wp 157 55 [some (.ref o), some (.int x1), some (.int x2), some (.int x3), some (.int x4)] [] (rOv σ o sc ar) P ↔ (zIn x2 (rlen 67) ∧ (zIn x1 (rlen 67) ∧ (if x3 = 0 then wp 157 76 [some (.ref o), some (.int x1), some (.int x2), some (.int x3), some (.int x4)] [.int x1] (rOv σ o sc (upA ar 67 (Int32.toNatClampNeg x1) (ar 67 (Int32.toNatClampNeg x2)))) P else wp 157 72 [some (.ref o), some (.int x1), some (.int x2), some (.int x3), some (.int x4)] [.int x1] (rOv σ o sc (upA ar 67 (Int32.toNatClampNeg x1) (ar 67 (Int32.toNatClampNeg x2)))) P))) := by
  refine (wp_s (n := 56) (zcode_of mc_157 (r := (.aload_n 0, 0, 0, 0)) rfl) rfl rfl).trans ?_
  refine (wr_getA (n' := 59) rfl (t := 67) hR (zcode_of mc_157 (r := (.getfield 125, 12, 47, 0)) rfl) rfl rfl).trans ?_
  refine (wp_s (n := 60) (zcode_of mc_157 (r := (.iload_n 1, 0, 0, 0)) rfl) rfl rfl).trans ?_
  refine (wp_s (n := 61) (zcode_of mc_157 (r := (.aload_n 0, 0, 0, 0)) rfl) rfl rfl).trans ?_
  refine (wr_getA (n' := 64) rfl (t := 67) hR (zcode_of mc_157 (r := (.getfield 125, 12, 47, 0)) rfl) rfl rfl).trans ?_
  refine (wp_s (n := 65) (zcode_of mc_157 (r := (.iload_n 2, 0, 0, 0)) rfl) rfl rfl).trans ?_
  refine (wr_ld (n' := 66) rfl hR (zcode_of mc_157 (r := (.iaload, 0, 0, 0)) rfl) rfl rfl).trans (and_congr Iff.rfl ?_)
  refine (wr_st (n' := 67) rfl hR (zcode_of mc_157 (r := (.iastore, 0, 0, 0)) rfl) rfl rfl).trans (and_congr Iff.rfl ?_)
  refine (wp_s (n := 68) (zcode_of mc_157 (r := (.iload_n 1, 0, 0, 0)) rfl) rfl rfl).trans ?_
  refine (wp_s (n := 69) (zcode_of mc_157 (r := (.iload_n 3, 0, 0, 0)) rfl) rfl rfl).trans ?_
  exact wp_jump (off := 7) (t := 76) (zcode_of mc_157 (r := (.ifCond .eq 7, 0, 0, 0)) rfl) rfl rfl (by decide)
theorem b157_72 {σ : zSt} {o : Nat} {sc : Nat → Int32} {ar : Nat → Nat → Int32} {P : Option Value → zSt → Prop} (hR : RShape σ o) {x1 x2 x3 x4 s0 : Int32} :
    wp 157 72 [some (.ref o), some (.int x1), some (.int x2), some (.int x3), some (.int x4)] [.int s0] (rOv σ o sc ar) P ↔ wp 157 77 [some (.ref o), some (.int x1), some (.int x2), some (.int x3), some (.int x4)] [.int 0, .int s0] (rOv σ o sc ar) P := by
  refine (wp_ic (n' := 73) rfl (zcode_of mc_157 (r := (.iconst 0, 0, 0, 0)) rfl) ci_0).trans ?_
  exact wp_goto (off := 4) (t := 77) (zcode_of mc_157 (r := (.goto 4, 0, 0, 0)) rfl) (by decide)
theorem b157_76 {σ : zSt} {o : Nat} {sc : Nat → Int32} {ar : Nat → Nat → Int32} {P : Option Value → zSt → Prop} (hR : RShape σ o) {x1 x2 x3 x4 s0 : Int32} :
    wp 157 76 [some (.ref o), some (.int x1), some (.int x2), some (.int x3), some (.int x4)] [.int s0] (rOv σ o sc ar) P ↔ wp 157 77 [some (.ref o), some (.int x1), some (.int x2), some (.int x3), some (.int x4)] [.int 1, .int s0] (rOv σ o sc ar) P := by
  refine (wp_ic (n' := 77) rfl (zcode_of mc_157 (r := (.iconst 1, 0, 0, 0)) rfl) ci_1).trans ?_
  exact Iff.rfl
theorem b157_77 {σ : zSt} {o : Nat} {sc : Nat → Int32} {ar : Nat → Nat → Int32} {P : Option Value → zSt → Prop} (hR : RShape σ o) {x1 x2 x3 x4 s0 s1 : Int32} :
    wp 157 77 [some (.ref o), some (.int x1), some (.int x2), some (.int x3), some (.int x4)] [.int s0, .int s1] (rOv σ o sc ar) P ↔ wp 157 4 [some (.ref o), some (.int (s1 + s0)), some (.int (x2 + 1)), some (.int x3), some (.int x4)] [] (rOv σ o sc ar) P := by
  refine (wp_s (n := 78) (zcode_of mc_157 (r := (.iadd, 0, 0, 0)) rfl) rfl rfl).trans ?_
  refine (wp_s (n := 79) (zcode_of mc_157 (r := (.istore_n 1, 0, 0, 0)) rfl) rfl rfl).trans ?_
  refine (wp_inc (n' := 82) rfl (zcode_of mc_157 (r := (.iinc 2 1, 0, 0, 0)) rfl) rfl rfl ci_1).trans ?_
  exact wp_goto (off := (-78)) (t := 4) (zcode_of mc_157 (r := (.goto (-78), 0, 0, 0)) rfl) (by decide)
theorem b157_85 {σ : zSt} {o : Nat} {sc : Nat → Int32} {ar : Nat → Nat → Int32} {P : Option Value → zSt → Prop} (hR : RShape σ o) {x1 x2 : Int32} {u3 u4 : Option Value} :
    wp 157 85 [some (.ref o), some (.int x1), some (.int x2), u3, u4] [] (rOv σ o sc ar) P ↔ P none (rOv σ o (upS sc 48 x1) ar) := by
  refine (wp_s (n := 86) (zcode_of mc_157 (r := (.aload_n 0, 0, 0, 0)) rfl) rfl rfl).trans ?_
  refine (wp_s (n := 87) (zcode_of mc_157 (r := (.iload_n 1, 0, 0, 0)) rfl) rfl rfl).trans ?_
  refine (wr_put (n' := 90) rfl hR (zcode_of mc_157 (r := (.putfield 225, 12, 48, 0)) rfl) rfl).trans ?_
  exact wp_retV (zcode_of mc_157 (r := (.return_, 0, 0, 0)) rfl) rfl
theorem mc_158 : mCode 158 = zc_158 := rfl
theorem b158 {σ : zSt} {o : Nat} {sc : Nat → Int32} {ar : Nat → Nat → Int32} {P : Option Value → zSt → Prop} (hR : RShape σ o) :
    wpM 158 [.ref o] (rOv σ o sc ar) P ↔ wp 158 7 [some (.ref o), some (.int (sc 48)), some (.int 0)] [] (rOv σ o sc ar) P := by
  show wp 158 0 [some (.ref o), none, none] [] (rOv σ o sc ar) P ↔ _
  refine (wp_s (n := 1) (zcode_of mc_158 (r := (.aload_n 0, 0, 0, 0)) rfl) rfl rfl).trans ?_
  refine (wr_getI (n' := 4) rfl hR (zcode_of mc_158 (r := (.getfield 225, 12, 48, 0)) rfl) rfl).trans ?_
  refine (wp_s (n := 5) (zcode_of mc_158 (r := (.istore_n 1, 0, 0, 0)) rfl) rfl rfl).trans ?_
  refine (wp_ic (n' := 6) rfl (zcode_of mc_158 (r := (.iconst 0, 0, 0, 0)) rfl) ci_0).trans ?_
  refine (wp_s (n := 7) (zcode_of mc_158 (r := (.istore_n 2, 0, 0, 0)) rfl) rfl rfl).trans ?_
  exact Iff.rfl
theorem b158_7 {σ : zSt} {o : Nat} {sc : Nat → Int32} {ar : Nat → Nat → Int32} {P : Option Value → zSt → Prop} (hR : RShape σ o) {x1 x2 : Int32} :
    wp 158 7 [some (.ref o), some (.int x1), some (.int x2)] [] (rOv σ o sc ar) P ↔ (if x1 ≤ x2 then wp 158 28 [some (.ref o), some (.int x1), some (.int x2)] [] (rOv σ o sc ar) P else wp 158 12 [some (.ref o), some (.int x1), some (.int x2)] [] (rOv σ o sc ar) P) := by
  refine (wp_s (n := 8) (zcode_of mc_158 (r := (.iload_n 2, 0, 0, 0)) rfl) rfl rfl).trans ?_
  refine (wp_s (n := 9) (zcode_of mc_158 (r := (.iload_n 1, 0, 0, 0)) rfl) rfl rfl).trans ?_
  exact wp_jump (off := 19) (t := 28) (zcode_of mc_158 (r := (.if_icmp .ge 19, 0, 0, 0)) rfl) rfl rfl (by decide)
theorem b158_12 {σ : zSt} {o : Nat} {sc : Nat → Int32} {ar : Nat → Nat → Int32} {P : Option Value → zSt → Prop} (hR : RShape σ o) {x1 x2 : Int32} :
    wp 158 12 [some (.ref o), some (.int x1), some (.int x2)] [] (rOv σ o sc ar) P ↔ (zIn x2 (rlen 67) ∧ wpM 150 [.ref o, .int (ar 67 (Int32.toNatClampNeg x2))] (rOv σ o sc ar) (fun r τ => wp 158 22 [some (.ref o), some (.int x1), some (.int x2)] (r.toList ++ []) τ P)) := by
  refine (wp_s (n := 13) (zcode_of mc_158 (r := (.aload_n 0, 0, 0, 0)) rfl) rfl rfl).trans ?_
  refine (wp_s (n := 14) (zcode_of mc_158 (r := (.aload_n 0, 0, 0, 0)) rfl) rfl rfl).trans ?_
  refine (wr_getA (n' := 17) rfl (t := 67) hR (zcode_of mc_158 (r := (.getfield 125, 12, 47, 0)) rfl) rfl rfl).trans ?_
  refine (wp_s (n := 18) (zcode_of mc_158 (r := (.iload_n 2, 0, 0, 0)) rfl) rfl rfl).trans ?_
  refine (wr_ld (n' := 19) rfl hR (zcode_of mc_158 (r := (.iaload, 0, 0, 0)) rfl) rfl rfl).trans (and_congr Iff.rfl ?_)
  exact wp_call (q := ([.ref o, .int (ar 67 (Int32.toNatClampNeg x2))], [])) (zcode_of mc_158 (r := (.invokevirtual 231, 150, 0, 1)) rfl) rfl (zCa_V (Nat.le_of_ble_eq_true rfl) rfl hR.tg) ⟨Nat.le_of_ble_eq_true rfl, Nat.le_of_ble_eq_true rfl⟩
theorem b158_22 {σ : zSt} {o : Nat} {sc : Nat → Int32} {ar : Nat → Nat → Int32} {P : Option Value → zSt → Prop} (hR : RShape σ o) {x1 x2 : Int32} :
    wp 158 22 [some (.ref o), some (.int x1), some (.int x2)] [] (rOv σ o sc ar) P ↔ wp 158 7 [some (.ref o), some (.int x1), some (.int (x2 + 1))] [] (rOv σ o sc ar) P := by
  refine (wp_inc (n' := 25) rfl (zcode_of mc_158 (r := (.iinc 2 1, 0, 0, 0)) rfl) rfl rfl ci_1).trans ?_
  exact wp_goto (off := (-18)) (t := 7) (zcode_of mc_158 (r := (.goto (-18), 0, 0, 0)) rfl) (by decide)
theorem b158_28 {σ : zSt} {o : Nat} {sc : Nat → Int32} {ar : Nat → Nat → Int32} {P : Option Value → zSt → Prop} (hR : RShape σ o) {x1 x2 : Int32} :
    wp 158 28 [some (.ref o), some (.int x1), some (.int x2)] [] (rOv σ o sc ar) P ↔ P none (rOv σ o sc ar) := by
  exact wp_retV (zcode_of mc_158 (r := (.return_, 0, 0, 0)) rfl) rfl
theorem mc_159 : mCode 159 = zc_159 := rfl
theorem b159 {σ : zSt} {o : Nat} {sc : Nat → Int32} {ar : Nat → Nat → Int32} {P : Option Value → zSt → Prop} (hR : RShape σ o) :
    wpM 159 [.ref o] (rOv σ o sc ar) P ↔ wp 159 4 [some (.ref o), some (.int 0), some (.int 0)] [] (rOv σ o sc ar) P := by
  show wp 159 0 [some (.ref o), none, none] [] (rOv σ o sc ar) P ↔ _
  refine (wp_ic (n' := 1) rfl (zcode_of mc_159 (r := (.iconst 0, 0, 0, 0)) rfl) ci_0).trans ?_
  refine (wp_s (n := 2) (zcode_of mc_159 (r := (.istore_n 1, 0, 0, 0)) rfl) rfl rfl).trans ?_
  refine (wp_ic (n' := 3) rfl (zcode_of mc_159 (r := (.iconst 0, 0, 0, 0)) rfl) ci_0).trans ?_
  refine (wp_s (n := 4) (zcode_of mc_159 (r := (.istore_n 2, 0, 0, 0)) rfl) rfl rfl).trans ?_
  exact Iff.rfl
theorem b159_4 {σ : zSt} {o : Nat} {sc : Nat → Int32} {ar : Nat → Nat → Int32} {P : Option Value → zSt → Prop} (hR : RShape σ o) {x1 x2 : Int32} :
    wp 159 4 [some (.ref o), some (.int x1), some (.int x2)] [] (rOv σ o sc ar) P ↔ (if (sc 48) ≤ x2 then wp 159 27 [some (.ref o), some (.int x1), some (.int x2)] [] (rOv σ o sc ar) P else wp 159 12 [some (.ref o), some (.int x1), some (.int x2)] [] (rOv σ o sc ar) P) := by
  refine (wp_s (n := 5) (zcode_of mc_159 (r := (.iload_n 2, 0, 0, 0)) rfl) rfl rfl).trans ?_
  refine (wp_s (n := 6) (zcode_of mc_159 (r := (.aload_n 0, 0, 0, 0)) rfl) rfl rfl).trans ?_
  refine (wr_getI (n' := 9) rfl hR (zcode_of mc_159 (r := (.getfield 225, 12, 48, 0)) rfl) rfl).trans ?_
  exact wp_jump (off := 18) (t := 27) (zcode_of mc_159 (r := (.if_icmp .ge 18, 0, 0, 0)) rfl) rfl rfl (by decide)
theorem b159_12 {σ : zSt} {o : Nat} {sc : Nat → Int32} {ar : Nat → Nat → Int32} {P : Option Value → zSt → Prop} (hR : RShape σ o) {x1 x2 : Int32} :
    wp 159 12 [some (.ref o), some (.int x1), some (.int x2)] [] (rOv σ o sc ar) P ↔ (zIn x2 (rlen 67) ∧ wp 159 4 [some (.ref o), some (.int (x1 + (ar 67 (Int32.toNatClampNeg x2)))), some (.int (x2 + 1))] [] (rOv σ o sc ar) P) := by
  refine (wp_s (n := 13) (zcode_of mc_159 (r := (.iload_n 1, 0, 0, 0)) rfl) rfl rfl).trans ?_
  refine (wp_s (n := 14) (zcode_of mc_159 (r := (.aload_n 0, 0, 0, 0)) rfl) rfl rfl).trans ?_
  refine (wr_getA (n' := 17) rfl (t := 67) hR (zcode_of mc_159 (r := (.getfield 125, 12, 47, 0)) rfl) rfl rfl).trans ?_
  refine (wp_s (n := 18) (zcode_of mc_159 (r := (.iload_n 2, 0, 0, 0)) rfl) rfl rfl).trans ?_
  refine (wr_ld (n' := 19) rfl hR (zcode_of mc_159 (r := (.iaload, 0, 0, 0)) rfl) rfl rfl).trans (and_congr Iff.rfl ?_)
  refine (wp_s (n := 20) (zcode_of mc_159 (r := (.iadd, 0, 0, 0)) rfl) rfl rfl).trans ?_
  refine (wp_s (n := 21) (zcode_of mc_159 (r := (.istore_n 1, 0, 0, 0)) rfl) rfl rfl).trans ?_
  refine (wp_inc (n' := 24) rfl (zcode_of mc_159 (r := (.iinc 2 1, 0, 0, 0)) rfl) rfl rfl ci_1).trans ?_
  exact wp_goto (off := (-20)) (t := 4) (zcode_of mc_159 (r := (.goto (-20), 0, 0, 0)) rfl) (by decide)
theorem b159_27 {σ : zSt} {o : Nat} {sc : Nat → Int32} {ar : Nat → Nat → Int32} {P : Option Value → zSt → Prop} (hR : RShape σ o) {x1 x2 : Int32} :
    wp 159 27 [some (.ref o), some (.int x1), some (.int x2)] [] (rOv σ o sc ar) P ↔ P (some (.int x1)) (rOv σ o sc ar) := by
  refine (wp_s (n := 28) (zcode_of mc_159 (r := (.iload_n 1, 0, 0, 0)) rfl) rfl rfl).trans ?_
  exact wp_retI (zcode_of mc_159 (r := (.ireturn, 0, 0, 0)) rfl) rfl
theorem mc_160 : mCode 160 = zc_160 := rfl
theorem b160 {σ : zSt} {o : Nat} {sc : Nat → Int32} {ar : Nat → Nat → Int32} {P : Option Value → zSt → Prop} (hR : RShape σ o) {x1 : Int32} :
    wpM 160 [.ref o, .int x1] (rOv σ o sc ar) P ↔ wp 160 2 [some (.ref o), some (.int x1), some (.int 0)] [] (rOv σ o sc ar) P := by
  show wp 160 0 [some (.ref o), some (.int x1), none] [] (rOv σ o sc ar) P ↔ _
  refine (wp_ic (n' := 1) rfl (zcode_of mc_160 (r := (.iconst 0, 0, 0, 0)) rfl) ci_0).trans ?_
  refine (wp_s (n := 2) (zcode_of mc_160 (r := (.istore_n 2, 0, 0, 0)) rfl) rfl rfl).trans ?_
  exact Iff.rfl
theorem b160_2 {σ : zSt} {o : Nat} {sc : Nat → Int32} {ar : Nat → Nat → Int32} {P : Option Value → zSt → Prop} (hR : RShape σ o) {x1 x2 : Int32} :
    wp 160 2 [some (.ref o), some (.int x1), some (.int x2)] [] (rOv σ o sc ar) P ↔ (if (sc 48) ≤ x2 then wp 160 30 [some (.ref o), some (.int x1), some (.int x2)] [] (rOv σ o sc ar) P else wp 160 10 [some (.ref o), some (.int x1), some (.int x2)] [] (rOv σ o sc ar) P) := by
  refine (wp_s (n := 3) (zcode_of mc_160 (r := (.iload_n 2, 0, 0, 0)) rfl) rfl rfl).trans ?_
  refine (wp_s (n := 4) (zcode_of mc_160 (r := (.aload_n 0, 0, 0, 0)) rfl) rfl rfl).trans ?_
  refine (wr_getI (n' := 7) rfl hR (zcode_of mc_160 (r := (.getfield 225, 12, 48, 0)) rfl) rfl).trans ?_
  exact wp_jump (off := 23) (t := 30) (zcode_of mc_160 (r := (.if_icmp .ge 23, 0, 0, 0)) rfl) rfl rfl (by decide)
theorem b160_10 {σ : zSt} {o : Nat} {sc : Nat → Int32} {ar : Nat → Nat → Int32} {P : Option Value → zSt → Prop} (hR : RShape σ o) {x1 x2 : Int32} :
    wp 160 10 [some (.ref o), some (.int x1), some (.int x2)] [] (rOv σ o sc ar) P ↔ (zIn x2 (rlen 67) ∧ (zIn x2 (rlen 67) ∧ wp 160 2 [some (.ref o), some (.int x1), some (.int (x2 + 1))] [] (rOv σ o sc (upA ar 67 (Int32.toNatClampNeg x2) ((ar 67 (Int32.toNatClampNeg x2)) ^^^ x1))) P)) := by
  refine (wp_s (n := 11) (zcode_of mc_160 (r := (.aload_n 0, 0, 0, 0)) rfl) rfl rfl).trans ?_
  refine (wr_getA (n' := 14) rfl (t := 67) hR (zcode_of mc_160 (r := (.getfield 125, 12, 47, 0)) rfl) rfl rfl).trans ?_
  refine (wp_s (n := 15) (zcode_of mc_160 (r := (.iload_n 2, 0, 0, 0)) rfl) rfl rfl).trans ?_
  refine (wp_s (n := 16) (zcode_of mc_160 (r := (.aload_n 0, 0, 0, 0)) rfl) rfl rfl).trans ?_
  refine (wr_getA (n' := 19) rfl (t := 67) hR (zcode_of mc_160 (r := (.getfield 125, 12, 47, 0)) rfl) rfl rfl).trans ?_
  refine (wp_s (n := 20) (zcode_of mc_160 (r := (.iload_n 2, 0, 0, 0)) rfl) rfl rfl).trans ?_
  refine (wr_ld (n' := 21) rfl hR (zcode_of mc_160 (r := (.iaload, 0, 0, 0)) rfl) rfl rfl).trans (and_congr Iff.rfl ?_)
  refine (wp_s (n := 22) (zcode_of mc_160 (r := (.iload_n 1, 0, 0, 0)) rfl) rfl rfl).trans ?_
  refine (wp_s (n := 23) (zcode_of mc_160 (r := (.ixor, 0, 0, 0)) rfl) rfl rfl).trans ?_
  refine (wr_st (n' := 24) rfl hR (zcode_of mc_160 (r := (.iastore, 0, 0, 0)) rfl) rfl rfl).trans (and_congr Iff.rfl ?_)
  refine (wp_inc (n' := 27) rfl (zcode_of mc_160 (r := (.iinc 2 1, 0, 0, 0)) rfl) rfl rfl ci_1).trans ?_
  exact wp_goto (off := (-25)) (t := 2) (zcode_of mc_160 (r := (.goto (-25), 0, 0, 0)) rfl) (by decide)
theorem b160_30 {σ : zSt} {o : Nat} {sc : Nat → Int32} {ar : Nat → Nat → Int32} {P : Option Value → zSt → Prop} (hR : RShape σ o) {x1 x2 : Int32} :
    wp 160 30 [some (.ref o), some (.int x1), some (.int x2)] [] (rOv σ o sc ar) P ↔ P none (rOv σ o sc ar) := by
  exact wp_retV (zcode_of mc_160 (r := (.return_, 0, 0, 0)) rfl) rfl
theorem mc_161 : mCode 161 = zc_161 := rfl
theorem b161 {σ : zSt} {o : Nat} {sc : Nat → Int32} {ar : Nat → Nat → Int32} {P : Option Value → zSt → Prop} (hR : RShape σ o) {x1 x2 : Int32} :
    wpM 161 [.ref o, .int x1, .int x2] (rOv σ o sc ar) P ↔ (if x1 = 1 then wp 161 64 [some (.ref o), some (.int x1), some (.int x2)] [] (rOv σ o sc ar) P else if x1 = 4 then wp 161 72 [some (.ref o), some (.int x1), some (.int x2)] [] (rOv σ o sc ar) P else if x1 = 5 then wp 161 79 [some (.ref o), some (.int x1), some (.int x2)] [] (rOv σ o sc ar) P else if x1 = 6 then wp 161 86 [some (.ref o), some (.int x1), some (.int x2)] [] (rOv σ o sc ar) P else if x1 = 7 then wp 161 97 [some (.ref o), some (.int x1), some (.int x2)] [] (rOv σ o sc ar) P else if x1 = 8 then wp 161 108 [some (.ref o), some (.int x1), some (.int x2)] [] (rOv σ o sc ar) P else if x1 = 10 then wp 161 131 [some (.ref o), some (.int x1), some (.int x2)] [] (rOv σ o sc ar) P else if x1 = 11 then wp 161 138 [some (.ref o), some (.int x1), some (.int x2)] [] (rOv σ o sc ar) P else if x1 = 12 then wp 161 146 [some (.ref o), some (.int x1), some (.int x2)] [] (rOv σ o sc ar) P else wp 161 154 [some (.ref o), some (.int x1), some (.int x2)] [] (rOv σ o sc ar) P) := by
  show wp 161 0 [some (.ref o), some (.int x1), some (.int x2)] [] (rOv σ o sc ar) P ↔ _
  refine (wp_s (n := 1) (zcode_of mc_161 (r := (.iload_n 1, 0, 0, 0)) rfl) rfl rfl).trans ?_
  by_cases h1 : x1 = 1
  · rw [if_pos h1, h1]
    exact wp_swI (zcode_of mc_161 (r := (.tableswitch 153 1 12 #[63, 153, 153, 71, 78, 85, 96, 107, 153, 130, 137, 145], 0, 0, 0)) rfl) (t := 64) (by decide)
  rw [if_neg h1]
  by_cases h4 : x1 = 4
  · rw [if_pos h4, h4]
    exact wp_swI (zcode_of mc_161 (r := (.tableswitch 153 1 12 #[63, 153, 153, 71, 78, 85, 96, 107, 153, 130, 137, 145], 0, 0, 0)) rfl) (t := 72) (by decide)
  rw [if_neg h4]
  by_cases h5 : x1 = 5
  · rw [if_pos h5, h5]
    exact wp_swI (zcode_of mc_161 (r := (.tableswitch 153 1 12 #[63, 153, 153, 71, 78, 85, 96, 107, 153, 130, 137, 145], 0, 0, 0)) rfl) (t := 79) (by decide)
  rw [if_neg h5]
  by_cases h6 : x1 = 6
  · rw [if_pos h6, h6]
    exact wp_swI (zcode_of mc_161 (r := (.tableswitch 153 1 12 #[63, 153, 153, 71, 78, 85, 96, 107, 153, 130, 137, 145], 0, 0, 0)) rfl) (t := 86) (by decide)
  rw [if_neg h6]
  by_cases h7 : x1 = 7
  · rw [if_pos h7, h7]
    exact wp_swI (zcode_of mc_161 (r := (.tableswitch 153 1 12 #[63, 153, 153, 71, 78, 85, 96, 107, 153, 130, 137, 145], 0, 0, 0)) rfl) (t := 97) (by decide)
  rw [if_neg h7]
  by_cases h8 : x1 = 8
  · rw [if_pos h8, h8]
    exact wp_swI (zcode_of mc_161 (r := (.tableswitch 153 1 12 #[63, 153, 153, 71, 78, 85, 96, 107, 153, 130, 137, 145], 0, 0, 0)) rfl) (t := 108) (by decide)
  rw [if_neg h8]
  by_cases h10 : x1 = 10
  · rw [if_pos h10, h10]
    exact wp_swI (zcode_of mc_161 (r := (.tableswitch 153 1 12 #[63, 153, 153, 71, 78, 85, 96, 107, 153, 130, 137, 145], 0, 0, 0)) rfl) (t := 131) (by decide)
  rw [if_neg h10]
  by_cases h11 : x1 = 11
  · rw [if_pos h11, h11]
    exact wp_swI (zcode_of mc_161 (r := (.tableswitch 153 1 12 #[63, 153, 153, 71, 78, 85, 96, 107, 153, 130, 137, 145], 0, 0, 0)) rfl) (t := 138) (by decide)
  rw [if_neg h11]
  by_cases h12 : x1 = 12
  · rw [if_pos h12, h12]
    exact wp_swI (zcode_of mc_161 (r := (.tableswitch 153 1 12 #[63, 153, 153, 71, 78, 85, 96, 107, 153, 130, 137, 145], 0, 0, 0)) rfl) (t := 146) (by decide)
  rw [if_neg h12]
  by_cases h2 : x1 = 2
  · rw [h2]
    exact wp_swI (zcode_of mc_161 (r := (.tableswitch 153 1 12 #[63, 153, 153, 71, 78, 85, 96, 107, 153, 130, 137, 145], 0, 0, 0)) rfl) (t := 154) (by decide)
  by_cases h3 : x1 = 3
  · rw [h3]
    exact wp_swI (zcode_of mc_161 (r := (.tableswitch 153 1 12 #[63, 153, 153, 71, 78, 85, 96, 107, 153, 130, 137, 145], 0, 0, 0)) rfl) (t := 154) (by decide)
  by_cases h9 : x1 = 9
  · rw [h9]
    exact wp_swI (zcode_of mc_161 (r := (.tableswitch 153 1 12 #[63, 153, 153, 71, 78, 85, 96, 107, 153, 130, 137, 145], 0, 0, 0)) rfl) (t := 154) (by decide)
  exact wp_swO (zcode_of mc_161 (r := (.tableswitch 153 1 12 #[63, 153, 153, 71, 78, 85, 96, 107, 153, 130, 137, 145], 0, 0, 0)) rfl) (t := 154) (by decide) (zsw_lo (fun k g1 g2 => by
    rcases (show k = 1 ∨ k = 2 ∨ k = 3 ∨ k = 4 ∨ k = 5 ∨ k = 6 ∨ k = 7 ∨ k = 8 ∨ k = 9 ∨ k = 10 ∨ k = 11 ∨ k = 12 by omega) with rfl | rfl | rfl | rfl | rfl | rfl | rfl | rfl | rfl | rfl | rfl | rfl
    · exact h1
    · exact h2
    · exact h3
    · exact h4
    · exact h5
    · exact h6
    · exact h7
    · exact h8
    · exact h9
    · exact h10
    · exact h11
    · exact h12) (by decide) (by decide))
theorem b161_64 {σ : zSt} {o : Nat} {sc : Nat → Int32} {ar : Nat → Nat → Int32} {P : Option Value → zSt → Prop} (hR : RShape σ o) {x1 x2 : Int32} :
    wp 161 64 [some (.ref o), some (.int x1), some (.int x2)] [] (rOv σ o sc ar) P ↔ wpM 150 [.ref o, .int x2] (rOv σ o sc ar) (fun r τ => wp 161 69 [some (.ref o), some (.int x1), some (.int x2)] (r.toList ++ []) τ P) := by
  refine (wp_s (n := 65) (zcode_of mc_161 (r := (.aload_n 0, 0, 0, 0)) rfl) rfl rfl).trans ?_
  refine (wp_s (n := 66) (zcode_of mc_161 (r := (.iload_n 2, 0, 0, 0)) rfl) rfl rfl).trans ?_
  exact wp_call (q := ([.ref o, .int x2], [])) (zcode_of mc_161 (r := (.invokevirtual 231, 150, 0, 1)) rfl) rfl (zCa_V (Nat.le_of_ble_eq_true rfl) rfl hR.tg) ⟨Nat.le_of_ble_eq_true rfl, Nat.le_of_ble_eq_true rfl⟩
theorem b161_69 {σ : zSt} {o : Nat} {sc : Nat → Int32} {ar : Nat → Nat → Int32} {P : Option Value → zSt → Prop} (hR : RShape σ o) {x1 x2 : Int32} :
    wp 161 69 [some (.ref o), some (.int x1), some (.int x2)] [] (rOv σ o sc ar) P ↔ wp 161 158 [some (.ref o), some (.int x1), some (.int x2)] [] (rOv σ o sc ar) P := by
  exact wp_goto (off := 89) (t := 158) (zcode_of mc_161 (r := (.goto 89, 0, 0, 0)) rfl) (by decide)
theorem b161_72 {σ : zSt} {o : Nat} {sc : Nat → Int32} {ar : Nat → Nat → Int32} {P : Option Value → zSt → Prop} (hR : RShape σ o) {x1 x2 : Int32} :
    wp 161 72 [some (.ref o), some (.int x1), some (.int x2)] [] (rOv σ o sc ar) P ↔ wpM 155 [.ref o] (rOv σ o sc ar) (fun r τ => wp 161 76 [some (.ref o), some (.int x1), some (.int x2)] (r.toList ++ []) τ P) := by
  refine (wp_s (n := 73) (zcode_of mc_161 (r := (.aload_n 0, 0, 0, 0)) rfl) rfl rfl).trans ?_
  exact wp_call (q := ([.ref o], [])) (zcode_of mc_161 (r := (.invokevirtual 234, 155, 0, 0)) rfl) rfl (zCa_V (Nat.le_of_ble_eq_true rfl) rfl hR.tg) ⟨Nat.le_of_ble_eq_true rfl, Nat.le_of_ble_eq_true rfl⟩
theorem b161_76 {σ : zSt} {o : Nat} {sc : Nat → Int32} {ar : Nat → Nat → Int32} {P : Option Value → zSt → Prop} (hR : RShape σ o) {x1 x2 : Int32} :
    wp 161 76 [some (.ref o), some (.int x1), some (.int x2)] [] (rOv σ o sc ar) P ↔ wp 161 158 [some (.ref o), some (.int x1), some (.int x2)] [] (rOv σ o sc ar) P := by
  exact wp_goto (off := 82) (t := 158) (zcode_of mc_161 (r := (.goto 82, 0, 0, 0)) rfl) (by decide)
theorem b161_79 {σ : zSt} {o : Nat} {sc : Nat → Int32} {ar : Nat → Nat → Int32} {P : Option Value → zSt → Prop} (hR : RShape σ o) {x1 x2 : Int32} :
    wp 161 79 [some (.ref o), some (.int x1), some (.int x2)] [] (rOv σ o sc ar) P ↔ wpM 156 [.ref o] (rOv σ o sc ar) (fun r τ => wp 161 83 [some (.ref o), some (.int x1), some (.int x2)] (r.toList ++ []) τ P) := by
  refine (wp_s (n := 80) (zcode_of mc_161 (r := (.aload_n 0, 0, 0, 0)) rfl) rfl rfl).trans ?_
  exact wp_call (q := ([.ref o], [])) (zcode_of mc_161 (r := (.invokevirtual 237, 156, 0, 0)) rfl) rfl (zCa_V (Nat.le_of_ble_eq_true rfl) rfl hR.tg) ⟨Nat.le_of_ble_eq_true rfl, Nat.le_of_ble_eq_true rfl⟩
theorem b161_83 {σ : zSt} {o : Nat} {sc : Nat → Int32} {ar : Nat → Nat → Int32} {P : Option Value → zSt → Prop} (hR : RShape σ o) {x1 x2 : Int32} :
    wp 161 83 [some (.ref o), some (.int x1), some (.int x2)] [] (rOv σ o sc ar) P ↔ wp 161 158 [some (.ref o), some (.int x1), some (.int x2)] [] (rOv σ o sc ar) P := by
  exact wp_goto (off := 75) (t := 158) (zcode_of mc_161 (r := (.goto 75, 0, 0, 0)) rfl) (by decide)
theorem b161_86 {σ : zSt} {o : Nat} {sc : Nat → Int32} {ar : Nat → Nat → Int32} {P : Option Value → zSt → Prop} (hR : RShape σ o) {x1 x2 : Int32} :
    wp 161 86 [some (.ref o), some (.int x1), some (.int x2)] [] (rOv σ o sc ar) P ↔ wpM 151 [.ref o, .int (sc 48)] (rOv σ o sc ar) (fun r τ => wp 161 94 [some (.ref o), some (.int x1), some (.int x2)] (r.toList ++ []) τ P) := by
  refine (wp_s (n := 87) (zcode_of mc_161 (r := (.aload_n 0, 0, 0, 0)) rfl) rfl rfl).trans ?_
  refine (wp_s (n := 88) (zcode_of mc_161 (r := (.aload_n 0, 0, 0, 0)) rfl) rfl rfl).trans ?_
  refine (wr_getI (n' := 91) rfl hR (zcode_of mc_161 (r := (.getfield 225, 12, 48, 0)) rfl) rfl).trans ?_
  exact wp_call (q := ([.ref o, .int (sc 48)], [])) (zcode_of mc_161 (r := (.invokevirtual 240, 151, 0, 1)) rfl) rfl (zCa_V (Nat.le_of_ble_eq_true rfl) rfl hR.tg) ⟨Nat.le_of_ble_eq_true rfl, Nat.le_of_ble_eq_true rfl⟩
theorem b161_94 {σ : zSt} {o : Nat} {sc : Nat → Int32} {ar : Nat → Nat → Int32} {P : Option Value → zSt → Prop} (hR : RShape σ o) {x1 x2 : Int32} :
    wp 161 94 [some (.ref o), some (.int x1), some (.int x2)] [] (rOv σ o sc ar) P ↔ wp 161 158 [some (.ref o), some (.int x1), some (.int x2)] [] (rOv σ o sc ar) P := by
  exact wp_goto (off := 64) (t := 158) (zcode_of mc_161 (r := (.goto 64, 0, 0, 0)) rfl) (by decide)
theorem b161_97 {σ : zSt} {o : Nat} {sc : Nat → Int32} {ar : Nat → Nat → Int32} {P : Option Value → zSt → Prop} (hR : RShape σ o) {x1 x2 : Int32} :
    wp 161 97 [some (.ref o), some (.int x1), some (.int x2)] [] (rOv σ o sc ar) P ↔ wpM 159 [.ref o] (rOv σ o sc ar) (fun r τ => wp 161 102 [some (.ref o), some (.int x1), some (.int x2)] (r.toList ++ [.ref o]) τ P) := by
  refine (wp_s (n := 98) (zcode_of mc_161 (r := (.aload_n 0, 0, 0, 0)) rfl) rfl rfl).trans ?_
  refine (wp_s (n := 99) (zcode_of mc_161 (r := (.aload_n 0, 0, 0, 0)) rfl) rfl rfl).trans ?_
  exact wp_call (q := ([.ref o], [.ref o])) (zcode_of mc_161 (r := (.invokevirtual 243, 159, 0, 0)) rfl) rfl (zCa_V (Nat.le_of_ble_eq_true rfl) rfl hR.tg) ⟨Nat.le_of_ble_eq_true rfl, Nat.le_of_ble_eq_true rfl⟩
theorem b161_102 {σ : zSt} {o : Nat} {sc : Nat → Int32} {ar : Nat → Nat → Int32} {P : Option Value → zSt → Prop} (hR : RShape σ o) {x1 x2 s0 : Int32} :
    wp 161 102 [some (.ref o), some (.int x1), some (.int x2)] [.int s0, .ref o] (rOv σ o sc ar) P ↔ wpM 151 [.ref o, .int s0] (rOv σ o sc ar) (fun r τ => wp 161 105 [some (.ref o), some (.int x1), some (.int x2)] (r.toList ++ []) τ P) := by
  exact wp_call (q := ([.ref o, .int s0], [])) (zcode_of mc_161 (r := (.invokevirtual 240, 151, 0, 1)) rfl) rfl (zCa_V (Nat.le_of_ble_eq_true rfl) rfl hR.tg) ⟨Nat.le_of_ble_eq_true rfl, Nat.le_of_ble_eq_true rfl⟩
theorem b161_105 {σ : zSt} {o : Nat} {sc : Nat → Int32} {ar : Nat → Nat → Int32} {P : Option Value → zSt → Prop} (hR : RShape σ o) {x1 x2 : Int32} :
    wp 161 105 [some (.ref o), some (.int x1), some (.int x2)] [] (rOv σ o sc ar) P ↔ wp 161 158 [some (.ref o), some (.int x1), some (.int x2)] [] (rOv σ o sc ar) P := by
  exact wp_goto (off := 53) (t := 158) (zcode_of mc_161 (r := (.goto 53, 0, 0, 0)) rfl) (by decide)
theorem b161_108 {σ : zSt} {o : Nat} {sc : Nat → Int32} {ar : Nat → Nat → Int32} {P : Option Value → zSt → Prop} (hR : RShape σ o) {x1 x2 : Int32} :
    wp 161 108 [some (.ref o), some (.int x1), some (.int x2)] [] (rOv σ o sc ar) P ↔ (if x2 ≤ (sc 48) then wp 161 124 [some (.ref o), some (.int x1), some (.int x2)] [.ref o] (rOv σ o sc ar) P else wp 161 117 [some (.ref o), some (.int x1), some (.int x2)] [.ref o] (rOv σ o sc ar) P) := by
  refine (wp_s (n := 109) (zcode_of mc_161 (r := (.aload_n 0, 0, 0, 0)) rfl) rfl rfl).trans ?_
  refine (wp_s (n := 110) (zcode_of mc_161 (r := (.aload_n 0, 0, 0, 0)) rfl) rfl rfl).trans ?_
  refine (wr_getI (n' := 113) rfl hR (zcode_of mc_161 (r := (.getfield 225, 12, 48, 0)) rfl) rfl).trans ?_
  refine (wp_s (n := 114) (zcode_of mc_161 (r := (.iload_n 2, 0, 0, 0)) rfl) rfl rfl).trans ?_
  exact wp_jump (off := 10) (t := 124) (zcode_of mc_161 (r := (.if_icmp .ge 10, 0, 0, 0)) rfl) rfl rfl (by decide)
theorem b161_117 {σ : zSt} {o : Nat} {sc : Nat → Int32} {ar : Nat → Nat → Int32} {P : Option Value → zSt → Prop} (hR : RShape σ o) {x1 x2 : Int32} :
    wp 161 117 [some (.ref o), some (.int x1), some (.int x2)] [.ref o] (rOv σ o sc ar) P ↔ wp 161 125 [some (.ref o), some (.int x1), some (.int x2)] [.int (sc 48), .ref o] (rOv σ o sc ar) P := by
  refine (wp_s (n := 118) (zcode_of mc_161 (r := (.aload_n 0, 0, 0, 0)) rfl) rfl rfl).trans ?_
  refine (wr_getI (n' := 121) rfl hR (zcode_of mc_161 (r := (.getfield 225, 12, 48, 0)) rfl) rfl).trans ?_
  exact wp_goto (off := 4) (t := 125) (zcode_of mc_161 (r := (.goto 4, 0, 0, 0)) rfl) (by decide)
theorem b161_124 {σ : zSt} {o : Nat} {sc : Nat → Int32} {ar : Nat → Nat → Int32} {P : Option Value → zSt → Prop} (hR : RShape σ o) {x1 x2 : Int32} :
    wp 161 124 [some (.ref o), some (.int x1), some (.int x2)] [.ref o] (rOv σ o sc ar) P ↔ wp 161 125 [some (.ref o), some (.int x1), some (.int x2)] [.int x2, .ref o] (rOv σ o sc ar) P := by
  refine (wp_s (n := 125) (zcode_of mc_161 (r := (.iload_n 2, 0, 0, 0)) rfl) rfl rfl).trans ?_
  exact Iff.rfl
theorem b161_125 {σ : zSt} {o : Nat} {sc : Nat → Int32} {ar : Nat → Nat → Int32} {P : Option Value → zSt → Prop} (hR : RShape σ o) {x1 x2 s0 : Int32} :
    wp 161 125 [some (.ref o), some (.int x1), some (.int x2)] [.int s0, .ref o] (rOv σ o sc ar) P ↔ wp 161 158 [some (.ref o), some (.int x1), some (.int x2)] [] (rOv σ o (upS sc 48 s0) ar) P := by
  refine (wr_put (n' := 128) rfl hR (zcode_of mc_161 (r := (.putfield 225, 12, 48, 0)) rfl) rfl).trans ?_
  exact wp_goto (off := 30) (t := 158) (zcode_of mc_161 (r := (.goto 30, 0, 0, 0)) rfl) (by decide)
theorem b161_131 {σ : zSt} {o : Nat} {sc : Nat → Int32} {ar : Nat → Nat → Int32} {P : Option Value → zSt → Prop} (hR : RShape σ o) {x1 x2 : Int32} :
    wp 161 131 [some (.ref o), some (.int x1), some (.int x2)] [] (rOv σ o sc ar) P ↔ wpM 157 [.ref o] (rOv σ o sc ar) (fun r τ => wp 161 135 [some (.ref o), some (.int x1), some (.int x2)] (r.toList ++ []) τ P) := by
  refine (wp_s (n := 132) (zcode_of mc_161 (r := (.aload_n 0, 0, 0, 0)) rfl) rfl rfl).trans ?_
  exact wp_call (q := ([.ref o], [])) (zcode_of mc_161 (r := (.invokevirtual 247, 157, 0, 0)) rfl) rfl (zCa_V (Nat.le_of_ble_eq_true rfl) rfl hR.tg) ⟨Nat.le_of_ble_eq_true rfl, Nat.le_of_ble_eq_true rfl⟩
theorem b161_135 {σ : zSt} {o : Nat} {sc : Nat → Int32} {ar : Nat → Nat → Int32} {P : Option Value → zSt → Prop} (hR : RShape σ o) {x1 x2 : Int32} :
    wp 161 135 [some (.ref o), some (.int x1), some (.int x2)] [] (rOv σ o sc ar) P ↔ wp 161 158 [some (.ref o), some (.int x1), some (.int x2)] [] (rOv σ o sc ar) P := by
  exact wp_goto (off := 23) (t := 158) (zcode_of mc_161 (r := (.goto 23, 0, 0, 0)) rfl) (by decide)
theorem b161_138 {σ : zSt} {o : Nat} {sc : Nat → Int32} {ar : Nat → Nat → Int32} {P : Option Value → zSt → Prop} (hR : RShape σ o) {x1 x2 : Int32} :
    wp 161 138 [some (.ref o), some (.int x1), some (.int x2)] [] (rOv σ o sc ar) P ↔ wp 161 158 [some (.ref o), some (.int x1), some (.int x2)] [] (rOv σ o (upS sc 49 5) ar) P := by
  refine (wp_s (n := 139) (zcode_of mc_161 (r := (.aload_n 0, 0, 0, 0)) rfl) rfl rfl).trans ?_
  refine (wp_ic (n' := 140) rfl (zcode_of mc_161 (r := (.iconst 5, 0, 0, 0)) rfl) ci_5).trans ?_
  refine (wr_put (n' := 143) rfl hR (zcode_of mc_161 (r := (.putfield 228, 12, 49, 0)) rfl) rfl).trans ?_
  exact wp_goto (off := 15) (t := 158) (zcode_of mc_161 (r := (.goto 15, 0, 0, 0)) rfl) (by decide)
theorem b161_146 {σ : zSt} {o : Nat} {sc : Nat → Int32} {ar : Nat → Nat → Int32} {P : Option Value → zSt → Prop} (hR : RShape σ o) {x1 x2 : Int32} :
    wp 161 146 [some (.ref o), some (.int x1), some (.int x2)] [] (rOv σ o sc ar) P ↔ wpM 160 [.ref o, .int x2] (rOv σ o sc ar) (fun r τ => wp 161 151 [some (.ref o), some (.int x1), some (.int x2)] (r.toList ++ []) τ P) := by
  refine (wp_s (n := 147) (zcode_of mc_161 (r := (.aload_n 0, 0, 0, 0)) rfl) rfl rfl).trans ?_
  refine (wp_s (n := 148) (zcode_of mc_161 (r := (.iload_n 2, 0, 0, 0)) rfl) rfl rfl).trans ?_
  exact wp_call (q := ([.ref o, .int x2], [])) (zcode_of mc_161 (r := (.invokevirtual 250, 160, 0, 1)) rfl) rfl (zCa_V (Nat.le_of_ble_eq_true rfl) rfl hR.tg) ⟨Nat.le_of_ble_eq_true rfl, Nat.le_of_ble_eq_true rfl⟩
theorem b161_151 {σ : zSt} {o : Nat} {sc : Nat → Int32} {ar : Nat → Nat → Int32} {P : Option Value → zSt → Prop} (hR : RShape σ o) {x1 x2 : Int32} :
    wp 161 151 [some (.ref o), some (.int x1), some (.int x2)] [] (rOv σ o sc ar) P ↔ wp 161 158 [some (.ref o), some (.int x1), some (.int x2)] [] (rOv σ o sc ar) P := by
  exact wp_goto (off := 7) (t := 158) (zcode_of mc_161 (r := (.goto 7, 0, 0, 0)) rfl) (by decide)
theorem b161_154 {σ : zSt} {o : Nat} {sc : Nat → Int32} {ar : Nat → Nat → Int32} {P : Option Value → zSt → Prop} (hR : RShape σ o) {x1 x2 : Int32} :
    wp 161 154 [some (.ref o), some (.int x1), some (.int x2)] [] (rOv σ o sc ar) P ↔ wpM 158 [.ref o] (rOv σ o sc ar) (fun r τ => wp 161 158 [some (.ref o), some (.int x1), some (.int x2)] (r.toList ++ []) τ P) := by
  refine (wp_s (n := 155) (zcode_of mc_161 (r := (.aload_n 0, 0, 0, 0)) rfl) rfl rfl).trans ?_
  exact wp_call (q := ([.ref o], [])) (zcode_of mc_161 (r := (.invokevirtual 253, 158, 0, 0)) rfl) rfl (zCa_V (Nat.le_of_ble_eq_true rfl) rfl hR.tg) ⟨Nat.le_of_ble_eq_true rfl, Nat.le_of_ble_eq_true rfl⟩
theorem b161_158 {σ : zSt} {o : Nat} {sc : Nat → Int32} {ar : Nat → Nat → Int32} {P : Option Value → zSt → Prop} (hR : RShape σ o) {x1 x2 : Int32} :
    wp 161 158 [some (.ref o), some (.int x1), some (.int x2)] [] (rOv σ o sc ar) P ↔ P none (rOv σ o sc ar) := by
  exact wp_retV (zcode_of mc_161 (r := (.return_, 0, 0, 0)) rfl) rfl
theorem mc_162 : mCode 162 = zc_162 := rfl
set_option maxRecDepth 20000 in
theorem b162 {σ : zSt} {o : Nat} {sc : Nat → Int32} {ar : Nat → Nat → Int32} {P : Option Value → zSt → Prop} (hR : RShape σ o) {x1 x2 : Int32} :
    wpM 162 [.ref o, .int x1, .int x2] (rOv σ o sc ar) P ↔ wp 162 12 [some (.ref o), some (.int x1), some (.int x2), some (.int 0), none, none, none, none] [] (rOv σ o (upS (upS sc 48 0) 49 0) ar) P := by
  show wp 162 0 [some (.ref o), some (.int x1), some (.int x2), none, none, none, none, none] [] (rOv σ o sc ar) P ↔ _
  refine (wp_s (n := 1) (zcode_of mc_162 (r := (.aload_n 0, 0, 0, 0)) rfl) rfl rfl).trans ?_
  refine (wp_ic (n' := 2) rfl (zcode_of mc_162 (r := (.iconst 0, 0, 0, 0)) rfl) ci_0).trans ?_
  refine (wr_put (n' := 5) rfl hR (zcode_of mc_162 (r := (.putfield 225, 12, 48, 0)) rfl) rfl).trans ?_
  refine (wp_s (n := 6) (zcode_of mc_162 (r := (.aload_n 0, 0, 0, 0)) rfl) rfl rfl).trans ?_
  refine (wp_ic (n' := 7) rfl (zcode_of mc_162 (r := (.iconst 0, 0, 0, 0)) rfl) ci_0).trans ?_
  refine (wr_put (n' := 10) rfl hR (zcode_of mc_162 (r := (.putfield 228, 12, 49, 0)) rfl) rfl).trans ?_
  refine (wp_ic (n' := 11) rfl (zcode_of mc_162 (r := (.iconst 0, 0, 0, 0)) rfl) ci_0).trans ?_
  refine (wp_s (n := 12) (zcode_of mc_162 (r := (.istore_n 3, 0, 0, 0)) rfl) rfl rfl).trans ?_
  exact Iff.rfl
set_option maxRecDepth 20000 in
theorem b162_12 {σ : zSt} {o : Nat} {sc : Nat → Int32} {ar : Nat → Nat → Int32} {P : Option Value → zSt → Prop} (hR : RShape σ o) {x1 x2 x3 : Int32} {u4 u5 u6 u7 : Option Value} :
    wp 162 12 [some (.ref o), some (.int x1), some (.int x2), some (.int x3), u4, u5, u6, u7] [] (rOv σ o sc ar) P ↔ (if 3 ≤ x3 then wp 162 30 [some (.ref o), some (.int x1), some (.int x2), some (.int x3), u4, u5, u6, u7] [] (rOv σ o sc ar) P else wp 162 17 [some (.ref o), some (.int x1), some (.int x2), some (.int x3), u4, u5, u6, u7] [] (rOv σ o sc ar) P) := by
  refine (wp_s (n := 13) (zcode_of mc_162 (r := (.iload_n 3, 0, 0, 0)) rfl) rfl rfl).trans ?_
  refine (wp_ic (n' := 14) rfl (zcode_of mc_162 (r := (.iconst 3, 0, 0, 0)) rfl) ci_3).trans ?_
  exact wp_jump (off := 16) (t := 30) (zcode_of mc_162 (r := (.if_icmp .ge 16, 0, 0, 0)) rfl) rfl rfl (by decide)
set_option maxRecDepth 20000 in
theorem b162_17 {σ : zSt} {o : Nat} {sc : Nat → Int32} {ar : Nat → Nat → Int32} {P : Option Value → zSt → Prop} (hR : RShape σ o) {x1 x2 x3 : Int32} {u4 u5 u6 u7 : Option Value} :
    wp 162 17 [some (.ref o), some (.int x1), some (.int x2), some (.int x3), u4, u5, u6, u7] [] (rOv σ o sc ar) P ↔ (zIn x3 (rlen 70) ∧ wp 162 12 [some (.ref o), some (.int x1), some (.int x2), some (.int (x3 + 1)), u4, u5, u6, u7] [] (rOv σ o sc (upA ar 70 (Int32.toNatClampNeg x3) (-1))) P) := by
  refine (wp_s (n := 18) (zcode_of mc_162 (r := (.aload_n 0, 0, 0, 0)) rfl) rfl rfl).trans ?_
  refine (wr_getA (n' := 21) rfl (t := 70) hR (zcode_of mc_162 (r := (.getfield 128, 12, 50, 0)) rfl) rfl rfl).trans ?_
  refine (wp_s (n := 22) (zcode_of mc_162 (r := (.iload_n 3, 0, 0, 0)) rfl) rfl rfl).trans ?_
  refine (wp_ic (n' := 23) rfl (zcode_of mc_162 (r := (.iconst (-1), 0, 0, 0)) rfl) ci_m1).trans ?_
  refine (wr_st (n' := 24) rfl hR (zcode_of mc_162 (r := (.iastore, 0, 0, 0)) rfl) rfl rfl).trans (and_congr Iff.rfl ?_)
  refine (wp_inc (n' := 27) rfl (zcode_of mc_162 (r := (.iinc 3 1, 0, 0, 0)) rfl) rfl rfl ci_1).trans ?_
  exact wp_goto (off := (-15)) (t := 12) (zcode_of mc_162 (r := (.goto (-15), 0, 0, 0)) rfl) (by decide)
set_option maxRecDepth 20000 in
theorem b162_30 {σ : zSt} {o : Nat} {sc : Nat → Int32} {ar : Nat → Nat → Int32} {P : Option Value → zSt → Prop} (hR : RShape σ o) {x1 x2 x3 : Int32} {u4 u5 u6 u7 : Option Value} :
    wp 162 30 [some (.ref o), some (.int x1), some (.int x2), some (.int x3), u4, u5, u6, u7] [] (rOv σ o sc ar) P ↔ wp 162 32 [some (.ref o), some (.int x1), some (.int x2), some (.int 0), u4, u5, u6, u7] [] (rOv σ o sc ar) P := by
  refine (wp_ic (n' := 31) rfl (zcode_of mc_162 (r := (.iconst 0, 0, 0, 0)) rfl) ci_0).trans ?_
  refine (wp_s (n := 32) (zcode_of mc_162 (r := (.istore_n 3, 0, 0, 0)) rfl) rfl rfl).trans ?_
  exact Iff.rfl
set_option maxRecDepth 20000 in
theorem b162_32 {σ : zSt} {o : Nat} {sc : Nat → Int32} {ar : Nat → Nat → Int32} {P : Option Value → zSt → Prop} (hR : RShape σ o) {x1 x2 x3 : Int32} {u4 u5 u6 u7 : Option Value} :
    wp 162 32 [some (.ref o), some (.int x1), some (.int x2), some (.int x3), u4, u5, u6, u7] [] (rOv σ o sc ar) P ↔ (zIn x2 (rlen 36) ∧ (if (ar 36 (Int32.toNatClampNeg x2)) ≤ x3 then wp 162 293 [some (.ref o), some (.int x1), some (.int x2), some (.int x3), u4, u5, u6, u7] [] (rOv σ o sc ar) P else wp 162 42 [some (.ref o), some (.int x1), some (.int x2), some (.int x3), u4, u5, u6, u7] [] (rOv σ o sc ar) P)) := by
  refine (wp_s (n := 33) (zcode_of mc_162 (r := (.iload_n 3, 0, 0, 0)) rfl) rfl rfl).trans ?_
  refine (wp_s (n := 34) (zcode_of mc_162 (r := (.aload_n 0, 0, 0, 0)) rfl) rfl rfl).trans ?_
  refine (wr_getA (n' := 37) rfl (t := 36) hR (zcode_of mc_162 (r := (.getfield 54, 12, 16, 0)) rfl) rfl rfl).trans ?_
  refine (wp_s (n := 38) (zcode_of mc_162 (r := (.iload_n 2, 0, 0, 0)) rfl) rfl rfl).trans ?_
  refine (wr_ld (n' := 39) rfl hR (zcode_of mc_162 (r := (.iaload, 0, 0, 0)) rfl) rfl rfl).trans (and_congr Iff.rfl ?_)
  exact wp_jump (off := 254) (t := 293) (zcode_of mc_162 (r := (.if_icmp .ge 254, 0, 0, 0)) rfl) rfl rfl (by decide)
