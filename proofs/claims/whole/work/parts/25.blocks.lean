set_option maxRecDepth 20000 in
theorem b162_42 {σ : zSt} {o : Nat} {sc : Nat → Int32} {ar : Nat → Nat → Int32} {P : Option Value → zSt → Prop} (hR : RShape σ o) {x1 x2 x3 : Int32} {u4 u5 u6 u7 : Option Value} :
    wp 162 42 [some (.ref o), some (.int x1), some (.int x2), some (.int x3), u4, u5, u6, u7] [] (rOv σ o sc ar) P ↔ (if ¬ (sc 49) = 0 then wp 162 293 [some (.ref o), some (.int x1), some (.int x2), some (.int x3), u4, u5, u6, u7] [] (rOv σ o sc ar) P else wp 162 49 [some (.ref o), some (.int x1), some (.int x2), some (.int x3), u4, u5, u6, u7] [] (rOv σ o sc ar) P) := by
  refine (wp_s (n := 43) (zcode_of mc_162 (r := (.aload_n 0, 0, 0, 0)) rfl) rfl rfl).trans ?_
  refine (wr_getI (n' := 46) rfl hR (zcode_of mc_162 (r := (.getfield 228, 12, 49, 0)) rfl) rfl).trans ?_
  exact wp_jump (off := 247) (t := 293) (zcode_of mc_162 (r := (.ifCond .ne 247, 0, 0, 0)) rfl) rfl rfl (by decide)
set_option maxRecDepth 20000 in
theorem b162_49 {σ : zSt} {o : Nat} {sc : Nat → Int32} {ar : Nat → Nat → Int32} {P : Option Value → zSt → Prop} (hR : RShape σ o) {x1 x2 x3 : Int32} {u4 u5 u6 u7 : Option Value} :
    wp 162 49 [some (.ref o), some (.int x1), some (.int x2), some (.int x3), u4, u5, u6, u7] [] (rOv σ o sc ar) P ↔ (zIn ((16 * x2) + x3) (rlen 34) ∧ (zIn ((16 * x2) + x3) (rlen 35) ∧ (if (ar 34 (Int32.toNatClampNeg ((16 * x2) + x3))) = 0 then wp 162 93 [some (.ref o), some (.int x1), some (.int x2), some (.int x3), some (.int (ar 34 (Int32.toNatClampNeg ((16 * x2) + x3)))), some (.int (ar 35 (Int32.toNatClampNeg ((16 * x2) + x3)))), u6, u7] [] (rOv σ o sc ar) P else wp 162 80 [some (.ref o), some (.int x1), some (.int x2), some (.int x3), some (.int (ar 34 (Int32.toNatClampNeg ((16 * x2) + x3)))), some (.int (ar 35 (Int32.toNatClampNeg ((16 * x2) + x3)))), u6, u7] [] (rOv σ o sc ar) P))) := by
  refine (wp_s (n := 50) (zcode_of mc_162 (r := (.aload_n 0, 0, 0, 0)) rfl) rfl rfl).trans ?_
  refine (wr_getA (n' := 53) rfl (t := 34) hR (zcode_of mc_162 (r := (.getfield 48, 12, 14, 0)) rfl) rfl rfl).trans ?_
  refine (wp_bp (n' := 55) rfl (zcode_of mc_162 (r := (.bipush 16, 0, 0, 0)) rfl) cb_16).trans ?_
  refine (wp_s (n := 56) (zcode_of mc_162 (r := (.iload_n 2, 0, 0, 0)) rfl) rfl rfl).trans ?_
  refine (wp_s (n := 57) (zcode_of mc_162 (r := (.imul, 0, 0, 0)) rfl) rfl rfl).trans ?_
  refine (wp_s (n := 58) (zcode_of mc_162 (r := (.iload_n 3, 0, 0, 0)) rfl) rfl rfl).trans ?_
  refine (wp_s (n := 59) (zcode_of mc_162 (r := (.iadd, 0, 0, 0)) rfl) rfl rfl).trans ?_
  refine (wr_ld (n' := 60) rfl hR (zcode_of mc_162 (r := (.iaload, 0, 0, 0)) rfl) rfl rfl).trans (and_congr Iff.rfl ?_)
  refine (wp_s (n := 62) (zcode_of mc_162 (r := (.istore 4, 0, 0, 0)) rfl) rfl rfl).trans ?_
  refine (wp_s (n := 63) (zcode_of mc_162 (r := (.aload_n 0, 0, 0, 0)) rfl) rfl rfl).trans ?_
  refine (wr_getA (n' := 66) rfl (t := 35) hR (zcode_of mc_162 (r := (.getfield 51, 12, 15, 0)) rfl) rfl rfl).trans ?_
  refine (wp_bp (n' := 68) rfl (zcode_of mc_162 (r := (.bipush 16, 0, 0, 0)) rfl) cb_16).trans ?_
  refine (wp_s (n := 69) (zcode_of mc_162 (r := (.iload_n 2, 0, 0, 0)) rfl) rfl rfl).trans ?_
  refine (wp_s (n := 70) (zcode_of mc_162 (r := (.imul, 0, 0, 0)) rfl) rfl rfl).trans ?_
  refine (wp_s (n := 71) (zcode_of mc_162 (r := (.iload_n 3, 0, 0, 0)) rfl) rfl rfl).trans ?_
  refine (wp_s (n := 72) (zcode_of mc_162 (r := (.iadd, 0, 0, 0)) rfl) rfl rfl).trans ?_
  refine (wr_ld (n' := 73) rfl hR (zcode_of mc_162 (r := (.iaload, 0, 0, 0)) rfl) rfl rfl).trans (and_congr Iff.rfl ?_)
  refine (wp_s (n := 75) (zcode_of mc_162 (r := (.istore 5, 0, 0, 0)) rfl) rfl rfl).trans ?_
  refine (wp_s (n := 77) (zcode_of mc_162 (r := (.iload 4, 0, 0, 0)) rfl) rfl rfl).trans ?_
  exact wp_jump (off := 16) (t := 93) (zcode_of mc_162 (r := (.ifCond .eq 16, 0, 0, 0)) rfl) rfl rfl (by decide)
set_option maxRecDepth 20000 in
theorem b162_80 {σ : zSt} {o : Nat} {sc : Nat → Int32} {ar : Nat → Nat → Int32} {P : Option Value → zSt → Prop} (hR : RShape σ o) {x1 x2 x3 x4 x5 : Int32} {u6 u7 : Option Value} :
    wp 162 80 [some (.ref o), some (.int x1), some (.int x2), some (.int x3), some (.int x4), some (.int x5), u6, u7] [] (rOv σ o sc ar) P ↔ (if x4 = 2 then wp 162 93 [some (.ref o), some (.int x1), some (.int x2), some (.int x3), some (.int x4), some (.int x5), u6, u7] [] (rOv σ o sc ar) P else wp 162 86 [some (.ref o), some (.int x1), some (.int x2), some (.int x3), some (.int x4), some (.int x5), u6, u7] [] (rOv σ o sc ar) P) := by
  refine (wp_s (n := 82) (zcode_of mc_162 (r := (.iload 4, 0, 0, 0)) rfl) rfl rfl).trans ?_
  refine (wp_ic (n' := 83) rfl (zcode_of mc_162 (r := (.iconst 2, 0, 0, 0)) rfl) ci_2).trans ?_
  exact wp_jump (off := 10) (t := 93) (zcode_of mc_162 (r := (.if_icmp .eq 10, 0, 0, 0)) rfl) rfl rfl (by decide)
set_option maxRecDepth 20000 in
theorem b162_86 {σ : zSt} {o : Nat} {sc : Nat → Int32} {ar : Nat → Nat → Int32} {P : Option Value → zSt → Prop} (hR : RShape σ o) {x1 x2 x3 x4 x5 : Int32} {u6 u7 : Option Value} :
    wp 162 86 [some (.ref o), some (.int x1), some (.int x2), some (.int x3), some (.int x4), some (.int x5), u6, u7] [] (rOv σ o sc ar) P ↔ (if ¬ x4 = 9 then wp 162 97 [some (.ref o), some (.int x1), some (.int x2), some (.int x3), some (.int x4), some (.int x5), u6, u7] [] (rOv σ o sc ar) P else wp 162 93 [some (.ref o), some (.int x1), some (.int x2), some (.int x3), some (.int x4), some (.int x5), u6, u7] [] (rOv σ o sc ar) P) := by
  refine (wp_s (n := 88) (zcode_of mc_162 (r := (.iload 4, 0, 0, 0)) rfl) rfl rfl).trans ?_
  refine (wp_bp (n' := 90) rfl (zcode_of mc_162 (r := (.bipush 9, 0, 0, 0)) rfl) cb_9).trans ?_
  exact wp_jump (off := 7) (t := 97) (zcode_of mc_162 (r := (.if_icmp .ne 7, 0, 0, 0)) rfl) rfl rfl (by decide)
set_option maxRecDepth 20000 in
theorem b162_93 {σ : zSt} {o : Nat} {sc : Nat → Int32} {ar : Nat → Nat → Int32} {P : Option Value → zSt → Prop} (hR : RShape σ o) {x1 x2 x3 x4 x5 : Int32} {u6 u7 : Option Value} :
    wp 162 93 [some (.ref o), some (.int x1), some (.int x2), some (.int x3), some (.int x4), some (.int x5), u6, u7] [] (rOv σ o sc ar) P ↔ wp 162 98 [some (.ref o), some (.int x1), some (.int x2), some (.int x3), some (.int x4), some (.int x5), u6, u7] [.int 1] (rOv σ o sc ar) P := by
  refine (wp_ic (n' := 94) rfl (zcode_of mc_162 (r := (.iconst 1, 0, 0, 0)) rfl) ci_1).trans ?_
  exact wp_goto (off := 4) (t := 98) (zcode_of mc_162 (r := (.goto 4, 0, 0, 0)) rfl) (by decide)
set_option maxRecDepth 20000 in
theorem b162_97 {σ : zSt} {o : Nat} {sc : Nat → Int32} {ar : Nat → Nat → Int32} {P : Option Value → zSt → Prop} (hR : RShape σ o) {x1 x2 x3 x4 x5 : Int32} {u6 u7 : Option Value} :
    wp 162 97 [some (.ref o), some (.int x1), some (.int x2), some (.int x3), some (.int x4), some (.int x5), u6, u7] [] (rOv σ o sc ar) P ↔ wp 162 98 [some (.ref o), some (.int x1), some (.int x2), some (.int x3), some (.int x4), some (.int x5), u6, u7] [.int 0] (rOv σ o sc ar) P := by
  refine (wp_ic (n' := 98) rfl (zcode_of mc_162 (r := (.iconst 0, 0, 0, 0)) rfl) ci_0).trans ?_
  exact Iff.rfl
set_option maxRecDepth 20000 in
theorem b162_98 {σ : zSt} {o : Nat} {sc : Nat → Int32} {ar : Nat → Nat → Int32} {P : Option Value → zSt → Prop} (hR : RShape σ o) {x1 x2 x3 x4 x5 s0 : Int32} {u6 u7 : Option Value} :
    wp 162 98 [some (.ref o), some (.int x1), some (.int x2), some (.int x3), some (.int x4), some (.int x5), u6, u7] [.int s0] (rOv σ o sc ar) P ↔ (if s0 = 0 then wp 162 116 [some (.ref o), some (.int x1), some (.int x2), some (.int x3), some (.int x4), some (.int x5), some (.int s0), u7] [] (rOv σ o sc ar) P else wp 162 105 [some (.ref o), some (.int x1), some (.int x2), some (.int x3), some (.int x4), some (.int x5), some (.int s0), u7] [] (rOv σ o sc ar) P) := by
  refine (wp_s (n := 100) (zcode_of mc_162 (r := (.istore 6, 0, 0, 0)) rfl) rfl rfl).trans ?_
  refine (wp_s (n := 102) (zcode_of mc_162 (r := (.iload 6, 0, 0, 0)) rfl) rfl rfl).trans ?_
  exact wp_jump (off := 14) (t := 116) (zcode_of mc_162 (r := (.ifCond .eq 14, 0, 0, 0)) rfl) rfl rfl (by decide)
set_option maxRecDepth 20000 in
theorem b162_105 {σ : zSt} {o : Nat} {sc : Nat → Int32} {ar : Nat → Nat → Int32} {P : Option Value → zSt → Prop} (hR : RShape σ o) {x1 x2 x3 x4 x5 x6 : Int32} {u7 : Option Value} :
    wp 162 105 [some (.ref o), some (.int x1), some (.int x2), some (.int x3), some (.int x4), some (.int x5), some (.int x6), u7] [] (rOv σ o sc ar) P ↔ (zIn x2 (rlen 31) ∧ (if (ar 31 (Int32.toNatClampNeg x2)) ≤ x5 then wp 162 133 [some (.ref o), some (.int x1), some (.int x2), some (.int x3), some (.int x4), some (.int x5), some (.int x6), u7] [] (rOv σ o sc ar) P else wp 162 116 [some (.ref o), some (.int x1), some (.int x2), some (.int x3), some (.int x4), some (.int x5), some (.int x6), u7] [] (rOv σ o sc ar) P)) := by
  refine (wp_s (n := 107) (zcode_of mc_162 (r := (.iload 5, 0, 0, 0)) rfl) rfl rfl).trans ?_
  refine (wp_s (n := 108) (zcode_of mc_162 (r := (.aload_n 0, 0, 0, 0)) rfl) rfl rfl).trans ?_
  refine (wr_getA (n' := 111) rfl (t := 31) hR (zcode_of mc_162 (r := (.getfield 39, 12, 11, 0)) rfl) rfl rfl).trans ?_
  refine (wp_s (n := 112) (zcode_of mc_162 (r := (.iload_n 2, 0, 0, 0)) rfl) rfl rfl).trans ?_
  refine (wr_ld (n' := 113) rfl hR (zcode_of mc_162 (r := (.iaload, 0, 0, 0)) rfl) rfl rfl).trans (and_congr Iff.rfl ?_)
  exact wp_jump (off := 20) (t := 133) (zcode_of mc_162 (r := (.if_icmp .ge 20, 0, 0, 0)) rfl) rfl rfl (by decide)
set_option maxRecDepth 20000 in
theorem b162_116 {σ : zSt} {o : Nat} {sc : Nat → Int32} {ar : Nat → Nat → Int32} {P : Option Value → zSt → Prop} (hR : RShape σ o) {x1 x2 x3 x4 x5 x6 : Int32} {u7 : Option Value} :
    wp 162 116 [some (.ref o), some (.int x1), some (.int x2), some (.int x3), some (.int x4), some (.int x5), some (.int x6), u7] [] (rOv σ o sc ar) P ↔ (if ¬ x4 = 3 then wp 162 141 [some (.ref o), some (.int x1), some (.int x2), some (.int x3), some (.int x4), some (.int x5), some (.int x6), u7] [] (rOv σ o sc ar) P else wp 162 122 [some (.ref o), some (.int x1), some (.int x2), some (.int x3), some (.int x4), some (.int x5), some (.int x6), u7] [] (rOv σ o sc ar) P) := by
  refine (wp_s (n := 118) (zcode_of mc_162 (r := (.iload 4, 0, 0, 0)) rfl) rfl rfl).trans ?_
  refine (wp_ic (n' := 119) rfl (zcode_of mc_162 (r := (.iconst 3, 0, 0, 0)) rfl) ci_3).trans ?_
  exact wp_jump (off := 22) (t := 141) (zcode_of mc_162 (r := (.if_icmp .ne 22, 0, 0, 0)) rfl) rfl rfl (by decide)
set_option maxRecDepth 20000 in
theorem b162_122 {σ : zSt} {o : Nat} {sc : Nat → Int32} {ar : Nat → Nat → Int32} {P : Option Value → zSt → Prop} (hR : RShape σ o) {x1 x2 x3 x4 x5 x6 : Int32} {u7 : Option Value} :
    wp 162 122 [some (.ref o), some (.int x1), some (.int x2), some (.int x3), some (.int x4), some (.int x5), some (.int x6), u7] [] (rOv σ o sc ar) P ↔ (zIn x2 (rlen 33) ∧ (if x5 < (ar 33 (Int32.toNatClampNeg x2)) then wp 162 141 [some (.ref o), some (.int x1), some (.int x2), some (.int x3), some (.int x4), some (.int x5), some (.int x6), u7] [] (rOv σ o sc ar) P else wp 162 133 [some (.ref o), some (.int x1), some (.int x2), some (.int x3), some (.int x4), some (.int x5), some (.int x6), u7] [] (rOv σ o sc ar) P)) := by
  refine (wp_s (n := 124) (zcode_of mc_162 (r := (.iload 5, 0, 0, 0)) rfl) rfl rfl).trans ?_
  refine (wp_s (n := 125) (zcode_of mc_162 (r := (.aload_n 0, 0, 0, 0)) rfl) rfl rfl).trans ?_
  refine (wr_getA (n' := 128) rfl (t := 33) hR (zcode_of mc_162 (r := (.getfield 45, 12, 13, 0)) rfl) rfl rfl).trans ?_
  refine (wp_s (n := 129) (zcode_of mc_162 (r := (.iload_n 2, 0, 0, 0)) rfl) rfl rfl).trans ?_
  refine (wr_ld (n' := 130) rfl hR (zcode_of mc_162 (r := (.iaload, 0, 0, 0)) rfl) rfl rfl).trans (and_congr Iff.rfl ?_)
  exact wp_jump (off := 11) (t := 141) (zcode_of mc_162 (r := (.if_icmp .lt 11, 0, 0, 0)) rfl) rfl rfl (by decide)
set_option maxRecDepth 20000 in
theorem b162_133 {σ : zSt} {o : Nat} {sc : Nat → Int32} {ar : Nat → Nat → Int32} {P : Option Value → zSt → Prop} (hR : RShape σ o) {x1 x2 x3 x4 x5 x6 : Int32} {u7 : Option Value} :
    wp 162 133 [some (.ref o), some (.int x1), some (.int x2), some (.int x3), some (.int x4), some (.int x5), some (.int x6), u7] [] (rOv σ o sc ar) P ↔ wp 162 287 [some (.ref o), some (.int x1), some (.int x2), some (.int x3), some (.int x4), some (.int x5), some (.int x6), u7] [] (rOv σ o (upS sc 49 3) ar) P := by
  refine (wp_s (n := 134) (zcode_of mc_162 (r := (.aload_n 0, 0, 0, 0)) rfl) rfl rfl).trans ?_
  refine (wp_ic (n' := 135) rfl (zcode_of mc_162 (r := (.iconst 3, 0, 0, 0)) rfl) ci_3).trans ?_
  refine (wr_put (n' := 138) rfl hR (zcode_of mc_162 (r := (.putfield 228, 12, 49, 0)) rfl) rfl).trans ?_
  exact wp_goto (off := 149) (t := 287) (zcode_of mc_162 (r := (.goto 149, 0, 0, 0)) rfl) (by decide)
set_option maxRecDepth 20000 in
theorem b162_141 {σ : zSt} {o : Nat} {sc : Nat → Int32} {ar : Nat → Nat → Int32} {P : Option Value → zSt → Prop} (hR : RShape σ o) {x1 x2 x3 x4 x5 x6 : Int32} {u7 : Option Value} :
    wp 162 141 [some (.ref o), some (.int x1), some (.int x2), some (.int x3), some (.int x4), some (.int x5), some (.int x6), u7] [] (rOv σ o sc ar) P ↔ (if ¬ x4 = 3 then wp 162 156 [some (.ref o), some (.int x1), some (.int x2), some (.int x3), some (.int x4), some (.int x5), some (.int x6), u7] [] (rOv σ o sc ar) P else wp 162 147 [some (.ref o), some (.int x1), some (.int x2), some (.int x3), some (.int x4), some (.int x5), some (.int x6), u7] [] (rOv σ o sc ar) P) := by
  refine (wp_s (n := 143) (zcode_of mc_162 (r := (.iload 4, 0, 0, 0)) rfl) rfl rfl).trans ?_
  refine (wp_ic (n' := 144) rfl (zcode_of mc_162 (r := (.iconst 3, 0, 0, 0)) rfl) ci_3).trans ?_
  exact wp_jump (off := 12) (t := 156) (zcode_of mc_162 (r := (.if_icmp .ne 12, 0, 0, 0)) rfl) rfl rfl (by decide)
set_option maxRecDepth 20000 in
theorem b162_147 {σ : zSt} {o : Nat} {sc : Nat → Int32} {ar : Nat → Nat → Int32} {P : Option Value → zSt → Prop} (hR : RShape σ o) {x1 x2 x3 x4 x5 x6 : Int32} {u7 : Option Value} :
    wp 162 147 [some (.ref o), some (.int x1), some (.int x2), some (.int x3), some (.int x4), some (.int x5), some (.int x6), u7] [] (rOv σ o sc ar) P ↔ wpM 154 [.ref o, .int x5] (rOv σ o sc ar) (fun r τ => wp 162 153 [some (.ref o), some (.int x1), some (.int x2), some (.int x3), some (.int x4), some (.int x5), some (.int x6), u7] (r.toList ++ []) τ P) := by
  refine (wp_s (n := 148) (zcode_of mc_162 (r := (.aload_n 0, 0, 0, 0)) rfl) rfl rfl).trans ?_
  refine (wp_s (n := 150) (zcode_of mc_162 (r := (.iload 5, 0, 0, 0)) rfl) rfl rfl).trans ?_
  exact wp_call (q := ([.ref o, .int x5], [])) (zcode_of mc_162 (r := (.invokevirtual 256, 154, 0, 1)) rfl) rfl (zCa_V (Nat.le_of_ble_eq_true rfl) rfl hR.tg) ⟨Nat.le_of_ble_eq_true rfl, Nat.le_of_ble_eq_true rfl⟩
set_option maxRecDepth 20000 in
theorem b162_153 {σ : zSt} {o : Nat} {sc : Nat → Int32} {ar : Nat → Nat → Int32} {P : Option Value → zSt → Prop} (hR : RShape σ o) {x1 x2 x3 x4 x5 x6 : Int32} {u7 : Option Value} :
    wp 162 153 [some (.ref o), some (.int x1), some (.int x2), some (.int x3), some (.int x4), some (.int x5), some (.int x6), u7] [] (rOv σ o sc ar) P ↔ wp 162 287 [some (.ref o), some (.int x1), some (.int x2), some (.int x3), some (.int x4), some (.int x5), some (.int x6), u7] [] (rOv σ o sc ar) P := by
  exact wp_goto (off := 134) (t := 287) (zcode_of mc_162 (r := (.goto 134, 0, 0, 0)) rfl) (by decide)
set_option maxRecDepth 20000 in
theorem b162_156 {σ : zSt} {o : Nat} {sc : Nat → Int32} {ar : Nat → Nat → Int32} {P : Option Value → zSt → Prop} (hR : RShape σ o) {x1 x2 x3 x4 x5 x6 : Int32} {u7 : Option Value} :
    wp 162 156 [some (.ref o), some (.int x1), some (.int x2), some (.int x3), some (.int x4), some (.int x5), some (.int x6), u7] [] (rOv σ o sc ar) P ↔ (if ¬ x6 = 0 then wp 162 172 [some (.ref o), some (.int x1), some (.int x2), some (.int x3), some (.int x4), some (.int x5), some (.int x6), u7] [] (rOv σ o sc ar) P else wp 162 161 [some (.ref o), some (.int x1), some (.int x2), some (.int x3), some (.int x4), some (.int x5), some (.int x6), u7] [] (rOv σ o sc ar) P) := by
  refine (wp_s (n := 158) (zcode_of mc_162 (r := (.iload 6, 0, 0, 0)) rfl) rfl rfl).trans ?_
  exact wp_jump (off := 14) (t := 172) (zcode_of mc_162 (r := (.ifCond .ne 14, 0, 0, 0)) rfl) rfl rfl (by decide)
set_option maxRecDepth 20000 in
theorem b162_161 {σ : zSt} {o : Nat} {sc : Nat → Int32} {ar : Nat → Nat → Int32} {P : Option Value → zSt → Prop} (hR : RShape σ o) {x1 x2 x3 x4 x5 x6 : Int32} {u7 : Option Value} :
    wp 162 161 [some (.ref o), some (.int x1), some (.int x2), some (.int x3), some (.int x4), some (.int x5), some (.int x6), u7] [] (rOv σ o sc ar) P ↔ wpM 161 [.ref o, .int x4, .int x5] (rOv σ o sc ar) (fun r τ => wp 162 169 [some (.ref o), some (.int x1), some (.int x2), some (.int x3), some (.int x4), some (.int x5), some (.int x6), u7] (r.toList ++ []) τ P) := by
  refine (wp_s (n := 162) (zcode_of mc_162 (r := (.aload_n 0, 0, 0, 0)) rfl) rfl rfl).trans ?_
  refine (wp_s (n := 164) (zcode_of mc_162 (r := (.iload 4, 0, 0, 0)) rfl) rfl rfl).trans ?_
  refine (wp_s (n := 166) (zcode_of mc_162 (r := (.iload 5, 0, 0, 0)) rfl) rfl rfl).trans ?_
  exact wp_call (q := ([.ref o, .int x4, .int x5], [])) (zcode_of mc_162 (r := (.invokevirtual 259, 161, 0, 2)) rfl) rfl (zCa_V (Nat.le_of_ble_eq_true rfl) rfl hR.tg) ⟨Nat.le_of_ble_eq_true rfl, Nat.le_of_ble_eq_true rfl⟩
set_option maxRecDepth 20000 in
theorem b162_169 {σ : zSt} {o : Nat} {sc : Nat → Int32} {ar : Nat → Nat → Int32} {P : Option Value → zSt → Prop} (hR : RShape σ o) {x1 x2 x3 x4 x5 x6 : Int32} {u7 : Option Value} :
    wp 162 169 [some (.ref o), some (.int x1), some (.int x2), some (.int x3), some (.int x4), some (.int x5), some (.int x6), u7] [] (rOv σ o sc ar) P ↔ wp 162 287 [some (.ref o), some (.int x1), some (.int x2), some (.int x3), some (.int x4), some (.int x5), some (.int x6), u7] [] (rOv σ o sc ar) P := by
  exact wp_goto (off := 118) (t := 287) (zcode_of mc_162 (r := (.goto 118, 0, 0, 0)) rfl) (by decide)
set_option maxRecDepth 20000 in
theorem b162_172 {σ : zSt} {o : Nat} {sc : Nat → Int32} {ar : Nat → Nat → Int32} {P : Option Value → zSt → Prop} (hR : RShape σ o) {x1 x2 x3 x4 x5 x6 : Int32} {u7 : Option Value} :
    wp 162 172 [some (.ref o), some (.int x1), some (.int x2), some (.int x3), some (.int x4), some (.int x5), some (.int x6), u7] [] (rOv σ o sc ar) P ↔ (if ¬ x4 = 0 then wp 162 197 [some (.ref o), some (.int x1), some (.int x2), some (.int x3), some (.int x4), some (.int x5), some (.int x6), u7] [] (rOv σ o sc ar) P else wp 162 177 [some (.ref o), some (.int x1), some (.int x2), some (.int x3), some (.int x4), some (.int x5), some (.int x6), u7] [] (rOv σ o sc ar) P) := by
  refine (wp_s (n := 174) (zcode_of mc_162 (r := (.iload 4, 0, 0, 0)) rfl) rfl rfl).trans ?_
  exact wp_jump (off := 23) (t := 197) (zcode_of mc_162 (r := (.ifCond .ne 23, 0, 0, 0)) rfl) rfl rfl (by decide)
set_option maxRecDepth 20000 in
theorem b162_177 {σ : zSt} {o : Nat} {sc : Nat → Int32} {ar : Nat → Nat → Int32} {P : Option Value → zSt → Prop} (hR : RShape σ o) {x1 x2 x3 x4 x5 x6 : Int32} {u7 : Option Value} :
    wp 162 177 [some (.ref o), some (.int x1), some (.int x2), some (.int x3), some (.int x4), some (.int x5), some (.int x6), u7] [] (rOv σ o sc ar) P ↔ (zIn ((6 * x2) + x5) (rlen 30) ∧ wpM 152 [.ref o, .int x1, .int (ar 30 (Int32.toNatClampNeg ((6 * x2) + x5)))] (rOv σ o sc ar) (fun r τ => wp 162 194 [some (.ref o), some (.int x1), some (.int x2), some (.int x3), some (.int x4), some (.int x5), some (.int x6), u7] (r.toList ++ []) τ P)) := by
  refine (wp_s (n := 178) (zcode_of mc_162 (r := (.aload_n 0, 0, 0, 0)) rfl) rfl rfl).trans ?_
  refine (wp_s (n := 179) (zcode_of mc_162 (r := (.iload_n 1, 0, 0, 0)) rfl) rfl rfl).trans ?_
  refine (wp_s (n := 180) (zcode_of mc_162 (r := (.aload_n 0, 0, 0, 0)) rfl) rfl rfl).trans ?_
  refine (wr_getA (n' := 183) rfl (t := 30) hR (zcode_of mc_162 (r := (.getfield 36, 12, 10, 0)) rfl) rfl rfl).trans ?_
  refine (wp_bp (n' := 185) rfl (zcode_of mc_162 (r := (.bipush 6, 0, 0, 0)) rfl) cb_6).trans ?_
  refine (wp_s (n := 186) (zcode_of mc_162 (r := (.iload_n 2, 0, 0, 0)) rfl) rfl rfl).trans ?_
  refine (wp_s (n := 187) (zcode_of mc_162 (r := (.imul, 0, 0, 0)) rfl) rfl rfl).trans ?_
  refine (wp_s (n := 189) (zcode_of mc_162 (r := (.iload 5, 0, 0, 0)) rfl) rfl rfl).trans ?_
  refine (wp_s (n := 190) (zcode_of mc_162 (r := (.iadd, 0, 0, 0)) rfl) rfl rfl).trans ?_
  refine (wr_ld (n' := 191) rfl hR (zcode_of mc_162 (r := (.iaload, 0, 0, 0)) rfl) rfl rfl).trans (and_congr Iff.rfl ?_)
  exact wp_call (q := ([.ref o, .int x1, .int (ar 30 (Int32.toNatClampNeg ((6 * x2) + x5)))], [])) (zcode_of mc_162 (r := (.invokevirtual 262, 152, 0, 2)) rfl) rfl (zCa_V (Nat.le_of_ble_eq_true rfl) rfl hR.tg) ⟨Nat.le_of_ble_eq_true rfl, Nat.le_of_ble_eq_true rfl⟩
set_option maxRecDepth 20000 in
theorem b162_194 {σ : zSt} {o : Nat} {sc : Nat → Int32} {ar : Nat → Nat → Int32} {P : Option Value → zSt → Prop} (hR : RShape σ o) {x1 x2 x3 x4 x5 x6 : Int32} {u7 : Option Value} :
    wp 162 194 [some (.ref o), some (.int x1), some (.int x2), some (.int x3), some (.int x4), some (.int x5), some (.int x6), u7] [] (rOv σ o sc ar) P ↔ wp 162 287 [some (.ref o), some (.int x1), some (.int x2), some (.int x3), some (.int x4), some (.int x5), some (.int x6), u7] [] (rOv σ o sc ar) P := by
  exact wp_goto (off := 93) (t := 287) (zcode_of mc_162 (r := (.goto 93, 0, 0, 0)) rfl) (by decide)
set_option maxRecDepth 20000 in
theorem b162_197 {σ : zSt} {o : Nat} {sc : Nat → Int32} {ar : Nat → Nat → Int32} {P : Option Value → zSt → Prop} (hR : RShape σ o) {x1 x2 x3 x4 x5 x6 : Int32} {u7 : Option Value} :
    wp 162 197 [some (.ref o), some (.int x1), some (.int x2), some (.int x3), some (.int x4), some (.int x5), some (.int x6), u7] [] (rOv σ o sc ar) P ↔ (if ¬ x4 = 2 then wp 162 223 [some (.ref o), some (.int x1), some (.int x2), some (.int x3), some (.int x4), some (.int x5), some (.int x6), u7] [] (rOv σ o sc ar) P else wp 162 203 [some (.ref o), some (.int x1), some (.int x2), some (.int x3), some (.int x4), some (.int x5), some (.int x6), u7] [] (rOv σ o sc ar) P) := by
  refine (wp_s (n := 199) (zcode_of mc_162 (r := (.iload 4, 0, 0, 0)) rfl) rfl rfl).trans ?_
  refine (wp_ic (n' := 200) rfl (zcode_of mc_162 (r := (.iconst 2, 0, 0, 0)) rfl) ci_2).trans ?_
  exact wp_jump (off := 23) (t := 223) (zcode_of mc_162 (r := (.if_icmp .ne 23, 0, 0, 0)) rfl) rfl rfl (by decide)
set_option maxRecDepth 20000 in
theorem b162_203 {σ : zSt} {o : Nat} {sc : Nat → Int32} {ar : Nat → Nat → Int32} {P : Option Value → zSt → Prop} (hR : RShape σ o) {x1 x2 x3 x4 x5 x6 : Int32} {u7 : Option Value} :
    wp 162 203 [some (.ref o), some (.int x1), some (.int x2), some (.int x3), some (.int x4), some (.int x5), some (.int x6), u7] [] (rOv σ o sc ar) P ↔ (zIn ((6 * x2) + x5) (rlen 30) ∧ wpM 153 [.ref o, .int x1, .int (ar 30 (Int32.toNatClampNeg ((6 * x2) + x5)))] (rOv σ o sc ar) (fun r τ => wp 162 220 [some (.ref o), some (.int x1), some (.int x2), some (.int x3), some (.int x4), some (.int x5), some (.int x6), u7] (r.toList ++ []) τ P)) := by
  refine (wp_s (n := 204) (zcode_of mc_162 (r := (.aload_n 0, 0, 0, 0)) rfl) rfl rfl).trans ?_
  refine (wp_s (n := 205) (zcode_of mc_162 (r := (.iload_n 1, 0, 0, 0)) rfl) rfl rfl).trans ?_
  refine (wp_s (n := 206) (zcode_of mc_162 (r := (.aload_n 0, 0, 0, 0)) rfl) rfl rfl).trans ?_
  refine (wr_getA (n' := 209) rfl (t := 30) hR (zcode_of mc_162 (r := (.getfield 36, 12, 10, 0)) rfl) rfl rfl).trans ?_
  refine (wp_bp (n' := 211) rfl (zcode_of mc_162 (r := (.bipush 6, 0, 0, 0)) rfl) cb_6).trans ?_
  refine (wp_s (n := 212) (zcode_of mc_162 (r := (.iload_n 2, 0, 0, 0)) rfl) rfl rfl).trans ?_
  refine (wp_s (n := 213) (zcode_of mc_162 (r := (.imul, 0, 0, 0)) rfl) rfl rfl).trans ?_
  refine (wp_s (n := 215) (zcode_of mc_162 (r := (.iload 5, 0, 0, 0)) rfl) rfl rfl).trans ?_
  refine (wp_s (n := 216) (zcode_of mc_162 (r := (.iadd, 0, 0, 0)) rfl) rfl rfl).trans ?_
  refine (wr_ld (n' := 217) rfl hR (zcode_of mc_162 (r := (.iaload, 0, 0, 0)) rfl) rfl rfl).trans (and_congr Iff.rfl ?_)
  exact wp_call (q := ([.ref o, .int x1, .int (ar 30 (Int32.toNatClampNeg ((6 * x2) + x5)))], [])) (zcode_of mc_162 (r := (.invokevirtual 265, 153, 0, 2)) rfl) rfl (zCa_V (Nat.le_of_ble_eq_true rfl) rfl hR.tg) ⟨Nat.le_of_ble_eq_true rfl, Nat.le_of_ble_eq_true rfl⟩
set_option maxRecDepth 20000 in
theorem b162_220 {σ : zSt} {o : Nat} {sc : Nat → Int32} {ar : Nat → Nat → Int32} {P : Option Value → zSt → Prop} (hR : RShape σ o) {x1 x2 x3 x4 x5 x6 : Int32} {u7 : Option Value} :
    wp 162 220 [some (.ref o), some (.int x1), some (.int x2), some (.int x3), some (.int x4), some (.int x5), some (.int x6), u7] [] (rOv σ o sc ar) P ↔ wp 162 287 [some (.ref o), some (.int x1), some (.int x2), some (.int x3), some (.int x4), some (.int x5), some (.int x6), u7] [] (rOv σ o sc ar) P := by
  exact wp_goto (off := 67) (t := 287) (zcode_of mc_162 (r := (.goto 67, 0, 0, 0)) rfl) (by decide)
set_option maxRecDepth 20000 in
theorem b162_223 {σ : zSt} {o : Nat} {sc : Nat → Int32} {ar : Nat → Nat → Int32} {P : Option Value → zSt → Prop} (hR : RShape σ o) {x1 x2 x3 x4 x5 x6 : Int32} {u7 : Option Value} :
    wp 162 223 [some (.ref o), some (.int x1), some (.int x2), some (.int x3), some (.int x4), some (.int x5), some (.int x6), u7] [] (rOv σ o sc ar) P ↔ (zIn ((6 * x2) + x5) (rlen 30) ∧ (zIn (ar 30 (Int32.toNatClampNeg ((6 * x2) + x5))) (rlen 23) ∧ (if (ar 23 (Int32.toNatClampNeg (ar 30 (Int32.toNatClampNeg ((6 * x2) + x5))))) = 0 then wp 162 252 [some (.ref o), some (.int x1), some (.int x2), some (.int x3), some (.int x4), some (.int x5), some (.int x6), some (.int (ar 30 (Int32.toNatClampNeg ((6 * x2) + x5))))] [.ref o] (rOv σ o sc ar) P else wp 162 248 [some (.ref o), some (.int x1), some (.int x2), some (.int x3), some (.int x4), some (.int x5), some (.int x6), some (.int (ar 30 (Int32.toNatClampNeg ((6 * x2) + x5))))] [.ref o] (rOv σ o sc ar) P))) := by
  refine (wp_s (n := 224) (zcode_of mc_162 (r := (.aload_n 0, 0, 0, 0)) rfl) rfl rfl).trans ?_
  refine (wr_getA (n' := 227) rfl (t := 30) hR (zcode_of mc_162 (r := (.getfield 36, 12, 10, 0)) rfl) rfl rfl).trans ?_
  refine (wp_bp (n' := 229) rfl (zcode_of mc_162 (r := (.bipush 6, 0, 0, 0)) rfl) cb_6).trans ?_
  refine (wp_s (n := 230) (zcode_of mc_162 (r := (.iload_n 2, 0, 0, 0)) rfl) rfl rfl).trans ?_
  refine (wp_s (n := 231) (zcode_of mc_162 (r := (.imul, 0, 0, 0)) rfl) rfl rfl).trans ?_
  refine (wp_s (n := 233) (zcode_of mc_162 (r := (.iload 5, 0, 0, 0)) rfl) rfl rfl).trans ?_
  refine (wp_s (n := 234) (zcode_of mc_162 (r := (.iadd, 0, 0, 0)) rfl) rfl rfl).trans ?_
  refine (wr_ld (n' := 235) rfl hR (zcode_of mc_162 (r := (.iaload, 0, 0, 0)) rfl) rfl rfl).trans (and_congr Iff.rfl ?_)
  refine (wp_s (n := 237) (zcode_of mc_162 (r := (.istore 7, 0, 0, 0)) rfl) rfl rfl).trans ?_
  refine (wp_s (n := 238) (zcode_of mc_162 (r := (.aload_n 0, 0, 0, 0)) rfl) rfl rfl).trans ?_
  refine (wp_s (n := 239) (zcode_of mc_162 (r := (.aload_n 0, 0, 0, 0)) rfl) rfl rfl).trans ?_
  refine (wr_getA (n' := 242) rfl (t := 23) hR (zcode_of mc_162 (r := (.getfield 20, 12, 3, 0)) rfl) rfl rfl).trans ?_
  refine (wp_s (n := 244) (zcode_of mc_162 (r := (.iload 7, 0, 0, 0)) rfl) rfl rfl).trans ?_
  refine (wr_ldZ (n' := 245) rfl hR (zcode_of mc_162 (r := (.baload, 0, 0, 0)) rfl) rfl rfl).trans (and_congr Iff.rfl ?_)
  exact wp_jump (off := 7) (t := 252) (zcode_of mc_162 (r := (.ifCond .eq 7, 0, 0, 0)) rfl) rfl rfl (by decide)
set_option maxRecDepth 20000 in
theorem b162_248 {σ : zSt} {o : Nat} {sc : Nat → Int32} {ar : Nat → Nat → Int32} {P : Option Value → zSt → Prop} (hR : RShape σ o) {x1 x2 x3 x4 x5 x6 x7 : Int32} :
    wp 162 248 [some (.ref o), some (.int x1), some (.int x2), some (.int x3), some (.int x4), some (.int x5), some (.int x6), some (.int x7)] [.ref o] (rOv σ o sc ar) P ↔ wp 162 253 [some (.ref o), some (.int x1), some (.int x2), some (.int x3), some (.int x4), some (.int x5), some (.int x6), some (.int x7)] [.int 4, .ref o] (rOv σ o sc ar) P := by
  refine (wp_ic (n' := 249) rfl (zcode_of mc_162 (r := (.iconst 4, 0, 0, 0)) rfl) ci_4).trans ?_
  exact wp_goto (off := 4) (t := 253) (zcode_of mc_162 (r := (.goto 4, 0, 0, 0)) rfl) (by decide)
set_option maxRecDepth 20000 in
theorem b162_252 {σ : zSt} {o : Nat} {sc : Nat → Int32} {ar : Nat → Nat → Int32} {P : Option Value → zSt → Prop} (hR : RShape σ o) {x1 x2 x3 x4 x5 x6 x7 : Int32} :
    wp 162 252 [some (.ref o), some (.int x1), some (.int x2), some (.int x3), some (.int x4), some (.int x5), some (.int x6), some (.int x7)] [.ref o] (rOv σ o sc ar) P ↔ wp 162 253 [some (.ref o), some (.int x1), some (.int x2), some (.int x3), some (.int x4), some (.int x5), some (.int x6), some (.int x7)] [.int 0, .ref o] (rOv σ o sc ar) P := by
  refine (wp_ic (n' := 253) rfl (zcode_of mc_162 (r := (.iconst 0, 0, 0, 0)) rfl) ci_0).trans ?_
  exact Iff.rfl
set_option maxRecDepth 20000 in
theorem b162_253 {σ : zSt} {o : Nat} {sc : Nat → Int32} {ar : Nat → Nat → Int32} {P : Option Value → zSt → Prop} (hR : RShape σ o) {x1 x2 x3 x4 x5 x6 x7 s0 : Int32} :
    wp 162 253 [some (.ref o), some (.int x1), some (.int x2), some (.int x3), some (.int x4), some (.int x5), some (.int x6), some (.int x7)] [.int s0, .ref o] (rOv σ o sc ar) P ↔ (if ¬ ((upS sc 49 s0) 49) = 0 then wp 162 284 [some (.ref o), some (.int x1), some (.int x2), some (.int x3), some (.int x4), some (.int x5), some (.int x6), some (.int x7)] [.int x3] (rOv σ o (upS sc 49 s0) ar) P else wp 162 264 [some (.ref o), some (.int x1), some (.int x2), some (.int x3), some (.int x4), some (.int x5), some (.int x6), some (.int x7)] [.int x3] (rOv σ o (upS sc 49 s0) ar) P) := by
  refine (wr_put (n' := 256) rfl hR (zcode_of mc_162 (r := (.putfield 228, 12, 49, 0)) rfl) rfl).trans ?_
  refine (wp_s (n := 257) (zcode_of mc_162 (r := (.iload_n 3, 0, 0, 0)) rfl) rfl rfl).trans ?_
  refine (wp_s (n := 258) (zcode_of mc_162 (r := (.aload_n 0, 0, 0, 0)) rfl) rfl rfl).trans ?_
  refine (wr_getI (n' := 261) rfl hR (zcode_of mc_162 (r := (.getfield 228, 12, 49, 0)) rfl) rfl).trans ?_
  exact wp_jump (off := 23) (t := 284) (zcode_of mc_162 (r := (.ifCond .ne 23, 0, 0, 0)) rfl) rfl rfl (by decide)
set_option maxRecDepth 20000 in
theorem b162_264 {σ : zSt} {o : Nat} {sc : Nat → Int32} {ar : Nat → Nat → Int32} {P : Option Value → zSt → Prop} (hR : RShape σ o) {x1 x2 x3 x4 x5 x6 x7 s0 : Int32} :
    wp 162 264 [some (.ref o), some (.int x1), some (.int x2), some (.int x3), some (.int x4), some (.int x5), some (.int x6), some (.int x7)] [.int s0] (rOv σ o sc ar) P ↔ (zIn ((60 * x1) + x7) (rlen 25) ∧ (if (ar 25 (Int32.toNatClampNeg ((60 * x1) + x7))) = (-1) then wp 162 284 [some (.ref o), some (.int x1), some (.int x2), some (.int x3), some (.int x4), some (.int x5), some (.int x6), some (.int x7)] [.int s0] (rOv σ o sc ar) P else wp 162 280 [some (.ref o), some (.int x1), some (.int x2), some (.int x3), some (.int x4), some (.int x5), some (.int x6), some (.int x7)] [.int s0] (rOv σ o sc ar) P)) := by
  refine (wp_s (n := 265) (zcode_of mc_162 (r := (.aload_n 0, 0, 0, 0)) rfl) rfl rfl).trans ?_
  refine (wr_getA (n' := 268) rfl (t := 25) hR (zcode_of mc_162 (r := (.getfield 27, 12, 5, 0)) rfl) rfl rfl).trans ?_
  refine (wp_bp (n' := 270) rfl (zcode_of mc_162 (r := (.bipush 60, 0, 0, 0)) rfl) cb_60).trans ?_
  refine (wp_s (n := 271) (zcode_of mc_162 (r := (.iload_n 1, 0, 0, 0)) rfl) rfl rfl).trans ?_
  refine (wp_s (n := 272) (zcode_of mc_162 (r := (.imul, 0, 0, 0)) rfl) rfl rfl).trans ?_
  refine (wp_s (n := 274) (zcode_of mc_162 (r := (.iload 7, 0, 0, 0)) rfl) rfl rfl).trans ?_
  refine (wp_s (n := 275) (zcode_of mc_162 (r := (.iadd, 0, 0, 0)) rfl) rfl rfl).trans ?_
  refine (wr_ld (n' := 276) rfl hR (zcode_of mc_162 (r := (.iaload, 0, 0, 0)) rfl) rfl rfl).trans (and_congr Iff.rfl ?_)
  refine (wp_ic (n' := 277) rfl (zcode_of mc_162 (r := (.iconst (-1), 0, 0, 0)) rfl) ci_m1).trans ?_
  exact wp_jump (off := 7) (t := 284) (zcode_of mc_162 (r := (.if_icmp .eq 7, 0, 0, 0)) rfl) rfl rfl (by decide)
set_option maxRecDepth 20000 in
theorem b162_280 {σ : zSt} {o : Nat} {sc : Nat → Int32} {ar : Nat → Nat → Int32} {P : Option Value → zSt → Prop} (hR : RShape σ o) {x1 x2 x3 x4 x5 x6 x7 s0 : Int32} :
    wp 162 280 [some (.ref o), some (.int x1), some (.int x2), some (.int x3), some (.int x4), some (.int x5), some (.int x6), some (.int x7)] [.int s0] (rOv σ o sc ar) P ↔ wp 162 285 [some (.ref o), some (.int x1), some (.int x2), some (.int x3), some (.int x4), some (.int x5), some (.int x6), some (.int x7)] [.int 1, .int s0] (rOv σ o sc ar) P := by
  refine (wp_ic (n' := 281) rfl (zcode_of mc_162 (r := (.iconst 1, 0, 0, 0)) rfl) ci_1).trans ?_
  exact wp_goto (off := 4) (t := 285) (zcode_of mc_162 (r := (.goto 4, 0, 0, 0)) rfl) (by decide)
set_option maxRecDepth 20000 in
theorem b162_284 {σ : zSt} {o : Nat} {sc : Nat → Int32} {ar : Nat → Nat → Int32} {P : Option Value → zSt → Prop} (hR : RShape σ o) {x1 x2 x3 x4 x5 x6 x7 s0 : Int32} :
    wp 162 284 [some (.ref o), some (.int x1), some (.int x2), some (.int x3), some (.int x4), some (.int x5), some (.int x6), some (.int x7)] [.int s0] (rOv σ o sc ar) P ↔ wp 162 285 [some (.ref o), some (.int x1), some (.int x2), some (.int x3), some (.int x4), some (.int x5), some (.int x6), some (.int x7)] [.int 0, .int s0] (rOv σ o sc ar) P := by
  refine (wp_ic (n' := 285) rfl (zcode_of mc_162 (r := (.iconst 0, 0, 0, 0)) rfl) ci_0).trans ?_
  exact Iff.rfl
set_option maxRecDepth 20000 in
theorem b162_285 {σ : zSt} {o : Nat} {sc : Nat → Int32} {ar : Nat → Nat → Int32} {P : Option Value → zSt → Prop} (hR : RShape σ o) {x1 x2 x3 x4 x5 x6 x7 s0 s1 : Int32} :
    wp 162 285 [some (.ref o), some (.int x1), some (.int x2), some (.int x3), some (.int x4), some (.int x5), some (.int x6), some (.int x7)] [.int s0, .int s1] (rOv σ o sc ar) P ↔ wp 162 287 [some (.ref o), some (.int x1), some (.int x2), some (.int (s1 + s0)), some (.int x4), some (.int x5), some (.int x6), some (.int x7)] [] (rOv σ o sc ar) P := by
  refine (wp_s (n := 286) (zcode_of mc_162 (r := (.iadd, 0, 0, 0)) rfl) rfl rfl).trans ?_
  refine (wp_s (n := 287) (zcode_of mc_162 (r := (.istore_n 3, 0, 0, 0)) rfl) rfl rfl).trans ?_
  exact Iff.rfl
set_option maxRecDepth 20000 in
theorem b162_287 {σ : zSt} {o : Nat} {sc : Nat → Int32} {ar : Nat → Nat → Int32} {P : Option Value → zSt → Prop} (hR : RShape σ o) {x1 x2 x3 x4 x5 x6 : Int32} {u7 : Option Value} :
    wp 162 287 [some (.ref o), some (.int x1), some (.int x2), some (.int x3), some (.int x4), some (.int x5), some (.int x6), u7] [] (rOv σ o sc ar) P ↔ wp 162 32 [some (.ref o), some (.int x1), some (.int x2), some (.int (x3 + 1)), some (.int x4), some (.int x5), some (.int x6), u7] [] (rOv σ o sc ar) P := by
  refine (wp_inc (n' := 290) rfl (zcode_of mc_162 (r := (.iinc 3 1, 0, 0, 0)) rfl) rfl rfl ci_1).trans ?_
  exact wp_goto (off := (-258)) (t := 32) (zcode_of mc_162 (r := (.goto (-258), 0, 0, 0)) rfl) (by decide)
set_option maxRecDepth 20000 in
theorem b162_293 {σ : zSt} {o : Nat} {sc : Nat → Int32} {ar : Nat → Nat → Int32} {P : Option Value → zSt → Prop} (hR : RShape σ o) {x1 x2 x3 : Int32} {u4 u5 u6 u7 : Option Value} :
    wp 162 293 [some (.ref o), some (.int x1), some (.int x2), some (.int x3), u4, u5, u6, u7] [] (rOv σ o sc ar) P ↔ wp 162 295 [some (.ref o), some (.int x1), some (.int x2), some (.int 0), u4, u5, u6, u7] [] (rOv σ o sc ar) P := by
  refine (wp_ic (n' := 294) rfl (zcode_of mc_162 (r := (.iconst 0, 0, 0, 0)) rfl) ci_0).trans ?_
  refine (wp_s (n := 295) (zcode_of mc_162 (r := (.istore_n 3, 0, 0, 0)) rfl) rfl rfl).trans ?_
  exact Iff.rfl
set_option maxRecDepth 20000 in
theorem b162_295 {σ : zSt} {o : Nat} {sc : Nat → Int32} {ar : Nat → Nat → Int32} {P : Option Value → zSt → Prop} (hR : RShape σ o) {x1 x2 x3 : Int32} {u4 u5 u6 u7 : Option Value} :
    wp 162 295 [some (.ref o), some (.int x1), some (.int x2), some (.int x3), u4, u5, u6, u7] [] (rOv σ o sc ar) P ↔ (if 3 ≤ x3 then wp 162 320 [some (.ref o), some (.int x1), some (.int x2), some (.int x3), u4, u5, u6, u7] [] (rOv σ o sc ar) P else wp 162 300 [some (.ref o), some (.int x1), some (.int x2), some (.int x3), u4, u5, u6, u7] [] (rOv σ o sc ar) P) := by
  refine (wp_s (n := 296) (zcode_of mc_162 (r := (.iload_n 3, 0, 0, 0)) rfl) rfl rfl).trans ?_
  refine (wp_ic (n' := 297) rfl (zcode_of mc_162 (r := (.iconst 3, 0, 0, 0)) rfl) ci_3).trans ?_
  exact wp_jump (off := 23) (t := 320) (zcode_of mc_162 (r := (.if_icmp .ge 23, 0, 0, 0)) rfl) rfl rfl (by decide)
set_option maxRecDepth 20000 in
theorem b162_300 {σ : zSt} {o : Nat} {sc : Nat → Int32} {ar : Nat → Nat → Int32} {P : Option Value → zSt → Prop} (hR : RShape σ o) {x1 x2 x3 : Int32} {u4 u5 u6 u7 : Option Value} :
    wp 162 300 [some (.ref o), some (.int x1), some (.int x2), some (.int x3), u4, u5, u6, u7] [] (rOv σ o sc ar) P ↔ (if (sc 49) ≤ 0 then wp 162 320 [some (.ref o), some (.int x1), some (.int x2), some (.int x3), u4, u5, u6, u7] [] (rOv σ o sc ar) P else wp 162 307 [some (.ref o), some (.int x1), some (.int x2), some (.int x3), u4, u5, u6, u7] [] (rOv σ o sc ar) P) := by
  refine (wp_s (n := 301) (zcode_of mc_162 (r := (.aload_n 0, 0, 0, 0)) rfl) rfl rfl).trans ?_
  refine (wr_getI (n' := 304) rfl hR (zcode_of mc_162 (r := (.getfield 228, 12, 49, 0)) rfl) rfl).trans ?_
  exact wp_jump (off := 16) (t := 320) (zcode_of mc_162 (r := (.ifCond .le 16, 0, 0, 0)) rfl) rfl rfl (by decide)
set_option maxRecDepth 20000 in
theorem b162_307 {σ : zSt} {o : Nat} {sc : Nat → Int32} {ar : Nat → Nat → Int32} {P : Option Value → zSt → Prop} (hR : RShape σ o) {x1 x2 x3 : Int32} {u4 u5 u6 u7 : Option Value} :
    wp 162 307 [some (.ref o), some (.int x1), some (.int x2), some (.int x3), u4, u5, u6, u7] [] (rOv σ o sc ar) P ↔ (zIn x3 (rlen 70) ∧ wp 162 295 [some (.ref o), some (.int x1), some (.int x2), some (.int (x3 + 1)), u4, u5, u6, u7] [] (rOv σ o sc (upA ar 70 (Int32.toNatClampNeg x3) (-1))) P) := by
  refine (wp_s (n := 308) (zcode_of mc_162 (r := (.aload_n 0, 0, 0, 0)) rfl) rfl rfl).trans ?_
  refine (wr_getA (n' := 311) rfl (t := 70) hR (zcode_of mc_162 (r := (.getfield 128, 12, 50, 0)) rfl) rfl rfl).trans ?_
  refine (wp_s (n := 312) (zcode_of mc_162 (r := (.iload_n 3, 0, 0, 0)) rfl) rfl rfl).trans ?_
  refine (wp_ic (n' := 313) rfl (zcode_of mc_162 (r := (.iconst (-1), 0, 0, 0)) rfl) ci_m1).trans ?_
  refine (wr_st (n' := 314) rfl hR (zcode_of mc_162 (r := (.iastore, 0, 0, 0)) rfl) rfl rfl).trans (and_congr Iff.rfl ?_)
  refine (wp_inc (n' := 317) rfl (zcode_of mc_162 (r := (.iinc 3 1, 0, 0, 0)) rfl) rfl rfl ci_1).trans ?_
  exact wp_goto (off := (-22)) (t := 295) (zcode_of mc_162 (r := (.goto (-22), 0, 0, 0)) rfl) (by decide)
set_option maxRecDepth 20000 in
theorem b162_320 {σ : zSt} {o : Nat} {sc : Nat → Int32} {ar : Nat → Nat → Int32} {P : Option Value → zSt → Prop} (hR : RShape σ o) {x1 x2 x3 : Int32} {u4 u5 u6 u7 : Option Value} :
    wp 162 320 [some (.ref o), some (.int x1), some (.int x2), some (.int x3), u4, u5, u6, u7] [] (rOv σ o sc ar) P ↔ P none (rOv σ o sc ar) := by
  exact wp_retV (zcode_of mc_162 (r := (.return_, 0, 0, 0)) rfl) rfl
theorem mc_163 : mCode 163 = zc_163 := rfl
theorem b163 {σ : zSt} {o : Nat} {sc : Nat → Int32} {ar : Nat → Nat → Int32} {P : Option Value → zSt → Prop} (hR : RShape σ o) {x1 x2 : Int32} :
    wpM 163 [.ref o, .int x1, .int x2] (rOv σ o sc ar) P ↔ wp 163 2 [some (.ref o), some (.int x1), some (.int x2), some (.int 0), none, none] [] (rOv σ o sc ar) P := by
  show wp 163 0 [some (.ref o), some (.int x1), some (.int x2), none, none, none] [] (rOv σ o sc ar) P ↔ _
  refine (wp_ic (n' := 1) rfl (zcode_of mc_163 (r := (.iconst 0, 0, 0, 0)) rfl) ci_0).trans ?_
  refine (wp_s (n := 2) (zcode_of mc_163 (r := (.istore_n 3, 0, 0, 0)) rfl) rfl rfl).trans ?_
  exact Iff.rfl
theorem b163_2 {σ : zSt} {o : Nat} {sc : Nat → Int32} {ar : Nat → Nat → Int32} {P : Option Value → zSt → Prop} (hR : RShape σ o) {x1 x2 x3 : Int32} {u4 u5 : Option Value} :
    wp 163 2 [some (.ref o), some (.int x1), some (.int x2), some (.int x3), u4, u5] [] (rOv σ o sc ar) P ↔ (zIn x2 (rlen 33) ∧ (if (ar 33 (Int32.toNatClampNeg x2)) ≤ x3 then wp 163 93 [some (.ref o), some (.int x1), some (.int x2), some (.int x3), u4, u5] [] (rOv σ o sc ar) P else wp 163 12 [some (.ref o), some (.int x1), some (.int x2), some (.int x3), u4, u5] [] (rOv σ o sc ar) P)) := by
  refine (wp_s (n := 3) (zcode_of mc_163 (r := (.iload_n 3, 0, 0, 0)) rfl) rfl rfl).trans ?_
  refine (wp_s (n := 4) (zcode_of mc_163 (r := (.aload_n 0, 0, 0, 0)) rfl) rfl rfl).trans ?_
  refine (wr_getA (n' := 7) rfl (t := 33) hR (zcode_of mc_163 (r := (.getfield 45, 12, 13, 0)) rfl) rfl rfl).trans ?_
  refine (wp_s (n := 8) (zcode_of mc_163 (r := (.iload_n 2, 0, 0, 0)) rfl) rfl rfl).trans ?_
  refine (wr_ld (n' := 9) rfl hR (zcode_of mc_163 (r := (.iaload, 0, 0, 0)) rfl) rfl rfl).trans (and_congr Iff.rfl ?_)
  exact wp_jump (off := 84) (t := 93) (zcode_of mc_163 (r := (.if_icmp .ge 84, 0, 0, 0)) rfl) rfl rfl (by decide)
theorem b163_12 {σ : zSt} {o : Nat} {sc : Nat → Int32} {ar : Nat → Nat → Int32} {P : Option Value → zSt → Prop} (hR : RShape σ o) {x1 x2 x3 : Int32} {u4 u5 : Option Value} :
    wp 163 12 [some (.ref o), some (.int x1), some (.int x2), some (.int x3), u4, u5] [] (rOv σ o sc ar) P ↔ (zIn ((3 * x2) + x3) (rlen 32) ∧ (zIn x3 (rlen 70) ∧ (zIn ((60 * x1) + (ar 32 (Int32.toNatClampNeg ((3 * x2) + x3)))) (rlen 25) ∧ wp 163 45 [some (.ref o), some (.int x1), some (.int x2), some (.int x3), some (.int ((60 * x1) + (ar 32 (Int32.toNatClampNeg ((3 * x2) + x3))))), some (.int 0)] [] (rOv σ o sc (upA ar 25 (Int32.toNatClampNeg ((60 * x1) + (ar 32 (Int32.toNatClampNeg ((3 * x2) + x3))))) (ar 70 (Int32.toNatClampNeg x3)))) P))) := by
  refine (wp_bp (n' := 14) rfl (zcode_of mc_163 (r := (.bipush 60, 0, 0, 0)) rfl) cb_60).trans ?_
  refine (wp_s (n := 15) (zcode_of mc_163 (r := (.iload_n 1, 0, 0, 0)) rfl) rfl rfl).trans ?_
  refine (wp_s (n := 16) (zcode_of mc_163 (r := (.imul, 0, 0, 0)) rfl) rfl rfl).trans ?_
  refine (wp_s (n := 17) (zcode_of mc_163 (r := (.aload_n 0, 0, 0, 0)) rfl) rfl rfl).trans ?_
  refine (wr_getA (n' := 20) rfl (t := 32) hR (zcode_of mc_163 (r := (.getfield 42, 12, 12, 0)) rfl) rfl rfl).trans ?_
  refine (wp_ic (n' := 21) rfl (zcode_of mc_163 (r := (.iconst 3, 0, 0, 0)) rfl) ci_3).trans ?_
  refine (wp_s (n := 22) (zcode_of mc_163 (r := (.iload_n 2, 0, 0, 0)) rfl) rfl rfl).trans ?_
  refine (wp_s (n := 23) (zcode_of mc_163 (r := (.imul, 0, 0, 0)) rfl) rfl rfl).trans ?_
  refine (wp_s (n := 24) (zcode_of mc_163 (r := (.iload_n 3, 0, 0, 0)) rfl) rfl rfl).trans ?_
  refine (wp_s (n := 25) (zcode_of mc_163 (r := (.iadd, 0, 0, 0)) rfl) rfl rfl).trans ?_
  refine (wr_ld (n' := 26) rfl hR (zcode_of mc_163 (r := (.iaload, 0, 0, 0)) rfl) rfl rfl).trans (and_congr Iff.rfl ?_)
  refine (wp_s (n := 27) (zcode_of mc_163 (r := (.iadd, 0, 0, 0)) rfl) rfl rfl).trans ?_
  refine (wp_s (n := 29) (zcode_of mc_163 (r := (.istore 4, 0, 0, 0)) rfl) rfl rfl).trans ?_
  refine (wp_s (n := 30) (zcode_of mc_163 (r := (.aload_n 0, 0, 0, 0)) rfl) rfl rfl).trans ?_
  refine (wr_getA (n' := 33) rfl (t := 25) hR (zcode_of mc_163 (r := (.getfield 27, 12, 5, 0)) rfl) rfl rfl).trans ?_
  refine (wp_s (n := 35) (zcode_of mc_163 (r := (.iload 4, 0, 0, 0)) rfl) rfl rfl).trans ?_
  refine (wp_s (n := 36) (zcode_of mc_163 (r := (.aload_n 0, 0, 0, 0)) rfl) rfl rfl).trans ?_
  refine (wr_getA (n' := 39) rfl (t := 70) hR (zcode_of mc_163 (r := (.getfield 128, 12, 50, 0)) rfl) rfl rfl).trans ?_
  refine (wp_s (n := 40) (zcode_of mc_163 (r := (.iload_n 3, 0, 0, 0)) rfl) rfl rfl).trans ?_
  refine (wr_ld (n' := 41) rfl hR (zcode_of mc_163 (r := (.iaload, 0, 0, 0)) rfl) rfl rfl).trans (and_congr Iff.rfl ?_)
  refine (wr_st (n' := 42) rfl hR (zcode_of mc_163 (r := (.iastore, 0, 0, 0)) rfl) rfl rfl).trans (and_congr Iff.rfl ?_)
  refine (wp_ic (n' := 43) rfl (zcode_of mc_163 (r := (.iconst 0, 0, 0, 0)) rfl) ci_0).trans ?_
  refine (wp_s (n := 45) (zcode_of mc_163 (r := (.istore 5, 0, 0, 0)) rfl) rfl rfl).trans ?_
  exact Iff.rfl
theorem b163_45 {σ : zSt} {o : Nat} {sc : Nat → Int32} {ar : Nat → Nat → Int32} {P : Option Value → zSt → Prop} (hR : RShape σ o) {x1 x2 x3 x4 x5 : Int32} :
    wp 163 45 [some (.ref o), some (.int x1), some (.int x2), some (.int x3), some (.int x4), some (.int x5)] [] (rOv σ o sc ar) P ↔ (zIn x3 (rlen 70) ∧ (if (ar 70 (Int32.toNatClampNeg x3)) ≤ x5 then wp 163 87 [some (.ref o), some (.int x1), some (.int x2), some (.int x3), some (.int x4), some (.int x5)] [] (rOv σ o sc ar) P else wp 163 56 [some (.ref o), some (.int x1), some (.int x2), some (.int x3), some (.int x4), some (.int x5)] [] (rOv σ o sc ar) P)) := by
  refine (wp_s (n := 47) (zcode_of mc_163 (r := (.iload 5, 0, 0, 0)) rfl) rfl rfl).trans ?_
  refine (wp_s (n := 48) (zcode_of mc_163 (r := (.aload_n 0, 0, 0, 0)) rfl) rfl rfl).trans ?_
  refine (wr_getA (n' := 51) rfl (t := 70) hR (zcode_of mc_163 (r := (.getfield 128, 12, 50, 0)) rfl) rfl rfl).trans ?_
  refine (wp_s (n := 52) (zcode_of mc_163 (r := (.iload_n 3, 0, 0, 0)) rfl) rfl rfl).trans ?_
  refine (wr_ld (n' := 53) rfl hR (zcode_of mc_163 (r := (.iaload, 0, 0, 0)) rfl) rfl rfl).trans (and_congr Iff.rfl ?_)
  exact wp_jump (off := 34) (t := 87) (zcode_of mc_163 (r := (.if_icmp .ge 34, 0, 0, 0)) rfl) rfl rfl (by decide)
theorem b163_56 {σ : zSt} {o : Nat} {sc : Nat → Int32} {ar : Nat → Nat → Int32} {P : Option Value → zSt → Prop} (hR : RShape σ o) {x1 x2 x3 x4 x5 : Int32} :
    wp 163 56 [some (.ref o), some (.int x1), some (.int x2), some (.int x3), some (.int x4), some (.int x5)] [] (rOv σ o sc ar) P ↔ (zIn ((64 * x3) + x5) (rlen 71) ∧ (zIn ((64 * x4) + x5) (rlen 26) ∧ wp 163 45 [some (.ref o), some (.int x1), some (.int x2), some (.int x3), some (.int x4), some (.int (x5 + 1))] [] (rOv σ o sc (upA ar 26 (Int32.toNatClampNeg ((64 * x4) + x5)) (ar 71 (Int32.toNatClampNeg ((64 * x3) + x5))))) P)) := by
  refine (wp_s (n := 57) (zcode_of mc_163 (r := (.aload_n 0, 0, 0, 0)) rfl) rfl rfl).trans ?_
  refine (wr_getA (n' := 60) rfl (t := 26) hR (zcode_of mc_163 (r := (.getfield 30, 12, 6, 0)) rfl) rfl rfl).trans ?_
  refine (wp_bp (n' := 62) rfl (zcode_of mc_163 (r := (.bipush 64, 0, 0, 0)) rfl) cb_64).trans ?_
  refine (wp_s (n := 64) (zcode_of mc_163 (r := (.iload 4, 0, 0, 0)) rfl) rfl rfl).trans ?_
  refine (wp_s (n := 65) (zcode_of mc_163 (r := (.imul, 0, 0, 0)) rfl) rfl rfl).trans ?_
  refine (wp_s (n := 67) (zcode_of mc_163 (r := (.iload 5, 0, 0, 0)) rfl) rfl rfl).trans ?_
  refine (wp_s (n := 68) (zcode_of mc_163 (r := (.iadd, 0, 0, 0)) rfl) rfl rfl).trans ?_
  refine (wp_s (n := 69) (zcode_of mc_163 (r := (.aload_n 0, 0, 0, 0)) rfl) rfl rfl).trans ?_
  refine (wr_getA (n' := 72) rfl (t := 71) hR (zcode_of mc_163 (r := (.getfield 131, 12, 51, 0)) rfl) rfl rfl).trans ?_
  refine (wp_bp (n' := 74) rfl (zcode_of mc_163 (r := (.bipush 64, 0, 0, 0)) rfl) cb_64).trans ?_
  refine (wp_s (n := 75) (zcode_of mc_163 (r := (.iload_n 3, 0, 0, 0)) rfl) rfl rfl).trans ?_
  refine (wp_s (n := 76) (zcode_of mc_163 (r := (.imul, 0, 0, 0)) rfl) rfl rfl).trans ?_
  refine (wp_s (n := 78) (zcode_of mc_163 (r := (.iload 5, 0, 0, 0)) rfl) rfl rfl).trans ?_
  refine (wp_s (n := 79) (zcode_of mc_163 (r := (.iadd, 0, 0, 0)) rfl) rfl rfl).trans ?_
  refine (wr_ld (n' := 80) rfl hR (zcode_of mc_163 (r := (.iaload, 0, 0, 0)) rfl) rfl rfl).trans (and_congr Iff.rfl ?_)
  refine (wr_st (n' := 81) rfl hR (zcode_of mc_163 (r := (.iastore, 0, 0, 0)) rfl) rfl rfl).trans (and_congr Iff.rfl ?_)
  refine (wp_inc (n' := 84) rfl (zcode_of mc_163 (r := (.iinc 5 1, 0, 0, 0)) rfl) rfl rfl ci_1).trans ?_
  exact wp_goto (off := (-39)) (t := 45) (zcode_of mc_163 (r := (.goto (-39), 0, 0, 0)) rfl) (by decide)
theorem b163_87 {σ : zSt} {o : Nat} {sc : Nat → Int32} {ar : Nat → Nat → Int32} {P : Option Value → zSt → Prop} (hR : RShape σ o) {x1 x2 x3 x4 x5 : Int32} :
    wp 163 87 [some (.ref o), some (.int x1), some (.int x2), some (.int x3), some (.int x4), some (.int x5)] [] (rOv σ o sc ar) P ↔ wp 163 2 [some (.ref o), some (.int x1), some (.int x2), some (.int (x3 + 1)), some (.int x4), some (.int x5)] [] (rOv σ o sc ar) P := by
  refine (wp_inc (n' := 90) rfl (zcode_of mc_163 (r := (.iinc 3 1, 0, 0, 0)) rfl) rfl rfl ci_1).trans ?_
  exact wp_goto (off := (-88)) (t := 2) (zcode_of mc_163 (r := (.goto (-88), 0, 0, 0)) rfl) (by decide)
theorem b163_93 {σ : zSt} {o : Nat} {sc : Nat → Int32} {ar : Nat → Nat → Int32} {P : Option Value → zSt → Prop} (hR : RShape σ o) {x1 x2 x3 : Int32} {u4 u5 : Option Value} :
    wp 163 93 [some (.ref o), some (.int x1), some (.int x2), some (.int x3), u4, u5] [] (rOv σ o sc ar) P ↔ P none (rOv σ o sc ar) := by
  exact wp_retV (zcode_of mc_163 (r := (.return_, 0, 0, 0)) rfl) rfl
theorem mc_164 : mCode 164 = zc_164 := rfl
theorem b164 {σ : zSt} {o : Nat} {sc : Nat → Int32} {ar : Nat → Nat → Int32} {P : Option Value → zSt → Prop} (hR : RShape σ o) :
    wpM 164 [.ref o] (rOv σ o sc ar) P ↔ wp 164 4 [some (.ref o), some (.int 0), some (.int 0)] [] (rOv σ o sc ar) P := by
  show wp 164 0 [some (.ref o), none, none] [] (rOv σ o sc ar) P ↔ _
  refine (wp_ic (n' := 1) rfl (zcode_of mc_164 (r := (.iconst 0, 0, 0, 0)) rfl) ci_0).trans ?_
  refine (wp_s (n := 2) (zcode_of mc_164 (r := (.istore_n 1, 0, 0, 0)) rfl) rfl rfl).trans ?_
  refine (wp_ic (n' := 3) rfl (zcode_of mc_164 (r := (.iconst 0, 0, 0, 0)) rfl) ci_0).trans ?_
  refine (wp_s (n := 4) (zcode_of mc_164 (r := (.istore_n 2, 0, 0, 0)) rfl) rfl rfl).trans ?_
  exact Iff.rfl
theorem b164_4 {σ : zSt} {o : Nat} {sc : Nat → Int32} {ar : Nat → Nat → Int32} {P : Option Value → zSt → Prop} (hR : RShape σ o) {x1 x2 : Int32} :
    wp 164 4 [some (.ref o), some (.int x1), some (.int x2)] [] (rOv σ o sc ar) P ↔ (if (sc 21) ≤ x2 then wp 164 32 [some (.ref o), some (.int x1), some (.int x2)] [] (rOv σ o sc ar) P else wp 164 12 [some (.ref o), some (.int x1), some (.int x2)] [] (rOv σ o sc ar) P) := by
  refine (wp_s (n := 5) (zcode_of mc_164 (r := (.iload_n 2, 0, 0, 0)) rfl) rfl rfl).trans ?_
  refine (wp_s (n := 6) (zcode_of mc_164 (r := (.aload_n 0, 0, 0, 0)) rfl) rfl rfl).trans ?_
  refine (wr_getI (n' := 9) rfl hR (zcode_of mc_164 (r := (.getfield 268, 12, 21, 0)) rfl) rfl).trans ?_
  exact wp_jump (off := 23) (t := 32) (zcode_of mc_164 (r := (.if_icmp .ge 23, 0, 0, 0)) rfl) rfl rfl (by decide)
theorem b164_12 {σ : zSt} {o : Nat} {sc : Nat → Int32} {ar : Nat → Nat → Int32} {P : Option Value → zSt → Prop} (hR : RShape σ o) {x1 x2 : Int32} :
    wp 164 12 [some (.ref o), some (.int x1), some (.int x2)] [] (rOv σ o sc ar) P ↔ (zIn x2 (rlen 42) ∧ (zIn (ar 42 (Int32.toNatClampNeg x2)) (rlen 46) ∧ wp 164 4 [some (.ref o), some (.int (x1 + (ar 46 (Int32.toNatClampNeg (ar 42 (Int32.toNatClampNeg x2)))))), some (.int (x2 + 1))] [] (rOv σ o sc ar) P)) := by
  refine (wp_s (n := 13) (zcode_of mc_164 (r := (.iload_n 1, 0, 0, 0)) rfl) rfl rfl).trans ?_
  refine (wp_s (n := 14) (zcode_of mc_164 (r := (.aload_n 0, 0, 0, 0)) rfl) rfl rfl).trans ?_
  refine (wr_getA (n' := 17) rfl (t := 46) hR (zcode_of mc_164 (r := (.getfield 83, 12, 26, 0)) rfl) rfl rfl).trans ?_
  refine (wp_s (n := 18) (zcode_of mc_164 (r := (.aload_n 0, 0, 0, 0)) rfl) rfl rfl).trans ?_
  refine (wr_getA (n' := 21) rfl (t := 42) hR (zcode_of mc_164 (r := (.getfield 70, 12, 22, 0)) rfl) rfl rfl).trans ?_
  refine (wp_s (n := 22) (zcode_of mc_164 (r := (.iload_n 2, 0, 0, 0)) rfl) rfl rfl).trans ?_
  refine (wr_ld (n' := 23) rfl hR (zcode_of mc_164 (r := (.iaload, 0, 0, 0)) rfl) rfl rfl).trans (and_congr Iff.rfl ?_)
  refine (wr_ld (n' := 24) rfl hR (zcode_of mc_164 (r := (.iaload, 0, 0, 0)) rfl) rfl rfl).trans (and_congr Iff.rfl ?_)
  refine (wp_s (n := 25) (zcode_of mc_164 (r := (.iadd, 0, 0, 0)) rfl) rfl rfl).trans ?_
  refine (wp_s (n := 26) (zcode_of mc_164 (r := (.istore_n 1, 0, 0, 0)) rfl) rfl rfl).trans ?_
  refine (wp_inc (n' := 29) rfl (zcode_of mc_164 (r := (.iinc 2 1, 0, 0, 0)) rfl) rfl rfl ci_1).trans ?_
  exact wp_goto (off := (-25)) (t := 4) (zcode_of mc_164 (r := (.goto (-25), 0, 0, 0)) rfl) (by decide)
theorem b164_32 {σ : zSt} {o : Nat} {sc : Nat → Int32} {ar : Nat → Nat → Int32} {P : Option Value → zSt → Prop} (hR : RShape σ o) {x1 x2 : Int32} :
    wp 164 32 [some (.ref o), some (.int x1), some (.int x2)] [] (rOv σ o sc ar) P ↔ P (some (.int x1)) (rOv σ o sc ar) := by
  refine (wp_s (n := 33) (zcode_of mc_164 (r := (.iload_n 1, 0, 0, 0)) rfl) rfl rfl).trans ?_
  exact wp_retI (zcode_of mc_164 (r := (.ireturn, 0, 0, 0)) rfl) rfl
theorem mc_165 : mCode 165 = zc_165 := rfl
theorem b165 {σ : zSt} {o : Nat} {sc : Nat → Int32} {ar : Nat → Nat → Int32} {P : Option Value → zSt → Prop} (hR : RShape σ o) {x1 : Int32} :
    wpM 165 [.ref o, .int x1] (rOv σ o sc ar) P ↔ wp 165 12 [some (.ref o), some (.int x1), some (.int x1)] [] (rOv σ o (upS sc 21 ((sc 21) - 1)) ar) P := by
  show wp 165 0 [some (.ref o), some (.int x1), none] [] (rOv σ o sc ar) P ↔ _
  refine (wp_s (n := 1) (zcode_of mc_165 (r := (.aload_n 0, 0, 0, 0)) rfl) rfl rfl).trans ?_
  refine (wp_s (n := 2) (zcode_of mc_165 (r := (.dup, 0, 0, 0)) rfl) rfl rfl).trans ?_
  refine (wr_getI (n' := 5) rfl hR (zcode_of mc_165 (r := (.getfield 268, 12, 21, 0)) rfl) rfl).trans ?_
  refine (wp_ic (n' := 6) rfl (zcode_of mc_165 (r := (.iconst 1, 0, 0, 0)) rfl) ci_1).trans ?_
  refine (wp_s (n := 7) (zcode_of mc_165 (r := (.isub, 0, 0, 0)) rfl) rfl rfl).trans ?_
  refine (wr_put (n' := 10) rfl hR (zcode_of mc_165 (r := (.putfield 268, 12, 21, 0)) rfl) rfl).trans ?_
  refine (wp_s (n := 11) (zcode_of mc_165 (r := (.iload_n 1, 0, 0, 0)) rfl) rfl rfl).trans ?_
  refine (wp_s (n := 12) (zcode_of mc_165 (r := (.istore_n 2, 0, 0, 0)) rfl) rfl rfl).trans ?_
  exact Iff.rfl
theorem b165_12 {σ : zSt} {o : Nat} {sc : Nat → Int32} {ar : Nat → Nat → Int32} {P : Option Value → zSt → Prop} (hR : RShape σ o) {x1 x2 : Int32} :
    wp 165 12 [some (.ref o), some (.int x1), some (.int x2)] [] (rOv σ o sc ar) P ↔ (if (sc 21) ≤ x2 then wp 165 40 [some (.ref o), some (.int x1), some (.int x2)] [] (rOv σ o sc ar) P else wp 165 20 [some (.ref o), some (.int x1), some (.int x2)] [] (rOv σ o sc ar) P) := by
  refine (wp_s (n := 13) (zcode_of mc_165 (r := (.iload_n 2, 0, 0, 0)) rfl) rfl rfl).trans ?_
  refine (wp_s (n := 14) (zcode_of mc_165 (r := (.aload_n 0, 0, 0, 0)) rfl) rfl rfl).trans ?_
  refine (wr_getI (n' := 17) rfl hR (zcode_of mc_165 (r := (.getfield 268, 12, 21, 0)) rfl) rfl).trans ?_
  exact wp_jump (off := 23) (t := 40) (zcode_of mc_165 (r := (.if_icmp .ge 23, 0, 0, 0)) rfl) rfl rfl (by decide)
theorem b165_20 {σ : zSt} {o : Nat} {sc : Nat → Int32} {ar : Nat → Nat → Int32} {P : Option Value → zSt → Prop} (hR : RShape σ o) {x1 x2 : Int32} :
    wp 165 20 [some (.ref o), some (.int x1), some (.int x2)] [] (rOv σ o sc ar) P ↔ (zIn (x2 + 1) (rlen 42) ∧ (zIn x2 (rlen 42) ∧ wp 165 12 [some (.ref o), some (.int x1), some (.int (x2 + 1))] [] (rOv σ o sc (upA ar 42 (Int32.toNatClampNeg x2) (ar 42 (Int32.toNatClampNeg (x2 + 1))))) P)) := by
  refine (wp_s (n := 21) (zcode_of mc_165 (r := (.aload_n 0, 0, 0, 0)) rfl) rfl rfl).trans ?_
  refine (wr_getA (n' := 24) rfl (t := 42) hR (zcode_of mc_165 (r := (.getfield 70, 12, 22, 0)) rfl) rfl rfl).trans ?_
  refine (wp_s (n := 25) (zcode_of mc_165 (r := (.iload_n 2, 0, 0, 0)) rfl) rfl rfl).trans ?_
  refine (wp_s (n := 26) (zcode_of mc_165 (r := (.aload_n 0, 0, 0, 0)) rfl) rfl rfl).trans ?_
  refine (wr_getA (n' := 29) rfl (t := 42) hR (zcode_of mc_165 (r := (.getfield 70, 12, 22, 0)) rfl) rfl rfl).trans ?_
  refine (wp_s (n := 30) (zcode_of mc_165 (r := (.iload_n 2, 0, 0, 0)) rfl) rfl rfl).trans ?_
  refine (wp_ic (n' := 31) rfl (zcode_of mc_165 (r := (.iconst 1, 0, 0, 0)) rfl) ci_1).trans ?_
  refine (wp_s (n := 32) (zcode_of mc_165 (r := (.iadd, 0, 0, 0)) rfl) rfl rfl).trans ?_
  refine (wr_ld (n' := 33) rfl hR (zcode_of mc_165 (r := (.iaload, 0, 0, 0)) rfl) rfl rfl).trans (and_congr Iff.rfl ?_)
  refine (wr_st (n' := 34) rfl hR (zcode_of mc_165 (r := (.iastore, 0, 0, 0)) rfl) rfl rfl).trans (and_congr Iff.rfl ?_)
  refine (wp_inc (n' := 37) rfl (zcode_of mc_165 (r := (.iinc 2 1, 0, 0, 0)) rfl) rfl rfl ci_1).trans ?_
  exact wp_goto (off := (-25)) (t := 12) (zcode_of mc_165 (r := (.goto (-25), 0, 0, 0)) rfl) (by decide)
theorem b165_40 {σ : zSt} {o : Nat} {sc : Nat → Int32} {ar : Nat → Nat → Int32} {P : Option Value → zSt → Prop} (hR : RShape σ o) {x1 x2 : Int32} :
    wp 165 40 [some (.ref o), some (.int x1), some (.int x2)] [] (rOv σ o sc ar) P ↔ P none (rOv σ o sc ar) := by
  exact wp_retV (zcode_of mc_165 (r := (.return_, 0, 0, 0)) rfl) rfl
theorem mc_166 : mCode 166 = zc_166 := rfl
theorem b166 {σ : zSt} {o : Nat} {sc : Nat → Int32} {ar : Nat → Nat → Int32} {P : Option Value → zSt → Prop} (hR : RShape σ o) {x1 : Int32} :
    wpM 166 [.ref o, .int x1] (rOv σ o sc ar) P ↔ wp 166 2 [some (.ref o), some (.int x1), some (.int 0)] [] (rOv σ o sc ar) P := by
  show wp 166 0 [some (.ref o), some (.int x1), none] [] (rOv σ o sc ar) P ↔ _
  refine (wp_ic (n' := 1) rfl (zcode_of mc_166 (r := (.iconst 0, 0, 0, 0)) rfl) ci_0).trans ?_
  refine (wp_s (n := 2) (zcode_of mc_166 (r := (.istore_n 2, 0, 0, 0)) rfl) rfl rfl).trans ?_
  exact Iff.rfl
theorem b166_2 {σ : zSt} {o : Nat} {sc : Nat → Int32} {ar : Nat → Nat → Int32} {P : Option Value → zSt → Prop} (hR : RShape σ o) {x1 x2 : Int32} :
    wp 166 2 [some (.ref o), some (.int x1), some (.int x2)] [] (rOv σ o sc ar) P ↔ (if 100 < (sc 21) then wp 166 19 [some (.ref o), some (.int x1), some (.int x2)] [] (rOv σ o sc ar) P else wp 166 11 [some (.ref o), some (.int x1), some (.int x2)] [] (rOv σ o sc ar) P) := by
  refine (wp_s (n := 3) (zcode_of mc_166 (r := (.aload_n 0, 0, 0, 0)) rfl) rfl rfl).trans ?_
  refine (wr_getI (n' := 6) rfl hR (zcode_of mc_166 (r := (.getfield 268, 12, 21, 0)) rfl) rfl).trans ?_
  refine (wp_bp (n' := 8) rfl (zcode_of mc_166 (r := (.bipush 100, 0, 0, 0)) rfl) cb_100).trans ?_
  exact wp_jump (off := 11) (t := 19) (zcode_of mc_166 (r := (.if_icmp .gt 11, 0, 0, 0)) rfl) rfl rfl (by decide)
theorem b166_11 {σ : zSt} {o : Nat} {sc : Nat → Int32} {ar : Nat → Nat → Int32} {P : Option Value → zSt → Prop} (hR : RShape σ o) {x1 x2 : Int32} :
    wp 166 11 [some (.ref o), some (.int x1), some (.int x2)] [] (rOv σ o sc ar) P ↔ wpM 164 [.ref o] (rOv σ o sc ar) (fun r τ => wp 166 15 [some (.ref o), some (.int x1), some (.int x2)] (r.toList ++ []) τ P) := by
  refine (wp_s (n := 12) (zcode_of mc_166 (r := (.aload_n 0, 0, 0, 0)) rfl) rfl rfl).trans ?_
  exact wp_call (q := ([.ref o], [])) (zcode_of mc_166 (r := (.invokevirtual 271, 164, 0, 0)) rfl) rfl (zCa_V (Nat.le_of_ble_eq_true rfl) rfl hR.tg) ⟨Nat.le_of_ble_eq_true rfl, Nat.le_of_ble_eq_true rfl⟩
theorem b166_15 {σ : zSt} {o : Nat} {sc : Nat → Int32} {ar : Nat → Nat → Int32} {P : Option Value → zSt → Prop} (hR : RShape σ o) {x1 x2 s0 : Int32} :
    wp 166 15 [some (.ref o), some (.int x1), some (.int x2)] [.int s0] (rOv σ o sc ar) P ↔ (if s0 ≤ x1 then wp 166 42 [some (.ref o), some (.int x1), some (.int x2)] [] (rOv σ o sc ar) P else wp 166 19 [some (.ref o), some (.int x1), some (.int x2)] [] (rOv σ o sc ar) P) := by
  refine (wp_s (n := 16) (zcode_of mc_166 (r := (.iload_n 1, 0, 0, 0)) rfl) rfl rfl).trans ?_
  exact wp_jump (off := 26) (t := 42) (zcode_of mc_166 (r := (.if_icmp .le 26, 0, 0, 0)) rfl) rfl rfl (by decide)
theorem b166_19 {σ : zSt} {o : Nat} {sc : Nat → Int32} {ar : Nat → Nat → Int32} {P : Option Value → zSt → Prop} (hR : RShape σ o) {x1 x2 : Int32} :
    wp 166 19 [some (.ref o), some (.int x1), some (.int x2)] [] (rOv σ o sc ar) P ↔ (zIn 0 (rlen 42) ∧ ((zIn (ar 42 (Int32.toNatClampNeg 0)) (rlen 43) ∧ ((0 : Int32) = 0 ∨ (0 : Int32) = 1)) ∧ wpM 165 [.ref o, .int 0] (rOv σ o sc (upA ar 43 (Int32.toNatClampNeg (ar 42 (Int32.toNatClampNeg 0))) 0)) (fun r τ => wp 166 36 [some (.ref o), some (.int x1), some (.int x2)] (r.toList ++ []) τ P))) := by
  refine (wp_s (n := 20) (zcode_of mc_166 (r := (.aload_n 0, 0, 0, 0)) rfl) rfl rfl).trans ?_
  refine (wr_getA (n' := 23) rfl (t := 43) hR (zcode_of mc_166 (r := (.getfield 73, 12, 23, 0)) rfl) rfl rfl).trans ?_
  refine (wp_s (n := 24) (zcode_of mc_166 (r := (.aload_n 0, 0, 0, 0)) rfl) rfl rfl).trans ?_
  refine (wr_getA (n' := 27) rfl (t := 42) hR (zcode_of mc_166 (r := (.getfield 70, 12, 22, 0)) rfl) rfl rfl).trans ?_
  refine (wp_ic (n' := 28) rfl (zcode_of mc_166 (r := (.iconst 0, 0, 0, 0)) rfl) ci_0).trans ?_
  refine (wr_ld (n' := 29) rfl hR (zcode_of mc_166 (r := (.iaload, 0, 0, 0)) rfl) rfl rfl).trans (and_congr Iff.rfl ?_)
  refine (wp_ic (n' := 30) rfl (zcode_of mc_166 (r := (.iconst 0, 0, 0, 0)) rfl) ci_0).trans ?_
  refine (wr_stZ (n' := 31) rfl hR (zcode_of mc_166 (r := (.bastore, 0, 0, 0)) rfl) rfl rfl).trans (and_congr Iff.rfl ?_)
  refine (wp_s (n := 32) (zcode_of mc_166 (r := (.aload_n 0, 0, 0, 0)) rfl) rfl rfl).trans ?_
  refine (wp_ic (n' := 33) rfl (zcode_of mc_166 (r := (.iconst 0, 0, 0, 0)) rfl) ci_0).trans ?_
  exact wp_call (q := ([.ref o, .int 0], [])) (zcode_of mc_166 (r := (.invokevirtual 274, 165, 0, 1)) rfl) rfl (zCa_V (Nat.le_of_ble_eq_true rfl) rfl hR.tg) ⟨Nat.le_of_ble_eq_true rfl, Nat.le_of_ble_eq_true rfl⟩
theorem b166_36 {σ : zSt} {o : Nat} {sc : Nat → Int32} {ar : Nat → Nat → Int32} {P : Option Value → zSt → Prop} (hR : RShape σ o) {x1 x2 : Int32} :
    wp 166 36 [some (.ref o), some (.int x1), some (.int x2)] [] (rOv σ o sc ar) P ↔ wp 166 2 [some (.ref o), some (.int x1), some (.int (x2 + 1))] [] (rOv σ o sc ar) P := by
  refine (wp_inc (n' := 39) rfl (zcode_of mc_166 (r := (.iinc 2 1, 0, 0, 0)) rfl) rfl rfl ci_1).trans ?_
  exact wp_goto (off := (-37)) (t := 2) (zcode_of mc_166 (r := (.goto (-37), 0, 0, 0)) rfl) (by decide)
theorem b166_42 {σ : zSt} {o : Nat} {sc : Nat → Int32} {ar : Nat → Nat → Int32} {P : Option Value → zSt → Prop} (hR : RShape σ o) {x1 x2 : Int32} :
    wp 166 42 [some (.ref o), some (.int x1), some (.int x2)] [] (rOv σ o sc ar) P ↔ P (some (.int x2)) (rOv σ o (upS sc 39 ((sc 39) + x2)) ar) := by
  refine (wp_s (n := 43) (zcode_of mc_166 (r := (.aload_n 0, 0, 0, 0)) rfl) rfl rfl).trans ?_
  refine (wp_s (n := 44) (zcode_of mc_166 (r := (.dup, 0, 0, 0)) rfl) rfl rfl).trans ?_
  refine (wr_getI (n' := 47) rfl hR (zcode_of mc_166 (r := (.getfield 277, 12, 39, 0)) rfl) rfl).trans ?_
  refine (wp_s (n := 48) (zcode_of mc_166 (r := (.iload_n 2, 0, 0, 0)) rfl) rfl rfl).trans ?_
  refine (wp_s (n := 49) (zcode_of mc_166 (r := (.iadd, 0, 0, 0)) rfl) rfl rfl).trans ?_
  refine (wr_put (n' := 52) rfl hR (zcode_of mc_166 (r := (.putfield 277, 12, 39, 0)) rfl) rfl).trans ?_
  refine (wp_s (n := 53) (zcode_of mc_166 (r := (.iload_n 2, 0, 0, 0)) rfl) rfl rfl).trans ?_
  exact wp_retI (zcode_of mc_166 (r := (.ireturn, 0, 0, 0)) rfl) rfl
theorem mc_167 : mCode 167 = zc_167 := rfl
theorem b167 {σ : zSt} {o : Nat} {sc : Nat → Int32} {ar : Nat → Nat → Int32} {P : Option Value → zSt → Prop} (hR : RShape σ o) :
    wpM 167 [.ref o] (rOv σ o sc ar) P ↔ wp 167 4 [some (.ref o), some (.int (-1)), some (.int 0)] [] (rOv σ o sc ar) P := by
  show wp 167 0 [some (.ref o), none, none] [] (rOv σ o sc ar) P ↔ _
  refine (wp_ic (n' := 1) rfl (zcode_of mc_167 (r := (.iconst (-1), 0, 0, 0)) rfl) ci_m1).trans ?_
  refine (wp_s (n := 2) (zcode_of mc_167 (r := (.istore_n 1, 0, 0, 0)) rfl) rfl rfl).trans ?_
  refine (wp_ic (n' := 3) rfl (zcode_of mc_167 (r := (.iconst 0, 0, 0, 0)) rfl) ci_0).trans ?_
  refine (wp_s (n := 4) (zcode_of mc_167 (r := (.istore_n 2, 0, 0, 0)) rfl) rfl rfl).trans ?_
  exact Iff.rfl
theorem b167_4 {σ : zSt} {o : Nat} {sc : Nat → Int32} {ar : Nat → Nat → Int32} {P : Option Value → zSt → Prop} (hR : RShape σ o) {x1 x2 : Int32} :
    wp 167 4 [some (.ref o), some (.int x1), some (.int x2)] [] (rOv σ o sc ar) P ↔ (if (sc 21) ≤ x2 then wp 167 61 [some (.ref o), some (.int x1), some (.int x2)] [] (rOv σ o sc ar) P else wp 167 12 [some (.ref o), some (.int x1), some (.int x2)] [] (rOv σ o sc ar) P) := by
  refine (wp_s (n := 5) (zcode_of mc_167 (r := (.iload_n 2, 0, 0, 0)) rfl) rfl rfl).trans ?_
  refine (wp_s (n := 6) (zcode_of mc_167 (r := (.aload_n 0, 0, 0, 0)) rfl) rfl rfl).trans ?_
  refine (wr_getI (n' := 9) rfl hR (zcode_of mc_167 (r := (.getfield 268, 12, 21, 0)) rfl) rfl).trans ?_
  exact wp_jump (off := 52) (t := 61) (zcode_of mc_167 (r := (.if_icmp .ge 52, 0, 0, 0)) rfl) rfl rfl (by decide)
theorem b167_12 {σ : zSt} {o : Nat} {sc : Nat → Int32} {ar : Nat → Nat → Int32} {P : Option Value → zSt → Prop} (hR : RShape σ o) {x1 x2 : Int32} :
    wp 167 12 [some (.ref o), some (.int x1), some (.int x2)] [] (rOv σ o sc ar) P ↔ (zIn x2 (rlen 42) ∧ (zIn x2 (rlen 42) ∧ (zIn (ar 42 (Int32.toNatClampNeg x2)) (rlen 45) ∧ wpM 146 [.ref o, .int 0, .int (sc 43), .ref (rad o 44), .int (425 * (ar 42 (Int32.toNatClampNeg x2))), .int (ar 45 (Int32.toNatClampNeg (ar 42 (Int32.toNatClampNeg x2))))] (rOv σ o sc ar) (fun r τ => wp 167 46 [some (.ref o), some (.int x1), some (.int x2)] (r.toList ++ []) τ P)))) := by
  refine (wp_s (n := 13) (zcode_of mc_167 (r := (.aload_n 0, 0, 0, 0)) rfl) rfl rfl).trans ?_
  refine (wp_ic (n' := 14) rfl (zcode_of mc_167 (r := (.iconst 0, 0, 0, 0)) rfl) ci_0).trans ?_
  refine (wp_s (n := 15) (zcode_of mc_167 (r := (.aload_n 0, 0, 0, 0)) rfl) rfl rfl).trans ?_
  refine (wr_getI (n' := 18) rfl hR (zcode_of mc_167 (r := (.getfield 187, 12, 43, 0)) rfl) rfl).trans ?_
  refine (wp_s (n := 19) (zcode_of mc_167 (r := (.aload_n 0, 0, 0, 0)) rfl) rfl rfl).trans ?_
  refine (wr_getA (n' := 22) rfl (t := 44) hR (zcode_of mc_167 (r := (.getfield 77, 12, 24, 0)) rfl) rfl rfl).trans ?_
  refine (wp_sp (n' := 25) rfl (zcode_of mc_167 (r := (.sipush 425, 0, 0, 0)) rfl) cs_425).trans ?_
  refine (wp_s (n := 26) (zcode_of mc_167 (r := (.aload_n 0, 0, 0, 0)) rfl) rfl rfl).trans ?_
  refine (wr_getA (n' := 29) rfl (t := 42) hR (zcode_of mc_167 (r := (.getfield 70, 12, 22, 0)) rfl) rfl rfl).trans ?_
  refine (wp_s (n := 30) (zcode_of mc_167 (r := (.iload_n 2, 0, 0, 0)) rfl) rfl rfl).trans ?_
  refine (wr_ld (n' := 31) rfl hR (zcode_of mc_167 (r := (.iaload, 0, 0, 0)) rfl) rfl rfl).trans (and_congr Iff.rfl ?_)
  refine (wp_s (n := 32) (zcode_of mc_167 (r := (.imul, 0, 0, 0)) rfl) rfl rfl).trans ?_
  refine (wp_s (n := 33) (zcode_of mc_167 (r := (.aload_n 0, 0, 0, 0)) rfl) rfl rfl).trans ?_
  refine (wr_getA (n' := 36) rfl (t := 45) hR (zcode_of mc_167 (r := (.getfield 80, 12, 25, 0)) rfl) rfl rfl).trans ?_
  refine (wp_s (n := 37) (zcode_of mc_167 (r := (.aload_n 0, 0, 0, 0)) rfl) rfl rfl).trans ?_
  refine (wr_getA (n' := 40) rfl (t := 42) hR (zcode_of mc_167 (r := (.getfield 70, 12, 22, 0)) rfl) rfl rfl).trans ?_
  refine (wp_s (n := 41) (zcode_of mc_167 (r := (.iload_n 2, 0, 0, 0)) rfl) rfl rfl).trans ?_
  refine (wr_ld (n' := 42) rfl hR (zcode_of mc_167 (r := (.iaload, 0, 0, 0)) rfl) rfl rfl).trans (and_congr Iff.rfl ?_)
  refine (wr_ld (n' := 43) rfl hR (zcode_of mc_167 (r := (.iaload, 0, 0, 0)) rfl) rfl rfl).trans (and_congr Iff.rfl ?_)
  exact wp_call (q := ([.ref o, .int 0, .int (sc 43), .ref (rad o 44), .int (425 * (ar 42 (Int32.toNatClampNeg x2))), .int (ar 45 (Int32.toNatClampNeg (ar 42 (Int32.toNatClampNeg x2))))], [])) (zcode_of mc_167 (r := (.invokevirtual 217, 146, 0, 5)) rfl) rfl (zCa_V (Nat.le_of_ble_eq_true rfl) rfl hR.tg) ⟨Nat.le_of_ble_eq_true rfl, Nat.le_of_ble_eq_true rfl⟩
theorem b167_46 {σ : zSt} {o : Nat} {sc : Nat → Int32} {ar : Nat → Nat → Int32} {P : Option Value → zSt → Prop} (hR : RShape σ o) {x1 x2 s0 : Int32} :
    wp 167 46 [some (.ref o), some (.int x1), some (.int x2)] [.int s0] (rOv σ o sc ar) P ↔ (if s0 = 0 then wp 167 53 [some (.ref o), some (.int x1), some (.int x2)] [] (rOv σ o sc ar) P else wp 167 49 [some (.ref o), some (.int x1), some (.int x2)] [] (rOv σ o sc ar) P) := by
  exact wp_jump (off := 7) (t := 53) (zcode_of mc_167 (r := (.ifCond .eq 7, 0, 0, 0)) rfl) rfl rfl (by decide)
theorem b167_49 {σ : zSt} {o : Nat} {sc : Nat → Int32} {ar : Nat → Nat → Int32} {P : Option Value → zSt → Prop} (hR : RShape σ o) {x1 x2 : Int32} :
    wp 167 49 [some (.ref o), some (.int x1), some (.int x2)] [] (rOv σ o sc ar) P ↔ wp 167 54 [some (.ref o), some (.int x1), some (.int x2)] [.int x2] (rOv σ o sc ar) P := by
  refine (wp_s (n := 50) (zcode_of mc_167 (r := (.iload_n 2, 0, 0, 0)) rfl) rfl rfl).trans ?_
  exact wp_goto (off := 4) (t := 54) (zcode_of mc_167 (r := (.goto 4, 0, 0, 0)) rfl) (by decide)
theorem b167_53 {σ : zSt} {o : Nat} {sc : Nat → Int32} {ar : Nat → Nat → Int32} {P : Option Value → zSt → Prop} (hR : RShape σ o) {x1 x2 : Int32} :
    wp 167 53 [some (.ref o), some (.int x1), some (.int x2)] [] (rOv σ o sc ar) P ↔ wp 167 54 [some (.ref o), some (.int x1), some (.int x2)] [.int x1] (rOv σ o sc ar) P := by
  refine (wp_s (n := 54) (zcode_of mc_167 (r := (.iload_n 1, 0, 0, 0)) rfl) rfl rfl).trans ?_
  exact Iff.rfl
theorem b167_54 {σ : zSt} {o : Nat} {sc : Nat → Int32} {ar : Nat → Nat → Int32} {P : Option Value → zSt → Prop} (hR : RShape σ o) {x1 x2 s0 : Int32} :
    wp 167 54 [some (.ref o), some (.int x1), some (.int x2)] [.int s0] (rOv σ o sc ar) P ↔ wp 167 4 [some (.ref o), some (.int s0), some (.int (x2 + 1))] [] (rOv σ o sc ar) P := by
  refine (wp_s (n := 55) (zcode_of mc_167 (r := (.istore_n 1, 0, 0, 0)) rfl) rfl rfl).trans ?_
  refine (wp_inc (n' := 58) rfl (zcode_of mc_167 (r := (.iinc 2 1, 0, 0, 0)) rfl) rfl rfl ci_1).trans ?_
  exact wp_goto (off := (-54)) (t := 4) (zcode_of mc_167 (r := (.goto (-54), 0, 0, 0)) rfl) (by decide)
theorem b167_61 {σ : zSt} {o : Nat} {sc : Nat → Int32} {ar : Nat → Nat → Int32} {P : Option Value → zSt → Prop} (hR : RShape σ o) {x1 x2 : Int32} :
    wp 167 61 [some (.ref o), some (.int x1), some (.int x2)] [] (rOv σ o sc ar) P ↔ P (some (.int x1)) (rOv σ o sc ar) := by
  refine (wp_s (n := 62) (zcode_of mc_167 (r := (.iload_n 1, 0, 0, 0)) rfl) rfl rfl).trans ?_
  exact wp_retI (zcode_of mc_167 (r := (.ireturn, 0, 0, 0)) rfl) rfl
theorem mc_168 : mCode 168 = zc_168 := rfl
set_option maxRecDepth 20000 in
theorem b168 {σ : zSt} {o : Nat} {sc : Nat → Int32} {ar : Nat → Nat → Int32} {P : Option Value → zSt → Prop} (hR : RShape σ o) {x1 : Int32} :
    wpM 168 [.ref o, .int x1] (rOv σ o sc ar) P ↔ wp 168 2 [some (.ref o), some (.int x1), some (.int 0), none, none] [] (rOv σ o sc ar) P := by
  show wp 168 0 [some (.ref o), some (.int x1), none, none, none] [] (rOv σ o sc ar) P ↔ _
  refine (wp_ic (n' := 1) rfl (zcode_of mc_168 (r := (.iconst 0, 0, 0, 0)) rfl) ci_0).trans ?_
  refine (wp_s (n := 2) (zcode_of mc_168 (r := (.istore_n 2, 0, 0, 0)) rfl) rfl rfl).trans ?_
  exact Iff.rfl
set_option maxRecDepth 20000 in
theorem b168_2 {σ : zSt} {o : Nat} {sc : Nat → Int32} {ar : Nat → Nat → Int32} {P : Option Value → zSt → Prop} (hR : RShape σ o) {x1 x2 : Int32} {u3 u4 : Option Value} :
    wp 168 2 [some (.ref o), some (.int x1), some (.int x2), u3, u4] [] (rOv σ o sc ar) P ↔ (zIn x2 (rlen 43) ∧ (if (ar 43 (Int32.toNatClampNeg x2)) = 0 then wp 168 17 [some (.ref o), some (.int x1), some (.int x2), u3, u4] [] (rOv σ o sc ar) P else wp 168 11 [some (.ref o), some (.int x1), some (.int x2), u3, u4] [] (rOv σ o sc ar) P)) := by
  refine (wp_s (n := 3) (zcode_of mc_168 (r := (.aload_n 0, 0, 0, 0)) rfl) rfl rfl).trans ?_
  refine (wr_getA (n' := 6) rfl (t := 43) hR (zcode_of mc_168 (r := (.getfield 73, 12, 23, 0)) rfl) rfl rfl).trans ?_
  refine (wp_s (n := 7) (zcode_of mc_168 (r := (.iload_n 2, 0, 0, 0)) rfl) rfl rfl).trans ?_
  refine (wr_ldZ (n' := 8) rfl hR (zcode_of mc_168 (r := (.baload, 0, 0, 0)) rfl) rfl rfl).trans (and_congr Iff.rfl ?_)
  exact wp_jump (off := 9) (t := 17) (zcode_of mc_168 (r := (.ifCond .eq 9, 0, 0, 0)) rfl) rfl rfl (by decide)
set_option maxRecDepth 20000 in
theorem b168_11 {σ : zSt} {o : Nat} {sc : Nat → Int32} {ar : Nat → Nat → Int32} {P : Option Value → zSt → Prop} (hR : RShape σ o) {x1 x2 : Int32} {u3 u4 : Option Value} :
    wp 168 11 [some (.ref o), some (.int x1), some (.int x2), u3, u4] [] (rOv σ o sc ar) P ↔ wp 168 2 [some (.ref o), some (.int x1), some (.int (x2 + 1)), u3, u4] [] (rOv σ o sc ar) P := by
  refine (wp_inc (n' := 14) rfl (zcode_of mc_168 (r := (.iinc 2 1, 0, 0, 0)) rfl) rfl rfl ci_1).trans ?_
  exact wp_goto (off := (-12)) (t := 2) (zcode_of mc_168 (r := (.goto (-12), 0, 0, 0)) rfl) (by decide)
set_option maxRecDepth 20000 in
theorem b168_17 {σ : zSt} {o : Nat} {sc : Nat → Int32} {ar : Nat → Nat → Int32} {P : Option Value → zSt → Prop} (hR : RShape σ o) {x1 x2 : Int32} {u3 u4 : Option Value} :
    wp 168 17 [some (.ref o), some (.int x1), some (.int x2), u3, u4] [] (rOv σ o sc ar) P ↔ ((zIn x2 (rlen 43) ∧ ((1 : Int32) = 0 ∨ (1 : Int32) = 1)) ∧ wp 168 26 [some (.ref o), some (.int x1), some (.int x2), some (.int 0), u4] [] (rOv σ o sc (upA ar 43 (Int32.toNatClampNeg x2) 1)) P) := by
  refine (wp_s (n := 18) (zcode_of mc_168 (r := (.aload_n 0, 0, 0, 0)) rfl) rfl rfl).trans ?_
  refine (wr_getA (n' := 21) rfl (t := 43) hR (zcode_of mc_168 (r := (.getfield 73, 12, 23, 0)) rfl) rfl rfl).trans ?_
  refine (wp_s (n := 22) (zcode_of mc_168 (r := (.iload_n 2, 0, 0, 0)) rfl) rfl rfl).trans ?_
  refine (wp_ic (n' := 23) rfl (zcode_of mc_168 (r := (.iconst 1, 0, 0, 0)) rfl) ci_1).trans ?_
  refine (wr_stZ (n' := 24) rfl hR (zcode_of mc_168 (r := (.bastore, 0, 0, 0)) rfl) rfl rfl).trans (and_congr Iff.rfl ?_)
  refine (wp_ic (n' := 25) rfl (zcode_of mc_168 (r := (.iconst 0, 0, 0, 0)) rfl) ci_0).trans ?_
  refine (wp_s (n := 26) (zcode_of mc_168 (r := (.istore_n 3, 0, 0, 0)) rfl) rfl rfl).trans ?_
  exact Iff.rfl
set_option maxRecDepth 20000 in
theorem b168_26 {σ : zSt} {o : Nat} {sc : Nat → Int32} {ar : Nat → Nat → Int32} {P : Option Value → zSt → Prop} (hR : RShape σ o) {x1 x2 x3 : Int32} {u4 : Option Value} :
    wp 168 26 [some (.ref o), some (.int x1), some (.int x2), some (.int x3), u4] [] (rOv σ o sc ar) P ↔ (if (sc 43) ≤ x3 then wp 168 58 [some (.ref o), some (.int x1), some (.int x2), some (.int x3), u4] [] (rOv σ o sc ar) P else wp 168 34 [some (.ref o), some (.int x1), some (.int x2), some (.int x3), u4] [] (rOv σ o sc ar) P) := by
  refine (wp_s (n := 27) (zcode_of mc_168 (r := (.iload_n 3, 0, 0, 0)) rfl) rfl rfl).trans ?_
  refine (wp_s (n := 28) (zcode_of mc_168 (r := (.aload_n 0, 0, 0, 0)) rfl) rfl rfl).trans ?_
  refine (wr_getI (n' := 31) rfl hR (zcode_of mc_168 (r := (.getfield 187, 12, 43, 0)) rfl) rfl).trans ?_
  exact wp_jump (off := 27) (t := 58) (zcode_of mc_168 (r := (.if_icmp .ge 27, 0, 0, 0)) rfl) rfl rfl (by decide)
set_option maxRecDepth 20000 in
theorem b168_34 {σ : zSt} {o : Nat} {sc : Nat → Int32} {ar : Nat → Nat → Int32} {P : Option Value → zSt → Prop} (hR : RShape σ o) {x1 x2 x3 : Int32} {u4 : Option Value} :
    wp 168 34 [some (.ref o), some (.int x1), some (.int x2), some (.int x3), u4] [] (rOv σ o sc ar) P ↔ (zIn x3 (rlen 62) ∧ (zIn ((425 * x2) + x3) (rlen 44) ∧ wp 168 26 [some (.ref o), some (.int x1), some (.int x2), some (.int (x3 + 1)), u4] [] (rOv σ o sc (upA ar 44 (Int32.toNatClampNeg ((425 * x2) + x3)) (ar 62 (Int32.toNatClampNeg x3)))) P)) := by
  refine (wp_s (n := 35) (zcode_of mc_168 (r := (.aload_n 0, 0, 0, 0)) rfl) rfl rfl).trans ?_
  refine (wr_getA (n' := 38) rfl (t := 44) hR (zcode_of mc_168 (r := (.getfield 77, 12, 24, 0)) rfl) rfl rfl).trans ?_
  refine (wp_sp (n' := 41) rfl (zcode_of mc_168 (r := (.sipush 425, 0, 0, 0)) rfl) cs_425).trans ?_
  refine (wp_s (n := 42) (zcode_of mc_168 (r := (.iload_n 2, 0, 0, 0)) rfl) rfl rfl).trans ?_
  refine (wp_s (n := 43) (zcode_of mc_168 (r := (.imul, 0, 0, 0)) rfl) rfl rfl).trans ?_
  refine (wp_s (n := 44) (zcode_of mc_168 (r := (.iload_n 3, 0, 0, 0)) rfl) rfl rfl).trans ?_
  refine (wp_s (n := 45) (zcode_of mc_168 (r := (.iadd, 0, 0, 0)) rfl) rfl rfl).trans ?_
  refine (wp_s (n := 46) (zcode_of mc_168 (r := (.aload_n 0, 0, 0, 0)) rfl) rfl rfl).trans ?_
  refine (wr_getA (n' := 49) rfl (t := 62) hR (zcode_of mc_168 (r := (.getfield 116, 12, 42, 0)) rfl) rfl rfl).trans ?_
  refine (wp_s (n := 50) (zcode_of mc_168 (r := (.iload_n 3, 0, 0, 0)) rfl) rfl rfl).trans ?_
  refine (wr_ld (n' := 51) rfl hR (zcode_of mc_168 (r := (.iaload, 0, 0, 0)) rfl) rfl rfl).trans (and_congr Iff.rfl ?_)
  refine (wr_st (n' := 52) rfl hR (zcode_of mc_168 (r := (.iastore, 0, 0, 0)) rfl) rfl rfl).trans (and_congr Iff.rfl ?_)
  refine (wp_inc (n' := 55) rfl (zcode_of mc_168 (r := (.iinc 3 1, 0, 0, 0)) rfl) rfl rfl ci_1).trans ?_
  exact wp_goto (off := (-29)) (t := 26) (zcode_of mc_168 (r := (.goto (-29), 0, 0, 0)) rfl) (by decide)
set_option maxRecDepth 20000 in
theorem b168_58 {σ : zSt} {o : Nat} {sc : Nat → Int32} {ar : Nat → Nat → Int32} {P : Option Value → zSt → Prop} (hR : RShape σ o) {x1 x2 x3 : Int32} {u4 : Option Value} :
    wp 168 58 [some (.ref o), some (.int x1), some (.int x2), some (.int x3), u4] [] (rOv σ o sc ar) P ↔ (zIn x2 (rlen 45) ∧ (zIn x2 (rlen 46) ∧ (zIn x2 (rlen 47) ∧ (zIn x2 (rlen 48) ∧ (zIn x1 (rlen 33) ∧ (zIn x2 (rlen 49) ∧ wp 168 107 [some (.ref o), some (.int x1), some (.int x2), some (.int 0), u4] [] (rOv σ o sc (upA (upA (upA (upA (upA ar 45 (Int32.toNatClampNeg x2) (sc 43)) 46 (Int32.toNatClampNeg x2) 16) 47 (Int32.toNatClampNeg x2) (sc 49)) 48 (Int32.toNatClampNeg x2) 0) 49 (Int32.toNatClampNeg x2) ((upA (upA (upA (upA ar 45 (Int32.toNatClampNeg x2) (sc 43)) 46 (Int32.toNatClampNeg x2) 16) 47 (Int32.toNatClampNeg x2) (sc 49)) 48 (Int32.toNatClampNeg x2) 0) 33 (Int32.toNatClampNeg x1)))) P)))))) := by
  refine (wp_s (n := 59) (zcode_of mc_168 (r := (.aload_n 0, 0, 0, 0)) rfl) rfl rfl).trans ?_
  refine (wr_getA (n' := 62) rfl (t := 45) hR (zcode_of mc_168 (r := (.getfield 80, 12, 25, 0)) rfl) rfl rfl).trans ?_
  refine (wp_s (n := 63) (zcode_of mc_168 (r := (.iload_n 2, 0, 0, 0)) rfl) rfl rfl).trans ?_
  refine (wp_s (n := 64) (zcode_of mc_168 (r := (.aload_n 0, 0, 0, 0)) rfl) rfl rfl).trans ?_
  refine (wr_getI (n' := 67) rfl hR (zcode_of mc_168 (r := (.getfield 187, 12, 43, 0)) rfl) rfl).trans ?_
  refine (wr_st (n' := 68) rfl hR (zcode_of mc_168 (r := (.iastore, 0, 0, 0)) rfl) rfl rfl).trans (and_congr Iff.rfl ?_)
  refine (wp_s (n := 69) (zcode_of mc_168 (r := (.aload_n 0, 0, 0, 0)) rfl) rfl rfl).trans ?_
  refine (wr_getA (n' := 72) rfl (t := 46) hR (zcode_of mc_168 (r := (.getfield 83, 12, 26, 0)) rfl) rfl rfl).trans ?_
  refine (wp_s (n := 73) (zcode_of mc_168 (r := (.iload_n 2, 0, 0, 0)) rfl) rfl rfl).trans ?_
  refine (wp_bp (n' := 75) rfl (zcode_of mc_168 (r := (.bipush 16, 0, 0, 0)) rfl) cb_16).trans ?_
  refine (wr_st (n' := 76) rfl hR (zcode_of mc_168 (r := (.iastore, 0, 0, 0)) rfl) rfl rfl).trans (and_congr Iff.rfl ?_)
  refine (wp_s (n := 77) (zcode_of mc_168 (r := (.aload_n 0, 0, 0, 0)) rfl) rfl rfl).trans ?_
  refine (wr_getA (n' := 80) rfl (t := 47) hR (zcode_of mc_168 (r := (.getfield 86, 12, 27, 0)) rfl) rfl rfl).trans ?_
  refine (wp_s (n := 81) (zcode_of mc_168 (r := (.iload_n 2, 0, 0, 0)) rfl) rfl rfl).trans ?_
  refine (wp_s (n := 82) (zcode_of mc_168 (r := (.aload_n 0, 0, 0, 0)) rfl) rfl rfl).trans ?_
  refine (wr_getI (n' := 85) rfl hR (zcode_of mc_168 (r := (.getfield 228, 12, 49, 0)) rfl) rfl).trans ?_
  refine (wr_st (n' := 86) rfl hR (zcode_of mc_168 (r := (.iastore, 0, 0, 0)) rfl) rfl rfl).trans (and_congr Iff.rfl ?_)
  refine (wp_s (n := 87) (zcode_of mc_168 (r := (.aload_n 0, 0, 0, 0)) rfl) rfl rfl).trans ?_
  refine (wr_getA (n' := 90) rfl (t := 48) hR (zcode_of mc_168 (r := (.getfield 89, 12, 28, 0)) rfl) rfl rfl).trans ?_
  refine (wp_s (n := 91) (zcode_of mc_168 (r := (.iload_n 2, 0, 0, 0)) rfl) rfl rfl).trans ?_
  refine (wp_ic (n' := 92) rfl (zcode_of mc_168 (r := (.iconst 0, 0, 0, 0)) rfl) ci_0).trans ?_
  refine (wr_st (n' := 93) rfl hR (zcode_of mc_168 (r := (.iastore, 0, 0, 0)) rfl) rfl rfl).trans (and_congr Iff.rfl ?_)
  refine (wp_s (n := 94) (zcode_of mc_168 (r := (.aload_n 0, 0, 0, 0)) rfl) rfl rfl).trans ?_
  refine (wr_getA (n' := 97) rfl (t := 49) hR (zcode_of mc_168 (r := (.getfield 92, 12, 29, 0)) rfl) rfl rfl).trans ?_
  refine (wp_s (n := 98) (zcode_of mc_168 (r := (.iload_n 2, 0, 0, 0)) rfl) rfl rfl).trans ?_
  refine (wp_s (n := 99) (zcode_of mc_168 (r := (.aload_n 0, 0, 0, 0)) rfl) rfl rfl).trans ?_
  refine (wr_getA (n' := 102) rfl (t := 33) hR (zcode_of mc_168 (r := (.getfield 45, 12, 13, 0)) rfl) rfl rfl).trans ?_
  refine (wp_s (n := 103) (zcode_of mc_168 (r := (.iload_n 1, 0, 0, 0)) rfl) rfl rfl).trans ?_
  refine (wr_ld (n' := 104) rfl hR (zcode_of mc_168 (r := (.iaload, 0, 0, 0)) rfl) rfl rfl).trans (and_congr Iff.rfl ?_)
  refine (wr_st (n' := 105) rfl hR (zcode_of mc_168 (r := (.iastore, 0, 0, 0)) rfl) rfl rfl).trans (and_congr Iff.rfl ?_)
  refine (wp_ic (n' := 106) rfl (zcode_of mc_168 (r := (.iconst 0, 0, 0, 0)) rfl) ci_0).trans ?_
  refine (wp_s (n := 107) (zcode_of mc_168 (r := (.istore_n 3, 0, 0, 0)) rfl) rfl rfl).trans ?_
  exact Iff.rfl
set_option maxRecDepth 20000 in
theorem b168_107 {σ : zSt} {o : Nat} {sc : Nat → Int32} {ar : Nat → Nat → Int32} {P : Option Value → zSt → Prop} (hR : RShape σ o) {x1 x2 x3 : Int32} {u4 : Option Value} :
    wp 168 107 [some (.ref o), some (.int x1), some (.int x2), some (.int x3), u4] [] (rOv σ o sc ar) P ↔ (if 3 ≤ x3 then wp 168 212 [some (.ref o), some (.int x1), some (.int x2), some (.int x3), u4] [] (rOv σ o sc ar) P else wp 168 112 [some (.ref o), some (.int x1), some (.int x2), some (.int x3), u4] [] (rOv σ o sc ar) P) := by
  refine (wp_s (n := 108) (zcode_of mc_168 (r := (.iload_n 3, 0, 0, 0)) rfl) rfl rfl).trans ?_
  refine (wp_ic (n' := 109) rfl (zcode_of mc_168 (r := (.iconst 3, 0, 0, 0)) rfl) ci_3).trans ?_
  exact wp_jump (off := 103) (t := 212) (zcode_of mc_168 (r := (.if_icmp .ge 103, 0, 0, 0)) rfl) rfl rfl (by decide)
set_option maxRecDepth 20000 in
theorem b168_112 {σ : zSt} {o : Nat} {sc : Nat → Int32} {ar : Nat → Nat → Int32} {P : Option Value → zSt → Prop} (hR : RShape σ o) {x1 x2 x3 : Int32} {u4 : Option Value} :
    wp 168 112 [some (.ref o), some (.int x1), some (.int x2), some (.int x3), u4] [] (rOv σ o sc ar) P ↔ (zIn x3 (rlen 70) ∧ (zIn ((3 * x2) + x3) (rlen 50) ∧ wp 168 131 [some (.ref o), some (.int x1), some (.int x2), some (.int x3), some (.int 0)] [] (rOv σ o sc (upA ar 50 (Int32.toNatClampNeg ((3 * x2) + x3)) (ar 70 (Int32.toNatClampNeg x3)))) P)) := by
  refine (wp_s (n := 113) (zcode_of mc_168 (r := (.aload_n 0, 0, 0, 0)) rfl) rfl rfl).trans ?_
  refine (wr_getA (n' := 116) rfl (t := 50) hR (zcode_of mc_168 (r := (.getfield 95, 12, 30, 0)) rfl) rfl rfl).trans ?_
  refine (wp_ic (n' := 117) rfl (zcode_of mc_168 (r := (.iconst 3, 0, 0, 0)) rfl) ci_3).trans ?_
  refine (wp_s (n := 118) (zcode_of mc_168 (r := (.iload_n 2, 0, 0, 0)) rfl) rfl rfl).trans ?_
  refine (wp_s (n := 119) (zcode_of mc_168 (r := (.imul, 0, 0, 0)) rfl) rfl rfl).trans ?_
  refine (wp_s (n := 120) (zcode_of mc_168 (r := (.iload_n 3, 0, 0, 0)) rfl) rfl rfl).trans ?_
  refine (wp_s (n := 121) (zcode_of mc_168 (r := (.iadd, 0, 0, 0)) rfl) rfl rfl).trans ?_
  refine (wp_s (n := 122) (zcode_of mc_168 (r := (.aload_n 0, 0, 0, 0)) rfl) rfl rfl).trans ?_
  refine (wr_getA (n' := 125) rfl (t := 70) hR (zcode_of mc_168 (r := (.getfield 128, 12, 50, 0)) rfl) rfl rfl).trans ?_
  refine (wp_s (n := 126) (zcode_of mc_168 (r := (.iload_n 3, 0, 0, 0)) rfl) rfl rfl).trans ?_
  refine (wr_ld (n' := 127) rfl hR (zcode_of mc_168 (r := (.iaload, 0, 0, 0)) rfl) rfl rfl).trans (and_congr Iff.rfl ?_)
  refine (wr_st (n' := 128) rfl hR (zcode_of mc_168 (r := (.iastore, 0, 0, 0)) rfl) rfl rfl).trans (and_congr Iff.rfl ?_)
  refine (wp_ic (n' := 129) rfl (zcode_of mc_168 (r := (.iconst 0, 0, 0, 0)) rfl) ci_0).trans ?_
  refine (wp_s (n := 131) (zcode_of mc_168 (r := (.istore 4, 0, 0, 0)) rfl) rfl rfl).trans ?_
  exact Iff.rfl
set_option maxRecDepth 20000 in
theorem b168_131 {σ : zSt} {o : Nat} {sc : Nat → Int32} {ar : Nat → Nat → Int32} {P : Option Value → zSt → Prop} (hR : RShape σ o) {x1 x2 x3 x4 : Int32} :
    wp 168 131 [some (.ref o), some (.int x1), some (.int x2), some (.int x3), some (.int x4)] [] (rOv σ o sc ar) P ↔ (zIn x3 (rlen 70) ∧ (if (ar 70 (Int32.toNatClampNeg x3)) ≤ x4 then wp 168 178 [some (.ref o), some (.int x1), some (.int x2), some (.int x3), some (.int x4)] [] (rOv σ o sc ar) P else wp 168 142 [some (.ref o), some (.int x1), some (.int x2), some (.int x3), some (.int x4)] [] (rOv σ o sc ar) P)) := by
  refine (wp_s (n := 133) (zcode_of mc_168 (r := (.iload 4, 0, 0, 0)) rfl) rfl rfl).trans ?_
  refine (wp_s (n := 134) (zcode_of mc_168 (r := (.aload_n 0, 0, 0, 0)) rfl) rfl rfl).trans ?_
  refine (wr_getA (n' := 137) rfl (t := 70) hR (zcode_of mc_168 (r := (.getfield 128, 12, 50, 0)) rfl) rfl rfl).trans ?_
  refine (wp_s (n := 138) (zcode_of mc_168 (r := (.iload_n 3, 0, 0, 0)) rfl) rfl rfl).trans ?_
  refine (wr_ld (n' := 139) rfl hR (zcode_of mc_168 (r := (.iaload, 0, 0, 0)) rfl) rfl rfl).trans (and_congr Iff.rfl ?_)
  exact wp_jump (off := 39) (t := 178) (zcode_of mc_168 (r := (.if_icmp .ge 39, 0, 0, 0)) rfl) rfl rfl (by decide)
set_option maxRecDepth 20000 in
theorem b168_142 {σ : zSt} {o : Nat} {sc : Nat → Int32} {ar : Nat → Nat → Int32} {P : Option Value → zSt → Prop} (hR : RShape σ o) {x1 x2 x3 x4 : Int32} :
    wp 168 142 [some (.ref o), some (.int x1), some (.int x2), some (.int x3), some (.int x4)] [] (rOv σ o sc ar) P ↔ (zIn ((64 * x3) + x4) (rlen 71) ∧ (zIn (((192 * x2) + (64 * x3)) + x4) (rlen 51) ∧ wp 168 131 [some (.ref o), some (.int x1), some (.int x2), some (.int x3), some (.int (x4 + 1))] [] (rOv σ o sc (upA ar 51 (Int32.toNatClampNeg (((192 * x2) + (64 * x3)) + x4)) (ar 71 (Int32.toNatClampNeg ((64 * x3) + x4))))) P)) := by
  refine (wp_s (n := 143) (zcode_of mc_168 (r := (.aload_n 0, 0, 0, 0)) rfl) rfl rfl).trans ?_
  refine (wr_getA (n' := 146) rfl (t := 51) hR (zcode_of mc_168 (r := (.getfield 98, 12, 31, 0)) rfl) rfl rfl).trans ?_
  refine (wp_sp (n' := 149) rfl (zcode_of mc_168 (r := (.sipush 192, 0, 0, 0)) rfl) cs_192).trans ?_
  refine (wp_s (n := 150) (zcode_of mc_168 (r := (.iload_n 2, 0, 0, 0)) rfl) rfl rfl).trans ?_
  refine (wp_s (n := 151) (zcode_of mc_168 (r := (.imul, 0, 0, 0)) rfl) rfl rfl).trans ?_
  refine (wp_bp (n' := 153) rfl (zcode_of mc_168 (r := (.bipush 64, 0, 0, 0)) rfl) cb_64).trans ?_
  refine (wp_s (n := 154) (zcode_of mc_168 (r := (.iload_n 3, 0, 0, 0)) rfl) rfl rfl).trans ?_
  refine (wp_s (n := 155) (zcode_of mc_168 (r := (.imul, 0, 0, 0)) rfl) rfl rfl).trans ?_
  refine (wp_s (n := 156) (zcode_of mc_168 (r := (.iadd, 0, 0, 0)) rfl) rfl rfl).trans ?_
  refine (wp_s (n := 158) (zcode_of mc_168 (r := (.iload 4, 0, 0, 0)) rfl) rfl rfl).trans ?_
  refine (wp_s (n := 159) (zcode_of mc_168 (r := (.iadd, 0, 0, 0)) rfl) rfl rfl).trans ?_
  refine (wp_s (n := 160) (zcode_of mc_168 (r := (.aload_n 0, 0, 0, 0)) rfl) rfl rfl).trans ?_
  refine (wr_getA (n' := 163) rfl (t := 71) hR (zcode_of mc_168 (r := (.getfield 131, 12, 51, 0)) rfl) rfl rfl).trans ?_
  refine (wp_bp (n' := 165) rfl (zcode_of mc_168 (r := (.bipush 64, 0, 0, 0)) rfl) cb_64).trans ?_
  refine (wp_s (n := 166) (zcode_of mc_168 (r := (.iload_n 3, 0, 0, 0)) rfl) rfl rfl).trans ?_
  refine (wp_s (n := 167) (zcode_of mc_168 (r := (.imul, 0, 0, 0)) rfl) rfl rfl).trans ?_
  refine (wp_s (n := 169) (zcode_of mc_168 (r := (.iload 4, 0, 0, 0)) rfl) rfl rfl).trans ?_
  refine (wp_s (n := 170) (zcode_of mc_168 (r := (.iadd, 0, 0, 0)) rfl) rfl rfl).trans ?_
  refine (wr_ld (n' := 171) rfl hR (zcode_of mc_168 (r := (.iaload, 0, 0, 0)) rfl) rfl rfl).trans (and_congr Iff.rfl ?_)
  refine (wr_st (n' := 172) rfl hR (zcode_of mc_168 (r := (.iastore, 0, 0, 0)) rfl) rfl rfl).trans (and_congr Iff.rfl ?_)
  refine (wp_inc (n' := 175) rfl (zcode_of mc_168 (r := (.iinc 4 1, 0, 0, 0)) rfl) rfl rfl ci_1).trans ?_
  exact wp_goto (off := (-44)) (t := 131) (zcode_of mc_168 (r := (.goto (-44), 0, 0, 0)) rfl) (by decide)
set_option maxRecDepth 20000 in
theorem b168_178 {σ : zSt} {o : Nat} {sc : Nat → Int32} {ar : Nat → Nat → Int32} {P : Option Value → zSt → Prop} (hR : RShape σ o) {x1 x2 x3 x4 : Int32} :
    wp 168 178 [some (.ref o), some (.int x1), some (.int x2), some (.int x3), some (.int x4)] [] (rOv σ o sc ar) P ↔ (zIn x2 (rlen 46) ∧ (zIn x3 (rlen 70) ∧ (if (ar 70 (Int32.toNatClampNeg x3)) ≤ 0 then wp 168 203 [some (.ref o), some (.int x1), some (.int x2), some (.int x3), some (.int x4)] [.int (ar 46 (Int32.toNatClampNeg x2)), .int x2, .ref (rad o 46)] (rOv σ o sc ar) P else wp 168 194 [some (.ref o), some (.int x1), some (.int x2), some (.int x3), some (.int x4)] [.int (ar 46 (Int32.toNatClampNeg x2)), .int x2, .ref (rad o 46)] (rOv σ o sc ar) P))) := by
  refine (wp_s (n := 179) (zcode_of mc_168 (r := (.aload_n 0, 0, 0, 0)) rfl) rfl rfl).trans ?_
  refine (wr_getA (n' := 182) rfl (t := 46) hR (zcode_of mc_168 (r := (.getfield 83, 12, 26, 0)) rfl) rfl rfl).trans ?_
  refine (wp_s (n := 183) (zcode_of mc_168 (r := (.iload_n 2, 0, 0, 0)) rfl) rfl rfl).trans ?_
  refine (wp_s (n := 184) (zcode_of mc_168 (r := (.dup2, 0, 0, 0)) rfl) rfl rfl).trans ?_
  refine (wr_ld (n' := 185) rfl hR (zcode_of mc_168 (r := (.iaload, 0, 0, 0)) rfl) rfl rfl).trans (and_congr Iff.rfl ?_)
  refine (wp_s (n := 186) (zcode_of mc_168 (r := (.aload_n 0, 0, 0, 0)) rfl) rfl rfl).trans ?_
  refine (wr_getA (n' := 189) rfl (t := 70) hR (zcode_of mc_168 (r := (.getfield 128, 12, 50, 0)) rfl) rfl rfl).trans ?_
  refine (wp_s (n := 190) (zcode_of mc_168 (r := (.iload_n 3, 0, 0, 0)) rfl) rfl rfl).trans ?_
  refine (wr_ld (n' := 191) rfl hR (zcode_of mc_168 (r := (.iaload, 0, 0, 0)) rfl) rfl rfl).trans (and_congr Iff.rfl ?_)
  exact wp_jump (off := 12) (t := 203) (zcode_of mc_168 (r := (.ifCond .le 12, 0, 0, 0)) rfl) rfl rfl (by decide)
set_option maxRecDepth 20000 in
theorem b168_194 {σ : zSt} {o : Nat} {sc : Nat → Int32} {ar : Nat → Nat → Int32} {P : Option Value → zSt → Prop} (hR : RShape σ o) {x1 x2 x3 x4 s0 s1 : Int32} :
    wp 168 194 [some (.ref o), some (.int x1), some (.int x2), some (.int x3), some (.int x4)] [.int s0, .int s1, .ref (rad o 46)] (rOv σ o sc ar) P ↔ (zIn x3 (rlen 70) ∧ wp 168 204 [some (.ref o), some (.int x1), some (.int x2), some (.int x3), some (.int x4)] [.int (ar 70 (Int32.toNatClampNeg x3)), .int s0, .int s1, .ref (rad o 46)] (rOv σ o sc ar) P) := by
  refine (wp_s (n := 195) (zcode_of mc_168 (r := (.aload_n 0, 0, 0, 0)) rfl) rfl rfl).trans ?_
  refine (wr_getA (n' := 198) rfl (t := 70) hR (zcode_of mc_168 (r := (.getfield 128, 12, 50, 0)) rfl) rfl rfl).trans ?_
  refine (wp_s (n := 199) (zcode_of mc_168 (r := (.iload_n 3, 0, 0, 0)) rfl) rfl rfl).trans ?_
  refine (wr_ld (n' := 200) rfl hR (zcode_of mc_168 (r := (.iaload, 0, 0, 0)) rfl) rfl rfl).trans (and_congr Iff.rfl ?_)
  exact wp_goto (off := 4) (t := 204) (zcode_of mc_168 (r := (.goto 4, 0, 0, 0)) rfl) (by decide)
set_option maxRecDepth 20000 in
theorem b168_203 {σ : zSt} {o : Nat} {sc : Nat → Int32} {ar : Nat → Nat → Int32} {P : Option Value → zSt → Prop} (hR : RShape σ o) {x1 x2 x3 x4 s0 s1 : Int32} :
    wp 168 203 [some (.ref o), some (.int x1), some (.int x2), some (.int x3), some (.int x4)] [.int s0, .int s1, .ref (rad o 46)] (rOv σ o sc ar) P ↔ wp 168 204 [some (.ref o), some (.int x1), some (.int x2), some (.int x3), some (.int x4)] [.int 0, .int s0, .int s1, .ref (rad o 46)] (rOv σ o sc ar) P := by
  refine (wp_ic (n' := 204) rfl (zcode_of mc_168 (r := (.iconst 0, 0, 0, 0)) rfl) ci_0).trans ?_
  exact Iff.rfl
set_option maxRecDepth 20000 in
theorem b168_204 {σ : zSt} {o : Nat} {sc : Nat → Int32} {ar : Nat → Nat → Int32} {P : Option Value → zSt → Prop} (hR : RShape σ o) {x1 x2 x3 x4 s0 s1 s2 : Int32} :
    wp 168 204 [some (.ref o), some (.int x1), some (.int x2), some (.int x3), some (.int x4)] [.int s0, .int s1, .int s2, .ref (rad o 46)] (rOv σ o sc ar) P ↔ (zIn s2 (rlen 46) ∧ wp 168 107 [some (.ref o), some (.int x1), some (.int x2), some (.int (x3 + 1)), some (.int x4)] [] (rOv σ o sc (upA ar 46 (Int32.toNatClampNeg s2) (s1 + s0))) P) := by
  refine (wp_s (n := 205) (zcode_of mc_168 (r := (.iadd, 0, 0, 0)) rfl) rfl rfl).trans ?_
  refine (wr_st (n' := 206) rfl hR (zcode_of mc_168 (r := (.iastore, 0, 0, 0)) rfl) rfl rfl).trans (and_congr Iff.rfl ?_)
  refine (wp_inc (n' := 209) rfl (zcode_of mc_168 (r := (.iinc 3 1, 0, 0, 0)) rfl) rfl rfl ci_1).trans ?_
  exact wp_goto (off := (-102)) (t := 107) (zcode_of mc_168 (r := (.goto (-102), 0, 0, 0)) rfl) (by decide)
set_option maxRecDepth 20000 in
theorem b168_212 {σ : zSt} {o : Nat} {sc : Nat → Int32} {ar : Nat → Nat → Int32} {P : Option Value → zSt → Prop} (hR : RShape σ o) {x1 x2 x3 : Int32} {u4 : Option Value} :
    wp 168 212 [some (.ref o), some (.int x1), some (.int x2), some (.int x3), u4] [] (rOv σ o sc ar) P ↔ (zIn (sc 21) (rlen 42) ∧ wpM 166 [.ref o, .int ((upS sc 21 ((sc 21) + 1)) 20)] (rOv σ o (upS sc 21 ((sc 21) + 1)) (upA ar 42 (Int32.toNatClampNeg (sc 21)) x2)) (fun r τ => wp 168 240 [some (.ref o), some (.int x1), some (.int x2), some (.int x3), u4] (r.toList ++ []) τ P)) := by
  refine (wp_s (n := 213) (zcode_of mc_168 (r := (.aload_n 0, 0, 0, 0)) rfl) rfl rfl).trans ?_
  refine (wr_getA (n' := 216) rfl (t := 42) hR (zcode_of mc_168 (r := (.getfield 70, 12, 22, 0)) rfl) rfl rfl).trans ?_
  refine (wp_s (n := 217) (zcode_of mc_168 (r := (.aload_n 0, 0, 0, 0)) rfl) rfl rfl).trans ?_
  refine (wr_getI (n' := 220) rfl hR (zcode_of mc_168 (r := (.getfield 268, 12, 21, 0)) rfl) rfl).trans ?_
  refine (wp_s (n := 221) (zcode_of mc_168 (r := (.iload_n 2, 0, 0, 0)) rfl) rfl rfl).trans ?_
  refine (wr_st (n' := 222) rfl hR (zcode_of mc_168 (r := (.iastore, 0, 0, 0)) rfl) rfl rfl).trans (and_congr Iff.rfl ?_)
  refine (wp_s (n := 223) (zcode_of mc_168 (r := (.aload_n 0, 0, 0, 0)) rfl) rfl rfl).trans ?_
  refine (wp_s (n := 224) (zcode_of mc_168 (r := (.dup, 0, 0, 0)) rfl) rfl rfl).trans ?_
  refine (wr_getI (n' := 227) rfl hR (zcode_of mc_168 (r := (.getfield 268, 12, 21, 0)) rfl) rfl).trans ?_
  refine (wp_ic (n' := 228) rfl (zcode_of mc_168 (r := (.iconst 1, 0, 0, 0)) rfl) ci_1).trans ?_
  refine (wp_s (n := 229) (zcode_of mc_168 (r := (.iadd, 0, 0, 0)) rfl) rfl rfl).trans ?_
  refine (wr_put (n' := 232) rfl hR (zcode_of mc_168 (r := (.putfield 268, 12, 21, 0)) rfl) rfl).trans ?_
  refine (wp_s (n := 233) (zcode_of mc_168 (r := (.aload_n 0, 0, 0, 0)) rfl) rfl rfl).trans ?_
  refine (wp_s (n := 234) (zcode_of mc_168 (r := (.aload_n 0, 0, 0, 0)) rfl) rfl rfl).trans ?_
  refine (wr_getI (n' := 237) rfl hR (zcode_of mc_168 (r := (.getfield 67, 12, 20, 0)) rfl) rfl).trans ?_
  exact wp_call (q := ([.ref o, .int ((upS sc 21 ((sc 21) + 1)) 20)], [])) (zcode_of mc_168 (r := (.invokevirtual 280, 166, 0, 1)) rfl) rfl (zCa_V (Nat.le_of_ble_eq_true rfl) rfl hR.tg) ⟨Nat.le_of_ble_eq_true rfl, Nat.le_of_ble_eq_true rfl⟩
set_option maxRecDepth 20000 in
theorem b168_240 {σ : zSt} {o : Nat} {sc : Nat → Int32} {ar : Nat → Nat → Int32} {P : Option Value → zSt → Prop} (hR : RShape σ o) {x1 x2 x3 s0 : Int32} {u4 : Option Value} :
    wp 168 240 [some (.ref o), some (.int x1), some (.int x2), some (.int x3), u4] [.int s0] (rOv σ o sc ar) P ↔ P none (rOv σ o sc ar) := by
  refine (wp_s (n := 241) (zcode_of mc_168 (r := (.pop, 0, 0, 0)) rfl) rfl rfl).trans ?_
  exact wp_retV (zcode_of mc_168 (r := (.return_, 0, 0, 0)) rfl) rfl
theorem mc_169 : mCode 169 = zc_169 := rfl
theorem b169 {σ : zSt} {o : Nat} {sc : Nat → Int32} {ar : Nat → Nat → Int32} {P : Option Value → zSt → Prop} (hR : RShape σ o) {x1 : Int32} :
    wpM 169 [.ref o, .int x1] (rOv σ o sc ar) P ↔ (zIn x1 (rlen 42) ∧ wpM 165 [.ref o, .int x1] (rOv σ o sc ar) (fun r τ => wp 169 12 [some (.ref o), some (.int x1), some (.int (ar 42 (Int32.toNatClampNeg x1))), none, none] (r.toList ++ []) τ P)) := by
  show wp 169 0 [some (.ref o), some (.int x1), none, none, none] [] (rOv σ o sc ar) P ↔ _
  refine (wp_s (n := 1) (zcode_of mc_169 (r := (.aload_n 0, 0, 0, 0)) rfl) rfl rfl).trans ?_
  refine (wr_getA (n' := 4) rfl (t := 42) hR (zcode_of mc_169 (r := (.getfield 70, 12, 22, 0)) rfl) rfl rfl).trans ?_
  refine (wp_s (n := 5) (zcode_of mc_169 (r := (.iload_n 1, 0, 0, 0)) rfl) rfl rfl).trans ?_
  refine (wr_ld (n' := 6) rfl hR (zcode_of mc_169 (r := (.iaload, 0, 0, 0)) rfl) rfl rfl).trans (and_congr Iff.rfl ?_)
  refine (wp_s (n := 7) (zcode_of mc_169 (r := (.istore_n 2, 0, 0, 0)) rfl) rfl rfl).trans ?_
  refine (wp_s (n := 8) (zcode_of mc_169 (r := (.aload_n 0, 0, 0, 0)) rfl) rfl rfl).trans ?_
  refine (wp_s (n := 9) (zcode_of mc_169 (r := (.iload_n 1, 0, 0, 0)) rfl) rfl rfl).trans ?_
  exact wp_call (q := ([.ref o, .int x1], [])) (zcode_of mc_169 (r := (.invokevirtual 274, 165, 0, 1)) rfl) rfl (zCa_V (Nat.le_of_ble_eq_true rfl) rfl hR.tg) ⟨Nat.le_of_ble_eq_true rfl, Nat.le_of_ble_eq_true rfl⟩
theorem b169_12 {σ : zSt} {o : Nat} {sc : Nat → Int32} {ar : Nat → Nat → Int32} {P : Option Value → zSt → Prop} (hR : RShape σ o) {x1 x2 : Int32} {u3 u4 : Option Value} :
    wp 169 12 [some (.ref o), some (.int x1), some (.int x2), u3, u4] [] (rOv σ o sc ar) P ↔ (zIn (sc 21) (rlen 42) ∧ (zIn x2 (rlen 48) ∧ (zIn x2 (rlen 48) ∧ (zIn x2 (rlen 47) ∧ wp 169 54 [some (.ref o), some (.int x1), some (.int x2), some (.int 0), u4] [] (rOv σ o (upS (upS sc 21 ((sc 21) + 1)) 49 ((upA (upA ar 42 (Int32.toNatClampNeg (sc 21)) x2) 48 (Int32.toNatClampNeg x2) (((upA ar 42 (Int32.toNatClampNeg (sc 21)) x2) 48 (Int32.toNatClampNeg x2)) + 1)) 47 (Int32.toNatClampNeg x2))) (upA (upA ar 42 (Int32.toNatClampNeg (sc 21)) x2) 48 (Int32.toNatClampNeg x2) (((upA ar 42 (Int32.toNatClampNeg (sc 21)) x2) 48 (Int32.toNatClampNeg x2)) + 1))) P)))) := by
  refine (wp_s (n := 13) (zcode_of mc_169 (r := (.aload_n 0, 0, 0, 0)) rfl) rfl rfl).trans ?_
  refine (wr_getA (n' := 16) rfl (t := 42) hR (zcode_of mc_169 (r := (.getfield 70, 12, 22, 0)) rfl) rfl rfl).trans ?_
  refine (wp_s (n := 17) (zcode_of mc_169 (r := (.aload_n 0, 0, 0, 0)) rfl) rfl rfl).trans ?_
  refine (wr_getI (n' := 20) rfl hR (zcode_of mc_169 (r := (.getfield 268, 12, 21, 0)) rfl) rfl).trans ?_
  refine (wp_s (n := 21) (zcode_of mc_169 (r := (.iload_n 2, 0, 0, 0)) rfl) rfl rfl).trans ?_
  refine (wr_st (n' := 22) rfl hR (zcode_of mc_169 (r := (.iastore, 0, 0, 0)) rfl) rfl rfl).trans (and_congr Iff.rfl ?_)
  refine (wp_s (n := 23) (zcode_of mc_169 (r := (.aload_n 0, 0, 0, 0)) rfl) rfl rfl).trans ?_
  refine (wp_s (n := 24) (zcode_of mc_169 (r := (.dup, 0, 0, 0)) rfl) rfl rfl).trans ?_
  refine (wr_getI (n' := 27) rfl hR (zcode_of mc_169 (r := (.getfield 268, 12, 21, 0)) rfl) rfl).trans ?_
  refine (wp_ic (n' := 28) rfl (zcode_of mc_169 (r := (.iconst 1, 0, 0, 0)) rfl) ci_1).trans ?_
  refine (wp_s (n := 29) (zcode_of mc_169 (r := (.iadd, 0, 0, 0)) rfl) rfl rfl).trans ?_
  refine (wr_put (n' := 32) rfl hR (zcode_of mc_169 (r := (.putfield 268, 12, 21, 0)) rfl) rfl).trans ?_
  refine (wp_s (n := 33) (zcode_of mc_169 (r := (.aload_n 0, 0, 0, 0)) rfl) rfl rfl).trans ?_
  refine (wr_getA (n' := 36) rfl (t := 48) hR (zcode_of mc_169 (r := (.getfield 89, 12, 28, 0)) rfl) rfl rfl).trans ?_
  refine (wp_s (n := 37) (zcode_of mc_169 (r := (.iload_n 2, 0, 0, 0)) rfl) rfl rfl).trans ?_
  refine (wp_s (n := 38) (zcode_of mc_169 (r := (.dup2, 0, 0, 0)) rfl) rfl rfl).trans ?_
  refine (wr_ld (n' := 39) rfl hR (zcode_of mc_169 (r := (.iaload, 0, 0, 0)) rfl) rfl rfl).trans (and_congr Iff.rfl ?_)
  refine (wp_ic (n' := 40) rfl (zcode_of mc_169 (r := (.iconst 1, 0, 0, 0)) rfl) ci_1).trans ?_
  refine (wp_s (n := 41) (zcode_of mc_169 (r := (.iadd, 0, 0, 0)) rfl) rfl rfl).trans ?_
  refine (wr_st (n' := 42) rfl hR (zcode_of mc_169 (r := (.iastore, 0, 0, 0)) rfl) rfl rfl).trans (and_congr Iff.rfl ?_)
  refine (wp_s (n := 43) (zcode_of mc_169 (r := (.aload_n 0, 0, 0, 0)) rfl) rfl rfl).trans ?_
  refine (wp_s (n := 44) (zcode_of mc_169 (r := (.aload_n 0, 0, 0, 0)) rfl) rfl rfl).trans ?_
  refine (wr_getA (n' := 47) rfl (t := 47) hR (zcode_of mc_169 (r := (.getfield 86, 12, 27, 0)) rfl) rfl rfl).trans ?_
  refine (wp_s (n := 48) (zcode_of mc_169 (r := (.iload_n 2, 0, 0, 0)) rfl) rfl rfl).trans ?_
  refine (wr_ld (n' := 49) rfl hR (zcode_of mc_169 (r := (.iaload, 0, 0, 0)) rfl) rfl rfl).trans (and_congr Iff.rfl ?_)
  refine (wr_put (n' := 52) rfl hR (zcode_of mc_169 (r := (.putfield 228, 12, 49, 0)) rfl) rfl).trans ?_
  refine (wp_ic (n' := 53) rfl (zcode_of mc_169 (r := (.iconst 0, 0, 0, 0)) rfl) ci_0).trans ?_
  refine (wp_s (n := 54) (zcode_of mc_169 (r := (.istore_n 3, 0, 0, 0)) rfl) rfl rfl).trans ?_
  exact Iff.rfl
theorem b169_54 {σ : zSt} {o : Nat} {sc : Nat → Int32} {ar : Nat → Nat → Int32} {P : Option Value → zSt → Prop} (hR : RShape σ o) {x1 x2 x3 : Int32} {u4 : Option Value} :
    wp 169 54 [some (.ref o), some (.int x1), some (.int x2), some (.int x3), u4] [] (rOv σ o sc ar) P ↔ (if 3 ≤ x3 then wp 169 131 [some (.ref o), some (.int x1), some (.int x2), some (.int x3), u4] [] (rOv σ o sc ar) P else wp 169 59 [some (.ref o), some (.int x1), some (.int x2), some (.int x3), u4] [] (rOv σ o sc ar) P) := by
  refine (wp_s (n := 55) (zcode_of mc_169 (r := (.iload_n 3, 0, 0, 0)) rfl) rfl rfl).trans ?_
  refine (wp_ic (n' := 56) rfl (zcode_of mc_169 (r := (.iconst 3, 0, 0, 0)) rfl) ci_3).trans ?_
  exact wp_jump (off := 75) (t := 131) (zcode_of mc_169 (r := (.if_icmp .ge 75, 0, 0, 0)) rfl) rfl rfl (by decide)
theorem b169_59 {σ : zSt} {o : Nat} {sc : Nat → Int32} {ar : Nat → Nat → Int32} {P : Option Value → zSt → Prop} (hR : RShape σ o) {x1 x2 x3 : Int32} {u4 : Option Value} :
    wp 169 59 [some (.ref o), some (.int x1), some (.int x2), some (.int x3), u4] [] (rOv σ o sc ar) P ↔ (zIn ((3 * x2) + x3) (rlen 50) ∧ (zIn x3 (rlen 70) ∧ wp 169 78 [some (.ref o), some (.int x1), some (.int x2), some (.int x3), some (.int 0)] [] (rOv σ o sc (upA ar 70 (Int32.toNatClampNeg x3) (ar 50 (Int32.toNatClampNeg ((3 * x2) + x3))))) P)) := by
  refine (wp_s (n := 60) (zcode_of mc_169 (r := (.aload_n 0, 0, 0, 0)) rfl) rfl rfl).trans ?_
  refine (wr_getA (n' := 63) rfl (t := 70) hR (zcode_of mc_169 (r := (.getfield 128, 12, 50, 0)) rfl) rfl rfl).trans ?_
  refine (wp_s (n := 64) (zcode_of mc_169 (r := (.iload_n 3, 0, 0, 0)) rfl) rfl rfl).trans ?_
  refine (wp_s (n := 65) (zcode_of mc_169 (r := (.aload_n 0, 0, 0, 0)) rfl) rfl rfl).trans ?_
  refine (wr_getA (n' := 68) rfl (t := 50) hR (zcode_of mc_169 (r := (.getfield 95, 12, 30, 0)) rfl) rfl rfl).trans ?_
  refine (wp_ic (n' := 69) rfl (zcode_of mc_169 (r := (.iconst 3, 0, 0, 0)) rfl) ci_3).trans ?_
  refine (wp_s (n := 70) (zcode_of mc_169 (r := (.iload_n 2, 0, 0, 0)) rfl) rfl rfl).trans ?_
  refine (wp_s (n := 71) (zcode_of mc_169 (r := (.imul, 0, 0, 0)) rfl) rfl rfl).trans ?_
  refine (wp_s (n := 72) (zcode_of mc_169 (r := (.iload_n 3, 0, 0, 0)) rfl) rfl rfl).trans ?_
  refine (wp_s (n := 73) (zcode_of mc_169 (r := (.iadd, 0, 0, 0)) rfl) rfl rfl).trans ?_
  refine (wr_ld (n' := 74) rfl hR (zcode_of mc_169 (r := (.iaload, 0, 0, 0)) rfl) rfl rfl).trans (and_congr Iff.rfl ?_)
  refine (wr_st (n' := 75) rfl hR (zcode_of mc_169 (r := (.iastore, 0, 0, 0)) rfl) rfl rfl).trans (and_congr Iff.rfl ?_)
  refine (wp_ic (n' := 76) rfl (zcode_of mc_169 (r := (.iconst 0, 0, 0, 0)) rfl) ci_0).trans ?_
  refine (wp_s (n := 78) (zcode_of mc_169 (r := (.istore 4, 0, 0, 0)) rfl) rfl rfl).trans ?_
  exact Iff.rfl
theorem b169_78 {σ : zSt} {o : Nat} {sc : Nat → Int32} {ar : Nat → Nat → Int32} {P : Option Value → zSt → Prop} (hR : RShape σ o) {x1 x2 x3 x4 : Int32} :
    wp 169 78 [some (.ref o), some (.int x1), some (.int x2), some (.int x3), some (.int x4)] [] (rOv σ o sc ar) P ↔ (zIn x3 (rlen 70) ∧ (if (ar 70 (Int32.toNatClampNeg x3)) ≤ x4 then wp 169 125 [some (.ref o), some (.int x1), some (.int x2), some (.int x3), some (.int x4)] [] (rOv σ o sc ar) P else wp 169 89 [some (.ref o), some (.int x1), some (.int x2), some (.int x3), some (.int x4)] [] (rOv σ o sc ar) P)) := by
  refine (wp_s (n := 80) (zcode_of mc_169 (r := (.iload 4, 0, 0, 0)) rfl) rfl rfl).trans ?_
  refine (wp_s (n := 81) (zcode_of mc_169 (r := (.aload_n 0, 0, 0, 0)) rfl) rfl rfl).trans ?_
  refine (wr_getA (n' := 84) rfl (t := 70) hR (zcode_of mc_169 (r := (.getfield 128, 12, 50, 0)) rfl) rfl rfl).trans ?_
  refine (wp_s (n := 85) (zcode_of mc_169 (r := (.iload_n 3, 0, 0, 0)) rfl) rfl rfl).trans ?_
  refine (wr_ld (n' := 86) rfl hR (zcode_of mc_169 (r := (.iaload, 0, 0, 0)) rfl) rfl rfl).trans (and_congr Iff.rfl ?_)
  exact wp_jump (off := 39) (t := 125) (zcode_of mc_169 (r := (.if_icmp .ge 39, 0, 0, 0)) rfl) rfl rfl (by decide)
theorem b169_89 {σ : zSt} {o : Nat} {sc : Nat → Int32} {ar : Nat → Nat → Int32} {P : Option Value → zSt → Prop} (hR : RShape σ o) {x1 x2 x3 x4 : Int32} :
    wp 169 89 [some (.ref o), some (.int x1), some (.int x2), some (.int x3), some (.int x4)] [] (rOv σ o sc ar) P ↔ (zIn (((192 * x2) + (64 * x3)) + x4) (rlen 51) ∧ (zIn ((64 * x3) + x4) (rlen 71) ∧ wp 169 78 [some (.ref o), some (.int x1), some (.int x2), some (.int x3), some (.int (x4 + 1))] [] (rOv σ o sc (upA ar 71 (Int32.toNatClampNeg ((64 * x3) + x4)) (ar 51 (Int32.toNatClampNeg (((192 * x2) + (64 * x3)) + x4))))) P)) := by
  refine (wp_s (n := 90) (zcode_of mc_169 (r := (.aload_n 0, 0, 0, 0)) rfl) rfl rfl).trans ?_
  refine (wr_getA (n' := 93) rfl (t := 71) hR (zcode_of mc_169 (r := (.getfield 131, 12, 51, 0)) rfl) rfl rfl).trans ?_
  refine (wp_bp (n' := 95) rfl (zcode_of mc_169 (r := (.bipush 64, 0, 0, 0)) rfl) cb_64).trans ?_
  refine (wp_s (n := 96) (zcode_of mc_169 (r := (.iload_n 3, 0, 0, 0)) rfl) rfl rfl).trans ?_
  refine (wp_s (n := 97) (zcode_of mc_169 (r := (.imul, 0, 0, 0)) rfl) rfl rfl).trans ?_
  refine (wp_s (n := 99) (zcode_of mc_169 (r := (.iload 4, 0, 0, 0)) rfl) rfl rfl).trans ?_
  refine (wp_s (n := 100) (zcode_of mc_169 (r := (.iadd, 0, 0, 0)) rfl) rfl rfl).trans ?_
  refine (wp_s (n := 101) (zcode_of mc_169 (r := (.aload_n 0, 0, 0, 0)) rfl) rfl rfl).trans ?_
  refine (wr_getA (n' := 104) rfl (t := 51) hR (zcode_of mc_169 (r := (.getfield 98, 12, 31, 0)) rfl) rfl rfl).trans ?_
  refine (wp_sp (n' := 107) rfl (zcode_of mc_169 (r := (.sipush 192, 0, 0, 0)) rfl) cs_192).trans ?_
  refine (wp_s (n := 108) (zcode_of mc_169 (r := (.iload_n 2, 0, 0, 0)) rfl) rfl rfl).trans ?_
  refine (wp_s (n := 109) (zcode_of mc_169 (r := (.imul, 0, 0, 0)) rfl) rfl rfl).trans ?_
  refine (wp_bp (n' := 111) rfl (zcode_of mc_169 (r := (.bipush 64, 0, 0, 0)) rfl) cb_64).trans ?_
  refine (wp_s (n := 112) (zcode_of mc_169 (r := (.iload_n 3, 0, 0, 0)) rfl) rfl rfl).trans ?_
  refine (wp_s (n := 113) (zcode_of mc_169 (r := (.imul, 0, 0, 0)) rfl) rfl rfl).trans ?_
  refine (wp_s (n := 114) (zcode_of mc_169 (r := (.iadd, 0, 0, 0)) rfl) rfl rfl).trans ?_
  refine (wp_s (n := 116) (zcode_of mc_169 (r := (.iload 4, 0, 0, 0)) rfl) rfl rfl).trans ?_
  refine (wp_s (n := 117) (zcode_of mc_169 (r := (.iadd, 0, 0, 0)) rfl) rfl rfl).trans ?_
  refine (wr_ld (n' := 118) rfl hR (zcode_of mc_169 (r := (.iaload, 0, 0, 0)) rfl) rfl rfl).trans (and_congr Iff.rfl ?_)
  refine (wr_st (n' := 119) rfl hR (zcode_of mc_169 (r := (.iastore, 0, 0, 0)) rfl) rfl rfl).trans (and_congr Iff.rfl ?_)
  refine (wp_inc (n' := 122) rfl (zcode_of mc_169 (r := (.iinc 4 1, 0, 0, 0)) rfl) rfl rfl ci_1).trans ?_
  exact wp_goto (off := (-44)) (t := 78) (zcode_of mc_169 (r := (.goto (-44), 0, 0, 0)) rfl) (by decide)
theorem b169_125 {σ : zSt} {o : Nat} {sc : Nat → Int32} {ar : Nat → Nat → Int32} {P : Option Value → zSt → Prop} (hR : RShape σ o) {x1 x2 x3 x4 : Int32} :
    wp 169 125 [some (.ref o), some (.int x1), some (.int x2), some (.int x3), some (.int x4)] [] (rOv σ o sc ar) P ↔ wp 169 54 [some (.ref o), some (.int x1), some (.int x2), some (.int (x3 + 1)), some (.int x4)] [] (rOv σ o sc ar) P := by
  refine (wp_inc (n' := 128) rfl (zcode_of mc_169 (r := (.iinc 3 1, 0, 0, 0)) rfl) rfl rfl ci_1).trans ?_
  exact wp_goto (off := (-74)) (t := 54) (zcode_of mc_169 (r := (.goto (-74), 0, 0, 0)) rfl) (by decide)
theorem b169_131 {σ : zSt} {o : Nat} {sc : Nat → Int32} {ar : Nat → Nat → Int32} {P : Option Value → zSt → Prop} (hR : RShape σ o) {x1 x2 x3 : Int32} {u4 : Option Value} :
    wp 169 131 [some (.ref o), some (.int x1), some (.int x2), some (.int x3), u4] [] (rOv σ o sc ar) P ↔ P none (rOv σ o sc ar) := by
  exact wp_retV (zcode_of mc_169 (r := (.return_, 0, 0, 0)) rfl) rfl
theorem mc_170 : mCode 170 = zc_170 := rfl
theorem b170 {σ : zSt} {o : Nat} {sc : Nat → Int32} {ar : Nat → Nat → Int32} {P : Option Value → zSt → Prop} (hR : RShape σ o) {x1 : Int32} :
    wpM 170 [.ref o, .int x1] (rOv σ o sc ar) P ↔ wp 170 2 [some (.ref o), some (.int x1), some (.int 0), none, none] [] (rOv σ o sc ar) P := by
  show wp 170 0 [some (.ref o), some (.int x1), none, none, none] [] (rOv σ o sc ar) P ↔ _
  refine (wp_ic (n' := 1) rfl (zcode_of mc_170 (r := (.iconst 0, 0, 0, 0)) rfl) ci_0).trans ?_
  refine (wp_s (n := 2) (zcode_of mc_170 (r := (.istore_n 2, 0, 0, 0)) rfl) rfl rfl).trans ?_
  exact Iff.rfl
theorem b170_2 {σ : zSt} {o : Nat} {sc : Nat → Int32} {ar : Nat → Nat → Int32} {P : Option Value → zSt → Prop} (hR : RShape σ o) {x1 x2 : Int32} {u3 u4 : Option Value} :
    wp 170 2 [some (.ref o), some (.int x1), some (.int x2), u3, u4] [] (rOv σ o sc ar) P ↔ (if (sc 9) ≤ x2 then wp 170 39 [some (.ref o), some (.int x1), some (.int x2), u3, u4] [] (rOv σ o sc ar) P else wp 170 10 [some (.ref o), some (.int x1), some (.int x2), u3, u4] [] (rOv σ o sc ar) P) := by
  refine (wp_s (n := 3) (zcode_of mc_170 (r := (.iload_n 2, 0, 0, 0)) rfl) rfl rfl).trans ?_
  refine (wp_s (n := 4) (zcode_of mc_170 (r := (.aload_n 0, 0, 0, 0)) rfl) rfl rfl).trans ?_
  refine (wr_getI (n' := 7) rfl hR (zcode_of mc_170 (r := (.getfield 144, 12, 9, 0)) rfl) rfl).trans ?_
  exact wp_jump (off := 32) (t := 39) (zcode_of mc_170 (r := (.if_icmp .ge 32, 0, 0, 0)) rfl) rfl rfl (by decide)
theorem b170_10 {σ : zSt} {o : Nat} {sc : Nat → Int32} {ar : Nat → Nat → Int32} {P : Option Value → zSt → Prop} (hR : RShape σ o) {x1 x2 : Int32} {u3 u4 : Option Value} :
    wp 170 10 [some (.ref o), some (.int x1), some (.int x2), u3, u4] [] (rOv σ o sc ar) P ↔ (if ¬ x1 = (-1) then wp 170 24 [some (.ref o), some (.int x1), some (.int x2), u3, u4] [.int x2, .ref (rad o 72)] (rOv σ o sc ar) P else wp 170 20 [some (.ref o), some (.int x1), some (.int x2), u3, u4] [.int x2, .ref (rad o 72)] (rOv σ o sc ar) P) := by
  refine (wp_s (n := 11) (zcode_of mc_170 (r := (.aload_n 0, 0, 0, 0)) rfl) rfl rfl).trans ?_
  refine (wr_getA (n' := 14) rfl (t := 72) hR (zcode_of mc_170 (r := (.getfield 134, 12, 52, 0)) rfl) rfl rfl).trans ?_
  refine (wp_s (n := 15) (zcode_of mc_170 (r := (.iload_n 2, 0, 0, 0)) rfl) rfl rfl).trans ?_
  refine (wp_s (n := 16) (zcode_of mc_170 (r := (.iload_n 1, 0, 0, 0)) rfl) rfl rfl).trans ?_
  refine (wp_ic (n' := 17) rfl (zcode_of mc_170 (r := (.iconst (-1), 0, 0, 0)) rfl) ci_m1).trans ?_
  exact wp_jump (off := 7) (t := 24) (zcode_of mc_170 (r := (.if_icmp .ne 7, 0, 0, 0)) rfl) rfl rfl (by decide)
theorem b170_20 {σ : zSt} {o : Nat} {sc : Nat → Int32} {ar : Nat → Nat → Int32} {P : Option Value → zSt → Prop} (hR : RShape σ o) {x1 x2 s0 : Int32} {u3 u4 : Option Value} :
    wp 170 20 [some (.ref o), some (.int x1), some (.int x2), u3, u4] [.int s0, .ref (rad o 72)] (rOv σ o sc ar) P ↔ wp 170 25 [some (.ref o), some (.int x1), some (.int x2), u3, u4] [.int 1, .int s0, .ref (rad o 72)] (rOv σ o sc ar) P := by
  refine (wp_ic (n' := 21) rfl (zcode_of mc_170 (r := (.iconst 1, 0, 0, 0)) rfl) ci_1).trans ?_
  exact wp_goto (off := 4) (t := 25) (zcode_of mc_170 (r := (.goto 4, 0, 0, 0)) rfl) (by decide)
theorem b170_24 {σ : zSt} {o : Nat} {sc : Nat → Int32} {ar : Nat → Nat → Int32} {P : Option Value → zSt → Prop} (hR : RShape σ o) {x1 x2 s0 : Int32} {u3 u4 : Option Value} :
    wp 170 24 [some (.ref o), some (.int x1), some (.int x2), u3, u4] [.int s0, .ref (rad o 72)] (rOv σ o sc ar) P ↔ wp 170 25 [some (.ref o), some (.int x1), some (.int x2), u3, u4] [.int 0, .int s0, .ref (rad o 72)] (rOv σ o sc ar) P := by
  refine (wp_ic (n' := 25) rfl (zcode_of mc_170 (r := (.iconst 0, 0, 0, 0)) rfl) ci_0).trans ?_
  exact Iff.rfl
theorem b170_25 {σ : zSt} {o : Nat} {sc : Nat → Int32} {ar : Nat → Nat → Int32} {P : Option Value → zSt → Prop} (hR : RShape σ o) {x1 x2 s0 s1 : Int32} {u3 u4 : Option Value} :
    wp 170 25 [some (.ref o), some (.int x1), some (.int x2), u3, u4] [.int s0, .int s1, .ref (rad o 72)] (rOv σ o sc ar) P ↔ ((zIn s1 (rlen 72) ∧ ((s0 : Int32) = 0 ∨ (s0 : Int32) = 1)) ∧ ((zIn x2 (rlen 73) ∧ ((0 : Int32) = 0 ∨ (0 : Int32) = 1)) ∧ wp 170 2 [some (.ref o), some (.int x1), some (.int (x2 + 1)), u3, u4] [] (rOv σ o sc (upA (upA ar 72 (Int32.toNatClampNeg s1) s0) 73 (Int32.toNatClampNeg x2) 0)) P)) := by
  refine (wr_stZ (n' := 26) rfl hR (zcode_of mc_170 (r := (.bastore, 0, 0, 0)) rfl) rfl rfl).trans (and_congr Iff.rfl ?_)
  refine (wp_s (n := 27) (zcode_of mc_170 (r := (.aload_n 0, 0, 0, 0)) rfl) rfl rfl).trans ?_
  refine (wr_getA (n' := 30) rfl (t := 73) hR (zcode_of mc_170 (r := (.getfield 137, 12, 53, 0)) rfl) rfl rfl).trans ?_
  refine (wp_s (n := 31) (zcode_of mc_170 (r := (.iload_n 2, 0, 0, 0)) rfl) rfl rfl).trans ?_
  refine (wp_ic (n' := 32) rfl (zcode_of mc_170 (r := (.iconst 0, 0, 0, 0)) rfl) ci_0).trans ?_
  refine (wr_stZ (n' := 33) rfl hR (zcode_of mc_170 (r := (.bastore, 0, 0, 0)) rfl) rfl rfl).trans (and_congr Iff.rfl ?_)
  refine (wp_inc (n' := 36) rfl (zcode_of mc_170 (r := (.iinc 2 1, 0, 0, 0)) rfl) rfl rfl ci_1).trans ?_
  exact wp_goto (off := (-34)) (t := 2) (zcode_of mc_170 (r := (.goto (-34), 0, 0, 0)) rfl) (by decide)
theorem b170_39 {σ : zSt} {o : Nat} {sc : Nat → Int32} {ar : Nat → Nat → Int32} {P : Option Value → zSt → Prop} (hR : RShape σ o) {x1 x2 : Int32} {u3 u4 : Option Value} :
    wp 170 39 [some (.ref o), some (.int x1), some (.int x2), u3, u4] [] (rOv σ o sc ar) P ↔ wp 170 41 [some (.ref o), some (.int x1), some (.int 1), u3, u4] [] (rOv σ o sc ar) P := by
  refine (wp_ic (n' := 40) rfl (zcode_of mc_170 (r := (.iconst 1, 0, 0, 0)) rfl) ci_1).trans ?_
  refine (wp_s (n := 41) (zcode_of mc_170 (r := (.istore_n 2, 0, 0, 0)) rfl) rfl rfl).trans ?_
  exact Iff.rfl
theorem b170_41 {σ : zSt} {o : Nat} {sc : Nat → Int32} {ar : Nat → Nat → Int32} {P : Option Value → zSt → Prop} (hR : RShape σ o) {x1 x2 : Int32} {u3 u4 : Option Value} :
    wp 170 41 [some (.ref o), some (.int x1), some (.int x2), u3, u4] [] (rOv σ o sc ar) P ↔ (if (sc 0) ≤ x2 then wp 170 154 [some (.ref o), some (.int x1), some (.int x2), u3, u4] [] (rOv σ o sc ar) P else wp 170 49 [some (.ref o), some (.int x1), some (.int x2), u3, u4] [] (rOv σ o sc ar) P) := by
  refine (wp_s (n := 42) (zcode_of mc_170 (r := (.iload_n 2, 0, 0, 0)) rfl) rfl rfl).trans ?_
  refine (wp_s (n := 43) (zcode_of mc_170 (r := (.aload_n 0, 0, 0, 0)) rfl) rfl rfl).trans ?_
  refine (wr_getI (n' := 46) rfl hR (zcode_of mc_170 (r := (.getfield 7, 12, 0, 0)) rfl) rfl).trans ?_
  exact wp_jump (off := 108) (t := 154) (zcode_of mc_170 (r := (.if_icmp .ge 108, 0, 0, 0)) rfl) rfl rfl (by decide)
theorem b170_49 {σ : zSt} {o : Nat} {sc : Nat → Int32} {ar : Nat → Nat → Int32} {P : Option Value → zSt → Prop} (hR : RShape σ o) {x1 x2 : Int32} {u3 u4 : Option Value} :
    wp 170 49 [some (.ref o), some (.int x1), some (.int x2), u3, u4] [] (rOv σ o sc ar) P ↔ (if x1 = (-1) then wp 170 154 [some (.ref o), some (.int x1), some (.int x2), u3, u4] [] (rOv σ o sc ar) P else wp 170 54 [some (.ref o), some (.int x1), some (.int x2), u3, u4] [] (rOv σ o sc ar) P) := by
  refine (wp_s (n := 50) (zcode_of mc_170 (r := (.iload_n 1, 0, 0, 0)) rfl) rfl rfl).trans ?_
  refine (wp_ic (n' := 51) rfl (zcode_of mc_170 (r := (.iconst (-1), 0, 0, 0)) rfl) ci_m1).trans ?_
  exact wp_jump (off := 103) (t := 154) (zcode_of mc_170 (r := (.if_icmp .eq 103, 0, 0, 0)) rfl) rfl rfl (by decide)
theorem b170_54 {σ : zSt} {o : Nat} {sc : Nat → Int32} {ar : Nat → Nat → Int32} {P : Option Value → zSt → Prop} (hR : RShape σ o) {x1 x2 : Int32} {u3 u4 : Option Value} :
    wp 170 54 [some (.ref o), some (.int x1), some (.int x2), u3, u4] [] (rOv σ o sc ar) P ↔ (zIn x2 (rlen 24) ∧ (if (ar 24 (Int32.toNatClampNeg x2)) = (-1) then wp 170 148 [some (.ref o), some (.int x1), some (.int x2), u3, u4] [] (rOv σ o sc ar) P else wp 170 64 [some (.ref o), some (.int x1), some (.int x2), u3, u4] [] (rOv σ o sc ar) P)) := by
  refine (wp_s (n := 55) (zcode_of mc_170 (r := (.aload_n 0, 0, 0, 0)) rfl) rfl rfl).trans ?_
  refine (wr_getA (n' := 58) rfl (t := 24) hR (zcode_of mc_170 (r := (.getfield 24, 12, 4, 0)) rfl) rfl rfl).trans ?_
  refine (wp_s (n := 59) (zcode_of mc_170 (r := (.iload_n 2, 0, 0, 0)) rfl) rfl rfl).trans ?_
  refine (wr_ld (n' := 60) rfl hR (zcode_of mc_170 (r := (.iaload, 0, 0, 0)) rfl) rfl rfl).trans (and_congr Iff.rfl ?_)
  refine (wp_ic (n' := 61) rfl (zcode_of mc_170 (r := (.iconst (-1), 0, 0, 0)) rfl) ci_m1).trans ?_
  exact wp_jump (off := 87) (t := 148) (zcode_of mc_170 (r := (.if_icmp .eq 87, 0, 0, 0)) rfl) rfl rfl (by decide)
theorem b170_64 {σ : zSt} {o : Nat} {sc : Nat → Int32} {ar : Nat → Nat → Int32} {P : Option Value → zSt → Prop} (hR : RShape σ o) {x1 x2 : Int32} {u3 u4 : Option Value} :
    wp 170 64 [some (.ref o), some (.int x1), some (.int x2), u3, u4] [] (rOv σ o sc ar) P ↔ (if x2 = x1 then wp 170 79 [some (.ref o), some (.int x1), some (.int x2), u3, u4] [] (rOv σ o sc ar) P else wp 170 69 [some (.ref o), some (.int x1), some (.int x2), u3, u4] [] (rOv σ o sc ar) P) := by
  refine (wp_s (n := 65) (zcode_of mc_170 (r := (.iload_n 2, 0, 0, 0)) rfl) rfl rfl).trans ?_
  refine (wp_s (n := 66) (zcode_of mc_170 (r := (.iload_n 1, 0, 0, 0)) rfl) rfl rfl).trans ?_
  exact wp_jump (off := 13) (t := 79) (zcode_of mc_170 (r := (.if_icmp .eq 13, 0, 0, 0)) rfl) rfl rfl (by decide)
theorem b170_69 {σ : zSt} {o : Nat} {sc : Nat → Int32} {ar : Nat → Nat → Int32} {P : Option Value → zSt → Prop} (hR : RShape σ o) {x1 x2 : Int32} {u3 u4 : Option Value} :
    wp 170 69 [some (.ref o), some (.int x1), some (.int x2), u3, u4] [] (rOv σ o sc ar) P ↔ (zIn x2 (rlen 21) ∧ (if ¬ (ar 21 (Int32.toNatClampNeg x2)) = x1 then wp 170 148 [some (.ref o), some (.int x1), some (.int x2), u3, u4] [] (rOv σ o sc ar) P else wp 170 79 [some (.ref o), some (.int x1), some (.int x2), u3, u4] [] (rOv σ o sc ar) P)) := by
  refine (wp_s (n := 70) (zcode_of mc_170 (r := (.aload_n 0, 0, 0, 0)) rfl) rfl rfl).trans ?_
  refine (wr_getA (n' := 73) rfl (t := 21) hR (zcode_of mc_170 (r := (.getfield 13, 12, 1, 0)) rfl) rfl rfl).trans ?_
  refine (wp_s (n := 74) (zcode_of mc_170 (r := (.iload_n 2, 0, 0, 0)) rfl) rfl rfl).trans ?_
  refine (wr_ld (n' := 75) rfl hR (zcode_of mc_170 (r := (.iaload, 0, 0, 0)) rfl) rfl rfl).trans (and_congr Iff.rfl ?_)
  refine (wp_s (n := 76) (zcode_of mc_170 (r := (.iload_n 1, 0, 0, 0)) rfl) rfl rfl).trans ?_
  exact wp_jump (off := 72) (t := 148) (zcode_of mc_170 (r := (.if_icmp .ne 72, 0, 0, 0)) rfl) rfl rfl (by decide)
theorem b170_79 {σ : zSt} {o : Nat} {sc : Nat → Int32} {ar : Nat → Nat → Int32} {P : Option Value → zSt → Prop} (hR : RShape σ o) {x1 x2 : Int32} {u3 u4 : Option Value} :
    wp 170 79 [some (.ref o), some (.int x1), some (.int x2), u3, u4] [] (rOv σ o sc ar) P ↔ (zIn x2 (rlen 24) ∧ wpM 130 [.ref o, .int (ar 24 (Int32.toNatClampNeg x2))] (rOv σ o sc ar) (fun r τ => wp 170 91 [some (.ref o), some (.int x1), some (.int x2), some (.int (ar 24 (Int32.toNatClampNeg x2))), u4] (r.toList ++ []) τ P)) := by
  refine (wp_s (n := 80) (zcode_of mc_170 (r := (.aload_n 0, 0, 0, 0)) rfl) rfl rfl).trans ?_
  refine (wr_getA (n' := 83) rfl (t := 24) hR (zcode_of mc_170 (r := (.getfield 24, 12, 4, 0)) rfl) rfl rfl).trans ?_
  refine (wp_s (n := 84) (zcode_of mc_170 (r := (.iload_n 2, 0, 0, 0)) rfl) rfl rfl).trans ?_
  refine (wr_ld (n' := 85) rfl hR (zcode_of mc_170 (r := (.iaload, 0, 0, 0)) rfl) rfl rfl).trans (and_congr Iff.rfl ?_)
  refine (wp_s (n := 86) (zcode_of mc_170 (r := (.istore_n 3, 0, 0, 0)) rfl) rfl rfl).trans ?_
  refine (wp_s (n := 87) (zcode_of mc_170 (r := (.aload_n 0, 0, 0, 0)) rfl) rfl rfl).trans ?_
  refine (wp_s (n := 88) (zcode_of mc_170 (r := (.iload_n 3, 0, 0, 0)) rfl) rfl rfl).trans ?_
  exact wp_call (q := ([.ref o, .int (ar 24 (Int32.toNatClampNeg x2))], [])) (zcode_of mc_170 (r := (.invokevirtual 173, 130, 0, 1)) rfl) rfl (zCa_V (Nat.le_of_ble_eq_true rfl) rfl hR.tg) ⟨Nat.le_of_ble_eq_true rfl, Nat.le_of_ble_eq_true rfl⟩
theorem b170_91 {σ : zSt} {o : Nat} {sc : Nat → Int32} {ar : Nat → Nat → Int32} {P : Option Value → zSt → Prop} (hR : RShape σ o) {x1 x2 x3 : Int32} {u4 : Option Value} :
    wp 170 91 [some (.ref o), some (.int x1), some (.int x2), some (.int x3), u4] [] (rOv σ o sc ar) P ↔ ((zIn x3 (rlen 72) ∧ ((1 : Int32) = 0 ∨ (1 : Int32) = 1)) ∧ wp 170 101 [some (.ref o), some (.int x1), some (.int x2), some (.int x3), some (.int 0)] [] (rOv σ o sc (upA ar 72 (Int32.toNatClampNeg x3) 1)) P) := by
  refine (wp_s (n := 92) (zcode_of mc_170 (r := (.aload_n 0, 0, 0, 0)) rfl) rfl rfl).trans ?_
  refine (wr_getA (n' := 95) rfl (t := 72) hR (zcode_of mc_170 (r := (.getfield 134, 12, 52, 0)) rfl) rfl rfl).trans ?_
  refine (wp_s (n := 96) (zcode_of mc_170 (r := (.iload_n 3, 0, 0, 0)) rfl) rfl rfl).trans ?_
  refine (wp_ic (n' := 97) rfl (zcode_of mc_170 (r := (.iconst 1, 0, 0, 0)) rfl) ci_1).trans ?_
  refine (wr_stZ (n' := 98) rfl hR (zcode_of mc_170 (r := (.bastore, 0, 0, 0)) rfl) rfl rfl).trans (and_congr Iff.rfl ?_)
  refine (wp_ic (n' := 99) rfl (zcode_of mc_170 (r := (.iconst 0, 0, 0, 0)) rfl) ci_0).trans ?_
  refine (wp_s (n := 101) (zcode_of mc_170 (r := (.istore 4, 0, 0, 0)) rfl) rfl rfl).trans ?_
  exact Iff.rfl
theorem b170_101 {σ : zSt} {o : Nat} {sc : Nat → Int32} {ar : Nat → Nat → Int32} {P : Option Value → zSt → Prop} (hR : RShape σ o) {x1 x2 x3 x4 : Int32} :
    wp 170 101 [some (.ref o), some (.int x1), some (.int x2), some (.int x3), some (.int x4)] [] (rOv σ o sc ar) P ↔ (if (sc 9) ≤ x4 then wp 170 148 [some (.ref o), some (.int x1), some (.int x2), some (.int x3), some (.int x4)] [] (rOv σ o sc ar) P else wp 170 110 [some (.ref o), some (.int x1), some (.int x2), some (.int x3), some (.int x4)] [] (rOv σ o sc ar) P) := by
  refine (wp_s (n := 103) (zcode_of mc_170 (r := (.iload 4, 0, 0, 0)) rfl) rfl rfl).trans ?_
  refine (wp_s (n := 104) (zcode_of mc_170 (r := (.aload_n 0, 0, 0, 0)) rfl) rfl rfl).trans ?_
  refine (wr_getI (n' := 107) rfl hR (zcode_of mc_170 (r := (.getfield 144, 12, 9, 0)) rfl) rfl).trans ?_
  exact wp_jump (off := 41) (t := 148) (zcode_of mc_170 (r := (.if_icmp .ge 41, 0, 0, 0)) rfl) rfl rfl (by decide)
theorem b170_110 {σ : zSt} {o : Nat} {sc : Nat → Int32} {ar : Nat → Nat → Int32} {P : Option Value → zSt → Prop} (hR : RShape σ o) {x1 x2 x3 x4 : Int32} :
    wp 170 110 [some (.ref o), some (.int x1), some (.int x2), some (.int x3), some (.int x4)] [] (rOv σ o sc ar) P ↔ (zIn x4 (rlen 72) ∧ (if ¬ (ar 72 (Int32.toNatClampNeg x4)) = 0 then wp 170 136 [some (.ref o), some (.int x1), some (.int x2), some (.int x3), some (.int x4)] [.int x4, .ref (rad o 72)] (rOv σ o sc ar) P else wp 170 126 [some (.ref o), some (.int x1), some (.int x2), some (.int x3), some (.int x4)] [.int x4, .ref (rad o 72)] (rOv σ o sc ar) P)) := by
  refine (wp_s (n := 111) (zcode_of mc_170 (r := (.aload_n 0, 0, 0, 0)) rfl) rfl rfl).trans ?_
  refine (wr_getA (n' := 114) rfl (t := 72) hR (zcode_of mc_170 (r := (.getfield 134, 12, 52, 0)) rfl) rfl rfl).trans ?_
  refine (wp_s (n := 116) (zcode_of mc_170 (r := (.iload 4, 0, 0, 0)) rfl) rfl rfl).trans ?_
  refine (wp_s (n := 117) (zcode_of mc_170 (r := (.aload_n 0, 0, 0, 0)) rfl) rfl rfl).trans ?_
  refine (wr_getA (n' := 120) rfl (t := 72) hR (zcode_of mc_170 (r := (.getfield 134, 12, 52, 0)) rfl) rfl rfl).trans ?_
  refine (wp_s (n := 122) (zcode_of mc_170 (r := (.iload 4, 0, 0, 0)) rfl) rfl rfl).trans ?_
  refine (wr_ldZ (n' := 123) rfl hR (zcode_of mc_170 (r := (.baload, 0, 0, 0)) rfl) rfl rfl).trans (and_congr Iff.rfl ?_)
  exact wp_jump (off := 13) (t := 136) (zcode_of mc_170 (r := (.ifCond .ne 13, 0, 0, 0)) rfl) rfl rfl (by decide)
theorem b170_126 {σ : zSt} {o : Nat} {sc : Nat → Int32} {ar : Nat → Nat → Int32} {P : Option Value → zSt → Prop} (hR : RShape σ o) {x1 x2 x3 x4 s0 : Int32} :
    wp 170 126 [some (.ref o), some (.int x1), some (.int x2), some (.int x3), some (.int x4)] [.int s0, .ref (rad o 72)] (rOv σ o sc ar) P ↔ (zIn x4 (rlen 61) ∧ (if (ar 61 (Int32.toNatClampNeg x4)) = 0 then wp 170 140 [some (.ref o), some (.int x1), some (.int x2), some (.int x3), some (.int x4)] [.int s0, .ref (rad o 72)] (rOv σ o sc ar) P else wp 170 136 [some (.ref o), some (.int x1), some (.int x2), some (.int x3), some (.int x4)] [.int s0, .ref (rad o 72)] (rOv σ o sc ar) P)) := by
  refine (wp_s (n := 127) (zcode_of mc_170 (r := (.aload_n 0, 0, 0, 0)) rfl) rfl rfl).trans ?_
  refine (wr_getA (n' := 130) rfl (t := 61) hR (zcode_of mc_170 (r := (.getfield 113, 12, 41, 0)) rfl) rfl rfl).trans ?_
  refine (wp_s (n := 132) (zcode_of mc_170 (r := (.iload 4, 0, 0, 0)) rfl) rfl rfl).trans ?_
  refine (wr_ldZ (n' := 133) rfl hR (zcode_of mc_170 (r := (.baload, 0, 0, 0)) rfl) rfl rfl).trans (and_congr Iff.rfl ?_)
  exact wp_jump (off := 7) (t := 140) (zcode_of mc_170 (r := (.ifCond .eq 7, 0, 0, 0)) rfl) rfl rfl (by decide)
theorem b170_136 {σ : zSt} {o : Nat} {sc : Nat → Int32} {ar : Nat → Nat → Int32} {P : Option Value → zSt → Prop} (hR : RShape σ o) {x1 x2 x3 x4 s0 : Int32} :
    wp 170 136 [some (.ref o), some (.int x1), some (.int x2), some (.int x3), some (.int x4)] [.int s0, .ref (rad o 72)] (rOv σ o sc ar) P ↔ wp 170 141 [some (.ref o), some (.int x1), some (.int x2), some (.int x3), some (.int x4)] [.int 1, .int s0, .ref (rad o 72)] (rOv σ o sc ar) P := by
  refine (wp_ic (n' := 137) rfl (zcode_of mc_170 (r := (.iconst 1, 0, 0, 0)) rfl) ci_1).trans ?_
  exact wp_goto (off := 4) (t := 141) (zcode_of mc_170 (r := (.goto 4, 0, 0, 0)) rfl) (by decide)
theorem b170_140 {σ : zSt} {o : Nat} {sc : Nat → Int32} {ar : Nat → Nat → Int32} {P : Option Value → zSt → Prop} (hR : RShape σ o) {x1 x2 x3 x4 s0 : Int32} :
    wp 170 140 [some (.ref o), some (.int x1), some (.int x2), some (.int x3), some (.int x4)] [.int s0, .ref (rad o 72)] (rOv σ o sc ar) P ↔ wp 170 141 [some (.ref o), some (.int x1), some (.int x2), some (.int x3), some (.int x4)] [.int 0, .int s0, .ref (rad o 72)] (rOv σ o sc ar) P := by
  refine (wp_ic (n' := 141) rfl (zcode_of mc_170 (r := (.iconst 0, 0, 0, 0)) rfl) ci_0).trans ?_
  exact Iff.rfl
theorem b170_141 {σ : zSt} {o : Nat} {sc : Nat → Int32} {ar : Nat → Nat → Int32} {P : Option Value → zSt → Prop} (hR : RShape σ o) {x1 x2 x3 x4 s0 s1 : Int32} :
    wp 170 141 [some (.ref o), some (.int x1), some (.int x2), some (.int x3), some (.int x4)] [.int s0, .int s1, .ref (rad o 72)] (rOv σ o sc ar) P ↔ ((zIn s1 (rlen 72) ∧ ((s0 : Int32) = 0 ∨ (s0 : Int32) = 1)) ∧ wp 170 101 [some (.ref o), some (.int x1), some (.int x2), some (.int x3), some (.int (x4 + 1))] [] (rOv σ o sc (upA ar 72 (Int32.toNatClampNeg s1) s0)) P) := by
  refine (wr_stZ (n' := 142) rfl hR (zcode_of mc_170 (r := (.bastore, 0, 0, 0)) rfl) rfl rfl).trans (and_congr Iff.rfl ?_)
  refine (wp_inc (n' := 145) rfl (zcode_of mc_170 (r := (.iinc 4 1, 0, 0, 0)) rfl) rfl rfl ci_1).trans ?_
  exact wp_goto (off := (-44)) (t := 101) (zcode_of mc_170 (r := (.goto (-44), 0, 0, 0)) rfl) (by decide)
theorem b170_148 {σ : zSt} {o : Nat} {sc : Nat → Int32} {ar : Nat → Nat → Int32} {P : Option Value → zSt → Prop} (hR : RShape σ o) {x1 x2 : Int32} {u3 u4 : Option Value} :
    wp 170 148 [some (.ref o), some (.int x1), some (.int x2), u3, u4] [] (rOv σ o sc ar) P ↔ wp 170 41 [some (.ref o), some (.int x1), some (.int (x2 + 1)), u3, u4] [] (rOv σ o sc ar) P := by
  refine (wp_inc (n' := 151) rfl (zcode_of mc_170 (r := (.iinc 2 1, 0, 0, 0)) rfl) rfl rfl ci_1).trans ?_
  exact wp_goto (off := (-110)) (t := 41) (zcode_of mc_170 (r := (.goto (-110), 0, 0, 0)) rfl) (by decide)
theorem b170_154 {σ : zSt} {o : Nat} {sc : Nat → Int32} {ar : Nat → Nat → Int32} {P : Option Value → zSt → Prop} (hR : RShape σ o) {x1 x2 : Int32} {u3 u4 : Option Value} :
    wp 170 154 [some (.ref o), some (.int x1), some (.int x2), u3, u4] [] (rOv σ o sc ar) P ↔ P none (rOv σ o sc ar) := by
  exact wp_retV (zcode_of mc_170 (r := (.return_, 0, 0, 0)) rfl) rfl
theorem mc_171 : mCode 171 = zc_171 := rfl
theorem b171 {σ : zSt} {o : Nat} {sc : Nat → Int32} {ar : Nat → Nat → Int32} {P : Option Value → zSt → Prop} (hR : RShape σ o) :
    wpM 171 [.ref o] (rOv σ o sc ar) P ↔ wp 171 2 [some (.ref o), some (.int 0), none, none] [] (rOv σ o sc ar) P := by
  show wp 171 0 [some (.ref o), none, none, none] [] (rOv σ o sc ar) P ↔ _
  refine (wp_ic (n' := 1) rfl (zcode_of mc_171 (r := (.iconst 0, 0, 0, 0)) rfl) ci_0).trans ?_
  refine (wp_s (n := 2) (zcode_of mc_171 (r := (.istore_n 1, 0, 0, 0)) rfl) rfl rfl).trans ?_
  exact Iff.rfl
theorem b171_2 {σ : zSt} {o : Nat} {sc : Nat → Int32} {ar : Nat → Nat → Int32} {P : Option Value → zSt → Prop} (hR : RShape σ o) {x1 : Int32} {u2 u3 : Option Value} :
    wp 171 2 [some (.ref o), some (.int x1), u2, u3] [] (rOv σ o sc ar) P ↔ (if (sc 9) ≤ x1 then wp 171 99 [some (.ref o), some (.int x1), u2, u3] [] (rOv σ o sc ar) P else wp 171 10 [some (.ref o), some (.int x1), u2, u3] [] (rOv σ o sc ar) P) := by
  refine (wp_s (n := 3) (zcode_of mc_171 (r := (.iload_n 1, 0, 0, 0)) rfl) rfl rfl).trans ?_
  refine (wp_s (n := 4) (zcode_of mc_171 (r := (.aload_n 0, 0, 0, 0)) rfl) rfl rfl).trans ?_
  refine (wr_getI (n' := 7) rfl hR (zcode_of mc_171 (r := (.getfield 144, 12, 9, 0)) rfl) rfl).trans ?_
  exact wp_jump (off := 92) (t := 99) (zcode_of mc_171 (r := (.if_icmp .ge 92, 0, 0, 0)) rfl) rfl rfl (by decide)
theorem b171_10 {σ : zSt} {o : Nat} {sc : Nat → Int32} {ar : Nat → Nat → Int32} {P : Option Value → zSt → Prop} (hR : RShape σ o) {x1 : Int32} {u2 u3 : Option Value} :
    wp 171 10 [some (.ref o), some (.int x1), u2, u3] [] (rOv σ o sc ar) P ↔ (zIn x1 (rlen 72) ∧ (if (ar 72 (Int32.toNatClampNeg x1)) = 0 then wp 171 32 [some (.ref o), some (.int x1), u2, u3] [] (rOv σ o sc ar) P else wp 171 19 [some (.ref o), some (.int x1), u2, u3] [] (rOv σ o sc ar) P)) := by
  refine (wp_s (n := 11) (zcode_of mc_171 (r := (.aload_n 0, 0, 0, 0)) rfl) rfl rfl).trans ?_
  refine (wr_getA (n' := 14) rfl (t := 72) hR (zcode_of mc_171 (r := (.getfield 134, 12, 52, 0)) rfl) rfl rfl).trans ?_
  refine (wp_s (n := 15) (zcode_of mc_171 (r := (.iload_n 1, 0, 0, 0)) rfl) rfl rfl).trans ?_
  refine (wr_ldZ (n' := 16) rfl hR (zcode_of mc_171 (r := (.baload, 0, 0, 0)) rfl) rfl rfl).trans (and_congr Iff.rfl ?_)
  exact wp_jump (off := 16) (t := 32) (zcode_of mc_171 (r := (.ifCond .eq 16, 0, 0, 0)) rfl) rfl rfl (by decide)
theorem b171_19 {σ : zSt} {o : Nat} {sc : Nat → Int32} {ar : Nat → Nat → Int32} {P : Option Value → zSt → Prop} (hR : RShape σ o) {x1 : Int32} {u2 u3 : Option Value} :
    wp 171 19 [some (.ref o), some (.int x1), u2, u3] [] (rOv σ o sc ar) P ↔ (zIn x1 (rlen 73) ∧ (if ¬ (ar 73 (Int32.toNatClampNeg x1)) = 0 then wp 171 32 [some (.ref o), some (.int x1), u2, u3] [] (rOv σ o sc ar) P else wp 171 28 [some (.ref o), some (.int x1), u2, u3] [] (rOv σ o sc ar) P)) := by
  refine (wp_s (n := 20) (zcode_of mc_171 (r := (.aload_n 0, 0, 0, 0)) rfl) rfl rfl).trans ?_
  refine (wr_getA (n' := 23) rfl (t := 73) hR (zcode_of mc_171 (r := (.getfield 137, 12, 53, 0)) rfl) rfl rfl).trans ?_
  refine (wp_s (n := 24) (zcode_of mc_171 (r := (.iload_n 1, 0, 0, 0)) rfl) rfl rfl).trans ?_
  refine (wr_ldZ (n' := 25) rfl hR (zcode_of mc_171 (r := (.baload, 0, 0, 0)) rfl) rfl rfl).trans (and_congr Iff.rfl ?_)
  exact wp_jump (off := 7) (t := 32) (zcode_of mc_171 (r := (.ifCond .ne 7, 0, 0, 0)) rfl) rfl rfl (by decide)
theorem b171_28 {σ : zSt} {o : Nat} {sc : Nat → Int32} {ar : Nat → Nat → Int32} {P : Option Value → zSt → Prop} (hR : RShape σ o) {x1 : Int32} {u2 u3 : Option Value} :
    wp 171 28 [some (.ref o), some (.int x1), u2, u3] [] (rOv σ o sc ar) P ↔ wp 171 33 [some (.ref o), some (.int x1), u2, u3] [.int 1] (rOv σ o sc ar) P := by
  refine (wp_ic (n' := 29) rfl (zcode_of mc_171 (r := (.iconst 1, 0, 0, 0)) rfl) ci_1).trans ?_
  exact wp_goto (off := 4) (t := 33) (zcode_of mc_171 (r := (.goto 4, 0, 0, 0)) rfl) (by decide)
theorem b171_32 {σ : zSt} {o : Nat} {sc : Nat → Int32} {ar : Nat → Nat → Int32} {P : Option Value → zSt → Prop} (hR : RShape σ o) {x1 : Int32} {u2 u3 : Option Value} :
    wp 171 32 [some (.ref o), some (.int x1), u2, u3] [] (rOv σ o sc ar) P ↔ wp 171 33 [some (.ref o), some (.int x1), u2, u3] [.int 0] (rOv σ o sc ar) P := by
  refine (wp_ic (n' := 33) rfl (zcode_of mc_171 (r := (.iconst 0, 0, 0, 0)) rfl) ci_0).trans ?_
  exact Iff.rfl
theorem b171_33 {σ : zSt} {o : Nat} {sc : Nat → Int32} {ar : Nat → Nat → Int32} {P : Option Value → zSt → Prop} (hR : RShape σ o) {x1 s0 : Int32} {u2 u3 : Option Value} :
    wp 171 33 [some (.ref o), some (.int x1), u2, u3] [.int s0] (rOv σ o sc ar) P ↔ wp 171 36 [some (.ref o), some (.int x1), some (.int s0), some (.int 0)] [] (rOv σ o sc ar) P := by
  refine (wp_s (n := 34) (zcode_of mc_171 (r := (.istore_n 2, 0, 0, 0)) rfl) rfl rfl).trans ?_
  refine (wp_ic (n' := 35) rfl (zcode_of mc_171 (r := (.iconst 0, 0, 0, 0)) rfl) ci_0).trans ?_
  refine (wp_s (n := 36) (zcode_of mc_171 (r := (.istore_n 3, 0, 0, 0)) rfl) rfl rfl).trans ?_
  exact Iff.rfl
theorem b171_36 {σ : zSt} {o : Nat} {sc : Nat → Int32} {ar : Nat → Nat → Int32} {P : Option Value → zSt → Prop} (hR : RShape σ o) {x1 x2 x3 : Int32} :
    wp 171 36 [some (.ref o), some (.int x1), some (.int x2), some (.int x3)] [] (rOv σ o sc ar) P ↔ (if (sc 9) ≤ x3 then wp 171 87 [some (.ref o), some (.int x1), some (.int x2), some (.int x3)] [] (rOv σ o sc ar) P else wp 171 44 [some (.ref o), some (.int x1), some (.int x2), some (.int x3)] [] (rOv σ o sc ar) P) := by
  refine (wp_s (n := 37) (zcode_of mc_171 (r := (.iload_n 3, 0, 0, 0)) rfl) rfl rfl).trans ?_
  refine (wp_s (n := 38) (zcode_of mc_171 (r := (.aload_n 0, 0, 0, 0)) rfl) rfl rfl).trans ?_
  refine (wr_getI (n' := 41) rfl hR (zcode_of mc_171 (r := (.getfield 144, 12, 9, 0)) rfl) rfl).trans ?_
  exact wp_jump (off := 46) (t := 87) (zcode_of mc_171 (r := (.if_icmp .ge 46, 0, 0, 0)) rfl) rfl rfl (by decide)
theorem b171_44 {σ : zSt} {o : Nat} {sc : Nat → Int32} {ar : Nat → Nat → Int32} {P : Option Value → zSt → Prop} (hR : RShape σ o) {x1 x2 x3 : Int32} :
    wp 171 44 [some (.ref o), some (.int x1), some (.int x2), some (.int x3)] [] (rOv σ o sc ar) P ↔ (if x2 = 0 then wp 171 87 [some (.ref o), some (.int x1), some (.int x2), some (.int x3)] [] (rOv σ o sc ar) P else wp 171 48 [some (.ref o), some (.int x1), some (.int x2), some (.int x3)] [] (rOv σ o sc ar) P) := by
  refine (wp_s (n := 45) (zcode_of mc_171 (r := (.iload_n 2, 0, 0, 0)) rfl) rfl rfl).trans ?_
  exact wp_jump (off := 42) (t := 87) (zcode_of mc_171 (r := (.ifCond .eq 42, 0, 0, 0)) rfl) rfl rfl (by decide)
theorem b171_48 {σ : zSt} {o : Nat} {sc : Nat → Int32} {ar : Nat → Nat → Int32} {P : Option Value → zSt → Prop} (hR : RShape σ o) {x1 x2 x3 : Int32} :
    wp 171 48 [some (.ref o), some (.int x1), some (.int x2), some (.int x3)] [] (rOv σ o sc ar) P ↔ (zIn x3 (rlen 72) ∧ (if (ar 72 (Int32.toNatClampNeg x3)) = 0 then wp 171 75 [some (.ref o), some (.int x1), some (.int x2), some (.int x3)] [] (rOv σ o sc ar) P else wp 171 57 [some (.ref o), some (.int x1), some (.int x2), some (.int x3)] [] (rOv σ o sc ar) P)) := by
  refine (wp_s (n := 49) (zcode_of mc_171 (r := (.aload_n 0, 0, 0, 0)) rfl) rfl rfl).trans ?_
  refine (wr_getA (n' := 52) rfl (t := 72) hR (zcode_of mc_171 (r := (.getfield 134, 12, 52, 0)) rfl) rfl rfl).trans ?_
  refine (wp_s (n := 53) (zcode_of mc_171 (r := (.iload_n 3, 0, 0, 0)) rfl) rfl rfl).trans ?_
  refine (wr_ldZ (n' := 54) rfl hR (zcode_of mc_171 (r := (.baload, 0, 0, 0)) rfl) rfl rfl).trans (and_congr Iff.rfl ?_)
  exact wp_jump (off := 21) (t := 75) (zcode_of mc_171 (r := (.ifCond .eq 21, 0, 0, 0)) rfl) rfl rfl (by decide)
theorem b171_57 {σ : zSt} {o : Nat} {sc : Nat → Int32} {ar : Nat → Nat → Int32} {P : Option Value → zSt → Prop} (hR : RShape σ o) {x1 x2 x3 : Int32} :
    wp 171 57 [some (.ref o), some (.int x1), some (.int x2), some (.int x3)] [] (rOv σ o sc ar) P ↔ (zIn x3 (rlen 73) ∧ (if ¬ (ar 73 (Int32.toNatClampNeg x3)) = 0 then wp 171 75 [some (.ref o), some (.int x1), some (.int x2), some (.int x3)] [] (rOv σ o sc ar) P else wp 171 66 [some (.ref o), some (.int x1), some (.int x2), some (.int x3)] [] (rOv σ o sc ar) P)) := by
  refine (wp_s (n := 58) (zcode_of mc_171 (r := (.aload_n 0, 0, 0, 0)) rfl) rfl rfl).trans ?_
  refine (wr_getA (n' := 61) rfl (t := 73) hR (zcode_of mc_171 (r := (.getfield 137, 12, 53, 0)) rfl) rfl rfl).trans ?_
  refine (wp_s (n := 62) (zcode_of mc_171 (r := (.iload_n 3, 0, 0, 0)) rfl) rfl rfl).trans ?_
  refine (wr_ldZ (n' := 63) rfl hR (zcode_of mc_171 (r := (.baload, 0, 0, 0)) rfl) rfl rfl).trans (and_congr Iff.rfl ?_)
  exact wp_jump (off := 12) (t := 75) (zcode_of mc_171 (r := (.ifCond .ne 12, 0, 0, 0)) rfl) rfl rfl (by decide)
theorem b171_66 {σ : zSt} {o : Nat} {sc : Nat → Int32} {ar : Nat → Nat → Int32} {P : Option Value → zSt → Prop} (hR : RShape σ o) {x1 x2 x3 : Int32} :
    wp 171 66 [some (.ref o), some (.int x1), some (.int x2), some (.int x3)] [] (rOv σ o sc ar) P ↔ wpM 129 [.ref o, .int x1, .int x3] (rOv σ o sc ar) (fun r τ => wp 171 72 [some (.ref o), some (.int x1), some (.int x2), some (.int x3)] (r.toList ++ []) τ P) := by
  refine (wp_s (n := 67) (zcode_of mc_171 (r := (.aload_n 0, 0, 0, 0)) rfl) rfl rfl).trans ?_
  refine (wp_s (n := 68) (zcode_of mc_171 (r := (.iload_n 1, 0, 0, 0)) rfl) rfl rfl).trans ?_
  refine (wp_s (n := 69) (zcode_of mc_171 (r := (.iload_n 3, 0, 0, 0)) rfl) rfl rfl).trans ?_
  exact wp_call (q := ([.ref o, .int x1, .int x3], [])) (zcode_of mc_171 (r := (.invokevirtual 170, 129, 0, 2)) rfl) rfl (zCa_V (Nat.le_of_ble_eq_true rfl) rfl hR.tg) ⟨Nat.le_of_ble_eq_true rfl, Nat.le_of_ble_eq_true rfl⟩
theorem b171_72 {σ : zSt} {o : Nat} {sc : Nat → Int32} {ar : Nat → Nat → Int32} {P : Option Value → zSt → Prop} (hR : RShape σ o) {x1 x2 x3 s0 : Int32} :
    wp 171 72 [some (.ref o), some (.int x1), some (.int x2), some (.int x3)] [.int s0] (rOv σ o sc ar) P ↔ (if ¬ s0 = 0 then wp 171 79 [some (.ref o), some (.int x1), some (.int x2), some (.int x3)] [] (rOv σ o sc ar) P else wp 171 75 [some (.ref o), some (.int x1), some (.int x2), some (.int x3)] [] (rOv σ o sc ar) P) := by
  exact wp_jump (off := 7) (t := 79) (zcode_of mc_171 (r := (.ifCond .ne 7, 0, 0, 0)) rfl) rfl rfl (by decide)
theorem b171_75 {σ : zSt} {o : Nat} {sc : Nat → Int32} {ar : Nat → Nat → Int32} {P : Option Value → zSt → Prop} (hR : RShape σ o) {x1 x2 x3 : Int32} :
    wp 171 75 [some (.ref o), some (.int x1), some (.int x2), some (.int x3)] [] (rOv σ o sc ar) P ↔ wp 171 80 [some (.ref o), some (.int x1), some (.int x2), some (.int x3)] [.int 1] (rOv σ o sc ar) P := by
  refine (wp_ic (n' := 76) rfl (zcode_of mc_171 (r := (.iconst 1, 0, 0, 0)) rfl) ci_1).trans ?_
  exact wp_goto (off := 4) (t := 80) (zcode_of mc_171 (r := (.goto 4, 0, 0, 0)) rfl) (by decide)
theorem b171_79 {σ : zSt} {o : Nat} {sc : Nat → Int32} {ar : Nat → Nat → Int32} {P : Option Value → zSt → Prop} (hR : RShape σ o) {x1 x2 x3 : Int32} :
    wp 171 79 [some (.ref o), some (.int x1), some (.int x2), some (.int x3)] [] (rOv σ o sc ar) P ↔ wp 171 80 [some (.ref o), some (.int x1), some (.int x2), some (.int x3)] [.int 0] (rOv σ o sc ar) P := by
  refine (wp_ic (n' := 80) rfl (zcode_of mc_171 (r := (.iconst 0, 0, 0, 0)) rfl) ci_0).trans ?_
  exact Iff.rfl
theorem b171_80 {σ : zSt} {o : Nat} {sc : Nat → Int32} {ar : Nat → Nat → Int32} {P : Option Value → zSt → Prop} (hR : RShape σ o) {x1 x2 x3 s0 : Int32} :
    wp 171 80 [some (.ref o), some (.int x1), some (.int x2), some (.int x3)] [.int s0] (rOv σ o sc ar) P ↔ wp 171 36 [some (.ref o), some (.int x1), some (.int s0), some (.int (x3 + 1))] [] (rOv σ o sc ar) P := by
  refine (wp_s (n := 81) (zcode_of mc_171 (r := (.istore_n 2, 0, 0, 0)) rfl) rfl rfl).trans ?_
  refine (wp_inc (n' := 84) rfl (zcode_of mc_171 (r := (.iinc 3 1, 0, 0, 0)) rfl) rfl rfl ci_1).trans ?_
  exact wp_goto (off := (-48)) (t := 36) (zcode_of mc_171 (r := (.goto (-48), 0, 0, 0)) rfl) (by decide)
theorem b171_87 {σ : zSt} {o : Nat} {sc : Nat → Int32} {ar : Nat → Nat → Int32} {P : Option Value → zSt → Prop} (hR : RShape σ o) {x1 x2 x3 : Int32} :
    wp 171 87 [some (.ref o), some (.int x1), some (.int x2), some (.int x3)] [] (rOv σ o sc ar) P ↔ (if x2 = 0 then wp 171 93 [some (.ref o), some (.int x1), some (.int x2), some (.int x3)] [] (rOv σ o sc ar) P else wp 171 91 [some (.ref o), some (.int x1), some (.int x2), some (.int x3)] [] (rOv σ o sc ar) P) := by
  refine (wp_s (n := 88) (zcode_of mc_171 (r := (.iload_n 2, 0, 0, 0)) rfl) rfl rfl).trans ?_
  exact wp_jump (off := 5) (t := 93) (zcode_of mc_171 (r := (.ifCond .eq 5, 0, 0, 0)) rfl) rfl rfl (by decide)
theorem b171_91 {σ : zSt} {o : Nat} {sc : Nat → Int32} {ar : Nat → Nat → Int32} {P : Option Value → zSt → Prop} (hR : RShape σ o) {x1 x2 x3 : Int32} :
    wp 171 91 [some (.ref o), some (.int x1), some (.int x2), some (.int x3)] [] (rOv σ o sc ar) P ↔ P (some (.int x1)) (rOv σ o sc ar) := by
  refine (wp_s (n := 92) (zcode_of mc_171 (r := (.iload_n 1, 0, 0, 0)) rfl) rfl rfl).trans ?_
  exact wp_retI (zcode_of mc_171 (r := (.ireturn, 0, 0, 0)) rfl) rfl
theorem b171_93 {σ : zSt} {o : Nat} {sc : Nat → Int32} {ar : Nat → Nat → Int32} {P : Option Value → zSt → Prop} (hR : RShape σ o) {x1 x2 x3 : Int32} :
    wp 171 93 [some (.ref o), some (.int x1), some (.int x2), some (.int x3)] [] (rOv σ o sc ar) P ↔ wp 171 2 [some (.ref o), some (.int (x1 + 1)), some (.int x2), some (.int x3)] [] (rOv σ o sc ar) P := by
  refine (wp_inc (n' := 96) rfl (zcode_of mc_171 (r := (.iinc 1 1, 0, 0, 0)) rfl) rfl rfl ci_1).trans ?_
  exact wp_goto (off := (-94)) (t := 2) (zcode_of mc_171 (r := (.goto (-94), 0, 0, 0)) rfl) (by decide)
theorem b171_99 {σ : zSt} {o : Nat} {sc : Nat → Int32} {ar : Nat → Nat → Int32} {P : Option Value → zSt → Prop} (hR : RShape σ o) {x1 : Int32} {u2 u3 : Option Value} :
    wp 171 99 [some (.ref o), some (.int x1), u2, u3] [] (rOv σ o sc ar) P ↔ P (some (.int (-1))) (rOv σ o sc ar) := by
  refine (wp_ic (n' := 100) rfl (zcode_of mc_171 (r := (.iconst (-1), 0, 0, 0)) rfl) ci_m1).trans ?_
  exact wp_retI (zcode_of mc_171 (r := (.ireturn, 0, 0, 0)) rfl) rfl
theorem mc_172 : mCode 172 = zc_172 := rfl
theorem b172 {σ : zSt} {o : Nat} {sc : Nat → Int32} {ar : Nat → Nat → Int32} {P : Option Value → zSt → Prop} (hR : RShape σ o) {x1 x2 : Int32} :
    wpM 172 [.ref o, .int x1, .int x2] (rOv σ o sc ar) P ↔ (zIn (sc 32) (rlen 53) ∧ wpM 147 [.ref o, .int x1, .int x2] (rOv σ o (upS sc 32 ((sc 32) + 1)) (upA ar 53 (Int32.toNatClampNeg (sc 32)) x2)) (fun r τ => wp 172 33 [some (.ref o), some (.int x1), some (.int x2), some (.int (sc 32)), none] (r.toList ++ [.int (sc 32), .ref (rad o 56)]) τ P)) := by
  show wp 172 0 [some (.ref o), some (.int x1), some (.int x2), none, none] [] (rOv σ o sc ar) P ↔ _
  refine (wp_s (n := 1) (zcode_of mc_172 (r := (.aload_n 0, 0, 0, 0)) rfl) rfl rfl).trans ?_
  refine (wr_getI (n' := 4) rfl hR (zcode_of mc_172 (r := (.getfield 284, 12, 32, 0)) rfl) rfl).trans ?_
  refine (wp_s (n := 5) (zcode_of mc_172 (r := (.istore_n 3, 0, 0, 0)) rfl) rfl rfl).trans ?_
  refine (wp_s (n := 6) (zcode_of mc_172 (r := (.aload_n 0, 0, 0, 0)) rfl) rfl rfl).trans ?_
  refine (wp_s (n := 7) (zcode_of mc_172 (r := (.dup, 0, 0, 0)) rfl) rfl rfl).trans ?_
  refine (wr_getI (n' := 10) rfl hR (zcode_of mc_172 (r := (.getfield 284, 12, 32, 0)) rfl) rfl).trans ?_
  refine (wp_ic (n' := 11) rfl (zcode_of mc_172 (r := (.iconst 1, 0, 0, 0)) rfl) ci_1).trans ?_
  refine (wp_s (n := 12) (zcode_of mc_172 (r := (.iadd, 0, 0, 0)) rfl) rfl rfl).trans ?_
  refine (wr_put (n' := 15) rfl hR (zcode_of mc_172 (r := (.putfield 284, 12, 32, 0)) rfl) rfl).trans ?_
  refine (wp_s (n := 16) (zcode_of mc_172 (r := (.aload_n 0, 0, 0, 0)) rfl) rfl rfl).trans ?_
  refine (wr_getA (n' := 19) rfl (t := 53) hR (zcode_of mc_172 (r := (.getfield 101, 12, 33, 0)) rfl) rfl rfl).trans ?_
  refine (wp_s (n := 20) (zcode_of mc_172 (r := (.iload_n 3, 0, 0, 0)) rfl) rfl rfl).trans ?_
  refine (wp_s (n := 21) (zcode_of mc_172 (r := (.iload_n 2, 0, 0, 0)) rfl) rfl rfl).trans ?_
  refine (wr_st (n' := 22) rfl hR (zcode_of mc_172 (r := (.iastore, 0, 0, 0)) rfl) rfl rfl).trans (and_congr Iff.rfl ?_)
  refine (wp_s (n := 23) (zcode_of mc_172 (r := (.aload_n 0, 0, 0, 0)) rfl) rfl rfl).trans ?_
  refine (wr_getA (n' := 26) rfl (t := 56) hR (zcode_of mc_172 (r := (.getfield 110, 12, 36, 0)) rfl) rfl rfl).trans ?_
  refine (wp_s (n := 27) (zcode_of mc_172 (r := (.iload_n 3, 0, 0, 0)) rfl) rfl rfl).trans ?_
  refine (wp_s (n := 28) (zcode_of mc_172 (r := (.aload_n 0, 0, 0, 0)) rfl) rfl rfl).trans ?_
  refine (wp_s (n := 29) (zcode_of mc_172 (r := (.iload_n 1, 0, 0, 0)) rfl) rfl rfl).trans ?_
  refine (wp_s (n := 30) (zcode_of mc_172 (r := (.iload_n 2, 0, 0, 0)) rfl) rfl rfl).trans ?_
  exact wp_call (q := ([.ref o, .int x1, .int x2], [.int (sc 32), .ref (rad o 56)])) (zcode_of mc_172 (r := (.invokevirtual 221, 147, 0, 2)) rfl) rfl (zCa_V (Nat.le_of_ble_eq_true rfl) rfl hR.tg) ⟨Nat.le_of_ble_eq_true rfl, Nat.le_of_ble_eq_true rfl⟩
theorem b172_33 {σ : zSt} {o : Nat} {sc : Nat → Int32} {ar : Nat → Nat → Int32} {P : Option Value → zSt → Prop} (hR : RShape σ o) {x1 x2 x3 s0 s1 : Int32} {u4 : Option Value} :
    wp 172 33 [some (.ref o), some (.int x1), some (.int x2), some (.int x3), u4] [.int s0, .int s1, .ref (rad o 56)] (rOv σ o sc ar) P ↔ (zIn s1 (rlen 56) ∧ wpM 149 [.ref o, .int x1, .int x2] (rOv σ o sc (upA ar 56 (Int32.toNatClampNeg s1) s0)) (fun r τ => wp 172 40 [some (.ref o), some (.int x1), some (.int x2), some (.int x3), u4] (r.toList ++ []) τ P)) := by
  refine (wr_st (n' := 34) rfl hR (zcode_of mc_172 (r := (.iastore, 0, 0, 0)) rfl) rfl rfl).trans (and_congr Iff.rfl ?_)
  refine (wp_s (n := 35) (zcode_of mc_172 (r := (.aload_n 0, 0, 0, 0)) rfl) rfl rfl).trans ?_
  refine (wp_s (n := 36) (zcode_of mc_172 (r := (.iload_n 1, 0, 0, 0)) rfl) rfl rfl).trans ?_
  refine (wp_s (n := 37) (zcode_of mc_172 (r := (.iload_n 2, 0, 0, 0)) rfl) rfl rfl).trans ?_
  exact wp_call (q := ([.ref o, .int x1, .int x2], [])) (zcode_of mc_172 (r := (.invokevirtual 287, 149, 0, 2)) rfl) rfl (zCa_V (Nat.le_of_ble_eq_true rfl) rfl hR.tg) ⟨Nat.le_of_ble_eq_true rfl, Nat.le_of_ble_eq_true rfl⟩
theorem b172_40 {σ : zSt} {o : Nat} {sc : Nat → Int32} {ar : Nat → Nat → Int32} {P : Option Value → zSt → Prop} (hR : RShape σ o) {x1 x2 x3 : Int32} {u4 : Option Value} :
    wp 172 40 [some (.ref o), some (.int x1), some (.int x2), some (.int x3), u4] [] (rOv σ o sc ar) P ↔ wpM 167 [.ref o] (rOv σ o sc ar) (fun r τ => wp 172 44 [some (.ref o), some (.int x1), some (.int x2), some (.int x3), u4] (r.toList ++ []) τ P) := by
  refine (wp_s (n := 41) (zcode_of mc_172 (r := (.aload_n 0, 0, 0, 0)) rfl) rfl rfl).trans ?_
  exact wp_call (q := ([.ref o], [])) (zcode_of mc_172 (r := (.invokevirtual 290, 167, 0, 0)) rfl) rfl (zCa_V (Nat.le_of_ble_eq_true rfl) rfl hR.tg) ⟨Nat.le_of_ble_eq_true rfl, Nat.le_of_ble_eq_true rfl⟩
theorem b172_44 {σ : zSt} {o : Nat} {sc : Nat → Int32} {ar : Nat → Nat → Int32} {P : Option Value → zSt → Prop} (hR : RShape σ o) {x1 x2 x3 s0 : Int32} {u4 : Option Value} :
    wp 172 44 [some (.ref o), some (.int x1), some (.int x2), some (.int x3), u4] [.int s0] (rOv σ o sc ar) P ↔ (if ¬ s0 = (-1) then wp 172 61 [some (.ref o), some (.int x1), some (.int x2), some (.int x3), some (.int s0)] [.int x3, .ref (rad o 54)] (rOv σ o sc ar) P else wp 172 57 [some (.ref o), some (.int x1), some (.int x2), some (.int x3), some (.int s0)] [.int x3, .ref (rad o 54)] (rOv σ o sc ar) P) := by
  refine (wp_s (n := 46) (zcode_of mc_172 (r := (.istore 4, 0, 0, 0)) rfl) rfl rfl).trans ?_
  refine (wp_s (n := 47) (zcode_of mc_172 (r := (.aload_n 0, 0, 0, 0)) rfl) rfl rfl).trans ?_
  refine (wr_getA (n' := 50) rfl (t := 54) hR (zcode_of mc_172 (r := (.getfield 104, 12, 34, 0)) rfl) rfl rfl).trans ?_
  refine (wp_s (n := 51) (zcode_of mc_172 (r := (.iload_n 3, 0, 0, 0)) rfl) rfl rfl).trans ?_
  refine (wp_s (n := 53) (zcode_of mc_172 (r := (.iload 4, 0, 0, 0)) rfl) rfl rfl).trans ?_
  refine (wp_ic (n' := 54) rfl (zcode_of mc_172 (r := (.iconst (-1), 0, 0, 0)) rfl) ci_m1).trans ?_
  exact wp_jump (off := 7) (t := 61) (zcode_of mc_172 (r := (.if_icmp .ne 7, 0, 0, 0)) rfl) rfl rfl (by decide)
theorem b172_57 {σ : zSt} {o : Nat} {sc : Nat → Int32} {ar : Nat → Nat → Int32} {P : Option Value → zSt → Prop} (hR : RShape σ o) {x1 x2 x3 x4 s0 : Int32} :
    wp 172 57 [some (.ref o), some (.int x1), some (.int x2), some (.int x3), some (.int x4)] [.int s0, .ref (rad o 54)] (rOv σ o sc ar) P ↔ wp 172 62 [some (.ref o), some (.int x1), some (.int x2), some (.int x3), some (.int x4)] [.int 1, .int s0, .ref (rad o 54)] (rOv σ o sc ar) P := by
  refine (wp_ic (n' := 58) rfl (zcode_of mc_172 (r := (.iconst 1, 0, 0, 0)) rfl) ci_1).trans ?_
  exact wp_goto (off := 4) (t := 62) (zcode_of mc_172 (r := (.goto 4, 0, 0, 0)) rfl) (by decide)
theorem b172_61 {σ : zSt} {o : Nat} {sc : Nat → Int32} {ar : Nat → Nat → Int32} {P : Option Value → zSt → Prop} (hR : RShape σ o) {x1 x2 x3 x4 s0 : Int32} :
    wp 172 61 [some (.ref o), some (.int x1), some (.int x2), some (.int x3), some (.int x4)] [.int s0, .ref (rad o 54)] (rOv σ o sc ar) P ↔ wp 172 62 [some (.ref o), some (.int x1), some (.int x2), some (.int x3), some (.int x4)] [.int 0, .int s0, .ref (rad o 54)] (rOv σ o sc ar) P := by
  refine (wp_ic (n' := 62) rfl (zcode_of mc_172 (r := (.iconst 0, 0, 0, 0)) rfl) ci_0).trans ?_
  exact Iff.rfl
theorem b172_62 {σ : zSt} {o : Nat} {sc : Nat → Int32} {ar : Nat → Nat → Int32} {P : Option Value → zSt → Prop} (hR : RShape σ o) {x1 x2 x3 x4 s0 s1 : Int32} :
    wp 172 62 [some (.ref o), some (.int x1), some (.int x2), some (.int x3), some (.int x4)] [.int s0, .int s1, .ref (rad o 54)] (rOv σ o sc ar) P ↔ (zIn s1 (rlen 54) ∧ (if ¬ x4 = (-1) then wp 172 93 [some (.ref o), some (.int x1), some (.int x2), some (.int x3), some (.int x4)] [] (rOv σ o sc (upA ar 54 (Int32.toNatClampNeg s1) s0)) P else wp 172 69 [some (.ref o), some (.int x1), some (.int x2), some (.int x3), some (.int x4)] [] (rOv σ o sc (upA ar 54 (Int32.toNatClampNeg s1) s0)) P)) := by
  refine (wr_st (n' := 63) rfl hR (zcode_of mc_172 (r := (.iastore, 0, 0, 0)) rfl) rfl rfl).trans (and_congr Iff.rfl ?_)
  refine (wp_s (n := 65) (zcode_of mc_172 (r := (.iload 4, 0, 0, 0)) rfl) rfl rfl).trans ?_
  refine (wp_ic (n' := 66) rfl (zcode_of mc_172 (r := (.iconst (-1), 0, 0, 0)) rfl) ci_m1).trans ?_
  exact wp_jump (off := 27) (t := 93) (zcode_of mc_172 (r := (.if_icmp .ne 27, 0, 0, 0)) rfl) rfl rfl (by decide)
theorem b172_69 {σ : zSt} {o : Nat} {sc : Nat → Int32} {ar : Nat → Nat → Int32} {P : Option Value → zSt → Prop} (hR : RShape σ o) {x1 x2 x3 x4 : Int32} :
    wp 172 69 [some (.ref o), some (.int x1), some (.int x2), some (.int x3), some (.int x4)] [] (rOv σ o sc ar) P ↔ wpM 162 [.ref o, .int x1, .int x2] (rOv σ o sc ar) (fun r τ => wp 172 75 [some (.ref o), some (.int x1), some (.int x2), some (.int x3), some (.int x4)] (r.toList ++ []) τ P) := by
  refine (wp_s (n := 70) (zcode_of mc_172 (r := (.aload_n 0, 0, 0, 0)) rfl) rfl rfl).trans ?_
  refine (wp_s (n := 71) (zcode_of mc_172 (r := (.iload_n 1, 0, 0, 0)) rfl) rfl rfl).trans ?_
  refine (wp_s (n := 72) (zcode_of mc_172 (r := (.iload_n 2, 0, 0, 0)) rfl) rfl rfl).trans ?_
  exact wp_call (q := ([.ref o, .int x1, .int x2], [])) (zcode_of mc_172 (r := (.invokevirtual 293, 162, 0, 2)) rfl) rfl (zCa_V (Nat.le_of_ble_eq_true rfl) rfl hR.tg) ⟨Nat.le_of_ble_eq_true rfl, Nat.le_of_ble_eq_true rfl⟩
theorem b172_75 {σ : zSt} {o : Nat} {sc : Nat → Int32} {ar : Nat → Nat → Int32} {P : Option Value → zSt → Prop} (hR : RShape σ o) {x1 x2 x3 x4 : Int32} :
    wp 172 75 [some (.ref o), some (.int x1), some (.int x2), some (.int x3), some (.int x4)] [] (rOv σ o sc ar) P ↔ wpM 168 [.ref o, .int x2] (rOv σ o sc ar) (fun r τ => wp 172 80 [some (.ref o), some (.int x1), some (.int x2), some (.int x3), some (.int x4)] (r.toList ++ []) τ P) := by
  refine (wp_s (n := 76) (zcode_of mc_172 (r := (.aload_n 0, 0, 0, 0)) rfl) rfl rfl).trans ?_
  refine (wp_s (n := 77) (zcode_of mc_172 (r := (.iload_n 2, 0, 0, 0)) rfl) rfl rfl).trans ?_
  exact wp_call (q := ([.ref o, .int x2], [])) (zcode_of mc_172 (r := (.invokevirtual 296, 168, 0, 1)) rfl) rfl (zCa_V (Nat.le_of_ble_eq_true rfl) rfl hR.tg) ⟨Nat.le_of_ble_eq_true rfl, Nat.le_of_ble_eq_true rfl⟩
theorem b172_80 {σ : zSt} {o : Nat} {sc : Nat → Int32} {ar : Nat → Nat → Int32} {P : Option Value → zSt → Prop} (hR : RShape σ o) {x1 x2 x3 x4 : Int32} :
    wp 172 80 [some (.ref o), some (.int x1), some (.int x2), some (.int x3), some (.int x4)] [] (rOv σ o sc ar) P ↔ wp 172 109 [some (.ref o), some (.int x1), some (.int x2), some (.int x3), some (.int x4)] [] (rOv σ o (upS sc 37 ((sc 37) + 1)) ar) P := by
  refine (wp_s (n := 81) (zcode_of mc_172 (r := (.aload_n 0, 0, 0, 0)) rfl) rfl rfl).trans ?_
  refine (wp_s (n := 82) (zcode_of mc_172 (r := (.dup, 0, 0, 0)) rfl) rfl rfl).trans ?_
  refine (wr_getI (n' := 85) rfl hR (zcode_of mc_172 (r := (.getfield 299, 12, 37, 0)) rfl) rfl).trans ?_
  refine (wp_ic (n' := 86) rfl (zcode_of mc_172 (r := (.iconst 1, 0, 0, 0)) rfl) ci_1).trans ?_
  refine (wp_s (n := 87) (zcode_of mc_172 (r := (.iadd, 0, 0, 0)) rfl) rfl rfl).trans ?_
  refine (wr_put (n' := 90) rfl hR (zcode_of mc_172 (r := (.putfield 299, 12, 37, 0)) rfl) rfl).trans ?_
  exact wp_goto (off := 19) (t := 109) (zcode_of mc_172 (r := (.goto 19, 0, 0, 0)) rfl) (by decide)
theorem b172_93 {σ : zSt} {o : Nat} {sc : Nat → Int32} {ar : Nat → Nat → Int32} {P : Option Value → zSt → Prop} (hR : RShape σ o) {x1 x2 x3 x4 : Int32} :
    wp 172 93 [some (.ref o), some (.int x1), some (.int x2), some (.int x3), some (.int x4)] [] (rOv σ o sc ar) P ↔ wpM 169 [.ref o, .int x4] (rOv σ o sc ar) (fun r τ => wp 172 99 [some (.ref o), some (.int x1), some (.int x2), some (.int x3), some (.int x4)] (r.toList ++ []) τ P) := by
  refine (wp_s (n := 94) (zcode_of mc_172 (r := (.aload_n 0, 0, 0, 0)) rfl) rfl rfl).trans ?_
  refine (wp_s (n := 96) (zcode_of mc_172 (r := (.iload 4, 0, 0, 0)) rfl) rfl rfl).trans ?_
  exact wp_call (q := ([.ref o, .int x4], [])) (zcode_of mc_172 (r := (.invokevirtual 302, 169, 0, 1)) rfl) rfl (zCa_V (Nat.le_of_ble_eq_true rfl) rfl hR.tg) ⟨Nat.le_of_ble_eq_true rfl, Nat.le_of_ble_eq_true rfl⟩
theorem b172_99 {σ : zSt} {o : Nat} {sc : Nat → Int32} {ar : Nat → Nat → Int32} {P : Option Value → zSt → Prop} (hR : RShape σ o) {x1 x2 x3 x4 : Int32} :
    wp 172 99 [some (.ref o), some (.int x1), some (.int x2), some (.int x3), some (.int x4)] [] (rOv σ o sc ar) P ↔ wp 172 109 [some (.ref o), some (.int x1), some (.int x2), some (.int x3), some (.int x4)] [] (rOv σ o (upS sc 38 ((sc 38) + 1)) ar) P := by
  refine (wp_s (n := 100) (zcode_of mc_172 (r := (.aload_n 0, 0, 0, 0)) rfl) rfl rfl).trans ?_
  refine (wp_s (n := 101) (zcode_of mc_172 (r := (.dup, 0, 0, 0)) rfl) rfl rfl).trans ?_
  refine (wr_getI (n' := 104) rfl hR (zcode_of mc_172 (r := (.getfield 305, 12, 38, 0)) rfl) rfl).trans ?_
  refine (wp_ic (n' := 105) rfl (zcode_of mc_172 (r := (.iconst 1, 0, 0, 0)) rfl) ci_1).trans ?_
  refine (wp_s (n := 106) (zcode_of mc_172 (r := (.iadd, 0, 0, 0)) rfl) rfl rfl).trans ?_
  refine (wr_put (n' := 109) rfl hR (zcode_of mc_172 (r := (.putfield 305, 12, 38, 0)) rfl) rfl).trans ?_
  exact Iff.rfl
theorem b172_109 {σ : zSt} {o : Nat} {sc : Nat → Int32} {ar : Nat → Nat → Int32} {P : Option Value → zSt → Prop} (hR : RShape σ o) {x1 x2 x3 x4 : Int32} :
    wp 172 109 [some (.ref o), some (.int x1), some (.int x2), some (.int x3), some (.int x4)] [] (rOv σ o sc ar) P ↔ (zIn x3 (rlen 55) ∧ wpM 163 [.ref o, .int x1, .int x2] (rOv σ o sc (upA ar 55 (Int32.toNatClampNeg x3) (sc 49))) (fun r τ => wp 172 125 [some (.ref o), some (.int x1), some (.int x2), some (.int x3), some (.int x4)] (r.toList ++ []) τ P)) := by
  refine (wp_s (n := 110) (zcode_of mc_172 (r := (.aload_n 0, 0, 0, 0)) rfl) rfl rfl).trans ?_
  refine (wr_getA (n' := 113) rfl (t := 55) hR (zcode_of mc_172 (r := (.getfield 107, 12, 35, 0)) rfl) rfl rfl).trans ?_
  refine (wp_s (n := 114) (zcode_of mc_172 (r := (.iload_n 3, 0, 0, 0)) rfl) rfl rfl).trans ?_
  refine (wp_s (n := 115) (zcode_of mc_172 (r := (.aload_n 0, 0, 0, 0)) rfl) rfl rfl).trans ?_
  refine (wr_getI (n' := 118) rfl hR (zcode_of mc_172 (r := (.getfield 228, 12, 49, 0)) rfl) rfl).trans ?_
  refine (wr_st (n' := 119) rfl hR (zcode_of mc_172 (r := (.iastore, 0, 0, 0)) rfl) rfl rfl).trans (and_congr Iff.rfl ?_)
  refine (wp_s (n := 120) (zcode_of mc_172 (r := (.aload_n 0, 0, 0, 0)) rfl) rfl rfl).trans ?_
  refine (wp_s (n := 121) (zcode_of mc_172 (r := (.iload_n 1, 0, 0, 0)) rfl) rfl rfl).trans ?_
  refine (wp_s (n := 122) (zcode_of mc_172 (r := (.iload_n 2, 0, 0, 0)) rfl) rfl rfl).trans ?_
  exact wp_call (q := ([.ref o, .int x1, .int x2], [])) (zcode_of mc_172 (r := (.invokevirtual 308, 163, 0, 2)) rfl) rfl (zCa_V (Nat.le_of_ble_eq_true rfl) rfl hR.tg) ⟨Nat.le_of_ble_eq_true rfl, Nat.le_of_ble_eq_true rfl⟩
theorem b172_125 {σ : zSt} {o : Nat} {sc : Nat → Int32} {ar : Nat → Nat → Int32} {P : Option Value → zSt → Prop} (hR : RShape σ o) {x1 x2 x3 x4 : Int32} :
    wp 172 125 [some (.ref o), some (.int x1), some (.int x2), some (.int x3), some (.int x4)] [] (rOv σ o sc ar) P ↔ ((zIn x2 (rlen 73) ∧ ((1 : Int32) = 0 ∨ (1 : Int32) = 1)) ∧ P none (rOv σ o sc (upA ar 73 (Int32.toNatClampNeg x2) 1))) := by
  refine (wp_s (n := 126) (zcode_of mc_172 (r := (.aload_n 0, 0, 0, 0)) rfl) rfl rfl).trans ?_
  refine (wr_getA (n' := 129) rfl (t := 73) hR (zcode_of mc_172 (r := (.getfield 137, 12, 53, 0)) rfl) rfl rfl).trans ?_
  refine (wp_s (n := 130) (zcode_of mc_172 (r := (.iload_n 2, 0, 0, 0)) rfl) rfl rfl).trans ?_
  refine (wp_ic (n' := 131) rfl (zcode_of mc_172 (r := (.iconst 1, 0, 0, 0)) rfl) ci_1).trans ?_
  refine (wr_stZ (n' := 132) rfl hR (zcode_of mc_172 (r := (.bastore, 0, 0, 0)) rfl) rfl rfl).trans (and_congr Iff.rfl ?_)
  exact wp_retV (zcode_of mc_172 (r := (.return_, 0, 0, 0)) rfl) rfl
theorem mc_173 : mCode 173 = zc_173 := rfl
theorem b173 {σ : zSt} {o : Nat} {sc : Nat → Int32} {ar : Nat → Nat → Int32} {P : Option Value → zSt → Prop} (hR : RShape σ o) {x1 x2 : Int32} :
    wpM 173 [.ref o, .int x1, .int x2] (rOv σ o sc ar) P ↔ wpM 113 [.int x1, .int 0, .int 1] (rOv σ o sc ar) (fun r τ => wp 173 6 [some (.ref o), some (.int x1), some (.int x2), none, none] (r.toList ++ []) τ P) := by
  show wp 173 0 [some (.ref o), some (.int x1), some (.int x2), none, none] [] (rOv σ o sc ar) P ↔ _
  refine (wp_s (n := 1) (zcode_of mc_173 (r := (.iload_n 1, 0, 0, 0)) rfl) rfl rfl).trans ?_
  refine (wp_ic (n' := 2) rfl (zcode_of mc_173 (r := (.iconst 0, 0, 0, 0)) rfl) ci_0).trans ?_
  refine (wp_ic (n' := 3) rfl (zcode_of mc_173 (r := (.iconst 1, 0, 0, 0)) rfl) ci_1).trans ?_
  exact wp_call (q := ([.int x1, .int 0, .int 1], [])) (zcode_of mc_173 (r := (.invokestatic 140, 113, 1, 3)) rfl) rfl rfl ⟨Nat.le_of_ble_eq_true rfl, Nat.le_of_ble_eq_true rfl⟩
theorem b173_6 {σ : zSt} {o : Nat} {sc : Nat → Int32} {ar : Nat → Nat → Int32} {P : Option Value → zSt → Prop} (hR : RShape σ o) {x1 x2 s0 : Int32} {u3 u4 : Option Value} :
    wp 173 6 [some (.ref o), some (.int x1), some (.int x2), u3, u4] [.int s0] (rOv σ o sc ar) P ↔ (if s0 = 0 then wp 173 22 [some (.ref o), some (.int x1), some (.int x2), u3, u4] [] (rOv σ o sc ar) P else wp 173 9 [some (.ref o), some (.int x1), some (.int x2), u3, u4] [] (rOv σ o sc ar) P) := by
  exact wp_jump (off := 16) (t := 22) (zcode_of mc_173 (r := (.ifCond .eq 16, 0, 0, 0)) rfl) rfl rfl (by decide)
theorem b173_9 {σ : zSt} {o : Nat} {sc : Nat → Int32} {ar : Nat → Nat → Int32} {P : Option Value → zSt → Prop} (hR : RShape σ o) {x1 x2 : Int32} {u3 u4 : Option Value} :
    wp 173 9 [some (.ref o), some (.int x1), some (.int x2), u3, u4] [] (rOv σ o sc ar) P ↔ (if x2 = (-1) then wp 173 25 [some (.ref o), some (.int x1), some (.int x2), u3, u4] [] (rOv σ o sc ar) P else wp 173 14 [some (.ref o), some (.int x1), some (.int x2), u3, u4] [] (rOv σ o sc ar) P) := by
  refine (wp_s (n := 10) (zcode_of mc_173 (r := (.iload_n 2, 0, 0, 0)) rfl) rfl rfl).trans ?_
  refine (wp_ic (n' := 11) rfl (zcode_of mc_173 (r := (.iconst (-1), 0, 0, 0)) rfl) ci_m1).trans ?_
  exact wp_jump (off := 14) (t := 25) (zcode_of mc_173 (r := (.if_icmp .eq 14, 0, 0, 0)) rfl) rfl rfl (by decide)
theorem b173_14 {σ : zSt} {o : Nat} {sc : Nat → Int32} {ar : Nat → Nat → Int32} {P : Option Value → zSt → Prop} (hR : RShape σ o) {x1 x2 : Int32} {u3 u4 : Option Value} :
    wp 173 14 [some (.ref o), some (.int x1), some (.int x2), u3, u4] [] (rOv σ o sc ar) P ↔ wpM 114 [.ref o, .int x2] (rOv σ o sc ar) (fun r τ => wp 173 19 [some (.ref o), some (.int x1), some (.int x2), u3, u4] (r.toList ++ []) τ P) := by
  refine (wp_s (n := 15) (zcode_of mc_173 (r := (.aload_n 0, 0, 0, 0)) rfl) rfl rfl).trans ?_
  refine (wp_s (n := 16) (zcode_of mc_173 (r := (.iload_n 2, 0, 0, 0)) rfl) rfl rfl).trans ?_
  exact wp_call (q := ([.ref o, .int x2], [])) (zcode_of mc_173 (r := (.invokevirtual 147, 114, 0, 1)) rfl) rfl (zCa_V (Nat.le_of_ble_eq_true rfl) rfl hR.tg) ⟨Nat.le_of_ble_eq_true rfl, Nat.le_of_ble_eq_true rfl⟩
theorem b173_19 {σ : zSt} {o : Nat} {sc : Nat → Int32} {ar : Nat → Nat → Int32} {P : Option Value → zSt → Prop} (hR : RShape σ o) {x1 x2 s0 : Int32} {u3 u4 : Option Value} :
    wp 173 19 [some (.ref o), some (.int x1), some (.int x2), u3, u4] [.int s0] (rOv σ o sc ar) P ↔ (if ¬ s0 = 0 then wp 173 25 [some (.ref o), some (.int x1), some (.int x2), u3, u4] [] (rOv σ o sc ar) P else wp 173 22 [some (.ref o), some (.int x1), some (.int x2), u3, u4] [] (rOv σ o sc ar) P) := by
  exact wp_jump (off := 6) (t := 25) (zcode_of mc_173 (r := (.ifCond .ne 6, 0, 0, 0)) rfl) rfl rfl (by decide)
theorem b173_22 {σ : zSt} {o : Nat} {sc : Nat → Int32} {ar : Nat → Nat → Int32} {P : Option Value → zSt → Prop} (hR : RShape σ o) {x1 x2 : Int32} {u3 u4 : Option Value} :
    wp 173 22 [some (.ref o), some (.int x1), some (.int x2), u3, u4] [] (rOv σ o sc ar) P ↔ P (some (.int (-2))) (rOv σ o sc ar) := by
  refine (wp_bp (n' := 24) rfl (zcode_of mc_173 (r := (.bipush (-2), 0, 0, 0)) rfl) cb_m2).trans ?_
  exact wp_retI (zcode_of mc_173 (r := (.ireturn, 0, 0, 0)) rfl) rfl
theorem b173_25 {σ : zSt} {o : Nat} {sc : Nat → Int32} {ar : Nat → Nat → Int32} {P : Option Value → zSt → Prop} (hR : RShape σ o) {x1 x2 : Int32} {u3 u4 : Option Value} :
    wp 173 25 [some (.ref o), some (.int x1), some (.int x2), u3, u4] [] (rOv σ o sc ar) P ↔ wpM 170 [.ref o, .int x2] (rOv σ o (upS (upS sc 32 0) 40 (((upS sc 32 0) 40) + 1)) ar) (fun r τ => wp 173 50 [some (.ref o), some (.int x1), some (.int x2), some (.int ((upS (upS sc 32 0) 40 (((upS sc 32 0) 40) + 1)) 37)), u4] (r.toList ++ []) τ P) := by
  refine (wp_s (n := 26) (zcode_of mc_173 (r := (.aload_n 0, 0, 0, 0)) rfl) rfl rfl).trans ?_
  refine (wp_ic (n' := 27) rfl (zcode_of mc_173 (r := (.iconst 0, 0, 0, 0)) rfl) ci_0).trans ?_
  refine (wr_put (n' := 30) rfl hR (zcode_of mc_173 (r := (.putfield 284, 12, 32, 0)) rfl) rfl).trans ?_
  refine (wp_s (n := 31) (zcode_of mc_173 (r := (.aload_n 0, 0, 0, 0)) rfl) rfl rfl).trans ?_
  refine (wp_s (n := 32) (zcode_of mc_173 (r := (.dup, 0, 0, 0)) rfl) rfl rfl).trans ?_
  refine (wr_getI (n' := 35) rfl hR (zcode_of mc_173 (r := (.getfield 311, 12, 40, 0)) rfl) rfl).trans ?_
  refine (wp_ic (n' := 36) rfl (zcode_of mc_173 (r := (.iconst 1, 0, 0, 0)) rfl) ci_1).trans ?_
  refine (wp_s (n := 37) (zcode_of mc_173 (r := (.iadd, 0, 0, 0)) rfl) rfl rfl).trans ?_
  refine (wr_put (n' := 40) rfl hR (zcode_of mc_173 (r := (.putfield 311, 12, 40, 0)) rfl) rfl).trans ?_
  refine (wp_s (n := 41) (zcode_of mc_173 (r := (.aload_n 0, 0, 0, 0)) rfl) rfl rfl).trans ?_
  refine (wr_getI (n' := 44) rfl hR (zcode_of mc_173 (r := (.getfield 299, 12, 37, 0)) rfl) rfl).trans ?_
  refine (wp_s (n := 45) (zcode_of mc_173 (r := (.istore_n 3, 0, 0, 0)) rfl) rfl rfl).trans ?_
  refine (wp_s (n := 46) (zcode_of mc_173 (r := (.aload_n 0, 0, 0, 0)) rfl) rfl rfl).trans ?_
  refine (wp_s (n := 47) (zcode_of mc_173 (r := (.iload_n 2, 0, 0, 0)) rfl) rfl rfl).trans ?_
  exact wp_call (q := ([.ref o, .int x2], [])) (zcode_of mc_173 (r := (.invokevirtual 314, 170, 0, 1)) rfl) rfl (zCa_V (Nat.le_of_ble_eq_true rfl) rfl hR.tg) ⟨Nat.le_of_ble_eq_true rfl, Nat.le_of_ble_eq_true rfl⟩
theorem b173_50 {σ : zSt} {o : Nat} {sc : Nat → Int32} {ar : Nat → Nat → Int32} {P : Option Value → zSt → Prop} (hR : RShape σ o) {x1 x2 x3 : Int32} {u4 : Option Value} :
    wp 173 50 [some (.ref o), some (.int x1), some (.int x2), some (.int x3), u4] [] (rOv σ o sc ar) P ↔ wpM 171 [.ref o] (rOv σ o sc ar) (fun r τ => wp 173 54 [some (.ref o), some (.int x1), some (.int x2), some (.int x3), u4] (r.toList ++ []) τ P) := by
  refine (wp_s (n := 51) (zcode_of mc_173 (r := (.aload_n 0, 0, 0, 0)) rfl) rfl rfl).trans ?_
  exact wp_call (q := ([.ref o], [])) (zcode_of mc_173 (r := (.invokevirtual 317, 171, 0, 0)) rfl) rfl (zCa_V (Nat.le_of_ble_eq_true rfl) rfl hR.tg) ⟨Nat.le_of_ble_eq_true rfl, Nat.le_of_ble_eq_true rfl⟩
theorem b173_54 {σ : zSt} {o : Nat} {sc : Nat → Int32} {ar : Nat → Nat → Int32} {P : Option Value → zSt → Prop} (hR : RShape σ o) {x1 x2 x3 s0 : Int32} {u4 : Option Value} :
    wp 173 54 [some (.ref o), some (.int x1), some (.int x2), some (.int x3), u4] [.int s0] (rOv σ o sc ar) P ↔ wp 173 56 [some (.ref o), some (.int x1), some (.int x2), some (.int x3), some (.int s0)] [] (rOv σ o sc ar) P := by
  refine (wp_s (n := 56) (zcode_of mc_173 (r := (.istore 4, 0, 0, 0)) rfl) rfl rfl).trans ?_
  exact Iff.rfl
theorem b173_56 {σ : zSt} {o : Nat} {sc : Nat → Int32} {ar : Nat → Nat → Int32} {P : Option Value → zSt → Prop} (hR : RShape σ o) {x1 x2 x3 x4 : Int32} :
    wp 173 56 [some (.ref o), some (.int x1), some (.int x2), some (.int x3), some (.int x4)] [] (rOv σ o sc ar) P ↔ (if x4 = (-1) then wp 173 78 [some (.ref o), some (.int x1), some (.int x2), some (.int x3), some (.int x4)] [] (rOv σ o sc ar) P else wp 173 62 [some (.ref o), some (.int x1), some (.int x2), some (.int x3), some (.int x4)] [] (rOv σ o sc ar) P) := by
  refine (wp_s (n := 58) (zcode_of mc_173 (r := (.iload 4, 0, 0, 0)) rfl) rfl rfl).trans ?_
  refine (wp_ic (n' := 59) rfl (zcode_of mc_173 (r := (.iconst (-1), 0, 0, 0)) rfl) ci_m1).trans ?_
  exact wp_jump (off := 19) (t := 78) (zcode_of mc_173 (r := (.if_icmp .eq 19, 0, 0, 0)) rfl) rfl rfl (by decide)
theorem b173_62 {σ : zSt} {o : Nat} {sc : Nat → Int32} {ar : Nat → Nat → Int32} {P : Option Value → zSt → Prop} (hR : RShape σ o) {x1 x2 x3 x4 : Int32} :
    wp 173 62 [some (.ref o), some (.int x1), some (.int x2), some (.int x3), some (.int x4)] [] (rOv σ o sc ar) P ↔ wpM 172 [.ref o, .int x1, .int x4] (rOv σ o sc ar) (fun r τ => wp 173 69 [some (.ref o), some (.int x1), some (.int x2), some (.int x3), some (.int x4)] (r.toList ++ []) τ P) := by
  refine (wp_s (n := 63) (zcode_of mc_173 (r := (.aload_n 0, 0, 0, 0)) rfl) rfl rfl).trans ?_
  refine (wp_s (n := 64) (zcode_of mc_173 (r := (.iload_n 1, 0, 0, 0)) rfl) rfl rfl).trans ?_
  refine (wp_s (n := 66) (zcode_of mc_173 (r := (.iload 4, 0, 0, 0)) rfl) rfl rfl).trans ?_
  exact wp_call (q := ([.ref o, .int x1, .int x4], [])) (zcode_of mc_173 (r := (.invokevirtual 320, 172, 0, 2)) rfl) rfl (zCa_V (Nat.le_of_ble_eq_true rfl) rfl hR.tg) ⟨Nat.le_of_ble_eq_true rfl, Nat.le_of_ble_eq_true rfl⟩
theorem b173_69 {σ : zSt} {o : Nat} {sc : Nat → Int32} {ar : Nat → Nat → Int32} {P : Option Value → zSt → Prop} (hR : RShape σ o) {x1 x2 x3 x4 : Int32} :
    wp 173 69 [some (.ref o), some (.int x1), some (.int x2), some (.int x3), some (.int x4)] [] (rOv σ o sc ar) P ↔ wpM 171 [.ref o] (rOv σ o sc ar) (fun r τ => wp 173 73 [some (.ref o), some (.int x1), some (.int x2), some (.int x3), some (.int x4)] (r.toList ++ []) τ P) := by
  refine (wp_s (n := 70) (zcode_of mc_173 (r := (.aload_n 0, 0, 0, 0)) rfl) rfl rfl).trans ?_
  exact wp_call (q := ([.ref o], [])) (zcode_of mc_173 (r := (.invokevirtual 317, 171, 0, 0)) rfl) rfl (zCa_V (Nat.le_of_ble_eq_true rfl) rfl hR.tg) ⟨Nat.le_of_ble_eq_true rfl, Nat.le_of_ble_eq_true rfl⟩
theorem b173_73 {σ : zSt} {o : Nat} {sc : Nat → Int32} {ar : Nat → Nat → Int32} {P : Option Value → zSt → Prop} (hR : RShape σ o) {x1 x2 x3 x4 s0 : Int32} :
    wp 173 73 [some (.ref o), some (.int x1), some (.int x2), some (.int x3), some (.int x4)] [.int s0] (rOv σ o sc ar) P ↔ wp 173 56 [some (.ref o), some (.int x1), some (.int x2), some (.int x3), some (.int s0)] [] (rOv σ o sc ar) P := by
  refine (wp_s (n := 75) (zcode_of mc_173 (r := (.istore 4, 0, 0, 0)) rfl) rfl rfl).trans ?_
  exact wp_goto (off := (-19)) (t := 56) (zcode_of mc_173 (r := (.goto (-19), 0, 0, 0)) rfl) (by decide)
theorem b173_78 {σ : zSt} {o : Nat} {sc : Nat → Int32} {ar : Nat → Nat → Int32} {P : Option Value → zSt → Prop} (hR : RShape σ o) {x1 x2 x3 x4 : Int32} :
    wp 173 78 [some (.ref o), some (.int x1), some (.int x2), some (.int x3), some (.int x4)] [] (rOv σ o sc ar) P ↔ P (some (.int ((sc 37) - x3))) (rOv σ o sc ar) := by
  refine (wp_s (n := 79) (zcode_of mc_173 (r := (.aload_n 0, 0, 0, 0)) rfl) rfl rfl).trans ?_
  refine (wr_getI (n' := 82) rfl hR (zcode_of mc_173 (r := (.getfield 299, 12, 37, 0)) rfl) rfl).trans ?_
  refine (wp_s (n := 83) (zcode_of mc_173 (r := (.iload_n 3, 0, 0, 0)) rfl) rfl rfl).trans ?_
  refine (wp_s (n := 84) (zcode_of mc_173 (r := (.isub, 0, 0, 0)) rfl) rfl rfl).trans ?_
  exact wp_retI (zcode_of mc_173 (r := (.ireturn, 0, 0, 0)) rfl) rfl
theorem mc_174 : mCode 174 = zc_174 := rfl
theorem b174 {σ : zSt} {o : Nat} {sc : Nat → Int32} {ar : Nat → Nat → Int32} {P : Option Value → zSt → Prop} (hR : RShape σ o) {x1 x2 : Int32} :
    wpM 174 [.ref o, .int x1, .int x2] (rOv σ o sc ar) P ↔ wpM 113 [.int x1, .int 0, .int ((sc 32) - 1)] (rOv σ o sc ar) (fun r τ => wp 174 11 [some (.ref o), some (.int x1), some (.int x2)] (r.toList ++ []) τ P) := by
  show wp 174 0 [some (.ref o), some (.int x1), some (.int x2)] [] (rOv σ o sc ar) P ↔ _
  refine (wp_s (n := 1) (zcode_of mc_174 (r := (.iload_n 1, 0, 0, 0)) rfl) rfl rfl).trans ?_
  refine (wp_ic (n' := 2) rfl (zcode_of mc_174 (r := (.iconst 0, 0, 0, 0)) rfl) ci_0).trans ?_
  refine (wp_s (n := 3) (zcode_of mc_174 (r := (.aload_n 0, 0, 0, 0)) rfl) rfl rfl).trans ?_
  refine (wr_getI (n' := 6) rfl hR (zcode_of mc_174 (r := (.getfield 284, 12, 32, 0)) rfl) rfl).trans ?_
  refine (wp_ic (n' := 7) rfl (zcode_of mc_174 (r := (.iconst 1, 0, 0, 0)) rfl) ci_1).trans ?_
  refine (wp_s (n := 8) (zcode_of mc_174 (r := (.isub, 0, 0, 0)) rfl) rfl rfl).trans ?_
  exact wp_call (q := ([.int x1, .int 0, .int ((sc 32) - 1)], [])) (zcode_of mc_174 (r := (.invokestatic 140, 113, 1, 3)) rfl) rfl rfl ⟨Nat.le_of_ble_eq_true rfl, Nat.le_of_ble_eq_true rfl⟩
theorem b174_11 {σ : zSt} {o : Nat} {sc : Nat → Int32} {ar : Nat → Nat → Int32} {P : Option Value → zSt → Prop} (hR : RShape σ o) {x1 x2 s0 : Int32} :
    wp 174 11 [some (.ref o), some (.int x1), some (.int x2)] [.int s0] (rOv σ o sc ar) P ↔ (if s0 = 0 then wp 174 23 [some (.ref o), some (.int x1), some (.int x2)] [] (rOv σ o sc ar) P else wp 174 14 [some (.ref o), some (.int x1), some (.int x2)] [] (rOv σ o sc ar) P) := by
  exact wp_jump (off := 12) (t := 23) (zcode_of mc_174 (r := (.ifCond .eq 12, 0, 0, 0)) rfl) rfl rfl (by decide)
theorem b174_14 {σ : zSt} {o : Nat} {sc : Nat → Int32} {ar : Nat → Nat → Int32} {P : Option Value → zSt → Prop} (hR : RShape σ o) {x1 x2 : Int32} :
    wp 174 14 [some (.ref o), some (.int x1), some (.int x2)] [] (rOv σ o sc ar) P ↔ wpM 113 [.int x2, .int 0, .int 3] (rOv σ o sc ar) (fun r τ => wp 174 20 [some (.ref o), some (.int x1), some (.int x2)] (r.toList ++ []) τ P) := by
  refine (wp_s (n := 15) (zcode_of mc_174 (r := (.iload_n 2, 0, 0, 0)) rfl) rfl rfl).trans ?_
  refine (wp_ic (n' := 16) rfl (zcode_of mc_174 (r := (.iconst 0, 0, 0, 0)) rfl) ci_0).trans ?_
  refine (wp_ic (n' := 17) rfl (zcode_of mc_174 (r := (.iconst 3, 0, 0, 0)) rfl) ci_3).trans ?_
  exact wp_call (q := ([.int x2, .int 0, .int 3], [])) (zcode_of mc_174 (r := (.invokestatic 140, 113, 1, 3)) rfl) rfl rfl ⟨Nat.le_of_ble_eq_true rfl, Nat.le_of_ble_eq_true rfl⟩
theorem b174_20 {σ : zSt} {o : Nat} {sc : Nat → Int32} {ar : Nat → Nat → Int32} {P : Option Value → zSt → Prop} (hR : RShape σ o) {x1 x2 s0 : Int32} :
    wp 174 20 [some (.ref o), some (.int x1), some (.int x2)] [.int s0] (rOv σ o sc ar) P ↔ (if ¬ s0 = 0 then wp 174 26 [some (.ref o), some (.int x1), some (.int x2)] [] (rOv σ o sc ar) P else wp 174 23 [some (.ref o), some (.int x1), some (.int x2)] [] (rOv σ o sc ar) P) := by
  exact wp_jump (off := 6) (t := 26) (zcode_of mc_174 (r := (.ifCond .ne 6, 0, 0, 0)) rfl) rfl rfl (by decide)
theorem b174_23 {σ : zSt} {o : Nat} {sc : Nat → Int32} {ar : Nat → Nat → Int32} {P : Option Value → zSt → Prop} (hR : RShape σ o) {x1 x2 : Int32} :
    wp 174 23 [some (.ref o), some (.int x1), some (.int x2)] [] (rOv σ o sc ar) P ↔ P (some (.int (-2))) (rOv σ o sc ar) := by
  refine (wp_bp (n' := 25) rfl (zcode_of mc_174 (r := (.bipush (-2), 0, 0, 0)) rfl) cb_m2).trans ?_
  exact wp_retI (zcode_of mc_174 (r := (.ireturn, 0, 0, 0)) rfl) rfl
theorem b174_26 {σ : zSt} {o : Nat} {sc : Nat → Int32} {ar : Nat → Nat → Int32} {P : Option Value → zSt → Prop} (hR : RShape σ o) {x1 x2 : Int32} :
    wp 174 26 [some (.ref o), some (.int x1), some (.int x2)] [] (rOv σ o sc ar) P ↔ (if ¬ x2 = 0 then wp 174 39 [some (.ref o), some (.int x1), some (.int x2)] [] (rOv σ o sc ar) P else wp 174 30 [some (.ref o), some (.int x1), some (.int x2)] [] (rOv σ o sc ar) P) := by
  refine (wp_s (n := 27) (zcode_of mc_174 (r := (.iload_n 2, 0, 0, 0)) rfl) rfl rfl).trans ?_
  exact wp_jump (off := 12) (t := 39) (zcode_of mc_174 (r := (.ifCond .ne 12, 0, 0, 0)) rfl) rfl rfl (by decide)
theorem b174_30 {σ : zSt} {o : Nat} {sc : Nat → Int32} {ar : Nat → Nat → Int32} {P : Option Value → zSt → Prop} (hR : RShape σ o) {x1 x2 : Int32} :
    wp 174 30 [some (.ref o), some (.int x1), some (.int x2)] [] (rOv σ o sc ar) P ↔ (zIn x1 (rlen 53) ∧ wp 174 73 [some (.ref o), some (.int x1), some (.int x2)] [.int (ar 53 (Int32.toNatClampNeg x1))] (rOv σ o sc ar) P) := by
  refine (wp_s (n := 31) (zcode_of mc_174 (r := (.aload_n 0, 0, 0, 0)) rfl) rfl rfl).trans ?_
  refine (wr_getA (n' := 34) rfl (t := 53) hR (zcode_of mc_174 (r := (.getfield 101, 12, 33, 0)) rfl) rfl rfl).trans ?_
  refine (wp_s (n := 35) (zcode_of mc_174 (r := (.iload_n 1, 0, 0, 0)) rfl) rfl rfl).trans ?_
  refine (wr_ld (n' := 36) rfl hR (zcode_of mc_174 (r := (.iaload, 0, 0, 0)) rfl) rfl rfl).trans (and_congr Iff.rfl ?_)
  exact wp_goto (off := 37) (t := 73) (zcode_of mc_174 (r := (.goto 37, 0, 0, 0)) rfl) (by decide)
theorem b174_39 {σ : zSt} {o : Nat} {sc : Nat → Int32} {ar : Nat → Nat → Int32} {P : Option Value → zSt → Prop} (hR : RShape σ o) {x1 x2 : Int32} :
    wp 174 39 [some (.ref o), some (.int x1), some (.int x2)] [] (rOv σ o sc ar) P ↔ (if ¬ x2 = 1 then wp 174 53 [some (.ref o), some (.int x1), some (.int x2)] [] (rOv σ o sc ar) P else wp 174 44 [some (.ref o), some (.int x1), some (.int x2)] [] (rOv σ o sc ar) P) := by
  refine (wp_s (n := 40) (zcode_of mc_174 (r := (.iload_n 2, 0, 0, 0)) rfl) rfl rfl).trans ?_
  refine (wp_ic (n' := 41) rfl (zcode_of mc_174 (r := (.iconst 1, 0, 0, 0)) rfl) ci_1).trans ?_
  exact wp_jump (off := 12) (t := 53) (zcode_of mc_174 (r := (.if_icmp .ne 12, 0, 0, 0)) rfl) rfl rfl (by decide)
theorem b174_44 {σ : zSt} {o : Nat} {sc : Nat → Int32} {ar : Nat → Nat → Int32} {P : Option Value → zSt → Prop} (hR : RShape σ o) {x1 x2 : Int32} :
    wp 174 44 [some (.ref o), some (.int x1), some (.int x2)] [] (rOv σ o sc ar) P ↔ (zIn x1 (rlen 54) ∧ wp 174 73 [some (.ref o), some (.int x1), some (.int x2)] [.int (ar 54 (Int32.toNatClampNeg x1))] (rOv σ o sc ar) P) := by
  refine (wp_s (n := 45) (zcode_of mc_174 (r := (.aload_n 0, 0, 0, 0)) rfl) rfl rfl).trans ?_
  refine (wr_getA (n' := 48) rfl (t := 54) hR (zcode_of mc_174 (r := (.getfield 104, 12, 34, 0)) rfl) rfl rfl).trans ?_
  refine (wp_s (n := 49) (zcode_of mc_174 (r := (.iload_n 1, 0, 0, 0)) rfl) rfl rfl).trans ?_
  refine (wr_ld (n' := 50) rfl hR (zcode_of mc_174 (r := (.iaload, 0, 0, 0)) rfl) rfl rfl).trans (and_congr Iff.rfl ?_)
  exact wp_goto (off := 23) (t := 73) (zcode_of mc_174 (r := (.goto 23, 0, 0, 0)) rfl) (by decide)
theorem b174_53 {σ : zSt} {o : Nat} {sc : Nat → Int32} {ar : Nat → Nat → Int32} {P : Option Value → zSt → Prop} (hR : RShape σ o) {x1 x2 : Int32} :
    wp 174 53 [some (.ref o), some (.int x1), some (.int x2)] [] (rOv σ o sc ar) P ↔ (if ¬ x2 = 2 then wp 174 67 [some (.ref o), some (.int x1), some (.int x2)] [] (rOv σ o sc ar) P else wp 174 58 [some (.ref o), some (.int x1), some (.int x2)] [] (rOv σ o sc ar) P) := by
  refine (wp_s (n := 54) (zcode_of mc_174 (r := (.iload_n 2, 0, 0, 0)) rfl) rfl rfl).trans ?_
  refine (wp_ic (n' := 55) rfl (zcode_of mc_174 (r := (.iconst 2, 0, 0, 0)) rfl) ci_2).trans ?_
  exact wp_jump (off := 12) (t := 67) (zcode_of mc_174 (r := (.if_icmp .ne 12, 0, 0, 0)) rfl) rfl rfl (by decide)
theorem b174_58 {σ : zSt} {o : Nat} {sc : Nat → Int32} {ar : Nat → Nat → Int32} {P : Option Value → zSt → Prop} (hR : RShape σ o) {x1 x2 : Int32} :
    wp 174 58 [some (.ref o), some (.int x1), some (.int x2)] [] (rOv σ o sc ar) P ↔ (zIn x1 (rlen 55) ∧ wp 174 73 [some (.ref o), some (.int x1), some (.int x2)] [.int (ar 55 (Int32.toNatClampNeg x1))] (rOv σ o sc ar) P) := by
  refine (wp_s (n := 59) (zcode_of mc_174 (r := (.aload_n 0, 0, 0, 0)) rfl) rfl rfl).trans ?_
  refine (wr_getA (n' := 62) rfl (t := 55) hR (zcode_of mc_174 (r := (.getfield 107, 12, 35, 0)) rfl) rfl rfl).trans ?_
  refine (wp_s (n := 63) (zcode_of mc_174 (r := (.iload_n 1, 0, 0, 0)) rfl) rfl rfl).trans ?_
  refine (wr_ld (n' := 64) rfl hR (zcode_of mc_174 (r := (.iaload, 0, 0, 0)) rfl) rfl rfl).trans (and_congr Iff.rfl ?_)
  exact wp_goto (off := 9) (t := 73) (zcode_of mc_174 (r := (.goto 9, 0, 0, 0)) rfl) (by decide)
theorem b174_67 {σ : zSt} {o : Nat} {sc : Nat → Int32} {ar : Nat → Nat → Int32} {P : Option Value → zSt → Prop} (hR : RShape σ o) {x1 x2 : Int32} :
    wp 174 67 [some (.ref o), some (.int x1), some (.int x2)] [] (rOv σ o sc ar) P ↔ (zIn x1 (rlen 56) ∧ wp 174 73 [some (.ref o), some (.int x1), some (.int x2)] [.int (ar 56 (Int32.toNatClampNeg x1))] (rOv σ o sc ar) P) := by
  refine (wp_s (n := 68) (zcode_of mc_174 (r := (.aload_n 0, 0, 0, 0)) rfl) rfl rfl).trans ?_
  refine (wr_getA (n' := 71) rfl (t := 56) hR (zcode_of mc_174 (r := (.getfield 110, 12, 36, 0)) rfl) rfl rfl).trans ?_
  refine (wp_s (n := 72) (zcode_of mc_174 (r := (.iload_n 1, 0, 0, 0)) rfl) rfl rfl).trans ?_
  refine (wr_ld (n' := 73) rfl hR (zcode_of mc_174 (r := (.iaload, 0, 0, 0)) rfl) rfl rfl).trans (and_congr Iff.rfl ?_)
  exact Iff.rfl
theorem b174_73 {σ : zSt} {o : Nat} {sc : Nat → Int32} {ar : Nat → Nat → Int32} {P : Option Value → zSt → Prop} (hR : RShape σ o) {x1 x2 s0 : Int32} :
    wp 174 73 [some (.ref o), some (.int x1), some (.int x2)] [.int s0] (rOv σ o sc ar) P ↔ P (some (.int s0)) (rOv σ o sc ar) := by
  exact wp_retI (zcode_of mc_174 (r := (.ireturn, 0, 0, 0)) rfl) rfl
theorem mc_175 : mCode 175 = zc_175 := rfl
theorem b175 {σ : zSt} {o : Nat} {sc : Nat → Int32} {ar : Nat → Nat → Int32} {P : Option Value → zSt → Prop} (hR : RShape σ o) {x1 : Int32} :
    wpM 175 [.ref o, .int x1] (rOv σ o sc ar) P ↔ wpM 113 [.int x1, .int 0, .int 1] (rOv σ o sc ar) (fun r τ => wp 175 6 [some (.ref o), some (.int x1), none, none, none] (r.toList ++ []) τ P) := by
  show wp 175 0 [some (.ref o), some (.int x1), none, none, none] [] (rOv σ o sc ar) P ↔ _
  refine (wp_s (n := 1) (zcode_of mc_175 (r := (.iload_n 1, 0, 0, 0)) rfl) rfl rfl).trans ?_
  refine (wp_ic (n' := 2) rfl (zcode_of mc_175 (r := (.iconst 0, 0, 0, 0)) rfl) ci_0).trans ?_
  refine (wp_ic (n' := 3) rfl (zcode_of mc_175 (r := (.iconst 1, 0, 0, 0)) rfl) ci_1).trans ?_
  exact wp_call (q := ([.int x1, .int 0, .int 1], [])) (zcode_of mc_175 (r := (.invokestatic 140, 113, 1, 3)) rfl) rfl rfl ⟨Nat.le_of_ble_eq_true rfl, Nat.le_of_ble_eq_true rfl⟩
theorem b175_6 {σ : zSt} {o : Nat} {sc : Nat → Int32} {ar : Nat → Nat → Int32} {P : Option Value → zSt → Prop} (hR : RShape σ o) {x1 s0 : Int32} {u2 u3 u4 : Option Value} :
    wp 175 6 [some (.ref o), some (.int x1), u2, u3, u4] [.int s0] (rOv σ o sc ar) P ↔ (if ¬ s0 = 0 then wp 175 12 [some (.ref o), some (.int x1), u2, u3, u4] [] (rOv σ o sc ar) P else wp 175 9 [some (.ref o), some (.int x1), u2, u3, u4] [] (rOv σ o sc ar) P) := by
  exact wp_jump (off := 6) (t := 12) (zcode_of mc_175 (r := (.ifCond .ne 6, 0, 0, 0)) rfl) rfl rfl (by decide)
theorem b175_9 {σ : zSt} {o : Nat} {sc : Nat → Int32} {ar : Nat → Nat → Int32} {P : Option Value → zSt → Prop} (hR : RShape σ o) {x1 : Int32} {u2 u3 u4 : Option Value} :
    wp 175 9 [some (.ref o), some (.int x1), u2, u3, u4] [] (rOv σ o sc ar) P ↔ P (some (.int (-2))) (rOv σ o sc ar) := by
  refine (wp_bp (n' := 11) rfl (zcode_of mc_175 (r := (.bipush (-2), 0, 0, 0)) rfl) cb_m2).trans ?_
  exact wp_retI (zcode_of mc_175 (r := (.ireturn, 0, 0, 0)) rfl) rfl
theorem b175_12 {σ : zSt} {o : Nat} {sc : Nat → Int32} {ar : Nat → Nat → Int32} {P : Option Value → zSt → Prop} (hR : RShape σ o) {x1 : Int32} {u2 u3 u4 : Option Value} :
    wp 175 12 [some (.ref o), some (.int x1), u2, u3, u4] [] (rOv σ o sc ar) P ↔ wp 175 14 [some (.ref o), some (.int x1), some (.int 1), u3, u4] [] (rOv σ o sc ar) P := by
  refine (wp_ic (n' := 13) rfl (zcode_of mc_175 (r := (.iconst 1, 0, 0, 0)) rfl) ci_1).trans ?_
  refine (wp_s (n := 14) (zcode_of mc_175 (r := (.istore_n 2, 0, 0, 0)) rfl) rfl rfl).trans ?_
  exact Iff.rfl
theorem b175_14 {σ : zSt} {o : Nat} {sc : Nat → Int32} {ar : Nat → Nat → Int32} {P : Option Value → zSt → Prop} (hR : RShape σ o) {x1 x2 : Int32} {u3 u4 : Option Value} :
    wp 175 14 [some (.ref o), some (.int x1), some (.int x2), u3, u4] [] (rOv σ o sc ar) P ↔ (if (sc 0) ≤ x2 then wp 175 35 [some (.ref o), some (.int x1), some (.int x2), u3, u4] [] (rOv σ o sc ar) P else wp 175 22 [some (.ref o), some (.int x1), some (.int x2), u3, u4] [] (rOv σ o sc ar) P) := by
  refine (wp_s (n := 15) (zcode_of mc_175 (r := (.iload_n 2, 0, 0, 0)) rfl) rfl rfl).trans ?_
  refine (wp_s (n := 16) (zcode_of mc_175 (r := (.aload_n 0, 0, 0, 0)) rfl) rfl rfl).trans ?_
  refine (wr_getI (n' := 19) rfl hR (zcode_of mc_175 (r := (.getfield 7, 12, 0, 0)) rfl) rfl).trans ?_
  exact wp_jump (off := 16) (t := 35) (zcode_of mc_175 (r := (.if_icmp .ge 16, 0, 0, 0)) rfl) rfl rfl (by decide)
theorem b175_22 {σ : zSt} {o : Nat} {sc : Nat → Int32} {ar : Nat → Nat → Int32} {P : Option Value → zSt → Prop} (hR : RShape σ o) {x1 x2 : Int32} {u3 u4 : Option Value} :
    wp 175 22 [some (.ref o), some (.int x1), some (.int x2), u3, u4] [] (rOv σ o sc ar) P ↔ wpM 124 [.ref o, .int x1, .int 2, .int x2] (rOv σ o sc ar) (fun r τ => wp 175 29 [some (.ref o), some (.int x1), some (.int x2), u3, u4] (r.toList ++ []) τ P) := by
  refine (wp_s (n := 23) (zcode_of mc_175 (r := (.aload_n 0, 0, 0, 0)) rfl) rfl rfl).trans ?_
  refine (wp_s (n := 24) (zcode_of mc_175 (r := (.iload_n 1, 0, 0, 0)) rfl) rfl rfl).trans ?_
  refine (wp_ic (n' := 25) rfl (zcode_of mc_175 (r := (.iconst 2, 0, 0, 0)) rfl) ci_2).trans ?_
  refine (wp_s (n := 26) (zcode_of mc_175 (r := (.iload_n 2, 0, 0, 0)) rfl) rfl rfl).trans ?_
  exact wp_call (q := ([.ref o, .int x1, .int 2, .int x2], [])) (zcode_of mc_175 (r := (.invokevirtual 166, 124, 0, 3)) rfl) rfl (zCa_V (Nat.le_of_ble_eq_true rfl) rfl hR.tg) ⟨Nat.le_of_ble_eq_true rfl, Nat.le_of_ble_eq_true rfl⟩
theorem b175_29 {σ : zSt} {o : Nat} {sc : Nat → Int32} {ar : Nat → Nat → Int32} {P : Option Value → zSt → Prop} (hR : RShape σ o) {x1 x2 : Int32} {u3 u4 : Option Value} :
    wp 175 29 [some (.ref o), some (.int x1), some (.int x2), u3, u4] [] (rOv σ o sc ar) P ↔ wp 175 14 [some (.ref o), some (.int x1), some (.int (x2 + 1)), u3, u4] [] (rOv σ o sc ar) P := by
  refine (wp_inc (n' := 32) rfl (zcode_of mc_175 (r := (.iinc 2 1, 0, 0, 0)) rfl) rfl rfl ci_1).trans ?_
  exact wp_goto (off := (-18)) (t := 14) (zcode_of mc_175 (r := (.goto (-18), 0, 0, 0)) rfl) (by decide)
theorem b175_35 {σ : zSt} {o : Nat} {sc : Nat → Int32} {ar : Nat → Nat → Int32} {P : Option Value → zSt → Prop} (hR : RShape σ o) {x1 x2 : Int32} {u3 u4 : Option Value} :
    wp 175 35 [some (.ref o), some (.int x1), some (.int x2), u3, u4] [] (rOv σ o sc ar) P ↔ wpM 170 [.ref o, .int (-1)] (rOv σ o sc ar) (fun r τ => wp 175 40 [some (.ref o), some (.int x1), some (.int x2), u3, u4] (r.toList ++ []) τ P) := by
  refine (wp_s (n := 36) (zcode_of mc_175 (r := (.aload_n 0, 0, 0, 0)) rfl) rfl rfl).trans ?_
  refine (wp_ic (n' := 37) rfl (zcode_of mc_175 (r := (.iconst (-1), 0, 0, 0)) rfl) ci_m1).trans ?_
  exact wp_call (q := ([.ref o, .int (-1)], [])) (zcode_of mc_175 (r := (.invokevirtual 314, 170, 0, 1)) rfl) rfl (zCa_V (Nat.le_of_ble_eq_true rfl) rfl hR.tg) ⟨Nat.le_of_ble_eq_true rfl, Nat.le_of_ble_eq_true rfl⟩
theorem b175_40 {σ : zSt} {o : Nat} {sc : Nat → Int32} {ar : Nat → Nat → Int32} {P : Option Value → zSt → Prop} (hR : RShape σ o) {x1 x2 : Int32} {u3 u4 : Option Value} :
    wp 175 40 [some (.ref o), some (.int x1), some (.int x2), u3, u4] [] (rOv σ o sc ar) P ↔ wpM 171 [.ref o] (rOv σ o sc ar) (fun r τ => wp 175 44 [some (.ref o), some (.int x1), some (.int x2), u3, u4] (r.toList ++ []) τ P) := by
  refine (wp_s (n := 41) (zcode_of mc_175 (r := (.aload_n 0, 0, 0, 0)) rfl) rfl rfl).trans ?_
  exact wp_call (q := ([.ref o], [])) (zcode_of mc_175 (r := (.invokevirtual 317, 171, 0, 0)) rfl) rfl (zCa_V (Nat.le_of_ble_eq_true rfl) rfl hR.tg) ⟨Nat.le_of_ble_eq_true rfl, Nat.le_of_ble_eq_true rfl⟩
theorem b175_44 {σ : zSt} {o : Nat} {sc : Nat → Int32} {ar : Nat → Nat → Int32} {P : Option Value → zSt → Prop} (hR : RShape σ o) {x1 x2 s0 : Int32} {u3 u4 : Option Value} :
    wp 175 44 [some (.ref o), some (.int x1), some (.int x2), u3, u4] [.int s0] (rOv σ o sc ar) P ↔ wp 175 45 [some (.ref o), some (.int x1), some (.int s0), u3, u4] [] (rOv σ o sc ar) P := by
  refine (wp_s (n := 45) (zcode_of mc_175 (r := (.istore_n 2, 0, 0, 0)) rfl) rfl rfl).trans ?_
  exact Iff.rfl
theorem b175_45 {σ : zSt} {o : Nat} {sc : Nat → Int32} {ar : Nat → Nat → Int32} {P : Option Value → zSt → Prop} (hR : RShape σ o) {x1 x2 : Int32} {u3 u4 : Option Value} :
    wp 175 45 [some (.ref o), some (.int x1), some (.int x2), u3, u4] [] (rOv σ o sc ar) P ↔ (if x2 = (-1) then wp 175 77 [some (.ref o), some (.int x1), some (.int x2), u3, u4] [] (rOv σ o sc ar) P else wp 175 50 [some (.ref o), some (.int x1), some (.int x2), u3, u4] [] (rOv σ o sc ar) P) := by
  refine (wp_s (n := 46) (zcode_of mc_175 (r := (.iload_n 2, 0, 0, 0)) rfl) rfl rfl).trans ?_
  refine (wp_ic (n' := 47) rfl (zcode_of mc_175 (r := (.iconst (-1), 0, 0, 0)) rfl) ci_m1).trans ?_
  exact wp_jump (off := 30) (t := 77) (zcode_of mc_175 (r := (.if_icmp .eq 30, 0, 0, 0)) rfl) rfl rfl (by decide)
theorem b175_50 {σ : zSt} {o : Nat} {sc : Nat → Int32} {ar : Nat → Nat → Int32} {P : Option Value → zSt → Prop} (hR : RShape σ o) {x1 x2 : Int32} {u3 u4 : Option Value} :
    wp 175 50 [some (.ref o), some (.int x1), some (.int x2), u3, u4] [] (rOv σ o sc ar) P ↔ wpM 162 [.ref o, .int 2, .int x2] (rOv σ o sc ar) (fun r τ => wp 175 56 [some (.ref o), some (.int x1), some (.int x2), u3, u4] (r.toList ++ []) τ P) := by
  refine (wp_s (n := 51) (zcode_of mc_175 (r := (.aload_n 0, 0, 0, 0)) rfl) rfl rfl).trans ?_
  refine (wp_ic (n' := 52) rfl (zcode_of mc_175 (r := (.iconst 2, 0, 0, 0)) rfl) ci_2).trans ?_
  refine (wp_s (n := 53) (zcode_of mc_175 (r := (.iload_n 2, 0, 0, 0)) rfl) rfl rfl).trans ?_
  exact wp_call (q := ([.ref o, .int 2, .int x2], [])) (zcode_of mc_175 (r := (.invokevirtual 293, 162, 0, 2)) rfl) rfl (zCa_V (Nat.le_of_ble_eq_true rfl) rfl hR.tg) ⟨Nat.le_of_ble_eq_true rfl, Nat.le_of_ble_eq_true rfl⟩
theorem b175_56 {σ : zSt} {o : Nat} {sc : Nat → Int32} {ar : Nat → Nat → Int32} {P : Option Value → zSt → Prop} (hR : RShape σ o) {x1 x2 : Int32} {u3 u4 : Option Value} :
    wp 175 56 [some (.ref o), some (.int x1), some (.int x2), u3, u4] [] (rOv σ o sc ar) P ↔ wpM 163 [.ref o, .int 2, .int x2] (rOv σ o sc ar) (fun r τ => wp 175 62 [some (.ref o), some (.int x1), some (.int x2), u3, u4] (r.toList ++ []) τ P) := by
  refine (wp_s (n := 57) (zcode_of mc_175 (r := (.aload_n 0, 0, 0, 0)) rfl) rfl rfl).trans ?_
  refine (wp_ic (n' := 58) rfl (zcode_of mc_175 (r := (.iconst 2, 0, 0, 0)) rfl) ci_2).trans ?_
  refine (wp_s (n := 59) (zcode_of mc_175 (r := (.iload_n 2, 0, 0, 0)) rfl) rfl rfl).trans ?_
  exact wp_call (q := ([.ref o, .int 2, .int x2], [])) (zcode_of mc_175 (r := (.invokevirtual 308, 163, 0, 2)) rfl) rfl (zCa_V (Nat.le_of_ble_eq_true rfl) rfl hR.tg) ⟨Nat.le_of_ble_eq_true rfl, Nat.le_of_ble_eq_true rfl⟩
theorem b175_62 {σ : zSt} {o : Nat} {sc : Nat → Int32} {ar : Nat → Nat → Int32} {P : Option Value → zSt → Prop} (hR : RShape σ o) {x1 x2 : Int32} {u3 u4 : Option Value} :
    wp 175 62 [some (.ref o), some (.int x1), some (.int x2), u3, u4] [] (rOv σ o sc ar) P ↔ ((zIn x2 (rlen 73) ∧ ((1 : Int32) = 0 ∨ (1 : Int32) = 1)) ∧ wpM 171 [.ref o] (rOv σ o sc (upA ar 73 (Int32.toNatClampNeg x2) 1)) (fun r τ => wp 175 73 [some (.ref o), some (.int x1), some (.int x2), u3, u4] (r.toList ++ []) τ P)) := by
  refine (wp_s (n := 63) (zcode_of mc_175 (r := (.aload_n 0, 0, 0, 0)) rfl) rfl rfl).trans ?_
  refine (wr_getA (n' := 66) rfl (t := 73) hR (zcode_of mc_175 (r := (.getfield 137, 12, 53, 0)) rfl) rfl rfl).trans ?_
  refine (wp_s (n := 67) (zcode_of mc_175 (r := (.iload_n 2, 0, 0, 0)) rfl) rfl rfl).trans ?_
  refine (wp_ic (n' := 68) rfl (zcode_of mc_175 (r := (.iconst 1, 0, 0, 0)) rfl) ci_1).trans ?_
  refine (wr_stZ (n' := 69) rfl hR (zcode_of mc_175 (r := (.bastore, 0, 0, 0)) rfl) rfl rfl).trans (and_congr Iff.rfl ?_)
  refine (wp_s (n := 70) (zcode_of mc_175 (r := (.aload_n 0, 0, 0, 0)) rfl) rfl rfl).trans ?_
  exact wp_call (q := ([.ref o], [])) (zcode_of mc_175 (r := (.invokevirtual 317, 171, 0, 0)) rfl) rfl (zCa_V (Nat.le_of_ble_eq_true rfl) rfl hR.tg) ⟨Nat.le_of_ble_eq_true rfl, Nat.le_of_ble_eq_true rfl⟩
theorem b175_73 {σ : zSt} {o : Nat} {sc : Nat → Int32} {ar : Nat → Nat → Int32} {P : Option Value → zSt → Prop} (hR : RShape σ o) {x1 x2 s0 : Int32} {u3 u4 : Option Value} :
    wp 175 73 [some (.ref o), some (.int x1), some (.int x2), u3, u4] [.int s0] (rOv σ o sc ar) P ↔ wp 175 45 [some (.ref o), some (.int x1), some (.int s0), u3, u4] [] (rOv σ o sc ar) P := by
  refine (wp_s (n := 74) (zcode_of mc_175 (r := (.istore_n 2, 0, 0, 0)) rfl) rfl rfl).trans ?_
  exact wp_goto (off := (-29)) (t := 45) (zcode_of mc_175 (r := (.goto (-29), 0, 0, 0)) rfl) (by decide)
theorem b175_77 {σ : zSt} {o : Nat} {sc : Nat → Int32} {ar : Nat → Nat → Int32} {P : Option Value → zSt → Prop} (hR : RShape σ o) {x1 x2 : Int32} {u3 u4 : Option Value} :
    wp 175 77 [some (.ref o), some (.int x1), some (.int x2), u3, u4] [] (rOv σ o sc ar) P ↔ wp 175 82 [some (.ref o), some (.int x1), some (.int x2), some (.int 1), some (.int 1)] [] (rOv σ o sc ar) P := by
  refine (wp_ic (n' := 78) rfl (zcode_of mc_175 (r := (.iconst 1, 0, 0, 0)) rfl) ci_1).trans ?_
  refine (wp_s (n := 79) (zcode_of mc_175 (r := (.istore_n 3, 0, 0, 0)) rfl) rfl rfl).trans ?_
  refine (wp_ic (n' := 80) rfl (zcode_of mc_175 (r := (.iconst 1, 0, 0, 0)) rfl) ci_1).trans ?_
  refine (wp_s (n := 82) (zcode_of mc_175 (r := (.istore 4, 0, 0, 0)) rfl) rfl rfl).trans ?_
  exact Iff.rfl
theorem b175_82 {σ : zSt} {o : Nat} {sc : Nat → Int32} {ar : Nat → Nat → Int32} {P : Option Value → zSt → Prop} (hR : RShape σ o) {x1 x2 x3 x4 : Int32} :
    wp 175 82 [some (.ref o), some (.int x1), some (.int x2), some (.int x3), some (.int x4)] [] (rOv σ o sc ar) P ↔ (if (sc 0) ≤ x4 then wp 175 118 [some (.ref o), some (.int x1), some (.int x2), some (.int x3), some (.int x4)] [] (rOv σ o sc ar) P else wp 175 91 [some (.ref o), some (.int x1), some (.int x2), some (.int x3), some (.int x4)] [] (rOv σ o sc ar) P) := by
  refine (wp_s (n := 84) (zcode_of mc_175 (r := (.iload 4, 0, 0, 0)) rfl) rfl rfl).trans ?_
  refine (wp_s (n := 85) (zcode_of mc_175 (r := (.aload_n 0, 0, 0, 0)) rfl) rfl rfl).trans ?_
  refine (wr_getI (n' := 88) rfl hR (zcode_of mc_175 (r := (.getfield 7, 12, 0, 0)) rfl) rfl).trans ?_
  exact wp_jump (off := 30) (t := 118) (zcode_of mc_175 (r := (.if_icmp .ge 30, 0, 0, 0)) rfl) rfl rfl (by decide)
theorem b175_91 {σ : zSt} {o : Nat} {sc : Nat → Int32} {ar : Nat → Nat → Int32} {P : Option Value → zSt → Prop} (hR : RShape σ o) {x1 x2 x3 x4 : Int32} :
    wp 175 91 [some (.ref o), some (.int x1), some (.int x2), some (.int x3), some (.int x4)] [] (rOv σ o sc ar) P ↔ (if x3 = 0 then wp 175 110 [some (.ref o), some (.int x1), some (.int x2), some (.int x3), some (.int x4)] [] (rOv σ o sc ar) P else wp 175 95 [some (.ref o), some (.int x1), some (.int x2), some (.int x3), some (.int x4)] [] (rOv σ o sc ar) P) := by
  refine (wp_s (n := 92) (zcode_of mc_175 (r := (.iload_n 3, 0, 0, 0)) rfl) rfl rfl).trans ?_
  exact wp_jump (off := 18) (t := 110) (zcode_of mc_175 (r := (.ifCond .eq 18, 0, 0, 0)) rfl) rfl rfl (by decide)
theorem b175_95 {σ : zSt} {o : Nat} {sc : Nat → Int32} {ar : Nat → Nat → Int32} {P : Option Value → zSt → Prop} (hR : RShape σ o) {x1 x2 x3 x4 : Int32} :
    wp 175 95 [some (.ref o), some (.int x1), some (.int x2), some (.int x3), some (.int x4)] [] (rOv σ o sc ar) P ↔ wpM 123 [.ref o, .int x1, .int 2, .int x4] (rOv σ o sc ar) (fun r τ => wp 175 103 [some (.ref o), some (.int x1), some (.int x2), some (.int x3), some (.int x4)] (r.toList ++ []) τ P) := by
  refine (wp_s (n := 96) (zcode_of mc_175 (r := (.aload_n 0, 0, 0, 0)) rfl) rfl rfl).trans ?_
  refine (wp_s (n := 97) (zcode_of mc_175 (r := (.iload_n 1, 0, 0, 0)) rfl) rfl rfl).trans ?_
  refine (wp_ic (n' := 98) rfl (zcode_of mc_175 (r := (.iconst 2, 0, 0, 0)) rfl) ci_2).trans ?_
  refine (wp_s (n := 100) (zcode_of mc_175 (r := (.iload 4, 0, 0, 0)) rfl) rfl rfl).trans ?_
  exact wp_call (q := ([.ref o, .int x1, .int 2, .int x4], [])) (zcode_of mc_175 (r := (.invokevirtual 163, 123, 0, 3)) rfl) rfl (zCa_V (Nat.le_of_ble_eq_true rfl) rfl hR.tg) ⟨Nat.le_of_ble_eq_true rfl, Nat.le_of_ble_eq_true rfl⟩
theorem b175_103 {σ : zSt} {o : Nat} {sc : Nat → Int32} {ar : Nat → Nat → Int32} {P : Option Value → zSt → Prop} (hR : RShape σ o) {x1 x2 x3 x4 s0 : Int32} :
    wp 175 103 [some (.ref o), some (.int x1), some (.int x2), some (.int x3), some (.int x4)] [.int s0] (rOv σ o sc ar) P ↔ (if s0 = 0 then wp 175 110 [some (.ref o), some (.int x1), some (.int x2), some (.int x3), some (.int x4)] [] (rOv σ o sc ar) P else wp 175 106 [some (.ref o), some (.int x1), some (.int x2), some (.int x3), some (.int x4)] [] (rOv σ o sc ar) P) := by
  exact wp_jump (off := 7) (t := 110) (zcode_of mc_175 (r := (.ifCond .eq 7, 0, 0, 0)) rfl) rfl rfl (by decide)
theorem b175_106 {σ : zSt} {o : Nat} {sc : Nat → Int32} {ar : Nat → Nat → Int32} {P : Option Value → zSt → Prop} (hR : RShape σ o) {x1 x2 x3 x4 : Int32} :
    wp 175 106 [some (.ref o), some (.int x1), some (.int x2), some (.int x3), some (.int x4)] [] (rOv σ o sc ar) P ↔ wp 175 111 [some (.ref o), some (.int x1), some (.int x2), some (.int x3), some (.int x4)] [.int 1] (rOv σ o sc ar) P := by
  refine (wp_ic (n' := 107) rfl (zcode_of mc_175 (r := (.iconst 1, 0, 0, 0)) rfl) ci_1).trans ?_
  exact wp_goto (off := 4) (t := 111) (zcode_of mc_175 (r := (.goto 4, 0, 0, 0)) rfl) (by decide)
theorem b175_110 {σ : zSt} {o : Nat} {sc : Nat → Int32} {ar : Nat → Nat → Int32} {P : Option Value → zSt → Prop} (hR : RShape σ o) {x1 x2 x3 x4 : Int32} :
    wp 175 110 [some (.ref o), some (.int x1), some (.int x2), some (.int x3), some (.int x4)] [] (rOv σ o sc ar) P ↔ wp 175 111 [some (.ref o), some (.int x1), some (.int x2), some (.int x3), some (.int x4)] [.int 0] (rOv σ o sc ar) P := by
  refine (wp_ic (n' := 111) rfl (zcode_of mc_175 (r := (.iconst 0, 0, 0, 0)) rfl) ci_0).trans ?_
  exact Iff.rfl
theorem b175_111 {σ : zSt} {o : Nat} {sc : Nat → Int32} {ar : Nat → Nat → Int32} {P : Option Value → zSt → Prop} (hR : RShape σ o) {x1 x2 x3 x4 s0 : Int32} :
    wp 175 111 [some (.ref o), some (.int x1), some (.int x2), some (.int x3), some (.int x4)] [.int s0] (rOv σ o sc ar) P ↔ wp 175 82 [some (.ref o), some (.int x1), some (.int x2), some (.int s0), some (.int (x4 + 1))] [] (rOv σ o sc ar) P := by
  refine (wp_s (n := 112) (zcode_of mc_175 (r := (.istore_n 3, 0, 0, 0)) rfl) rfl rfl).trans ?_
  refine (wp_inc (n' := 115) rfl (zcode_of mc_175 (r := (.iinc 4 1, 0, 0, 0)) rfl) rfl rfl ci_1).trans ?_
  exact wp_goto (off := (-33)) (t := 82) (zcode_of mc_175 (r := (.goto (-33), 0, 0, 0)) rfl) (by decide)
theorem b175_118 {σ : zSt} {o : Nat} {sc : Nat → Int32} {ar : Nat → Nat → Int32} {P : Option Value → zSt → Prop} (hR : RShape σ o) {x1 x2 x3 x4 : Int32} :
    wp 175 118 [some (.ref o), some (.int x1), some (.int x2), some (.int x3), some (.int x4)] [] (rOv σ o sc ar) P ↔ (if x3 = 0 then wp 175 126 [some (.ref o), some (.int x1), some (.int x2), some (.int x3), some (.int x4)] [] (rOv σ o sc ar) P else wp 175 122 [some (.ref o), some (.int x1), some (.int x2), some (.int x3), some (.int x4)] [] (rOv σ o sc ar) P) := by
  refine (wp_s (n := 119) (zcode_of mc_175 (r := (.iload_n 3, 0, 0, 0)) rfl) rfl rfl).trans ?_
  exact wp_jump (off := 7) (t := 126) (zcode_of mc_175 (r := (.ifCond .eq 7, 0, 0, 0)) rfl) rfl rfl (by decide)
theorem b175_122 {σ : zSt} {o : Nat} {sc : Nat → Int32} {ar : Nat → Nat → Int32} {P : Option Value → zSt → Prop} (hR : RShape σ o) {x1 x2 x3 x4 : Int32} :
    wp 175 122 [some (.ref o), some (.int x1), some (.int x2), some (.int x3), some (.int x4)] [] (rOv σ o sc ar) P ↔ wp 175 127 [some (.ref o), some (.int x1), some (.int x2), some (.int x3), some (.int x4)] [.int 1] (rOv σ o sc ar) P := by
  refine (wp_ic (n' := 123) rfl (zcode_of mc_175 (r := (.iconst 1, 0, 0, 0)) rfl) ci_1).trans ?_
  exact wp_goto (off := 4) (t := 127) (zcode_of mc_175 (r := (.goto 4, 0, 0, 0)) rfl) (by decide)
theorem b175_126 {σ : zSt} {o : Nat} {sc : Nat → Int32} {ar : Nat → Nat → Int32} {P : Option Value → zSt → Prop} (hR : RShape σ o) {x1 x2 x3 x4 : Int32} :
    wp 175 126 [some (.ref o), some (.int x1), some (.int x2), some (.int x3), some (.int x4)] [] (rOv σ o sc ar) P ↔ wp 175 127 [some (.ref o), some (.int x1), some (.int x2), some (.int x3), some (.int x4)] [.int 0] (rOv σ o sc ar) P := by
  refine (wp_ic (n' := 127) rfl (zcode_of mc_175 (r := (.iconst 0, 0, 0, 0)) rfl) ci_0).trans ?_
  exact Iff.rfl
theorem b175_127 {σ : zSt} {o : Nat} {sc : Nat → Int32} {ar : Nat → Nat → Int32} {P : Option Value → zSt → Prop} (hR : RShape σ o) {x1 x2 x3 x4 s0 : Int32} :
    wp 175 127 [some (.ref o), some (.int x1), some (.int x2), some (.int x3), some (.int x4)] [.int s0] (rOv σ o sc ar) P ↔ P (some (.int s0)) (rOv σ o sc ar) := by
  exact wp_retI (zcode_of mc_175 (r := (.ireturn, 0, 0, 0)) rfl) rfl
theorem mc_176 : mCode 176 = zc_176 := rfl
theorem b176 {σ : zSt} {o : Nat} {sc : Nat → Int32} {ar : Nat → Nat → Int32} {P : Option Value → zSt → Prop} (hR : RShape σ o) {x1 : Int32} :
    wpM 176 [.ref o, .int x1] (rOv σ o sc ar) P ↔ wpM 113 [.int x1, .int 0, .int 4000] (rOv σ o sc ar) (fun r τ => wp 176 8 [some (.ref o), some (.int x1)] (r.toList ++ []) τ P) := by
  show wp 176 0 [some (.ref o), some (.int x1)] [] (rOv σ o sc ar) P ↔ _
  refine (wp_s (n := 1) (zcode_of mc_176 (r := (.iload_n 1, 0, 0, 0)) rfl) rfl rfl).trans ?_
  refine (wp_ic (n' := 2) rfl (zcode_of mc_176 (r := (.iconst 0, 0, 0, 0)) rfl) ci_0).trans ?_
  refine (wp_sp (n' := 5) rfl (zcode_of mc_176 (r := (.sipush 4000, 0, 0, 0)) rfl) cs_4000).trans ?_
  exact wp_call (q := ([.int x1, .int 0, .int 4000], [])) (zcode_of mc_176 (r := (.invokestatic 140, 113, 1, 3)) rfl) rfl rfl ⟨Nat.le_of_ble_eq_true rfl, Nat.le_of_ble_eq_true rfl⟩
theorem b176_8 {σ : zSt} {o : Nat} {sc : Nat → Int32} {ar : Nat → Nat → Int32} {P : Option Value → zSt → Prop} (hR : RShape σ o) {x1 s0 : Int32} :
    wp 176 8 [some (.ref o), some (.int x1)] [.int s0] (rOv σ o sc ar) P ↔ (if ¬ s0 = 0 then wp 176 14 [some (.ref o), some (.int x1)] [] (rOv σ o sc ar) P else wp 176 11 [some (.ref o), some (.int x1)] [] (rOv σ o sc ar) P) := by
  exact wp_jump (off := 6) (t := 14) (zcode_of mc_176 (r := (.ifCond .ne 6, 0, 0, 0)) rfl) rfl rfl (by decide)
theorem b176_11 {σ : zSt} {o : Nat} {sc : Nat → Int32} {ar : Nat → Nat → Int32} {P : Option Value → zSt → Prop} (hR : RShape σ o) {x1 : Int32} :
    wp 176 11 [some (.ref o), some (.int x1)] [] (rOv σ o sc ar) P ↔ P (some (.int (-2))) (rOv σ o sc ar) := by
  refine (wp_bp (n' := 13) rfl (zcode_of mc_176 (r := (.bipush (-2), 0, 0, 0)) rfl) cb_m2).trans ?_
  exact wp_retI (zcode_of mc_176 (r := (.ireturn, 0, 0, 0)) rfl) rfl
theorem b176_14 {σ : zSt} {o : Nat} {sc : Nat → Int32} {ar : Nat → Nat → Int32} {P : Option Value → zSt → Prop} (hR : RShape σ o) {x1 : Int32} :
    wp 176 14 [some (.ref o), some (.int x1)] [] (rOv σ o sc ar) P ↔ wpM 166 [.ref o, .int x1] (rOv σ o (upS sc 20 x1) ar) (fun r τ => wp 176 24 [some (.ref o), some (.int x1)] (r.toList ++ []) τ P) := by
  refine (wp_s (n := 15) (zcode_of mc_176 (r := (.aload_n 0, 0, 0, 0)) rfl) rfl rfl).trans ?_
  refine (wp_s (n := 16) (zcode_of mc_176 (r := (.iload_n 1, 0, 0, 0)) rfl) rfl rfl).trans ?_
  refine (wr_put (n' := 19) rfl hR (zcode_of mc_176 (r := (.putfield 67, 12, 20, 0)) rfl) rfl).trans ?_
  refine (wp_s (n := 20) (zcode_of mc_176 (r := (.aload_n 0, 0, 0, 0)) rfl) rfl rfl).trans ?_
  refine (wp_s (n := 21) (zcode_of mc_176 (r := (.iload_n 1, 0, 0, 0)) rfl) rfl rfl).trans ?_
  exact wp_call (q := ([.ref o, .int x1], [])) (zcode_of mc_176 (r := (.invokevirtual 280, 166, 0, 1)) rfl) rfl (zCa_V (Nat.le_of_ble_eq_true rfl) rfl hR.tg) ⟨Nat.le_of_ble_eq_true rfl, Nat.le_of_ble_eq_true rfl⟩
theorem b176_24 {σ : zSt} {o : Nat} {sc : Nat → Int32} {ar : Nat → Nat → Int32} {P : Option Value → zSt → Prop} (hR : RShape σ o) {x1 s0 : Int32} :
    wp 176 24 [some (.ref o), some (.int x1)] [.int s0] (rOv σ o sc ar) P ↔ P (some (.int s0)) (rOv σ o sc ar) := by
  exact wp_retI (zcode_of mc_176 (r := (.ireturn, 0, 0, 0)) rfl) rfl
theorem mc_177 : mCode 177 = zc_177 := rfl
theorem b177 {σ : zSt} {o : Nat} {sc : Nat → Int32} {ar : Nat → Nat → Int32} {P : Option Value → zSt → Prop} (hR : RShape σ o) {x1 x2 : Int32} :
    wpM 177 [.ref o, .int x1, .int x2] (rOv σ o sc ar) P ↔ wpM 113 [.int x1, .int 0, .int ((sc 21) - 1)] (rOv σ o sc ar) (fun r τ => wp 177 11 [some (.ref o), some (.int x1), some (.int x2), none] (r.toList ++ []) τ P) := by
  show wp 177 0 [some (.ref o), some (.int x1), some (.int x2), none] [] (rOv σ o sc ar) P ↔ _
  refine (wp_s (n := 1) (zcode_of mc_177 (r := (.iload_n 1, 0, 0, 0)) rfl) rfl rfl).trans ?_
  refine (wp_ic (n' := 2) rfl (zcode_of mc_177 (r := (.iconst 0, 0, 0, 0)) rfl) ci_0).trans ?_
  refine (wp_s (n := 3) (zcode_of mc_177 (r := (.aload_n 0, 0, 0, 0)) rfl) rfl rfl).trans ?_
  refine (wr_getI (n' := 6) rfl hR (zcode_of mc_177 (r := (.getfield 268, 12, 21, 0)) rfl) rfl).trans ?_
  refine (wp_ic (n' := 7) rfl (zcode_of mc_177 (r := (.iconst 1, 0, 0, 0)) rfl) ci_1).trans ?_
  refine (wp_s (n := 8) (zcode_of mc_177 (r := (.isub, 0, 0, 0)) rfl) rfl rfl).trans ?_
  exact wp_call (q := ([.int x1, .int 0, .int ((sc 21) - 1)], [])) (zcode_of mc_177 (r := (.invokestatic 140, 113, 1, 3)) rfl) rfl rfl ⟨Nat.le_of_ble_eq_true rfl, Nat.le_of_ble_eq_true rfl⟩
theorem b177_11 {σ : zSt} {o : Nat} {sc : Nat → Int32} {ar : Nat → Nat → Int32} {P : Option Value → zSt → Prop} (hR : RShape σ o) {x1 x2 s0 : Int32} {u3 : Option Value} :
    wp 177 11 [some (.ref o), some (.int x1), some (.int x2), u3] [.int s0] (rOv σ o sc ar) P ↔ (if ¬ s0 = 0 then wp 177 18 [some (.ref o), some (.int x1), some (.int x2), u3] [] (rOv σ o sc ar) P else wp 177 14 [some (.ref o), some (.int x1), some (.int x2), u3] [] (rOv σ o sc ar) P) := by
  exact wp_jump (off := 7) (t := 18) (zcode_of mc_177 (r := (.ifCond .ne 7, 0, 0, 0)) rfl) rfl rfl (by decide)
theorem b177_14 {σ : zSt} {o : Nat} {sc : Nat → Int32} {ar : Nat → Nat → Int32} {P : Option Value → zSt → Prop} (hR : RShape σ o) {x1 x2 : Int32} {u3 : Option Value} :
    wp 177 14 [some (.ref o), some (.int x1), some (.int x2), u3] [] (rOv σ o sc ar) P ↔ P (some (.long (-9223372036854775808))) (rOv σ o sc ar) := by
  refine (wp_ldc2 (n' := 17) rfl (zcode_of mc_177 (r := (.ldc2_w 323, 0, 0, -9223372036854775808)) rfl) cl_m9223372036854775808).trans ?_
  exact wp_retL (zcode_of mc_177 (r := (.lreturn, 0, 0, 0)) rfl) rfl
theorem b177_18 {σ : zSt} {o : Nat} {sc : Nat → Int32} {ar : Nat → Nat → Int32} {P : Option Value → zSt → Prop} (hR : RShape σ o) {x1 x2 : Int32} {u3 : Option Value} :
    wp 177 18 [some (.ref o), some (.int x1), some (.int x2), u3] [] (rOv σ o sc ar) P ↔ (zIn x1 (rlen 42) ∧ (if x2 = 0 then wp 177 60 [some (.ref o), some (.int x1), some (.int x2), some (.int (ar 42 (Int32.toNatClampNeg x1)))] [] (rOv σ o sc ar) P else if x2 = 1 then wp 177 79 [some (.ref o), some (.int x1), some (.int x2), some (.int (ar 42 (Int32.toNatClampNeg x1)))] [] (rOv σ o sc ar) P else if x2 = 2 then wp 177 87 [some (.ref o), some (.int x1), some (.int x2), some (.int (ar 42 (Int32.toNatClampNeg x1)))] [] (rOv σ o sc ar) P else if x2 = 3 then wp 177 95 [some (.ref o), some (.int x1), some (.int x2), some (.int (ar 42 (Int32.toNatClampNeg x1)))] [] (rOv σ o sc ar) P else if x2 = 4 then wp 177 103 [some (.ref o), some (.int x1), some (.int x2), some (.int (ar 42 (Int32.toNatClampNeg x1)))] [] (rOv σ o sc ar) P else wp 177 111 [some (.ref o), some (.int x1), some (.int x2), some (.int (ar 42 (Int32.toNatClampNeg x1)))] [] (rOv σ o sc ar) P)) := by
  refine (wp_s (n := 19) (zcode_of mc_177 (r := (.aload_n 0, 0, 0, 0)) rfl) rfl rfl).trans ?_
  refine (wr_getA (n' := 22) rfl (t := 42) hR (zcode_of mc_177 (r := (.getfield 70, 12, 22, 0)) rfl) rfl rfl).trans ?_
  refine (wp_s (n := 23) (zcode_of mc_177 (r := (.iload_n 1, 0, 0, 0)) rfl) rfl rfl).trans ?_
  refine (wr_ld (n' := 24) rfl hR (zcode_of mc_177 (r := (.iaload, 0, 0, 0)) rfl) rfl rfl).trans (and_congr Iff.rfl ?_)
  refine (wp_s (n := 25) (zcode_of mc_177 (r := (.istore_n 3, 0, 0, 0)) rfl) rfl rfl).trans ?_
  refine (wp_s (n := 26) (zcode_of mc_177 (r := (.iload_n 2, 0, 0, 0)) rfl) rfl rfl).trans ?_
  by_cases h0 : x2 = 0
  · rw [if_pos h0, h0]
    exact wp_swI (zcode_of mc_177 (r := (.tableswitch 85 0 4 #[34, 53, 61, 69, 77], 0, 0, 0)) rfl) (t := 60) (by decide)
  rw [if_neg h0]
  by_cases h1 : x2 = 1
  · rw [if_pos h1, h1]
    exact wp_swI (zcode_of mc_177 (r := (.tableswitch 85 0 4 #[34, 53, 61, 69, 77], 0, 0, 0)) rfl) (t := 79) (by decide)
  rw [if_neg h1]
  by_cases h2 : x2 = 2
  · rw [if_pos h2, h2]
    exact wp_swI (zcode_of mc_177 (r := (.tableswitch 85 0 4 #[34, 53, 61, 69, 77], 0, 0, 0)) rfl) (t := 87) (by decide)
  rw [if_neg h2]
  by_cases h3 : x2 = 3
  · rw [if_pos h3, h3]
    exact wp_swI (zcode_of mc_177 (r := (.tableswitch 85 0 4 #[34, 53, 61, 69, 77], 0, 0, 0)) rfl) (t := 95) (by decide)
  rw [if_neg h3]
  by_cases h4 : x2 = 4
  · rw [if_pos h4, h4]
    exact wp_swI (zcode_of mc_177 (r := (.tableswitch 85 0 4 #[34, 53, 61, 69, 77], 0, 0, 0)) rfl) (t := 103) (by decide)
  rw [if_neg h4]
  exact wp_swO (zcode_of mc_177 (r := (.tableswitch 85 0 4 #[34, 53, 61, 69, 77], 0, 0, 0)) rfl) (t := 111) (by decide) (zsw_lo (fun k g1 g2 => by
    rcases (show k = 0 ∨ k = 1 ∨ k = 2 ∨ k = 3 ∨ k = 4 by omega) with rfl | rfl | rfl | rfl | rfl
    · exact h0
    · exact h1
    · exact h2
    · exact h3
    · exact h4) (by decide) (by decide))
theorem b177_60 {σ : zSt} {o : Nat} {sc : Nat → Int32} {ar : Nat → Nat → Int32} {P : Option Value → zSt → Prop} (hR : RShape σ o) {x1 x2 x3 : Int32} :
    wp 177 60 [some (.ref o), some (.int x1), some (.int x2), some (.int x3)] [] (rOv σ o sc ar) P ↔ (zIn x3 (rlen 45) ∧ wpM 144 [.ref (rad o 44), .int (425 * x3), .int (ar 45 (Int32.toNatClampNeg x3))] (rOv σ o sc ar) (fun r τ => wp 177 78 [some (.ref o), some (.int x1), some (.int x2), some (.int x3)] (r.toList ++ []) τ P)) := by
  refine (wp_s (n := 61) (zcode_of mc_177 (r := (.aload_n 0, 0, 0, 0)) rfl) rfl rfl).trans ?_
  refine (wr_getA (n' := 64) rfl (t := 44) hR (zcode_of mc_177 (r := (.getfield 77, 12, 24, 0)) rfl) rfl rfl).trans ?_
  refine (wp_sp (n' := 67) rfl (zcode_of mc_177 (r := (.sipush 425, 0, 0, 0)) rfl) cs_425).trans ?_
  refine (wp_s (n := 68) (zcode_of mc_177 (r := (.iload_n 3, 0, 0, 0)) rfl) rfl rfl).trans ?_
  refine (wp_s (n := 69) (zcode_of mc_177 (r := (.imul, 0, 0, 0)) rfl) rfl rfl).trans ?_
  refine (wp_s (n := 70) (zcode_of mc_177 (r := (.aload_n 0, 0, 0, 0)) rfl) rfl rfl).trans ?_
  refine (wr_getA (n' := 73) rfl (t := 45) hR (zcode_of mc_177 (r := (.getfield 80, 12, 25, 0)) rfl) rfl rfl).trans ?_
  refine (wp_s (n := 74) (zcode_of mc_177 (r := (.iload_n 3, 0, 0, 0)) rfl) rfl rfl).trans ?_
  refine (wr_ld (n' := 75) rfl hR (zcode_of mc_177 (r := (.iaload, 0, 0, 0)) rfl) rfl rfl).trans (and_congr Iff.rfl ?_)
  exact wp_call (q := ([.ref (rad o 44), .int (425 * x3), .int (ar 45 (Int32.toNatClampNeg x3))], [])) (zcode_of mc_177 (r := (.invokestatic 213, 144, 1, 3)) rfl) rfl rfl ⟨Nat.le_of_ble_eq_true rfl, Nat.le_of_ble_eq_true rfl⟩
theorem b177_78 {σ : zSt} {o : Nat} {sc : Nat → Int32} {ar : Nat → Nat → Int32} {P : Option Value → zSt → Prop} (hR : RShape σ o) {x1 x2 x3 : Int32} {s0 : Int64} :
    wp 177 78 [some (.ref o), some (.int x1), some (.int x2), some (.int x3)] [.long s0] (rOv σ o sc ar) P ↔ P (some (.long s0)) (rOv σ o sc ar) := by
  exact wp_retL (zcode_of mc_177 (r := (.lreturn, 0, 0, 0)) rfl) rfl
theorem b177_79 {σ : zSt} {o : Nat} {sc : Nat → Int32} {ar : Nat → Nat → Int32} {P : Option Value → zSt → Prop} (hR : RShape σ o) {x1 x2 x3 : Int32} :
    wp 177 79 [some (.ref o), some (.int x1), some (.int x2), some (.int x3)] [] (rOv σ o sc ar) P ↔ (zIn x3 (rlen 46) ∧ P (some (.long (Int32.toInt64 (ar 46 (Int32.toNatClampNeg x3))))) (rOv σ o sc ar)) := by
  refine (wp_s (n := 80) (zcode_of mc_177 (r := (.aload_n 0, 0, 0, 0)) rfl) rfl rfl).trans ?_
  refine (wr_getA (n' := 83) rfl (t := 46) hR (zcode_of mc_177 (r := (.getfield 83, 12, 26, 0)) rfl) rfl rfl).trans ?_
  refine (wp_s (n := 84) (zcode_of mc_177 (r := (.iload_n 3, 0, 0, 0)) rfl) rfl rfl).trans ?_
  refine (wr_ld (n' := 85) rfl hR (zcode_of mc_177 (r := (.iaload, 0, 0, 0)) rfl) rfl rfl).trans (and_congr Iff.rfl ?_)
  refine (wp_s (n := 86) (zcode_of mc_177 (r := (.i2l, 0, 0, 0)) rfl) rfl rfl).trans ?_
  exact wp_retL (zcode_of mc_177 (r := (.lreturn, 0, 0, 0)) rfl) rfl
theorem b177_87 {σ : zSt} {o : Nat} {sc : Nat → Int32} {ar : Nat → Nat → Int32} {P : Option Value → zSt → Prop} (hR : RShape σ o) {x1 x2 x3 : Int32} :
    wp 177 87 [some (.ref o), some (.int x1), some (.int x2), some (.int x3)] [] (rOv σ o sc ar) P ↔ (zIn x3 (rlen 47) ∧ P (some (.long (Int32.toInt64 (ar 47 (Int32.toNatClampNeg x3))))) (rOv σ o sc ar)) := by
  refine (wp_s (n := 88) (zcode_of mc_177 (r := (.aload_n 0, 0, 0, 0)) rfl) rfl rfl).trans ?_
  refine (wr_getA (n' := 91) rfl (t := 47) hR (zcode_of mc_177 (r := (.getfield 86, 12, 27, 0)) rfl) rfl rfl).trans ?_
  refine (wp_s (n := 92) (zcode_of mc_177 (r := (.iload_n 3, 0, 0, 0)) rfl) rfl rfl).trans ?_
  refine (wr_ld (n' := 93) rfl hR (zcode_of mc_177 (r := (.iaload, 0, 0, 0)) rfl) rfl rfl).trans (and_congr Iff.rfl ?_)
  refine (wp_s (n := 94) (zcode_of mc_177 (r := (.i2l, 0, 0, 0)) rfl) rfl rfl).trans ?_
  exact wp_retL (zcode_of mc_177 (r := (.lreturn, 0, 0, 0)) rfl) rfl
theorem b177_95 {σ : zSt} {o : Nat} {sc : Nat → Int32} {ar : Nat → Nat → Int32} {P : Option Value → zSt → Prop} (hR : RShape σ o) {x1 x2 x3 : Int32} :
    wp 177 95 [some (.ref o), some (.int x1), some (.int x2), some (.int x3)] [] (rOv σ o sc ar) P ↔ (zIn x3 (rlen 48) ∧ P (some (.long (Int32.toInt64 (ar 48 (Int32.toNatClampNeg x3))))) (rOv σ o sc ar)) := by
  refine (wp_s (n := 96) (zcode_of mc_177 (r := (.aload_n 0, 0, 0, 0)) rfl) rfl rfl).trans ?_
  refine (wr_getA (n' := 99) rfl (t := 48) hR (zcode_of mc_177 (r := (.getfield 89, 12, 28, 0)) rfl) rfl rfl).trans ?_
  refine (wp_s (n := 100) (zcode_of mc_177 (r := (.iload_n 3, 0, 0, 0)) rfl) rfl rfl).trans ?_
  refine (wr_ld (n' := 101) rfl hR (zcode_of mc_177 (r := (.iaload, 0, 0, 0)) rfl) rfl rfl).trans (and_congr Iff.rfl ?_)
  refine (wp_s (n := 102) (zcode_of mc_177 (r := (.i2l, 0, 0, 0)) rfl) rfl rfl).trans ?_
  exact wp_retL (zcode_of mc_177 (r := (.lreturn, 0, 0, 0)) rfl) rfl
theorem b177_103 {σ : zSt} {o : Nat} {sc : Nat → Int32} {ar : Nat → Nat → Int32} {P : Option Value → zSt → Prop} (hR : RShape σ o) {x1 x2 x3 : Int32} :
    wp 177 103 [some (.ref o), some (.int x1), some (.int x2), some (.int x3)] [] (rOv σ o sc ar) P ↔ (zIn x3 (rlen 49) ∧ P (some (.long (Int32.toInt64 (ar 49 (Int32.toNatClampNeg x3))))) (rOv σ o sc ar)) := by
  refine (wp_s (n := 104) (zcode_of mc_177 (r := (.aload_n 0, 0, 0, 0)) rfl) rfl rfl).trans ?_
  refine (wr_getA (n' := 107) rfl (t := 49) hR (zcode_of mc_177 (r := (.getfield 92, 12, 29, 0)) rfl) rfl rfl).trans ?_
  refine (wp_s (n := 108) (zcode_of mc_177 (r := (.iload_n 3, 0, 0, 0)) rfl) rfl rfl).trans ?_
  refine (wr_ld (n' := 109) rfl hR (zcode_of mc_177 (r := (.iaload, 0, 0, 0)) rfl) rfl rfl).trans (and_congr Iff.rfl ?_)
  refine (wp_s (n := 110) (zcode_of mc_177 (r := (.i2l, 0, 0, 0)) rfl) rfl rfl).trans ?_
  exact wp_retL (zcode_of mc_177 (r := (.lreturn, 0, 0, 0)) rfl) rfl
theorem b177_111 {σ : zSt} {o : Nat} {sc : Nat → Int32} {ar : Nat → Nat → Int32} {P : Option Value → zSt → Prop} (hR : RShape σ o) {x1 x2 x3 : Int32} :
    wp 177 111 [some (.ref o), some (.int x1), some (.int x2), some (.int x3)] [] (rOv σ o sc ar) P ↔ P (some (.long (-9223372036854775808))) (rOv σ o sc ar) := by
  refine (wp_ldc2 (n' := 114) rfl (zcode_of mc_177 (r := (.ldc2_w 323, 0, 0, -9223372036854775808)) rfl) cl_m9223372036854775808).trans ?_
  exact wp_retL (zcode_of mc_177 (r := (.lreturn, 0, 0, 0)) rfl) rfl
theorem mc_178 : mCode 178 = zc_178 := rfl
theorem b178 {σ : zSt} {o : Nat} {sc : Nat → Int32} {ar : Nat → Nat → Int32} {P : Option Value → zSt → Prop} (hR : RShape σ o) :
    wpM 178 [.ref o] (rOv σ o sc ar) P ↔ wp 178 7 [some (.ref o), some (.int (sc 21)), some (.int 0)] [] (rOv σ o sc ar) P := by
  show wp 178 0 [some (.ref o), none, none] [] (rOv σ o sc ar) P ↔ _
  refine (wp_s (n := 1) (zcode_of mc_178 (r := (.aload_n 0, 0, 0, 0)) rfl) rfl rfl).trans ?_
  refine (wr_getI (n' := 4) rfl hR (zcode_of mc_178 (r := (.getfield 268, 12, 21, 0)) rfl) rfl).trans ?_
  refine (wp_s (n := 5) (zcode_of mc_178 (r := (.istore_n 1, 0, 0, 0)) rfl) rfl rfl).trans ?_
  refine (wp_ic (n' := 6) rfl (zcode_of mc_178 (r := (.iconst 0, 0, 0, 0)) rfl) ci_0).trans ?_
  refine (wp_s (n := 7) (zcode_of mc_178 (r := (.istore_n 2, 0, 0, 0)) rfl) rfl rfl).trans ?_
  exact Iff.rfl
theorem b178_7 {σ : zSt} {o : Nat} {sc : Nat → Int32} {ar : Nat → Nat → Int32} {P : Option Value → zSt → Prop} (hR : RShape σ o) {x1 x2 : Int32} :
    wp 178 7 [some (.ref o), some (.int x1), some (.int x2)] [] (rOv σ o sc ar) P ↔ (if (sc 21) ≤ x2 then wp 178 33 [some (.ref o), some (.int x1), some (.int x2)] [] (rOv σ o sc ar) P else wp 178 15 [some (.ref o), some (.int x1), some (.int x2)] [] (rOv σ o sc ar) P) := by
  refine (wp_s (n := 8) (zcode_of mc_178 (r := (.iload_n 2, 0, 0, 0)) rfl) rfl rfl).trans ?_
  refine (wp_s (n := 9) (zcode_of mc_178 (r := (.aload_n 0, 0, 0, 0)) rfl) rfl rfl).trans ?_
  refine (wr_getI (n' := 12) rfl hR (zcode_of mc_178 (r := (.getfield 268, 12, 21, 0)) rfl) rfl).trans ?_
  exact wp_jump (off := 21) (t := 33) (zcode_of mc_178 (r := (.if_icmp .ge 21, 0, 0, 0)) rfl) rfl rfl (by decide)
theorem b178_15 {σ : zSt} {o : Nat} {sc : Nat → Int32} {ar : Nat → Nat → Int32} {P : Option Value → zSt → Prop} (hR : RShape σ o) {x1 x2 : Int32} :
    wp 178 15 [some (.ref o), some (.int x1), some (.int x2)] [] (rOv σ o sc ar) P ↔ (zIn x2 (rlen 42) ∧ ((zIn (ar 42 (Int32.toNatClampNeg x2)) (rlen 43) ∧ ((0 : Int32) = 0 ∨ (0 : Int32) = 1)) ∧ wp 178 7 [some (.ref o), some (.int x1), some (.int (x2 + 1))] [] (rOv σ o sc (upA ar 43 (Int32.toNatClampNeg (ar 42 (Int32.toNatClampNeg x2))) 0)) P)) := by
  refine (wp_s (n := 16) (zcode_of mc_178 (r := (.aload_n 0, 0, 0, 0)) rfl) rfl rfl).trans ?_
  refine (wr_getA (n' := 19) rfl (t := 43) hR (zcode_of mc_178 (r := (.getfield 73, 12, 23, 0)) rfl) rfl rfl).trans ?_
  refine (wp_s (n := 20) (zcode_of mc_178 (r := (.aload_n 0, 0, 0, 0)) rfl) rfl rfl).trans ?_
  refine (wr_getA (n' := 23) rfl (t := 42) hR (zcode_of mc_178 (r := (.getfield 70, 12, 22, 0)) rfl) rfl rfl).trans ?_
  refine (wp_s (n := 24) (zcode_of mc_178 (r := (.iload_n 2, 0, 0, 0)) rfl) rfl rfl).trans ?_
  refine (wr_ld (n' := 25) rfl hR (zcode_of mc_178 (r := (.iaload, 0, 0, 0)) rfl) rfl rfl).trans (and_congr Iff.rfl ?_)
  refine (wp_ic (n' := 26) rfl (zcode_of mc_178 (r := (.iconst 0, 0, 0, 0)) rfl) ci_0).trans ?_
  refine (wr_stZ (n' := 27) rfl hR (zcode_of mc_178 (r := (.bastore, 0, 0, 0)) rfl) rfl rfl).trans (and_congr Iff.rfl ?_)
  refine (wp_inc (n' := 30) rfl (zcode_of mc_178 (r := (.iinc 2 1, 0, 0, 0)) rfl) rfl rfl ci_1).trans ?_
  exact wp_goto (off := (-23)) (t := 7) (zcode_of mc_178 (r := (.goto (-23), 0, 0, 0)) rfl) (by decide)
theorem b178_33 {σ : zSt} {o : Nat} {sc : Nat → Int32} {ar : Nat → Nat → Int32} {P : Option Value → zSt → Prop} (hR : RShape σ o) {x1 x2 : Int32} :
    wp 178 33 [some (.ref o), some (.int x1), some (.int x2)] [] (rOv σ o sc ar) P ↔ P (some (.int x1)) (rOv σ o (upS sc 21 0) ar) := by
  refine (wp_s (n := 34) (zcode_of mc_178 (r := (.aload_n 0, 0, 0, 0)) rfl) rfl rfl).trans ?_
  refine (wp_ic (n' := 35) rfl (zcode_of mc_178 (r := (.iconst 0, 0, 0, 0)) rfl) ci_0).trans ?_
  refine (wr_put (n' := 38) rfl hR (zcode_of mc_178 (r := (.putfield 268, 12, 21, 0)) rfl) rfl).trans ?_
  refine (wp_s (n := 39) (zcode_of mc_178 (r := (.iload_n 1, 0, 0, 0)) rfl) rfl rfl).trans ?_
  exact wp_retI (zcode_of mc_178 (r := (.ireturn, 0, 0, 0)) rfl) rfl
theorem mc_179 : mCode 179 = zc_179 := rfl
theorem b179 {σ : zSt} {o : Nat} {sc : Nat → Int32} {ar : Nat → Nat → Int32} {P : Option Value → zSt → Prop} (hR : RShape σ o) {x1 : Int32} :
    wpM 179 [.ref o, .int x1] (rOv σ o sc ar) P ↔ (if x1 = 0 then wp 179 60 [some (.ref o), some (.int x1)] [] (rOv σ o sc ar) P else if x1 = 1 then wp 179 65 [some (.ref o), some (.int x1)] [] (rOv σ o sc ar) P else if x1 = 2 then wp 179 70 [some (.ref o), some (.int x1)] [] (rOv σ o sc ar) P else if x1 = 3 then wp 179 75 [some (.ref o), some (.int x1)] [] (rOv σ o sc ar) P else if x1 = 4 then wp 179 80 [some (.ref o), some (.int x1)] [] (rOv σ o sc ar) P else if x1 = 5 then wp 179 85 [some (.ref o), some (.int x1)] [] (rOv σ o sc ar) P else if x1 = 6 then wp 179 90 [some (.ref o), some (.int x1)] [] (rOv σ o sc ar) P else if x1 = 7 then wp 179 95 [some (.ref o), some (.int x1)] [] (rOv σ o sc ar) P else if x1 = 8 then wp 179 100 [some (.ref o), some (.int x1)] [] (rOv σ o sc ar) P else if x1 = 9 then wp 179 105 [some (.ref o), some (.int x1)] [] (rOv σ o sc ar) P else if x1 = 10 then wp 179 110 [some (.ref o), some (.int x1)] [] (rOv σ o sc ar) P else wp 179 115 [some (.ref o), some (.int x1)] [] (rOv σ o sc ar) P) := by
  show wp 179 0 [some (.ref o), some (.int x1)] [] (rOv σ o sc ar) P ↔ _
  refine (wp_s (n := 1) (zcode_of mc_179 (r := (.iload_n 1, 0, 0, 0)) rfl) rfl rfl).trans ?_
  by_cases h0 : x1 = 0
  · rw [if_pos h0, h0]
    exact wp_swI (zcode_of mc_179 (r := (.tableswitch 114 0 10 #[59, 64, 69, 74, 79, 84, 89, 94, 99, 104, 109], 0, 0, 0)) rfl) (t := 60) (by decide)
  rw [if_neg h0]
  by_cases h1 : x1 = 1
  · rw [if_pos h1, h1]
    exact wp_swI (zcode_of mc_179 (r := (.tableswitch 114 0 10 #[59, 64, 69, 74, 79, 84, 89, 94, 99, 104, 109], 0, 0, 0)) rfl) (t := 65) (by decide)
  rw [if_neg h1]
  by_cases h2 : x1 = 2
  · rw [if_pos h2, h2]
    exact wp_swI (zcode_of mc_179 (r := (.tableswitch 114 0 10 #[59, 64, 69, 74, 79, 84, 89, 94, 99, 104, 109], 0, 0, 0)) rfl) (t := 70) (by decide)
  rw [if_neg h2]
  by_cases h3 : x1 = 3
  · rw [if_pos h3, h3]
    exact wp_swI (zcode_of mc_179 (r := (.tableswitch 114 0 10 #[59, 64, 69, 74, 79, 84, 89, 94, 99, 104, 109], 0, 0, 0)) rfl) (t := 75) (by decide)
  rw [if_neg h3]
  by_cases h4 : x1 = 4
  · rw [if_pos h4, h4]
    exact wp_swI (zcode_of mc_179 (r := (.tableswitch 114 0 10 #[59, 64, 69, 74, 79, 84, 89, 94, 99, 104, 109], 0, 0, 0)) rfl) (t := 80) (by decide)
  rw [if_neg h4]
  by_cases h5 : x1 = 5
  · rw [if_pos h5, h5]
    exact wp_swI (zcode_of mc_179 (r := (.tableswitch 114 0 10 #[59, 64, 69, 74, 79, 84, 89, 94, 99, 104, 109], 0, 0, 0)) rfl) (t := 85) (by decide)
  rw [if_neg h5]
  by_cases h6 : x1 = 6
  · rw [if_pos h6, h6]
    exact wp_swI (zcode_of mc_179 (r := (.tableswitch 114 0 10 #[59, 64, 69, 74, 79, 84, 89, 94, 99, 104, 109], 0, 0, 0)) rfl) (t := 90) (by decide)
  rw [if_neg h6]
  by_cases h7 : x1 = 7
  · rw [if_pos h7, h7]
    exact wp_swI (zcode_of mc_179 (r := (.tableswitch 114 0 10 #[59, 64, 69, 74, 79, 84, 89, 94, 99, 104, 109], 0, 0, 0)) rfl) (t := 95) (by decide)
  rw [if_neg h7]
  by_cases h8 : x1 = 8
  · rw [if_pos h8, h8]
    exact wp_swI (zcode_of mc_179 (r := (.tableswitch 114 0 10 #[59, 64, 69, 74, 79, 84, 89, 94, 99, 104, 109], 0, 0, 0)) rfl) (t := 100) (by decide)
  rw [if_neg h8]
  by_cases h9 : x1 = 9
  · rw [if_pos h9, h9]
    exact wp_swI (zcode_of mc_179 (r := (.tableswitch 114 0 10 #[59, 64, 69, 74, 79, 84, 89, 94, 99, 104, 109], 0, 0, 0)) rfl) (t := 105) (by decide)
  rw [if_neg h9]
  by_cases h10 : x1 = 10
  · rw [if_pos h10, h10]
    exact wp_swI (zcode_of mc_179 (r := (.tableswitch 114 0 10 #[59, 64, 69, 74, 79, 84, 89, 94, 99, 104, 109], 0, 0, 0)) rfl) (t := 110) (by decide)
  rw [if_neg h10]
  exact wp_swO (zcode_of mc_179 (r := (.tableswitch 114 0 10 #[59, 64, 69, 74, 79, 84, 89, 94, 99, 104, 109], 0, 0, 0)) rfl) (t := 115) (by decide) (zsw_lo (fun k g1 g2 => by
    rcases (show k = 0 ∨ k = 1 ∨ k = 2 ∨ k = 3 ∨ k = 4 ∨ k = 5 ∨ k = 6 ∨ k = 7 ∨ k = 8 ∨ k = 9 ∨ k = 10 by omega) with rfl | rfl | rfl | rfl | rfl | rfl | rfl | rfl | rfl | rfl | rfl
    · exact h0
    · exact h1
    · exact h2
    · exact h3
    · exact h4
    · exact h5
    · exact h6
    · exact h7
    · exact h8
    · exact h9
    · exact h10) (by decide) (by decide))
theorem b179_60 {σ : zSt} {o : Nat} {sc : Nat → Int32} {ar : Nat → Nat → Int32} {P : Option Value → zSt → Prop} (hR : RShape σ o) {x1 : Int32} :
    wp 179 60 [some (.ref o), some (.int x1)] [] (rOv σ o sc ar) P ↔ P (some (.int (sc 0))) (rOv σ o sc ar) := by
  refine (wp_s (n := 61) (zcode_of mc_179 (r := (.aload_n 0, 0, 0, 0)) rfl) rfl rfl).trans ?_
  refine (wr_getI (n' := 64) rfl hR (zcode_of mc_179 (r := (.getfield 7, 12, 0, 0)) rfl) rfl).trans ?_
  exact wp_retI (zcode_of mc_179 (r := (.ireturn, 0, 0, 0)) rfl) rfl
theorem b179_65 {σ : zSt} {o : Nat} {sc : Nat → Int32} {ar : Nat → Nat → Int32} {P : Option Value → zSt → Prop} (hR : RShape σ o) {x1 : Int32} :
    wp 179 65 [some (.ref o), some (.int x1)] [] (rOv σ o sc ar) P ↔ P (some (.int (sc 9))) (rOv σ o sc ar) := by
  refine (wp_s (n := 66) (zcode_of mc_179 (r := (.aload_n 0, 0, 0, 0)) rfl) rfl rfl).trans ?_
  refine (wr_getI (n' := 69) rfl hR (zcode_of mc_179 (r := (.getfield 144, 12, 9, 0)) rfl) rfl).trans ?_
  exact wp_retI (zcode_of mc_179 (r := (.ireturn, 0, 0, 0)) rfl) rfl
theorem b179_70 {σ : zSt} {o : Nat} {sc : Nat → Int32} {ar : Nat → Nat → Int32} {P : Option Value → zSt → Prop} (hR : RShape σ o) {x1 : Int32} :
    wp 179 70 [some (.ref o), some (.int x1)] [] (rOv σ o sc ar) P ↔ P (some (.int (sc 8))) (rOv σ o sc ar) := by
  refine (wp_s (n := 71) (zcode_of mc_179 (r := (.aload_n 0, 0, 0, 0)) rfl) rfl rfl).trans ?_
  refine (wr_getI (n' := 74) rfl hR (zcode_of mc_179 (r := (.getfield 151, 12, 8, 0)) rfl) rfl).trans ?_
  exact wp_retI (zcode_of mc_179 (r := (.ireturn, 0, 0, 0)) rfl) rfl
theorem b179_75 {σ : zSt} {o : Nat} {sc : Nat → Int32} {ar : Nat → Nat → Int32} {P : Option Value → zSt → Prop} (hR : RShape σ o) {x1 : Int32} :
    wp 179 75 [some (.ref o), some (.int x1)] [] (rOv σ o sc ar) P ↔ P (some (.int (sc 21))) (rOv σ o sc ar) := by
  refine (wp_s (n := 76) (zcode_of mc_179 (r := (.aload_n 0, 0, 0, 0)) rfl) rfl rfl).trans ?_
  refine (wr_getI (n' := 79) rfl hR (zcode_of mc_179 (r := (.getfield 268, 12, 21, 0)) rfl) rfl).trans ?_
  exact wp_retI (zcode_of mc_179 (r := (.ireturn, 0, 0, 0)) rfl) rfl
theorem b179_80 {σ : zSt} {o : Nat} {sc : Nat → Int32} {ar : Nat → Nat → Int32} {P : Option Value → zSt → Prop} (hR : RShape σ o) {x1 : Int32} :
    wp 179 80 [some (.ref o), some (.int x1)] [] (rOv σ o sc ar) P ↔ wpM 164 [.ref o] (rOv σ o sc ar) (fun r τ => wp 179 84 [some (.ref o), some (.int x1)] (r.toList ++ []) τ P) := by
  refine (wp_s (n := 81) (zcode_of mc_179 (r := (.aload_n 0, 0, 0, 0)) rfl) rfl rfl).trans ?_
  exact wp_call (q := ([.ref o], [])) (zcode_of mc_179 (r := (.invokevirtual 271, 164, 0, 0)) rfl) rfl (zCa_V (Nat.le_of_ble_eq_true rfl) rfl hR.tg) ⟨Nat.le_of_ble_eq_true rfl, Nat.le_of_ble_eq_true rfl⟩
theorem b179_84 {σ : zSt} {o : Nat} {sc : Nat → Int32} {ar : Nat → Nat → Int32} {P : Option Value → zSt → Prop} (hR : RShape σ o) {x1 s0 : Int32} :
    wp 179 84 [some (.ref o), some (.int x1)] [.int s0] (rOv σ o sc ar) P ↔ P (some (.int s0)) (rOv σ o sc ar) := by
  exact wp_retI (zcode_of mc_179 (r := (.ireturn, 0, 0, 0)) rfl) rfl
theorem b179_85 {σ : zSt} {o : Nat} {sc : Nat → Int32} {ar : Nat → Nat → Int32} {P : Option Value → zSt → Prop} (hR : RShape σ o) {x1 : Int32} :
    wp 179 85 [some (.ref o), some (.int x1)] [] (rOv σ o sc ar) P ↔ P (some (.int (sc 20))) (rOv σ o sc ar) := by
  refine (wp_s (n := 86) (zcode_of mc_179 (r := (.aload_n 0, 0, 0, 0)) rfl) rfl rfl).trans ?_
  refine (wr_getI (n' := 89) rfl hR (zcode_of mc_179 (r := (.getfield 67, 12, 20, 0)) rfl) rfl).trans ?_
  exact wp_retI (zcode_of mc_179 (r := (.ireturn, 0, 0, 0)) rfl) rfl
theorem b179_90 {σ : zSt} {o : Nat} {sc : Nat → Int32} {ar : Nat → Nat → Int32} {P : Option Value → zSt → Prop} (hR : RShape σ o) {x1 : Int32} :
    wp 179 90 [some (.ref o), some (.int x1)] [] (rOv σ o sc ar) P ↔ P (some (.int (sc 32))) (rOv σ o sc ar) := by
  refine (wp_s (n := 91) (zcode_of mc_179 (r := (.aload_n 0, 0, 0, 0)) rfl) rfl rfl).trans ?_
  refine (wr_getI (n' := 94) rfl hR (zcode_of mc_179 (r := (.getfield 284, 12, 32, 0)) rfl) rfl).trans ?_
  exact wp_retI (zcode_of mc_179 (r := (.ireturn, 0, 0, 0)) rfl) rfl
theorem b179_95 {σ : zSt} {o : Nat} {sc : Nat → Int32} {ar : Nat → Nat → Int32} {P : Option Value → zSt → Prop} (hR : RShape σ o) {x1 : Int32} :
    wp 179 95 [some (.ref o), some (.int x1)] [] (rOv σ o sc ar) P ↔ P (some (.int (sc 37))) (rOv σ o sc ar) := by
  refine (wp_s (n := 96) (zcode_of mc_179 (r := (.aload_n 0, 0, 0, 0)) rfl) rfl rfl).trans ?_
  refine (wr_getI (n' := 99) rfl hR (zcode_of mc_179 (r := (.getfield 299, 12, 37, 0)) rfl) rfl).trans ?_
  exact wp_retI (zcode_of mc_179 (r := (.ireturn, 0, 0, 0)) rfl) rfl
theorem b179_100 {σ : zSt} {o : Nat} {sc : Nat → Int32} {ar : Nat → Nat → Int32} {P : Option Value → zSt → Prop} (hR : RShape σ o) {x1 : Int32} :
    wp 179 100 [some (.ref o), some (.int x1)] [] (rOv σ o sc ar) P ↔ P (some (.int (sc 38))) (rOv σ o sc ar) := by
  refine (wp_s (n := 101) (zcode_of mc_179 (r := (.aload_n 0, 0, 0, 0)) rfl) rfl rfl).trans ?_
  refine (wr_getI (n' := 104) rfl hR (zcode_of mc_179 (r := (.getfield 305, 12, 38, 0)) rfl) rfl).trans ?_
  exact wp_retI (zcode_of mc_179 (r := (.ireturn, 0, 0, 0)) rfl) rfl
theorem b179_105 {σ : zSt} {o : Nat} {sc : Nat → Int32} {ar : Nat → Nat → Int32} {P : Option Value → zSt → Prop} (hR : RShape σ o) {x1 : Int32} :
    wp 179 105 [some (.ref o), some (.int x1)] [] (rOv σ o sc ar) P ↔ P (some (.int (sc 39))) (rOv σ o sc ar) := by
  refine (wp_s (n := 106) (zcode_of mc_179 (r := (.aload_n 0, 0, 0, 0)) rfl) rfl rfl).trans ?_
  refine (wr_getI (n' := 109) rfl hR (zcode_of mc_179 (r := (.getfield 277, 12, 39, 0)) rfl) rfl).trans ?_
  exact wp_retI (zcode_of mc_179 (r := (.ireturn, 0, 0, 0)) rfl) rfl
theorem b179_110 {σ : zSt} {o : Nat} {sc : Nat → Int32} {ar : Nat → Nat → Int32} {P : Option Value → zSt → Prop} (hR : RShape σ o) {x1 : Int32} :
    wp 179 110 [some (.ref o), some (.int x1)] [] (rOv σ o sc ar) P ↔ P (some (.int (sc 40))) (rOv σ o sc ar) := by
  refine (wp_s (n := 111) (zcode_of mc_179 (r := (.aload_n 0, 0, 0, 0)) rfl) rfl rfl).trans ?_
  refine (wr_getI (n' := 114) rfl hR (zcode_of mc_179 (r := (.getfield 311, 12, 40, 0)) rfl) rfl).trans ?_
  exact wp_retI (zcode_of mc_179 (r := (.ireturn, 0, 0, 0)) rfl) rfl
theorem b179_115 {σ : zSt} {o : Nat} {sc : Nat → Int32} {ar : Nat → Nat → Int32} {P : Option Value → zSt → Prop} (hR : RShape σ o) {x1 : Int32} :
    wp 179 115 [some (.ref o), some (.int x1)] [] (rOv σ o sc ar) P ↔ P (some (.int (-2))) (rOv σ o sc ar) := by
  refine (wp_bp (n' := 117) rfl (zcode_of mc_179 (r := (.bipush (-2), 0, 0, 0)) rfl) cb_m2).trans ?_
  exact wp_retI (zcode_of mc_179 (r := (.ireturn, 0, 0, 0)) rfl) rfl
theorem mc_180 : mCode 180 = zc_180 := rfl
theorem b180 {σ : zSt} {o : Nat} {sc : Nat → Int32} {ar : Nat → Nat → Int32} {P : Option Value → zSt → Prop} (hR : RShape σ o) :
    wpM 180 [.ref o] (rOv σ o sc ar) P ↔ wpM 178 [.ref o] (rOv σ o (upS (upS (upS (upS sc 0 1) 8 0) 9 0) 20 1000) ar) (fun r τ => wp 180 26 [some (.ref o)] (r.toList ++ []) τ P) := by
  show wp 180 0 [some (.ref o)] [] (rOv σ o sc ar) P ↔ _
  refine (wp_s (n := 1) (zcode_of mc_180 (r := (.aload_n 0, 0, 0, 0)) rfl) rfl rfl).trans ?_
  refine (wp_ic (n' := 2) rfl (zcode_of mc_180 (r := (.iconst 1, 0, 0, 0)) rfl) ci_1).trans ?_
  refine (wr_put (n' := 5) rfl hR (zcode_of mc_180 (r := (.putfield 7, 12, 0, 0)) rfl) rfl).trans ?_
  refine (wp_s (n := 6) (zcode_of mc_180 (r := (.aload_n 0, 0, 0, 0)) rfl) rfl rfl).trans ?_
  refine (wp_ic (n' := 7) rfl (zcode_of mc_180 (r := (.iconst 0, 0, 0, 0)) rfl) ci_0).trans ?_
  refine (wr_put (n' := 10) rfl hR (zcode_of mc_180 (r := (.putfield 151, 12, 8, 0)) rfl) rfl).trans ?_
  refine (wp_s (n := 11) (zcode_of mc_180 (r := (.aload_n 0, 0, 0, 0)) rfl) rfl rfl).trans ?_
  refine (wp_ic (n' := 12) rfl (zcode_of mc_180 (r := (.iconst 0, 0, 0, 0)) rfl) ci_0).trans ?_
  refine (wr_put (n' := 15) rfl hR (zcode_of mc_180 (r := (.putfield 144, 12, 9, 0)) rfl) rfl).trans ?_
  refine (wp_s (n := 16) (zcode_of mc_180 (r := (.aload_n 0, 0, 0, 0)) rfl) rfl rfl).trans ?_
  refine (wp_sp (n' := 19) rfl (zcode_of mc_180 (r := (.sipush 1000, 0, 0, 0)) rfl) cs_1000).trans ?_
  refine (wr_put (n' := 22) rfl hR (zcode_of mc_180 (r := (.putfield 67, 12, 20, 0)) rfl) rfl).trans ?_
  refine (wp_s (n := 23) (zcode_of mc_180 (r := (.aload_n 0, 0, 0, 0)) rfl) rfl rfl).trans ?_
  exact wp_call (q := ([.ref o], [])) (zcode_of mc_180 (r := (.invokevirtual 325, 178, 0, 0)) rfl) rfl (zCa_V (Nat.le_of_ble_eq_true rfl) rfl hR.tg) ⟨Nat.le_of_ble_eq_true rfl, Nat.le_of_ble_eq_true rfl⟩
theorem b180_26 {σ : zSt} {o : Nat} {sc : Nat → Int32} {ar : Nat → Nat → Int32} {P : Option Value → zSt → Prop} (hR : RShape σ o) {s0 : Int32} :
    wp 180 26 [some (.ref o)] [.int s0] (rOv σ o sc ar) P ↔ P (some (.int 1)) (rOv σ o (upS (upS (upS (upS (upS sc 32 0) 37 0) 38 0) 39 0) 40 0) ar) := by
  refine (wp_s (n := 27) (zcode_of mc_180 (r := (.pop, 0, 0, 0)) rfl) rfl rfl).trans ?_
  refine (wp_s (n := 28) (zcode_of mc_180 (r := (.aload_n 0, 0, 0, 0)) rfl) rfl rfl).trans ?_
  refine (wp_ic (n' := 29) rfl (zcode_of mc_180 (r := (.iconst 0, 0, 0, 0)) rfl) ci_0).trans ?_
  refine (wr_put (n' := 32) rfl hR (zcode_of mc_180 (r := (.putfield 284, 12, 32, 0)) rfl) rfl).trans ?_
  refine (wp_s (n := 33) (zcode_of mc_180 (r := (.aload_n 0, 0, 0, 0)) rfl) rfl rfl).trans ?_
  refine (wp_ic (n' := 34) rfl (zcode_of mc_180 (r := (.iconst 0, 0, 0, 0)) rfl) ci_0).trans ?_
  refine (wr_put (n' := 37) rfl hR (zcode_of mc_180 (r := (.putfield 299, 12, 37, 0)) rfl) rfl).trans ?_
  refine (wp_s (n := 38) (zcode_of mc_180 (r := (.aload_n 0, 0, 0, 0)) rfl) rfl rfl).trans ?_
  refine (wp_ic (n' := 39) rfl (zcode_of mc_180 (r := (.iconst 0, 0, 0, 0)) rfl) ci_0).trans ?_
  refine (wr_put (n' := 42) rfl hR (zcode_of mc_180 (r := (.putfield 305, 12, 38, 0)) rfl) rfl).trans ?_
  refine (wp_s (n := 43) (zcode_of mc_180 (r := (.aload_n 0, 0, 0, 0)) rfl) rfl rfl).trans ?_
  refine (wp_ic (n' := 44) rfl (zcode_of mc_180 (r := (.iconst 0, 0, 0, 0)) rfl) ci_0).trans ?_
  refine (wr_put (n' := 47) rfl hR (zcode_of mc_180 (r := (.putfield 277, 12, 39, 0)) rfl) rfl).trans ?_
  refine (wp_s (n := 48) (zcode_of mc_180 (r := (.aload_n 0, 0, 0, 0)) rfl) rfl rfl).trans ?_
  refine (wp_ic (n' := 49) rfl (zcode_of mc_180 (r := (.iconst 0, 0, 0, 0)) rfl) ci_0).trans ?_
  refine (wr_put (n' := 52) rfl hR (zcode_of mc_180 (r := (.putfield 311, 12, 40, 0)) rfl) rfl).trans ?_
  refine (wp_ic (n' := 53) rfl (zcode_of mc_180 (r := (.iconst 1, 0, 0, 0)) rfl) ci_1).trans ?_
  exact wp_retI (zcode_of mc_180 (r := (.ireturn, 0, 0, 0)) rfl) rfl
