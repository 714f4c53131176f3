/-! WHAT IS TOLD ABOUT AN ACTION -/
section AB
variable {σ : zSt} {P : Option Value → zSt → Prop} {X N M : Nat} {pa aa ea sa : List Nat} {z : Nat → Con} {w : WT} {x y : Int32}
def shU (x : Int64) (k : Int32) : Int64 := (x.toUInt64 >>> ((Int32.toInt64 k).toUInt64 &&& Int64.toUInt64 63)).toInt64
def nU (x : Int64) : Nat := x.toBitVec.toNat
theorem nU_lt (x : Int64) : nU x < 2 ^ 64 := x.toBitVec.isLt
theorem nU_sh (x : Int64) (k : Int32) {m : Nat} (hm : ((Int32.toInt64 k).toUInt64 &&& Int64.toUInt64 63).toNat % 64 = m) : nU (shU x k) = nU x / 2 ^ m := by
  have : (x.toUInt64 >>> ((Int32.toInt64 k).toUInt64 &&& Int64.toUInt64 63)).toNat = x.toUInt64.toNat / 2 ^ (((Int32.toInt64 k).toUInt64 &&& Int64.toUInt64 63).toNat % 64) := by
    rw [UInt64.toNat_shiftRight, Nat.shiftRight_eq_div_pow]
  rw [hm] at this
  exact this
theorem nU_and (x y : Int64) : nU (x &&& y) = nU x &&& nU y := by
  unfold nU
  rw [Int64.toBitVec_and, BitVec.toNat_and]
theorem nU_add {x y : Int64} (h : nU x + nU y < 2 ^ 64) : nU (x + y) = nU x + nU y := by
  unfold nU at *
  rw [Int64.toBitVec_add, BitVec.toNat_add, Nat.mod_eq_of_lt h]
theorem nU_sub {x y : Int64} (h : nU y ≤ nU x) : nU (x - y) = nU x - nU y := by
  unfold nU at *
  rw [Int64.toBitVec_sub, BitVec.toNat_sub_of_le h]
theorem nU_m5 : nU 6148914691236517205 = rpt 85 8 := by decide +kernel
theorem nU_m3 : nU 3689348814741910323 = rpt 51 8 := by decide +kernel
theorem nU_mF : nU 1085102592571150095 = rpt 15 8 := by decide +kernel
theorem rp51 : rpt 51 8 = 3689348814741910323 := by decide +kernel
def p1 (x : Int64) : Int64 := x - (shU x 1 &&& 6148914691236517205)
def p2 (x : Int64) : Int64 := (x &&& 3689348814741910323) + (shU x 2 &&& 3689348814741910323)
def p3 (x : Int64) : Int64 := (x + shU x 4) &&& 1085102592571150095
def p4 (x : Int64) (k : Int32) : Int64 := x + shU x k
theorem p1_n (x : Int64) : nU (p1 x) = f1 8 (nU x) := by
  have e : nU (shU x 1 &&& 6148914691236517205) = nU x / 2 &&& rpt 85 8 := by
    rw [nU_and, nU_m5, nU_sh x 1 (m := 1) (by decide)]
  unfold p1 f1
  have l : nU x / 2 &&& rpt 85 8 ≤ nU x / 2 := Nat.and_le_left
  rw [nU_sub (by rw [e]; omega), e]
theorem p2_n (x : Int64) : nU (p2 x) = f2 8 (nU x) ∧ nU (p2 x) ≤ 7378697629483820646 := by
  have e : nU (shU x 2 &&& 3689348814741910323) = nU x / 4 &&& rpt 51 8 := by
    rw [nU_and, nU_m3, nU_sh x 2 (m := 2) (by decide)]
  have e' : nU (x &&& 3689348814741910323) = nU x &&& rpt 51 8 := by rw [nU_and, nU_m3]
  have l1 : nU x / 4 &&& rpt 51 8 ≤ rpt 51 8 := Nat.and_le_right
  have l2 : nU x &&& rpt 51 8 ≤ rpt 51 8 := Nat.and_le_right
  have e2 : nU (p2 x) = (nU x &&& rpt 51 8) + (nU x / 4 &&& rpt 51 8) := by
    unfold p2
    rw [nU_add (by rw [e, e']; rw [rp51] at *; omega), e, e']
  refine ⟨e2, ?_⟩
  rw [e2]; rw [rp51] at *; omega
theorem p3_n {x : Int64} (h : nU x ≤ 7378697629483820646) : nU (p3 x) = f3 8 (nU x) := by
  have e : nU (shU x 4) = nU x / 16 := nU_sh x 4 (m := 4) (by decide)
  unfold p3 f3
  rw [nU_and, nU_mF, nU_add (by rw [e]; omega), e]
theorem p4_n {x : Int64} {k : Int32} {m d : Nat} (hm : ((Int32.toInt64 k).toUInt64 &&& Int64.toUInt64 63).toNat % 64 = m) (hd : 2 ^ m = d) (h : nU x + nU x / d < 2 ^ 64) : nU (p4 x k) = nU x + nU x / d := by
  have e := nU_sh x k hm
  rw [hd] at e
  unfold p4
  rw [nU_add (by rw [e]; exact h), e]
theorem pop_ok (x : Int64) : Int64.toInt32 (p4 (p4 (p4 (p3 (p2 (p1 x))) 8) 16) 32) &&& 127 = nI (pcN 64 (nU x)) := by
  have hp := pop_nat (nU_lt x)
  have e3 : nU (p3 (p2 (p1 x))) = gN 8 (nU x) := by
    rw [p3_n (p2_n _).2, (p2_n _).1, p1_n]; rfl
  have hu := hp.2
  generalize gN 8 (nU x) = u at *
  have e4 : nU (p4 (p3 (p2 (p1 x))) 8) = u + u / 256 := by
    rw [p4_n (m := 8) (d := 256) (by decide) rfl (by rw [e3]; omega), e3]
  have e5 : nU (p4 (p4 (p3 (p2 (p1 x))) 8) 16) = (u + u / 256) + (u + u / 256) / 65536 := by
    rw [p4_n (m := 16) (d := 65536) (by decide) rfl (by rw [e4]; omega), e4]
  have e6 : nU (p4 (p4 (p4 (p3 (p2 (p1 x))) 8) 16) 32) = f456 u := by
    rw [p4_n (m := 32) (d := 4294967296) (by decide) rfl (by rw [e5]; omega), e5]; rfl
  generalize p4 (p4 (p4 (p3 (p2 (p1 x))) 8) 16) 32 = r at *
  rw [pk_and _ 7 (by decide), ← hp.1, ← e6]
  congr 1
  have e : (Int64.toInt32 r).toBitVec = r.toBitVec.signExtend 32 := rfl
  rw [e, BitVec.signExtend_eq_setWidth_of_le _ (by omega), BitVec.toNat_setWidth]
  show nU r % 2 ^ 32 % 2 ^ 7 = nU r % 128
  omega
theorem bc_ok {x : Int64} (hP : P (some (.int (nI (cnt (mb x) 64)))) σ) : wpM 181 [.long x] σ P := by
  refine b181.mpr ?_
  have e : cnt (mb x) 64 = pcN 64 (nU x) := by
    rw [← cnt_pc 64 (nU x)]; rfl
  rw [e, ← pop_ok x] at hP
  exact hP
theorem cnt_cut {f : Nat → Bool} {n : Nat} : ∀ m, n ≤ m → (∀ i, n ≤ i → f i = false) → cnt f m = cnt f n
  | 0, h, _ => by rw [show n = 0 by omega]
  | m + 1, h, hf => by
    by_cases e : n = m + 1
    · rw [e]
    · rw [cnt_succ, cnt_cut m (by omega) hf, if_neg (by rw [hf m (by omega)]; simp)]; rfl
theorem about_ok (hG : ClsG σ X pa aa ea sa z w) (hI : WInv w) (hP : P (some (.int (sAbout w x y))) σ) : wpM 95 [.ref X, .int x, .int y] σ P := by
  have hC := hG.C
  obtain ⟨hH, hX, hT, hCC, hTp, hA, hW, hK, hLg⟩ := hG
  have h31 := hI.2.1.n31
  have h40 := hI.2.1.1
  unfold sAbout at hP
  refine (b95 hC).mpr ⟨hX.1, ?_⟩
  rcases ixN_cases x h31 with ⟨e, hx⟩ | ⟨i, hi, rfl, e⟩
  · rw [e] at hP
    exact ahas_no hC hX.1 hA h31 hx (b95_8.mpr (ifn (fun q => q rfl) (b95_11.mpr hP)))
  · rw [e] at hP
    dsimp only at hP
    refine ahas_yes hC hX.1 hA hi (b95_8.mpr (ifp (by decide) ((b95_14 hC).mpr ⟨hX.1, aat_ok hC hX.1 hA hi (b95_22.mpr ?_)⟩)))
    obtain ⟨k0, k1, k2, k3, k4, k5⟩ := hA.2.2.2 i hi
    by_cases y0 : y = 0
    · rw [if_pos y0] at hP
      refine ifp y0 ((b95_56 hC).mpr ⟨k0, ?_⟩)
      refine size_ok k1 (b95_63.mpr ?_)
      rw [List.length_map]; exact hP
    rw [if_neg y0] at hP
    refine ifn y0 ?_
    by_cases y1 : y = 1
    · rw [if_pos y1] at hP
      refine ifp y1 ((b95_64 hC).mpr ⟨k0, ?_⟩)
      refine size_ok k2 (b95_71.mpr ?_)
      rw [List.length_map]; exact hP
    rw [if_neg y1] at hP
    refine ifn y1 ?_
    by_cases y2 : y = 2
    · rw [if_pos y2] at hP
      refine ifp y2 (b95_72.mpr ⟨k0, ?_⟩)
      rw [k3]; exact hP
    rw [if_neg y2] at hP
    refine ifn y2 ?_
    by_cases y3 : y = 3
    · rw [if_pos y3] at hP
      refine ifp y3 (b95_77.mpr ⟨k0, bc_ok (b95_84.mpr ?_)⟩)
      have hb := fun b => usesT_bit (hA.2.2.2 i hi) (b := b)
      have e1 : cnt (mb (zfl σ 0 6 (pA aa i))) 64 = usedN w i := by
        rw [cnt_cut (n := aN (wA w)) 64 (by omega) (fun b hb' => by
          cases h : mb (zfl σ 0 6 (pA aa i)) b with
          | false => rfl
          | true => exact absurd ((hb b).mp h).1 (by omega))]
        unfold usedN cnt
        congr 1
        refine List.filter_congr (fun b hb' => ?_)
        have hb'' := List.mem_range.mp hb'
        cases h : usesT (wT w) (wA w) i b with
        | true => exact (hb b).mpr ⟨hb'', h⟩
        | false =>
          cases g : mb (zfl σ 0 6 (pA aa i)) b with
          | false => rfl
          | true => rw [((hb b).mp g).2] at h; cases h
      rw [e1]; exact hP
    · rw [if_neg y3] at hP
      exact ifn y3 (b95_85.mpr hP)
end AB
