/-! MASKS -/
def mb (x : Int64) (b : Nat) : Bool := x.toBitVec.getLsbD b
theorem mb_or {x y : Int64} {b : Nat} : mb (x ||| y) b = (mb x b || mb y b) := by
  unfold mb; rw [Int64.toBitVec_or, BitVec.getLsbD_or]
theorem mb_and {x y : Int64} {b : Nat} : mb (x &&& y) b = (mb x b && mb y b) := by
  unfold mb; rw [Int64.toBitVec_and, BitVec.getLsbD_and]
theorem mb_0 {b : Nat} : mb 0 b = false := by
  unfold mb; exact BitVec.getLsbD_zero
theorem mb_ext {x y : Int64} (h : ∀ b, b < 64 → mb x b = mb y b) : x = y := by
  apply Int64.toBitVec_inj.mp
  apply BitVec.eq_of_getLsbD_eq
  intro i hi; exact h i hi
theorem lcmp0 {x y : Int64} : lg_cmp x y = 0 ↔ x = y := by
  unfold lg_cmp
  by_cases h : x = y
  · subst h; simp
  · by_cases h1 : y < x
    · simp [h1, h]
    · simp [h1, h]
def bitK (k : Nat) : Int64 := 1 <<< ((nI k).toInt64 &&& 63)
theorem bit_tab : ∀ k, k < 40 → ∀ b, b < 64 → mb (1 <<< ((nI k).toInt64 &&& 63)) b = decide (b = k) := by decide +kernel
theorem mb_bit {k b : Nat} (hk : k < 40) : mb (bitK k) b = decide (b = k) := by
  by_cases hb : b < 64
  · exact bit_tab k hk b hb
  · unfold mb
    rw [BitVec.getLsbD_of_ge _ _ (by omega)]
    rw [decide_eq_false (by omega)]
theorem and_bit {x : Int64} {k : Nat} (hk : k < 40) : x &&& bitK k = 0 ↔ mb x k = false := by
  constructor
  · intro h
    have : mb (x &&& bitK k) k = false := by rw [h]; exact mb_0
    rw [mb_and, mb_bit hk] at this
    simpa using this
  · intro h
    apply mb_ext
    intro b hb
    rw [mb_and, mb_bit hk, mb_0]
    by_cases q : b = k
    · rw [q, h]; rfl
    · rw [decide_eq_false q, Bool.and_false]
section MB
variable {σ : zSt} {P : Option Value → zSt → Prop} {k : Nat}
theorem bit_ok (hk : k < 40) (hP : P (some (.long (bitK k))) σ) : wpM 108 [.int (nI k)] σ P :=
  b108.mpr (ifn (nI_pos (by omega)) (b108_4.mpr (ifp (nI_lt (b := 40) hk (by omega)) (b108_14.mpr (b108_17.mpr hP)))))
theorem bitN_ok (hP : P (some (.long 0)) σ) : wpM 108 [.int (-1)] σ P :=
  b108.mpr (ifp (by decide) (b108_10.mpr (b108_17.mpr hP)))
theorem isSpace_ok {x : Int32} (hP : P (some (.int (if 0 ≤ x ∧ x < 2 then 1 else 0))) σ) : wpM 107 [.int x] σ P := by
  by_cases h : x < 0
  · rw [if_neg (by grind)] at hP
    exact b107.mpr (ifp h (b107_13.mpr (b107_14.mpr ⟨Or.inl rfl, hP⟩)))
  · by_cases h2 : 2 ≤ x
    · rw [if_neg (by grind)] at hP
      exact b107.mpr (ifn h (b107_4.mpr (ifp h2 (b107_13.mpr (b107_14.mpr ⟨Or.inl rfl, hP⟩)))))
    · rw [if_pos (by grind)] at hP
      exact b107.mpr (ifn h (b107_4.mpr (ifn h2 (b107_9.mpr (b107_14.mpr ⟨Or.inr rfl, hP⟩)))))
end MB
