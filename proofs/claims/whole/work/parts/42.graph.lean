section AM
variable {σ : zSt} {P : Option Value → zSt → Prop} {a g k : Nat} {x v w : Int32} {ins as_ : List Nat}
theorem hasInput_ok (hC : CShape σ) (hz : zIs σ a 0) (hv : LVal σ (a + 1) ins) (hq : ∀ q ∈ ins, zIs σ q 8)
    (hP : ∀ r : Int32, (r = 1 ∧ (∃ q ∈ ins, zfi σ 8 0 q = x)) ∨ (r = 0 ∧ ∀ q ∈ ins, zfi σ 8 0 q ≠ x) → P (some (.int r)) σ) : wpM 1 [.ref a, .int x] σ P := by
  have hlen := LVal_len hv
  refine b1.mpr ?_
  have key : ∀ j i, i + j = ins.length → (∀ q ∈ ins.take i, zfi σ 8 0 q ≠ x) → wp 1 2 [some (.ref a), some (.int x), some (.int (nI i))] [] σ P := by
    intro j
    induction j with
    | zero =>
      intro i e h
      refine (b1_2 hC).mpr ⟨hz, size_ok hv (b1_10.mpr (ifp (nI_le (by omega) (by omega)) (b1_39.mpr ⟨Or.inl rfl, hP 0 (Or.inr ⟨rfl, ?_⟩)⟩)))⟩
      rw [List.take_of_length_le (by omega)] at h; exact h
    | succ j ih =>
      intro i e h
      have hi : i < ins.length := by omega
      refine (b1_2 hC).mpr ⟨hz, size_ok hv (b1_10.mpr (ifn (nI_ge (by omega) (by omega)) ?_))⟩
      refine (b1_13 hC).mpr ⟨hz, get_ok hv hi (b1_21.mpr ⟨hq _ (List.getElem_mem hi), ?_⟩)⟩
      by_cases w : zfi σ 8 0 ins[i] = x
      · exact ifn (fun q => q w) (b1_31.mpr ⟨Or.inr rfl, hP 1 (Or.inl ⟨rfl, _, List.getElem_mem hi, w⟩)⟩)
      · refine ifp w (b1_33.mpr ?_)
        rw [nI_1]
        refine ih (i + 1) (by omega) (fun q hm => ?_)
        rw [List.take_add_one, List.getElem?_eq_getElem hi] at hm
        rcases List.mem_append.mp hm with hm | hm
        · exact h q hm
        · have : q = ins[i] := by simpa using hm
          rw [this]; exact w
  exact key _ 0 (Nat.zero_add _) (by simp)
/-- the graph: its actions in a list -/
theorem gsize_ok (hC : CShape σ) (hz : zIs σ g 4) (hv : LVal σ (g + 1) as_) (hP : P (some (.int (nI as_.length))) σ) : wpM 31 [.ref g] σ P :=
  (b31 hC).mpr ⟨hz, size_ok hv (b31_7.mpr hP)⟩
theorem ghas_ok (hC : CShape σ) (hz : zIs σ g 4) (hv : LVal σ (g + 1) as_) (h1 : ∀ i, i < as_.length → x = nI i → P (some (.int 1)) σ) (h0 : (∀ i, i < as_.length → x ≠ nI i) → P (some (.int 0)) σ) : wpM 32 [.ref g, .int x] σ P := by
  have hlen := LVal_len hv
  rcases pk_ix x (n := as_.length) (by omega) with h | h | ⟨i, hi, rfl⟩
  · refine b32.mpr (ifp h (b32_19.mpr (b32_20.mpr ⟨Or.inl rfl, h0 (fun i hi q => ?_)⟩)))
    rw [q] at h; exact nI_pos (by omega) h
  · by_cases hn : x < 0
    · refine b32.mpr (ifp hn (b32_19.mpr (b32_20.mpr ⟨Or.inl rfl, h0 (fun i hi q => ?_)⟩)))
      rw [q] at hn; exact nI_pos (by omega) hn
    · refine b32.mpr (ifn hn ((b32_4 hC).mpr ⟨hz, size_ok hv (b32_12.mpr (ifp h (b32_19.mpr (b32_20.mpr ⟨Or.inl rfl, h0 (fun i hi q => ?_)⟩))))⟩))
      rw [q] at h; exact nI_ge hi (by omega) h
  · exact b32.mpr (ifn (nI_pos (by omega)) ((b32_4 hC).mpr ⟨hz, size_ok hv (b32_12.mpr (ifn (nI_ge hi (by omega)) (b32_15.mpr (b32_20.mpr ⟨Or.inr rfl, h1 i hi rfl⟩))))⟩))
theorem gat_ok (hC : CShape σ) (hz : zIs σ g 4) (hv : LVal σ (g + 1) as_) (ha : ∀ a ∈ as_, zIs σ a 0) {i : Nat} (hi : i < as_.length) (hP : P (some (.ref as_[i])) σ) : wpM 33 [.ref g, .int (nI i)] σ P :=
  (b33 hC).mpr ⟨hz, get_ok hv hi (b33_8.mpr ⟨ha _ (List.getElem_mem hi), hP⟩)⟩
/-- all actions as a mask -/
theorem all_tab : ∀ n, n < 41 → ∀ b, b < 64 → mb ((1 <<< ((nI n).toInt64 &&& 63)) - 1) b = decide (b < n) := by decide +kernel
theorem gall_ok (hC : CShape σ) (hz : zIs σ g 4) (hv : LVal σ (g + 1) as_) (h40 : as_.length ≤ 40) (hP : ∀ v : Int64, (∀ b, mb v b = true ↔ b < as_.length) → P (some (.long v)) σ) : wpM 35 [.ref g] σ P := by
  refine (b35 hC).mpr ⟨hz, size_ok hv (b35_8.mpr (hP _ (fun b => ?_)))⟩
  by_cases hb : b < 64
  · rw [all_tab _ (by omega) b hb, decide_eq_true_iff]
  · constructor
    · intro h
      unfold mb at h
      rw [BitVec.getLsbD_of_ge _ _ (by omega)] at h; cases h
    · intro h; omega
theorem leastReady_ok (hC : CShape σ) (hz : zIs σ g 4) (hv : LVal σ (g + 1) as_) (h40 : as_.length ≤ 40) (ha : ∀ a ∈ as_, zIs σ a 0) {m : Int64}
    (h1 : ∀ i (hi : i < as_.length), mb m i = true → (∀ b, mb (zfl σ 0 6 as_[i]) b = true → mb m b = false) → (∀ j (hj : j < i), mb m j = true → ∃ b, mb (zfl σ 0 6 as_[j]) b = true ∧ mb m b = true) → P (some (.int (nI i))) σ)
    (h0 : (∀ j (hj : j < as_.length), mb m j = true → ∃ b, mb (zfl σ 0 6 as_[j]) b = true ∧ mb m b = true) → P (some (.int (-1))) σ) : wpM 40 [.ref g, .long m] σ P := by
  have hlen := LVal_len hv
  refine b40.mpr ?_
  have key : ∀ r i, i + r = as_.length → (∀ j (hj : j < i) (hj' : j < as_.length), mb m j = true → ∃ b, mb (zfl σ 0 6 as_[j]) b = true ∧ mb m b = true) → wp 40 2 [some (.ref g), some (.long m), none, some (.int (nI i))] [] σ P := by
    intro r
    induction r with
    | zero =>
      intro i e h
      exact (b40_2 hC).mpr ⟨hz, size_ok hv (b40_10.mpr (ifp (nI_le (by omega) (by omega)) (b40_53.mpr (h0 (fun j hj => h j (by omega) hj)))))⟩
    | succ r ih =>
      intro i e h
      have hi : i < as_.length := by omega
      refine (b40_2 hC).mpr ⟨hz, size_ok hv (b40_10.mpr (ifn (nI_ge (by omega) (by omega)) (b40_13.mpr (bit_ok (by omega) (b40_18.mpr ?_)))))⟩
      have nxt : (mb m i = true → ∃ b, mb (zfl σ 0 6 as_[i]) b = true ∧ mb m b = true) → wp 40 47 [some (.ref g), some (.long m), none, some (.int (nI i))] [] σ P := by
        intro hh
        refine b40_47.mpr ?_
        rw [nI_1]
        refine ih (i + 1) (by omega) (fun j hj hj' hm => ?_)
        by_cases w : j = i
        · subst w; exact hh hm
        · exact h j (by omega) hj' hm
      by_cases hm : mb m i = true
      · refine ifn (fun q => ?_) ((b40_24 hC).mpr ⟨hz, get_ok hv hi (b40_32.mpr ⟨ha _ (List.getElem_mem hi), ?_⟩)⟩)
        · rw [lcmp0, and_bit (by omega)] at q
          rw [q] at hm; cases hm
        by_cases hu : zfl σ 0 6 as_[i] &&& m = 0
        · refine ifn (fun q => q (lcmp0.mpr hu)) (b40_45.mpr (h1 i hi hm (fun b hb => ?_) (fun j hj hmj => h j hj (by omega) hmj)))
          have : mb (zfl σ 0 6 as_[i] &&& m) b = false := by rw [hu]; exact mb_0
          rw [mb_and, hb] at this
          simpa using this
        · refine ifp (fun q => hu (lcmp0.mp q)) (nxt (fun _ => ?_))
          refine Classical.byContradiction fun hn => hu (mb_ext (fun b _ => ?_))
          rw [mb_0, mb_and]
          cases h3 : mb (zfl σ 0 6 as_[i]) b with
          | false => rfl
          | true =>
            cases h4 : mb m b with
            | false => rfl
            | true => exact absurd ⟨b, h3, h4⟩ hn
      · refine ifp ?_ (nxt (fun q => absurd q hm))
        rw [lcmp0, and_bit (by omega)]
        simpa using hm
  exact key _ 0 (Nat.zero_add _) (fun j hj => absurd hj (Nat.not_lt_zero j))
end AM
