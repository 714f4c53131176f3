section PM
variable {σ : zSt} {P : Option Value → zSt → Prop} {q k : Nat} {fs : List Nat}
/-- a maker: none, or an action -/
def MkV (x : Int32) : Prop := x = -1 ∨ ∃ k, k < 40 ∧ x = nI k
theorem nI_m1 {k : Nat} (h : k < 2 ^ 31) : ¬ nI k = -1 := by
  intro q
  have := congrArg Int32.toInt q
  rw [nI_toInt h] at this
  have e : (-1 : Int32).toInt = -1 := rfl
  rw [e] at this; omega
theorem bitM_ok {x : Int32} (hx : MkV x) (hP : ∀ v : Int64, (∀ b, mb v b = true ↔ b < 40 ∧ x = nI b) → P (some (.long v)) σ) : wpM 108 [.int x] σ P := by
  rcases hx with rfl | ⟨k, hk, rfl⟩
  · refine bitN_ok (hP _ (fun b => ?_))
    rw [mb_0]
    constructor
    · intro h; cases h
    · rintro ⟨h1, h2⟩; exact absurd h2.symm (nI_m1 (by omega))
  · refine bit_ok hk (hP _ (fun b => ?_))
    rw [mb_bit hk, decide_eq_true_iff]
    constructor
    · rintro rfl; exact ⟨hk, rfl⟩
    · rintro ⟨h1, h2⟩; exact ((nI_eq (by omega) (by omega)).mp h2).symm
theorem makers_ok (hC : CShape σ) (hz : zIs σ q 8) (hv : LVal σ (q + 2) fs) (hf : ∀ f ∈ fs, zIs σ f 8 ∧ MkV (zfi σ 8 6 f)) (hq : MkV (zfi σ 8 6 q))
    (hP : ∀ v : Int64, (∀ b, mb v b = true ↔ b < 40 ∧ ∃ f ∈ q :: fs, zfi σ 8 6 f = nI b) → P (some (.long v)) σ) : wpM 63 [.ref q] σ P := by
  have hlen := LVal_len hv
  refine b63.mpr ⟨hz, bitM_ok hq (fun v0 h0 => b63_7.mpr ?_)⟩
  have key : ∀ j i v, i + j = fs.length → (∀ b, mb v b = true ↔ b < 40 ∧ ∃ f ∈ q :: fs.take i, zfi σ 8 6 f = nI b) → wp 63 10 [some (.ref q), some (.long v), none, some (.int (nI i))] [] σ P := by
    intro j
    induction j with
    | zero =>
      intro i v e h
      refine (b63_10 hC).mpr ⟨hz, size_ok hv (b63_18.mpr (ifp (nI_le (by omega) (by omega)) (b63_47.mpr (hP v ?_))))⟩
      rw [List.take_of_length_le (by omega)] at h; exact h
    | succ j ih =>
      intro i v e h
      have hi : i < fs.length := by omega
      refine (b63_10 hC).mpr ⟨hz, size_ok hv (b63_18.mpr (ifn (nI_ge (by omega) (by omega)) ?_))⟩
      refine (b63_21 hC).mpr ⟨hz, get_ok hv hi (b63_30.mpr ?_)⟩
      have hm := hf _ (List.getElem_mem hi)
      refine ⟨hm.1, bitM_ok hm.2 (fun w hw => b63_39.mpr ?_)⟩
      rw [nI_1]
      refine ih (i + 1) _ (by omega) (fun b => ?_)
      rw [mb_or, Bool.or_eq_true, h b, hw b, List.take_add_one, List.getElem?_eq_getElem hi]
      constructor
      · rintro (⟨h1, f, h2, h3⟩ | ⟨h1, h2⟩)
        · refine ⟨h1, f, ?_, h3⟩
          rcases List.mem_cons.mp h2 with h2 | h2
          · rw [h2]; exact List.mem_cons_self
          · exact List.mem_cons_of_mem _ (List.mem_append_left _ h2)
        · exact ⟨h1, fs[i], List.mem_cons_of_mem _ (List.mem_append_right _ (by simp)), h2⟩
      · rintro ⟨h1, f, h2, h3⟩
        rcases List.mem_cons.mp h2 with h2 | h2
        · left; exact ⟨h1, f, by rw [h2]; exact List.mem_cons_self, h3⟩
        · rcases List.mem_append.mp h2 with h2 | h2
          · left; exact ⟨h1, f, List.mem_cons_of_mem _ h2, h3⟩
          · right
            have : f = fs[i] := by simpa using h2
            rw [this] at h3; exact ⟨h1, h3⟩
  refine key _ 0 v0 (Nat.zero_add _) (fun b => ?_)
  rw [h0 b, List.take_zero]
  simp
/-- how many files of a directory are there -/
theorem listed_ok (hC : CShape σ) (hz : zIs σ q 8) (hv : LVal σ (q + 2) fs) {s : Nat} (hs : s < 2) {cv : Nat → Option (List Int32)} (hf : ∀ f ∈ fs, zIs σ f 8 ∧ Cnt σ (f + 3 + 2 * s) (cv f))
    (hP : P (some (.int (nI (fs.filter (fun f => (cv f).isSome)).length))) σ) : wpM 64 [.ref q, .int (nI s)] σ P := by
  have hlen := LVal_len hv
  refine b64.mpr ?_
  have key : ∀ j i, i + j = fs.length → wp 64 4 [some (.ref q), some (.int (nI s)), some (.int (nI ((fs.take i).filter (fun f => (cv f).isSome)).length)), some (.int (nI i))] [] σ P := by
    intro j
    induction j with
    | zero =>
      intro i e
      refine (b64_4 hC).mpr ⟨hz, size_ok hv (b64_12.mpr (ifp (nI_le (by omega) (by omega)) (b64_46.mpr ?_)))⟩
      rw [List.take_of_length_le (by omega)]; exact hP
    | succ j ih =>
      intro i e
      have hi : i < fs.length := by omega
      refine (b64_4 hC).mpr ⟨hz, size_ok hv (b64_12.mpr (ifn (nI_ge (by omega) (by omega)) ?_))⟩
      refine (b64_15 hC).mpr ⟨hz, get_ok hv hi ((b64_23 hC).mpr ?_)⟩
      obtain ⟨h8, hc⟩ := hf _ (List.getElem_mem hi)
      refine ⟨h8, nI_in hs (by omega), ?_⟩
      rw [nI_clamp (by omega), show fs[i] + 1 + 2 + 2 * s = fs[i] + 3 + 2 * s by omega]
      refine isAbsent_ok hc ?_
      have tk : fs.take (i + 1) = fs.take i ++ [fs[i]] := by rw [List.take_add_one, List.getElem?_eq_getElem hi]; rfl
      by_cases g : cv fs[i] = none
      · rw [if_pos g]
        refine b64_34.mpr (ifp (by decide) (b64_40.mpr ?_))
        rw [nI_1]
        have := ih (i + 1) (by omega)
        rw [tk, List.filter_append] at this
        simpa [g] using this
      · rw [if_neg g]
        refine b64_34.mpr (ifn (fun q => q rfl) (b64_37.mpr (b64_40.mpr ?_)))
        rw [nI_1, nI_1]
        have := ih (i + 1) (by omega)
        rw [tk, List.filter_append] at this
        have g' : (cv fs[i]).isSome = true := by
          cases h : cv fs[i] with
          | none => exact absurd h g
          | some _ => rfl
        simpa [g'] using this
  exact key _ 0 (Nat.zero_add _)
end PM
