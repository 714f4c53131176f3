/-! THE CLASS: a path more -/
section PT
variable {σ τ υ : zSt} {P : Option Value → zSt → Prop} {X N M i s k n p q m : Nat} {pa aa ea sa : List Nat} {z cv : Nat → Con} {w : WT} {t : TreT} {a : ActT} {x y v : Int32} {d : Bool}
/-- the tree with a path more -/
def tAdd (t : TreT) (q m : Nat) (d : Bool) : TreT := (tN t + 1, fup (tPar t) (tN t) (some q), fup (tNam t) (tN t) m, fup (tDir t) (tN t) d, fup (tMk t) (tN t) none)
def fAt (t : TreT) (p n : Nat) : List Nat := (List.range (tN t)).filter fun k => decide (tPar t k = some p) && (decide (tNam t k = n) && !tDir t k)
theorem filesT_eq (p : Nat) : filesT t p = (List.range 27).flatMap (fAt t p) := rfl
theorem fAt_add (p n : Nat) : fAt (tAdd t q m d) p n = fAt t p n ++ (if p = q ∧ n = m ∧ d = false then [tN t] else []) := by
  unfold fAt
  show (List.range (tN t + 1)).filter _ = _
  rw [List.range_succ, List.filter_append]
  congr 1
  · apply List.filter_congr
    intro k hk
    rw [List.mem_range] at hk
    show (decide (fup (tPar t) (tN t) (some q) k = some p) && (decide (fup (tNam t) (tN t) m k = n) && !fup (tDir t) (tN t) d k)) = _
    rw [fup_ne (by omega), fup_ne (by omega), fup_ne (by omega)]
  · have e : (decide (tPar (tAdd t q m d) (tN t) = some p) && (decide (tNam (tAdd t q m d) (tN t) = n) && !tDir (tAdd t q m d) (tN t))) = decide (p = q ∧ n = m ∧ d = false) := by
      show (decide (fup (tPar t) (tN t) (some q) (tN t) = some p) && (decide (fup (tNam t) (tN t) m (tN t) = n) && !fup (tDir t) (tN t) d (tN t))) = _
      rw [fup_same, fup_same, fup_same]
      by_cases h1 : p = q
      · subst h1
        by_cases h2 : n = m
        · subst h2; cases d <;> simp
        · simp [h2, Ne.symm h2]
      · simp [h1, Ne.symm h1]
    rw [List.filter_cons, e]
    by_cases h : p = q ∧ n = m ∧ d = false
    · rw [if_pos h, decide_eq_true h]; rfl
    · rw [if_neg h, decide_eq_false h]; rfl
theorem files_same (h : p ≠ q ∨ d = true) : filesT (tAdd t q m d) p = filesT t p := by
  rw [filesT_eq, filesT_eq]
  congr 1
  funext n
  rw [fAt_add, if_neg, List.append_nil]
  rintro ⟨h1, _, h2⟩
  rcases h with h | h
  · exact h h1
  · rw [h] at h2; cases h2
/-- the files ahead of a name, and those behind it -/
def fLo (t : TreT) (q m : Nat) : List Nat := (List.range m).flatMap (fAt t q)
def fHi (t : TreT) (q m : Nat) : List Nat := (List.range' (m + 1) (26 - m)).flatMap (fAt t q)
theorem range_split (hm : m ≤ 26) : List.range 27 = List.range m ++ m :: List.range' (m + 1) (26 - m) := by
  rw [List.range_eq_range', List.range_eq_range', ← List.range'_succ]
  have := List.range'_append (s := 0) (m := m) (n := 26 - m + 1) (step := 1)
  rw [Nat.one_mul, Nat.zero_add, show m + (26 - m + 1) = 27 by omega] at this
  exact this.symm
theorem files_split (hm : m ≤ 26) (h0 : fAt t q m = []) : filesT t q = fLo t q m ++ fHi t q m := by
  rw [filesT_eq, range_split hm, List.flatMap_append, List.flatMap_cons, h0]; rfl
theorem files_new (hm : m ≤ 26) (h0 : fAt t q m = []) : filesT (tAdd t q m false) q = fLo t q m ++ tN t :: fHi t q m := by
  rw [filesT_eq, range_split hm, List.flatMap_append, List.flatMap_cons]
  have e : ∀ l : List Nat, m ∉ l → l.flatMap (fAt (tAdd t q m false) q) = l.flatMap (fAt t q) := by
    intro l hl
    induction l with
    | nil => rfl
    | cons x l ih =>
      rw [List.flatMap_cons, List.flatMap_cons, ih (fun r => hl (List.mem_cons_of_mem _ r)), fAt_add, if_neg (fun r => hl (by rw [← r.2.1]; exact List.mem_cons_self)), List.append_nil]
  rw [e _ (by rw [List.mem_range]; omega), e _ (by rw [List.mem_range']; rintro ⟨i, h1, h2⟩; omega), fAt_add, if_pos ⟨rfl, rfl, rfl⟩, h0]
  rfl
theorem fLo_name : ∀ k ∈ fLo t q m, tNam t k < m ∧ k < tN t := by
  intro k hk
  unfold fLo at hk
  obtain ⟨n, hn, hk⟩ := List.mem_flatMap.mp hk
  unfold fAt at hk
  obtain ⟨h1, h2⟩ := List.mem_filter.mp hk
  rw [List.mem_range] at hn h1
  simp only [Bool.and_eq_true, decide_eq_true_eq] at h2
  exact ⟨by rw [h2.2.1]; exact hn, h1⟩
theorem fHi_name : ∀ k ∈ fHi t q m, m < tNam t k ∧ k < tN t := by
  intro k hk
  unfold fHi at hk
  obtain ⟨n, hn, hk⟩ := List.mem_flatMap.mp hk
  unfold fAt at hk
  obtain ⟨h1, h2⟩ := List.mem_filter.mp hk
  rw [List.mem_range'] at hn
  rw [List.mem_range] at h1
  simp only [Bool.and_eq_true, decide_eq_true_eq] at h2
  obtain ⟨i, hi1, hi2⟩ := hn
  exact ⟨by rw [h2.2.1]; omega, h1⟩
theorem insert_mid : ∀ (A B : List Nat) (x : Nat), (A ++ B).insertIdx A.length x = A ++ x :: B
  | [], B, x => by simp
  | y :: A, B, x => by
    have := insert_mid A B x
    show (y :: (A ++ B)).insertIdx (A.length + 1) x = y :: (A ++ x :: B)
    rw [List.insertIdx_succ_cons, this]
theorem taken_iff (hT : TInv t) {q m : Nat} : ((List.range (tN t)).any fun k => decide (tPar t k = some q) && decide (tNam t k = m)) = true ↔ ∃ k, 1 ≤ k ∧ k < tN t ∧ tPar t k = some q ∧ tNam t k = m := by
  rw [List.any_eq_true]
  constructor
  · rintro ⟨k, h1, h2⟩
    rw [List.mem_range] at h1
    rw [Bool.and_eq_true, decide_eq_true_iff, decide_eq_true_iff] at h2
    refine ⟨k, ?_, h1, h2⟩
    cases k with
    | zero => rw [hT.2.2.1.1] at h2; cases h2.1
    | succ k => omega
  · rintro ⟨k, _, h1, h2⟩
    exact ⟨k, List.mem_range.mpr h1, by rw [Bool.and_eq_true, decide_eq_true_iff, decide_eq_true_iff]; exact h2⟩
theorem n79_3 {a0 s0 : Nat} {x1 x2 x3 : Int32} {u4 : Option Value} (h1 : zIs σ a0 10) (hr : zfr σ 10 0 a0 = some (a0 + 1)) (hl : zIs σ (a0 + 1) 13) :
    wp 79 3 [some (.ref a0), some (.int x1), some (.int x2), some (.int x3), u4] [.ref s0] σ P ↔ wpM 187 [.ref (a0 + 1)] σ (fun r τ => wp 79 11 [some (.ref a0), some (.int x1), some (.int x2), some (.int x3), u4] (r.toList ++ [.ref s0, .ref s0]) τ P) := by
  refine (wp_s (n := 4) (zcode_of mc_79 (r := (.dup, 0, 0, 0)) rfl) rfl rfl).trans ?_
  refine (wp_s (n := 5) (zcode_of mc_79 (r := (.aload_n 0, 0, 0, 0)) rfl) rfl rfl).trans ?_
  refine (wc_get (n' := 8) (v := .ref (a0 + 1)) rfl (zcode_of mc_79 (r := (.getfield 12, 10, 0, 0)) rfl) h1 (by unfold zgv; rw [if_neg (by decide), if_pos (by decide), hr])).trans ?_
  exact wp_call (q := ([.ref (a0 + 1)], [.ref s0, .ref s0])) (zcode_of mc_79 (r := (.invokevirtual 33, 187, 0, 0)) rfl) rfl (zCa_V (Nat.le_of_ble_eq_true rfl) rfl hl) ⟨Nat.le_of_ble_eq_true rfl, Nat.le_of_ble_eq_true rfl⟩
/-- a file is laid among a directory's files by its name -/
theorem addFile_ok (hH : HI σ) {fs : List Nat} {f A : Nat} {B : List Nat} (hz : zIs σ q 8) (hv : LVal σ (q + 2) fs) (hf : zIs σ f 8) (hfs : ∀ g ∈ fs, zIs σ g 8) (hle : fs.length ≤ 100) (hA : A ≤ fs.length) (h1 : ∀ i (h : i < fs.length), i < A → zfi σ 8 2 fs[i] < zfi σ 8 2 f) (h2 : ∀ (h : A < fs.length), ¬ zfi σ 8 2 fs[A] < zfi σ 8 2 f) (hP : ∀ τ, LPost σ τ (q + 2) (fs.insertIdx A f) → P none τ) : wpM 61 [.ref q, .ref f] σ P := by
  have hC := hH.1
  refine b61.mpr ?_
  have fin : wp 61 40 [some (.ref q), some (.ref f), some (.int (nI A))] [] σ P := (b61_40 hC).mpr ⟨hz, addAt_ok hH hv (by omega) hA (by unfold zAsg; rw [hf.1, hf.2]; rfl) (fun τ h => b61_49.mpr (hP τ h))⟩
  have key : ∀ e j, j + e = A → wp 61 2 [some (.ref q), some (.ref f), some (.int (nI j))] [] σ P := by
    intro e
    induction e with
    | zero =>
      intro j ej
      have ej : j = A := by omega
      subst ej
      refine (b61_2 hC).mpr ⟨hz, size_ok hv (b61_10.mpr ?_)⟩
      by_cases c : j < fs.length
      · refine ifn (nI_ge c (by omega)) ((b61_13 hC).mpr ⟨hz, get_ok hv c (b61_21.mpr ⟨hfs _ (List.getElem_mem c), hf, ifp ?_ fin⟩)⟩)
        exact Int32.not_lt.mp (h2 c)
      · exact ifp (nI_le (by omega) (by omega)) fin
    | succ e ih =>
      intro j ej
      have hj : j < fs.length := by omega
      refine (b61_2 hC).mpr ⟨hz, size_ok hv (b61_10.mpr (ifn (nI_ge hj (by omega)) ((b61_13 hC).mpr ⟨hz, get_ok hv hj (b61_21.mpr ⟨hfs _ (List.getElem_mem hj), hf, ifn ?_ (b61_34.mpr ?_)⟩)⟩)))⟩
      · exact Int32.not_le.mpr (h1 j hj (by omega))
      · rw [nI_1]; exact ih (j + 1) (by omega)
  exact key A 0 (Nat.zero_add _)
/-- whether a name is taken -/
theorem taken_ok (hC : CShape σ) (hX : zIs σ X 11) (hT : CTree σ X pa t) (hI : TInv t) (hq : q < tN t) (hm : m ≤ 26) (hP : P (some (.int (b2I ((List.range (tN t)).any fun k => decide (tPar t k = some q) && decide (tNam t k = m))))) σ) : wpM 78 [.ref (X + 1), .int (nI q), .int (nI m)] σ P := by
  have h60 := hI.2.1
  have hz := x_tree hC hX
  refine b78.mpr ?_
  have key : ∀ e j, j + e = tN t → 1 ≤ j → (∀ k, 1 ≤ k → k < j → ¬ (tPar t k = some q ∧ tNam t k = m)) → wp 78 2 [some (.ref (X + 1)), some (.int (nI q)), some (.int (nI m)), some (.int (nI j))] [] σ P := by
    intro e
    induction e with
    | zero =>
      intro j ej h1 hn
      refine (b78_2 hC).mpr ⟨hz, size_ok hT.1 (b78_10.mpr (ifp (by rw [hT.2.1]; exact nI_le (by omega) (by omega)) (b78_57.mpr ⟨Or.inl rfl, ?_⟩)))⟩
      have : ((List.range (tN t)).any fun k => decide (tPar t k = some q) && decide (tNam t k = m)) = false := by
        refine Bool.eq_false_iff.mpr (fun r => ?_)
        obtain ⟨k, k1, k2, k3⟩ := (taken_iff hI).mp r
        exact hn k k1 (by omega) k3
      rw [this] at hP; exact hP
    | succ e ih =>
      intro j ej h1 hn
      have hj : j < tN t := by omega
      have hj' : j < pa.length := by rw [hT.2.1]; exact hj
      obtain ⟨g0, g1, g2, g3, g4, g5, g6⟩ := hT.2.2 j hj
      have nxt : ¬ (tPar t j = some q ∧ tNam t j = m) → wp 78 51 [some (.ref (X + 1)), some (.int (nI q)), some (.int (nI m)), some (.int (nI j))] [] σ P := by
        intro hh
        refine b78_51.mpr ?_
        rw [nI_1]
        refine ih (j + 1) (by omega) (by omega) (fun k k1 k2 => ?_)
        by_cases r : k = j
        · rw [r]; exact hh
        · exact hn k k1 (by omega)
      refine (b78_2 hC).mpr ⟨hz, size_ok hT.1 (b78_10.mpr (ifn (by rw [hT.2.1]; exact nI_ge hj (by omega)) ((b78_13 hC).mpr ⟨hz, get_ok hT.1 hj' (b78_21.mpr ?_)⟩)))⟩
      rw [pA_elem hj']
      refine ⟨g0, ?_⟩
      rw [g2]
      obtain ⟨⟨q', hq', hpar, _⟩, hn1, hn2⟩ := hI.2.2.2.1 j h1 hj
      have epar : optI (tPar t j) = nI q ↔ tPar t j = some q := optI_eq (a := tPar t j) (b := some q) (fun k hk => by rw [hpar] at hk; cases hk; omega) (fun k hk => by cases hk; omega)
      by_cases c1 : tPar t j = some q
      · refine ifn (fun r => r (epar.mpr c1)) ((b78_31 hC).mpr ⟨hz, get_ok hT.1 hj' (b78_39.mpr ?_)⟩)
        rw [pA_elem hj']
        refine ⟨g0, ?_⟩
        rw [g3]
        by_cases c2 : tNam t j = m
        · refine ifn (fun r => r (by rw [c2])) (b78_49.mpr ⟨Or.inr rfl, ?_⟩)
          rw [(taken_iff hI).mpr ⟨j, h1, hj, c1, c2⟩] at hP; exact hP
        · exact ifp (fun r => c2 ((nI_eq (by omega) (by omega)).mp r)) (nxt (fun r => c2 r.2))
      · exact ifp (fun r => c1 (epar.mp r)) (nxt (fun r => c1 r.1))
  exact key (tN t - 1) 1 (by have := hI.1; omega) (Nat.le_refl 1) (fun k h1 h2 => by omega)
end PT
