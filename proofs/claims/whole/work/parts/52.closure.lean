/-! WHAT IS USED, AND SO ON, PURE -/
section CL
variable {t : TreT} {a : ActT} {i j k b p n : Nat}
theorem rchN_trans : ∀ n {m i k j : Nat}, rchN t a n i k → rchN t a m k j → rch t a i j
  | 0, m, i, k, j, h, h' => ⟨m + 1, k, h.1, h.2, h'⟩
  | n + 1, m, i, k, j, h, h' => by
    obtain ⟨x, h1, h2, h3⟩ := h
    obtain ⟨l, h4⟩ := rchN_trans n h3 h'
    exact ⟨l + 1, x, h1, h2, h4⟩
theorem rch_trans (h : rch t a i k) (h' : rch t a k j) : rch t a i j := by
  obtain ⟨n, h⟩ := h
  obtain ⟨m, h'⟩ := h'
  exact rchN_trans n h h'
theorem rch_one (hk : k < aN a) (h : usesT t a i k = true) : rch t a i k := ⟨0, hk, h⟩
theorem rchN_lt : ∀ n {i j : Nat}, rchN t a n i j → j < aN a
  | 0, _, _, h => h.1
  | n + 1, _, _, h => by obtain ⟨x, _, _, h3⟩ := h; exact rchN_lt n h3
theorem rch_lt (h : rch t a i j) : j < aN a := by
  obtain ⟨n, h⟩ := h; exact rchN_lt n h
/-- a set that has what its members use has what they come to -/
theorem rchN_closed {S : Nat → Prop} (hS : ∀ i j, S i → j < aN a → usesT t a i j = true → S j) : ∀ n {i j : Nat}, S i → rchN t a n i j → S j
  | 0, _, _, hi, h => hS _ _ hi h.1 h.2
  | n + 1, _, _, hi, h => by
    obtain ⟨x, h1, h2, h3⟩ := h
    exact rchN_closed hS n (hS _ _ hi h1 h2) h3
theorem rch_closed {S : Nat → Prop} (hS : ∀ i j, S i → j < aN a → usesT t a i j = true → S j) (hi : S i) (h : rch t a i j) : S j := by
  obtain ⟨n, h⟩ := h; exact rchN_closed hS n hi h
theorem rch_step (h : rch t a i j) : usesT t a i j = true ∨ ∃ k, k < aN a ∧ usesT t a i k = true ∧ rch t a k j := by
  obtain ⟨n, h⟩ := h
  cases n with
  | zero => exact Or.inl h.2
  | succ n =>
    obtain ⟨x, h1, h2, h3⟩ := h
    exact Or.inr ⟨x, h1, h2, n, h3⟩
/-- who makes a path, or a file in it -/
theorem mem_out (hA : AInv t a) (hb : b < aN a) : k ∈ aOut a b ↔ k < tN t ∧ tMk t k = some b := by
  constructor
  · intro h
    have := (hA.2.1 b hb).2.2.2.2.2.1 k h
    exact ⟨this.1, this.2.2⟩
  · rintro ⟨h1, h2⟩; exact (hA.2.2.1 k b h1 h2).2
theorem mkr_out (hA : AInv t a) (hb : b < aN a) : (∃ o, o ∈ aOut a b ∧ (o = p ∨ tPar t o = some p)) ↔ mkr t p b := by
  constructor
  · rintro ⟨o, h1, h2⟩
    have := (mem_out hA hb).mp h1
    exact ⟨o, this.1, this.2, h2⟩
  · rintro ⟨o, h1, h2, h3⟩
    exact ⟨o, (mem_out hA hb).mpr ⟨h1, h2⟩, h3⟩
theorem uses_iff : usesT t a i j = true ↔ ∃ p, p ∈ aIns a i ∧ ∃ o, o ∈ aOut a j ∧ (o = p ∨ tPar t o = some p) := by
  unfold usesT
  simp only [List.any_eq_true, Bool.or_eq_true, decide_eq_true_eq]
theorem uses_mkr (hA : AInv t a) (hj : j < aN a) : usesT t a i j = true ↔ ∃ p, p ∈ aIns a i ∧ mkr t p j := by
  rw [uses_iff]
  constructor
  · rintro ⟨p, h1, h2⟩; exact ⟨p, h1, (mkr_out hA hj).mp h2⟩
  · rintro ⟨p, h1, h2⟩; exact ⟨p, h1, (mkr_out hA hj).mpr h2⟩
theorem mkr_lt (hA : AInv t a) (h : mkr t p i) : i < aN a := by
  obtain ⟨o, h1, h2, h3⟩ := h
  exact (hA.2.2.1 o i h1 h2).1
/-- how many of the n first are in -/
def cnt (f : Nat → Bool) (n : Nat) : Nat := ((List.range n).filter f).length
theorem cnt_succ {f : Nat → Bool} : cnt f (n + 1) = cnt f n + (if f n = true then 1 else 0) := by
  unfold cnt
  rw [List.range_succ, List.filter_append, List.length_append]
  by_cases h : f n = true
  · simp [h]
  · simp [h]
theorem cnt_le {f : Nat → Bool} : ∀ n, cnt f n ≤ n
  | 0 => by simp [cnt]
  | n + 1 => by
    have := cnt_le (f := f) n
    rw [cnt_succ]; split <;> omega
theorem cnt_mono {f g : Nat → Bool} : ∀ n, (∀ i, i < n → f i = true → g i = true) → cnt f n ≤ cnt g n
  | 0, _ => by simp [cnt]
  | n + 1, h => by
    have := cnt_mono n (fun i hi => h i (by omega))
    rw [cnt_succ, cnt_succ]
    by_cases q : f n = true
    · rw [if_pos q, if_pos (h n (by omega) q)]; omega
    · rw [if_neg q]; omega
theorem cnt_lt {f g : Nat → Bool} : ∀ n, (∀ i, i < n → f i = true → g i = true) → (∃ i, i < n ∧ f i = false ∧ g i = true) → cnt f n < cnt g n
  | 0, _, h => by obtain ⟨i, hi, _⟩ := h; omega
  | n + 1, h, hx => by
    obtain ⟨i, hi, h1, h2⟩ := hx
    have m := cnt_mono n (fun i hi => h i (by omega))
    rw [cnt_succ, cnt_succ]
    by_cases e : i = n
    · subst e
      rw [h1, h2, if_neg (by decide), if_pos rfl]; omega
    · have := cnt_lt n (fun i hi => h i (by omega)) ⟨i, by omega, h1, h2⟩
      by_cases q : f n = true
      · rw [if_pos q, if_pos (h n (by omega) q)]; omega
      · rw [if_neg q]; omega
theorem cnt_full {f : Nat → Bool} : ∀ n, n ≤ cnt f n → ∀ i, i < n → f i = true
  | 0, _, i, hi => by omega
  | n + 1, h, i, hi => by
    have := cnt_le (f := f) n
    rw [cnt_succ] at h
    by_cases q : f n = true
    · by_cases e : i = n
      · rw [e]; exact q
      · rw [if_pos q] at h
        exact cnt_full n (by omega) i (by omega)
    · rw [if_neg q] at h; omega
theorem cnt_same {f g : Nat → Bool} (h1 : ∀ i, i < n → f i = true → g i = true) (h2 : cnt g n ≤ cnt f n) : ∀ i, i < n → f i = g i := by
  intro i hi
  cases hf : f i with
  | true => exact (h1 i hi hf).symm
  | false =>
    cases hg : g i with
    | false => rfl
    | true => have := cnt_lt n h1 ⟨i, hi, hf, hg⟩; omega
end CL
