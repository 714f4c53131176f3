section CN
variable {σ : zSt} {P : Option Value → zSt → Prop} {c d : Nat} {v : Int32} {n : Int32} {l : List Int32}
theorem isAbsent_ok {w : Option (List Int32)} (h : Cnt σ c w) (hP : P (some (.int (if w = none then 1 else 0))) σ) : wpM 15 [.ref c] σ P := by
  obtain ⟨hz, h⟩ := h
  cases w with
  | none =>
    refine b15.mpr ⟨hz, ifn (fun q => q h) ?_⟩
    exact b15_8.mpr (b15_13.mpr ⟨Or.inr rfl, hP⟩)
  | some l =>
    refine b15.mpr ⟨hz, ifp ?_ ?_⟩
    · rw [h.1]; have := h.2.1; intro q
      have := congrArg Int32.toInt q
      rw [nI_toInt (by omega)] at this
      have e : (-1 : Int32).toInt = -1 := rfl
      rw [e] at this; omega
    exact b15_12.mpr (b15_13.mpr ⟨Or.inl rfl, hP⟩)
/-- Contents alike -/
theorem sameAs_ok (hC : CShape σ) {u w : Option (List Int32)} (h : Cnt σ c u) (h' : Cnt σ d w) (hP : P (some (.int (if u = w then 1 else 0))) σ) : wpM 19 [.ref c, .ref d] σ P := by
  obtain ⟨hz, h⟩ := h
  obtain ⟨hz', h'⟩ := h'
  have ni : ∀ l : List Int32, l.length ≤ 64 → ¬ nI l.length = -1 := by
    intro l hl q
    have := congrArg Int32.toInt q
    rw [nI_toInt (by omega)] at this
    have e : (-1 : Int32).toInt = -1 := rfl
    rw [e] at this; omega
  cases u with
  | none =>
    cases w with
    | none =>
      have e1 : zfi σ 2 1 c = -1 := h
      have e2 : zfi σ 2 1 d = -1 := h'
      refine b19.mpr ⟨hz, hz', ifp (e1.trans e2.symm) (b19_13.mpr (b19_15.mpr ⟨hz, ifp (by rw [e1]; decide) (b19_46.mpr ⟨Or.inr rfl, hP⟩)⟩))⟩
    | some l =>
      have e1 : zfi σ 2 1 c = -1 := h
      refine b19.mpr ⟨hz, hz', ifn ?_ (b19_11.mpr ⟨Or.inl rfl, hP⟩)⟩
      rw [e1, h'.1]; exact fun q => ni l h'.2.1 q.symm
  | some k =>
    cases w with
    | none =>
      have e2 : zfi σ 2 1 d = -1 := h'
      refine b19.mpr ⟨hz, hz', ifn ?_ (b19_11.mpr ⟨Or.inl rfl, hP⟩)⟩
      rw [e2, h.1]; exact ni k h.2.1
    | some l =>
      obtain ⟨hn, hk, ha⟩ := h
      obtain ⟨hn', hk', ha'⟩ := h'
      by_cases hl : k.length = l.length
      · refine b19.mpr ⟨hz, hz', ifp (by rw [hn, hn', hl]) (b19_13.mpr ?_)⟩
        have key : ∀ j i, i + j = k.length → (∀ q, q < i → k[q]? = l[q]?) → wp 19 15 [some (.ref c), some (.ref d), some (.int (nI i))] [] σ P := by
          intro j
          induction j with
          | zero =>
            intro i e hq
            refine b19_15.mpr ⟨hz, ifp (by rw [hn]; exact nI_le (by omega) (by omega)) (b19_46.mpr ⟨Or.inr rfl, ?_⟩)⟩
            rw [if_pos] at hP
            · exact hP
            · congr 1
              apply List.ext_getElem?
              intro q
              by_cases g : q < i
              · exact hq q g
              · rw [List.getElem?_eq_none (by omega), List.getElem?_eq_none (by omega)]
          | succ j ih =>
            intro i e hq
            refine b19_15.mpr ⟨hz, ifn (by rw [hn]; exact nI_ge (by omega) (by omega)) ?_⟩
            refine (b19_23 hC).mpr ⟨hz, nI_in (by omega) (by omega), hz', nI_in (by omega) (by omega), ?_⟩
            rw [nI_clamp (by omega)]
            by_cases g : zai σ 1 (c + 1) i = zai σ 1 (d + 1) i
            · refine ifp g (b19_40.mpr ?_)
              rw [nI_1]
              refine ih (i + 1) (by omega) ?_
              intro q hq'
              by_cases w : q = i
              · rw [w, ha i (by omega), ha' i (by omega), g]
              · exact hq q (by omega)
            · refine ifn g (b19_38.mpr ⟨Or.inl rfl, ?_⟩)
              rw [if_neg] at hP
              · exact hP
              · intro w
                have w : k = l := Option.some.inj w
                apply g
                have := ha i (by omega)
                rw [w, ha' i (by omega)] at this
                exact (Option.some.inj this).symm
        exact key _ 0 (Nat.zero_add _) (fun q h => absurd h (Nat.not_lt_zero q))
      · refine b19.mpr ⟨hz, hz', ifn ?_ (b19_11.mpr ⟨Or.inl rfl, ?_⟩)⟩
        · rw [hn, hn']; exact fun q => hl ((nI_eq (by omega) (by omega)).mp q)
        · rw [if_neg] at hP
          · exact hP
          · intro w; exact hl (by rw [Option.some.inj w])
/-- one put behind another, or behind itself; `l` is what is put behind -/
theorem appendAll_loop (hC : CShape σ) {k : List Int32} (hc : Cnt σ c (some k)) (hz : zIs σ d 2) (hl : l.length ≤ 64)
    (hs : ∀ τ i, i < l.length → toC σ τ c (some (k ++ l.take i)) → l[i]? = some (zai τ 1 (d + 1) i))
    (h1 : ∀ τ, k.length + l.length ≤ 64 → toC σ τ c (some (k ++ l)) → P (some (.int 1)) τ)
    (h0 : ∀ τ w, 64 < k.length + l.length → toC σ τ c (some w) → P (some (.int 0)) τ) :
    ∀ j i τ, i + j = l.length → k.length + i ≤ 64 → toC σ τ c (some (k ++ l.take i)) → wp 17 7 [some (.ref c), some (.ref d), some (.int (nI l.length)), some (.int (nI i))] [] τ P := by
  intro j
  induction j with
  | zero =>
    intro i τ e hk ht
    refine b17_7.mpr (ifp (nI_le (by omega) (by omega)) (b17_33.mpr ⟨Or.inr rfl, h1 _ (by omega) ?_⟩))
    rw [List.take_of_length_le (by omega)] at ht; exact ht
  | succ j ih =>
    intro i τ e hk ht
    refine b17_7.mpr (ifn (nI_ge (by omega) (by omega)) ?_)
    have hz1 : zIs τ d 2 := by obtain ⟨n, f, rfl, h⟩ := ht; exact hz
    have hz2 : zIs τ c 2 := by obtain ⟨n, f, rfl, h⟩ := ht; exact hc.1
    refine (b17_12 (cs_toC hC ht)).mpr ⟨hz1, nI_in (by omega) (by omega), hz2, ?_⟩
    rw [nI_clamp (by omega)]
    have hv := hs τ i (by omega) ht
    have hlen : (k ++ l.take i).length = k.length + i := by simp; omega
    by_cases g : k.length + i < 64
    · refine append_ok (cs_toC hC ht) (toC_cnt hc ht) (by rw [hlen]; exact g) (fun τ' h' => ?_)
      refine b17_22.mpr (ifp (by decide) (b17_27.mpr ?_))
      rw [nI_1]
      refine ih (i + 1) τ' (by omega) (by omega) ?_
      rw [take_snoc hv, ← List.append_assoc]
      exact toC_trans ht h'
    · refine append_full (toC_cnt hc ht) (by rw [hlen]; omega) ?_
      exact b17_22.mpr (ifn (fun q => q rfl) (b17_25.mpr ⟨Or.inl rfl, h0 _ _ (by omega) ht⟩))
theorem appendAll_ok (hC : CShape σ) {k : List Int32} (hc : Cnt σ c (some k)) (hd : Cnt σ d (some l)) 
    (h1 : ∀ τ, k.length + l.length ≤ 64 → toC σ τ c (some (k ++ l)) → P (some (.int 1)) τ)
    (h0 : ∀ τ w, 64 < k.length + l.length → toC σ τ c (some w) → P (some (.int 0)) τ) : wpM 17 [.ref c, .ref d] σ P := by
  have hl := hd.2.2.1
  refine b17.mpr ⟨hd.1, ?_⟩
  rw [hd.2.1]
  refine appendAll_loop hC hc hd.1 hl ?_ h1 h0 _ 0 σ (Nat.zero_add _) hc.2.2.1 ⟨_, _, C_self.symm, ?_⟩
  · rintro τ i hi ⟨n, f, rfl, h⟩
    by_cases g : d = c
    · subst g
      rw [C_ai]
      have e : k = l := by
        have a := hc.2; have b := hd.2
        apply List.ext_getElem?
        have e1 : k.length = l.length := (nI_eq (by have := a.2.1; omega) (by omega)).mp (a.1.symm.trans b.1)
        intro q
        by_cases w : q < l.length
        · rw [a.2.2 q (by omega), b.2.2 q w]
        · rw [List.getElem?_eq_none (by omega), List.getElem?_eq_none (by omega)]
      rw [e] at h
      have := h.2.2 i (by rw [List.length_append]; omega)
      rw [List.getElem?_append_left hi] at this
      exact this
    · rw [C_ai' g]; exact hd.2.2.2 i hi
  · rw [List.take_zero, List.append_nil]; exact hc.2
/-- the other way round -/
theorem turn_ok (hC : CShape σ) (hc : Cnt σ c (some l)) (hP : ∀ τ, toC σ τ c (some l.reverse) → P none τ) : wpM 20 [.ref c] σ P := by
  obtain ⟨hz, hn, hk, ha⟩ := hc
  refine b20.mpr ?_
  have hdiv : nI l.length / 2 = nI (l.length / 2) := pk_div (by omega) (d := 2) (by omega) (by omega)
  have key : ∀ j i u f, i + j = l.length / 2 → (∀ q, q < l.length → (if q < i ∨ l.length - i ≤ q then l[l.length - 1 - q]? else l[q]?) = some (f q)) → wp 20 2 [some (.ref c), some (.int (nI i)), u] [] (setC σ c (nI l.length) f) P := by
    intro j
    induction j with
    | zero =>
      intro i u f e hf
      refine b20_2.mpr ⟨hz, by decide, ifp ?_ (b20_58.mpr (hP _ ⟨_, _, rfl, ?_, ?_, ?_⟩))⟩
      · rw [C_fi, hdiv]; exact nI_le (by omega) (by omega)
      · simp
      · simp; omega
      · intro q hq
        rw [List.length_reverse] at hq
        have := hf q hq
        rw [List.getElem?_reverse hq]
        split at this
        · exact this
        · rw [show l.length - 1 - q = q by omega]; exact this
    | succ j ih =>
      intro i u f e hf
      refine b20_2.mpr ⟨hz, by decide, ifn ?_ ?_⟩
      · rw [C_fi, hdiv]; exact nI_ge (by omega) (by omega)
      have h3 : nI l.length - 1 - nI i = nI (l.length - 1 - i) := by
        rw [show nI l.length - 1 = nI (l.length - 1) from pk_sub (b := 1) (by omega), pk_sub (by omega)]
      refine (b20_12 (σ := setC σ c (nI l.length) f) hC).mpr ?_
      rw [C_fi, h3, nI_clamp (show i < 2 ^ 31 by omega), nI_clamp (show l.length - 1 - i < 2 ^ 31 by omega)]
      refine ⟨hz, nI_in (by omega) (by omega), nI_in (by omega) (by omega), nI_in (by omega) (by omega), nI_in (by omega) (by omega), ?_⟩
      rw [C_ai, C_ai, C_sai, C_sai, nI_1]
      refine ih (i + 1) _ _ (by omega) ?_
      intro q hq
      have a := hf i (by omega)
      have b := hf (l.length - 1 - i) (by omega)
      rw [if_neg (by omega)] at a b
      unfold up1
      by_cases g1 : q = l.length - 1 - i
      · rw [if_pos g1, if_pos (by omega), ← a, show l.length - 1 - q = i by omega]
      · rw [if_neg g1]
        by_cases g2 : q = i
        · rw [if_pos g2, if_pos (by omega), ← b, show l.length - 1 - q = l.length - 1 - i by omega]
        · rw [if_neg g2, ← hf q hq]
          by_cases g3 : q < i ∨ l.length - i ≤ q
          · rw [if_pos g3, if_pos (by omega)]
          · rw [if_neg g3, if_neg (by omega)]
  have e : σ = setC σ c (nI l.length) (zai σ 1 (c + 1)) := by rw [← hn]; exact C_self.symm
  conv => arg 5; rw [e]
  refine key _ 0 _ _ (Nat.zero_add _) ?_
  intro q hq
  rw [if_neg (by omega)]; exact ha q hq
end CN
section CO
variable {σ : zSt} {P : Option Value → zSt → Prop} {c d : Nat} {v : Int32} {n : Int32} {l : List Int32}
theorem ofF_get {n i : Nat} {f : Nat → Int32} (h : i < n) : ((List.range n).map f)[i]? = some (f i) := by
  rw [List.getElem?_map, List.getElem?_range h]; rfl
theorem sort_ok (hC : CShape σ) (hc : Cnt σ c (some l)) (hP : ∀ τ, toC σ τ c (some (sortL l)) → P none τ) : wpM 21 [.ref c] σ P := by
  obtain ⟨hz, hn, hk, ha⟩ := hc
  have fin : ∀ u w1 w2 f, (∀ i, i < l.length → f i = srtF l.length (fun i => l.getD i 0) i) → wp 21 68 [some (.ref c), some (.int u), w1, w2] [] (setC σ c (nI l.length) f) P := by
    intro u w1 w2 f hf
    refine b21_68.mpr (hP _ ⟨_, _, rfl, ?_, ?_, ?_⟩)
    · simp [sortL]
    · simp [sortL]; omega
    · intro i hi
      simp only [sortL, List.length_map, List.length_range] at hi
      rw [hf i hi]; exact ofF_get hi
  have inner : ∀ j v k g, j ≤ k → k < l.length → (∀ g', (∀ i, i < l.length → g' i = insF g j v i) → ∀ x3, wp 21 2 [some (.ref c), some (.int (nI (k + 1))), some (.int v), some (.int x3)] [] (setC σ c (nI l.length) g') P) → wp 21 19 [some (.ref c), some (.int (nI k)), some (.int v), some (.int (nI j))] [] (setC σ c (nI l.length) g) P := by
    intro j
    induction j with
    | zero =>
      intro v k g hj hkl hQ
      refine b21_19.mpr (ifp (Int32.le_refl _) ?_)
      refine (b21_55 (σ := setC σ c (nI l.length) g) hC).mpr ⟨hz, nI_in (by omega) (by omega), ?_⟩
      rw [nI_clamp (by omega), nI_1, C_sai]
      exact hQ _ (fun i _ => rfl) _
    | succ j ih =>
      intro v k g hj hkl hQ
      have e1 : nI (j + 1) - 1 = nI j := nI_pred j
      refine b21_19.mpr (ifn (show ¬ nI (j + 1) ≤ nI 0 from nI_ge (by omega) (by omega)) ?_)
      refine (b21_23 (σ := setC σ c (nI l.length) g) hC).mpr ?_
      rw [e1, nI_clamp (by omega), C_ai]
      refine ⟨hz, nI_in (by omega) (by omega), ?_⟩
      by_cases w : v < g j
      · refine ifn (by rw [Int32.not_le]; exact w) ?_
        refine (b21_35 (σ := setC σ c (nI l.length) g) hC).mpr ?_
        rw [e1, nI_clamp (show j < 2 ^ 31 by omega), nI_clamp (show j + 1 < 2 ^ 31 by omega), C_ai, C_sai, pk_m1]
        refine ⟨hz, nI_in (by omega) (by omega), nI_in (by omega) (by omega), ?_⟩
        refine ih _ _ _ (by omega) hkl (fun g' hg => hQ g' (fun i hi => ?_))
        rw [hg i hi]
        show _ = (if v < g j then insF (up1 g (j + 1) (g j)) j v else up1 g (j + 1) v) i
        rw [if_pos w]
      · refine ifp (by rw [← Int32.not_lt]; exact w) ?_
        refine (b21_55 (σ := setC σ c (nI l.length) g) hC).mpr ⟨hz, nI_in (by omega) (by omega), ?_⟩
        rw [nI_clamp (by omega), nI_1, C_sai]
        refine hQ _ (fun i _ => ?_) _
        show _ = (if v < g j then insF (up1 g (j + 1) (g j)) j v else up1 g (j + 1) v) i
        rw [if_neg w]
  have key : ∀ j k w1 w2 f, k + j = l.length → 1 ≤ k → (∀ i, i < l.length → f i = srtF k (fun i => l.getD i 0) i) → wp 21 2 [some (.ref c), some (.int (nI k)), w1, w2] [] (setC σ c (nI l.length) f) P := by
    intro j
    induction j with
    | zero =>
      intro k w1 w2 f e h1 hf
      refine b21_2.mpr ⟨hz, ifp ?_ (fin _ w1 w2 f ?_)⟩
      · rw [C_fi]; exact nI_le (by omega) (by omega)
      · intro i hi; rw [hf i hi, show k = l.length by omega]
    | succ j ih =>
      intro k w1 w2 f e h1 hf
      refine b21_2.mpr ⟨hz, ifn ?_ ?_⟩
      · rw [C_fi]; exact nI_ge (by omega) (by omega)
      refine (b21_10 (σ := setC σ c (nI l.length) f) hC).mpr ⟨hz, nI_in (by omega) (by omega), ?_⟩
      rw [nI_clamp (by omega), C_ai]
      refine inner k (f k) k f (Nat.le_refl _) (by omega) (fun g' hg x3 => ?_)
      refine ih (k + 1) _ _ g' (by omega) (by omega) (fun i hi => ?_)
      rw [hg i hi]
      show _ = insF (srtF k _) k (srtF k _ k) i
      rw [hf k (by omega)]
      exact insF_congr k _ _ _ (by omega) hf i hi
  have e : σ = setC σ c (nI l.length) (zai σ 1 (c + 1)) := by rw [← hn]; exact C_self.symm
  have hg : ∀ i, i < l.length → zai σ 1 (c + 1) i = l.getD i 0 := by
    intro i hi
    rw [List.getD_eq_getElem?_getD, ha i hi]; rfl
  refine b21.mpr ?_
  conv => arg 5; rw [e]
  by_cases h : l.length = 0
  · refine b21_2.mpr ⟨hz, ifp ?_ (fin _ none none _ (fun i hi => absurd hi (by omega)))⟩
    rw [C_fi]; exact nI_le (b := 1) (by omega) (by omega)
  · refine key (l.length - 1) 1 none none _ (by omega) (Nat.le_refl 1) ?_
    intro i hi
    rw [srtF_1]; exact hg i hi
theorem sum_ok (hC : CShape σ) (hc : Cnt σ c (some l)) (hP : P (some (.int (sumL l))) σ) : wpM 22 [.ref c] σ P := by
  obtain ⟨hz, hn, hk, ha⟩ := hc
  refine b22.mpr ?_
  have key : ∀ j i, i + j = l.length → wp 22 4 [some (.ref c), some (.int (sumL (l.take i))), some (.int (nI i))] [] σ P := by
    intro j
    induction j with
    | zero =>
      intro i e
      refine b22_4.mpr ⟨hz, ifp (by rw [hn]; exact nI_le (by omega) (by omega)) (b22_27.mpr ?_)⟩
      rw [List.take_of_length_le (by omega)]; exact hP
    | succ j ih =>
      intro i e
      refine b22_4.mpr ⟨hz, ifn (by rw [hn]; exact nI_ge (by omega) (by omega)) ?_⟩
      refine (b22_12 hC).mpr ⟨hz, nI_in (by omega) (by omega), ?_⟩
      rw [nI_clamp (by omega), nI_1, ← sumL_snoc, ← take_snoc (ha i (by omega))]
      exact ih (i + 1) (by omega)
  exact key _ 0 (Nat.zero_add _)
theorem cut_ok (hc : Cnt σ c (some l)) {k : Nat} (hk : k < 2 ^ 31) (hP : ∀ τ, toC σ τ c (some (l.take k)) → P none τ) : wpM 24 [.ref c, .int (nI k)] σ P := by
  obtain ⟨hz, hn, hk', ha⟩ := hc
  by_cases h : l.length ≤ k
  · refine b24.mpr ⟨hz, ifp (by rw [hn]; exact nI_le h hk) (b24_13.mpr (hP _ ⟨_, _, C_self.symm, ?_⟩))⟩
    rw [List.take_of_length_le h]; exact ⟨hn, hk', ha⟩
  · refine b24.mpr ⟨hz, ifn (by rw [hn]; exact nI_ge (by omega) (by omega)) (b24_8.mpr ⟨hz, b24_13.mpr (hP _ ⟨nI k, zai σ 1 (c + 1), ?_, ?_, ?_, ?_⟩)⟩)⟩
    · conv => lhs; rw [← C_self (σ := σ) (c := c)]
      rw [C_sfi]
    · rw [List.length_take, Nat.min_eq_left (by omega)]
    · rw [List.length_take]; omega
    · intro i hi
      rw [List.length_take] at hi
      rw [List.getElem?_take_of_lt (by omega)]
      exact ha i (by omega)
theorem mix_ok (hC : CShape σ) (hc : Cnt σ c (some l)) (hP : ∀ τ, toC σ τ c (some (mixL l v)) → P none τ) : wpM 27 [.ref c, .int v] σ P := by
  obtain ⟨hz, hn, hk, ha⟩ := hc
  refine b27.mpr ?_
  have key : ∀ j i f, i + j = l.length → (∀ q, q < l.length → (if q < i then (mixL l v)[q]? else l[q]?) = some (f q)) → wp 27 2 [some (.ref c), some (.int v), some (.int (nI i))] [] (setC σ c (nI l.length) f) P := by
    intro j
    induction j with
    | zero =>
      intro i f e hf
      refine b27_2.mpr ⟨hz, ifp ?_ (b27_26.mpr (hP _ ⟨_, _, rfl, ?_, ?_, ?_⟩))⟩
      · rw [C_fi]; exact nI_le (by omega) (by omega)
      · simp [mixL]
      · simp [mixL]; omega
      · intro q hq
        simp only [mixL, List.length_map] at hq
        have := hf q hq
        rw [if_pos (by omega)] at this; exact this
    | succ j ih =>
      intro i f e hf
      refine b27_2.mpr ⟨hz, ifn ?_ ?_⟩
      · rw [C_fi]; exact nI_ge (by omega) (by omega)
      refine (b27_10 (σ := setC σ c (nI l.length) f) hC).mpr ⟨hz, nI_in (by omega) (by omega), nI_in (by omega) (by omega), ?_⟩
      rw [nI_clamp (by omega), nI_1, C_ai, C_sai]
      refine ih (i + 1) _ (by omega) (fun q hq => ?_)
      unfold up1
      by_cases g : q = i
      · rw [if_pos g, if_pos (by omega), g, mixL, List.getElem?_map]
        have := hf i (by omega)
        rw [if_neg (by omega)] at this
        rw [this]; rfl
      · rw [if_neg g, ← hf q hq]
        by_cases g3 : q < i
        · rw [if_pos g3, if_pos (by omega)]
        · rw [if_neg g3, if_neg (by omega)]
  have e : σ = setC σ c (nI l.length) (zai σ 1 (c + 1)) := by rw [← hn]; exact C_self.symm
  conv => arg 5; rw [e]
  refine key _ 0 _ (Nat.zero_add _) ?_
  intro q hq
  rw [if_neg (by omega)]; exact ha q hq
end CO
section CQ
variable {σ : zSt} {P : Option Value → zSt → Prop} {c d : Nat} {v : Int32} {n : Int32} {l : List Int32}
theorem toC_self {w : Option (List Int32)} (h : Cnt σ c w) : toC σ σ c w := ⟨_, _, C_self.symm, h.2⟩
theorem toC_is {τ : zSt} {w : Option (List Int32)} {a k : Nat} (h : toC σ τ c w) (hz : zIs σ a k) : zIs τ a k := by
  obtain ⟨n, f, rfl, h⟩ := h; exact hz
theorem toC_Cnt {τ : zSt} {w : Option (List Int32)} (h : toC σ τ c w) (hz : zIs σ c 2) : Cnt τ c w := by
  obtain ⟨n, f, rfl, h⟩ := h
  refine ⟨hz, ?_⟩
  rw [C_fi]
  have e : zai (setC σ c n f) 1 (c + 1) = f := by funext i; exact C_ai
  rw [e]; exact h
theorem lowN_len : ∀ k v, (lowN k v).length ≤ k
  | 0, _ => Nat.le_refl 0
  | k + 1, v => by
    unfold lowN; split
    · simp
    · have := lowN_len k (v / 10); simp; omega
/-- the figures of a number -/
theorem figures_ok (hC : CShape σ) (hz : zIs σ c 2) {k : Nat} (hk : k < 2 ^ 31) (hP : ∀ τ, toC σ τ c (some (figsL k)) → P none τ) : wpM 23 [.ref c, .int (nI k)] σ P := by
  refine b23.mpr ⟨hz, ?_⟩
  have e0 : toC σ (sfi σ 2 1 c 0) c (some []) := by
    refine ⟨0, zai σ 1 (c + 1), ?_, rfl, Nat.zero_le _, fun i h => absurd h (Nat.not_lt_zero i)⟩
    conv => lhs; rw [← C_self (σ := σ) (c := c)]
    rw [C_sfi]
  have fin : ∀ τ x2 x3, toC σ τ c (some (lowN 10 k)) → wp 23 46 [some (.ref c), some (.int (nI k)), some (.int x2), some (.int x3)] [] τ P := by
    intro τ x2 x3 h
    refine b23_46.mpr ⟨toC_is h hz, ?_⟩
    refine turn_ok (cs_toC hC h) (toC_Cnt h hz) (fun τ' h' => ?_)
    exact b23_50.mpr (hP _ (toC_trans h h'))
  have key : ∀ j acc r τ, j + acc.length = 10 → toC σ τ c (some acc) → (if acc.length = 0 ∨ 0 < r then acc ++ lowN j r else acc) = lowN 10 k → r < 2 ^ 31 → wp 23 9 [some (.ref c), some (.int (nI k)), some (.int (nI r)), some (.int (nI acc.length))] [] τ P := by
    intro j
    induction j with
    | zero =>
      intro acc r τ e ht he hr
      refine b23_9.mpr (ifp (nI_le (a := 10) (by omega) (by omega)) (fin _ _ _ ?_))
      rw [show lowN 0 r = [] from rfl, List.append_nil, ite_self] at he
      rw [← he]; exact ht
    | succ j ih =>
      intro acc r τ e ht he hr
      refine b23_9.mpr (ifn (nI_ge (b := 10) (by omega) (by omega)) ?_)
      have step : acc.length = 0 ∨ 0 < r → wp 23 23 [some (.ref c), some (.int (nI k)), some (.int (nI r)), some (.int (nI acc.length))] [] τ P := by
        intro hc
        rw [if_pos hc] at he
        refine b23_23.mpr ⟨by decide, toC_is ht hz, ?_⟩
        have e1 : (48 : Int32) + (nI r - nI r / 10 * 10) = nI (48 + r % 10) := by
          rw [show nI r - nI r / 10 * 10 = nI (r % 10) from pk_rem (d := 10) (by omega) (by omega) (by omega)]
          exact nI_add 48 _
        rw [e1]
        refine append_ok (cs_toC hC ht) (toC_Cnt ht hz) (by omega) (fun τ' h' => ?_)
        refine b23_34.mpr ⟨by decide, ?_⟩
        rw [show nI r / 10 = nI (r / 10) from pk_div (d := 10) (by omega) (by omega) (by omega), nI_1]
        have hl : acc.length + 1 = (acc ++ [nI (48 + r % 10)]).length := by simp
        rw [hl]
        refine ih _ (r / 10) τ' (by rw [← hl]; omega) (toC_trans ht h') ?_ (by omega)
        rw [← he]
        conv => rhs; rw [lowN]
        by_cases h10 : r < 10
        · rw [if_pos h10, if_neg (by rw [← hl]; omega), show r % 10 = r by omega]
        · rw [if_neg h10, if_pos (by omega), List.append_assoc]; rfl
      by_cases h0 : acc.length = 0
      · refine b23_15.mpr (ifp (by rw [h0]; rfl) (step (Or.inl h0)))
      · refine b23_15.mpr (ifn (show ¬ nI acc.length = nI 0 from fun q => h0 ((nI_eq (by omega) (by omega)).mp q)) ?_)
        by_cases hr0 : 0 < r
        · exact b23_19.mpr (ifn (show ¬ nI r ≤ nI 0 from nI_ge hr0 (by omega)) (step (Or.inr hr0)))
        · refine b23_19.mpr (ifp (show nI r ≤ nI 0 from nI_le (by omega) (by omega)) (fin _ _ _ ?_))
          rw [if_neg (by omega)] at he
          rw [← he]; exact ht
  refine key 10 [] k _ rfl e0 ?_ hk
  exact if_pos (Or.inl rfl)
theorem isAmong_ok (hC : CShape σ) (hz : zIs σ c 2) {k : List Int32} (hk : k.length ≤ 64) (ha : ∀ i, i < k.length → k[i]? = some (zai σ 1 (c + 1) i)) (hP : P (some (.int (if v ∈ k then 1 else 0))) σ) : wpM 26 [.ref c, .int (nI k.length), .int v] σ P := by
  refine b26.mpr ?_
  have key : ∀ j i, i + j = k.length → ¬ v ∈ k.take i → wp 26 2 [some (.ref c), some (.int (nI k.length)), some (.int v), some (.int (nI i))] [] σ P := by
    intro j
    induction j with
    | zero =>
      intro i e hn
      refine b26_2.mpr (ifp (nI_le (by omega) (by omega)) (b26_25.mpr ⟨Or.inl rfl, ?_⟩))
      rw [List.take_of_length_le (by omega)] at hn
      rw [if_neg hn] at hP; exact hP
    | succ j ih =>
      intro i e hn
      refine b26_2.mpr (ifn (nI_ge (by omega) (by omega)) ?_)
      refine (b26_7 hC).mpr ⟨hz, nI_in (by omega) (by omega), ?_⟩
      rw [nI_clamp (by omega)]
      by_cases g : zai σ 1 (c + 1) i = v
      · refine ifn (fun q => q g) (b26_17.mpr ⟨Or.inr rfl, ?_⟩)
        rw [if_pos] at hP
        · exact hP
        · have := ha i (by omega)
          rw [g] at this
          exact List.mem_of_getElem? this
      · refine ifp g (b26_19.mpr ?_)
        rw [nI_1]
        refine ih (i + 1) (by omega) ?_
        rw [take_snoc (ha i (by omega))]
        intro q
        rcases List.mem_append.mp q with q | q
        · exact hn q
        · exact g (List.mem_singleton.mp q).symm
  exact key _ 0 (Nat.zero_add _) (by simp)
theorem keepFirst_ok (hC : CShape σ) (hc : Cnt σ c (some l)) (hP : ∀ τ, toC σ τ c (some (onceL l)) → P none τ) : wpM 25 [.ref c] σ P := by
  obtain ⟨hz, hn, hk, ha⟩ := hc
  refine b25.mpr ?_
  have key : ∀ j i f, i + j = l.length → (∀ q, q < l.length → i ≤ q → l[q]? = some (f q)) → (∀ q, q < (onceL (l.take i)).length → (onceL (l.take i))[q]? = some (f q)) → wp 25 4 [some (.ref c), some (.int (nI (onceL (l.take i)).length)), some (.int (nI i))] [] (setC σ c (nI l.length) f) P := by
    intro j
    induction j with
    | zero =>
      intro i f e hf hg
      rw [List.take_of_length_le (by omega)] at hg ⊢
      refine b25_4.mpr ⟨hz, ifp (by rw [C_fi]; exact nI_le (by omega) (by omega)) (b25_47.mpr ⟨hz, ?_⟩)⟩
      rw [C_sfi]
      have := onceL_len l
      exact hP _ ⟨_, _, rfl, rfl, by omega, hg⟩
    | succ j ih =>
      intro i f e hf hg
      have hle : (onceL (l.take i)).length ≤ i := by
        have := onceL_len (l.take i)
        rw [List.length_take] at this; omega
      refine b25_4.mpr ⟨hz, ifn (by rw [C_fi]; exact nI_ge (by omega) (by omega)) ?_⟩
      refine (b25_12 (σ := setC σ c (nI l.length) f) hC).mpr ⟨hz, nI_in (by omega) (by omega), ?_⟩
      rw [nI_clamp (by omega), C_ai]
      have hs : onceL (l.take (i + 1)) = if f i ∈ onceL (l.take i) then onceL (l.take i) else onceL (l.take i) ++ [f i] := by
        rw [take_snoc (hf i (by omega) (Nat.le_refl i)), onceL_snoc]
      refine isAmong_ok (σ := setC σ c (nI l.length) f) hC hz (by omega) (fun q hq => by rw [C_ai]; exact hg q hq) ?_
      by_cases g : f i ∈ onceL (l.take i)
      · rw [if_pos g] at hs ⊢
        refine b25_23.mpr (ifp (by decide) (b25_41.mpr ?_))
        rw [nI_1, ← hs]
        refine ih (i + 1) f (by omega) (fun q h1 h2 => hf q h1 (by omega)) ?_
        rw [hs]; exact hg
      · rw [if_neg g] at hs ⊢
        refine b25_23.mpr (ifn (fun q => q rfl) ?_)
        refine (b25_26 (σ := setC σ c (nI l.length) f) hC).mpr ⟨hz, nI_in (by omega) (by omega), nI_in (by omega) (by omega), ?_⟩
        rw [nI_clamp (show i < 2 ^ 31 by omega), nI_clamp (by omega), C_ai, C_sai, nI_1]
        refine b25_41.mpr ?_
        rw [nI_1]
        have hl : (onceL (l.take i)).length + 1 = (onceL (l.take (i + 1))).length := by rw [hs]; simp
        rw [hl]
        refine ih (i + 1) _ (by omega) (fun q h1 h2 => ?_) (fun q h1 => ?_)
        · unfold up1; rw [if_neg (by omega)]; exact hf q h1 (by omega)
        · unfold up1
          rw [← hl] at h1
          rw [hs]
          by_cases w : q = (onceL (l.take i)).length
          · rw [if_pos w, w]; simp
          · rw [if_neg w, List.getElem?_append_left (by omega)]; exact hg q (by omega)
  have e : σ = setC σ c (nI l.length) (zai σ 1 (c + 1)) := by rw [← hn]; exact C_self.symm
  conv => arg 5; rw [e]
  exact key _ 0 _ (Nat.zero_add _) (fun q h _ => ha q h) (fun q h => absurd h (Nat.not_lt_zero q))
end CQ
