section KD
variable {σ : zSt} {P : Option Value → zSt → Prop} {q k s : Nat} {l : List Int32} {fs : List Nat}
/-- what a key has of a directory -/
def listL (nm : List Int32) : List Int32 := -2 :: nI nm.length :: nm
theorem toK_rd {τ : zSt} {x : List Int32} (h : toK σ τ k x) : (∀ k' a, k' ≠ 2 → zfi τ 5 k' a = zfi σ 5 k' a) ∧ (∀ c k' a, c ≠ 5 → zfi τ c k' a = zfi σ c k' a) ∧ (∀ t a i, t ≠ 2 → zai τ t a i = zai σ t a i) ∧ zfr τ = zfr σ ∧ zar τ = zar σ ∧ ztg τ = ztg σ ∧ ze0 τ = ze0 σ ∧ znx τ = znx σ ∧ zsl τ = zsl σ ∧ zfl τ = zfl σ := by
  obtain ⟨n, f, rfl, _⟩ := h
  refine ⟨fun k' a h => ?_, fun c k' a h => ?_, fun t a i h => ?_, rfl, rfl, rfl, rfl, rfl, rfl, rfl⟩
  · exact if_neg (fun q => h q.2.1)
  · exact if_neg (fun q => h q.1)
  · exact if_neg (fun q => h q.1)
theorem LVal_K {τ : zSt} {x : List Int32} {L : Nat} (h : toK σ τ k x) (hv : LVal σ L fs) : LVal τ L fs := by
  obtain ⟨n, f, rfl, _⟩ := h; exact hv
theorem Cnt_K {τ : zSt} {x : List Int32} {c : Nat} {w : Option (List Int32)} (h : toK σ τ k x) (hv : Cnt σ c w) : Cnt τ c w := by
  obtain ⟨n, f, rfl, _⟩ := h; exact hv
/-- the files of a directory that are there, by their names -/
def namesOf (nm : Nat → Int32) (cv : Nat → Option (List Int32)) (fs : List Nat) : List Int32 := (fs.filter (fun f => (cv f).isSome)).map nm
theorem putListed_ok (hC : CShape σ) (h : Ky σ k l) (hz : zIs σ q 8) (hv : LVal σ (q + 2) fs) (hs : s < 2) {cv : Nat → Option (List Int32)} (hf : ∀ f ∈ fs, zIs σ f 8 ∧ Cnt σ (f + 3 + 2 * s) (cv f))
    (hl : l.length + 2 + (fs.filter (fun f => (cv f).isSome)).length ≤ 425)
    (hP : ∀ τ, toK σ τ k (l ++ listL (namesOf (zfi σ 8 2) cv fs)) → P none τ) : wpM 44 [.ref k, .ref q, .int (nI s)] σ P := by
  have hlen := LVal_len hv
  refine b44.mpr ⟨h.1, put_ok hC h (by omega) (fun τ1 h1 => b44_6.mpr ⟨toK_is h1 hz, ?_⟩)⟩
  have hf1 : ∀ τ x, toK σ τ k x → ∀ f ∈ fs, zIs τ f 8 ∧ Cnt τ (f + 3 + 2 * s) (cv f) := fun τ x ht f hm => ⟨toK_is ht (hf f hm).1, Cnt_K ht (hf f hm).2⟩
  refine listed_ok (cs_toK hC h1) (toK_is h1 hz) (LVal_K h1 hv) hs (hf1 _ _ h1) (b44_12.mpr ⟨toK_is h1 h.1, ?_⟩)
  refine put_ok (cs_toK hC h1) (toK_ky h1 h.1) (by simp; omega) (fun τ2 h2 => b44_15.mpr ?_)
  have h12 := toK_trans h1 h2
  have key : ∀ j i τ u, i + j = fs.length → toK σ τ k (l ++ [-2] ++ [nI (fs.filter (fun f => (cv f).isSome)).length] ++ namesOf (zfi σ 8 2) cv (fs.take i)) → wp 44 17 [some (.ref k), some (.ref q), some (.int (nI s)), some (.int (nI i)), u] [] τ P := by
    intro j
    induction j with
    | zero =>
      intro i τ u e ht
      refine (b44_17 (cs_toK hC ht)).mpr ⟨toK_is ht hz, size_ok (LVal_K ht hv) (b44_25.mpr (ifp (nI_le (by omega) (by omega)) (b44_69.mpr (hP τ ?_))))⟩
      rw [List.take_of_length_le (by omega)] at ht
      have e : l ++ [-2] ++ [nI (fs.filter (fun f => (cv f).isSome)).length] ++ namesOf (zfi σ 8 2) cv fs = l ++ listL (namesOf (zfi σ 8 2) cv fs) := by
        simp [listL, namesOf]
      rw [e] at ht; exact ht
    | succ j ih =>
      intro i τ u e ht
      have hi : i < fs.length := by omega
      refine (b44_17 (cs_toK hC ht)).mpr ⟨toK_is ht hz, size_ok (LVal_K ht hv) (b44_25.mpr (ifn (nI_ge (by omega) (by omega)) ?_))⟩
      refine (b44_28 (cs_toK hC ht)).mpr ⟨toK_is ht hz, get_ok (LVal_K ht hv) hi ((b44_36 (cs_toK hC ht)).mpr ?_)⟩
      obtain ⟨h8, hc⟩ := hf1 _ _ ht _ (List.getElem_mem hi)
      refine ⟨h8, nI_in hs (by omega), ?_⟩
      rw [nI_clamp (by omega), show fs[i] + 1 + 2 + 2 * s = fs[i] + 3 + 2 * s by omega]
      refine isAbsent_ok hc ?_
      have tk : fs.take (i + 1) = fs.take i ++ [fs[i]] := by rw [List.take_add_one, List.getElem?_eq_getElem hi]; rfl
      have nm : namesOf (zfi σ 8 2) cv (fs.take (i + 1)) = namesOf (zfi σ 8 2) cv (fs.take i) ++ namesOf (zfi σ 8 2) cv [fs[i]] := by
        unfold namesOf; rw [tk, List.filter_append, List.map_append]
      have cnt : ((fs.take (i + 1)).filter (fun f => (cv f).isSome)).length ≤ (fs.filter (fun f => (cv f).isSome)).length := List.Sublist.length_le (List.Sublist.filter _ (List.take_sublist _ _))
      by_cases g : cv fs[i] = none
      · rw [if_pos g]
        refine b44_51.mpr (ifp (by decide) (b44_63.mpr ?_))
        rw [nI_1]
        refine ih (i + 1) τ _ (by omega) ?_
        rw [nm]
        simpa [namesOf, g] using ht
      · have g' : (cv fs[i]).isSome = true := by
          cases h : cv fs[i] with
          | none => exact absurd h g
          | some _ => rfl
        rw [if_neg g]
        refine b44_51.mpr (ifn (fun q => q rfl) (b44_54.mpr ⟨h8, toK_is ht h.1, ?_⟩))
        rw [(toK_rd ht).2.1 8 2 _ (by omega)]
        refine put_ok (cs_toK hC ht) (toK_ky ht h.1) ?_ (fun τ3 h3 => b44_63.mpr ?_)
        · rw [tk, List.filter_append] at cnt
          simp [g'] at cnt
          simp [namesOf]; omega
        · rw [nI_1]
          refine ih (i + 1) τ3 _ (by omega) ?_
          have := toK_trans ht h3
          rw [nm]
          simpa [namesOf, g'] using this
  exact key _ 0 τ2 _ (Nat.zero_add _) (by simpa [namesOf] using h12)
end KD
