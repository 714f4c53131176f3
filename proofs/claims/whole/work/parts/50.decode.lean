/-! KEYS, PURE: two that are alike as rows are alike part by part; where they first differ tells the part -/
section DE
variable {p q r r' l : List Int32} {t : TreT} {a : ActT} {cv : Nat → Con} {i j : Nat}
theorem fdiff_app (p r r' : List Int32) : fdiff (p ++ r) (p ++ r') = p.length + fdiff r r' := by
  induction p with
  | nil => simp
  | cons x p ih =>
    show (if x = x then fdiff (p ++ r) (p ++ r') + 1 else 0) = _
    rw [if_pos rfl, ih, List.length_cons]; omega
theorem fdiff_self (p : List Int32) : fdiff p p = p.length := by
  have := fdiff_app p [] []
  rw [List.append_nil] at this
  rw [this]; rfl
theorem pre_eq (hl : p.length = q.length) (h : p.length ≤ fdiff (p ++ r) (q ++ r')) : p = q := by
  apply List.ext_getElem?
  intro k
  by_cases g : k < p.length
  · have := fdiff_lt (p ++ r) (q ++ r') k (by omega)
    rw [List.getElem?_append_left g, List.getElem?_append_left (by omega)] at this
    exact this
  · rw [List.getElem?_eq_none (by omega), List.getElem?_eq_none (by omega)]
theorem nI_m2 {k : Nat} (h : k < 2 ^ 31) : ¬ nI k = -2 := by
  intro q
  have := congrArg Int32.toInt q
  rw [nI_toInt h] at this
  have e : (-2 : Int32).toInt = -2 := rfl
  rw [e] at this; omega
theorem part_pos (h : partOk p) : 0 < p.length := by
  rcases h with ⟨w, _, rfl⟩ | ⟨nm, _, rfl⟩
  · cases w <;> simp [contL]
  · simp [listL]
theorem part_free (hp : partOk p) (hq : partOk q) (hne : p ≠ q) : fdiff (p ++ r) (q ++ r') < p.length := by
  rcases Nat.lt_or_ge (fdiff (p ++ r) (q ++ r')) p.length with h | h
  · exact h
  exfalso
  have hp0 := part_pos hp
  have hq0 := part_pos hq
  have at0 : p[0]? = q[0]? := by
    have := fdiff_lt (p ++ r) (q ++ r') 0 (by omega)
    rw [List.getElem?_append_left hp0, List.getElem?_append_left hq0] at this
    exact this
  refine hne (pre_eq ?_ h)
  rcases hp with ⟨w, hw, rfl⟩ | ⟨nm, hn, rfl⟩ <;> rcases hq with ⟨w', hw', rfl⟩ | ⟨nm', hn', rfl⟩
  · cases w with
    | none => cases w' with
      | none => rfl
      | some l' =>
        have := hw' l' rfl
        exact absurd (Option.some.inj at0).symm (nI_m1 (by omega))
    | some l =>
      have := hw l rfl
      cases w' with
      | none => exact absurd (Option.some.inj at0) (nI_m1 (by omega))
      | some l' =>
        have := hw' l' rfl
        have e := (nI_eq (by omega) (by omega)).mp (Option.some.inj at0)
        simp [contL, e]
  · cases w with
    | none => exact absurd (Option.some.inj at0) (by decide)
    | some l =>
      have := hw l rfl
      exact absurd (Option.some.inj at0) (nI_m2 (by omega))
  · cases w' with
    | none => exact absurd (Option.some.inj at0) (by decide)
    | some l' =>
      have := hw' l' rfl
      exact absurd (Option.some.inj at0).symm (nI_m2 (by omega))
  · have at1 := fdiff_lt (listL nm ++ r) (listL nm' ++ r') 1 (by simp [listL] at h ⊢; omega)
    have e := (nI_eq (by omega) (by omega)).mp (Option.some.inj at1)
    simp [listL, e]
/-- the first part that is another -/
theorem parts_dif : ∀ (ps qs : List (List Int32)) (i : Nat), ps.length = qs.length → (∀ p ∈ ps, partOk p) → (∀ p ∈ qs, partOk p) → ps ≠ qs → ∃ J, J < ps.length ∧ cdif i ps qs = nI (10 + (i + J)) ∧ (ps.take J).flatten.length ≤ fdiff ps.flatten qs.flatten ∧ fdiff ps.flatten qs.flatten < (ps.take (J + 1)).flatten.length
  | [], [], _, _, _, _, h => absurd rfl h
  | [], _ :: _, _, h, _, _, _ => by simp at h
  | _ :: _, [], _, h, _, _, _ => by simp at h
  | p :: ps, q :: qs, i, hl, h1, h2, hne => by
    have hp := h1 p (by simp)
    have hq := h2 q (by simp)
    by_cases e : p = q
    · subst e
      obtain ⟨J, a1, a2, a3, a4⟩ := parts_dif ps qs (i + 1) (by simpa using hl) (fun x hx => h1 x (List.mem_cons_of_mem _ hx)) (fun x hx => h2 x (List.mem_cons_of_mem _ hx)) (fun g => hne (by rw [g]))
      refine ⟨J + 1, by simpa using a1, ?_, ?_, ?_⟩
      · show (if p = p then _ else _) = _
        rw [if_pos rfl, a2, show 10 + (i + 1 + J) = 10 + (i + (J + 1)) by omega]
      · rw [List.flatten_cons, List.flatten_cons, fdiff_app]; simp; simpa using a3
      · rw [List.flatten_cons, List.flatten_cons, fdiff_app]; simp; simpa using a4
    · refine ⟨0, by simp, ?_, by simp, ?_⟩
      · show (if p = q then _ else _) = _
        rw [if_neg e]; rfl
      · rw [List.flatten_cons, List.flatten_cons]
        have := part_free (r := ps.flatten) (r' := qs.flatten) hp hq e
        simpa using this
theorem headL_len (ins outs : List Nat) (st : List (Int32 × Int32)) : (headL ins outs st).length = 3 + 2 * st.length := by
  have : ∀ l : List (Int32 × Int32), (l.flatMap (fun p => [p.1, p.2])).length = 2 * l.length := by
    intro l; induction l with
    | nil => rfl
    | cons x l ih => simp [ih]; omega
  simp [headL, this]; omega
theorem headL_last (ins outs : List Nat) (st : List (Int32 × Int32)) : (headL ins outs st)[2 + 2 * st.length]? = some (nI ins.length) := by
  have : ∀ l : List (Int32 × Int32), (l.flatMap (fun p => [p.1, p.2])).length = 2 * l.length := by
    intro l; induction l with
    | nil => rfl
    | cons x l ih => simp [ih]; omega
  unfold headL
  rw [show 2 + 2 * st.length = (2 * st.length + 1) + 1 by omega, List.getElem?_cons_succ, List.getElem?_cons_succ, List.getElem?_append_right (by rw [this]; exact Nat.le_refl _), this, Nat.sub_self]
  rfl
theorem head_eq {k u : KeyT} (hk : keyOk k) (hu : keyOk u) (h : k.1.length ≤ fdiff (flatK k) (flatK u)) : k.1 = u.1 ∧ k.2.length = u.2.length := by
  obtain ⟨⟨ins, outs, st, e1, e2, e3, e4, e5⟩, -⟩ := hk
  obtain ⟨⟨ins', outs', st', f1, f2, f3, f4, f5⟩, -⟩ := hu
  have l1 := headL_len ins outs st
  have l2 := headL_len ins' outs' st'
  rw [← e1] at l1
  rw [← f1] at l2
  have at1 := fdiff_lt (flatK k) (flatK u) 1 (by omega)
  unfold flatK at at1 h
  rw [List.getElem?_append_left (by omega), List.getElem?_append_left (by omega), e1, f1] at at1
  have e : st.length = st'.length := (nI_eq (by omega) (by omega)).mp (Option.some.inj at1)
  have hh : k.1 = u.1 := pre_eq (by omega) h
  refine ⟨hh, ?_⟩
  have a := headL_last ins outs st
  have b := headL_last ins' outs' st'
  rw [← e1, hh, e] at a
  rw [← f1, a] at b
  have := (nI_eq (by omega) (by omega)).mp (Option.some.inj b)
  omega
/-- what a comparison of the rows tells is what the parts tell -/
theorem chg_same {k u : KeyT} (hk : keyOk k) (hu : keyOk u) (h : flatK k = flatK u) : k = u := by
  obtain ⟨e1, e2⟩ := head_eq hk hu (by rw [← h, fdiff_self]; unfold flatK; simp)
  by_cases g : k.2 = u.2
  · exact Prod.ext e1 g
  · exfalso
    obtain ⟨J, a1, a2, a3, a4⟩ := parts_dif k.2 u.2 0 e2 hk.2 hu.2 g
    unfold flatK at h
    rw [e1] at h
    have h := List.append_cancel_left h
    rw [← h, fdiff_self] at a4
    have e : k.2.flatten = (k.2.take (J + 1)).flatten ++ (k.2.drop (J + 1)).flatten := by rw [← List.flatten_append, List.take_append_drop]
    rw [e, List.length_append] at a4
    omega
theorem cdif_same : ∀ (ps : List (List Int32)) (i : Nat), cdif i ps ps = 0
  | [], _ => rfl
  | p :: ps, i => by
    show (if p = p then _ else _) = _
    rw [if_pos rfl]; exact cdif_same ps (i + 1)
theorem chg_0 {k u : KeyT} (hk : keyOk k) (hu : keyOk u) (h : flatK k = flatK u) : chgW k (some u) = 0 := by
  rw [chg_same hk hu h]
  show (if u.1 = u.1 then _ else _) = _
  rw [if_pos rfl]; exact cdif_same _ _
theorem chg_1 {k u : KeyT} (h : flatK k ≠ flatK u) (h1 : fdiff (flatK k) (flatK u) < k.1.length) : chgW k (some u) = 1 := by
  show (if k.1 = u.1 then _ else _) = _
  rw [if_neg]
  intro e
  unfold flatK at h1
  rw [e, fdiff_app] at h1
  omega
theorem chg_j {k u : KeyT} (hk : keyOk k) (hu : keyOk u) (h : flatK k ≠ flatK u) (h1 : k.1.length ≤ fdiff (flatK k) (flatK u)) (hj : j ≤ k.2.length - 1) (hj1 : ∀ i, i < j → endN k.1 k.2 i ≤ fdiff (flatK k) (flatK u)) (hj2 : j < k.2.length - 1 → fdiff (flatK k) (flatK u) < endN k.1 k.2 j) : chgW k (some u) = nI (10 + j) := by
  obtain ⟨e1, e2⟩ := head_eq hk hu h1
  show (if k.1 = u.1 then _ else _) = _
  rw [if_pos e1]
  have g : k.2 ≠ u.2 := fun g => h (by unfold flatK; rw [e1, g])
  obtain ⟨J, a1, a2, a3, a4⟩ := parts_dif k.2 u.2 0 e2 hk.2 hu.2 g
  have ed : fdiff (flatK k) (flatK u) = k.1.length + fdiff k.2.flatten u.2.flatten := by
    unfold flatK; rw [← e1, fdiff_app]
  have en : ∀ i, endN k.1 k.2 i = k.1.length + (k.2.take (i + 1)).flatten.length := fun i => by unfold endN; rw [List.length_append]
  have mono : ∀ n m, n ≤ m → (k.2.take n).flatten.length ≤ (k.2.take m).flatten.length := by
    intro n m hnm
    have : k.2.take m = k.2.take n ++ (k.2.take m).drop n := by
      conv => lhs; rw [← List.take_append_drop n (k.2.take m)]
      rw [List.take_take, Nat.min_eq_left hnm]
    rw [this, List.flatten_append, List.length_append]; omega
  have hJ : J = j := by
    rcases Nat.lt_trichotomy J j with w | w | w
    · have := hj1 J w
      rw [en, ed] at this; omega
    · exact w
    · have := hj2 (by omega)
      rw [en, ed] at this
      have := mono (j + 1) J (by omega)
      omega
  rw [a2, hJ, Nat.zero_add]
/-- the files of a directory are 26 at most -/
theorem flatMap_len {f : Nat → List Nat} (h : ∀ n, (f n).length ≤ 1) : ∀ l : List Nat, (l.flatMap f).length ≤ l.length
  | [] => by simp
  | x :: l => by
    have := h x
    have := flatMap_len h l
    rw [List.flatMap_cons, List.length_append, List.length_cons]; omega
theorem filter_le1 {P : Nat → Bool} : ∀ n, (∀ i j, i < n → j < n → P i = true → P j = true → i = j) → ((List.range n).filter P).length ≤ 1
  | 0, _ => by simp
  | n + 1, h => by
    rw [List.range_succ, List.filter_append, List.length_append]
    have ih := filter_le1 (P := P) n (fun i j hi hj => h i j (by omega) (by omega))
    by_cases g : P n = true
    · have e : (List.range n).filter P = [] := by
        rw [List.filter_eq_nil_iff]
        intro i hi q
        rw [List.mem_range] at hi
        have := h i n (by omega) (by omega) q g
        omega
      rw [e]; simp [g]
    · simp [g]; exact ih
theorem mem_filesT {k p : Nat} (hT : TInv t) : k ∈ filesT t p ↔ k < tN t ∧ tPar t k = some p ∧ tDir t k = false := by
  unfold filesT
  simp only [List.mem_flatMap, List.mem_range, List.mem_filter, Bool.and_eq_true, decide_eq_true_eq, Bool.not_eq_true']
  constructor
  · rintro ⟨n, hn, hk, h1, h2, h3⟩; exact ⟨hk, h1, h3⟩
  · rintro ⟨hk, h1, h3⟩
    refine ⟨tNam t k, ?_, hk, h1, rfl, h3⟩
    by_cases h0 : k = 0
    · rw [h0, hT.2.2.1.2.1]; omega
    · have := (hT.2.2.2.1 k (by omega) hk).2.2; omega
theorem filesT_len (hT : TInv t) {p : Nat} : (filesT t p).length ≤ 26 := by
  have e : (List.range 27).flatMap (fun n => (List.range (tN t)).filter fun k => decide (tPar t k = some p) && (decide (tNam t k = n) && !tDir t k)) = ((List.range (tN t)).filter fun k => decide (tPar t k = some p) && (decide (tNam t k = 0) && !tDir t k)) ++ (List.range' 1 26).flatMap (fun n => (List.range (tN t)).filter fun k => decide (tPar t k = some p) && (decide (tNam t k = n) && !tDir t k)) := by
    rw [show List.range 27 = 0 :: List.range' 1 26 by decide, List.flatMap_cons]
  unfold filesT
  rw [e, List.length_append]
  have h0 : ((List.range (tN t)).filter fun k => decide (tPar t k = some p) && (decide (tNam t k = 0) && !tDir t k)) = [] := by
    rw [List.filter_eq_nil_iff]
    intro k hk g
    rw [List.mem_range] at hk
    simp only [Bool.and_eq_true, decide_eq_true_eq] at g
    by_cases k0 : k = 0
    · rw [k0, hT.2.2.1.1] at g; exact absurd g.1 (by simp)
    · have := (hT.2.2.2.1 k (by omega) hk).2.1; omega
  rw [h0]
  have := flatMap_len (f := fun n => (List.range (tN t)).filter fun k => decide (tPar t k = some p) && (decide (tNam t k = n) && !tDir t k)) (fun n => filter_le1 _ (fun i j hi hj h1 h2 => by
    simp only [Bool.and_eq_true, decide_eq_true_eq] at h1 h2
    exact hT.2.2.2.2 i j hi hj (h1.1.trans h2.1.symm) (h1.2.1.trans h2.2.1.symm))) (List.range' 1 26)
  simp at this ⊢; omega
theorem keyW_ok (hT : TInv t) (hA : AInv t a) (hi : i < aN a) (hc : ∀ p, p < tN t → ∀ l, cv p = some l → l.length ≤ 64) : keyOk (keyW t cv a i) := by
  obtain ⟨b1, b2, b3, b4, b5, b6, b7, b8⟩ := hA.2.1 i hi
  refine ⟨⟨aIns a i, aOut a i, stI (aSt a i), rfl, by simp [keyW], b1, b4, by simp [stI]; exact b7⟩, ?_⟩
  intro l hl
  simp only [keyW, List.mem_map] at hl
  obtain ⟨p, hp, rfl⟩ := hl
  unfold partW
  split
  · right
    refine ⟨_, ?_, rfl⟩
    unfold namesW
    rw [List.length_map]
    exact Nat.le_trans (List.length_filter_le _ _) (filesT_len hT)
  · left
    exact ⟨_, hc p (b2 p hp), rfl⟩
end DE
