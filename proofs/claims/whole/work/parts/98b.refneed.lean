/-! THE REFERENCE: what is needed; what is next -/
/-- needed, and whether done: what is still open -/
def RNd (ar : ArT) (n : Nat) (op : Nat → Bool) : Prop := ∃ N D : Nat → Bool, ∀ i, i < n → ar 72 i = b2I (N i) ∧ ar 73 i = b2I (D i) ∧ op i = (N i && !D i)
section RNE
variable {σ : zSt} {o : Nat} {sc sc' : ScT} {ar ar' ar2 : ArT} {P : Option Value → zSt → Prop} {x y ev v : Int32} {p s i j q m n a b k f g cap no d e t : Nat} {w : WT} {T : TreT} {A : ActT} {l key : List Int32} {S : List Nat} {op op' : Nat → Bool}
theorem RNd_ag {S : List Nat} (h : RNd ar n op) (hA : Ag sc ar sc' ar' S) (h1 : 52 ∉ S) (h2 : 53 ∉ S) : RNd ar' n op := by
  obtain ⟨N, D, h⟩ := h
  exact ⟨N, D, fun i hi => by
    obtain ⟨a1, a2, a3⟩ := h i hi
    exact ⟨by rw [hA.2 72 _ h1]; exact a1, by rw [hA.2 73 _ h2]; exact a2, a3⟩⟩
/-- one more is done -/
theorem RNd_done (h : RNd ar n op) : RNd (upA ar 73 a 1) n (fup op a false) := by
  obtain ⟨N, D, h⟩ := h
  refine ⟨N, fup D a true, fun i hi => ?_⟩
  obtain ⟨a1, a2, a3⟩ := h i hi
  refine ⟨by rw [upA_ne (fun r => absurd r.1 (by decide))]; exact a1, ?_, ?_⟩
  · by_cases c : i = a
    · rw [c, upA_same, fup_same]; rfl
    · rw [upA_ne (fun r => c r.2), fup_ne c]; exact a2
  · by_cases c : i = a
    · rw [c, fup_same, fup_same]; simp
    · rw [fup_ne c, fup_ne c]; exact a3
def canW (T : TreT) (A : ActT) (op : Nat → Bool) (a b : Nat) : Bool := op a && (List.range b).all fun j => !(op j && usesT T A a j)
theorem canW_succ : canW T A op a (b + 1) = (canW T A op a b && !(op b && usesT T A a b)) := by
  unfold canW
  rw [List.range_succ, List.all_append]
  simp [Bool.and_assoc]
theorem canW_mono (h : canW T A op a b = false) (hb : b ≤ n) : canW T A op a n = false := by
  induction hb with
  | refl => exact h
  | step _ ih => rw [canW_succ, ih]; rfl
theorem r_next (hR : RShape σ o) (hT : RTree sc ar T) (hA : RAct sc ar A) (hTI : TInv T) (hB : ABnd T A) (hN : RNd ar (aN A) op) (hP : P (some (.int (optI (nextW T A op)))) (rOv σ o sc ar)) : wpM 171 [.ref o] (rOv σ o sc ar) P := by
  obtain ⟨N, D, hN⟩ := hN
  have h40 := hB.1
  refine (b171 hR).mpr ?_
  have outer : ∀ e a u2 u3, a + e = aN A → (∀ i, i < a → canW T A op i (aN A) = false) → wp 171 2 [some (.ref o), some (.int (nI a)), u2, u3] [] (rOv σ o sc ar) P := by
    intro e
    induction e with
    | zero =>
      intro a u2 u3 ha hno
      refine (b171_2 hR).mpr (ifp (by rw [hA.1]; exact nI_le (by omega) (by omega)) ((b171_99 hR).mpr ?_))
      have : nextW T A op = none := by
        unfold nextW
        rw [List.find?_eq_none]
        intro i hi
        have := hno i (by have := List.mem_range.mp hi; omega)
        unfold canW at this
        rw [this]; decide
      rw [this] at hP; exact hP
    | succ e ih =>
      intro a u2 u3 ha hno
      have hal : a < aN A := by omega
      obtain ⟨n1, n2, n3⟩ := hN a hal
      have next0 : canW T A op a (aN A) = false → ∀ v2 v3, wp 171 93 [some (.ref o), some (.int (nI a)), some (.int v2), some (.int v3)] [] (rOv σ o sc ar) P := by
        intro hc v2 v3
        refine (b171_93 hR).mpr ?_
        rw [nI_1]
        refine ih (a + 1) _ _ (by omega) (fun i hi => ?_)
        by_cases c : i = a
        · rw [c]; exact hc
        · exact hno i (by omega)
      have inner : ∀ d b, b + d = aN A → wp 171 36 [some (.ref o), some (.int (nI a)), some (.int (b2I (canW T A op a b))), some (.int (nI b))] [] (rOv σ o sc ar) P := by
        intro d
        induction d with
        | zero =>
          intro b hb
          have hb : b = aN A := by omega
          subst hb
          refine (b171_36 hR).mpr (ifp (by rw [hA.1]; exact nI_le (by omega) (by omega)) ((b171_87 hR).mpr ?_))
          cases hc : canW T A op a (aN A) with
          | false => exact ifp rfl (next0 hc _ _)
          | true =>
            refine ifn (by decide) ((b171_91 hR).mpr ?_)
            have : nextW T A op = some a := by
              unfold nextW
              rw [List.find?_range_eq_some]
              refine ⟨hc, List.mem_range.mpr hal, fun i hi => ?_⟩
              have := hno i hi
              unfold canW at this
              rw [this]; rfl
            rw [this] at hP; exact hP
        | succ d ihd =>
          intro b hb
          have hbl : b < aN A := by omega
          obtain ⟨m1, m2, m3⟩ := hN b hbl
          refine (b171_36 hR).mpr (ifn (by rw [hA.1]; exact nI_ge (by omega) (by omega)) ((b171_44 hR).mpr ?_))
          cases hc : canW T A op a b with
          | false => exact ifp rfl ((b171_87 hR).mpr (ifp rfl (next0 (canW_mono hc (by omega)) _ _)))
          | true =>
            have yes : canW T A op a (b + 1) = true → wp 171 75 [some (.ref o), some (.int (nI a)), some (.int (b2I true)), some (.int (nI b))] [] (rOv σ o sc ar) P := by
              intro h1
              refine (b171_75 hR).mpr ((b171_80 hR).mpr ?_)
              have := ihd (b + 1) (by omega)
              rw [h1] at this
              rw [nI_1]; exact this
            refine ifn (by decide) ((b171_48 hR).mpr ⟨nI_in (N := 40) (by omega) (by omega), ?_⟩)
            rw [nI_clamp (by omega), m1]
            cases hNb : N b with
            | false =>
              refine ifp rfl (yes ?_)
              rw [canW_succ, hc, m3, hNb]; rfl
            | true =>
              refine ifn (by decide) ((b171_57 hR).mpr ⟨nI_in (N := 40) (by omega) (by omega), ?_⟩)
              rw [nI_clamp (by omega), m2]
              cases hDb : D b with
              | true =>
                refine ifp (by decide) (yes ?_)
                rw [canW_succ, hc, m3, hNb, hDb]; rfl
              | false =>
                refine ifn (fun r => r rfl) ((b171_66 hR).mpr (r_isUsed hR hT hA hTI hB hal hbl ((b171_72 hR).mpr ?_)))
                cases hU : usesT T A a b with
                | false =>
                  refine ifn (fun r => r rfl) (yes ?_)
                  rw [canW_succ, hc, hU, Bool.and_false]; rfl
                | true =>
                  refine ifp (by decide) ((b171_79 hR).mpr ((b171_80 hR).mpr ?_))
                  have := ihd (b + 1) (by omega)
                  rw [canW_succ, hc, m3, hNb, hDb, hU] at this
                  rw [nI_1]; exact this
      have start : ∀ s0, s0 = b2I (op a) → wp 171 33 [some (.ref o), some (.int (nI a)), u2, u3] [.int s0] (rOv σ o sc ar) P := by
        intro s0 h0
        subst h0
        refine (b171_33 hR).mpr ?_
        have := inner _ 0 (Nat.zero_add _)
        have e0 : canW T A op a 0 = op a := by unfold canW; simp
        rw [e0] at this
        exact this
      refine (b171_2 hR).mpr (ifn (by rw [hA.1]; exact nI_ge (by omega) (by omega)) ((b171_10 hR).mpr ⟨nI_in (N := 40) (by omega) (by omega), ?_⟩))
      rw [nI_clamp (by omega), n1]
      cases hNa : N a with
      | false => exact ifp rfl ((b171_32 hR).mpr (start 0 (by rw [n3, hNa]; rfl)))
      | true =>
        refine ifn (by decide) ((b171_19 hR).mpr ⟨nI_in (N := 40) (by omega) (by omega), ?_⟩)
        rw [nI_clamp (by omega), n2]
        cases hDa : D a with
        | true => exact ifp (by decide) ((b171_32 hR).mpr (start 0 (by rw [n3, hNa, hDa]; rfl)))
        | false => exact ifn (fun r => r rfl) ((b171_28 hR).mpr (start 1 (by rw [n3, hNa, hDa]; rfl)))
  exact outer _ 0 none none (Nat.zero_add _) (fun i hi => absurd hi (Nat.not_lt_zero i))
/-- what is needed by those paths that have been looked at -/
def ndP (T : TreT) (A : ActT) (p k i : Nat) : Prop := ∃ q m, q < k ∧ tMk T q = some m ∧ (q = p ∨ tPar T q = some p) ∧ (m = i ∨ rch T A m i)
theorem ndP_all : ndP T A p (tN T) i ↔ needP T A p i := by
  constructor
  · rintro ⟨q, m, h1, h2, h3, h4⟩
    rcases h4 with h4 | h4
    · exact Or.inl ⟨q, h1, h4 ▸ h2, h3⟩
    · exact Or.inr ⟨m, ⟨q, h1, h2, h3⟩, h4⟩
  · rintro (⟨q, h1, h2, h3⟩ | ⟨m, ⟨q, h1, h2, h3⟩, h4⟩)
    · exact ⟨q, i, h1, h2, h3, Or.inl rfl⟩
    · exact ⟨q, m, h1, h2, h3, Or.inr h4⟩
theorem ndP_no (h : ∀ m, tMk T k = some m → ¬ (k = p ∨ tPar T k = some p)) : ndP T A p (k + 1) i ↔ ndP T A p k i := by
  constructor
  · rintro ⟨q, m, h1, h2, h3, h4⟩
    by_cases c : q = k
    · subst c; exact absurd h3 (h m h2)
    · exact ⟨q, m, by omega, h2, h3, h4⟩
  · rintro ⟨q, m, h1, h2, h3, h4⟩
    exact ⟨q, m, by omega, h2, h3, h4⟩
theorem ndP_yes (h : tMk T k = some m) (h2 : k = p ∨ tPar T k = some p) : ndP T A p (k + 1) i ↔ (ndP T A p k i ∨ m = i ∨ rch T A m i) := by
  constructor
  · rintro ⟨q, m', h1, h2', h3, h4⟩
    by_cases c : q = k
    · subst c
      rw [h] at h2'
      cases h2'
      exact Or.inr h4
    · exact Or.inl ⟨q, m', by omega, h2', h3, h4⟩
  · rintro (⟨q, m', h1, h2', h3, h4⟩ | h4)
    · exact ⟨q, m', by omega, h2', h3, h4⟩
    · exact ⟨k, m, by omega, h, h2, h4⟩
set_option maxHeartbeats 1000000 in
theorem r_need (hR : RShape σ o) (hT : RTree sc ar T) (hA : RAct sc ar A) (hTI : TInv T) (hAI : AInv T A) {po : Option Nat} (hp : ∀ p, po = some p → p < tN T) (hP : ∀ ar', RNd ar' (aN A) (needW T A po) → Ag sc ar sc ar' [41, 52, 53] → P none (rOv σ o sc ar')) : wpM 170 [.ref o, .int (optI po)] (rOv σ o sc ar) P := by
  have h40 := hAI.1
  have h60 := hTI.2.1
  have hB := hAI.bnd hTI
  have hmk : ∀ q, q < tN T → ∀ m, tMk T q = some m → m < aN A := fun q hq m hm => (hAI.2.2.1 q m hq hm).1
  refine (b170 hR).mpr ?_
  -- all or none
  have first : (∀ ar' u3 u4, (∀ i, i < aN A → ar' 72 i = b2I (decide (po = none)) ∧ ar' 73 i = 0) → Ag sc ar sc ar' [41, 52, 53] → wp 170 41 [some (.ref o), some (.int (optI po)), some (.int 1), u3, u4] [] (rOv σ o sc ar') P) → ∀ e k ar' u3 u4, k + e = aN A → (∀ i, i < k → ar' 72 i = b2I (decide (po = none)) ∧ ar' 73 i = 0) → Ag sc ar sc ar' [41, 52, 53] → wp 170 2 [some (.ref o), some (.int (optI po)), some (.int (nI k)), u3, u4] [] (rOv σ o sc ar') P := by
    intro hgo e
    induction e with
    | zero =>
      intro k ar' u3 u4 hk hv hg
      refine (b170_2 hR).mpr (ifp (by rw [hA.1]; exact nI_le (by omega) (by omega)) ((b170_39 hR).mpr (hgo _ _ _ (fun i hi => hv i (by omega)) hg)))
    | succ e ih =>
      intro k ar' u3 u4 hk hv hg
      have go : ∀ s0, s0 = b2I (decide (po = none)) → wp 170 25 [some (.ref o), some (.int (optI po)), some (.int (nI k)), u3, u4] [.int s0, .int (nI k), .ref (rad o 72)] (rOv σ o sc ar') P := by
        intro s0 h0
        subst h0
        refine (b170_25 hR).mpr ?_
        rw [nI_clamp (by omega), nI_1]
        refine ⟨⟨nI_in (N := 40) (by omega) (by omega), b2I01⟩, ⟨nI_in (N := 40) (by omega) (by omega), Or.inl rfl⟩, ih (k + 1) _ _ _ (by omega) (fun i hi => ?_) (hg.tr ((Ag_ar (by decide)).tr (Ag_ar (by decide))))⟩
        by_cases c : i = k
        · rw [c]
          exact ⟨by rw [upA_ne (fun r => absurd r.1 (by decide)), upA_same], upA_same⟩
        · rw [upA_ne (fun r => c r.2), upA_ne (fun r => c r.2), upA_ne (fun r => c r.2), upA_ne (fun r => c r.2)]
          exact hv i (by omega)
      refine (b170_2 hR).mpr (ifn (by rw [hA.1]; exact nI_ge (by omega) (by omega)) ((b170_10 hR).mpr ?_))
      cases po with
      | none => exact ifn (fun r => r rfl) ((b170_20 hR).mpr (go 1 rfl))
      | some p => exact ifp (nI_m1 (by have := hp p rfl; omega)) ((b170_24 hR).mpr (go 0 rfl))
  refine first (fun ar1 u3 u4 hv hg => ?_) _ 0 ar none none (Nat.zero_add _) (fun i hi => absurd hi (Nat.not_lt_zero i)) Ag.rf
  clear first
  cases po with
  | none =>
    have done : wp 170 154 [some (.ref o), some (.int (optI none)), some (.int 1), u3, u4] [] (rOv σ o sc ar1) P := by
      refine (b170_154 hR).mpr (hP _ ⟨fun _ => true, fun _ => false, fun i hi => ⟨(hv i hi).1, (hv i hi).2, ?_⟩⟩ hg)
      unfold needW
      rw [decide_eq_true hi]; rfl
    refine (b170_41 hR).mpr ?_
    by_cases c : sc 0 ≤ 1
    · exact ifp c done
    · exact ifn c ((b170_49 hR).mpr (ifp rfl done))
  | some p =>
    have hpt := hp p rfl
    have loop : ∀ e k ar' u3 u4, k + e = tN T → (∀ i, i < aN A → ar' 72 i = b2I (pB (ndP T A p k i)) ∧ ar' 73 i = 0) → Ag sc ar sc ar' [41, 52, 53] → wp 170 41 [some (.ref o), some (.int (optI (some p))), some (.int (nI k)), u3, u4] [] (rOv σ o sc ar') P := by
      intro e
      induction e with
      | zero =>
        intro k ar' u3 u4 hk hv hg
        have hk : k = tN T := by omega
        subst hk
        refine (b170_41 hR).mpr (ifp (by rw [hT.1]; exact nI_le (by omega) (by omega)) ((b170_154 hR).mpr (hP _ ⟨fun i => pB (needP T A p i), fun _ => false, fun i hi => ⟨?_, (hv i hi).2, ?_⟩⟩ hg)))
        · rw [(hv i hi).1]
          congr 1
          unfold pB
          have e : ndP T A p (tN T) i = needP T A p i := propext ndP_all
          rw [e]
        · unfold needW
          rw [decide_eq_true hi]; simp
      | succ e ih =>
        intro k ar' u3 u4 hk hv hg
        have hkl : k < tN T := by omega
        have hT' := RTree_ag hT hg (by decide)
        have hA' := RAct_ag hA hg (by decide)
        obtain ⟨t1, t2, t3, t4⟩ := hT'.2 k hkl
        have skip : (∀ m, tMk T k = some m → ¬ (k = p ∨ tPar T k = some p)) → ∀ v3 v4, wp 170 148 [some (.ref o), some (.int (optI (some p))), some (.int (nI k)), v3, v4] [] (rOv σ o sc ar') P := by
          intro hno v3 v4
          refine (b170_148 hR).mpr ?_
          rw [nI_1]
          refine ih (k + 1) _ _ _ (by omega) (fun i hi => ⟨?_, (hv i hi).2⟩) hg
          rw [(hv i hi).1]
          have e : ndP T A p (k + 1) i = ndP T A p k i := propext (ndP_no hno)
          rw [e]
        refine (b170_41 hR).mpr (ifn (by rw [hT.1]; exact nI_ge (by omega) (by omega)) ((b170_49 hR).mpr (ifn (nI_m1 (by omega)) ((b170_54 hR).mpr ⟨nI_in (N := 60) (by omega) (by omega), ?_⟩))))
        rw [nI_clamp (by omega), t4]
        cases hm : tMk T k with
        | none => exact ifp rfl (skip (fun m hm' => by rw [hm] at hm'; cases hm') _ _)
        | some m =>
          have hma := hmk k hkl m hm
          refine ifn (nI_m1 (by omega)) ((b170_64 hR).mpr ?_)
          have yes : (k = p ∨ tPar T k = some p) → wp 170 79 [some (.ref o), some (.int (optI (some p))), some (.int (nI k)), u3, u4] [] (rOv σ o sc ar') P := by
            intro hy
            refine (b170_79 hR).mpr ⟨nI_in (N := 60) (by omega) (by omega), ?_⟩
            rw [nI_clamp (n := k) (by omega), t4, hm]
            refine r_reach hR hT' hA' hTI hB hma (fun ar2 r2 g2 => (b170_91 hR).mpr ?_)
            show (_ ∧ _) ∧ wp 170 101 [some (.ref o), some (.int (optI (some p))), some (.int (nI k)), some (.int (nI m)), some (.int 0)] [] (rOv σ o sc (upA ar2 72 (nI m).toNatClampNeg 1)) P
            rw [nI_clamp (by omega)]
            refine ⟨⟨nI_in (N := 40) (by omega) (by omega), Or.inr rfl⟩, ?_⟩
            have inner : ∀ d b ar3, b + d = aN A → (∀ i, i < aN A → ar3 72 i = b2I (pB (ndP T A p k i) || (decide (m = i) || (decide (i < b) && pB (rch T A m i)))) ∧ ar3 73 i = 0) → RgR ar3 (aN A) (fun b => pB (rch T A m b)) → Ag sc ar sc ar3 [41, 52, 53] → wp 170 101 [some (.ref o), some (.int (optI (some p))), some (.int (nI k)), some (.int (nI m)), some (.int (nI b))] [] (rOv σ o sc ar3) P := by
              intro d
              induction d with
              | zero =>
                intro b ar3 hb hv3 hr3 hg3
                refine (b170_101 hR).mpr (ifp (by rw [hA.1]; exact nI_le (by omega) (by omega)) ((b170_148 hR).mpr ?_))
                rw [nI_1]
                refine ih (k + 1) _ _ _ (by omega) (fun i hi => ⟨?_, (hv3 i hi).2⟩) hg3
                rw [(hv3 i hi).1]
                congr 1
                rw [Bool.eq_iff_iff, pB_iff, ndP_yes hm hy, Bool.or_eq_true, Bool.or_eq_true, Bool.and_eq_true, pB_iff, pB_iff, decide_eq_true_iff, decide_eq_true_iff]
                constructor
                · rintro (h | h | h)
                  · exact Or.inl h
                  · exact Or.inr (Or.inl h)
                  · exact Or.inr (Or.inr h.2)
                · rintro (h | h | h)
                  · exact Or.inl h
                  · exact Or.inr (Or.inl h)
                  · exact Or.inr (Or.inr ⟨by omega, h⟩)
              | succ d ihd =>
                intro b ar3 hb hv3 hr3 hg3
                have hbl : b < aN A := by omega
                refine (b170_101 hR).mpr (ifn (by rw [hA.1]; exact nI_ge (by omega) (by omega)) ((b170_110 hR).mpr ⟨nI_in (N := 40) (by omega) (by omega), ?_⟩))
                rw [nI_clamp (by omega), (hv3 b hbl).1]
                have put : ∀ s0, s0 = b2I (pB (ndP T A p k b) || (decide (m = b) || pB (rch T A m b))) → wp 170 141 [some (.ref o), some (.int (optI (some p))), some (.int (nI k)), some (.int (nI m)), some (.int (nI b))] [.int s0, .int (nI b), .ref (rad o 72)] (rOv σ o sc ar3) P := by
                  intro s0 h0
                  subst h0
                  refine (b170_141 hR).mpr ?_
                  rw [nI_clamp (by omega), nI_1]
                  refine ⟨⟨nI_in (N := 40) (by omega) (by omega), b2I01⟩, ihd (b + 1) _ (by omega) (fun i hi => ⟨?_, ?_⟩) (fun i hi => ?_) (hg3.tr (Ag_ar (by decide)))⟩
                  · by_cases c : i = b
                    · rw [c, upA_same, decide_eq_true (show b < b + 1 by omega), Bool.true_and]
                    · rw [upA_ne (fun r => c r.2), (hv3 i hi).1, sdec (show i < b ↔ i < b + 1 by omega)]
                  · rw [upA_ne (fun r => absurd r.1 (by decide))]; exact (hv3 i hi).2
                  · rw [upA_ne (fun r => absurd r.1 (by decide))]; exact hr3 i hi
                rw [decide_eq_false (show ¬ b < b by omega), Bool.false_and, Bool.or_false]
                cases h1 : (pB (ndP T A p k b) || decide (m = b)) with
                | true =>
                  refine ifp (by decide) ((b170_136 hR).mpr (put 1 ?_))
                  rw [← Bool.or_assoc, h1]; rfl
                | false =>
                  refine ifn (fun r => r rfl) ((b170_126 hR).mpr ⟨nI_in (N := 40) (by omega) (by omega), ?_⟩)
                  rw [nI_clamp (by omega), hr3 b hbl]
                  show if b2I (pB (rch T A m b)) = 0 then _ else _
                  cases h2 : pB (rch T A m b) with
                  | false =>
                    refine ifp rfl ((b170_140 hR).mpr (put 0 ?_))
                    rw [← Bool.or_assoc, h1, h2]; rfl
                  | true =>
                    refine ifn (by decide) ((b170_136 hR).mpr (put 1 ?_))
                    rw [← Bool.or_assoc, h1, h2]; rfl
            refine inner _ 0 _ (Nat.zero_add _) (fun i hi => ⟨?_, ?_⟩) (fun i hi => ?_) ((hg.tr (g2.mono (by decide))).tr (Ag_ar (by decide)))
            · rw [decide_eq_false (Nat.not_lt_zero i), Bool.false_and, Bool.or_false]
              by_cases c : i = m
              · rw [c, upA_same, decide_eq_true rfl, Bool.or_true]; rfl
              · rw [upA_ne (fun r => c r.2), g2.2 72 _ (by decide), (hv i hi).1, decide_eq_false (fun r => c r.symm), Bool.or_false]
            · rw [upA_ne (fun r => absurd r.1 (by decide)), g2.2 73 _ (by decide)]; exact (hv i hi).2
            · rw [upA_ne (fun r => absurd r.1 (by decide))]; exact r2 i hi
          have epar : nI k = nI p ↔ k = p := nI_eq (by omega) (by omega)
          show if nI k = nI p then _ else _
          by_cases c1 : k = p
          · exact ifp (epar.mpr c1) (yes (Or.inl c1))
          · refine ifn (fun r => c1 (epar.mp r)) ((b170_69 hR).mpr ⟨nI_in (N := 60) (by omega) (by omega), ?_⟩)
            rw [nI_clamp (by omega), t1]
            have e2 : optI (tPar T k) = optI (some p) ↔ tPar T k = some p := optI_eq (par31 hTI hkl) (fun j hj => by cases hj; omega)
            by_cases c2 : tPar T k = some p
            · exact ifn (fun r => r (e2.mpr c2)) (yes (Or.inr c2))
            · exact ifp (fun r => c2 (e2.mp r)) (skip (fun _ _ r => r.elim c1 c2) _ _)
    refine loop (tN T - 1) 1 ar1 u3 u4 (by have := hTI.1; omega) (fun i hi => ⟨?_, (hv i hi).2⟩) hg
    rw [(hv i hi).1]
    congr 1
    rw [decide_eq_false (by simp), eq_comm, pB_false]
    rintro ⟨q, m, h1, h2, _⟩
    have : q = 0 := by omega
    rw [this, hTI.2.2.1.2.2.2] at h2
    cases h2
end RNE
