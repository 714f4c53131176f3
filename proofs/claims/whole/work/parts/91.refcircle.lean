/-! THE REFERENCE: circles; inputs and outputs */ -/
section RK1
variable {σ : zSt} {o : Nat} {sc sc' : ScT} {ar ar' : ArT} {P : Option Value → zSt → Prop} {x y v : Int32} {p s i j q m n a b k : Nat} {w : WT} {T : TreT} {A : ActT}
theorem b2I_or {B : Bool} {Q : Prop} {B' : Bool} (h : B' = true ↔ (B = true ∨ Q)) (hq : ¬ B = true) (h2 : ¬ Q) : B' = false := by
  rw [← Bool.not_eq_true]
  intro r
  rcases h.mp r with g | g
  · exact hq g
  · exact h2 g
theorem r_comesIn (hR : RShape σ o) (hT : RTree sc ar T) (hA : RAct sc ar A) (hTI : TInv T) (hAI : AInv T A) (ha : a < aN A) (hp : p < tN T) (hP : ∀ ar', Ag sc ar sc ar' [41] → P (some (.int (b2I (pB (needP T A p a))))) (rOv σ o sc ar')) : wpM 133 [.ref o, .int (nI a), .int (nI p), .int 0] (rOv σ o sc ar) P := by
  have h60 := hTI.2.1
  have h1n := hTI.1
  have h40 := hAI.1
  have reach : ∀ {ar' : ArT} {b : Nat} {Q : Option Value → zSt → Prop}, Ag sc ar sc ar' [41] → b < aN A → (∀ ar'', RgR ar'' (aN A) (fun x => pB (rch T A b x)) → Ag sc ar sc ar'' [41] → Q none (rOv σ o sc ar'')) → wpM 130 [.ref o, .int (nI b)] (rOv σ o sc ar') Q := fun hg hb hQ => r_reach hR (RTree_ag hT hg (by decide)) (RAct_ag hA hg (by decide)) hTI (hAI.bnd hTI) hb (fun ar'' hr hg' => hQ ar'' hr (hg.tr hg'))
  refine (b133 hR).mpr (ifp rfl ((b133_141 hR).mpr (reach Ag.rf ha (fun ar1 _ hg1 => (b133_146 hR).mpr ?_))))
  have key : ∀ e k ar' B u6 u7, k + e = tN T → 1 ≤ k → Ag sc ar sc ar' [41] → (B = true ↔ ∃ q, q < k ∧ ∃ b, tMk T q = some b ∧ (q = p ∨ tPar T q = some p) ∧ (b = a ∨ rch T A b a)) → wp 133 149 [some (.ref o), some (.int (nI a)), some (.int (nI p)), some (.int 0), some (.int (b2I B)), some (.int (nI k)), u6, u7] [] (rOv σ o sc ar') P := by
    intro e
    induction e with
    | zero =>
      intro k ar' B u6 u7 hk h1 hg hB
      have hk : k = tN T := by omega
      subst hk
      refine (b133_149 hR).mpr (ifp (by rw [hT.1]; exact nI_le (by omega) (by omega)) ((b133_253 hR).mpr ⟨b2I01, ?_⟩))
      have : B = pB (needP T A p a) := by
        rw [Bool.eq_iff_iff, pB_iff, hB]
        constructor
        · rintro ⟨q, h1, b, h2, h3, h4⟩
          rcases h4 with h4 | h4
          · subst h4; exact Or.inl ⟨q, h1, h2, h3⟩
          · exact Or.inr ⟨b, ⟨q, h1, h2, h3⟩, h4⟩
        · rintro (⟨q, h1, h2, h3⟩ | ⟨b, ⟨q, h1, h2, h3⟩, h4⟩)
          · exact ⟨q, h1, a, h2, h3, Or.inl rfl⟩
          · exact ⟨q, h1, b, h2, h3, Or.inr h4⟩
      rw [this]; exact hP ar' hg
    | succ e ih =>
      intro k ar' B u6 u7 hk h1 hg hB
      have hkn : k < tN T := by omega
      obtain ⟨t1, t2, t3, t4⟩ := (RTree_ag hT hg (by decide)).2 k hkn
      have m31 : ∀ b, tMk T k = some b → b < 2 ^ 31 := fun b hb => by have := (hAI.2.2.1 k b hkn hb).1; omega
      refine (b133_149 hR).mpr (ifn (by rw [hT.1]; exact nI_ge hkn (by omega)) ((b133_158 hR).mpr ⟨nI_in (N := 60) (by omega) (by omega), ?_⟩))
      rw [nI_clamp (by omega), t4]
      -- no names
      have no : ∀ u6 u7, ¬ (∃ b, tMk T k = some b ∧ (k = p ∨ tPar T k = some p)) → wp 133 194 [some (.ref o), some (.int (nI a)), some (.int (nI p)), some (.int 0), some (.int (b2I B)), some (.int (nI k)), some (.int u6), u7] [] (rOv σ o sc ar') P := by
        intro u6 u7 hno
        refine (b133_194 hR).mpr ((b133_195 hR).mpr (ifp rfl ((b133_247 hR).mpr ?_)))
        rw [nI_1]
        refine ih (k + 1) ar' B _ _ (by omega) (by omega) hg ?_
        rw [hB]
        constructor
        · rintro ⟨q, h1, h2⟩; exact ⟨q, by omega, h2⟩
        · rintro ⟨q, h1, b, h2, h3, h4⟩
          by_cases c : q = k
          · subst c; exact absurd ⟨b, h2, h3⟩ hno
          · exact ⟨q, by omega, b, h2, h3, h4⟩
      by_cases c0 : tMk T k = none
      · exact ifp ((optI_m1 m31).mpr c0) (no _ _ (by rintro ⟨b, h, _⟩; rw [c0] at h; cases h))
      · refine ifn (fun r => c0 ((optI_m1 m31).mp r)) ((b133_173 hR).mpr ?_)
        obtain ⟨b, hb⟩ : ∃ b, tMk T k = some b := by
          cases h : tMk T k with
          | none => exact absurd h c0
          | some b => exact ⟨b, rfl⟩
        have hbn := (hAI.2.2.1 k b hkn hb).1
        have eb : optI (tMk T k) = nI b := by rw [hb]; rfl
        have yes : (k = p ∨ tPar T k = some p) → wp 133 190 [some (.ref o), some (.int (nI a)), some (.int (nI p)), some (.int 0), some (.int (b2I B)), some (.int (nI k)), some (.int (optI (tMk T k))), u7] [] (rOv σ o sc ar') P := by
          intro hy
          rw [eb]
          refine (b133_190 hR).mpr ((b133_195 hR).mpr (ifn (by decide) ((b133_202 hR).mpr ?_)))
          -- is it a itself
          have st1 : ∀ B1 u7, (B1 = true ↔ (B = true ∨ b = a)) → wp 133 218 [some (.ref o), some (.int (nI a)), some (.int (nI p)), some (.int 0), some (.int (b2I B)), some (.int (nI k)), some (.int (nI b)), some (.int u7)] [.int (b2I B1)] (rOv σ o sc ar') P := by
            intro B1 u7 hB1
            refine (b133_218 hR).mpr (reach hg hbn (fun ar2 hr2 hg2 => (b133_226 hR).mpr ?_))
            have st2 : ∀ B2 x4 u7, (B2 = true ↔ (B1 = true ∨ rch T A b a)) → wp 133 245 [some (.ref o), some (.int (nI a)), some (.int (nI p)), some (.int 0), some (.int x4), some (.int (nI k)), some (.int (nI b)), some (.int u7)] [.int (b2I B2)] (rOv σ o sc ar2) P := by
              intro B2 x4 u7 hB2
              refine (b133_245 hR).mpr ((b133_247 hR).mpr ?_)
              rw [nI_1]
              refine ih (k + 1) ar2 B2 _ _ (by omega) (by omega) hg2 ?_
              rw [hB2, hB1, hB]
              constructor
              · rintro ((⟨q, h1, h2⟩ | h) | h)
                · exact ⟨q, by omega, h2⟩
                · exact ⟨k, by omega, b, hb, hy, Or.inl h⟩
                · exact ⟨k, by omega, b, hb, hy, Or.inr h⟩
              · rintro ⟨q, h1, b', h2, h3, h4⟩
                by_cases c : q = k
                · subst c
                  rw [hb] at h2; cases h2
                  rcases h4 with h4 | h4
                  · exact Or.inl (Or.inr h4)
                  · exact Or.inr h4
                · exact Or.inl (Or.inl ⟨q, by omega, b', h2, h3, h4⟩)
            by_cases d1 : B1 = true
            · exact ifp (b2I_ne.mpr d1) ((b133_240 hR).mpr (st2 true _ _ ⟨fun _ => Or.inl d1, fun _ => rfl⟩))
            · refine ifn (fun r => d1 (b2I_ne.mp r)) ((b133_231 hR).mpr ⟨nI_in (N := 40) (by omega) (by omega), ?_⟩)
              rw [nI_clamp (by omega), hr2 a ha]
              by_cases d2 : rch T A b a
              · exact ifn (fun r => b2I_ne.mpr (pB_iff.mpr d2) r) ((b133_240 hR).mpr (st2 true _ _ ⟨fun _ => Or.inr d2, fun _ => rfl⟩))
              · exact ifp (b2I_0.mpr (pB_false.mpr d2)) ((b133_244 hR).mpr (st2 false _ _ ⟨fun r => by (cases r), fun r => by rcases r with r | r; exact absurd r d1; exact absurd r d2⟩))
          by_cases c1 : B = true
          · exact ifp (b2I_ne.mpr c1) ((b133_213 hR).mpr (st1 true _ ⟨fun _ => Or.inl c1, fun _ => rfl⟩))
          · refine ifn (fun r => c1 (b2I_ne.mp r)) ((b133_207 hR).mpr ?_)
            by_cases c2 : b = a
            · exact ifn (fun r => r (by rw [c2])) ((b133_213 hR).mpr (st1 true _ ⟨fun _ => Or.inr c2, fun _ => rfl⟩))
            · exact ifp (fun r => c2 ((nI_eq (by omega) (by omega)).mp r)) ((b133_217 hR).mpr (st1 false _ ⟨fun r => by (cases r), fun r => by rcases r with r | r; exact absurd r c1; exact absurd r c2⟩))
        by_cases c1 : k = p
        · exact ifp (by rw [c1]) (yes (Or.inl c1))
        · refine ifn (fun r => c1 ((nI_eq (by omega) (by omega)).mp r)) ((b133_179 hR).mpr ⟨nI_in (N := 60) (by omega) (by omega), ?_⟩)
          have epar : optI (tPar T k) = nI p ↔ tPar T k = some p := optI_eq (b := some p) (par31 hTI hkn) (fun k hk => by cases hk; omega)
          rw [nI_clamp (by omega), t1]
          by_cases c2 : tPar T k = some p
          · exact ifn (fun r => r (epar.mpr c2)) (yes (Or.inr c2))
          · exact ifp (fun r => c2 (epar.mp r)) (no _ _ (by
              rintro ⟨_, _, h⟩
              rcases h with h | h
              · exact c1 h
              · exact c2 h))
  refine key (tN T - 1) 1 ar1 false _ _ (by omega) (by omega) hg1 ⟨fun r => absurd r (by decide), ?_⟩
  rintro ⟨q, h1, b, h2, _⟩
  have : q = 0 := by omega
  subst this
  rw [hTI.2.2.1.2.2.2] at h2; cases h2
theorem r_comesOut (hR : RShape σ o) (hT : RTree sc ar T) (hA : RAct sc ar A) (hTI : TInv T) (hAI : AInv T A) (ha : a < aN A) (hp : p < tN T) (hP : ∀ ar', Ag sc ar sc ar' [41] → P (some (.int (b2I (pB (circO T A a p))))) (rOv σ o sc ar')) : wpM 133 [.ref o, .int (nI a), .int (nI p), .int 1] (rOv σ o sc ar) P := by
  have h60 := hTI.2.1
  have h40 := hAI.1
  have hB := hAI.bnd hTI
  have reach : ∀ {ar' : ArT} {b : Nat} {Q : Option Value → zSt → Prop}, Ag sc ar sc ar' [41] → b < aN A → (∀ ar'', RgR ar'' (aN A) (fun x => pB (rch T A b x)) → Ag sc ar sc ar'' [41] → Q none (rOv σ o sc ar'')) → wpM 130 [.ref o, .int (nI b)] (rOv σ o sc ar') Q := fun hg hb hQ => r_reach hR (RTree_ag hT hg (by decide)) (RAct_ag hA hg (by decide)) hTI hB hb (fun ar'' hr hg' => hQ ar'' hr (hg.tr hg'))
  refine (b133 hR).mpr (ifn (by decide) ((b133_7 hR).mpr ?_))
  have key : ∀ e k ar' B u6 u7, k + e = aN A → Ag sc ar sc ar' [41] → (B = true ↔ ∃ b, b < k ∧ (b = a ∨ rch T A a b) ∧ ∃ q, q ∈ aIns A b ∧ (q = p ∨ tPar T p = some q)) → wp 133 10 [some (.ref o), some (.int (nI a)), some (.int (nI p)), some (.int 1), some (.int (b2I B)), some (.int (nI k)), u6, u7] [] (rOv σ o sc ar') P := by
    intro e
    induction e with
    | zero =>
      intro k ar' B u6 u7 hk hg hBB
      have hk : k = aN A := by omega
      subst hk
      refine (b133_10 hR).mpr (ifp (by rw [hA.1]; exact nI_le (by omega) (by omega)) ((b133_138 hR).mpr ⟨b2I01, ?_⟩))
      have : B = pB (circO T A a p) := by rw [Bool.eq_iff_iff, pB_iff, hBB]; rfl
      rw [this]; exact hP ar' hg
    | succ e ih =>
      intro k ar' B u6 u7 hk hg hBB
      have hkn : k < aN A := by omega
      have hA' := RAct_ag hA hg (by decide)
      have hT' := RTree_ag hT hg (by decide)
      obtain ⟨⟨a1, a2⟩, _⟩ := hA'.2 k hkn
      obtain ⟨hi6, hipt, _, _⟩ := hB.2.2 k hkn
      refine (b133_10 hR).mpr (ifn (by rw [hA.1]; exact nI_ge hkn (by omega)) ((b133_19 hR).mpr ?_))
      have epar : ∀ q, q < tN T → (nI q = optI (tPar T p) ↔ tPar T p = some q) := fun q hq => by
        have := optI_eq (b := some q) (par31 hTI hp) (fun k hk => by cases hk; omega)
        rw [← this]; exact ⟨fun r => r.symm, fun r => r.symm⟩
      have inner : ∀ e' j, j + e' = (aIns A k).length → wp 133 25 [some (.ref o), some (.int (nI a)), some (.int (nI p)), some (.int 1), some (.int (b2I B)), some (.int (nI k)), some (.int (b2I (((aIns A k).take j).any fun q => decide (q = p) || decide (tPar T p = some q)))), some (.int (nI j))] [] (rOv σ o sc ar') P := by
        intro e'
        induction e' with
        | zero =>
          intro j hj
          refine (b133_25 hR).mpr ⟨nI_in (N := 40) (by omega) (by omega), ?_⟩
          rw [nI_clamp (by omega), a1]
          refine ifp (nI_le (by omega) (by omega)) ((b133_94 hR).mpr (reach hg ha (fun ar2 hr2 hg2 => (b133_99 hR).mpr ?_)))
          rw [List.take_of_length_le (by omega)]
          have hC : ((aIns A k).any fun q => decide (q = p) || decide (tPar T p = some q)) = true ↔ ∃ q, q ∈ aIns A k ∧ (q = p ∨ tPar T p = some q) := by
            simp only [List.any_eq_true, Bool.or_eq_true, decide_eq_true_eq]
          have st : ∀ B2 x4 u6 u7, (B2 = true ↔ (B = true ∨ ((k = a ∨ rch T A a k) ∧ ∃ q, q ∈ aIns A k ∧ (q = p ∨ tPar T p = some q)))) → wp 133 130 [some (.ref o), some (.int (nI a)), some (.int (nI p)), some (.int 1), some (.int x4), some (.int (nI k)), some (.int u6), some (.int u7)] [.int (b2I B2)] (rOv σ o sc ar2) P := by
            intro B2 x4 u6 u7 hB2
            refine (b133_130 hR).mpr ?_
            rw [nI_1]
            refine ih (k + 1) ar2 B2 _ _ (by omega) hg2 ?_
            rw [hB2, hBB]
            constructor
            · rintro (⟨b, h1, h2⟩ | h)
              · exact ⟨b, by omega, h2⟩
              · exact ⟨k, by omega, h⟩
            · rintro ⟨b, h1, h2⟩
              by_cases c : b = k
              · subst c; exact Or.inr h2
              · exact Or.inl ⟨b, by omega, h2⟩
          by_cases d0 : B = true
          · exact ifp (b2I_ne.mpr d0) ((b133_125 hR).mpr (st true _ _ _ ⟨fun _ => Or.inl d0, fun _ => rfl⟩))
          · refine ifn (fun r => d0 (b2I_ne.mp r)) ((b133_104 hR).mpr ?_)
            by_cases d1 : ∃ q, q ∈ aIns A k ∧ (q = p ∨ tPar T p = some q)
            · rw [hC.mpr d1]
              refine ifn (by decide) ((b133_109 hR).mpr ?_)
              by_cases d2 : k = a
              · exact ifp (by rw [d2]) ((b133_125 hR).mpr (st true _ _ _ ⟨fun _ => Or.inr ⟨Or.inl d2, d1⟩, fun _ => rfl⟩))
              · refine ifn (fun r => d2 ((nI_eq (by omega) (by omega)).mp r)) ((b133_115 hR).mpr ⟨nI_in (N := 40) (by omega) (by omega), ?_⟩)
                rw [nI_clamp (by omega), hr2 k hkn]
                by_cases d3 : rch T A a k
                · exact ifn (fun r => b2I_ne.mpr (pB_iff.mpr d3) r) ((b133_125 hR).mpr (st true _ _ _ ⟨fun _ => Or.inr ⟨Or.inr d3, d1⟩, fun _ => rfl⟩))
                · exact ifp (b2I_0.mpr (pB_false.mpr d3)) ((b133_129 hR).mpr (st false _ _ _ ⟨fun r => by (cases r), fun r => by
                    rcases r with r | ⟨r | r, _⟩
                    · exact absurd r d0
                    · exact absurd r d2
                    · exact absurd r d3⟩))
            · rw [show ((aIns A k).any fun q => decide (q = p) || decide (tPar T p = some q)) = false by
                rw [← Bool.not_eq_true]; exact fun r => d1 (hC.mp r)]
              exact ifp rfl ((b133_129 hR).mpr (st false _ _ _ ⟨fun r => by (cases r), fun r => by
                rcases r with r | ⟨_, r⟩
                · exact absurd r d0
                · exact absurd r d1⟩))
        | succ e' ih' =>
          intro j hj
          have hjl : j < (aIns A k).length := by omega
          have hin : ar' 30 (6 * k + j) = nI (aIns A k)[j] := by rw [RRow_get a2 (by rw [List.length_map]; exact hjl), List.getElem_map]
          have hq := hipt _ (List.getElem_mem hjl)
          have st := ih' (j + 1) (by omega)
          rw [any_take hjl] at st
          refine (b133_25 hR).mpr ⟨nI_in (N := 40) (by omega) (by omega), ?_⟩
          rw [nI_clamp (by omega), a1]
          refine ifn (nI_ge (by omega) (by omega)) ((b133_37 hR).mpr ?_)
          generalize (((aIns A k).take j).any fun q => decide (q = p) || decide (tPar T p = some q)) = C at *
          have yes : (C || (decide ((aIns A k)[j] = p) || decide (tPar T p = some (aIns A k)[j]))) = true → wp 133 81 [some (.ref o), some (.int (nI a)), some (.int (nI p)), some (.int 1), some (.int (b2I B)), some (.int (nI k)), some (.int (b2I C)), some (.int (nI j))] [] (rOv σ o sc ar') P := by
            intro hy
            refine (b133_81 hR).mpr ((b133_86 hR).mpr ?_)
            rw [nI_1]
            rw [hy] at st; exact st
          by_cases c0 : C = true
          · exact ifp (b2I_ne.mpr c0) (yes (by rw [c0]; rfl))
          · refine ifn (fun r => c0 (b2I_ne.mp r)) ((b133_42 hR).mpr ?_)
            rw [i6, nI_clamp (n := 6 * k + j) (by omega), hin]
            refine ⟨nI_in (N := 240) (by omega) (by omega), ?_⟩
            by_cases c1 : (aIns A k)[j] = p
            · exact ifp (by rw [c1]) (yes (by rw [decide_eq_true c1]; simp))
            · refine ifn (fun r => c1 ((nI_eq (by omega) (by omega)).mp r)) ((b133_59 hR).mpr ?_)
              rw [i6, nI_clamp (n := 6 * k + j) (by omega), hin, nI_clamp (n := p) (by omega), (hT'.2 p hp).1]
              refine ⟨nI_in (N := 240) (by omega) (by omega), nI_in (N := 60) (by omega) (by omega), ?_⟩
              by_cases c2 : tPar T p = some (aIns A k)[j]
              · exact ifn (fun r => r ((epar _ hq).mpr c2)) (yes (by rw [decide_eq_true c2]; simp))
              · refine ifp (fun r => c2 ((epar _ hq).mp r)) ((b133_85 hR).mpr ((b133_86 hR).mpr ?_))
                rw [nI_1]
                rw [show C = false by simpa using c0, decide_eq_false c1, decide_eq_false c2] at st
                exact st
      exact inner _ 0 (Nat.zero_add _)
  refine key _ 0 ar false _ _ (Nat.zero_add _) Ag.rf ⟨fun r => absurd r (by decide), ?_⟩
  rintro ⟨b, h1, _⟩
  omega
/-- an input more: a circle there is a need -/
theorem circ_in (hAI : AInv T A) (ha : a < aN A) : rch T (aN A, fup (aIns A) a (aIns A a ++ [p]), aOut A, aSt A) a a ↔ needP T A p a := by
  have hu : ∀ j k, k < aN A → usesT T (aN A, fup (aIns A) a (aIns A a ++ [p]), aOut A, aSt A) j k = true → usesT T A j k = true ∨ (j = a ∧ mkr T p k) := by
    intro j k hk h
    obtain ⟨q, h1, q2, h2, h3⟩ := uses_iff.mp h
    have h1 : q ∈ fup (aIns A) a (aIns A a ++ [p]) j := h1
    have h2 : q2 ∈ aOut A k := h2
    by_cases c : j = a
    · subst c
      rw [fup_same] at h1
      rcases List.mem_append.mp h1 with g | g
      · exact Or.inl (uses_iff.mpr ⟨q, g, q2, h2, h3⟩)
      · have : q = p := by simpa using g
        subst this
        exact Or.inr ⟨rfl, (mkr_out hAI hk).mp ⟨q2, h2, h3⟩⟩
    · rw [fup_ne c] at h1
      exact Or.inl (uses_iff.mpr ⟨q, h1, q2, h2, h3⟩)
  have hu2 : ∀ k, k < aN A → mkr T p k → usesT T (aN A, fup (aIns A) a (aIns A a ++ [p]), aOut A, aSt A) a k = true := by
    intro k hk hm
    obtain ⟨q2, h2, h3⟩ := (mkr_out hAI hk).mpr hm
    exact uses_iff.mpr ⟨p, by show p ∈ fup (aIns A) a (aIns A a ++ [p]) a; rw [fup_same]; simp, q2, h2, h3⟩
  have hsub : ∀ i j, j < aN A → usesT T A i j = true → j < aN A ∧ usesT T (aN A, fup (aIns A) a (aIns A a ++ [p]), aOut A, aSt A) i j = true := by
    intro i j hj h
    obtain ⟨q, h1, h2⟩ := uses_iff.mp h
    refine ⟨hj, uses_iff.mpr ⟨q, ?_, h2⟩⟩
    show q ∈ fup (aIns A) a (aIns A a ++ [p]) i
    by_cases c : i = a
    · subst c; rw [fup_same]; exact List.mem_append_left _ h1
    · rw [fup_ne c]; exact h1
  constructor
  · rintro ⟨n, h⟩
    rcases rchN_in hu n h with g | ⟨_, g⟩
    · exact absurd g (hAI.2.2.2 a ha)
    · exact g
  · rintro (h | ⟨k, h1, h2⟩)
    · exact rch_one ha (hu2 a ha h)
    · have hk := mkr_lt hAI h1
      exact rch_trans (rch_one hk (hu2 k hk h1)) (rch_sub (a' := A) (t' := T) hsub h2)
theorem r_input (hR : RShape σ o) (h : RefR sc ar w) (hI : WInv w) (hP : ∀ sc' ar', RefR sc' ar' (sInput w x y).1 → P (some (.int (sInput w x y).2)) (rOv σ o sc' ar')) : wpM 132 [.ref o, .int x, .int y] (rOv σ o sc ar) P := by
  obtain ⟨q1, q2, q3, q4, q5, q6, q7⟩ := id h
  have h40 := hI.2.1.1
  have hn := hI.1.2.1
  unfold sInput at hP
  refine (b132 hR).mpr ?_
  rcases ixN_cases x (n := aN (wA w)) (by omega) with ⟨e, hx⟩ | ⟨a, ha, rfl, e⟩
  · rw [e] at hP
    exact risact_no hR q4 h40 hx ((b132_5 hR).mpr (ifp rfl ((b132_16 hR).mpr (hP sc ar h))))
  rw [e] at hP
  refine risact_yes hR q4 h40 ha ((b132_5 hR).mpr (ifn (by decide) ((b132_8 hR).mpr ?_)))
  rcases ixN_cases y (n := tN (wT w)) (by omega) with ⟨e, hx⟩ | ⟨p, hp, rfl, e⟩
  · rw [e] at hP
    exact rispath_no hR q1 hn hx ((b132_13 hR).mpr (ifn (fun r => r rfl) ((b132_16 hR).mpr (hP sc ar h))))
  rw [e] at hP
  dsimp only at hP
  refine rispath_yes hR q1 hn hp ((b132_13 hR).mpr (ifp (by decide) ((b132_19 hR).mpr ?_)))
  obtain ⟨⟨a1, a2⟩, ⟨b1, b2⟩, c1, c2, c3⟩ := q4.2 a ha
  have hAI := hI.2.1.2.1 a ha
  have h6 := hAI.1
  have hipt := hAI.2.1
  have key : ∀ e k, k + e = (aIns (wA w) a).length → p ∉ (aIns (wA w) a).take k → wp 132 21 [some (.ref o), some (.int (nI a)), some (.int (nI p)), some (.int (nI k))] [] (rOv σ o sc ar) P := by
    intro e
    induction e with
    | zero =>
      intro k hk hno
      rw [List.take_of_length_le (by omega)] at hno
      rw [if_neg hno] at hP
      refine (b132_21 hR).mpr ⟨nI_in (N := 40) (by omega) (by omega), ?_⟩
      rw [nI_clamp (by omega), a1]
      refine ifp (nI_le (by omega) (by omega)) ((b132_55 hR).mpr ⟨nI_in (N := 40) (by omega) (by omega), ?_⟩)
      rw [nI_clamp (by omega), a1]
      by_cases c : 6 ≤ (aIns (wA w) a).length
      · refine ifn (fun r => r ?_) ((b132_68 hR).mpr (r_comesIn hR q1 q4 hI.1 hI.2.1 ha hp (fun ar' hg => (b132_75 hR).mpr ?_)))
        · rw [show (aIns (wA w) a).length = 6 by omega]; rfl
        have h' := RefR_ag h hg (by decide)
        by_cases d : needP (wT w) (wA w) p a
        · rw [if_pos (pB_iff.mpr d)] at hP
          exact ifn (fun r => b2I_ne.mpr (pB_iff.mpr d) r) ((b132_78 hR).mpr ((b132_85 hR).mpr (hP sc ar' h')))
        · rw [if_neg (fun r => d (pB_iff.mp r)), if_pos c] at hP
          exact ifp (b2I_0.mpr (pB_false.mpr d)) ((b132_83 hR).mpr ((b132_85 hR).mpr (hP sc ar' h')))
      · refine ifp (fun r => c ?_) ((b132_86 hR).mpr ?_)
        · have r : nI (aIns (wA w) a).length = nI 6 := r
          have := (nI_eq (by omega) (by omega)).mp r
          omega
        rw [i6, nI_clamp (n := 6 * a + (aIns (wA w) a).length) (by omega), nI_clamp (n := a) (by omega), upA_ne (ar := ar) (t := 30) (u := 31) (fun r => absurd r.1 (by decide)), a1, nI_1]
        refine ⟨nI_in (N := 240) (by omega) (by omega), nI_in (N := 40) (by omega) (by omega), nI_in (N := 40) (by omega) (by omega), ?_⟩
        have hg1 : Ag sc ar sc (upA (upA ar 30 (6 * a + (aIns (wA w) a).length) (nI p)) 31 a (nI ((aIns (wA w) a).length + 1))) [10, 11, 41] := (Ag_ar (by decide)).tr (Ag_ar (by decide))
        have e31 : upA (upA ar 30 (6 * a + (aIns (wA w) a).length) (nI p)) 31 a (nI ((aIns (wA w) a).length + 1)) 31 a = nI ((aIns (wA w) a).length + 1) := upA_same
        have o31 : ∀ i, i ≠ a → upA (upA ar 30 (6 * a + (aIns (wA w) a).length) (nI p)) 31 a (nI ((aIns (wA w) a).length + 1)) 31 i = ar 31 i := fun i hi => by rw [upA_ne (fun r => hi r.2), upA_ne (fun r => absurd r.1 (by decide))]
        have r30 : RRow (upA (upA ar 30 (6 * a + (aIns (wA w) a).length) (nI p)) 31 a (nI ((aIns (wA w) a).length + 1))) 30 (6 * a) ((aIns (wA w) a ++ [p]).map nI) := by
          have g := RRow_put (v := nI p) a2
          rw [List.length_map] at g
          rw [List.map_append]
          exact RRow_ag g (fun i => upA_ne (fun r => absurd r.1 (by decide)))
        have o30 : ∀ i, i ≠ a → ∀ k, k < 6 → upA (upA ar 30 (6 * a + (aIns (wA w) a).length) (nI p)) 31 a (nI ((aIns (wA w) a).length + 1)) 30 (6 * i + k) = ar 30 (6 * i + k) := fun i hi k hk => by rw [upA_ne (fun r => absurd r.1 (by decide)), upA_ne (fun r => by omega)]
        generalize upA (upA ar 30 (6 * a + (aIns (wA w) a).length) (nI p)) 31 a (nI ((aIns (wA w) a).length + 1)) = ar1 at *
        have hT1 := RTree_ag q1 hg1 (by decide)
        have hA1 : RAct sc ar1 (aN (wA w), fup (aIns (wA w)) a (aIns (wA w) a ++ [p]), aOut (wA w), aSt (wA w)) := by
          refine ⟨q4.1, fun i hi => ?_⟩
          show RActI ar1 i (fup (aIns (wA w)) a (aIns (wA w) a ++ [p]) i) (aOut (wA w) i) (aSt (wA w) i)
          have hi : i < aN (wA w) := hi
          by_cases ea : i = a
          · subst ea
            rw [fup_same]
            exact ⟨⟨by rw [e31, List.length_append]; rfl, r30⟩, ⟨by rw [hg1.2 33 _ (by decide)]; exact b1, RRow_ag b2 (fun i => hg1.2 32 i (by decide))⟩, by rw [hg1.2 36 _ (by decide)]; exact c1, RRow_ag c2 (fun i => hg1.2 34 i (by decide)), RRow_ag c3 (fun i => hg1.2 35 i (by decide))⟩
          · rw [fup_ne ea]
            have hAi := hI.2.1.2.1 i hi
            exact RActI_fr (q4.2 i hi) ⟨hAi.1, hAi.2.2.2.1, hAi.2.2.2.2.2.2.1⟩ ⟨o31 i ea, hg1.2 33 _ (by decide), hg1.2 36 _ (by decide)⟩ ⟨o30 i ea, fun k _ => hg1.2 32 _ (by decide), fun k hk => ⟨hg1.2 34 _ (by decide), hg1.2 35 _ (by decide)⟩⟩
        have hB1 : ABnd (wT w) (aN (wA w), fup (aIns (wA w)) a (aIns (wA w) a ++ [p]), aOut (wA w), aSt (wA w)) := by
          obtain ⟨g1, g2, g3⟩ := hI.2.1.bnd hI.1
          refine ⟨g1, g2, fun i hi => ?_⟩
          have hi : i < aN (wA w) := hi
          obtain ⟨k1, k2, k3, k4⟩ := g3 i hi
          refine ⟨?_, ?_, k3, k4⟩
          · show (fup (aIns (wA w)) a (aIns (wA w) a ++ [p]) i).length ≤ 6
            by_cases ea : i = a
            · rw [ea, fup_same, List.length_append]; show _ + 1 ≤ 6; omega
            · rw [fup_ne ea]; exact k1
          · show ∀ q ∈ fup (aIns (wA w)) a (aIns (wA w) a ++ [p]) i, q < tN (wT w)
            by_cases ea : i = a
            · rw [ea, fup_same]
              intro q hq
              rcases List.mem_append.mp hq with r | r
              · exact hipt q r
              · have : q = p := by simpa using r
                rw [this]; exact hp
            · rw [fup_ne ea]; exact k2
        refine r_isCircle hR hT1 hA1 hI.1 hB1 (show a < aN (aN (wA w), fup (aIns (wA w)) a (aIns (wA w) a ++ [p]), aOut (wA w), aSt (wA w)) from ha) (fun ar2 hg2 => (b132_113 hR).mpr ?_)
        have hg12 : Ag sc ar sc ar2 [10, 11, 41] := hg1.tr (hg2.mono (by decide))
        have e31' : ar2 31 a = nI ((aIns (wA w) a).length + 1) := by rw [hg2.2 31 _ (by decide)]; exact e31
        by_cases d : needP (wT w) (wA w) p a
        · rw [if_pos (pB_iff.mpr d)] at hP
          rw [pB_iff.mpr ((circ_in hI.2.1 ha).mpr d)]
          refine ifn (by decide) ((b132_116 hR).mpr ?_)
          rw [nI_clamp (n := a) (by omega), e31', nI_pred]
          refine ⟨nI_in (N := 40) (by omega) (by omega), nI_in (N := 40) (by omega) (by omega), hP _ _ ?_⟩
          have hg3 : Ag sc ar sc (upA ar2 31 a (nI (aIns (wA w) a).length)) [10, 11, 41] := hg12.tr (Ag_ar (by decide))
          refine ⟨RTree_ag q1 hg3 (by decide), ⟨RConS_ag q2.1 hg3 (by decide), RConS_ag q2.2 hg3 (by decide)⟩, RTape_ag q3 hg3 (by decide), ⟨q4.1, fun i hi => ?_⟩, RWas_ag q5 hg3 (by decide), RCac_ag q6 hg3 (by decide), RLog_ag q7 hg3 (by decide)⟩
          by_cases ea : i = a
          · subst ea
            refine ⟨⟨upA_same, RRow_ag (RRow_ag ((RRow_app1 (by rw [List.map_append] at r30; exact r30)).1) (fun i => hg2.2 30 i (by decide))) (fun i => upA_ne (fun r => absurd r.1 (by decide)))⟩, ⟨by rw [hg3.2 33 _ (by decide)]; exact b1, RRow_ag b2 (fun i => hg3.2 32 i (by decide))⟩, by rw [hg3.2 36 _ (by decide)]; exact c1, RRow_ag c2 (fun i => hg3.2 34 i (by decide)), RRow_ag c3 (fun i => hg3.2 35 i (by decide))⟩
          · have hAi := hI.2.1.2.1 i hi
            refine RActI_fr (q4.2 i hi) ⟨hAi.1, hAi.2.2.2.1, hAi.2.2.2.2.2.2.1⟩ ⟨?_, hg3.2 33 _ (by decide), hg3.2 36 _ (by decide)⟩ ⟨fun k hk => ?_, fun k _ => hg3.2 32 _ (by decide), fun k hk => ⟨hg3.2 34 _ (by decide), hg3.2 35 _ (by decide)⟩⟩
            · rw [upA_ne (fun r => ea r.2), hg2.2 31 _ (by decide), o31 i ea]
            · rw [upA_ne (fun r => absurd r.1 (by decide)), hg2.2 30 _ (by decide), o30 i ea k hk]
        · rw [if_neg (fun r => d (pB_iff.mp r)), if_neg c] at hP
          rw [pB_false.mpr (fun r => d ((circ_in hI.2.1 ha).mp r))]
          refine ifp rfl ((b132_129 hR).mpr ⟨nI_in (N := 40) (by omega) (by omega), ?_⟩)
          rw [nI_clamp (n := a) (by omega), e31']
          exact hP _ _ ⟨RTree_ag q1 hg12 (by decide), ⟨RConS_ag q2.1 hg12 (by decide), RConS_ag q2.2 hg12 (by decide)⟩, RTape_ag q3 hg12 (by decide), RAct_ag hA1 hg2 (by decide), RWas_ag q5 hg12 (by decide), RCac_ag q6 hg12 (by decide), RLog_ag q7 hg12 (by decide)⟩
    | succ e ih =>
      intro k hk hno
      have hkl : k < (aIns (wA w) a).length := by omega
      have hin : ar 30 (6 * a + k) = nI (aIns (wA w) a)[k] := by rw [RRow_get a2 (by rw [List.length_map]; exact hkl), List.getElem_map]
      have hpk := hipt _ (List.getElem_mem hkl)
      refine (b132_21 hR).mpr ⟨nI_in (N := 40) (by omega) (by omega), ?_⟩
      rw [nI_clamp (by omega), a1]
      refine ifn (nI_ge (by omega) (by omega)) ((b132_31 hR).mpr ?_)
      rw [i6, nI_clamp (n := 6 * a + k) (by omega), hin]
      refine ⟨nI_in (N := 240) (by omega) (by omega), ?_⟩
      by_cases c : (aIns (wA w) a)[k] = p
      · have hm : p ∈ aIns (wA w) a := by rw [← c]; exact List.getElem_mem hkl
        rw [if_pos hm] at hP
        exact ifn (fun r => r (by rw [c])) ((b132_46 hR).mpr (hP sc ar h))
      · refine ifp (fun r => c ((nI_eq (by omega) (by omega)).mp r)) ((b132_49 hR).mpr ?_)
        rw [nI_1]
        refine ih (k + 1) (by omega) ?_
        rw [List.take_add_one, List.getElem?_eq_getElem hkl]
        intro r
        rcases List.mem_append.mp r with r | r
        · exact hno r
        · have : p = (aIns (wA w) a)[k] := by simpa using r
          exact c this.symm
  exact key _ 0 (Nat.zero_add _) (by simp)
theorem r_output (hR : RShape σ o) (h : RefR sc ar w) (hI : WInv w) (hP : ∀ sc' ar', RefR sc' ar' (sOutput w x y).1 → P (some (.int (sOutput w x y).2)) (rOv σ o sc' ar')) : wpM 134 [.ref o, .int x, .int y] (rOv σ o sc ar) P := by
  obtain ⟨q1, q2, q3, q4, q5, q6, q7⟩ := id h
  have h40 := hI.2.1.1
  have hn := hI.1.2.1
  unfold sOutput at hP
  refine (b134 hR).mpr ?_
  rcases ixN_cases x (n := aN (wA w)) (by omega) with ⟨e, hx⟩ | ⟨a, ha, rfl, e⟩
  · rw [e] at hP
    exact risact_no hR q4 h40 hx ((b134_5 hR).mpr (ifp rfl ((b134_16 hR).mpr (hP sc ar h))))
  rw [e] at hP
  refine risact_yes hR q4 h40 ha ((b134_5 hR).mpr (ifn (by decide) ((b134_8 hR).mpr ?_)))
  rcases ixN_cases y (n := tN (wT w)) (by omega) with ⟨e, hx⟩ | ⟨p, hp, rfl, e⟩
  · rw [e] at hP
    exact rispath_no hR q1 hn hx ((b134_13 hR).mpr (ifn (fun r => r rfl) ((b134_16 hR).mpr (hP sc ar h))))
  rw [e] at hP
  dsimp only at hP
  obtain ⟨t1, t2, t3, t4⟩ := q1.2 p hp
  refine rispath_yes hR q1 hn hp ((b134_13 hR).mpr (ifp (by decide) ((b134_19 hR).mpr ⟨nI_in (N := 60) (by omega) (by omega), ?_⟩)))
  rw [nI_clamp (by omega), t3]
  by_cases c0 : tDir (wT w) p = true
  · rw [if_pos c0] at hP
    exact ifn (fun r => b2I_ne.mpr c0 r) ((b134_28 hR).mpr (hP sc ar h))
  rw [if_neg c0] at hP
  refine ifp (b2I_0.mpr (by simpa using c0)) ((b134_31 hR).mpr ⟨nI_in (N := 60) (by omega) (by omega), ?_⟩)
  rw [nI_clamp (by omega), t4]
  have m31 := hI.1.mk31 hI.2.1 hp
  by_cases c1 : tMk (wT w) p = none
  · rw [if_neg (fun r => r c1)] at hP
    refine ifp ((optI_m1 m31).mpr c1) ((b134_44 hR).mpr (r_comesOut hR q1 q4 hI.1 hI.2.1 ha hp (fun ar1 hg1 => (b134_51 hR).mpr ?_)))
    have h' := RefR_ag h hg1 (by decide)
    by_cases d : circO (wT w) (wA w) a p
    · rw [if_pos (pB_iff.mpr d)] at hP
      exact ifn (fun r => b2I_ne.mpr (pB_iff.mpr d) r) ((b134_54 hR).mpr (hP sc ar1 h'))
    rw [if_neg (fun r => d (pB_iff.mp r))] at hP
    refine ifp (b2I_0.mpr (pB_false.mpr d)) ((b134_57 hR).mpr ⟨nI_in (N := 40) (by omega) (by omega), ?_⟩)
    obtain ⟨q1, q2, q3, q4, q5, q6, q7⟩ := id h'
    obtain ⟨⟨a1, a2⟩, ⟨b1, b2⟩, k1, k2, k3⟩ := q4.2 a ha
    have hAI := hI.2.1.2.1 a ha
    have h3 := hAI.2.2.2.1
    rw [nI_clamp (by omega), b1]
    by_cases c : 3 ≤ (aOut (wA w) a).length
    · rw [if_pos c] at hP
      refine ifn (fun r => r ?_) ((b134_67 hR).mpr (hP sc ar1 h'))
      rw [show (aOut (wA w) a).length = 3 by omega]; rfl
    rw [if_neg c] at hP
    refine ifp (fun r => c ?_) ((b134_70 hR).mpr ?_)
    · have r : nI (aOut (wA w) a).length = nI 3 := r
      have := (nI_eq (by omega) (by omega)).mp r
      omega
    rw [nI_clamp (n := a) (by omega), b1, i3, nI_clamp (n := 3 * a + (aOut (wA w) a).length) (by omega), nI_clamp (n := p) (by omega), show (60 : Int32) + nI p = nI (60 + p) from nI_add 60 _, nI_clamp (n := 60 + p) (by omega), upA_ne (ar := ar1) (t := 32) (u := 33) (fun r => absurd r.1 (by decide)), b1, nI_1]
    have v33 : (upA (upA (upA (upA (upA ar1 32 (3 * a + (aOut (wA w) a).length) (nI p)) 33 a (nI ((aOut (wA w) a).length + 1))) 24 p (nI a)) 25 p (-1)) 25 (60 + p) (-1)) 33 a = nI ((aOut (wA w) a).length + 1) := by
      unfold upA; simp
    rw [v33]
    refine ⟨nI_in (N := 40) (by omega) (by omega), nI_in (N := 120) (by omega) (by omega), nI_in (N := 40) (by omega) (by omega), nI_in (N := 40) (by omega) (by omega), nI_in (N := 60) (by omega) (by omega), nI_in (N := 180) (by omega) (by omega), nI_in (N := 180) (by omega) (by omega), nI_in (N := 40) (by omega) (by omega), hP _ _ ?_⟩
    have hg : Ag sc ar1 sc (upA (upA (upA (upA (upA ar1 32 (3 * a + (aOut (wA w) a).length) (nI p)) 33 a (nI ((aOut (wA w) a).length + 1))) 24 p (nI a)) 25 p (-1)) 25 (60 + p) (-1)) [4, 5, 12, 13] := ((((Ag_ar (by decide)).tr (Ag_ar (by decide))).tr (Ag_ar (by decide))).tr (Ag_ar (by decide))).tr (Ag_ar (by decide))
    have o33 : ∀ i, i ≠ a → (upA (upA (upA (upA (upA ar1 32 (3 * a + (aOut (wA w) a).length) (nI p)) 33 a (nI ((aOut (wA w) a).length + 1))) 24 p (nI a)) 25 p (-1)) 25 (60 + p) (-1)) 33 i = ar1 33 i := fun i hi => by
      unfold upA; simp [hi]
    have o24 : ∀ k, (upA (upA (upA (upA (upA ar1 32 (3 * a + (aOut (wA w) a).length) (nI p)) 33 a (nI ((aOut (wA w) a).length + 1))) 24 p (nI a)) 25 p (-1)) 25 (60 + p) (-1)) 24 k = if k = p then nI a else ar1 24 k := fun k => by
      unfold upA; simp
    have o25 : ∀ k, (upA (upA (upA (upA (upA ar1 32 (3 * a + (aOut (wA w) a).length) (nI p)) 33 a (nI ((aOut (wA w) a).length + 1))) 24 p (nI a)) 25 p (-1)) 25 (60 + p) (-1)) 25 k = if k = 60 + p then -1 else if k = p then -1 else ar1 25 k := fun k => by
      unfold upA; simp
    have o32 : ∀ k, (upA (upA (upA (upA (upA ar1 32 (3 * a + (aOut (wA w) a).length) (nI p)) 33 a (nI ((aOut (wA w) a).length + 1))) 24 p (nI a)) 25 p (-1)) 25 (60 + p) (-1)) 32 k = upA ar1 32 (3 * a + (aOut (wA w) a).length) (nI p) 32 k := fun k => by
      rw [upA_ne (fun r => absurd r.1 (by decide)), upA_ne (fun r => absurd r.1 (by decide)), upA_ne (fun r => absurd r.1 (by decide)), upA_ne (fun r => absurd r.1 (by decide))]
    generalize upA (upA (upA (upA (upA ar1 32 (3 * a + (aOut (wA w) a).length) (nI p)) 33 a (nI ((aOut (wA w) a).length + 1))) 24 p (nI a)) 25 p (-1)) 25 (60 + p) (-1) = ar2 at *
    have conN : ∀ s, s < 2 → RConS ar2 s (tN (wT w)) (fun k => if k = p then none else wC w s k) := by
      intro s hs k k1 hk
      show RCc _ 25 26 _ (if k = p then none else wC w s k)
      by_cases e : k = p
      · rw [if_pos e]
        refine ⟨?_, fun l hl => by cases hl⟩
        have : s = 0 ∨ s = 1 := by omega
        rcases this with r | r <;> subst r
        · rw [o25, if_neg (by omega), if_pos (by omega)]; rfl
        · rw [o25, if_pos (by omega)]; rfl
      · rw [if_neg e]
        have g := RCon_at q2 hs k k1 hk
        refine ⟨?_, fun l hl => RRow_ag (g.2 l hl) (fun i => hg.2 26 i (by decide))⟩
        rw [o25, if_neg (by omega), if_neg (by omega)]; exact g.1
    refine ⟨⟨q1.1, fun k hk => ?_⟩, ⟨conN 0 (by omega), conN 1 (by omega)⟩, RTape_ag q3 hg (by decide), ⟨q4.1, fun i hi => ?_⟩, RWas_ag q5 hg (by decide), RCac_ag q6 hg (by decide), RLog_ag q7 hg (by decide)⟩
    · have hk : k < tN (wT w) := hk
      obtain ⟨g1, g2, g3, g4⟩ := q1.2 k hk
      refine ⟨by rw [hg.2 21 _ (by decide)]; exact g1, by rw [hg.2 22 _ (by decide)]; exact g2, by rw [hg.2 23 _ (by decide)]; exact g3, ?_⟩
      show _ = optI (fup (tMk (wT w)) p (some a) k)
      rw [o24]
      by_cases e : k = p
      · rw [if_pos e, e, fup_same]; rfl
      · rw [if_neg e, fup_ne e]; exact g4
    · show RActI ar2 i (aIns (wA w) i) (fup (aOut (wA w)) a (aOut (wA w) a ++ [p]) i) (aSt (wA w) i)
      have hi : i < aN (wA w) := hi
      by_cases ea : i = a
      · subst ea
        rw [fup_same]
        refine ⟨⟨by rw [hg.2 31 _ (by decide)]; exact a1, RRow_ag a2 (fun i => hg.2 30 i (by decide))⟩, ⟨by rw [v33, List.length_append]; rfl, ?_⟩, by rw [hg.2 36 _ (by decide)]; exact k1, RRow_ag k2 (fun i => hg.2 34 i (by decide)), RRow_ag k3 (fun i => hg.2 35 i (by decide))⟩
        have g := RRow_put (v := nI p) b2
        rw [List.length_map] at g
        rw [List.map_append]
        exact RRow_ag g o32
      · rw [fup_ne ea]
        have hAi := hI.2.1.2.1 i hi
        exact RActI_fr (q4.2 i hi) ⟨hAi.1, hAi.2.2.2.1, hAi.2.2.2.2.2.2.1⟩ ⟨hg.2 31 _ (by decide), o33 i ea, hg.2 36 _ (by decide)⟩ ⟨fun k hk => hg.2 30 _ (by decide), fun k hk => by rw [o32, upA_ne (fun r => by omega)], fun k hk => ⟨hg.2 34 _ (by decide), hg.2 35 _ (by decide)⟩⟩
  · rw [if_pos c1] at hP
    exact ifn (fun r => c1 ((optI_m1 m31).mp r)) ((b134_41 hR).mpr (hP sc ar h))
end RK1
