/-! THE REFERENCE: contents compared and copied; sources copied -/
section RC1
variable {σ : zSt} {o : Nat} {sc sc' : ScT} {ar ar' : ArT} {P : Option Value → zSt → Prop} {x : Int32} {p s s2 i f g m : Nat} {w : WT} {c c1 c2 : Con} {cv : Nat → Con}
theorem lenI_eq (h1 : ∀ l, c1 = some l → l.length ≤ 64) (h2 : ∀ l, c2 = some l → l.length ≤ 64) : lenI c1 = lenI c2 ↔ (c1 = none ∧ c2 = none) ∨ ∃ l1 l2, c1 = some l1 ∧ c2 = some l2 ∧ l1.length = l2.length := by
  cases c1 with
  | none => cases c2 with
    | none => exact ⟨fun _ => Or.inl ⟨rfl, rfl⟩, fun _ => rfl⟩
    | some l2 =>
      have := h2 l2 rfl
      refine ⟨fun r => absurd (show nI l2.length = -1 from r.symm) (nI_m1 (by omega)), fun r => ?_⟩
      rcases r with ⟨_, r⟩ | ⟨_, _, r, _⟩ <;> cases r
  | some l1 =>
    have := h1 l1 rfl
    cases c2 with
    | none =>
      refine ⟨fun r => absurd (show nI l1.length = -1 from r) (nI_m1 (by omega)), fun r => ?_⟩
      rcases r with ⟨r, _⟩ | ⟨_, _, _, r, _⟩ <;> cases r
    | some l2 =>
      have := h2 l2 rfl
      constructor
      · intro r
        exact Or.inr ⟨l1, l2, rfl, rfl, (nI_eq (by omega) (by omega)).mp r⟩
      · rintro (⟨r, _⟩ | ⟨a, b, r1, r2, r3⟩)
        · cases r
        · cases r1; cases r2; show nI _ = nI _; rw [r3]
theorem r_alike (hR : RShape σ o) (hf : 60 * s + p < 180) (hg : 60 * s2 + p < 180) (h1 : RCc ar 25 26 (60 * s + p) c1) (h2 : RCc ar 25 26 (60 * s2 + p) c2) (l1 : ∀ l, c1 = some l → l.length ≤ 64) (l2 : ∀ l, c2 = some l → l.length ≤ 64) (hP : P (some (.int (b2I (decide (c1 = c2))))) (rOv σ o sc ar)) : wpM 123 [.ref o, .int (nI s), .int (nI s2), .int (nI p)] (rOv σ o sc ar) P := by
  refine (b123 hR).mpr ?_
  rw [i60, i60, nI_clamp (by omega), nI_clamp (by omega), h1.1, h2.1]
  refine ⟨nI_in (N := 180) hf (by omega), nI_in (N := 180) hg (by omega), ?_⟩
  have no : ∀ k, c1 ≠ c2 → wp 123 43 [some (.ref o), some (.int (nI s)), some (.int (nI s2)), some (.int (nI p)), some (.int (nI (60 * s + p))), some (.int (nI (60 * s2 + p))), some (.int 0), some (.int k)] [] (rOv σ o sc ar) P := by
    intro k hne
    rw [show decide (c1 = c2) = false from decide_eq_false hne] at hP
    refine (b123_43 hR).mpr ⟨nI_in (N := 180) hf (by omega), ?_⟩
    have fin := (b123_102 (P := P) (σ := σ) (o := o) (sc := sc) (ar := ar) (x1 := nI s) (x2 := nI s2) (x3 := nI p) (x4 := nI (60 * s + p)) (x5 := nI (60 * s2 + p)) (x6 := 0) (x7 := k) hR).mpr ⟨Or.inl rfl, hP⟩
    split
    · exact fin
    · exact (b123_55 hR).mpr (ifp rfl fin)
  by_cases c : lenI c1 = lenI c2
  · refine ifn (fun r => r c) ((b123_33 hR).mpr ((b123_38 hR).mpr ?_))
    rcases (lenI_eq l1 l2).mp c with ⟨e1, e2⟩ | ⟨a, b, e1, e2, e3⟩
    · rw [e1, e2] at hP
      refine (b123_43 hR).mpr ⟨nI_in (N := 180) hf (by omega), ?_⟩
      rw [nI_clamp (by omega), h1.1, e1]
      exact ifp (by decide) ((b123_102 hR).mpr ⟨Or.inr rfl, hP⟩)
    · have a64 := l1 a e1
      have r1 := h1.2 a e1
      have r2 := h2.2 b e2
      have key : ∀ e k, k + e = a.length → a.take k = b.take k → wp 123 43 [some (.ref o), some (.int (nI s)), some (.int (nI s2)), some (.int (nI p)), some (.int (nI (60 * s + p))), some (.int (nI (60 * s2 + p))), some (.int 1), some (.int (nI k))] [] (rOv σ o sc ar) P := by
        intro e
        induction e with
        | zero =>
          intro k hk ht
          have : c1 = c2 := by
            rw [e1, e2]
            rw [List.take_of_length_le (by omega), List.take_of_length_le (by omega)] at ht
            rw [ht]
          rw [show decide (c1 = c2) = true from decide_eq_true this] at hP
          refine (b123_43 hR).mpr ⟨nI_in (N := 180) hf (by omega), ?_⟩
          rw [nI_clamp (by omega), h1.1, e1]
          exact ifp (nI_le (by omega) (by omega)) ((b123_102 hR).mpr ⟨Or.inr rfl, hP⟩)
        | succ e ih =>
          intro k hk ht
          refine (b123_43 hR).mpr ⟨nI_in (N := 180) hf (by omega), ?_⟩
          rw [nI_clamp (by omega), h1.1, e1]
          refine ifn (nI_ge (a := k) (b := a.length) (by omega) (by omega)) ((b123_55 hR).mpr (ifn (by decide) ((b123_60 hR).mpr ?_)))
          rw [i64, i64, nI_clamp (by omega), nI_clamp (by omega), RRow_get r1 (by omega), RRow_get r2 (by omega)]
          refine ⟨nI_in (N := 11520) (by omega) (by omega), nI_in (N := 11520) (by omega) (by omega), ?_⟩
          by_cases d : a[k] = b[k]
          · refine ifn (fun r => r d) ((b123_89 hR).mpr ((b123_94 hR).mpr ?_))
            rw [nI_1]
            refine ih (k + 1) (by omega) ?_
            rw [List.take_add_one, List.take_add_one, ht, List.getElem?_eq_getElem (by omega), List.getElem?_eq_getElem (by omega), d]
          · refine ifp d ((b123_93 hR).mpr ((b123_94 hR).mpr (no _ ?_)))
            intro r
            rw [e1, e2] at r
            have r := Option.some.inj r
            subst r
            exact d rfl
      exact key _ 0 (Nat.zero_add _) rfl
  · refine ifp c ((b123_37 hR).mpr ((b123_38 hR).mpr (no 0 (fun r => c (by rw [r])))))
/-- a file's content is copied from space s into space s2 -/
theorem r_copyFile (hR : RShape σ o) (hf : 60 * s + p < 180) (hg : 60 * s2 + p < 180) (hne : s ≠ s2) (h1 : RCc ar 25 26 (60 * s + p) c) (l1 : ∀ l, c = some l → l.length ≤ 64) (hP : ∀ ar', RCc ar' 25 26 (60 * s2 + p) c → FrC ar ar' 25 26 (60 * s2 + p) → Ag sc ar sc ar' [5, 6] → P none (rOv σ o sc ar')) : wpM 124 [.ref o, .int (nI s), .int (nI s2), .int (nI p)] (rOv σ o sc ar) P := by
  refine (b124 hR).mpr ?_
  rw [i60, i60, nI_clamp (by omega), nI_clamp (by omega), h1.1]
  refine ⟨nI_in (N := 180) hf (by omega), nI_in (N := 180) hg (by omega), ?_⟩
  have hfg : 60 * s + p ≠ 60 * s2 + p := by omega
  generalize 60 * s + p = f at *
  generalize 60 * s2 + p = g at *
  have e25 : ∀ k, cpA (upA ar 25 g (lenI c)) 26 (64 * g) 26 (64 * f) k 25 f = lenI c := fun k => by rw [cpA_ne (by decide), upA_ne (fun r => hfg r.2)]; exact h1.1
  have fin : ∀ n, (∀ l, c = some l → n = l.length) → n ≤ 64 → P none (rOv σ o sc (cpA (upA ar 25 g (lenI c)) 26 (64 * g) 26 (64 * f) n)) := by
    intro n hn h64
    refine hP _ ⟨?_, fun l hl => ?_⟩ (fun h hh => ⟨?_, fun i hi => ?_⟩) ((Ag_ar (by decide)).tr (Ag_cp (by decide)))
    · rw [cpA_ne (by decide), upA_same]
    · have hr : RRow (upA ar 25 g (lenI c)) 26 (64 * f) l := RRow_ag (h1.2 l hl) (fun i => upA_ne (fun r => absurd r.1 (by decide)))
      rw [hn l hl]
      exact cpA_row hr
    · rw [cpA_ne (by decide), upA_ne (fun r => hh r.2)]
    · rw [cpA_out (by omega), upA_ne (fun r => absurd r.1 (by decide))]
  have start := fin 0
  cases hc : c with
  | none =>
    rw [hc] at e25
    have e0 := e25 0
    rw [hc, cpA_0] at start
    rw [cpA_0] at e0
    refine (b124_33 hR).mpr ⟨nI_in (N := 180) hf (by omega), ?_⟩
    rw [nI_clamp (by omega), e0]
    exact ifp (by decide) ((b124_77 hR).mpr (start (fun l hl => by cases hl) (by omega)))
  | some a =>
    rw [hc] at fin e25 l1
    have a64 := l1 a rfl
    have key : ∀ e k, k + e = a.length → wp 124 33 [some (.ref o), some (.int (nI s)), some (.int (nI s2)), some (.int (nI p)), some (.int (nI f)), some (.int (nI g)), some (.int (nI k))] [] (rOv σ o sc (cpA (upA ar 25 g (lenI (some a))) 26 (64 * g) 26 (64 * f) k)) P := by
      intro e
      induction e with
      | zero =>
        intro k hk
        refine (b124_33 hR).mpr ⟨nI_in (N := 180) hf (by omega), ?_⟩
        rw [nI_clamp (by omega), e25 k]
        exact ifp (nI_le (by omega) (by omega)) ((b124_77 hR).mpr (fin k (fun l hl => by cases hl; omega) (by omega)))
      | succ e ih =>
        intro k hk
        refine (b124_33 hR).mpr ⟨nI_in (N := 180) hf (by omega), ?_⟩
        rw [nI_clamp (by omega), e25 k]
        refine ifn (nI_ge (a := k) (b := a.length) (by omega) (by omega)) ((b124_45 hR).mpr ?_)
        rw [i64, i64, nI_clamp (by omega), nI_clamp (by omega), cpA_step (by omega), nI_1]
        exact ⟨nI_in (N := 11520) (by omega) (by omega), nI_in (N := 11520) (by omega) (by omega), ih (k + 1) (by omega)⟩
    have := key _ 0 (Nat.zero_add _)
    rw [cpA_0] at this
    exact this
theorem r_copy (hR : RShape σ o) (h : RefR sc ar w) (hI : WInv w) (hP : ∀ sc' ar', RefR sc' ar' (sCopy w x).1 → P (some (.int (sCopy w x).2)) (rOv σ o sc' ar')) : wpM 125 [.ref o, .int x] (rOv σ o sc ar) P := by
  have hn := hI.1.2.1
  have h1n := hI.1.1
  unfold sCopy at hP
  refine (b125 hR).mpr ?_
  rcases ixN_cases x (n := 2) (by omega) with ⟨e, hx⟩ | ⟨s, hs, rfl, e⟩
  · rw [e] at hP
    exact rspace_no hR hx ((b125_6 hR).mpr (ifn (fun r => r rfl) ((b125_9 hR).mpr (hP sc ar h))))
  · rw [e] at hP
    dsimp only at hP
    refine rspace_yes hR hs ((b125_6 hR).mpr (ifp (by decide) ((b125_12 hR).mpr ?_)))
    obtain ⟨q1, q2, q3, q4, q5, q6, q7⟩ := id h
    have es : (1 : Int32) - nI s = nI (1 - s) := by
      have : s = 0 ∨ s = 1 := by omega
      rcases this with r | r <;> subst r <;> decide
    have hl : ∀ s, s < 2 → ∀ p, p < tN (wT w) → ∀ l, wC w s p = some l → l.length ≤ 64 := fun s hs => hI.2.2.1.len hs
    have hlc : ∀ n p, p < tN (wT w) → ∀ l, (cpyW (wT w) (srcW w) (wC w (1 - s)) (wC w s) n).1 p = some l → l.length ≤ 64 := by
      intro n p hp l hl'
      by_cases c : p < n
      · rw [cpyW_at n p c] at hl'
        split at hl'
        · exact hl (1 - s) (by omega) p hp l hl'
        · exact hl s hs p hp l hl'
      · rw [cpyW_ge n p (by omega)] at hl'; exact hl s hs p hp l hl'
    have key : ∀ e k ar', k + e = tN (wT w) → 1 ≤ k → RConS ar' s (tN (wT w)) (cpyW (wT w) (srcW w) (wC w (1 - s)) (wC w s) k).1 → RConS ar' (1 - s) (tN (wT w)) (wC w (1 - s)) → Ag sc ar sc ar' [5, 6] → wp 125 16 [some (.ref o), some (.int (nI s)), some (.int (nI (cpyW (wT w) (srcW w) (wC w (1 - s)) (wC w s) k).2)), some (.int (nI k))] [] (rOv σ o sc ar') P := by
      intro e
      induction e with
      | zero =>
        intro k ar' hk h1 hc1 hc2 hA
        have hk : k = tN (wT w) := by omega
        subst hk
        refine (b125_16 hR).mpr (ifp (by rw [q1.1]; exact nI_le (by omega) (by omega)) ((b125_62 hR).mpr (hP _ _ ⟨RTree_ag q1 hA (by decide), ?_, RTape_ag q3 hA (by decide), RAct_ag q4 hA (by decide), RWas_ag q5 hA (by decide), RCac_ag q6 hA (by decide), RLog_ag q7 hA (by decide)⟩)))
        show RConS ar' 0 (tN (wT w)) (fup (wC w) s _ 0) ∧ RConS ar' 1 (tN (wT w)) (fup (wC w) s _ 1)
        have : s = 0 ∨ s = 1 := by omega
        rcases this with r | r <;> subst r
        · rw [fup_same, fup_ne (by omega)]; exact ⟨hc1, hc2⟩
        · rw [fup_same, fup_ne (by omega)]; exact ⟨hc2, hc1⟩
      | succ e ih =>
        intro k ar' hk h1 hc1 hc2 hA
        have hkn : k < tN (wT w) := by omega
        refine (b125_16 hR).mpr (ifn (by rw [q1.1]; exact nI_ge (by omega) (by omega)) ((b125_24 hR).mpr (rsrc_ok hR (RTree_ag q1 hA (by decide)) hn (hI.1.mk31 hI.2.1 hkn) hkn ((b125_29 hR).mpr ?_))))
        have ek : (cpyW (wT w) (srcW w) (wC w (1 - s)) (wC w s) k).1 k = wC w s k := cpyW_ge k k (Nat.le_refl _)
        have st : cpyW (wT w) (srcW w) (wC w (1 - s)) (wC w s) (k + 1) = if srcW w k = true ∧ (cpyW (wT w) (srcW w) (wC w (1 - s)) (wC w s) k).1 k ≠ wC w (1 - s) k then (fup (cpyW (wT w) (srcW w) (wC w (1 - s)) (wC w s) k).1 k (wC w (1 - s) k), (cpyW (wT w) (srcW w) (wC w (1 - s)) (wC w s) k).2 + 1) else cpyW (wT w) (srcW w) (wC w (1 - s)) (wC w s) k := rfl
        have skip : ¬ (srcW w k = true ∧ (cpyW (wT w) (srcW w) (wC w (1 - s)) (wC w s) k).1 k ≠ wC w (1 - s) k) → wp 125 56 [some (.ref o), some (.int (nI s)), some (.int (nI (cpyW (wT w) (srcW w) (wC w (1 - s)) (wC w s) k).2)), some (.int (nI k))] [] (rOv σ o sc ar') P := by
          intro hno
          refine (b125_56 hR).mpr ?_
          rw [nI_1]
          have := ih (k + 1) ar' (by omega) (by omega)
          rw [st, if_neg hno] at this
          exact this hc1 hc2 hA
        by_cases d : srcW w k = true
        · rw [d]
          refine ifn (by decide) ((b125_32 hR).mpr ?_)
          rw [es]
          refine r_alike hR (by omega) (by omega) (hc1 k h1 hkn) (hc2 k h1 hkn) (hlc k k hkn) (hl (1 - s) (by omega) k hkn) ((b125_41 hR).mpr ?_)
          by_cases c : (cpyW (wT w) (srcW w) (wC w (1 - s)) (wC w s) k).1 k = wC w (1 - s) k
          · rw [show decide ((cpyW (wT w) (srcW w) (wC w (1 - s)) (wC w s) k).1 k = wC w (1 - s) k) = true from decide_eq_true c]
            exact ifp (by decide) (skip (fun r => r.2 c))
          · rw [show decide ((cpyW (wT w) (srcW w) (wC w (1 - s)) (wC w s) k).1 k = wC w (1 - s) k) = false from decide_eq_false c]
            refine ifn (fun r => r rfl) ((b125_44 hR).mpr ?_)
            rw [es]
            refine r_copyFile hR (by omega) (by omega) (by omega) (hc2 k h1 hkn) (hl (1 - s) (by omega) k hkn) (fun ar2 hn2 hF2 hA2 => (b125_53 hR).mpr ((b125_56 hR).mpr ?_))
            rw [nI_1, nI_1]
            have := ih (k + 1) ar2 (by omega) (by omega)
            rw [st, if_pos ⟨d, c⟩] at this
            exact this (RConS_set hc1 hn (hlc k) hF2 hn2) (RConS_fr hc2 (hl (1 - s) (by omega)) hF2 (fun p _ _ => by omega)) (hA.tr hA2)
        · rw [show srcW w k = false by simpa using d]
          exact ifp rfl (skip (fun r => d r.1))
    have e1 : cpyW (wT w) (srcW w) (wC w (1 - s)) (wC w s) 1 = (wC w s, 0) := by
      have s0 : srcW w 0 = false := by unfold srcW; rw [hI.1.2.2.1.2.2.1]; rfl
      show (if srcW w 0 = true ∧ _ then _ else _) = _
      rw [s0, if_neg (fun r => by cases r.1)]; rfl
    have := key (tN (wT w) - 1) 1 ar (by omega) (by omega)
    rw [e1] at this
    exact this (RCon_at q2 hs) (RCon_at q2 (by omega)) Ag.rf
end RC1
