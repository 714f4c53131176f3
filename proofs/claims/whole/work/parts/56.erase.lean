/-! THE CLASS: erase, copies -/
section GX
variable {σ τ υ : zSt} {P : Option Value → zSt → Prop} {X N M : Nat} {pa aa ea sa : List Nat} {z : Nat → Con} {w : WT} {t : TreT} {a : ActT} {x y n : Int32} {p s i k l : Nat} {u : Nat → Nat → Bool} {xs : List Nat} {Cs Ks Ls : Nat → Prop} {Fs : Nat → Nat → Nat → Prop}
def mkOff (f : Nat → Option Nat) (l : List Nat) : Nat → Option Nat := fun p => if p ∈ l then none else f p
def nonL (c : Nat → Nat → Con) (l : List Nat) : Nat → Nat → Con := fun s k => if k ∈ l then none else c s k
theorem mkOff_snoc (f : Nat → Option Nat) (l : List Nat) (p : Nat) : fup (mkOff f l) p none = mkOff f (l ++ [p]) := by
  funext q
  unfold fup mkOff
  by_cases e : q = p
  · simp [e]
  · simp [e]
theorem nonL_snoc (c : Nat → Nat → Con) (l : List Nat) (p : Nat) : nonP (nonL c l) p = nonL c (l ++ [p]) := by
  funext s q
  unfold nonP nonL
  by_cases e : q = p
  · simp [e]
  · simp [e]
theorem LPost_0 {τ : zSt} (hK : CCac σ X ea sa (wK w)) (hR : Rm σ X ea sa N M) (h : LPost σ τ l []) (h1 : l ≠ X + 16) (h2 : l ≠ X + 17) : Rm τ X ea sa (N + 10) (M + 40) := Rm_L hR hK h h1 h2
theorem strip_ok (hG : ClsU σ X pa aa ea sa z w u) (hR : Rm σ X ea sa N M) (hI : WInv w) (hi : i < aN (wA w)) (hP : ∀ τ, ClsU τ X pa aa ea sa z (setMk (wT w) (mkOff (tMk (wT w)) (aOut (wA w) i)), (aN (wA w), fup (aIns (wA w)) i [], fup (aOut (wA w)) i [], fup (aSt (wA w)) i []), nonL (wC w) (aOut (wA w) i), wP w, wW w, wK w, wL w) u → Rm τ X ea sa (N + 20) (M + 80) → RF σ τ → P (some (.int (nI (aSt (wA w) i).length))) τ) : wpM 3 [.ref (pA aa i)] σ P := by
  have hlen := (hI.2.1.2.1 i hi).2.2.2.1
  have hmem := (hI.2.1.2.1 i hi).2.2.2.2.2.1
  obtain ⟨g0, g1, g2, g3, g4, g5⟩ := hG.2.2.2.2.2.1.2.2.2 i hi
  refine b3.mpr ⟨g0, ?_⟩
  rw [g3]
  have key : ∀ d j τ, j + d = (aOut (wA w) i).length → ClsU τ X pa aa ea sa z (setMk (wT w) (mkOff (tMk (wT w)) ((aOut (wA w) i).take j)), wA w, nonL (wC w) ((aOut (wA w) i).take j), wP w, wW w, wK w, wL w) u → Rm τ X ea sa N M → RF σ τ → wp 3 7 [some (.ref (pA aa i)), some (.int (nI (aSt (wA w) i).length)), some (.int (nI j))] [] τ P := by
    intro d
    induction d with
    | zero =>
      intro j τ e hG hR hF
      have hC := hG.C
      obtain ⟨g0, g1, g2, g3, g4, g5⟩ := hG.2.2.2.2.2.1.2.2.2 i hi
      refine (b3_7 hC).mpr ⟨g0, size_ok g2 (b3_15.mpr (ifp (by rw [List.length_map]; exact nI_le (Nat.le_of_eq (by show (aOut (wA w) i).length = j; omega)) (by omega)) ((b3_39 hC).mpr ⟨g0, clear_ok hG.1 g1 (fun τ1 h1 => ?_)⟩)))⟩
      obtain ⟨hG1, hF1⟩ := ClsU_ins (xs := []) hG hi h1
      have hC1 := hG1.C
      have hX := hG.2.1
      obtain ⟨k0, k1, k2, k3, k4, k5⟩ := hG1.2.2.2.2.2.1.2.2.2 i hi
      refine (b3_46 hC1).mpr ⟨k0, clear_ok hG1.1 k2 (fun τ2 h2 => ?_)⟩
      obtain ⟨hG2, hF2⟩ := ClsU_out (xs := []) hG1 hi h2
      have hX1 := hG1.2.1
      obtain ⟨hG3, hF3⟩ := ClsU_st0 hG2 hi
      obtain ⟨m0, _⟩ := hG2.2.2.2.2.2.1.2.2.2 i hi
      refine b3_53.mpr ⟨m0, ?_⟩
      rw [List.take_of_length_le (by omega)] at hG3
      have r1 := LPost_0 (w := (setMk (wT w) (mkOff (tMk (wT w)) ((aOut (wA w) i).take j)), wA w, nonL (wC w) ((aOut (wA w) i).take j), wP w, wW w, wK w, wL w)) hG.2.2.2.2.2.2.2.1 hR h1 (fun q => al_X hC g0 hX (Or.inl rfl) (by omega) q) (fun q => al_X hC g0 hX (Or.inl rfl) (by omega) q)
      have r2 := Rm_L (w := w) r1 hG1.2.2.2.2.2.2.2.1 h2 (fun q => al_X hC1 k0 hX1 (Or.inr rfl) (by omega) q) (fun q => al_X hC1 k0 hX1 (Or.inr rfl) (by omega) q)
      have hK2 := hG2.2.2.2.2.2.2.2.1
      have r3 := Rm_na r2 (hF3.cap id hK2.1) (hF3.cap id hK2.2.1) ⟨rfl, rfl⟩
      exact hP _ hG3 (Rm_mono r3 (by simp) (by simp)) (hF.tr ((hF1.rf (fun _ _ _ q => q.elim)).tr ((hF2.rf (fun _ _ _ q => q.elim)).tr (hF3.rf (fun _ _ _ q => by omega)))))
    | succ d ih =>
      intro j τ e hG hR hF
      have hC := hG.C
      obtain ⟨g0, g1, g2, g3, g4, g5⟩ := hG.2.2.2.2.2.1.2.2.2 i hi
      have hj : j < (aOut (wA w) i).length := by omega
      have hp := (hmem _ (List.getElem_mem hj)).1
      have hj' : j < ((aOut (wA w) i).map (pA pa)).length := by rw [List.length_map]; exact hj
      have g2' : LVal τ (pA aa i + 2) ((aOut (wA w) i).map (pA pa)) := g2
      refine (b3_7 hC).mpr ⟨g0, size_ok g2' (b3_15.mpr (ifn (by rw [List.length_map]; exact nI_ge hj (by omega)) ((b3_18 hC).mpr ⟨g0, get_ok g2' hj' (b3_26.mpr ?_)⟩)))⟩
      rw [List.getElem_map]
      refine ⟨(hG.2.2.1.2.2 _ hp).1, made_ok (v := none) hG hI.1.2.1 hp (fun τ1 hG1 hN1 hF1 q1 q2 => b3_33.mpr ?_)⟩
      rw [nI_1]
      refine ih (j + 1) τ1 (by omega) ?_ (Rm_na hR q1 q2 hN1) (hF.tr hF1)
      have tk : (aOut (wA w) i).take (j + 1) = (aOut (wA w) i).take j ++ [(aOut (wA w) i)[j]] := by rw [List.take_add_one, List.getElem?_eq_getElem hj]; rfl
      rw [tk, ← mkOff_snoc, ← nonL_snoc]
      exact hG1
  refine key _ 0 σ (Nat.zero_add _) ?_ hR RF.rf
  have e1 : mkOff (tMk (wT w)) ((aOut (wA w) i).take 0) = tMk (wT w) := by funext p; unfold mkOff; simp
  have e2 : nonL (wC w) ((aOut (wA w) i).take 0) = wC w := by funext s p; unfold nonL; simp
  rw [e1, e2]
  exact hG
theorem erase_ok (h : Cls σ X w N M) (hI : WInv w) (hI' : WInv (sErase w x).1) (hP : ∀ τ, Cls τ X (sErase w x).1 (N + 20) (M + 80) → RF σ τ → P (some (.int (sErase w x).2)) τ) : wpM 94 [.ref X, .int x] σ P := by
  obtain ⟨pa, aa, ea, sa, z, hG, hR⟩ := h
  have hC := hG.C
  have hG' := hG
  obtain ⟨hH, hX, hT, hCC, hTp, hA, hW, hK, hLg⟩ := hG'
  have h31 := hI.2.1.n31
  refine (b94 hC).mpr ⟨hX.1, ?_⟩
  rcases ixN_cases x h31 with ⟨e, hx⟩ | ⟨i, hi, rfl, e⟩
  · have := hP σ
    have e2 : sErase w x = (w, -2) := by unfold sErase; rw [e]
    rw [e2] at this
    exact ahas_no hC hX.1 hA h31 hx (b94_8.mpr (ifn (fun q => q rfl) (b94_11.mpr (this ⟨pa, aa, ea, sa, z, hG, Rm_mono hR (by omega) (by omega)⟩ RF.rf))))
  have e2 : sErase w (nI i) = ((setMk (wT w) (mkOff (tMk (wT w)) (aOut (wA w) i)), (aN (wA w), fup (aIns (wA w)) i [], fup (aOut (wA w)) i [], fup (aSt (wA w)) i []), nonL (wC w) (aOut (wA w) i), wP w, wW w, wK w, wL w), nI (aSt (wA w) i).length) := by
    unfold sErase; rw [e]; rfl
  rw [e2] at hP hI'
  refine ahas_yes hC hX.1 hA hi (b94_8.mpr (ifp (by decide) ((b94_14 hC).mpr ⟨hX.1, aat_ok hC hX.1 hA hi (b94_22.mpr ⟨(hA.2.2.2 i hi).1, strip_ok hG hR hI hi (fun τ hG1 hR1 hF1 => ?_)⟩)⟩)))
  have hC1 := hG1.C
  refine (b94_25 hC1).mpr ⟨hG1.2.1.1, renew_ok hG1 hI'.1 hI'.2.1 (fun υ hG2 hN2 hF2 => b94_33.mpr ?_)⟩
  have hK1 := hG1.2.2.2.2.2.2.2.1
  exact hP υ ⟨pa, aa, ea, sa, z, hG2, Rm_na hR1 (hF2.cap id hK1.1) (hF2.cap id hK1.2.1) hN2⟩ (hF1.tr (hF2.rf (fun _ _ _ q => by have := q.1; omega)))
/-- sources of a space come from another; s' may be the trial's -/
theorem cpyS_ok (hG : ClsG σ X pa aa ea sa z w) (hR : Rm σ X ea sa N M) (hI : WInv w) {s s' : Nat} (hs : s < 2) (hs' : s' < 2) (hne : s ≠ s') (hP : ∀ τ c' z', (∀ q p, q < 2 → p < tN (wT w) → con3 c' z' q p = if q = s' then (cpyW (wT w) (fun p => decide (tMk (wT w) p = none)) (con3 (wC w) z s) (con3 (wC w) z s') (tN (wT w))).1 p else con3 (wC w) z q p) → (s' = 2 → c' = wC w) → (s' ≠ 2 → z' = z ∧ c' = fup (wC w) s' (cpyW (wT w) (fun p => decide (tMk (wT w) p = none)) (con3 (wC w) z s) (con3 (wC w) z s') (tN (wT w))).1) → ClsG τ X pa aa ea sa z' (wT w, wA w, c', wP w, wW w, wK w, wL w) → Rm τ X ea sa N M → RF σ τ → P (some (.int (nI (cpyW (wT w) (fun p => decide (tMk (wT w) p = none)) (con3 (wC w) z s) (con3 (wC w) z s') (tN (wT w))).2))) τ) : wpM 80 [.ref (X + 1), .int (nI s), .int (nI s')] σ P := by
  have h60 := hI.1.2.1
  refine b80.mpr ?_
  have key : ∀ d j τ c' z' u5, j + d = tN (wT w) → (∀ q p, q < 2 → p < tN (wT w) → con3 c' z' q p = if q = s' then (cpyW (wT w) (fun p => decide (tMk (wT w) p = none)) (con3 (wC w) z s) (con3 (wC w) z s') j).1 p else con3 (wC w) z q p) → (s' = 2 → c' = wC w) → (s' ≠ 2 → z' = z ∧ c' = fup (wC w) s' (cpyW (wT w) (fun p => decide (tMk (wT w) p = none)) (con3 (wC w) z s) (con3 (wC w) z s') j).1) → ClsG τ X pa aa ea sa z' (wT w, wA w, c', wP w, wW w, wK w, wL w) → Rm τ X ea sa N M → RF σ τ → wp 80 5 [some (.ref (X + 1)), some (.int (nI s)), some (.int (nI s')), some (.int (nI (cpyW (wT w) (fun p => decide (tMk (wT w) p = none)) (con3 (wC w) z s) (con3 (wC w) z s') j).2)), some (.int (nI j)), u5] [] τ P := by
    intro d
    induction d with
    | zero =>
      intro j τ c' z' u5 e h1 h2 h3 hG hR hF
      have hC := hG.C
      have hT := hG.2.2.1
      have e : j = tN (wT w) := by omega
      subst e
      exact (b80_5 hC).mpr ⟨x_tree hC hG.2.1.1, size_ok hT.1 (b80_14.mpr (ifp (by rw [hT.2.1]; exact Int32.le_refl _) (b80_89.mpr (hP τ c' z' h1 h2 h3 hG hR hF))))⟩
    | succ d ih =>
      intro j τ c' z' u5 e h1 h2 h3 hG hR hF
      have hC := hG.C
      have hT := hG.2.2.1
      have hCC := hG.2.2.2.1
      have hj : j < tN (wT w) := by omega
      have hj' : j < pa.length := by rw [hT.2.1]; exact hj
      obtain ⟨g0, g1, g2, g3, g4, g5, g6⟩ := hT.2.2 j hj
      refine (b80_5 hC).mpr ⟨x_tree hC hG.2.1.1, size_ok hT.1 (b80_14.mpr (ifn (by rw [hT.2.1]; exact nI_ge (show j < tN (wT w) from hj) (show tN (wT w) < _ by omega)) ((b80_17 hC).mpr ⟨x_tree hC hG.2.1.1, get_ok hT.1 hj' (b80_26.mpr ?_)⟩)))⟩
      rw [pA_elem hj']
      refine ⟨g0, ?_⟩
      rw [g5]
      have mk31 := hI.1.mk31 hI.2.1 hj
      have skip : ∀ u5, ¬ ((fun p => decide (tMk (wT w) p = none)) j = true ∧ (cpyW (wT w) (fun p => decide (tMk (wT w) p = none)) (con3 (wC w) z s) (con3 (wC w) z s') j).1 j ≠ con3 (wC w) z s j) → wp 80 83 [some (.ref (X + 1)), some (.int (nI s)), some (.int (nI s')), some (.int (nI (cpyW (wT w) (fun p => decide (tMk (wT w) p = none)) (con3 (wC w) z s) (con3 (wC w) z s') j).2)), some (.int (nI j)), some (.ref u5)] [] τ P := by
        intro u5 hn
        have ec : cpyW (wT w) (fun p => decide (tMk (wT w) p = none)) (con3 (wC w) z s) (con3 (wC w) z s') (j + 1) = cpyW (wT w) (fun p => decide (tMk (wT w) p = none)) (con3 (wC w) z s) (con3 (wC w) z s') j := if_neg hn
        refine b80_83.mpr ?_
        rw [nI_1]
        have := ih (j + 1) τ c' z' (some (.ref u5)) (by omega) (by rw [ec]; exact h1) h2 (by rw [ec]; exact h3) hG hR hF
        rw [ec] at this
        exact this
      by_cases hm : tMk (wT w) j = none
      · have e5 : optI (tMk (wT w) j) = -1 := by rw [hm]; rfl
        have e5' : optI (tMk (setMk (wT w) (tMk (wT w))) j) = -1 := e5
        refine ifn (fun q => q e5) ((b80_40 hC).mpr ⟨g0, nI_in hs' (by omega), nI_in hs (by omega), ?_⟩)
        rw [nI_clamp (by omega), nI_clamp (by omega), show pA pa j + 1 + 2 + 2 * s' = pA pa j + 3 + 2 * s' by omega, show pA pa j + 1 + 2 + 2 * s = pA pa j + 3 + 2 * s by omega]
        have c1 := hCC s' j hs' hj
        have c2 := hCC s j hs hj
        have e1 : con3 (wC (wT w, wA w, c', wP w, wW w, wK w, wL w)) z' s' j = (cpyW (wT w) (fun p => decide (tMk (wT w) p = none)) (con3 (wC w) z s) (con3 (wC w) z s') j).1 j := by
          rw [show wC (wT w, wA w, c', wP w, wW w, wK w, wL w) = c' from rfl, h1 s' j hs' hj, if_pos rfl]
        have e2 : con3 (wC (wT w, wA w, c', wP w, wW w, wK w, wL w)) z' s j = con3 (wC w) z s j := by
          rw [show wC (wT w, wA w, c', wP w, wW w, wK w, wL w) = c' from rfl, h1 s j hs hj, if_neg hne]
        rw [e1] at c1
        rw [e2] at c2
        refine sameAs_ok hC c1 c2 (b80_57.mpr ?_)
        by_cases hsame : (cpyW (wT w) (fun p => decide (tMk (wT w) p = none)) (con3 (wC w) z s) (con3 (wC w) z s') j).1 j = con3 (wC w) z s j
        · rw [if_pos hsame]
          exact ifn (by decide) (b80_60.mpr (skip _ (fun q => q.2 hsame)))
        · rw [if_neg hsame]
          refine ifp rfl ((b80_63 hC).mpr ⟨g0, nI_in hs' (by omega), nI_in hs (by omega), ?_⟩)
          rw [nI_clamp (by omega), nI_clamp (by omega), show pA pa j + 1 + 2 + 2 * s' = pA pa j + 3 + 2 * s' by omega, show pA pa j + 1 + 2 + 2 * s = pA pa j + 3 + 2 * s by omega]
          refine become_ok hC c2 (fun q => hne ((pc_inj hC g0 g0 hs hs' q.symm).2)) c1.1 (fun τ1 ht => ?_)
          have ec : cpyW (wT w) (fun p => decide (tMk (wT w) p = none)) (con3 (wC w) z s) (con3 (wC w) z s') (j + 1) = (fup (cpyW (wT w) (fun p => decide (tMk (wT w) p = none)) (con3 (wC w) z s) (con3 (wC w) z s') j).1 j (con3 (wC w) z s j), (cpyW (wT w) (fun p => decide (tMk (wT w) p = none)) (con3 (wC w) z s) (con3 (wC w) z s') j).2 + 1) := if_pos ⟨decide_eq_true hm, hsame⟩
          have hcn : ∀ V : Con, ∀ q p, q < 2 → p < tN (wT w) → con3 (if s' = 2 then c' else fup c' s' (fup (c' s') j V)) (if s' = 2 then fup z' j V else z') q p = if q = s' ∧ p = j then V else con3 c' z' q p := by
            intro V q p hq hp
            by_cases e2 : s' = 2
            · rw [if_pos e2, if_pos e2]
              unfold con3 fup
              by_cases q2 : q = 2
              · rw [if_pos q2, if_pos q2]
                by_cases pj : p = j
                · rw [if_pos pj, if_pos ⟨by omega, pj⟩]
                · rw [if_neg pj, if_neg (fun r => pj r.2)]
              · rw [if_neg q2, if_neg q2, if_neg (by omega)]
            · rw [if_neg e2, if_neg e2]
              unfold con3 fup
              by_cases q2 : q = 2
              · rw [if_pos q2, if_pos q2, if_neg (by omega)]
              · rw [if_neg q2, if_neg q2]
                by_cases qs : q = s'
                · subst qs
                  rw [if_pos rfl]
                  by_cases pj : p = j
                  · rw [if_pos pj, if_pos ⟨rfl, pj⟩]
                  · rw [if_neg pj, if_neg (fun r => pj r.2)]
                · rw [if_neg qs, if_neg (fun r => qs r.1)]
          obtain ⟨hG1, hN1, hF1, hf1⟩ := Cls_con3 (u := usesT (wT w) (wA w)) hG h60 hs' hj ht (hcn _)
          have hK := hG.2.2.2.2.2.2.2.1
          have r1 := Rm_na hR (hf1.cap id hK.1) (hf1.cap id hK.2.1) hN1
          refine b80_80.mpr (b80_83.mpr ?_)
          rw [nI_1, nI_1]
          have := ih (j + 1) τ1 _ _ (some (.ref (pA pa j))) (by omega) ?_ ?_ ?_ hG1 r1 (hF.tr hF1)
          · rw [ec] at this; exact this
          · intro q p hq hp
            rw [hcn _ q p hq hp, h1 q p hq hp, ec]
            by_cases qs : q = s'
            · rw [if_pos qs, if_pos qs]
              unfold fup
              dsimp only
              by_cases pj : p = j
              · rw [if_pos ⟨qs, pj⟩, if_pos pj]
              · rw [if_neg (fun r => pj r.2), if_neg pj]
            · rw [if_neg (fun r => qs r.1), if_neg qs, if_neg qs]
          · intro e2; rw [if_pos e2]; exact h2 e2
          · intro e2
            obtain ⟨k1, k2⟩ := h3 e2
            rw [if_neg e2, if_neg e2, ec]
            refine ⟨k1, ?_⟩
            rw [k2]
            funext q p
            unfold fup
            by_cases qs : q = s'
            · rw [if_pos qs, if_pos qs]; simp
            · rw [if_neg qs, if_neg qs, if_neg qs]
      · exact ifp (fun q => hm ((optI_m1 mk31).mp q)) (skip _ (fun q => hm (of_decide_eq_true q.1)))
  refine key _ 0 σ (wC w) z none (Nat.zero_add _) (fun q p hq hp => ?_) (fun _ => rfl) (fun e2 => ⟨rfl, ?_⟩) hG hR RF.rf
  · show _ = if _ then con3 (wC w) z s' p else _
    by_cases qs : q = s'
    · rw [if_pos qs, qs]
    · rw [if_neg qs]
  · funext q p
    show _ = fup (wC w) s' (con3 (wC w) z s') q p
    unfold fup con3
    by_cases qs : q = s'
    · rw [if_pos qs, if_neg e2, qs]
    · rw [if_neg qs]
theorem cpyW_ge {src : Nat → Bool} {f g : Nat → Con} : ∀ n p, n ≤ p → (cpyW t src f g n).1 p = g p
  | 0, _, _ => rfl
  | n + 1, p, h => by
    have ih := cpyW_ge (src := src) (f := f) (g := g) n p (by omega)
    show (if _ then (fup _ n (f n), _) else _ : (Nat → Con) × Nat).1 p = g p
    split
    · show fup _ n (f n) p = g p
      rw [fup_ne (by omega)]; exact ih
    · exact ih
theorem cpyW_at {src : Nat → Bool} {f g : Nat → Con} : ∀ n p, p < n → (cpyW t src f g n).1 p = if src p = true then f p else g p
  | 0, _, h => by omega
  | n + 1, p, h => by
    have e : cpyW t src f g (n + 1) = if src n = true ∧ (cpyW t src f g n).1 n ≠ f n then (fup (cpyW t src f g n).1 n (f n), (cpyW t src f g n).2 + 1) else cpyW t src f g n := rfl
    rw [e]
    by_cases q : p = n
    · subst q
      by_cases c : src p = true ∧ (cpyW t src f g p).1 p ≠ f p
      · rw [if_pos c, if_pos c.1]; exact fup_same
      · rw [if_neg c]
        by_cases c1 : src p = true
        · rw [if_pos c1]
          exact Classical.byContradiction fun c2 => c ⟨c1, c2⟩
        · rw [if_neg c1]; exact cpyW_ge p p (Nat.le_refl _)
    · have ih := cpyW_at (src := src) (f := f) (g := g) n p (by omega)
      split
      · show fup _ n (f n) p = _
        rw [fup_ne q]; exact ih
      · exact ih
theorem cpyW_src {src src' : Nat → Bool} {f g : Nat → Con} : ∀ n, (∀ p, p < n → src p = src' p ∨ (f p = g p)) → cpyW t src f g n = cpyW t src' f g n
  | 0, _ => rfl
  | n + 1, h => by
    have ih := cpyW_src (src := src) (src' := src') (f := f) (g := g) n (fun p hp => h p (by omega))
    have e : ∀ src, cpyW t src f g (n + 1) = if src n = true ∧ (cpyW t src f g n).1 n ≠ f n then (fup (cpyW t src f g n).1 n (f n), (cpyW t src f g n).2 + 1) else cpyW t src f g n := fun _ => rfl
    rw [e, e, ih]
    rcases h n (by omega) with q | q
    · rw [q]
    · rw [if_neg, if_neg]
      · rintro ⟨_, r⟩; rw [cpyW_ge n n (Nat.le_refl _)] at r; exact r q.symm
      · rintro ⟨_, r⟩; rw [cpyW_ge n n (Nat.le_refl _)] at r; exact r q.symm
theorem copy_ok (h : Cls σ X w N M) (hI : WInv w) (hP : ∀ τ, Cls τ X (sCopy w x).1 N M → RF σ τ → P (some (.int (sCopy w x).2)) τ) : wpM 87 [.ref X, .int x] σ P := by
  obtain ⟨pa, aa, ea, sa, z, hG, hR⟩ := h
  have hC := hG.C
  refine b87.mpr ?_
  rcases ixN_cases x (n := 2) (by omega) with ⟨e, hx⟩ | ⟨s, hs, rfl, e⟩
  · have e2 : sCopy w x = (w, -2) := by unfold sCopy; rw [e]
    have := hP σ
    rw [e2] at this
    refine isSpace_ok ?_
    rw [if_neg]
    · exact b87_4.mpr (ifn (fun q => q rfl) (b87_7.mpr (this ⟨pa, aa, ea, sa, z, hG, hR⟩ RF.rf)))
    · rintro ⟨q1, q2⟩
      rcases hx with g | g
      · exact absurd q1 (Int32.not_le.mpr g)
      · exact absurd (show x < nI 2 from q2) (Int32.not_lt.mpr g)
  · have e2 : sCopy w (nI s) = ((wT w, wA w, fup (wC w) s (cpyW (wT w) (srcW w) (wC w (1 - s)) (wC w s) (tN (wT w))).1, wP w, wW w, wK w, wL w), nI (cpyW (wT w) (srcW w) (wC w (1 - s)) (wC w s) (tN (wT w))).2) := by unfold sCopy; rw [e]
    rw [e2] at hP
    refine isSpace_ok ?_
    rw [if_pos ⟨nI_le (a := 0) (by omega) (by omega), nI_lt (b := 2) hs (by omega)⟩]
    refine b87_4.mpr (ifp (by decide) ((b87_10 hC).mpr ⟨hG.2.1.1, ?_⟩))
    rw [show (1 : Int32) - nI s = nI (1 - s) from pk_sub (a := 1) (by omega)]
    have k1 : con3 (wC w) z (1 - s) = wC w (1 - s) := by funext p; unfold con3; rw [if_neg (by omega)]
    have k2 : con3 (wC w) z s = wC w s := by funext p; unfold con3; rw [if_neg (by omega)]
    have ec : cpyW (wT w) (fun p => decide (tMk (wT w) p = none)) (wC w (1 - s)) (wC w s) (tN (wT w)) = cpyW (wT w) (srcW w) (wC w (1 - s)) (wC w s) (tN (wT w)) := by
      refine cpyW_src _ (fun p hp => ?_)
      cases hd : tDir (wT w) p with
      | false => left; unfold srcW; rw [hd]; rfl
      | true =>
        right
        rw [(hI.2.2.1 (1 - s) p (by omega) hp).2 hd, (hI.2.2.1 s p hs hp).2 hd]
    refine cpyS_ok hG hR hI (s := 1 - s) (s' := s) (by omega) (by omega) (by omega) (fun τ c' z' _ _ h3 hG1 hR1 hF1 => b87_21.mpr ?_)
    obtain ⟨q1, q2⟩ := h3 (by omega)
    rw [k1, k2, ec] at q2 ⊢
    subst q1 q2
    exact hP τ ⟨pa, aa, ea, sa, z', hG1, hR1⟩ hF1
end GX
