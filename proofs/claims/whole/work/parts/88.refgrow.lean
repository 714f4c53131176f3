/-! THE REFERENCE: a path more, an action more, a step more, an action stripped -/
section RG1
variable {σ : zSt} {o : Nat} {sc sc' : ScT} {ar ar' : ArT} {P : Option Value → zSt → Prop} {x y v : Int32} {p s i q m n : Nat} {w : WT} {d : Bool}
theorem sdec {P Q : Prop} [Decidable P] [Decidable Q] (h : P ↔ Q) : decide P = decide Q := by
  by_cases c : P
  · rw [decide_eq_true c, decide_eq_true (h.mp c)]
  · rw [decide_eq_false c, decide_eq_false (fun r => c (h.mpr r))]
theorem b2I01 {b : Bool} : b2I b = 0 ∨ b2I b = 1 := by cases b <;> decide
theorem r_path (hR : RShape σ o) (h : RefR sc ar w) (hI : WInv w) (hP : ∀ sc' ar', RefR sc' ar' (sPath w x y d).1 → P (some (.int (sPath w x y d).2)) (rOv σ o sc' ar')) : wpM 116 [.ref o, .int x, .int y, .int (b2I d)] (rOv σ o sc ar) P := by
  have hn := hI.1.2.1
  have hT := hI.1
  obtain ⟨q1, q2, q3, q4, q5, q6, q7⟩ := id h
  refine (b116 hR).mpr ?_
  have same : ∀ r, sPath w x y d = (w, r) → P (some (.int r)) (rOv σ o sc ar) := by
    intro r e
    have := hP sc ar
    rw [e] at this; exact this h
  rcases ixN_cases x (n := tN (wT w)) (by omega) with ⟨e, hx⟩ | ⟨q, hq, rfl, e⟩
  · exact rispath_no hR q1 hn hx ((b116_5 hR).mpr (ifp rfl ((b116_18 hR).mpr (same _ (by unfold sPath; rw [e])))))
  have eS : sPath w (nI q) y d = if y < 1 ∨ 26 < y then (w, -2) else if tDir (wT w) q = false then (w, -3)
    else if ((List.range (tN (wT w))).any fun k => decide (tPar (wT w) k = some q) && decide (tNam (wT w) k = y.toNatClampNeg)) = true then (w, -4)
    else if 60 ≤ tN (wT w) then (w, -6)
    else ((tAdd (wT w) q y.toNatClampNeg d, wA w, (fun s k => if k = tN (wT w) then none else wC w s k), wP w, wW w, wK w, wL w), nI (tN (wT w))) := by
    unfold sPath; rw [e]; rfl
  refine rispath_yes hR q1 hn hq ((b116_5 hR).mpr (ifn (by decide) ((b116_8 hR).mpr ?_)))
  by_cases hy : y < 1 ∨ 26 < y
  · exact rin_no hR hy ((b116_15 hR).mpr (ifn (fun r => r rfl) ((b116_18 hR).mpr (same _ (by rw [eS, if_pos hy])))))
  have y1 : 1 ≤ y := Int32.not_lt.mp (fun r => hy (Or.inl r))
  have y2 : y ≤ 26 := Int32.not_lt.mp (fun r => hy (Or.inr r))
  obtain ⟨m, rfl, hm1, hm2⟩ : ∃ m, y = nI m ∧ 1 ≤ m ∧ m ≤ 26 := by
    rcases pk_ix y (n := 27) (by omega) with g | g | ⟨k, hk, rfl⟩
    · exact absurd (Int32.lt_of_lt_of_le g (Int32.le_trans (by decide) y1)) Int32.lt_irrefl
    · exact absurd (Int32.le_trans g y2) (by decide)
    · refine ⟨k, rfl, ?_, by omega⟩
      cases k with
      | zero => exact absurd y1 (by decide)
      | succ k => omega
  rw [if_neg hy, nI_clamp (by omega)] at eS
  obtain ⟨k1, k2, k3, k4⟩ := q1.2 q hq
  refine rin_yes hR y1 y2 ((b116_15 hR).mpr (ifp (by decide) ((b116_21 hR).mpr ⟨nI_in (N := 60) (by omega) (by omega), ?_⟩)))
  rw [nI_clamp (by omega), k3]
  by_cases c0 : tDir (wT w) q = false
  · rw [c0]
    exact ifn (fun r => r rfl) ((b116_30 hR).mpr (same _ (by rw [eS, if_pos c0])))
  rw [show tDir (wT w) q = true by simpa using c0]
  refine ifp (by decide) ((b116_33 hR).mpr ?_)
  -- the paths, one after the other
  have key : ∀ e j, j + e = tN (wT w) → 1 ≤ j → (∀ k, 1 ≤ k → k < j → ¬ (tPar (wT w) k = some q ∧ tNam (wT w) k = m)) → wp 116 36 [some (.ref o), some (.int (nI q)), some (.int (nI m)), some (.int (b2I d)), some (.int (nI j))] [] (rOv σ o sc ar) P := by
    intro e
    induction e with
    | zero =>
      intro j ej h1 hno
      have ej : j = tN (wT w) := by omega
      subst ej
      have c1 : ¬ ((List.range (tN (wT w))).any fun k => decide (tPar (wT w) k = some q) && decide (tNam (wT w) k = m)) = true := by
        intro r
        obtain ⟨k, g1, g2, g3⟩ := (taken_iff hT).mp r
        exact hno k g1 g2 g3
      rw [if_neg c0, if_neg c1] at eS
      refine (b116_36 hR).mpr (ifp (by rw [q1.1]; exact nI_le (by omega) (by omega)) ((b116_76 hR).mpr ?_))
      rw [q1.1]
      by_cases c2 : 60 ≤ tN (wT w)
      · rw [if_pos c2] at eS
        refine ifn (fun r => r ?_) ((b116_85 hR).mpr (same _ eS))
        rw [show tN (wT w) = 60 by omega]; rfl
      rw [if_neg c2] at eS
      refine ifp (fun r => c2 ?_) ((b116_88 hR).mpr ?_)
      · have r : nI (tN (wT w)) = nI 60 := r
        have := (nI_eq (by omega) (by omega)).mp r
        omega
      rw [q1.1, nI_clamp (by omega)]
      refine ⟨nI_in (N := 60) (by omega) (by omega), nI_in (N := 60) (by omega) (by omega), ⟨nI_in (N := 60) (by omega) (by omega), b2I01⟩, nI_in (N := 60) (by omega) (by omega), ?_⟩
      have hA1 : Ag sc ar sc (upA (upA (upA (upA ar 21 (tN (wT w)) (nI q)) 22 (tN (wT w)) (nI m)) 23 (tN (wT w)) (b2I d)) 24 (tN (wT w)) (-1)) [0, 1, 2, 3, 4, 5] := (((Ag_ar (by decide)).tr (Ag_ar (by decide))).tr (Ag_ar (by decide))).tr (Ag_ar (by decide))
      have v21 : ∀ k, (upA (upA (upA (upA ar 21 (tN (wT w)) (nI q)) 22 (tN (wT w)) (nI m)) 23 (tN (wT w)) (b2I d)) 24 (tN (wT w)) (-1)) 21 k = if k = tN (wT w) then nI q else ar 21 k := by
        intro k; unfold upA; simp
      have v22 : ∀ k, (upA (upA (upA (upA ar 21 (tN (wT w)) (nI q)) 22 (tN (wT w)) (nI m)) 23 (tN (wT w)) (b2I d)) 24 (tN (wT w)) (-1)) 22 k = if k = tN (wT w) then nI m else ar 22 k := by
        intro k; unfold upA; simp
      have v23 : ∀ k, (upA (upA (upA (upA ar 21 (tN (wT w)) (nI q)) 22 (tN (wT w)) (nI m)) 23 (tN (wT w)) (b2I d)) 24 (tN (wT w)) (-1)) 23 k = if k = tN (wT w) then b2I d else ar 23 k := by
        intro k; unfold upA; simp
      have v24 : ∀ k, (upA (upA (upA (upA ar 21 (tN (wT w)) (nI q)) 22 (tN (wT w)) (nI m)) 23 (tN (wT w)) (b2I d)) 24 (tN (wT w)) (-1)) 24 k = if k = tN (wT w) then -1 else ar 24 k := by
        intro k; unfold upA; simp
      have v25 : ∀ k, (upA (upA (upA (upA ar 21 (tN (wT w)) (nI q)) 22 (tN (wT w)) (nI m)) 23 (tN (wT w)) (b2I d)) 24 (tN (wT w)) (-1)) 25 k = ar 25 k := by
        intro k; unfold upA; simp
      have v26 : ∀ k, (upA (upA (upA (upA ar 21 (tN (wT w)) (nI q)) 22 (tN (wT w)) (nI m)) 23 (tN (wT w)) (b2I d)) 24 (tN (wT w)) (-1)) 26 k = ar 26 k := by
        intro k; unfold upA; simp
      generalize upA (upA (upA (upA ar 21 (tN (wT w)) (nI q)) 22 (tN (wT w)) (nI m)) 23 (tN (wT w)) (b2I d)) 24 (tN (wT w)) (-1) = ar1 at *
      refine (b116_131 hR).mpr (ifn (by decide) ((b116_137 hR).mpr ?_))
      rw [q1.1, show (60 : Int32) * 0 + nI (tN (wT w)) = nI (60 * 0 + tN (wT w)) from i60 (s := 0), nI_clamp (by omega)]
      refine ⟨nI_in (N := 180) (by omega) (by omega), (b116_131 hR).mpr (ifn (by decide) ((b116_137 hR).mpr ?_))⟩
      rw [q1.1, show (60 : Int32) * (0 + 1) + nI (tN (wT w)) = nI (60 * 1 + tN (wT w)) from i60 (s := 1), nI_clamp (by omega)]
      refine ⟨nI_in (N := 180) (by omega) (by omega), (b116_131 hR).mpr (ifn (by decide) ((b116_137 hR).mpr ?_))⟩
      rw [q1.1, show (60 : Int32) * (0 + 1 + 1) + nI (tN (wT w)) = nI (60 * 2 + tN (wT w)) from i60 (s := 2), nI_clamp (by omega)]
      refine ⟨nI_in (N := 180) (by omega) (by omega), (b116_131 hR).mpr (ifp (by decide) ((b116_159 hR).mpr ?_))⟩
      rw [upS_same, q1.1, nI_1, nI_pred]
      have w25 : ∀ s k, s < 2 → k < 60 → (upA (upA (upA ar1 25 (60 * 0 + tN (wT w)) (-1)) 25 (60 * 1 + tN (wT w)) (-1)) 25 (60 * 2 + tN (wT w)) (-1)) 25 (60 * s + k) = if k = tN (wT w) then -1 else ar 25 (60 * s + k) := by
        intro s k hs hk
        rw [← v25]
        unfold upA
        by_cases c : k = tN (wT w)
        · have : s = 0 ∨ s = 1 := by omega
          rcases this with r | r <;> subst r <;> simp [c]
        · rw [if_neg c, if_neg (by omega), if_neg (by omega), if_neg (by omega)]
      have hA2 : Ag sc ar (upS sc 0 (nI (tN (wT w) + 1))) (upA (upA (upA ar1 25 (60 * 0 + tN (wT w)) (-1)) 25 (60 * 1 + tN (wT w)) (-1)) 25 (60 * 2 + tN (wT w)) (-1)) [0, 1, 2, 3, 4, 5] := (((hA1.tr (Ag_ar (by decide))).tr (Ag_ar (by decide))).tr (Ag_ar (by decide))).tr (Ag_sc (by decide))
      have e4 : ∀ t k, t ≠ 25 → (upA (upA (upA ar1 25 (60 * 0 + tN (wT w)) (-1)) 25 (60 * 1 + tN (wT w)) (-1)) 25 (60 * 2 + tN (wT w)) (-1)) t k = ar1 t k := by
        intro t k ht
        unfold upA
        rw [if_neg (fun r => ht r.1), if_neg (fun r => ht r.1), if_neg (fun r => ht r.1)]
      have conN : ∀ s, s < 2 → RConS (upA (upA (upA ar1 25 (60 * 0 + tN (wT w)) (-1)) 25 (60 * 1 + tN (wT w)) (-1)) 25 (60 * 2 + tN (wT w)) (-1)) s (tN (wT w) + 1) (fun k => if k = tN (wT w) then none else wC w s k) := by
        intro s hs k h1k hk
        by_cases c : k = tN (wT w)
        · show RCc _ 25 26 _ (if k = tN (wT w) then none else _)
          rw [if_pos c]
          exact ⟨by rw [w25 s k hs (by omega), if_pos c]; rfl, fun l hl => by cases hl⟩
        · show RCc _ 25 26 _ (if k = tN (wT w) then none else _)
          rw [if_neg c]
          have g := (RCon_at q2 hs) k h1k (by omega)
          exact ⟨by rw [w25 s k hs (by omega), if_neg c]; exact g.1, fun l hl => RRow_ag (g.2 l hl) (fun i => by rw [e4 26 _ (by decide), v26])⟩
      have fin := hP _ _ (by
        rw [eS]
        refine ⟨⟨upS_same, fun k hk => ?_⟩, ⟨conN 0 (by omega), conN 1 (by omega)⟩, RTape_ag q3 hA2 (by decide), RAct_ag q4 hA2 (by decide), RWas_ag q5 hA2 (by decide), RCac_ag q6 hA2 (by decide), RLog_ag q7 hA2 (by decide)⟩
        · have hk : k < tN (wT w) + 1 := hk
          rw [e4 21 k (by decide), e4 22 k (by decide), e4 23 k (by decide), e4 24 k (by decide), v21, v22, v23, v24]
          show _ = optI (fup (tPar (wT w)) (tN (wT w)) (some q) k) ∧ _ = nI (fup (tNam (wT w)) (tN (wT w)) m k) ∧ _ = b2I (fup (tDir (wT w)) (tN (wT w)) d k) ∧ _ = optI (fup (tMk (wT w)) (tN (wT w)) none k)
          by_cases c : k = tN (wT w)
          · rw [if_pos c, if_pos c, if_pos c, if_pos c, c, fup_same, fup_same, fup_same, fup_same]; exact ⟨rfl, rfl, rfl, rfl⟩
          · rw [if_neg c, if_neg c, if_neg c, if_neg c, fup_ne c, fup_ne c, fup_ne c, fup_ne c]; exact q1.2 k (by omega))
      rw [eS] at fin
      exact fin
    | succ e ih =>
      intro j ej h1 hno
      have hj : j < tN (wT w) := by omega
      obtain ⟨j1, j2, j3, j4⟩ := q1.2 j hj
      obtain ⟨⟨q', hq', hpar, _⟩, hn1, hn2⟩ := hT.2.2.2.1 j h1 hj
      have epar : optI (tPar (wT w) j) = nI q ↔ tPar (wT w) j = some q := optI_eq (a := tPar (wT w) j) (b := some q) (fun k hk => by rw [hpar] at hk; cases hk; omega) (fun k hk => by cases hk; omega)
      have nxt : ¬ (tPar (wT w) j = some q ∧ tNam (wT w) j = m) → wp 116 70 [some (.ref o), some (.int (nI q)), some (.int (nI m)), some (.int (b2I d)), some (.int (nI j))] [] (rOv σ o sc ar) P := by
        intro hh
        refine (b116_70 hR).mpr ?_
        rw [nI_1]
        refine ih (j + 1) (by omega) (by omega) (fun k k1 k2 => ?_)
        by_cases r : k = j
        · rw [r]; exact hh
        · exact hno k k1 (by omega)
      refine (b116_36 hR).mpr (ifn (by rw [q1.1]; exact nI_ge hj (by omega)) ((b116_45 hR).mpr ⟨nI_in (N := 60) (by omega) (by omega), ?_⟩))
      rw [nI_clamp (by omega), j1]
      by_cases c1 : tPar (wT w) j = some q
      · refine ifn (fun r => r (epar.mpr c1)) ((b116_56 hR).mpr ⟨nI_in (N := 60) (by omega) (by omega), ?_⟩)
        rw [nI_clamp (by omega), j2]
        by_cases c2 : tNam (wT w) j = m
        · refine ifn (fun r => r (by rw [c2])) ((b116_67 hR).mpr (same _ ?_))
          rw [eS, if_neg c0, if_pos ((taken_iff hT).mpr ⟨j, h1, hj, c1, c2⟩)]
        · exact ifp (fun r => c2 ((nI_eq (by omega) (by omega)).mp r)) (nxt (fun r => c2 r.2))
      · exact ifp (fun r => c1 (epar.mp r)) (nxt (fun r => c1 r.1))
  exact key (tN (wT w) - 1) 1 (by have := hT.1; omega) (Nat.le_refl 1) (fun k h1 h2 => by omega)
theorem r_action (hR : RShape σ o) (h : RefR sc ar w) (hI : WInv w) (hP : ∀ sc' ar', RefR sc' ar' (sAction w).1 → P (some (.int (sAction w).2)) (rOv σ o sc' ar')) : wpM 128 [.ref o] (rOv σ o sc ar) P := by
  obtain ⟨q1, q2, q3, q4, q5, q6, q7⟩ := id h
  have h40 := hI.2.1.1
  refine (b128 hR).mpr ?_
  rw [q4.1]
  by_cases c : 40 ≤ aN (wA w)
  · have e : sAction w = (w, -6) := if_pos c
    rw [e] at hP
    refine ifn (fun r => r ?_) ((b128_9 hR).mpr (hP sc ar h))
    rw [show aN (wA w) = 40 by omega]; rfl
  have e : sAction w = ((wT w, aAdd (wA w), wC w, wP w, (fun s i => if i = aN (wA w) then none else wW w s i), wK w, wL w), nI (aN (wA w))) := if_neg c
  rw [e] at hP
  refine ifp (fun r => c ?_) ((b128_12 hR).mpr ?_)
  · have r : nI (aN (wA w)) = nI 40 := r
    have := (nI_eq (by omega) (by omega)).mp r
    omega
  rw [q4.1, upS_same, show (40 : Int32) + nI (aN (wA w)) = nI (40 + aN (wA w)) from nI_add 40 _, nI_clamp (by omega), nI_clamp (by omega), nI_1, nI_pred]
  refine ⟨nI_in (N := 40) (by omega) (by omega), nI_in (N := 40) (by omega) (by omega), nI_in (N := 40) (by omega) (by omega), ⟨nI_in (N := 80) (by omega) (by omega), Or.inl rfl⟩, ⟨nI_in (N := 80) (by omega) (by omega), Or.inl rfl⟩, hP _ _ ?_⟩
  have hA : Ag sc ar (upS sc 9 (nI (aN (wA w) + 1))) (upA (upA (upA (upA (upA ar 31 (aN (wA w)) 0) 33 (aN (wA w)) 0) 36 (aN (wA w)) 0) 37 (aN (wA w)) 0) 37 (40 + aN (wA w)) 0) [9, 11, 13, 16, 17] := (((((Ag_ar (by decide)).tr (Ag_ar (by decide))).tr (Ag_ar (by decide))).tr (Ag_ar (by decide))).tr (Ag_ar (by decide))).tr (Ag_sc (by decide))
  refine ⟨RTree_ag q1 hA (by decide), ⟨RConS_ag q2.1 hA (by decide), RConS_ag q2.2 hA (by decide)⟩, RTape_ag q3 hA (by decide), ⟨upS_same, fun i hi => ?_⟩, fun s i hs hi => ?_, RCac_ag q6 hA (by decide), RLog_ag q7 hA (by decide)⟩
  · have hi : i < aN (wA w) + 1 := hi
    by_cases e : i = aN (wA w)
    · subst e
      have ei : aIns (aAdd (wA w)) (aN (wA w)) = [] := fup_same
      have eo : aOut (aAdd (wA w)) (aN (wA w)) = [] := fup_same
      have es : aSt (aAdd (wA w)) (aN (wA w)) = [] := fup_same
      show RActI _ (aN (wA w)) (aIns (aAdd (wA w)) _) (aOut (aAdd (wA w)) _) (aSt (aAdd (wA w)) _)
      rw [ei, eo, es]
      refine ⟨⟨?_, RRow_nil⟩, ⟨?_, RRow_nil⟩, ?_, RRow_nil, RRow_nil⟩ <;> (unfold upA; simp; rfl)
    · have ei : aIns (aAdd (wA w)) i = aIns (wA w) i := fup_ne e
      have eo : aOut (aAdd (wA w)) i = aOut (wA w) i := fup_ne e
      have es : aSt (aAdd (wA w)) i = aSt (wA w) i := fup_ne e
      show RActI _ i (aIns (aAdd (wA w)) i) (aOut (aAdd (wA w)) i) (aSt (aAdd (wA w)) i)
      rw [ei, eo, es]
      obtain ⟨⟨a1, a2⟩, ⟨b1, b2⟩, c1, c2, c3⟩ := q4.2 i (by omega)
      refine ⟨⟨?_, RRow_ag a2 (fun i => hA.2 30 i (by decide))⟩, ⟨?_, RRow_ag b2 (fun i => hA.2 32 i (by decide))⟩, ?_, RRow_ag c2 (fun i => hA.2 34 i (by decide)), RRow_ag c3 (fun i => hA.2 35 i (by decide))⟩
      · rw [← a1]; unfold upA; simp [e]
      · rw [← b1]; unfold upA; simp [e]
      · rw [← c1]; unfold upA; simp [e]
  · have hi : i < aN (wA w) + 1 := hi
    show RWasI _ _ (if i = aN (wA w) then none else wW w s i)
    by_cases e : i = aN (wA w)
    · rw [if_pos e]
      refine ⟨?_, fun u hu => by cases hu⟩
      have : s = 0 ∨ s = 1 := by omega
      rcases this with r | r <;> subst r <;> (unfold upA; simp [e]; rfl)
    · rw [if_neg e]
      obtain ⟨g1, g2⟩ := q5 s i hs (by omega)
      refine ⟨?_, fun u hu => ⟨RRow_ag (g2 u hu).1 (fun i => hA.2 38 i (by decide)), fun j hj => by rw [hA.2 39 _ (by decide)]; exact (g2 u hu).2 j hj⟩⟩
      rw [← g1]
      unfold upA
      rw [if_neg (by omega), if_neg (by omega), if_neg (by omega), if_neg (by omega), if_neg (by omega)]
end RG1
