/-! THE REFERENCE: a step more, an action stripped; what an action uses */ -/
section RH1
variable {σ : zSt} {o : Nat} {sc sc' : ScT} {ar ar' : ArT} {P : Option Value → zSt → Prop} {x y v : Int32} {p s i j q m n a b : Nat} {w : WT} {T : TreT} {A : ActT} {ins outs : List Nat} {st : List (Nat × Nat)} {g : Nat → Nat}
/-- a row of another action stays -/
theorem RActI_fr (h : RActI ar i ins outs st) (hI : ins.length ≤ 6 ∧ outs.length ≤ 3 ∧ st.length ≤ 16) (h1 : ar' 31 i = ar 31 i ∧ ar' 33 i = ar 33 i ∧ ar' 36 i = ar 36 i) (h2 : (∀ k, k < 6 → ar' 30 (6 * i + k) = ar 30 (6 * i + k)) ∧ (∀ k, k < 3 → ar' 32 (3 * i + k) = ar 32 (3 * i + k)) ∧ ∀ k, k < 16 → ar' 34 (16 * i + k) = ar 34 (16 * i + k) ∧ ar' 35 (16 * i + k) = ar 35 (16 * i + k)) : RActI ar' i ins outs st := by
  obtain ⟨⟨a1, a2⟩, ⟨b1, b2⟩, c1, c2, c3⟩ := h
  exact ⟨⟨by rw [h1.1]; exact a1, RRow_eq a2 (fun k hk => h2.1 k (by rw [List.length_map] at hk; omega))⟩, ⟨by rw [h1.2.1]; exact b1, RRow_eq b2 (fun k hk => h2.2.1 k (by rw [List.length_map] at hk; omega))⟩, by rw [h1.2.2]; exact c1, RRow_eq c2 (fun k hk => (h2.2.2 k (by rw [List.length_map] at hk; omega)).1), RRow_eq c3 (fun k hk => (h2.2.2 k (by rw [List.length_map] at hk; omega)).2)⟩
theorem ixr (h : x < 0 ∨ nI n ≤ x) (hn : 1 ≤ n) (hn2 : n < 2 ^ 31) : x < 0 ∨ nI (n - 1) < x := by
  rcases h with h | h
  · exact Or.inl h
  · exact Or.inr (Int32.lt_of_lt_of_le (nI_lt (by omega) hn2) h)
theorem r_step (hR : RShape σ o) (h : RefR sc ar w) (hI : WInv w) (hP : ∀ sc' ar', RefR sc' ar' (sStep w x y v).1 → P (some (.int (sStep w x y v).2)) (rOv σ o sc' ar')) : wpM 135 [.ref o, .int x, .int y, .int v] (rOv σ o sc ar) P := by
  obtain ⟨q1, q2, q3, q4, q5, q6, q7⟩ := id h
  have h40 := hI.2.1.1
  unfold sStep at hP
  refine (b135 hR).mpr ?_
  rcases ixN_cases x (n := aN (wA w)) (by omega) with ⟨e, hx⟩ | ⟨a, ha, rfl, e⟩
  · rw [e] at hP
    exact risact_no hR q4 h40 hx ((b135_5 hR).mpr (ifp rfl ((b135_29 hR).mpr (hP sc ar h))))
  rw [e] at hP
  refine risact_yes hR q4 h40 ha ((b135_5 hR).mpr (ifn (by decide) ((b135_8 hR).mpr ?_)))
  rcases ixN_cases y (n := 14) (by omega) with ⟨e, hx⟩ | ⟨n, hn, rfl, e⟩
  · rw [e] at hP
    exact rin_no hR (ixr hx (by omega) (by omega)) ((b135_15 hR).mpr (ifp rfl ((b135_29 hR).mpr (hP sc ar h))))
  rw [e] at hP
  refine rin_n_yes hR (m := 13) (by omega) (by omega) rfl ((b135_15 hR).mpr (ifn (by decide) ((b135_18 hR).mpr ?_)))
  rcases ixN_cases v (n := 256) (by omega) with ⟨e, hx⟩ | ⟨u, hu, rfl, e⟩
  · rw [e] at hP
    exact rin_no hR (ixr hx (by omega) (by omega)) ((b135_26 hR).mpr (ifn (fun r => r rfl) ((b135_29 hR).mpr (hP sc ar h))))
  rw [e] at hP
  dsimp only at hP
  refine rin_n_yes hR (m := 255) (by omega) (by omega) rfl ((b135_26 hR).mpr (ifp (by decide) ((b135_32 hR).mpr ⟨nI_in (N := 40) (by omega) (by omega), ?_⟩)))
  obtain ⟨⟨a1, a2⟩, ⟨b1, b2⟩, c1, c2, c3⟩ := q4.2 a ha
  have hAI := hI.2.1.2.1 a ha
  have h16 : (aSt (wA w) a).length ≤ 16 := hAI.2.2.2.2.2.2.1
  rw [nI_clamp (by omega), c1]
  by_cases c : 16 ≤ (aSt (wA w) a).length
  · rw [if_pos c] at hP
    refine ifn (fun r => r ?_) ((b135_43 hR).mpr (hP sc ar h))
    rw [show (aSt (wA w) a).length = 16 by omega]; rfl
  rw [if_neg c] at hP
  refine ifp (fun r => c ?_) ((b135_46 hR).mpr ?_)
  · have r : nI (aSt (wA w) a).length = nI 16 := r
    have := (nI_eq (by omega) (by omega)).mp r
    omega
  have g36 : ∀ k, upA ar 34 k (nI n) 36 a = nI (aSt (wA w) a).length := fun k => by rw [upA_ne (fun r => absurd r.1 (by decide))]; exact c1
  rw [nI_clamp (by omega), c1, i16, nI_clamp (by omega), g36, i16, nI_clamp (by omega), upA_same]
  have g36b : upA (upA ar 34 (16 * a + (aSt (wA w) a).length) (nI n)) 35 (16 * a + (aSt (wA w) a).length) (nI u) 36 a = nI (aSt (wA w) a).length := by rw [upA_ne (fun r => absurd r.1 (by decide))]; exact g36 _
  rw [g36b, nI_1]
  refine ⟨nI_in (N := 40) (by omega) (by omega), nI_in (N := 640) (by omega) (by omega), nI_in (N := 40) (by omega) (by omega), nI_in (N := 640) (by omega) (by omega), nI_in (N := 40) (by omega) (by omega), nI_in (N := 40) (by omega) (by omega), nI_in (N := 40) (by omega) (by omega), hP _ _ ?_⟩
  have hA : Ag sc ar sc (upA (upA (upA ar 34 (16 * a + (aSt (wA w) a).length) (nI n)) 35 (16 * a + (aSt (wA w) a).length) (nI u)) 36 a (nI ((aSt (wA w) a).length + 1))) [14, 15, 16] := ((Ag_ar (by decide)).tr (Ag_ar (by decide))).tr (Ag_ar (by decide))
  refine ⟨RTree_ag q1 hA (by decide), ⟨RConS_ag q2.1 hA (by decide), RConS_ag q2.2 hA (by decide)⟩, RTape_ag q3 hA (by decide), ⟨q4.1, fun i hi => ?_⟩, RWas_ag q5 hA (by decide), RCac_ag q6 hA (by decide), RLog_ag q7 hA (by decide)⟩
  show RActI _ i (aIns (wA w) i) (aOut (wA w) i) (fup (aSt (wA w)) a (aSt (wA w) a ++ [(n, u)]) i)
  by_cases ea : i = a
  · subst ea
    rw [fup_same]
    refine ⟨⟨by rw [hA.2 31 _ (by decide)]; exact a1, RRow_ag a2 (fun i => hA.2 30 i (by decide))⟩, ⟨by rw [hA.2 33 _ (by decide)]; exact b1, RRow_ag b2 (fun i => hA.2 32 i (by decide))⟩, ?_, ?_, ?_⟩
    · rw [upA_same, List.length_append]; rfl
    · rw [List.map_append]
      have g := RRow_put (v := nI n) c2
      rw [List.length_map] at g
      refine RRow_ag g (fun k => ?_)
      rw [upA_ne (fun r => absurd r.1 (by decide)), upA_ne (fun r => absurd r.1 (by decide))]
    · rw [List.map_append]
      have g := RRow_put (v := nI u) (RRow_ag (ar' := upA ar 34 (16 * i + (aSt (wA w) i).length) (nI n)) c3 (fun k => upA_ne (fun r => absurd r.1 (by decide))))
      rw [List.length_map] at g
      refine RRow_ag g (fun k => ?_)
      rw [upA_ne (fun r => absurd r.1 (by decide))]
  · rw [fup_ne ea]
    have hi : i < aN (wA w) := hi
    have hAi := hI.2.1.2.1 i hi
    refine RActI_fr (q4.2 i hi) ⟨hAi.1, hAi.2.2.2.1, hAi.2.2.2.2.2.2.1⟩ ⟨hA.2 31 _ (by decide), hA.2 33 _ (by decide), ?_⟩ ⟨fun k _ => hA.2 30 _ (by decide), fun k _ => hA.2 32 _ (by decide), fun k hk => ⟨?_, ?_⟩⟩
    · rw [upA_ne (fun r => ea r.2), upA_ne (fun r => absurd r.1 (by decide)), upA_ne (fun r => absurd r.1 (by decide))]
    · rw [upA_ne (fun r => absurd r.1 (by decide)), upA_ne (fun r => absurd r.1 (by decide)), upA_ne (fun r => by omega)]
    · rw [upA_ne (fun r => absurd r.1 (by decide)), upA_ne (fun r => by omega), upA_ne (fun r => absurd r.1 (by decide))]
theorem r_erase (hR : RShape σ o) (h : RefR sc ar w) (hI : WInv w) (hP : ∀ sc' ar', RefR sc' ar' (sErase w x).1 → P (some (.int (sErase w x).2)) (rOv σ o sc' ar')) : wpM 136 [.ref o, .int x] (rOv σ o sc ar) P := by
  obtain ⟨q1, q2, q3, q4, q5, q6, q7⟩ := id h
  have h40 := hI.2.1.1
  have hn := hI.1.2.1
  unfold sErase at hP
  refine (b136 hR).mpr ?_
  rcases ixN_cases x (n := aN (wA w)) (by omega) with ⟨e, hx⟩ | ⟨a, ha, rfl, e⟩
  · rw [e] at hP
    exact risact_no hR q4 h40 hx ((b136_5 hR).mpr (ifn (fun r => r rfl) ((b136_8 hR).mpr (hP sc ar h))))
  rw [e] at hP
  dsimp only at hP
  obtain ⟨⟨a1, a2⟩, ⟨b1, b2⟩, c1, c2, c3⟩ := q4.2 a ha
  have hAI := hI.2.1.2.1 a ha
  have h3 := hAI.2.2.2.1
  have hlt := hAI.2.2.2.2.2.1
  refine risact_yes hR q4 h40 ha ((b136_5 hR).mpr (ifp (by decide) ((b136_11 hR).mpr ⟨nI_in (N := 40) (by omega) (by omega), ?_⟩)))
  rw [nI_clamp (by omega), c1]
  have key : ∀ e k ar' u, k + e = (aOut (wA w) a).length → Ag sc ar sc ar' [4, 5] → (∀ p, p < tN (wT w) → ar' 24 p = optI (if p ∈ (aOut (wA w) a).take k then none else tMk (wT w) p)) → (∀ s, s < 2 → ∀ p, p < tN (wT w) → ar' 25 (60 * s + p) = if p ∈ (aOut (wA w) a).take k then -1 else ar 25 (60 * s + p)) → wp 136 20 [some (.ref o), some (.int (nI a)), some (.int (nI (aSt (wA w) a).length)), some (.int (nI k)), u] [] (rOv σ o sc ar') P := by
    intro e
    induction e with
    | zero =>
      intro k ar' u hk hA hM hS
      refine (b136_20 hR).mpr ⟨nI_in (N := 40) (by omega) (by omega), ?_⟩
      rw [nI_clamp (by omega), hA.2 33 _ (by decide), b1]
      refine ifp (nI_le (by omega) (by omega)) ((b136_75 hR).mpr ?_)
      rw [nI_clamp (by omega)]
      refine ⟨nI_in (N := 40) (by omega) (by omega), nI_in (N := 40) (by omega) (by omega), nI_in (N := 40) (by omega) (by omega), hP _ _ ?_⟩
      rw [List.take_of_length_le (by omega)] at hM hS
      have hB : Ag sc ar sc (upA (upA (upA ar' 31 a 0) 33 a 0) 36 a 0) [4, 5, 11, 13, 16] := (((hA.mono (by decide)).tr (Ag_ar (by decide))).tr (Ag_ar (by decide))).tr (Ag_ar (by decide))
      have e3 : ∀ t k, t ≠ 31 → t ≠ 33 → t ≠ 36 → upA (upA (upA ar' 31 a 0) 33 a 0) 36 a 0 t k = ar' t k := fun t k h1 h2 h3 => by rw [upA_ne (fun r => h3 r.1), upA_ne (fun r => h2 r.1), upA_ne (fun r => h1 r.1)]
      have conN : ∀ s, s < 2 → RConS (upA (upA (upA ar' 31 a 0) 33 a 0) 36 a 0) s (tN (wT w)) (fun k => if k ∈ aOut (wA w) a then none else wC w s k) := by
        intro s hs p p1 hp
        show RCc _ 25 26 _ (if p ∈ aOut (wA w) a then none else wC w s p)
        by_cases c : p ∈ aOut (wA w) a
        · rw [if_pos c]
          exact ⟨by rw [e3 25 _ (by decide) (by decide) (by decide), hS s hs p hp, if_pos c]; rfl, fun l hl => by cases hl⟩
        · rw [if_neg c]
          have g := RCon_at q2 hs p p1 hp
          exact ⟨by rw [e3 25 _ (by decide) (by decide) (by decide), hS s hs p hp, if_neg c]; exact g.1, fun l hl => RRow_ag (g.2 l hl) (fun i => hB.2 26 i (by decide))⟩
      refine ⟨⟨q1.1, fun p hp => ?_⟩, ⟨conN 0 (by omega), conN 1 (by omega)⟩, RTape_ag q3 hB (by decide), ⟨q4.1, fun i hi => ?_⟩, RWas_ag q5 hB (by decide), RCac_ag q6 hB (by decide), RLog_ag q7 hB (by decide)⟩
      · obtain ⟨g1, g2, g3, g4⟩ := q1.2 p hp
        exact ⟨by rw [hB.2 21 _ (by decide)]; exact g1, by rw [hB.2 22 _ (by decide)]; exact g2, by rw [hB.2 23 _ (by decide)]; exact g3, by rw [e3 24 _ (by decide) (by decide) (by decide)]; exact hM p hp⟩
      · show RActI _ i (fup (aIns (wA w)) a [] i) (fup (aOut (wA w)) a [] i) (fup (aSt (wA w)) a [] i)
        by_cases ea : i = a
        · subst ea
          rw [fup_same, fup_same, fup_same]
          refine ⟨⟨?_, RRow_nil⟩, ⟨?_, RRow_nil⟩, ?_, RRow_nil, RRow_nil⟩ <;> (unfold upA; simp; rfl)
        · rw [fup_ne ea, fup_ne ea, fup_ne ea]
          have hi : i < aN (wA w) := hi
          have hAi := hI.2.1.2.1 i hi
          refine RActI_fr (q4.2 i hi) ⟨hAi.1, hAi.2.2.2.1, hAi.2.2.2.2.2.2.1⟩ ⟨?_, ?_, ?_⟩ ⟨fun k _ => hB.2 30 _ (by decide), fun k _ => hB.2 32 _ (by decide), fun k hk => ⟨hB.2 34 _ (by decide), hB.2 35 _ (by decide)⟩⟩
          · rw [upA_ne (fun r => ea r.2), upA_ne (fun r => ea r.2), upA_ne (fun r => ea r.2)]; exact hA.2 31 _ (by decide)
          · rw [upA_ne (fun r => ea r.2), upA_ne (fun r => ea r.2), upA_ne (fun r => ea r.2)]; exact hA.2 33 _ (by decide)
          · rw [upA_ne (fun r => ea r.2), upA_ne (fun r => ea r.2), upA_ne (fun r => ea r.2)]; exact hA.2 36 _ (by decide)
    | succ e ih =>
      intro k ar' u hk hA hM hS
      have hkl : k < (aOut (wA w) a).length := by omega
      have hp := hlt _ (List.getElem_mem hkl)
      have hb : ar' 32 (3 * a + k) = nI (aOut (wA w) a)[k] := by
        rw [hA.2 32 _ (by decide), RRow_get b2 (by rw [List.length_map]; exact hkl), List.getElem_map]
      refine (b136_20 hR).mpr ⟨nI_in (N := 40) (by omega) (by omega), ?_⟩
      rw [nI_clamp (by omega), hA.2 33 _ (by decide), b1]
      refine ifn (nI_ge (by omega) (by omega)) ((b136_30 hR).mpr ?_)
      rw [i3, nI_clamp (n := 3 * a + k) (by omega), hb, show (60 : Int32) + nI (aOut (wA w) a)[k] = nI (60 + (aOut (wA w) a)[k]) from nI_add 60 _, nI_clamp (n := (aOut (wA w) a)[k]) (by omega), nI_clamp (n := 60 + (aOut (wA w) a)[k]) (by omega), nI_1]
      refine ⟨nI_in (N := 120) (by omega) (by omega), nI_in (N := 60) (by omega) (by omega), nI_in (N := 180) (by omega) (by omega), nI_in (N := 180) (by omega) (by omega), ih (k + 1) _ _ (by omega) (((hA.tr (Ag_ar (by decide))).tr (Ag_ar (by decide))).tr (Ag_ar (by decide))) (fun p hp' => ?_) (fun s hs p hp' => ?_)⟩
      · have mem : p ∈ (aOut (wA w) a).take (k + 1) ↔ p ∈ (aOut (wA w) a).take k ∨ p = (aOut (wA w) a)[k] := by
          rw [List.take_add_one, List.getElem?_eq_getElem hkl, List.mem_append]; simp
        rw [upA_ne (fun r => absurd r.1 (by decide)), upA_ne (fun r => absurd r.1 (by decide))]
        by_cases c : p = (aOut (wA w) a)[k]
        · rw [if_pos (mem.mpr (Or.inr c)), c, upA_same]; rfl
        · rw [upA_ne (fun r => c r.2), hM p hp']
          by_cases d : p ∈ (aOut (wA w) a).take k
          · rw [if_pos d, if_pos (mem.mpr (Or.inl d))]
          · rw [if_neg d, if_neg (fun r => by rcases mem.mp r with r | r; exact d r; exact c r)]
      · have mem : p ∈ (aOut (wA w) a).take (k + 1) ↔ p ∈ (aOut (wA w) a).take k ∨ p = (aOut (wA w) a)[k] := by
          rw [List.take_add_one, List.getElem?_eq_getElem hkl, List.mem_append]; simp
        by_cases c : p = (aOut (wA w) a)[k]
        · rw [if_pos (mem.mpr (Or.inr c)), c]
          have : s = 0 ∨ s = 1 := by omega
          rcases this with r | r <;> subst r
          · rw [upA_ne (fun r => by omega), show 60 * 0 + (aOut (wA w) a)[k] = (aOut (wA w) a)[k] by omega, upA_same]
          · rw [show 60 * 1 + (aOut (wA w) a)[k] = 60 + (aOut (wA w) a)[k] by omega, upA_same]
        · rw [upA_ne (fun r => by omega), upA_ne (fun r => by omega), upA_ne (fun r => absurd r.1 (by decide)), hS s hs p hp']
          by_cases d : p ∈ (aOut (wA w) a).take k
          · rw [if_pos d, if_pos (mem.mpr (Or.inl d))]
          · rw [if_neg d, if_neg (fun r => by rcases mem.mp r with r | r; exact d r; exact c r)]
  refine key _ 0 ar _ (Nat.zero_add _) Ag.rf (fun p hp => ?_) (fun s hs p hp => ?_)
  · rw [if_neg (by simp)]; exact (q1.2 p hp).2.2.2
  · rw [if_neg (by simp)]
/-- bounds alone -/
def ABnd (T : TreT) (A : ActT) : Prop := aN A ≤ 40 ∧ tN T ≤ 60 ∧ ∀ i, i < aN A → (aIns A i).length ≤ 6 ∧ (∀ p ∈ aIns A i, p < tN T) ∧ (aOut A i).length ≤ 3 ∧ ∀ p ∈ aOut A i, p < tN T
theorem AInv.bnd (h : AInv T A) (hT : TInv T) : ABnd T A := ⟨h.1, hT.2.1, fun i hi => by
  obtain ⟨h1, h2, h3, h4, h5, h6, _⟩ := h.2.1 i hi
  exact ⟨h1, h2, h4, fun p hp => (h6 p hp).1⟩⟩
theorem any_take {α : Type} {l : List α} {f : α → Bool} {k : Nat} (h : k < l.length) : (l.take (k + 1)).any f = ((l.take k).any f || f l[k]) := by
  rw [List.take_add_one, List.getElem?_eq_getElem h, List.any_append]
  simp
theorem par31 (hT : TInv T) (hp : p < tN T) : ∀ k, tPar T p = some k → k < 2 ^ 31 := by
  intro k hk
  have := hT.2.1
  by_cases c : p = 0
  · rw [c, hT.2.2.1.1] at hk; cases hk
  · obtain ⟨⟨q, h1, h2, _⟩, _⟩ := hT.2.2.2.1 p (by omega) hp
    rw [h2] at hk; cases hk; omega
/-- whether action a uses b -/
theorem r_isUsed (hR : RShape σ o) (hT : RTree sc ar T) (hA : RAct sc ar A) (hTI : TInv T) (hB : ABnd T A) (ha : a < aN A) (hb : b < aN A) (hP : P (some (.int (b2I (usesT T A a b)))) (rOv σ o sc ar)) : wpM 129 [.ref o, .int (nI a), .int (nI b)] (rOv σ o sc ar) P := by
  obtain ⟨h40, h60, hBd⟩ := hB
  obtain ⟨⟨a1, a2⟩, _⟩ := hA.2 a ha
  obtain ⟨_, ⟨b1, b2⟩, _⟩ := hA.2 b hb
  obtain ⟨i6a, ipt, _, _⟩ := hBd a ha
  obtain ⟨_, _, o3, opt⟩ := hBd b hb
  refine (b129 hR).mpr ?_
  have key : ∀ e k u5 u6 u7, k + e = (aIns A a).length → wp 129 5 [some (.ref o), some (.int (nI a)), some (.int (nI b)), some (.int (b2I (((aIns A a).take k).any fun p => (aOut A b).any fun o => decide (o = p) || decide (tPar T o = some p)))), some (.int (nI k)), u5, u6, u7] [] (rOv σ o sc ar) P := by
    intro e
    induction e with
    | zero =>
      intro k u5 u6 u7 hk
      refine (b129_5 hR).mpr ⟨nI_in (N := 40) (by omega) (by omega), ?_⟩
      rw [nI_clamp (by omega), a1]
      refine ifp (nI_le (by omega) (by omega)) ((b129_98 hR).mpr ⟨b2I01, ?_⟩)
      rw [List.take_of_length_le (by omega)]
      exact hP
    | succ e ih =>
      intro k u5 u6 u7 hk
      have hkl : k < (aIns A a).length := by omega
      refine (b129_5 hR).mpr ⟨nI_in (N := 40) (by omega) (by omega), ?_⟩
      rw [nI_clamp (by omega), a1]
      refine ifn (nI_ge (by omega) (by omega)) ((b129_16 hR).mpr ?_)
      have hin : ar 30 (6 * a + k) = nI (aIns A a)[k] := by rw [RRow_get a2 (by rw [List.length_map]; exact hkl), List.getElem_map]
      have hpk := ipt _ (List.getElem_mem hkl)
      rw [i6, nI_clamp (by omega), hin]
      refine ⟨nI_in (N := 240) (by omega) (by omega), ?_⟩
      have inner : ∀ e' k' u7, k' + e' = (aOut A b).length → wp 129 33 [some (.ref o), some (.int (nI a)), some (.int (nI b)), some (.int (b2I ((((aIns A a).take k).any fun p => (aOut A b).any fun o => decide (o = p) || decide (tPar T o = some p)) || ((aOut A b).take k').any fun o => decide (o = (aIns A a)[k]) || decide (tPar T o = some (aIns A a)[k])))), some (.int (nI k)), some (.int (nI (aIns A a)[k])), some (.int (nI k')), u7] [] (rOv σ o sc ar) P := by
        intro e'
        induction e' with
        | zero =>
          intro k' u7 hk'
          refine (b129_33 hR).mpr ⟨nI_in (N := 40) (by omega) (by omega), ?_⟩
          rw [nI_clamp (by omega), b1]
          refine ifp (nI_le (by omega) (by omega)) ((b129_92 hR).mpr ?_)
          rw [nI_1, List.take_of_length_le (l := aOut A b) (by omega)]
          have := ih (k + 1) (some (.int (nI (aIns A a)[k]))) (some (.int (nI k'))) u7 (by omega)
          rw [any_take hkl] at this
          exact this
        | succ e' ih' =>
          intro k' u7 hk'
          have hkl' : k' < (aOut A b).length := by omega
          have hout : ar 32 (3 * b + k') = nI (aOut A b)[k'] := by rw [RRow_get b2 (by rw [List.length_map]; exact hkl'), List.getElem_map]
          have hok := opt _ (List.getElem_mem hkl')
          have hst := ih' (k' + 1) (some (.int (nI (aOut A b)[k']))) (by omega)
          rw [any_take hkl', ← Bool.or_assoc] at hst
          refine (b129_33 hR).mpr ⟨nI_in (N := 40) (by omega) (by omega), ?_⟩
          rw [nI_clamp (by omega), b1]
          refine ifn (nI_ge (by omega) (by omega)) ((b129_44 hR).mpr ?_)
          rw [i3, nI_clamp (n := 3 * b + k') (by omega), hout]
          refine ⟨nI_in (N := 120) (by omega) (by omega), ?_⟩
          generalize ((((aIns A a).take k).any fun p => (aOut A b).any fun o => decide (o = p) || decide (tPar T o = some p)) || ((aOut A b).take k').any fun o => decide (o = (aIns A a)[k]) || decide (tPar T o = some (aIns A a)[k])) = B at *
          have yes : (B || (decide ((aOut A b)[k'] = (aIns A a)[k]) || decide (tPar T (aOut A b)[k'] = some (aIns A a)[k]))) = true → wp 129 80 [some (.ref o), some (.int (nI a)), some (.int (nI b)), some (.int (b2I B)), some (.int (nI k)), some (.int (nI (aIns A a)[k])), some (.int (nI k')), some (.int (nI (aOut A b)[k']))] [] (rOv σ o sc ar) P := by
            intro hy
            refine (b129_80 hR).mpr ((b129_85 hR).mpr ?_)
            rw [nI_1]
            rw [hy] at hst
            exact hst
          by_cases c0 : B = true
          · exact ifp (b2I_ne.mpr c0) (yes (by rw [c0]; rfl))
          · refine ifn (fun r => c0 (b2I_ne.mp r)) ((b129_61 hR).mpr ?_)
            by_cases c1 : (aOut A b)[k'] = (aIns A a)[k]
            · exact ifp (by rw [c1]) (yes (by rw [decide_eq_true c1]; simp))
            · refine ifn (fun r => c1 ((nI_eq (by omega) (by omega)).mp r)) ((b129_68 hR).mpr ⟨nI_in (N := 60) (by omega) (by omega), ?_⟩)
              have epar : optI (tPar T (aOut A b)[k']) = nI (aIns A a)[k] ↔ tPar T (aOut A b)[k'] = some (aIns A a)[k] := optI_eq (b := some (aIns A a)[k]) (par31 hTI hok) (fun k hk => by cases hk; omega)
              rw [nI_clamp (by omega), (hT.2 _ hok).1]
              by_cases c2 : tPar T (aOut A b)[k'] = some (aIns A a)[k]
              · exact ifn (fun r => r (epar.mpr c2)) (yes (by rw [decide_eq_true c2]; simp))
              · refine ifp (fun r => c2 (epar.mp r)) ((b129_84 hR).mpr ((b129_85 hR).mpr ?_))
                rw [nI_1]
                rw [show B = false by simpa using c0, decide_eq_false c1, decide_eq_false c2] at hst
                exact hst
      refine inner _ 0 u7 (Nat.zero_add _) |> fun h => ?_
      rw [List.take_zero, List.any_nil, Bool.or_false] at h
      exact h
  exact key _ 0 none none none (Nat.zero_add _)
end RH1
