/-! THE CLASS'S GRAPH IS CHANGED -/
section GC
variable {σ τ υ : zSt} {P : Option Value → zSt → Prop} {X N M : Nat} {pa aa ea sa : List Nat} {z : Nat → Con} {w : WT} {t : TreT} {a : ActT} {x y n : Int32} {p s i k : Nat} {u : Nat → Nat → Bool} {Cs Ks Ls : Nat → Prop} {Fs : Nat → Nat → Nat → Prop}
theorem CActU_congr {u' : Nat → Nat → Bool} (h : CActU σ X pa aa a u) (hu : ∀ i b, i < aN a → b < aN a → u i b = u' i b) : CActU σ X pa aa a u' := by
  refine ⟨h.1, h.2.1, h.2.2.1, fun i hi => ?_⟩
  obtain ⟨g0, g1, g2, g3, g4, g5⟩ := h.2.2.2 i hi
  refine ⟨g0, g1, g2, g3, g4, fun b => ?_⟩
  rw [g5 b]
  constructor
  · rintro ⟨h1, h2⟩; exact ⟨h1, by rw [← hu i b hi h1]; exact h2⟩
  · rintro ⟨h1, h2⟩; exact ⟨h1, by rw [hu i b hi h1]; exact h2⟩
def fl06 : Nat → Nat → Nat → Prop := fun c k _ => c = 0 ∧ k = 6
theorem ClsU_fl (h : ClsU σ X pa aa ea sa z w u) (hk : k < aN (wA w)) {v : Int64} {x : Nat → Bool} (hv : ∀ b, mb v b = true ↔ b < aN (wA w) ∧ x b = true) : ClsU (sfl σ 0 6 (pA aa k) v) X pa aa ea sa z w (fun i b => if i = k then x b else u i b) ∧ Fr σ (sfl σ 0 6 (pA aa k) v) no1 no1 no1 fl06 := by
  have hF : Fr σ (sfl σ 0 6 (pA aa k) v) no1 no1 no1 (fun c' k' a' => c' = 0 ∧ k' = 6 ∧ a' = pA aa k) := Fr_fl
  have hC := h.C
  obtain ⟨hH, hX, hT, hCC, hTp, hA, hW, hK, hLg⟩ := h
  refine ⟨⟨hH, XOk_fr hX hF, CTree_fr hT hF id (fun _ _ => id) (fun _ _ _ q => absurd q.1 (by decide)), CCon_fr hCC hF hC (fun _ _ _ _ => id), hF.cnt hC id hTp, ?_, CWas_fr hW hF hC (fun _ _ _ _ => id), CCac_fr hK hF hC (x_cache hC hX.1) id id (fun _ q => absurd q.1 (by decide)) (fun i hi => ⟨fun k hk => id, fun _ q => absurd q.1 (by decide), id, fun _ q => absurd q.1 (by decide)⟩), hF.log hC (fun q => absurd q.1 (by decide)) hLg⟩, hF.mono (fun _ => id) (fun _ => id) (fun _ => id) (fun _ _ _ q => ⟨q.1, q.2.1⟩)⟩
  refine ⟨hA.1, hA.2.1, hA.2.2.1, fun i hi => ?_⟩
  obtain ⟨g0, g1, g2, g3, g4, g5⟩ := hA.2.2.2 i hi
  refine ⟨g0, g1, g2, g3, g4, fun b => ?_⟩
  by_cases q : i = k
  · subst q
    have e : zfl (sfl σ 0 6 (pA aa i) v) 0 6 (pA aa i) = v := if_pos ⟨rfl, rfl, rfl⟩
    dsimp only
    rw [e, hv b, if_pos rfl]
  · have e : zfl (sfl σ 0 6 (pA aa k) v) 0 6 (pA aa i) = zfl σ 0 6 (pA aa i) := if_neg (fun r => q (pA_nodup hA.2.2.1 (by rw [hA.2.1]; exact hi) (by rw [hA.2.1]; exact hk) r.2.2))
    dsimp only
    rw [e, if_neg q]; exact g5 b
theorem renew_ok (h : ClsU σ X pa aa ea sa z w u) (hI : TInv (wT w)) (hI2 : AInv (wT w) (wA w)) (hP : ∀ τ, ClsG τ X pa aa ea sa z w → NA σ τ → Fr σ τ no1 no1 no1 fl06 → P none τ) : wpM 36 [.ref (X + 13)] σ P := by
  have h40 := hI2.1
  refine b36.mpr ?_
  have outer : ∀ c k τ u' v2 v3, k + c = aN (wA w) → ClsU τ X pa aa ea sa z w u' → NA σ τ → Fr σ τ no1 no1 no1 fl06 → (∀ i b, i < k → b < aN (wA w) → u' i b = usesT (wT w) (wA w) i b) → wp 36 2 [some (.ref (X + 13)), some (.int (nI k)), v2, v3] [] τ P := by
    intro c
    induction c with
    | zero =>
      intro k τ u' v2 v3 e hG hN hF hu
      have hC := hG.C
      have hA := hG.2.2.2.2.2.1
      refine (b36_2 hC).mpr ⟨x_graph hC hG.2.1.1, size_ok hA.1 (b36_10.mpr (ifp (by rw [hA.2.1]; exact nI_le (by omega) (by omega)) (b36_78.mpr (hP τ ?_ hN hF))))⟩
      obtain ⟨hH, hX, hT, hCC, hTp, hA, hW, hK, hLg⟩ := hG
      exact ⟨hH, hX, hT, hCC, hTp, CActU_congr hA (fun i b hi hb => hu i b (by omega) hb), hW, hK, hLg⟩
    | succ c ih =>
      intro k τ u' v2 v3 e hG hN hF hu
      have hC := hG.C
      have hA := hG.2.2.2.2.2.1
      have hk : k < aN (wA w) := by omega
      have hka : k < aa.length := by rw [hA.2.1]; exact hk
      refine (b36_2 hC).mpr ⟨x_graph hC hG.2.1.1, size_ok hA.1 (b36_10.mpr (ifn (by rw [hA.2.1]; exact nI_ge (by omega) (by omega)) ((b36_13 hC).mpr ⟨x_graph hC hG.2.1.1, get_ok hA.1 hka (b36_21.mpr ?_)⟩)))⟩
      rw [pA_elem hka]
      refine ⟨(hA.2.2.2 k hk).1, ?_⟩
      obtain ⟨hG0, hF0⟩ := ClsU_fl hG hk (v := 0) (x := fun _ => false) (fun b => by rw [mb_0]; simp)
      have inner : ∀ d j τ u', j + d = (aIns (wA w) k).length → ClsU τ X pa aa ea sa z w u' → NA σ τ → Fr σ τ no1 no1 no1 fl06 → (∀ i b, i < k → b < aN (wA w) → u' i b = usesT (wT w) (wA w) i b) → (∀ b, b < aN (wA w) → (u' k b = true ↔ ∃ p, p ∈ (aIns (wA w) k).take j ∧ mkr (wT w) p b)) → wp 36 32 [some (.ref (X + 13)), some (.int (nI k)), some (.ref (pA aa k)), some (.int (nI j))] [] τ P := by
        intro d
        induction d with
        | zero =>
          intro j τ u' ej hG hN hF hu hk'
          have hC := hG.C
          have hA := hG.2.2.2.2.2.1
          have hact := hA.2.2.2 k hk
          have h6 := (hI2.2.1 k hk).1
          refine (b36_32 hC).mpr ⟨hact.1, size_ok hact.2.1 (b36_40.mpr (ifp (by rw [List.length_map]; exact nI_le (by omega) (by omega)) (b36_72.mpr ?_)))⟩
          rw [nI_1]
          refine ih (k + 1) τ u' _ _ (by omega) hG hN hF (fun i b hi hb => ?_)
          by_cases q : i = k
          · subst q
            have e1 := hk' b hb
            rw [List.take_of_length_le (by omega), ← uses_mkr hI2 hb] at e1
            cases g1 : u' i b with
            | true => exact (e1.mp g1).symm
            | false =>
              cases g2 : usesT (wT w) (wA w) i b with
              | false => rfl
              | true => rw [e1.mpr g2] at g1; cases g1
          · exact hu i b (by omega) hb
        | succ d ihd =>
          intro j τ u' ej hG hN hF hu hk'
          have hC := hG.C
          have hA := hG.2.2.2.2.2.1
          have hact := hA.2.2.2 k hk
          have h6 := (hI2.2.1 k hk).1
          have hj : j < (aIns (wA w) k).length := by omega
          have hj' : j < ((aIns (wA w) k).map (pA pa)).length := by rw [List.length_map]; exact hj
          have hpj := (hI2.2.1 k hk).2.1 _ (List.getElem_mem hj)
          refine (b36_32 hC).mpr ⟨hact.1, size_ok hact.2.1 (b36_40.mpr (ifn (by rw [List.length_map]; exact nI_ge (by omega) (by omega)) ((b36_43 hC).mpr ⟨hact.1, get_ok hact.2.1 hj' (b36_56.mpr ?_)⟩)))⟩
          rw [List.getElem_map]
          refine ⟨(hG.2.2.1.2.2 _ hpj).1, mk_ok hC hG.2.2.1 hI hI2 hpj (fun v hv => b36_62.mpr ⟨hact.1, ?_⟩)⟩
          obtain ⟨hG1, hF1⟩ := ClsU_fl hG hk (v := zfl τ 0 6 (pA aa k) ||| v) (x := fun b => u' k b || mb v b) (fun b => by
            rw [mb_or, Bool.or_eq_true, hact.2.2.2.2.2 b, Bool.or_eq_true]
            constructor
            · rintro (⟨h1, h2⟩ | h1)
              · exact ⟨h1, Or.inl h2⟩
              · exact ⟨mkr_lt hI2 ((hv b).mp h1), Or.inr h1⟩
            · rintro ⟨h1, h2 | h2⟩
              · exact Or.inl ⟨h1, h2⟩
              · exact Or.inr h2)
          rw [nI_1]
          refine ihd (j + 1) _ _ (by omega) hG1 hN (hF.trans hF1 hC) (fun i b hi hb => ?_) (fun b hb => ?_)
          · show (if i = k then _ else _) = _
            rw [if_neg (by omega)]; exact hu i b hi hb
          · show ((if k = k then _ else _) = true) ↔ _
            rw [if_pos rfl, Bool.or_eq_true, hk' b hb, hv b, List.take_add_one, List.getElem?_eq_getElem hj]
            constructor
            · rintro (⟨p, h1, h2⟩ | h1)
              · exact ⟨p, List.mem_append_left _ h1, h2⟩
              · exact ⟨_, List.mem_append_right _ (by simp), h1⟩
            · rintro ⟨p, h1, h2⟩
              rcases List.mem_append.mp h1 with h1 | h1
              · exact Or.inl ⟨p, h1, h2⟩
              · have : p = (aIns (wA w) k)[j] := by simpa using h1
                rw [this] at h2; exact Or.inr h2
      refine inner _ 0 _ _ (Nat.zero_add _) hG0 hN (hF.trans hF0 hC) (fun i b hi hb => ?_) (fun b hb => ?_)
      · show (if i = k then _ else _) = _
        rw [if_neg (by omega)]; exact hu i b hi hb
      · show ((if k = k then false else _) = true) ↔ _
        rw [if_pos rfl, List.take_zero]
        simp
  exact outer _ 0 σ u none none (Nat.zero_add _) h NA.rf Fr.refl (fun i b hi => absurd hi (Nat.not_lt_zero i))
/-- steps -/
theorem step_ok (h : Cls σ X w N M) (hI : WInv w) (hP : ∀ τ, Cls τ X (sStep w x y n).1 N M → RF σ τ → P (some (.int (sStep w x y n).2)) τ) : wpM 93 [.ref X, .int x, .int y, .int n] σ P := by
  obtain ⟨pa, aa, ea, sa, z, hG, hR⟩ := h
  have hC := hG.C
  have hG' := hG
  obtain ⟨hH, hX, hT, hCC, hTp, hA, hW, hK, hLg⟩ := hG'
  have h31 := hI.2.1.n31
  have h40 := hI.2.1.1
  unfold sStep at hP
  have bad : ∀ (e : sStep w x y n = (w, -2)), P (some (.int (-2))) σ := by
    intro e
    have := hP σ
    unfold sStep at e
    rw [e] at this
    exact this ⟨pa, aa, ea, sa, z, hG, hR⟩ RF.rf
  refine (b93 hC).mpr ⟨hX.1, ?_⟩
  rcases ixN_cases x h31 with ⟨e, hx⟩ | ⟨i, hi, rfl, e⟩
  · exact ahas_no hC hX.1 hA h31 hx (b93_8.mpr (ifp rfl (b93_32.mpr (bad (by unfold sStep; rw [e])))))
  refine ahas_yes hC hX.1 hA hi (b93_8.mpr (ifn (by decide) (b93_11.mpr ?_)))
  rcases ixN_cases y (n := 14) (by omega) with ⟨e1, hy⟩ | ⟨m, hm, rfl, e1⟩
  · have hb : wp 93 32 [some (.ref X), some (.int (nI i)), some (.int y), some (.int n)] [] σ P := b93_32.mpr (bad (by unfold sStep; rw [e, e1]))
    by_cases hn : y < 0
    · exact ifp hn hb
    · refine ifn hn (b93_15.mpr (ifp ?_ hb))
      rcases hy with g | g
      · exact absurd g hn
      · exact Int32.lt_of_lt_of_le (show (13 : Int32) < nI 14 by decide) g
  refine ifn (nI_pos (by omega)) (b93_15.mpr (ifn (show ¬ nI 13 < nI m from nI_nlt (by omega) (by omega)) (b93_21.mpr ?_)))
  rcases ixN_cases n (n := 256) (by omega) with ⟨e2, hy⟩ | ⟨v, hv, rfl, e2⟩
  · have hb : wp 93 32 [some (.ref X), some (.int (nI i)), some (.int (nI m)), some (.int n)] [] σ P := b93_32.mpr (bad (by unfold sStep; rw [e, e1, e2]))
    by_cases hn : n < 0
    · exact ifp hn hb
    · refine ifn hn (b93_25.mpr (ifn ?_ hb))
      rcases hy with g | g
      · exact absurd g hn
      · exact Int32.not_le.mpr (Int32.lt_of_lt_of_le (show (255 : Int32) < nI 256 by decide) g)
  refine ifn (nI_pos (by omega)) (b93_25.mpr (ifp (show nI v ≤ nI 255 from nI_le (by omega) (by omega)) ((b93_35 hC).mpr ⟨hX.1, aat_ok hC hX.1 hA hi (b93_43.mpr ⟨(hA.2.2.2 i hi).1, b2.mpr ⟨(hA.2.2.2 i hi).1, ?_⟩⟩)⟩)))
  rw [e, e1, e2] at hP
  dsimp only at hP
  obtain ⟨g0, g1, g2, g3, g4, g5⟩ := hA.2.2.2 i hi
  rw [g3]
  by_cases hf : 16 ≤ (aSt (wA w) i).length
  · rw [if_pos hf] at hP
    have h16 := (hI.2.1.2.1 i hi).2.2.2.2.2.2.1
    exact ifn (show ¬ nI (aSt (wA w) i).length < nI 16 from nI_nlt hf (by omega)) (b2_9.mpr (b93_48.mpr (hP σ ⟨pa, aa, ea, sa, z, hG, hR⟩ RF.rf)))
  · rw [if_neg hf] at hP
    refine ifp (show nI (aSt (wA w) i).length < nI 16 from nI_lt (by omega) (by omega)) ((b2_12 hC).mpr ⟨g0, ?_⟩)
    rw [g3, nI_clamp (by omega), nI_1]
    refine ⟨nI_in (by omega) (by omega), nI_in (by omega) (by omega), b93_48.mpr ?_⟩
    have e3 : ∀ σ : zSt, zfi (sfi σ 0 5 (pA aa i) (nI ((aSt (wA w) i).length + 1))) 0 5 (pA aa i) = nI ((aSt (wA w) i).length + 1) := fun σ => if_pos ⟨rfl, rfl, rfl⟩
    rw [e3]
    have f1 : Fr σ (sai σ 4 (pA aa i + 3) (aSt (wA w) i).length (nI m)) no1 no1 no1 (fun c k a => (c = 0 ∧ a = pA aa i) ∨ (c = 104 ∧ a = pA aa i + 3) ∨ (c = 105 ∧ a = pA aa i + 4)) := (Fr_ai (Or.inl rfl)).mono (fun _ => id) (fun _ => id) (fun _ => id) (fun _ _ _ q => Or.inr (Or.inl ⟨q.1, q.2.2⟩))
    have f2 := f1.trans ((Fr_ai (σ := sai σ 4 (pA aa i + 3) (aSt (wA w) i).length (nI m)) (t := 5) (a := pA aa i + 4) (i := (aSt (wA w) i).length) (v := nI v) (Or.inr rfl)).mono (fun _ => id) (fun _ => id) (fun _ => id) (fun _ _ _ q => Or.inr (Or.inr ⟨q.1, q.2.2⟩))) hC
    have hF := f2.trans ((Fr_fi (σ := sai (sai σ 4 (pA aa i + 3) (aSt (wA w) i).length (nI m)) 5 (pA aa i + 4) (aSt (wA w) i).length (nI v)) (c := 0) (k := 5) (a := pA aa i) (v := nI ((aSt (wA w) i).length + 1)) (by decide) (by decide) (by decide) (by decide)).mono (fun _ => id) (fun _ => id) (fun _ => id) (fun _ _ _ q => Or.inl ⟨q.1, q.2.2⟩)) hC
    refine hP _ ⟨pa, aa, ea, sa, z, ⟨hH, XOk_fr hX hF, CTree_fr hT hF id (fun _ _ => id) (fun _ _ _ q => by omega), CCon_fr hCC hF hC (fun _ _ _ _ => id), hF.cnt hC id hTp, ⟨hA.1, hA.2.1, hA.2.2.1, fun j hj => ?_⟩, CWas_fr hW hF hC (fun _ _ _ _ => id), CCac_fr hK hF hC (x_cache hC hX.1) id id (fun _ q => by omega) (fun i hi => ⟨fun k hk => id, fun _ q => by omega, id, fun _ q => by omega⟩), hF.log hC (fun q => by omega) hLg⟩, Rm_na hR rfl rfl ⟨rfl, rfl⟩⟩ (hF.rf (fun _ _ _ q => by omega))
    obtain ⟨k0, k1, k2, k3, k4, k5⟩ := hA.2.2.2 j hj
    have sz : aSt (wA (wT w, (aN (wA w), aIns (wA w), aOut (wA w), fup (aSt (wA w)) i (aSt (wA w) i ++ [(m, v)])), wC w, wP w, wW w, wK w, wL w)) j = if j = i then aSt (wA w) i ++ [(m, v)] else aSt (wA w) j := rfl
    have ub : ∀ b, usesT (wT w) (aN (wA w), aIns (wA w), aOut (wA w), fup (aSt (wA w)) i (aSt (wA w) i ++ [(m, v)])) j b = usesT (wT w) (wA w) j b := fun b => rfl
    refine ⟨k0, k1, k2, ?_, ?_, k5⟩
    · rw [sz]
      by_cases q : j = i
      · subst q
        rw [if_pos rfl, List.length_append]; exact if_pos ⟨rfl, rfl, rfl⟩
      · rw [if_neg q, ← k3]
        exact if_neg (fun r => q (pA_nodup hA.2.2.1 (by rw [hA.2.1]; exact hj) (by rw [hA.2.1]; exact hi) r.2.2))
    · rw [sz]
      intro l hl
      by_cases q : j = i
      · subst q
        rw [if_pos rfl] at hl ⊢
        have e4 : zai (sfi (sai (sai σ 4 (pA aa j + 3) (aSt (wA w) j).length (nI m)) 5 (pA aa j + 4) (aSt (wA w) j).length (nI v)) 0 5 (pA aa j) (nI ((aSt (wA w) j).length + 1))) 4 (pA aa j + 3) l = if l = (aSt (wA w) j).length then nI m else zai σ 4 (pA aa j + 3) l := by
          show up3 (up3 (zai σ) 4 (pA aa j + 3) (aSt (wA w) j).length (nI m)) 5 (pA aa j + 4) (aSt (wA w) j).length (nI v) 4 (pA aa j + 3) l = _
          unfold up3
          rw [if_neg (by omega)]
          by_cases q : l = (aSt (wA w) j).length
          · rw [if_pos ⟨rfl, rfl, q⟩, if_pos q]
          · rw [if_neg (fun r => q r.2.2), if_neg q]
        have e5 : zai (sfi (sai (sai σ 4 (pA aa j + 3) (aSt (wA w) j).length (nI m)) 5 (pA aa j + 4) (aSt (wA w) j).length (nI v)) 0 5 (pA aa j) (nI ((aSt (wA w) j).length + 1))) 5 (pA aa j + 4) l = if l = (aSt (wA w) j).length then nI v else zai σ 5 (pA aa j + 4) l := by
          show up3 (up3 (zai σ) 4 (pA aa j + 3) (aSt (wA w) j).length (nI m)) 5 (pA aa j + 4) (aSt (wA w) j).length (nI v) 5 (pA aa j + 4) l = _
          unfold up3
          by_cases q : l = (aSt (wA w) j).length
          · rw [if_pos ⟨rfl, rfl, q⟩, if_pos q]
          · rw [if_neg (fun r => q r.2.2), if_neg q, if_neg (by omega)]
        rw [e4, e5]
        rw [List.length_append, List.length_singleton] at hl
        by_cases r : l = (aSt (wA w) j).length
        · rw [if_pos r, if_pos r, r]; simp [stI]
        · rw [if_neg r, if_neg r]
          have := k4 l (by omega)
          unfold stI at this ⊢
          rw [List.map_append, List.getElem?_append_left (by rw [List.length_map]; omega)]; exact this
      · rw [if_neg q] at hl ⊢
        have ne : pA aa j ≠ pA aa i := fun r => q (pA_nodup hA.2.2.1 (by rw [hA.2.1]; exact hj) (by rw [hA.2.1]; exact hi) r)
        have t4 : ztg σ (pA aa j + 3) = (2, 4, 16) := cs_T hC le_0_2 k0
        have t5 : ztg σ (pA aa j + 4) = (2, 5, 16) := cs_T hC le_0_3 k0
        rw [hF.ai (t := 4) (Or.inl rfl) t4 (fun r => by omega), hF.ai (t := 5) (Or.inr rfl) t5 (fun r => by omega)]
        exact k4 l hl
end GC
