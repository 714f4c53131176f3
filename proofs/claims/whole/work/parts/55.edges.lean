/-! THE CLASS: inputs, outputs, erase, copies -/
section GE
variable {σ τ υ : zSt} {P : Option Value → zSt → Prop} {X N M : Nat} {pa aa ea sa : List Nat} {z : Nat → Con} {w : WT} {t : TreT} {a : ActT} {x y n : Int32} {p s i k l : Nat} {u : Nat → Nat → Bool} {xs : List Nat} {Cs Ks Ls : Nat → Prop} {Fs : Nat → Nat → Nat → Prop}
theorem Rm_L (hR : Rm σ X ea sa N M) (hK : CCac σ X ea sa (wK w)) (h : LPost σ τ l xs) (h1 : l ≠ X + 16) (h2 : l ≠ X + 17) : Rm τ X ea sa (N + (2 * xs.length + 10)) (M + 4 * (2 * xs.length + 10)) := by
  have hF := Fr_L h
  have c1 := hF.cap (fun q => h1 q.symm) hK.1
  have c2 := hF.cap (fun q => h2 q.symm) hK.2.1
  obtain ⟨a1, a2, a3, a4, a5, a6, a7, a8⟩ := h
  unfold Rm RmN at *
  rw [c1, c2]
  omega
theorem ClsU_ins (h : ClsU σ X pa aa ea sa z w u) (hi : i < aN (wA w)) (ht : LPost σ τ (pA aa i + 1) (xs.map (pA pa))) : ClsU τ X pa aa ea sa z (wT w, (aN (wA w), fup (aIns (wA w)) i xs, aOut (wA w), aSt (wA w)), wC w, wP w, wW w, wK w, wL w) u ∧ Fr σ τ no1 no1 (fun x => x = pA aa i + 1) no3 := by
  have hF := Fr_L ht
  have hC := h.C
  obtain ⟨hH, hX, hT, hCC, hTp, hA, hW, hK, hLg⟩ := h
  have hz := (hA.2.2.2 i hi).1
  have nX : ∀ j, (j = 2 ∨ j = 14 ∨ j = 16 ∨ j = 17) → X + j ≠ pA aa i + 1 := fun j hj q => al_X hC hz hX (Or.inl rfl) hj q.symm
  refine ⟨⟨ht.2.1, XOk_fr hX hF, CTree_fr hT hF (nX 2 (by omega)) (fun p hp q => pl_al hC (hT.2.2 p hp).1 hz (Or.inl rfl) q) (fun _ _ _ => id), CCon_fr hCC hF hC (fun _ _ _ _ => id), hF.cnt hC id hTp, ⟨hF.lst (nX 14 (by omega)) hA.1, hA.2.1, hA.2.2.1, fun j hj => ?_⟩, CWas_fr hW hF hC (fun _ _ _ _ => id), CCac_fr hK hF hC (x_cache hC hX.1) (nX 16 (by omega)) (nX 17 (by omega)) (fun _ => id) (fun i hi => ⟨fun k hk => id, fun _ => id, id, fun _ => id⟩), hF.log hC id hLg⟩, hF⟩
  obtain ⟨g0, g1, g2, g3, g4, g5⟩ := hA.2.2.2 j hj
  have t4 : ztg σ (pA aa j + 3) = (2, 4, 16) := cs_T hC le_0_2 g0
  have t5 : ztg σ (pA aa j + 4) = (2, 5, 16) := cs_T hC le_0_3 g0
  refine ⟨hF.is g0, ?_, hF.lst (fun q => absurd (al_inj hC g0 hz (Or.inr rfl) (Or.inl rfl) q).2 (by decide)) g2, by rw [hF.fi rfl g0 id]; exact g3, fun l hl => ?_, fun b => ?_⟩
  · show LVal τ _ ((fup (aIns (wA w)) i xs j).map (pA pa))
    by_cases q : j = i
    · subst q; rw [fup_same]; exact ht.2.2.1
    · rw [fup_ne q]
      exact hF.lst (fun r => q (pA_nodup hA.2.2.1 (by rw [hA.2.1]; exact hj) (by rw [hA.2.1]; exact hi) (al_inj hC g0 hz (Or.inl rfl) (Or.inl rfl) r).1)) g1
  · rw [hF.ai (t := 4) (Or.inl rfl) t4 id, hF.ai (t := 5) (Or.inr rfl) t5 id]; exact g4 l hl
  · rw [hF.fl rfl g0 id]; exact g5 b
theorem ClsU_out (h : ClsU σ X pa aa ea sa z w u) (hi : i < aN (wA w)) (ht : LPost σ τ (pA aa i + 2) (xs.map (pA pa))) : ClsU τ X pa aa ea sa z (wT w, (aN (wA w), aIns (wA w), fup (aOut (wA w)) i xs, aSt (wA w)), wC w, wP w, wW w, wK w, wL w) u ∧ Fr σ τ no1 no1 (fun x => x = pA aa i + 2) no3 := by
  have hF := Fr_L ht
  have hC := h.C
  obtain ⟨hH, hX, hT, hCC, hTp, hA, hW, hK, hLg⟩ := h
  have hz := (hA.2.2.2 i hi).1
  have nX : ∀ j, (j = 2 ∨ j = 14 ∨ j = 16 ∨ j = 17) → X + j ≠ pA aa i + 2 := fun j hj q => al_X hC hz hX (Or.inr rfl) hj q.symm
  refine ⟨⟨ht.2.1, XOk_fr hX hF, CTree_fr hT hF (nX 2 (by omega)) (fun p hp q => pl_al hC (hT.2.2 p hp).1 hz (Or.inr rfl) q) (fun _ _ _ => id), CCon_fr hCC hF hC (fun _ _ _ _ => id), hF.cnt hC id hTp, ⟨hF.lst (nX 14 (by omega)) hA.1, hA.2.1, hA.2.2.1, fun j hj => ?_⟩, CWas_fr hW hF hC (fun _ _ _ _ => id), CCac_fr hK hF hC (x_cache hC hX.1) (nX 16 (by omega)) (nX 17 (by omega)) (fun _ => id) (fun i hi => ⟨fun k hk => id, fun _ => id, id, fun _ => id⟩), hF.log hC id hLg⟩, hF⟩
  obtain ⟨g0, g1, g2, g3, g4, g5⟩ := hA.2.2.2 j hj
  have t4 : ztg σ (pA aa j + 3) = (2, 4, 16) := cs_T hC le_0_2 g0
  have t5 : ztg σ (pA aa j + 4) = (2, 5, 16) := cs_T hC le_0_3 g0
  refine ⟨hF.is g0, hF.lst (fun q => absurd (al_inj hC g0 hz (Or.inl rfl) (Or.inr rfl) q).2 (by decide)) g1, ?_, by rw [hF.fi rfl g0 id]; exact g3, fun l hl => ?_, fun b => ?_⟩
  · show LVal τ _ ((fup (aOut (wA w)) i xs j).map (pA pa))
    by_cases q : j = i
    · subst q; rw [fup_same]; exact ht.2.2.1
    · rw [fup_ne q]
      exact hF.lst (fun r => q (pA_nodup hA.2.2.1 (by rw [hA.2.1]; exact hj) (by rw [hA.2.1]; exact hi) (al_inj hC g0 hz (Or.inr rfl) (Or.inr rfl) r).1)) g2
  · rw [hF.ai (t := 4) (Or.inl rfl) t4 id, hF.ai (t := 5) (Or.inr rfl) t5 id]; exact g4 l hl
  · rw [hF.fl rfl g0 id]; exact g5 b
theorem ClsU_st0 (h : ClsU σ X pa aa ea sa z w u) (hi : i < aN (wA w)) : ClsU (sfi σ 0 5 (pA aa i) 0) X pa aa ea sa z (wT w, (aN (wA w), aIns (wA w), aOut (wA w), fup (aSt (wA w)) i []), wC w, wP w, wW w, wK w, wL w) u ∧ Fr σ (sfi σ 0 5 (pA aa i) 0) no1 no1 no1 (fun c' k' a' => c' = 0 ∧ k' = 5 ∧ a' = pA aa i) := by
  have hF : Fr σ (sfi σ 0 5 (pA aa i) 0) no1 no1 no1 (fun c' k' a' => c' = 0 ∧ k' = 5 ∧ a' = pA aa i) := Fr_fi (by decide) (by decide) (by decide) (by decide)
  have hC := h.C
  obtain ⟨hH, hX, hT, hCC, hTp, hA, hW, hK, hLg⟩ := h
  refine ⟨⟨hH, XOk_fr hX hF, CTree_fr hT hF id (fun _ _ => id) (fun _ _ _ q => absurd q.1 (by decide)), CCon_fr hCC hF hC (fun _ _ _ _ => id), hF.cnt hC id hTp, ⟨hA.1, hA.2.1, hA.2.2.1, fun j hj => ?_⟩, CWas_fr hW hF hC (fun _ _ _ _ => id), CCac_fr hK hF hC (x_cache hC hX.1) id id (fun _ q => absurd q.1 (by decide)) (fun i hi => ⟨fun k hk => id, fun _ q => absurd q.1 (by decide), id, fun _ q => absurd q.1 (by decide)⟩), hF.log hC (fun q => absurd q.1 (by decide)) hLg⟩, hF⟩
  obtain ⟨g0, g1, g2, g3, g4, g5⟩ := hA.2.2.2 j hj
  by_cases q : j = i
  · subst q
    have e : fup (aSt (wA w)) j [] j = [] := fup_same
    refine ⟨g0, g1, g2, ?_, ?_, g5⟩
    · show zfi (sfi σ 0 5 (pA aa j) 0) 0 5 (pA aa j) = nI (fup (aSt (wA w)) j [] j).length
      rw [e]; exact if_pos ⟨rfl, rfl, rfl⟩
    · show ∀ l, l < (fup (aSt (wA w)) j [] j).length → (stI (fup (aSt (wA w)) j [] j))[l]? = _
      rw [e]
      intro l hl; exact absurd hl (Nat.not_lt_zero l)
  · have e : fup (aSt (wA w)) i [] j = aSt (wA w) j := fup_ne q
    refine ⟨g0, g1, g2, ?_, ?_, g5⟩
    · show zfi (sfi σ 0 5 (pA aa i) 0) 0 5 (pA aa j) = nI (fup (aSt (wA w)) i [] j).length
      rw [e, ← g3]
      exact if_neg (fun r => q (pA_nodup hA.2.2.1 (by rw [hA.2.1]; exact hj) (by rw [hA.2.1]; exact hi) r.2.2))
    · show ∀ l, l < (fup (aSt (wA w)) i [] j).length → (stI (fup (aSt (wA w)) i [] j))[l]? = _
      rw [e]; exact g4
theorem ClsU_mk (h : ClsU σ X pa aa ea sa z w u) (hI : tN (wT w) ≤ 60) (hp : p < tN (wT w)) {v : Option Nat} : ClsU (sfi σ 8 6 (pA pa p) (optI v)) X pa aa ea sa z (setMk (wT w) (fup (tMk (wT w)) p v), wA w, wC w, wP w, wW w, wK w, wL w) u ∧ Fr σ (sfi σ 8 6 (pA pa p) (optI v)) no1 no1 no1 (fun c' k' a' => c' = 8 ∧ k' = 6 ∧ a' = pA pa p) := by
  have hF : Fr σ (sfi σ 8 6 (pA pa p) (optI v)) no1 no1 no1 (fun c' k' a' => c' = 8 ∧ k' = 6 ∧ a' = pA pa p) := Fr_fi (by decide) (by decide) (by decide) (by decide)
  have hC := h.C
  obtain ⟨hH, hX, hT, hCC, hTp, hA, hW, hK, hLg⟩ := h
  refine ⟨⟨hH, XOk_fr hX hF, ⟨hT.1, hT.2.1, fun q hq => ?_⟩, CCon_fr hCC hF hC (fun _ _ _ _ => id), hF.cnt hC id hTp, CActU_fr hA hF hC id (fun _ _ => ⟨id, id⟩) (fun _ _ _ => ⟨fun q => absurd q.1 (by decide), fun q => absurd q.1 (by decide), fun q => absurd q.1 (by decide)⟩), CWas_fr hW hF hC (fun _ _ _ _ => id), CCac_fr hK hF hC (x_cache hC hX.1) id id (fun _ q => absurd q.1 (by decide)) (fun i hi => ⟨fun k hk => id, fun _ q => absurd q.1 (by decide), id, fun _ q => absurd q.1 (by decide)⟩), hF.log hC (fun q => absurd q.1 (by decide)) hLg⟩, hF⟩
  obtain ⟨g0, g1, g2, g3, g4, g5, g6⟩ := hT.2.2 q hq
  refine ⟨g0, g1, g2, g3, g4, ?_, g6⟩
  show zfi (sfi σ 8 6 (pA pa p) (optI v)) 8 6 (pA pa q) = optI (fup (tMk (wT w)) p v q)
  by_cases e : q = p
  · subst e; rw [fup_same]; exact if_pos ⟨rfl, rfl, rfl⟩
  · rw [fup_ne e, ← g5]
    exact if_neg (fun r => e (tree_inj hT hI hq hp r.2.2))
def nonP (c : Nat → Nat → Con) (p : Nat) : Nat → Nat → Con := fun s k => if k = p then none else c s k
/-- how many contents a path has -/
theorem p_len {a : Nat} (hC : CShape σ) (hz : zIs σ a 8) : ((ztg σ (a + 1)).1 = 2 ∨ (ztg σ (a + 1)).1 = 3 ∨ (ztg σ (a + 1)).1 = 4 ∨ (ztg σ (a + 1)).1 = 5) ∧ zln σ (a + 1) = nI 2 := by
  have t : ztg σ (a + 1) = (3, 6, 2) := cs_T hC le_8_4 hz
  exact ⟨by rw [t]; exact Or.inr (Or.inl rfl), by unfold zln; rw [t]; rfl⟩
theorem made_ok (h : ClsU σ X pa aa ea sa z w u) (hI : tN (wT w) ≤ 60) (hp : p < tN (wT w)) {v : Option Nat} (hP : ∀ τ, ClsU τ X pa aa ea sa z (setMk (wT w) (fup (tMk (wT w)) p v), wA w, nonP (wC w) p, wP w, wW w, wK w, wL w) u → NA σ τ → RF σ τ → capOf τ (X + 16) = capOf σ (X + 16) → capOf τ (X + 17) = capOf σ (X + 17) → P none τ) : wpM 62 [.ref (pA pa p), .int (optI v)] σ P := by
  have hz := (h.2.2.1.2.2 p hp).1
  obtain ⟨h1, f1⟩ := ClsU_mk (v := v) h hI hp
  have toN : ∀ (τ : zSt) (c : Nat), toC τ (sfi τ 2 1 c (-1)) c none := by
    intro τ c
    refine ⟨-1, zai τ 1 (c + 1), ?_, rfl⟩
    conv => lhs; rw [← C_self (σ := τ) (c := c)]
    rw [C_sfi]
  obtain ⟨h2, n2, r2, f2⟩ := Cls_con3 (c' := fup2 (wC w) 0 p none) (z' := z) h1 hI (s := 0) (by omega) hp (toN _ _) (fun s' p' hs' hp' => by
    show con3 _ _ _ _ = if _ then _ else con3 (wC w) z s' p'
    unfold con3 fup2
    by_cases q : s' = 2
    · rw [if_pos q, if_neg (by omega), if_pos q]
    · rw [if_neg q, if_neg q])
  obtain ⟨h3, n3, r3, f3⟩ := Cls_con3 (c' := nonP (wC w) p) (z' := z) h2 hI (s := 1) (by omega) hp (toN _ _) (fun s' p' hs' hp' => by
    show con3 _ _ _ _ = if _ then _ else con3 (fup2 (wC w) 0 p none) z s' p'
    unfold con3 fup2 nonP
    by_cases q : s' = 2
    · rw [if_pos q, if_neg (by omega), if_pos q]
    · rw [if_neg q, if_neg q]
      by_cases e : p' = p
      · rw [if_pos e]
        by_cases e1 : s' = 1
        · rw [if_pos ⟨e1, e⟩]
        · rw [if_neg (fun r => e1 r.1), if_pos ⟨by omega, e⟩]
      · rw [if_neg e, if_neg (fun r => e r.2), if_neg (fun r => e r.2)])
  have z1 := (h1.2.2.1.2.2 p hp).1
  have z2 := (h2.2.2.1.2.2 p hp).1
  have z3 := (h3.2.2.1.2.2 p hp).1
  refine b62.mpr ⟨hz, (b62_7 h1.C).mpr ⟨z1, (p_len h1.C z1).1, ifn (by rw [(p_len h1.C z1).2]; decide) ((b62_16 h1.C).mpr ⟨z1, zIn_lit (k := 0) (by omega) (by omega) rfl, ?_⟩)⟩⟩
  refine (b62_7 h2.C).mpr ⟨z2, (p_len h2.C z2).1, ifn (by rw [(p_len h2.C z2).2]; decide) ((b62_16 h2.C).mpr ⟨z2, zIn_lit (k := 1) (by omega) (by omega) rfl, ?_⟩)⟩
  refine (b62_7 h3.C).mpr ⟨z3, (p_len h3.C z3).1, ifp (by rw [(p_len h3.C z3).2]; decide) (b62_32.mpr ?_)⟩
  exact hP _ h3 (n2.tr n3 : NA _ _) ((f1.rf (fun _ _ _ q => by omega)).tr (r2.tr r3)) rfl rfl
/-- an input more -/
theorem input_ok (h : Cls σ X w N M) (hI : WInv w) (hI' : WInv (sInput w x y).1) (hP : ∀ τ, Cls τ X (sInput w x y).1 (N + 30) (M + 120) → RF σ τ → P (some (.int (sInput w x y).2)) τ) : wpM 91 [.ref X, .int x, .int y] σ P := by
  obtain ⟨pa, aa, ea, sa, z, hG, hR⟩ := h
  have hC := hG.C
  have hG' := hG
  obtain ⟨hH, hX, hT, hCC, hTp, hA, hW, hK, hLg⟩ := hG'
  have h31 := hI.2.1.n31
  have h31t := hI.1.n31
  have h40 := hI.2.1.1
  have same : ∀ r, sInput w x y = (w, r) → P (some (.int r)) σ := by
    intro r e
    have := hP σ
    rw [e] at this
    exact this ⟨pa, aa, ea, sa, z, hG, Rm_mono hR (by omega) (by omega)⟩ RF.rf
  refine (b91 hC).mpr ⟨hX.1, ?_⟩
  rcases ixN_cases x h31 with ⟨e, hx⟩ | ⟨i, hi, rfl, e⟩
  · exact ahas_no hC hX.1 hA h31 hx (b91_8.mpr (ifp rfl (b91_22.mpr (same _ (by unfold sInput; rw [e])))))
  refine ahas_yes hC hX.1 hA hi (b91_8.mpr (ifn (by decide) ((b91_11 hC).mpr ⟨hX.1, ?_⟩)))
  rcases ixN_cases y h31t with ⟨e', hy⟩ | ⟨p, hp, rfl, e'⟩
  · exact thas_no hC hX.1 hT hy (b91_19.mpr (ifn (fun q => q rfl) (b91_22.mpr (same _ (by unfold sInput; rw [e, e'])))))
  refine thas_yes hC hX.1 hT h31t hp (b91_19.mpr (ifp (by decide) ((b91_25 hC).mpr ⟨hX.1, aat_ok hC hX.1 hA hi ((b91_33 hC).mpr ⟨hX.1, tat_ok hC hX.1 hT hp (b91_42.mpr ?_)⟩)⟩)))
  have hact := hA.2.2.2 i hi
  obtain ⟨g0, g1, g2, g3, g4, g5⟩ := hact
  have hlen := (hI.2.1.2.1 i hi).1
  have eS : sInput w (nI i) (nI p) = if p ∈ aIns (wA w) i then (w, -4) else if pB (needP (wT w) (wA w) p i) = true then (w, -5) else if 6 ≤ (aIns (wA w) i).length then (w, -6) else ((wT w, (aN (wA w), fup (aIns (wA w)) i (aIns (wA w) i ++ [p]), aOut (wA w), aSt (wA w)), wC w, wP w, wW w, wK w, wL w), nI ((aIns (wA w) i).length + 1)) := by
    unfold sInput; rw [e, e']
  refine ⟨g0, hasIn_ok (o := some p) hC hT hA hI.1 hI.2.1 hi (fun j hj => by cases hj; exact hp) (b91_49.mpr ?_)⟩
  by_cases c1 : p ∈ aIns (wA w) i
  · rw [show (if (∃ q, q ∈ aIns (wA w) i ∧ some p = some q) then (1 : Int32) else 0) = 1 from if_pos ⟨p, c1, rfl⟩]
    exact ifn (by decide) (b91_52.mpr (same _ (by rw [eS, if_pos c1])))
  rw [show (if (∃ q, q ∈ aIns (wA w) i ∧ some p = some q) then (1 : Int32) else 0) = 0 from if_neg (fun q => by obtain ⟨q, h1, h2⟩ := q; cases h2; exact c1 h1)]
  refine ifp rfl ((b91_55 hC).mpr ⟨hX.1, circI_ok hC hX.1 hT hA hI.1 hI.2.1 hi hp (b91_65.mpr ?_)⟩)
  by_cases c2 : pB (needP (wT w) (wA w) p i) = true
  · rw [c2]
    exact ifn (by decide) (b91_68.mpr (same _ (by rw [eS, if_neg c1, if_pos c2])))
  rw [show pB (needP (wT w) (wA w) p i) = false by simpa using c2]
  refine ifp rfl ((b91_71 hC).mpr ⟨g0, size_ok g1 (b91_78.mpr ?_)⟩)
  rw [List.length_map]
  by_cases c3 : 6 ≤ (aIns (wA w) i).length
  · exact ifn (show ¬ nI (aIns (wA w) i).length < nI 6 from nI_nlt c3 (by omega)) (b91_83.mpr (same _ (by rw [eS, if_neg c1, if_neg c2, if_pos c3])))
  refine ifp (show nI (aIns (wA w) i).length < nI 6 from nI_lt (by omega) (by omega)) ((b91_86 hC).mpr ⟨g0, ?_⟩)
  rw [if_neg c1, if_neg c2, if_neg c3] at eS
  rw [eS] at hP hI'
  refine add_ok hH g1 (by rw [List.length_map]; omega) (by
    have := (hT.2.2 p hp).1
    unfold zAsg; rw [this.1, this.2]; rfl) (fun τ ht => ?_)
  have em : (aIns (wA w) i).map (pA pa) ++ [pA pa p] = (aIns (wA w) i ++ [p]).map (pA pa) := by simp
  rw [em] at ht
  obtain ⟨hG1, hF1⟩ := ClsU_ins hG hi ht
  have hC1 := hG1.C
  refine (b91_95 hC1).mpr ⟨hG1.2.1.1, renew_ok hG1 hI'.1 hI'.2.1 (fun υ hG2 hN2 hF2 => ?_)⟩
  have hC2 := hG2.C
  have hA2 := hG2.2.2.2.2.2.1.2.2.2 i hi
  refine (b91_103 hC2).mpr ⟨hA2.1, size_ok hA2.2.1 (b91_110.mpr ?_)⟩
  have el : (((aIns (wA (wT w, (aN (wA w), fup (aIns (wA w)) i (aIns (wA w) i ++ [p]), aOut (wA w), aSt (wA w)), wC w, wP w, wW w, wK w, wL w)) i)).map (pA pa)).length = (aIns (wA w) i).length + 1 := by
    show ((fup (aIns (wA w)) i (aIns (wA w) i ++ [p]) i).map (pA pa)).length = _
    rw [fup_same]; simp
  rw [el]
  have hz := g0
  have r1 := Rm_L (w := w) hR hK ht (fun q => al_X hC hz hX (Or.inl rfl) (by omega) q) (fun q => al_X hC hz hX (Or.inl rfl) (by omega) q)
  have hK1 := hG1.2.2.2.2.2.2.2.1
  have r2 := Rm_na r1 (hF2.cap id hK1.1) (hF2.cap id hK1.2.1) hN2
  refine hP υ ⟨pa, aa, ea, sa, z, hG2, Rm_mono r2 ?_ ?_⟩ ((hF1.rf (fun _ _ _ q => q.elim)).tr (hF2.rf (fun _ _ _ q => by have := q.1; omega)))
  · simp; omega
  · simp; omega
/-- an output more -/
theorem output_ok (h : Cls σ X w N M) (hI : WInv w) (hI' : WInv (sOutput w x y).1) (hP : ∀ τ, Cls τ X (sOutput w x y).1 (N + 30) (M + 120) → RF σ τ → P (some (.int (sOutput w x y).2)) τ) : wpM 92 [.ref X, .int x, .int y] σ P := by
  obtain ⟨pa, aa, ea, sa, z, hG, hR⟩ := h
  have hC := hG.C
  have hG' := hG
  obtain ⟨hH, hX, hT, hCC, hTp, hA, hW, hK, hLg⟩ := hG'
  have h31 := hI.2.1.n31
  have h31t := hI.1.n31
  have h40 := hI.2.1.1
  have same : ∀ r, sOutput w x y = (w, r) → P (some (.int r)) σ := by
    intro r e
    have := hP σ
    rw [e] at this
    exact this ⟨pa, aa, ea, sa, z, hG, Rm_mono hR (by omega) (by omega)⟩ RF.rf
  refine (b92 hC).mpr ⟨hX.1, ?_⟩
  rcases ixN_cases x h31 with ⟨e, hx⟩ | ⟨i, hi, rfl, e⟩
  · exact ahas_no hC hX.1 hA h31 hx (b92_8.mpr (ifp rfl (b92_22.mpr (same _ (by unfold sOutput; rw [e])))))
  refine ahas_yes hC hX.1 hA hi (b92_8.mpr (ifn (by decide) ((b92_11 hC).mpr ⟨hX.1, ?_⟩)))
  rcases ixN_cases y h31t with ⟨e', hy⟩ | ⟨p, hp, rfl, e'⟩
  · exact thas_no hC hX.1 hT hy (b92_19.mpr (ifn (fun q => q rfl) (b92_22.mpr (same _ (by unfold sOutput; rw [e, e'])))))
  refine thas_yes hC hX.1 hT h31t hp (b92_19.mpr (ifp (by decide) ((b92_25 hC).mpr ⟨hX.1, aat_ok hC hX.1 hA hi ((b92_33 hC).mpr ⟨hX.1, tat_ok hC hX.1 hT hp (b92_42.mpr ?_)⟩)⟩)))
  obtain ⟨g0, g1, g2, g3, g4, g5⟩ := hA.2.2.2 i hi
  obtain ⟨k0, k1, k2, k3, k4, k5, k6⟩ := hT.2.2 p hp
  have hlen := (hI.2.1.2.1 i hi).2.2.2.1
  have eS : sOutput w (nI i) (nI p) = if tDir (wT w) p = true then (w, -3) else if tMk (wT w) p ≠ none then (w, -4) else if pB (circO (wT w) (wA w) i p) = true then (w, -5) else if 3 ≤ (aOut (wA w) i).length then (w, -6)
    else ((setMk (wT w) (fup (tMk (wT w)) p (some i)), (aN (wA w), aIns (wA w), fup (aOut (wA w)) i (aOut (wA w) i ++ [p]), aSt (wA w)), nonP (wC w) p, wP w, wW w, wK w, wL w), nI ((aOut (wA w) i).length + 1)) := by
    unfold sOutput; rw [e, e']; rfl
  refine ⟨k0, ?_⟩
  rw [k4]
  by_cases c0 : tDir (wT w) p = true
  · rw [c0]
    exact ifn (by decide) (b92_52.mpr (same _ (by rw [eS, if_pos c0])))
  rw [show tDir (wT w) p = false by simpa using c0]
  refine ifp rfl (b92_55.mpr ⟨k0, ?_⟩)
  rw [k5]
  by_cases c1 : tMk (wT w) p = none
  · rw [c1]
    refine ifp rfl ((b92_67 hC).mpr ⟨hX.1, circO_ok hC hX.1 hT hA hI.1 hI.2.1 hi hp (b92_77.mpr ?_)⟩)
    by_cases c2 : pB (circO (wT w) (wA w) i p) = true
    · rw [c2]
      exact ifn (by decide) (b92_80.mpr (same _ (by rw [eS, if_neg c0, if_neg (fun q => q c1), if_pos c2])))
    rw [show pB (circO (wT w) (wA w) i p) = false by simpa using c2]
    refine ifp rfl ((b92_83 hC).mpr ⟨g0, size_ok g2 (b92_90.mpr ?_)⟩)
    rw [List.length_map]
    by_cases c3 : 3 ≤ (aOut (wA w) i).length
    · exact ifn (show ¬ nI (aOut (wA w) i).length < nI 3 from nI_nlt c3 (by omega)) (b92_94.mpr (same _ (by rw [eS, if_neg c0, if_neg (fun q => q c1), if_neg c2, if_pos c3])))
    refine ifp (show nI (aOut (wA w) i).length < nI 3 from nI_lt (by omega) (by omega)) ((b92_97 hC).mpr ⟨g0, ?_⟩)
    rw [if_neg c0, if_neg (fun q => q c1), if_neg c2, if_neg c3] at eS
    rw [eS] at hP hI'
    refine add_ok hH g2 (by rw [List.length_map]; omega) (by
      unfold zAsg; rw [k0.1, k0.2]; rfl) (fun τ ht => ?_)
    have em : (aOut (wA w) i).map (pA pa) ++ [pA pa p] = (aOut (wA w) i ++ [p]).map (pA pa) := by simp
    rw [em] at ht
    obtain ⟨hG1, hF1⟩ := ClsU_out hG hi ht
    refine b92_106.mpr ⟨(hG1.2.2.1.2.2 p hp).1, made_ok (v := some i) hG1 hI.1.2.1 hp (fun τ1 hG2 hN2 hF2 q1 q2 => ?_)⟩
    have hC2 := hG2.C
    refine (b92_113 hC2).mpr ⟨hG2.2.1.1, renew_ok hG2 hI'.1 hI'.2.1 (fun υ hG3 hN3 hF3 => ?_)⟩
    have hC3 := hG3.C
    have hA3 := hG3.2.2.2.2.2.1.2.2.2 i hi
    refine (b92_120 hC3).mpr ⟨hA3.1, size_ok hA3.2.2.1 (b92_127.mpr ?_)⟩
    have el : ((fup (aOut (wA w)) i (aOut (wA w) i ++ [p]) i).map (pA pa)).length = (aOut (wA w) i).length + 1 := by
      rw [fup_same]; simp
    have el' := congrArg (fun q => P (some (.int (nI q))) υ) el
    refine cast el'.symm ?_
    have r1 := Rm_L (w := w) hR hK ht (fun q => al_X hC g0 hX (Or.inr rfl) (by omega) q) (fun q => al_X hC g0 hX (Or.inr rfl) (by omega) q)
    have r2 := Rm_na r1 q1 q2 hN2
    have hK2 := hG2.2.2.2.2.2.2.2.1
    have r3 := Rm_na r2 (hF3.cap id hK2.1) (hF3.cap id hK2.2.1) hN3
    refine hP υ ⟨pa, aa, ea, sa, z, hG3, Rm_mono r3 ?_ ?_⟩ ((hF1.rf (fun _ _ _ q => q.elim)).tr (hF2.tr (hF3.rf (fun _ _ _ q => by have := q.1; omega))))
    · simp; omega
    · simp; omega
  · refine ifn (fun q => c1 ((optI_m1 (hI.1.mk31 hI.2.1 hp)).mp q)) (b92_64.mpr (same _ (by rw [eS, if_neg c0, if_pos c1])))
end GE
