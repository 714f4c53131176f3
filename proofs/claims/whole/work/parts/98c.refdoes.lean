/-! THE REFERENCE: an action is done; builds -/
section RDO
variable {σ : zSt} {o : Nat} {sc sc' : ScT} {ar ar' ar2 : ArT} {P : Option Value → zSt → Prop} {x y ev v r0 c0 : Int32} {p s i j q m n a b k f g cap no d e t : Nat} {w : WT} {T : TreT} {A : ActT} {l key : List Int32} {S : List Nat} {op op' : Nat → Bool} {out : Nat → Con}
/-- all that an action that is done may touch ahead of its outputs -/
def does8 : List Nat := [17, 18, 19, 21, 22, 23, 24, 25, 26, 27, 28, 29, 30, 31, 32, 33, 34, 35, 36, 37, 38, 39, 42, 43, 44, 45, 46, 47, 48, 49, 50, 51]
/-- the rows told so far stay, the next one's but its failure -/
def LRow (ar ar' : ArT) (d : Nat) (x r c : Int32) : Prop := (∀ j, j < d → ar' 53 j = ar 53 j ∧ ar' 54 j = ar 54 j ∧ ar' 55 j = ar 55 j ∧ ar' 56 j = ar 56 j) ∧ ar' 53 d = x ∧ ar' 54 d = r ∧ ar' 56 d = c
theorem LRow_ag {S : List Nat} (h : LRow ar ar' d x r0 c0) (hA : Ag sc ar' sc' ar2 S) (hS : ∀ k ∈ [33, 34, 35, 36], k ∉ S) : LRow ar ar2 d x r0 c0 := by
  obtain ⟨h1, h2, h3, h4⟩ := h
  exact ⟨fun j hj => by rw [hA.2 53 _ (hS 33 (by decide)), hA.2 54 _ (hS 34 (by decide)), hA.2 55 _ (hS 35 (by decide)), hA.2 56 _ (hS 36 (by decide))]; exact h1 j hj, by rw [hA.2 53 _ (hS 33 (by decide))]; exact h2, by rw [hA.2 54 _ (hS 34 (by decide))]; exact h3, by rw [hA.2 56 _ (hS 36 (by decide))]; exact h4⟩
theorem comesW_ok (hI : WInv w) (hs : s < 2) (hi : i < aN (wA w)) : rnOk (aOut (wA w) i).length (comesW (wT w) (wC w s) (wA w) i) := by
  obtain ⟨hT, hA, hC, hP, hW, hK, hL⟩ := hI
  exact runW_ok (no := (aOut (wA w) i).length) hT (hC.cvOk hs (hA.2.1 i hi).2.1) (hA.2.1 i hi).2.1 (aSt (wA w) i) [] false (fun _ => none) (fun q hq => ((hA.2.1 i hi).2.2.2.2.2.2.2 q hq).2) ⟨Nat.zero_le _, fun x hx => absurd hx (by simp)⟩ (fun o l h => by cases h) (fun _ _ => rfl)
set_option maxHeartbeats 1000000 in
/-- from where what it comes to lies ready -/
theorem does_tail (hR : RShape σ o) (h : RefR sc ar w) (hI : WInv w) (hs : s < 2) (hi : i < aN (wA w)) (hlog : (wL w).1.length < 40) (hN : RNd ar (aN (wA w)) op) {sc8 : ScT} {ar8 : ArT} {f : Nat} {was' : Nat → Nat → Option KeyT} {K' : CacT} {L2 L3 : Int32} {x4 : Int32} (hg : Ag sc ar sc8 ar8 does8) (hw : RWas ar8 (aN (wA w)) was') (hK : RCac sc8 ar8 K') (hf : sc8 49 = nI f) (hcm : RCame ar8 out) (hol : ∀ q l, out q = some l → l.length ≤ 64) (h32 : sc8 32 = nI ((wL w).1.length + 1)) (h37 : sc8 37 = L2) (h38 : sc8 38 = L3) (hlr : LRow ar ar8 (wL w).1.length (nI i) r0 c0) (hP : ∀ sc' ar', RefR sc' ar' (withB w (fup (wC w) s (layO (wC w s) (aOut (wA w) i) out 0), was', K', ((wL w).1 ++ [(nI i, r0, nI f, c0)], L2, L3, (wL w).2.2.2))) → RNd ar' (aN (wA w)) (fup op i false) → P none (rOv σ o sc' ar')) : wp 172 109 [some (.ref o), some (.int (nI s)), some (.int (nI i)), some (.int (nI (wL w).1.length)), some (.int x4)] [] (rOv σ o sc8 ar8) P := by
  have h40 := hI.2.1.1
  have h60 := hI.1.2.1
  obtain ⟨q1, q2, q3, q4, q5, q6, ⟨q7, ⟨q8, q9, q10⟩, q11⟩⟩ := h
  refine (b172_109 hR).mpr ?_
  rw [nI_clamp (by omega), hf]
  refine ⟨nI_in (N := 40) (by omega) (by omega), ?_⟩
  have g9 : Ag sc8 ar8 sc8 (upA ar8 55 (wL w).1.length (nI f)) [35] := Ag_ar (by decide)
  have hg9 : Ag sc ar sc8 (upA ar8 55 (wL w).1.length (nI f)) does8 := hg.tr (g9.mono (by decide))
  have r55 : ∀ j, j < (wL w).1.length → upA ar8 55 (wL w).1.length (nI f) 55 j = ar8 55 j := fun j hj => upA_ne (fun r => by omega)
  have s55 : upA ar8 55 (wL w).1.length (nI f) 55 (wL w).1.length = nI f := upA_same
  generalize upA ar8 55 (wL w).1.length (nI f) = ar9 at g9 hg9 r55 s55
  have hA9 := RAct_ag q4 hg9 (by decide)
  have hCs : RConS ar s (tN (wT w)) (wC w s) := RCon_at q2 hs
  refine r_lay (out := out) hR hA9 hI.2.1 h60 hi (by omega) (RConS_ag hCs hg9 (by decide)) (hI.2.2.1.len hs) (RCame_ag hcm g9 (by decide)) hol (fun ar10 l1 l2 g10 => (b172_125 hR).mpr ?_)
  rw [nI_clamp (by omega)]
  refine ⟨⟨nI_in (N := 40) (by omega) (by omega), Or.inr rfl⟩, ?_⟩
  have gB : Ag sc8 ar9 sc8 (upA ar10 73 i 1) [5, 6, 53] := (g10.mono (by decide)).tr (Ag_ar (by decide))
  have gall : Ag sc ar sc8 (upA ar10 73 i 1) ([5, 6, 53] ++ does8) := (hg9.mono (by decide)).tr (gB.mono (by decide))
  have gsc : Ag sc8 ar10 sc8 (upA ar10 73 i 1) [53] := Ag_ar (by decide)
  have gw : Ag sc8 ar8 sc8 (upA ar10 73 i 1) [5, 6, 35, 53] := (g9.mono (by decide)).tr (gB.mono (by decide))
  have hRN : RNd (upA ar10 73 i 1) (aN (wA w)) (fup op i false) := by
    refine RNd_done (RNd_ag (sc := sc) (sc' := sc8) hN ((hg9.mono (S' := [5, 6] ++ does8) (by decide)).tr (g10.mono (by decide))) ?_ ?_)
    all_goals decide
  refine hP _ _ ⟨RTree_ag q1 gall (by decide), ?_, RTape_ag q3 gall (by decide), RAct_ag q4 gall (by decide), RWas_ag hw gw (by decide), RCac_ag hK gw (by decide), ?_⟩ hRN
  · have oth : ∀ s', s' < 2 → s' ≠ s → RConS (upA ar10 73 i 1) s' (tN (wT w)) (fup (wC w) s (layO (wC w s) (aOut (wA w) i) out 0) s') := fun s' hs' hne => by
      rw [fup_ne hne]
      exact RConS_ag (l2 s' (wC w s') hne (by omega) (hI.2.2.1.len hs') (RConS_ag (RCon_at q2 hs') hg9 (by decide))) gsc (by decide)
    have own : RConS (upA ar10 73 i 1) s (tN (wT w)) (fup (wC w) s (layO (wC w s) (aOut (wA w) i) out 0) s) := by
      rw [fup_same]; exact RConS_ag l1 gsc (by decide)
    refine ⟨?_, ?_⟩
    · by_cases c : s = 0
      · subst c; exact own
      · exact oth 0 (by omega) (fun r => c r.symm)
    · by_cases c : s = 1
      · subst c; exact own
      · exact oth 1 (by omega) (fun r => c r.symm)
  · have l9 : LRow ar (upA ar10 73 i 1) (wL w).1.length (nI i) r0 c0 ∧ ∀ j, upA ar10 73 i 1 55 j = ar9 55 j := by
      refine ⟨?_, fun j => gB.2 55 j (by decide)⟩
      obtain ⟨k1, k2, k3, k4⟩ := hlr
      refine ⟨fun j hj => ?_, ?_, ?_, ?_⟩
      · obtain ⟨z1, z2, z3, z4⟩ := k1 j hj
        refine ⟨?_, ?_, ?_, ?_⟩
        · rw [gB.2 53 _ (by decide), g9.2 53 _ (by decide)]; exact z1
        · rw [gB.2 54 _ (by decide), g9.2 54 _ (by decide)]; exact z2
        · rw [gB.2 55 _ (by decide), r55 j hj]; exact z3
        · rw [gB.2 56 _ (by decide), g9.2 56 _ (by decide)]; exact z4
      · rw [gB.2 53 _ (by decide), g9.2 53 _ (by decide)]; exact k2
      · rw [gB.2 54 _ (by decide), g9.2 54 _ (by decide)]; exact k3
      · rw [gB.2 56 _ (by decide), g9.2 56 _ (by decide)]; exact k4
    obtain ⟨⟨k1, k2, k3, k4⟩, k5⟩ := l9
    refine ⟨?_, ⟨h37, h38, ?_⟩, fun j hj => ?_⟩
    · show sc8 32 = nI ((wL w).1 ++ [_]).length
      rw [h32, List.length_append]; rfl
    · show sc8 40 = (wL w).2.2.2
      rw [hg.1 40 (by decide)]; exact q10
    · have hj : j < ((wL w).1 ++ [(nI i, r0, nI f, c0)]).length := hj
      show ((wL w).1 ++ [(nI i, r0, nI f, c0)])[j]? = _
      rw [List.length_append] at hj
      by_cases c : j < (wL w).1.length
      · rw [List.getElem?_append_left c]
        obtain ⟨z1, z2, z3, z4⟩ := k1 j c
        rw [z1, z2, z3, z4]; exact q11 j c
      · have hj' : j = (wL w).1.length := by
          have : j < (wL w).1.length + 1 := hj
          omega
        subst hj'
        rw [List.getElem?_append_right (Nat.le_refl _), Nat.sub_self, k2, k3, k4, k5, s55]; rfl
set_option maxHeartbeats 1000000 in
theorem r_does (hR : RShape σ o) (h : RefR sc ar w) (hI : WInv w) (hs : s < 2) (hi : i < aN (wA w)) (hlog : (wL w).1.length < 40) (hN : RNd ar (aN (wA w)) op) (hP : ∀ sc' ar', RefR sc' ar' (withB w (doW (wT w) (wA w) s i (bOf w))) → RNd ar' (aN (wA w)) (fup op i false) → P none (rOv σ o sc' ar')) : wpM 172 [.ref o, .int (nI s), .int (nI i)] (rOv σ o sc ar) P := by
  have h40 := hI.2.1.1
  have h60 := hI.1.2.1
  obtain ⟨q1, q2, q3, q4, q5, q6, q7⟩ := id h
  have hCs : RConS ar s (tN (wT w)) (wC w s) := RCon_at q2 hs
  have hlen := hI.2.2.1.len hs
  have hko := keyW_ok hI.1 hI.2.1 hi hlen
  have hkl := keyOk_len hko
  have hcall : conAll (wT w) (wC w s) := fun p hp l hl => (hI.2.2.1 s p hs hp).1 l hl
  have hK := hI.2.2.2.2.2.1
  refine (b172 hR).mpr ?_
  rw [q7.1, nI_clamp (by omega), nI_1]
  refine ⟨nI_in (N := 40) (by omega) (by omega), ?_⟩
  have g1 : Ag sc ar (upS sc 32 (nI ((wL w).1.length + 1))) (upA ar 53 (wL w).1.length (nI i)) [32, 33] := (Ag_ar (by decide)).tr (Ag_sc (by decide))
  have s1 : (upS sc 32 (nI ((wL w).1.length + 1))) 32 = nI ((wL w).1.length + 1) := upS_same
  have a1 : (∀ j, j < (wL w).1.length → upA ar 53 (wL w).1.length (nI i) 53 j = ar 53 j) ∧ upA ar 53 (wL w).1.length (nI i) 53 (wL w).1.length = nI i := ⟨fun j hj => upA_ne (fun r => by omega), upA_same⟩
  generalize upS sc 32 (nI ((wL w).1.length + 1)) = sc1 at g1 s1
  generalize upA ar 53 (wL w).1.length (nI i) = ar1 at g1 a1
  refine r_changedOf (was := wW w s i) hR (RTree_ag q1 g1 (by decide)) hI.1 (RAct_ag q4 g1 (by decide)) hI.2.1 hs (RConS_ag hCs g1 (by decide)) hlen hi (RWas_ag q5 g1 (by decide) s i hs hi) (fun u hu => hI.2.2.2.2.1 s i u hs hi hu) (fun sc2 ar2 g2 => (b172_33 hR).mpr ?_)
  generalize hchg : chgW (keyW (wT w) (wC w s) (wA w) i) (wW w s i) = c0
  rw [nI_clamp (by omega)]
  refine ⟨nI_in (N := 40) (by omega) (by omega), ?_⟩
  have g3 : Ag sc2 ar2 sc2 (upA ar2 56 (wL w).1.length c0) [36] := Ag_ar (by decide)
  have a3 : (∀ j, j < (wL w).1.length → upA ar2 56 (wL w).1.length c0 56 j = ar2 56 j) ∧ upA ar2 56 (wL w).1.length c0 56 (wL w).1.length = c0 := ⟨fun j hj => upA_ne (fun r => by omega), upA_same⟩
  generalize upA ar2 56 (wL w).1.length c0 = ar3 at g3 a3
  have g03 : Ag sc ar sc2 ar3 does8 := ((g1.mono (by decide)).tr (g2.mono (by decide))).tr (g3.mono (by decide))
  refine r_note hR (RTree_ag q1 g03 (by decide)) hI.1 (RAct_ag q4 g03 (by decide)) hI.2.1 hs (RConS_ag hCs g03 (by decide)) hlen hi (was := wW w) (RWas_ag q5 (((g1.mono (by decide)).tr (g2.mono (by decide))).tr (g3.mono (S' := [32, 33, 36, 42, 43, 44, 45, 46]) (by decide))) (by decide)) hI.2.2.2.2.1 (fun sc4 ar4 n4 w4 g4 => (b172_40 hR).mpr ?_)
  have g04 : Ag sc ar sc4 ar4 does8 := g03.tr (g4.mono (by decide))
  have c4 : RCac sc4 ar4 (wK w) := RCac_ag q6 ((((g1.mono (by decide)).tr (g2.mono (by decide))).tr (g3.mono (by decide))).tr (g4.mono (S' := [17, 18, 19, 32, 33, 36, 42, 43, 44, 45, 46]) (by decide))) (by decide)
  have s32 : sc4 32 = nI ((wL w).1.length + 1) := by rw [g4.1 32 (by decide), g2.1 32 (by decide)]; exact s1
  have s37 : sc4 37 = (wL w).2.1 := by rw [g4.1 37 (by decide), g2.1 37 (by decide), g1.1 37 (by decide)]; exact q7.2.1.1
  have s38 : sc4 38 = (wL w).2.2.1 := by rw [g4.1 38 (by decide), g2.1 38 (by decide), g1.1 38 (by decide)]; exact q7.2.1.2.1
  have s20 : sc4 20 = nI (wK w).1 := by
    obtain ⟨pe, _, _, _, z, _⟩ := c4
    exact z
  have v54 : ∀ j, ar4 54 j = ar 54 j := fun j => by rw [g4.2 54 _ (by decide), g3.2 54 _ (by decide), g2.2 54 _ (by decide), g1.2 54 _ (by decide)]
  have v55 : ∀ j, ar4 55 j = ar 55 j := fun j => by rw [g4.2 55 _ (by decide), g3.2 55 _ (by decide), g2.2 55 _ (by decide), g1.2 55 _ (by decide)]
  have v53 : ∀ j, ar4 53 j = ar1 53 j := fun j => by rw [g4.2 53 _ (by decide), g3.2 53 _ (by decide), g2.2 53 _ (by decide)]
  have v56 : ∀ j, ar4 56 j = ar3 56 j := fun j => by rw [g4.2 56 _ (by decide)]
  have o56 : ∀ j, ar2 56 j = ar 56 j := fun j => by rw [g2.2 56 _ (by decide), g1.2 56 _ (by decide)]
  have mkL : ∀ r0, LRow ar (upA ar4 54 (wL w).1.length r0) (wL w).1.length (nI i) r0 c0 := fun r0 => by
    refine ⟨fun j hj => ⟨?_, ?_, ?_, ?_⟩, ?_, upA_same, ?_⟩
    · rw [upA_ne (fun r => absurd r.1 (by decide)), v53]; exact a1.1 j hj
    · rw [upA_ne (fun r => by omega), v54]
    · rw [upA_ne (fun r => absurd r.1 (by decide)), v55]
    · rw [upA_ne (fun r => absurd r.1 (by decide)), v56, a3.1 j hj, o56]
    · rw [upA_ne (fun r => absurd r.1 (by decide)), v53]; exact a1.2
    · rw [upA_ne (fun r => absurd r.1 (by decide)), v56]; exact a3.2
  refine r_placeOf (key := flatK (keyW (wT w) (wC w s) (wA w) i)) hR c4 hK n4.1 hkl ((b172_44 hR).mpr ?_)
  have hl100 := hK.2.1
  cases hfd : findW (wK w).2.1 (flatK (keyW (wT w) (wC w s) (wA w) i)) with
  | some j =>
    obtain ⟨hj, _⟩ := findW_some hfd
    have eD := doW_some (t := wT w) (a := wA w) (s := s) (i := i) (b := bOf w) rfl hfd
    rw [show (bOf w).2.2.1.2.1 = (wK w).2.1 from rfl, getD_E hj] at eD
    rw [eD] at hP
    subst hchg
    refine ifp (nI_m1 (by omega)) ((b172_61 hR).mpr ((b172_62 hR).mpr ?_))
    rw [nI_clamp (by omega)]
    refine ⟨nI_in (N := 40) (by omega) (by omega), ifp (nI_m1 (by omega)) ((b172_93 hR).mpr ?_)⟩
    have g5 : Ag sc4 ar4 sc4 (upA ar4 54 (wL w).1.length 0) [34] := Ag_ar (by decide)
    have l5 := mkL 0
    generalize upA ar4 54 (wL w).1.length 0 = ar5 at g5 l5
    refine r_use (cap := (wK w).1) (es := (wK w).2.1) (ev := (wK w).2.2) hR (RCac_ag c4 g5 (by decide)) hl100 hK.2.2.2 hj (fun sc6 ar6 c6 f6 m6 g6 => (b172_99 hR).mpr ?_)
    have g06 : Ag sc ar (upS sc6 38 (sc6 38 + 1)) ar6 does8 := ((g04.tr (g5.mono (by decide))).tr (g6.mono (by decide))).tr (Ag_sc (by decide))
    have gx : Ag sc6 ar6 (upS sc6 38 (sc6 38 + 1)) ar6 [38] := Ag_sc (by decide)
    have hokj := hK.2.2.2 _ (List.getElem_mem hj)
    refine does_tail hR h hI hs hi hlog hN g06 (RWas_ag w4 (g5.mono (S' := [21, 22, 28, 34, 49, 50, 51]) (by decide) |>.tr (g6.mono (by decide))) (by decide)) (RCac_ag c6 gx (by decide)) (f := eFail (wK w).2.1[j]) (by rw [upS_ne (by omega)]; exact f6) m6 (fun q l hl => (hokj.2.1 q l hl).1) (by rw [upS_ne (by omega), g6.1 32 (by decide)]; exact s32) (L2 := (wL w).2.1) (by rw [upS_ne (by omega), g6.1 37 (by decide)]; exact s37) (L3 := (wL w).2.2.1 + 1) (by rw [upS_same, g6.1 38 (by decide), s38]) (LRow_ag l5 g6 (by decide)) hP
  | none =>
    have eD := doW_none (t := wT w) (a := wA w) (s := s) (i := i) (b := bOf w) rfl hfd
    rw [eD] at hP
    subst hchg
    refine ifn (fun r => r rfl) ((b172_57 hR).mpr ((b172_62 hR).mpr ?_))
    rw [nI_clamp (by omega)]
    refine ⟨nI_in (N := 40) (by omega) (by omega), ifn (fun r => r rfl) ((b172_69 hR).mpr ?_)⟩
    have g5 : Ag sc4 ar4 sc4 (upA ar4 54 (wL w).1.length 1) [34] := Ag_ar (by decide)
    have l5 := mkL 1
    generalize upA ar4 54 (wL w).1.length 1 = ar5 at g5 l5
    have g05 : Ag sc ar sc4 ar5 does8 := g04.tr (g5.mono (by decide))
    obtain ⟨r1, r2, r3⟩ := comesW_ok hI hs hi
    refine r_play hR (RTree_ag q1 g05 (by decide)) hI.1 (RAct_ag q4 g05 (by decide)) hI.2.1 (by omega) (RConS_ag hCs g05 (by decide)) hcall hi (fun sc6 ar6 f6 m6 g6 => (b172_75 hR).mpr ?_)
    have g06 : Ag sc ar sc6 ar6 does8 := g05.tr (g6.mono (by decide))
    have n6 : NowR sc6 ar6 (flatK (keyW (wT w) (wC w s) (wA w) i)) := NowR_ag n4.1 ((g5.mono (S' := [34, 45, 46, 47, 48, 49, 50, 51]) (by decide)).tr (g6.mono (by decide))) (by decide) (by decide)
    refine r_enter (cap := (wK w).1) (es := (wK w).2.1) (ev := (wK w).2.2) (key := flatK (keyW (wT w) (wC w s) (wA w) i)) (out := (comesW (wT w) (wC w s) (wA w) i).2) (f := (comesW (wT w) (wC w s) (wA w) i).1) (no := (aOut (wA w) i).length) hR (RCac_ag c4 ((g5.mono (S' := [34, 45, 46, 47, 48, 49, 50, 51]) (by decide)).tr (g6.mono (by decide))) (by decide)) hl100 hK.2.2.2 hK.1 n6 hkl f6 m6 ((RAct_ag q4 g06 (by decide)).2 i hi).2.1.1 (by omega) ⟨hkl, r1, r3, (hI.2.1.2.1 i hi).2.2.2.1, r2⟩ (fun sc7 ar7 c7 g7 => (b172_80 hR).mpr ?_)
    have g07 : Ag sc ar (upS sc7 37 (sc7 37 + 1)) ar7 does8 := (g06.tr (g7.mono (by decide))).tr (Ag_sc (by decide))
    have gx : Ag sc7 ar7 (upS sc7 37 (sc7 37 + 1)) ar7 [37] := Ag_sc (by decide)
    refine does_tail hR h hI hs hi hlog hN g07 (RWas_ag w4 ((g5.mono (S' := [21, 22, 23, 24, 25, 26, 27, 28, 29, 30, 31, 34, 39, 45, 46, 47, 48, 49, 50, 51]) (by decide) |>.tr (g6.mono (by decide))).tr (g7.mono (by decide))) (by decide)) (RCac_ag c7 gx (by decide)) (f := (comesW (wT w) (wC w s) (wA w) i).1) (by rw [upS_ne (by omega), g7.1 49 (by decide)]; exact f6) (RCame_ag m6 g7 (by decide)) (fun q l hl => (r1 q l hl).1) (by rw [upS_ne (by omega), g7.1 32 (by decide), g6.1 32 (by decide)]; exact s32) (L2 := (wL w).2.1 + 1) (by rw [upS_same, g7.1 37 (by decide), g6.1 37 (by decide), s37]) (L3 := (wL w).2.2.1) (by rw [upS_ne (by omega), g7.1 38 (by decide), g6.1 38 (by decide)]; exact s38) (LRow_ag (LRow_ag l5 g6 (by decide)) g7 (by decide)) hP
theorem next_no (h : cnt op (aN A) = 0) : nextW T A op = none := next_none (fun j hj hc => by
  have := cnt_0 h j hj
  rw [hc.1] at this; cases this)
theorem r_bld (hR : RShape σ o) (hT0 : TInv (wT w)) (hs : s < 2) {r37 : Int32} : ∀ n b op sc ar, RefR sc ar (withB w b) → WInv (withB w b) → RNd ar (aN (wA w)) op → cnt op (aN (wA w)) ≤ n → b.2.2.2.1.length + n ≤ 40 → (∀ sc' ar', RefR sc' ar' (withB w (bldW (wT w) (wA w) s n b op)) → P (some (.int ((bldW (wT w) (wA w) s n b op).2.2.2.2.1 - r37))) (rOv σ o sc' ar')) → wp 173 56 [some (.ref o), some (.int (nI s)), some (.int y), some (.int r37), some (.int (optI (nextW (wT w) (wA w) op)))] [] (rOv σ o sc ar) P := by
  intro n
  induction n with
  | zero =>
    intro b op sc ar h hI hN hc hl hP
    rw [next_no (by omega)]
    refine (b173_56 hR).mpr (ifp rfl ((b173_78 hR).mpr ?_))
    rw [h.2.2.2.2.2.2.2.1.1]
    exact hP _ _ h
  | succ n ih =>
    intro b op sc ar h hI hN hc hl hP
    cases hnx : nextW (wT w) (wA w) op with
    | none =>
      have eb : bldW (wT w) (wA w) s (n + 1) b op = b := by
        show (match nextW (wT w) (wA w) op with
          | none => b
          | some i => bldW (wT w) (wA w) s n (doW (wT w) (wA w) s i b) (fup op i false)) = b
        rw [hnx]
      rw [eb] at hP
      refine (b173_56 hR).mpr (ifp rfl ((b173_78 hR).mpr ?_))
      rw [h.2.2.2.2.2.2.2.1.1]
      exact hP _ _ h
    | some i =>
      obtain ⟨hi, hcd⟩ := next_lt hnx
      have h40 := hI.2.1.1
      have h40 : aN (wA w) ≤ 40 := h40
      have eb : bldW (wT w) (wA w) s (n + 1) b op = bldW (wT w) (wA w) s n (doW (wT w) (wA w) s i b) (fup op i false) := by
        show (match nextW (wT w) (wA w) op with
          | none => b
          | some i => bldW (wT w) (wA w) s n (doW (wT w) (wA w) s i b) (fup op i false)) = _
        rw [hnx]
      rw [eb] at hP
      have hlog : (wL (withB w b)).1.length < 40 := by
        show b.2.2.2.1.length < 40
        omega
      have hdi := doW_inv hI hs hi hlog
      have hoff := cnt_off (n := aN (wA w)) hi hcd.1
      refine (b173_56 hR).mpr (ifn (nI_m1 (by omega)) ((b173_62 hR).mpr (r_does hR h hI hs hi hlog hN (fun sc2 ar2 h2 hN2 => (b173_69 hR).mpr ?_))))
      have hI2 := hdi.1
      refine r_next hR h2.1 h2.2.2.2.1 hI2.1 (hI2.2.1.bnd hI2.1) hN2 ((b173_73 hR).mpr ?_)
      have e2 : (doW (wT w) (wA w) s i b).2.2.2.1.length = b.2.2.2.1.length + 1 := hdi.2
      exact ih (doW (wT w) (wA w) s i b) (fup op i false) sc2 ar2 h2 hI2 hN2 (by omega) (by rw [e2]; omega) hP
theorem r_build (hR : RShape σ o) (h : RefR sc ar w) (hI : WInv w) (hP : ∀ sc' ar', RefR sc' ar' (sBuild w x y).1 → P (some (.int (sBuild w x y).2)) (rOv σ o sc' ar')) : wpM 173 [.ref o, .int x, .int y] (rOv σ o sc ar) P := by
  have h40 := hI.2.1.1
  have h60 := hI.1.2.1
  have bad : sBuild w x y = (w, -2) → P (some (.int (-2))) (rOv σ o sc ar) := by
    intro e
    rw [e] at hP
    exact hP _ _ h
  refine (b173 hR).mpr ?_
  rcases ixN_cases x (n := 2) (by omega) with ⟨e, hx⟩ | ⟨s, hs, rfl, e⟩
  · exact rspace_no hR hx ((b173_6 hR).mpr (ifp rfl ((b173_22 hR).mpr (bad (by unfold sBuild; rw [e])))))
  refine rspace_yes hR hs ((b173_6 hR).mpr (ifn (by decide) ((b173_9 hR).mpr ?_)))
  have go : ∀ po : Option Nat, ixN (tN (wT w)) y = po → ¬ (y ≠ -1 ∧ ixN (tN (wT w)) y = none) → y = optI po → wp 173 25 [some (.ref o), some (.int (nI s)), some (.int y), none, none] [] (rOv σ o sc ar) P := by
    intro po ho hno hy
    have eS : sBuild w (nI s) y = ((withB w (bldOf w s po)), (bldOf w s po).2.2.2.2.1 - (wL w).2.1) := by
      unfold sBuild
      rw [e]
      dsimp only
      rw [if_neg hno, ho]; rfl
    rw [eS] at hP
    obtain ⟨q1, q2, q3, q4, q5, q6, ⟨q7, ⟨q8, q9, q10⟩, q11⟩⟩ := id h
    refine (b173_25 hR).mpr ?_
    have e40 : (upS sc 32 0) 40 = (wL w).2.2.2 := by rw [upS_ne (by omega)]; exact q10
    rw [e40]
    have e37 : (upS (upS sc 32 0) 40 ((wL w).2.2.2 + 1)) 37 = (wL w).2.1 := by rw [upS_ne (by omega), upS_ne (by omega)]; exact q8
    rw [e37]
    have g1 : Ag sc ar (upS (upS sc 32 0) 40 ((wL w).2.2.2 + 1)) ar [32, 40] := (Ag_sc (by decide)).tr (Ag_sc (by decide))
    have h1 : RefR (upS (upS sc 32 0) 40 ((wL w).2.2.2 + 1)) ar (withB w (wC w, wW w, wK w, ([], (wL w).2.1, (wL w).2.2.1, (wL w).2.2.2 + 1))) := by
      refine ⟨RTree_ag q1 g1 (by decide), ⟨RConS_ag q2.1 g1 (by decide), RConS_ag q2.2 g1 (by decide)⟩, RTape_ag q3 g1 (by decide), RAct_ag q4 g1 (by decide), RWas_ag q5 g1 (by decide), RCac_ag q6 g1 (by decide), ⟨?_, ⟨e37, ?_, upS_same⟩, fun j hj => absurd hj (Nat.not_lt_zero j)⟩⟩
      · rw [upS_ne (by omega), upS_same]; rfl
      · rw [upS_ne (by omega), upS_ne (by omega)]; exact q9
    have hI1 : WInv (withB w (wC w, wW w, wK w, ([], (wL w).2.1, (wL w).2.2.1, (wL w).2.2.2 + 1))) := ⟨hI.1, hI.2.1, hI.2.2.1, hI.2.2.2.1, hI.2.2.2.2.1, hI.2.2.2.2.2.1, Nat.zero_le _⟩
    generalize upS (upS sc 32 0) 40 ((wL w).2.2.2 + 1) = sc1 at g1 h1 e37
    have hy2 := hy
    subst hy2
    refine r_need hR h1.1 h1.2.2.2.1 hI.1 hI.2.1 (po := po) (fun p hp => ?_) (fun ar2 hN g2 => (b173_50 hR).mpr ?_)
    · rw [hp] at ho; exact ixN_lt ho
    have h2 := RefR_ag h1 g2 (by decide)
    refine r_next hR h2.1 h2.2.2.2.1 hI.1 (hI.2.1.bnd hI.1) hN ((b173_54 hR).mpr ?_)
    exact r_bld (w := w) hR hI.1 hs 40 _ (needW (wT w) (wA w) po) sc1 ar2 h2 hI1 hN (Nat.le_trans (cnt_le _) h40) (Nat.le_refl _) hP
  by_cases hy : y = -1
  · have hix : ixN (tN (wT w)) y = none := by
      rw [hy]
      rcases ixN_cases (-1) (n := tN (wT w)) (by omega) with ⟨q, _⟩ | ⟨p, hp, q, _⟩
      · exact q
      · exact absurd q.symm (nI_m1 (by omega))
    exact ifp hy (go none hix (fun q => q.1 hy) hy)
  · refine ifn hy ((b173_14 hR).mpr ?_)
    rcases ixN_cases y (n := tN (wT w)) (by omega) with ⟨e', hy'⟩ | ⟨p, hp, rfl, e'⟩
    · exact rispath_no hR h.1 h60 hy' ((b173_19 hR).mpr (ifn (fun q => q rfl) ((b173_22 hR).mpr (bad (by unfold sBuild; rw [e]; dsimp only; rw [if_pos ⟨hy, e'⟩])))))
    · exact rispath_yes hR h.1 h60 hp ((b173_19 hR).mpr (ifp (by decide) (go (some p) e' (fun q => (by rw [e'] at q; cases q.2)) rfl)))
end RDO
