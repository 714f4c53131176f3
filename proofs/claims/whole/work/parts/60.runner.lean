/-! THE CLASS RUNS A PROGRAM -/
def RunC (σ : zSt) (X : Nat) (pa : List Nat) (t : TreT) (a : ActT) (i q s : Nat) (cv : Nat → Con) : Prop := HI σ ∧ XOk σ X ∧ CTree σ X pa t ∧ (∀ p, p < tN t → Cnt σ (pA pa p + 3 + 2 * s) (cv p)) ∧ zIs σ q 0 ∧ LVal σ (q + 1) ((aIns a i).map (pA pa)) ∧ LVal σ (q + 2) ((aOut a i).map (pA pa)) ∧ zfi σ 0 5 q = nI (aSt a i).length ∧ ∀ j, j < (aSt a i).length → (stI (aSt a i))[j]? = some (zai σ 4 (q + 3) j, zai σ 5 (q + 4) j)
def RunS (σ : zSt) (X : Nat) (pa : List Nat) (t : TreT) (a : ActT) (i q s : Nat) (cv : Nat → Con) (o no : Nat) (row : List Int32) (ps : Bool) (out : Nat → Con) : Prop := RunC σ X pa t a i q s cv ∧ Cnt σ (X + 19) (some row) ∧ OutI σ o no 0 out ∧ zfi σ 9 1 (X + 18) = b2I ps
def runCs (X o : Nat) : Nat → Prop := fun c => c = X + 19 ∨ ∃ k, k < 3 ∧ c = o + 2 + 2 * k
def runFs (o : Nat) : Nat → Nat → Nat → Prop := fun c _ a => c = 9 ∨ (c = 7 ∧ a = o)
def RunQ (σ : zSt) (X : Nat) (pa : List Nat) (t : TreT) (a : ActT) (i q s : Nat) (cv : Nat → Con) (o no : Nat) (P : Option Value → zSt → Prop) (st : Nat × List Int32 × Bool × (Nat → Con)) : Prop := ∀ τ row', RunS τ X pa t a i q s cv o no row' st.2.2.1 st.2.2.2 → (st.1 = 0 → row' = st.2.1) → Fr σ τ (runCs X o) no1 no1 (runFs o) → NA σ τ → P (some (.int (nI st.1))) τ
section RN
variable {σ τ υ : zSt} {P : Option Value → zSt → Prop} {X i q s o no v c j k : Nat} {pa : List Nat} {t : TreT} {a : ActT} {cv out : Nat → Con} {row l : List Int32} {ps : Bool} {x : Int32}
theorem RunC_fr (h : RunC σ X pa t a i q s cv) (hs : s < 2) (ho : zIs σ o 7) (hF : Fr σ τ (runCs X o) no1 no1 (runFs o)) (hH : HI τ) : RunC τ X pa t a i q s cv := by
  obtain ⟨h0, hX, hT, hc, g0, g1, g2, g3, g4⟩ := h
  have hC := h0.1
  have t4 : ztg σ (q + 3) = (2, 4, 16) := cs_T hC le_0_2 g0
  have t5 : ztg σ (q + 4) = (2, 5, 16) := cs_T hC le_0_3 g0
  refine ⟨hH, XOk_fr hX hF, CTree_fr hT hF id (fun _ _ => id) (fun _ _ _ r => by unfold runFs at r; omega), fun p hp => hF.cnt hC (fun r => ?_) (hc p hp), hF.is g0, hF.lst id g1, hF.lst id g2, ?_, fun j hj => ?_⟩
  · rcases r with r | ⟨k, hk, r⟩
    · exact (pc_X hC (hT.2.2 p hp).1 hX hs).2 r
    · exact pc_oc hC (hT.2.2 p hp).1 ho hs hk r
  · rw [hF.fi rfl g0 (fun r => by unfold runFs at r; omega)]; exact g3
  · rw [hF.ai (t := 4) (Or.inl rfl) t4 (fun r => by unfold runFs at r; omega), hF.ai (t := 5) (Or.inr rfl) t5 (fun r => by unfold runFs at r; omega)]; exact g4 j hj
theorem x_row (hC : CShape σ) (h : XOk σ X) : zIs σ (X + 19) 2 := zIs_of (cs_T hC le_9_0 (x_runner hC h.1))
theorem RunS_row (h : RunS σ X pa t a i q s cv o no row ps out) (hs : s < 2) (ht : toC σ τ (X + 19) (some l)) : RunS τ X pa t a i q s cv o no l ps out ∧ Fr σ τ (runCs X o) no1 no1 (runFs o) ∧ NA σ τ := by
  obtain ⟨hc, hr, hO, hps⟩ := h
  have hC := hc.1.1
  have hX := hc.2.1
  have hF := Fr_C ht
  have hF' : Fr σ τ (runCs X o) no1 no1 (runFs o) := hF.mono (fun _ r => Or.inl r) (fun _ => id) (fun _ => id) (fun _ _ _ => False.elim)
  refine ⟨⟨RunC_fr hc hs hO.1 hF' (HI_C ht hc.1), toC_Cnt ht (x_row hC hX), OutI_fr hO hF hC (fun k hk r => (oc_X hC hO.1 hX hk).2 r) (fun _ => id), ?_⟩, hF', NA_C ht⟩
  rw [hF.fi rfl (x_runner hC hX.1) id]; exact hps
theorem RunS_out (h : RunS σ X pa t a i q s cv o no row ps out) (hs : s < 2) (hk : k < 3) {w : Con} (ht : toC σ τ (o + 2 + 2 * k) w) : RunS τ X pa t a i q s cv o no row ps (fup out k w) ∧ Fr σ τ (runCs X o) no1 no1 (runFs o) ∧ NA σ τ := by
  obtain ⟨hc, hr, hO, hps⟩ := h
  have hC := hc.1.1
  have hX := hc.2.1
  have hF := Fr_C ht
  have hF' : Fr σ τ (runCs X o) no1 no1 (runFs o) := hF.mono (fun _ r => Or.inr ⟨k, hk, r⟩) (fun _ => id) (fun _ => id) (fun _ _ _ => False.elim)
  refine ⟨⟨RunC_fr hc hs hO.1 hF' (HI_C ht hc.1), hF.cnt hC (fun r => (oc_X hC hO.1 hX hk).2 r.symm) hr, ⟨hF.is hO.1, by rw [hF.fi rfl hO.1 id]; exact hO.2.1, by rw [hF.fi rfl hO.1 id]; exact hO.2.2.1, fun j hj => ?_⟩, ?_⟩, hF', NA_C ht⟩
  · by_cases e : j = k
    · subst e; rw [fup_same]; exact toC_Cnt ht (hO.2.2.2 j hj).1
    · rw [fup_ne e]; exact hF.cnt hC (fun r => e (oc_inj hC hO.1 hO.1 hj hk r).2) (hO.2.2.2 j hj)
  · rw [hF.fi rfl (x_runner hC hX.1) id]; exact hps
theorem RunS_ps (h : RunS σ X pa t a i q s cv o no row ps out) (hs : s < 2) {b : Bool} : RunS (sfi σ 9 1 (X + 18) (b2I b)) X pa t a i q s cv o no row b out ∧ Fr σ (sfi σ 9 1 (X + 18) (b2I b)) (runCs X o) no1 no1 (runFs o) ∧ NA σ (sfi σ 9 1 (X + 18) (b2I b)) := by
  obtain ⟨hc, hr, hO, hps⟩ := h
  have hC := hc.1.1
  have hF : Fr σ (sfi σ 9 1 (X + 18) (b2I b)) no1 no1 no1 (fun c' k' a' => c' = 9 ∧ k' = 1 ∧ a' = X + 18) := Fr_fi (by decide) (by decide) (by decide) (by decide)
  have hF' : Fr σ (sfi σ 9 1 (X + 18) (b2I b)) (runCs X o) no1 no1 (runFs o) := hF.mono (fun _ => False.elim) (fun _ => id) (fun _ => id) (fun _ _ _ r => Or.inl r.1)
  exact ⟨⟨RunC_fr hc hs hO.1 hF' hc.1, hF.cnt hC id hr, OutI_fr hO hF hC (fun _ _ => id) (fun _ r => absurd r.1 (by decide)), if_pos ⟨rfl, rfl, rfl⟩⟩, hF', NA.rf⟩
theorem RunQ.same (h : RunS σ X pa t a i q s cv o no row ps out) (hQ : RunQ σ X pa t a i q s cv o no P (c, l, ps, out)) (hl : c = 0 → row = l) : P (some (.int (nI c))) σ := hQ σ row h hl Fr.refl NA.rf
theorem RunQ.rowC {l' : List Int32} (h : RunS σ X pa t a i q s cv o no row ps out) (hs : s < 2) (hQ : RunQ σ X pa t a i q s cv o no P (c, l, ps, out)) (ht : toC σ τ (X + 19) (some l')) (hl : c = 0 → l' = l) : P (some (.int (nI c))) τ := by
  obtain ⟨h1, h2, h3⟩ := RunS_row h hs ht
  exact hQ τ l' h1 hl h2 h3
theorem getD_get {l : List Nat} (h : v < l.length) : l.getD v 0 = l[v] := by
  rw [List.getD_eq_getElem?_getD, List.getElem?_eq_getElem h]; rfl
/-- what is put behind the row -/
theorem rowApp (h : RunS σ X pa t a i q s cv o no row false out) (hs : s < 2) (hQ : RunQ σ X pa t a i q s cv o no P (rowIf (row ++ l) out)) {w : List Int32} (ht : toC σ τ (X + 19) (some w)) : ((row ++ l).length ≤ 64 → w = row ++ l → P (some (.int 0)) τ) ∧ (64 < (row ++ l).length → P (some (.int 2)) τ) := by
  constructor
  · intro h1 h2
    unfold rowIf at hQ
    rw [if_pos h1] at hQ
    exact RunQ.rowC h hs hQ ht (fun _ => h2)
  · intro h1
    unfold rowIf at hQ
    rw [if_neg (by omega)] at hQ
    exact RunQ.rowC h hs hQ ht (fun r => absurd r (by decide))
theorem rd_ok (h : RunS σ X pa t a i q s cv o no row false out) (hI : TInv t) (hI2 : AInv t a) (hi : i < aN a) (hs : s < 2) (hv : v < 256) (hQ : RunQ σ X pa t a i q s cv o no P (stepW t cv (aIns a i) no 0 v row out)) : wpM 69 [.ref (X + 18), .ref q, .int (nI v), .int (nI s)] σ P := by
  obtain ⟨⟨hH, hX, hT, hc, g0, g1, g2, g3, g4⟩, hr, hO, hps⟩ := id h
  have hC := hH.1
  have h6 := (hI2.2.1 i hi).1
  have hin := (hI2.2.1 i hi).2.1
  unfold stepW at hQ
  refine (b69 hC).mpr ⟨g0, size_ok g1 (b69_8.mpr ?_)⟩
  rw [List.length_map]
  by_cases c0 : (aIns a i).length ≤ v
  · rw [if_pos ⟨Or.inl rfl, c0⟩] at hQ
    exact ifn (nI_nlt c0 (by omega)) (b69_11.mpr (RunQ.same h hQ (fun r => absurd r (by decide))))
  have hv' : v < (aIns a i).length := by omega
  have hv2 : v < ((aIns a i).map (pA pa)).length := by rw [List.length_map]; exact hv'
  rw [if_neg (fun r => c0 r.2), if_neg (fun r => absurd r.1 (by decide)), if_pos rfl, getD_get hv'] at hQ
  have hp := hin _ (List.getElem_mem hv')
  refine ifp (nI_lt hv' (by omega)) ((b69_13 hC).mpr ⟨g0, get_ok g1 hv2 (b69_21.mpr ?_)⟩)
  rw [List.getElem_map]
  obtain ⟨k0, k1, k2, k3, k4, k5, k6⟩ := hT.2.2 _ hp
  refine ⟨k0, ?_⟩
  rw [k4]
  by_cases d : tDir t (aIns a i)[v] = true
  · rw [if_pos d] at hQ
    rw [d]
    exact ifn (by decide) (b69_34.mpr (RunQ.same h hQ (fun r => absurd r (by decide))))
  rw [if_neg d] at hQ
  rw [show tDir t (aIns a i)[v] = false by simpa using d]
  refine ifp rfl ((b69_36 hC).mpr ⟨k0, nI_in hs (by omega), ?_⟩)
  have hcc := hc _ hp
  rw [nI_clamp (by omega), show pA pa (aIns a i)[v] + 1 + 2 + 2 * s = pA pa (aIns a i)[v] + 3 + 2 * s by omega]
  refine isAbsent_ok hcc ?_
  cases hcv : cv (aIns a i)[v] with
  | none =>
    rw [hcv] at hQ
    rw [if_pos rfl]
    exact b69_46.mpr (ifn (by decide) (b69_49.mpr (RunQ.same h hQ (fun r => absurd r (by decide)))))
  | some l =>
    rw [hcv] at hQ hcc
    rw [if_neg (by simp)]
    refine b69_46.mpr (ifp rfl ((b69_51 hC).mpr ⟨x_runner hC hX.1, k0, nI_in hs (by omega), ?_⟩))
    rw [nI_clamp (by omega), show pA pa (aIns a i)[v] + 1 + 2 + 2 * s = pA pa (aIns a i)[v] + 3 + 2 * s by omega]
    refine appendAll_ok (c := X + 19) hC hr hcc (fun τ hl ht => b69_65.mpr (ifn (by decide) (b69_68.mpr (b69_73.mpr ?_)))) (fun τ w hl ht => b69_65.mpr (ifp rfl (b69_72.mpr (b69_73.mpr ?_))))
    · exact (rowApp h hs hQ ht).1 (by rw [List.length_append]; omega) rfl
    · exact (rowApp h hs hQ ht).2 (by rw [List.length_append]; omega)
theorem byte_ok (h : RunS σ X pa t a i q s cv o no row false out) (hs : s < 2) (hQ : RunQ σ X pa t a i q s cv o no P (rowIf (row ++ [x]) out)) : wpM 16 [.ref (X + 19), .int x] σ (fun r τ => (r = some (.int 1) → P (some (.int 0)) τ) ∧ (r = some (.int 0) → P (some (.int 2)) τ) ∧ (r = some (.int 1) ∨ r = some (.int 0))) := by
  obtain ⟨⟨hH, hX, hT, hc, g0, g1, g2, g3, g4⟩, hr, hO, hps⟩ := id h
  have hC := hH.1
  have h64 := hr.2.2.1
  by_cases hl : row.length < 64
  · refine append_ok hC hr hl (fun τ ht => ⟨fun _ => (rowApp h hs hQ ht).1 (by simp; omega) rfl, fun r => ?_, Or.inl rfl⟩)
    cases r
  · refine append_full hr (by omega) ⟨fun r => ?_, fun _ => (rowApp h hs hQ (toC_self hr)).2 (by simp; omega), Or.inr rfl⟩
    cases r
theorem wr_ok (h : RunS σ X pa t a i q s cv o no row false out) (hs : s < 2) (hno : no ≤ 3) (hv : v < 256) (hQ : RunQ σ X pa t a i q s cv o no P (stepW t cv (aIns a i) no 3 v row out)) : wpM 71 [.ref (X + 18), .ref o, .int (nI v)] σ P := by
  obtain ⟨⟨hH, hX, hT, hc, g0, g1, g2, g3, g4⟩, hr, hO, hps⟩ := id h
  have hC := hH.1
  unfold stepW at hQ
  rw [if_neg (by omega)] at hQ
  refine b71.mpr ⟨hO.1, ?_⟩
  rw [hO.2.1]
  by_cases c1 : no ≤ v
  · rw [if_pos ⟨rfl, c1⟩] at hQ
    exact ifn (nI_nlt c1 (by omega)) (b71_8.mpr (RunQ.same h hQ (fun r => absurd r (by decide))))
  rw [if_neg (fun r => c1 r.2), if_neg (by decide), if_neg (by decide), if_neg (by decide), if_pos rfl] at hQ
  have hv3 : v < 3 := by omega
  have hov := hO.2.2.2 v hv3
  refine ifp (nI_lt (by omega) (by omega)) ((b71_10 hC).mpr ⟨hO.1, nI_in hv3 (by omega), x_runner hC hX.1, ?_⟩)
  rw [nI_clamp (by omega), show o + 1 + 1 + 2 * v = o + 2 + 2 * v by omega]
  refine become_ok (d := X + 19) hC hr (oc_X hC hO.1 hX hv3).2 hov.1 (fun τ ht => ?_)
  obtain ⟨h1, f1, n1⟩ := RunS_out h hs hv3 ht
  have hC1 := h1.1.1.1
  have h0 : toC τ (sfi τ 2 1 (X + 19) 0) (X + 19) (some []) := by
    refine ⟨0, zai τ 1 (X + 19 + 1), ?_, rfl, Nat.zero_le _, fun i h => absurd h (Nat.not_lt_zero i)⟩
    conv => lhs; rw [← C_self (σ := τ) (c := X + 19)]
    rw [C_sfi]
  obtain ⟨h2, f2, n2⟩ := RunS_row h1 hs h0
  exact (b71_23 hC1).mpr ⟨x_runner hC1 h1.1.2.1.1, hQ _ [] h2 (fun _ => rfl) (f1.trans f2 hC1) (n1.tr n2)⟩
theorem sk_ok (h : RunS σ X pa t a i q s cv o no row false out) (hI : TInv t) (hI2 : AInv t a) (hi : i < aN a) (hs : s < 2) (hv : v < 256) (hQ : RunQ σ X pa t a i q s cv o no P (stepW t cv (aIns a i) no 9 v row out)) : wpM 72 [.ref (X + 18), .ref q, .int (nI v), .int (nI s)] σ P := by
  obtain ⟨⟨hH, hX, hT, hc, g0, g1, g2, g3, g4⟩, hr, hO, hps⟩ := id h
  have hC := hH.1
  have h6 := (hI2.2.1 i hi).1
  have hin := (hI2.2.1 i hi).2.1
  unfold stepW at hQ
  refine (b72 hC).mpr ⟨g0, size_ok g1 (b72_8.mpr ?_)⟩
  rw [List.length_map]
  by_cases c0 : (aIns a i).length ≤ v
  · rw [if_pos ⟨Or.inr (Or.inr rfl), c0⟩] at hQ
    exact ifn (nI_nlt c0 (by omega)) (b72_11.mpr (RunQ.same h hQ (fun r => absurd r (by decide))))
  have hv' : v < (aIns a i).length := by omega
  have hv2 : v < ((aIns a i).map (pA pa)).length := by rw [List.length_map]; exact hv'
  rw [if_neg (fun r => c0 r.2), if_neg (fun r => absurd r.1 (by decide)), if_neg (by decide), if_neg (by decide), if_neg (by decide), if_neg (by decide), if_neg (by decide), if_neg (by decide), if_neg (by decide), if_neg (by decide), if_neg (by decide), if_pos rfl, getD_get hv'] at hQ
  have hp := hin _ (List.getElem_mem hv')
  refine ifp (nI_lt hv' (by omega)) ((b72_13 hC).mpr ⟨g0, get_ok g1 hv2 (b72_21.mpr ?_)⟩)
  rw [List.getElem_map]
  obtain ⟨k0, k1, k2, k3, k4, k5, k6⟩ := hT.2.2 _ hp
  refine ⟨k0, ?_⟩
  rw [k4]
  by_cases d : tDir t (aIns a i)[v] = true
  · rw [if_pos d] at hQ
    rw [d]
    exact ifn (by decide) (b72_34.mpr (RunQ.same h hQ (fun r => absurd r (by decide))))
  rw [if_neg d] at hQ
  rw [show tDir t (aIns a i)[v] = false by simpa using d]
  refine ifp rfl ((b72_36 hC).mpr ⟨k0, nI_in hs (by omega), ?_⟩)
  have hcc := hc _ hp
  rw [nI_clamp (by omega), show pA pa (aIns a i)[v] + 1 + 2 + 2 * s = pA pa (aIns a i)[v] + 3 + 2 * s by omega]
  refine isAbsent_ok hcc ?_
  obtain ⟨h1, f1, n1⟩ := RunS_ps h hs (b := (cv (aIns a i)[v]).isSome)
  have fin := hQ _ row h1 (fun _ => rfl) f1 n1
  cases hcv : cv (aIns a i)[v] with
  | none =>
    rw [hcv] at fin
    rw [if_pos rfl]
    exact b72_47.mpr (ifp (by decide) (b72_54.mpr (b72_55.mpr ⟨x_runner hC hX.1, Or.inl rfl, fin⟩)))
  | some l =>
    rw [hcv] at fin
    rw [if_neg (by simp)]
    exact b72_47.mpr (ifn (fun r => r rfl) (b72_50.mpr (b72_55.mpr ⟨x_runner hC hX.1, Or.inr rfl, fin⟩)))
end RN
