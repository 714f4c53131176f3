/-! THE CLASS RUNS A PROGRAM: the rest -/
section RM
variable {σ τ υ : zSt} {P : Option Value → zSt → Prop} {X i q s o no v c j k n : Nat} {pa : List Nat} {t : TreT} {a : ActT} {cv out : Nat → Con} {row l : List Int32} {ps : Bool} {x : Int32}
theorem ls_ok (h : RunS σ X pa t a i q s cv o no row false out) (hI : TInv t) (hI2 : AInv t a) (hi : i < aN a) (hs : s < 2) (hv : v < 256) (hQ : RunQ σ X pa t a i q s cv o no P (stepW t cv (aIns a i) no 2 v row out)) : wpM 70 [.ref (X + 18), .ref q, .int (nI v), .int (nI s)] σ P := by
  obtain ⟨⟨hH, hX, hT, hc, g0, g1, g2, g3, g4⟩, hr, hO, hps⟩ := id h
  have hC := hH.1
  have h6 := (hI2.2.1 i hi).1
  have hin := (hI2.2.1 i hi).2.1
  unfold stepW at hQ
  refine (b70 hC).mpr ⟨g0, size_ok g1 (b70_8.mpr ?_)⟩
  rw [List.length_map]
  by_cases c0 : (aIns a i).length ≤ v
  · rw [if_pos ⟨Or.inr (Or.inl rfl), c0⟩] at hQ
    exact ifn (nI_nlt c0 (by omega)) (b70_11.mpr (RunQ.same h hQ (fun r => absurd r (by decide))))
  have hv' : v < (aIns a i).length := by omega
  have hv2 : v < ((aIns a i).map (pA pa)).length := by rw [List.length_map]; exact hv'
  rw [if_neg (fun r => c0 r.2), if_neg (fun r => absurd r.1 (by decide)), if_neg (by decide), if_neg (by decide), if_pos rfl, getD_get hv'] at hQ
  have hp := hin _ (List.getElem_mem hv')
  refine ifp (nI_lt hv' (by omega)) ((b70_13 hC).mpr ⟨g0, get_ok g1 hv2 (b70_21.mpr ?_)⟩)
  rw [List.getElem_map]
  obtain ⟨k0, k1, k2, k3, k4, k5, k6⟩ := hT.2.2 _ hp
  refine ⟨k0, ?_⟩
  rw [k4]
  by_cases d : tDir t (aIns a i)[v] = true
  · rw [if_pos d] at hQ
    rw [d]
    refine ifp (by decide) (b70_36.mpr ?_)
    have hfl := filesT_len hI (p := (aIns a i)[v])
    have h64 := hr.2.2.1
    have key : ∀ e m τ u6, m + e = (filesT t (aIns a i)[v]).length → toC σ τ (X + 19) (some (row ++ (((filesT t (aIns a i)[v]).take m).filter fun k => (cv k).isSome).map (fun k => 96 + nI (tNam t k)))) → wp 70 39 [some (.ref (X + 18)), some (.ref q), some (.int (nI v)), some (.int (nI s)), some (.ref (pA pa (aIns a i)[v])), some (.int (nI m)), u6] [] τ P := by
      intro e
      induction e with
      | zero =>
        intro m τ u6 em ht
        obtain ⟨h1, f1, n1⟩ := RunS_row h hs ht
        obtain ⟨⟨hH1, hX1, hT1, hc1, _⟩, _⟩ := id h1
        obtain ⟨m0, m1, m2, m3, m4, m5, m6⟩ := hT1.2.2 _ hp
        refine (b70_39 hH1.1).mpr ⟨m0, size_ok m6 (b70_49.mpr (ifp (by rw [List.length_map]; exact nI_le (by omega) (by omega)) (b70_106.mpr ?_)))⟩
        have hl := h1.2.1.2.2.1
        rw [List.take_of_length_le (by omega)] at ht hl
        have en : (namesW t cv (aIns a i)[v]).map (fun x => 96 + x) = ((filesT t (aIns a i)[v]).filter fun k => (cv k).isSome).map (fun k => 96 + nI (tNam t k)) := by
          unfold namesW; rw [List.map_map]; rfl
        rw [en] at hQ
        exact (rowApp h hs hQ ht).1 hl rfl
      | succ e ih =>
        intro m τ u6 em ht
        have hm : m < (filesT t (aIns a i)[v]).length := by omega
        have hm' : m < ((filesT t (aIns a i)[v]).map (pA pa)).length := by rw [List.length_map]; exact hm
        obtain ⟨h1, f1, n1⟩ := RunS_row h hs ht
        obtain ⟨⟨hH1, hX1, hT1, hc1, _⟩, hr1, _⟩ := id h1
        have hC1 := hH1.1
        obtain ⟨m0, m1, m2, m3, m4, m5, m6⟩ := hT1.2.2 _ hp
        have hf := ((mem_filesT hI).mp (List.getElem_mem hm)).1
        obtain ⟨f0, _, _, f3, _⟩ := hT1.2.2 _ hf
        refine (b70_39 hC1).mpr ⟨m0, size_ok m6 (b70_49.mpr (ifn (by rw [List.length_map]; exact nI_ge hm (by omega)) ((b70_52 hC1).mpr ⟨m0, get_ok m6 hm' ((b70_62 hC1).mpr ?_)⟩)))⟩
        rw [List.getElem_map]
        refine ⟨f0, nI_in hs (by omega), ?_⟩
        rw [nI_clamp (by omega), show pA pa (filesT t (aIns a i)[v])[m] + 1 + 2 + 2 * s = pA pa (filesT t (aIns a i)[v])[m] + 3 + 2 * s by omega]
        refine isAbsent_ok (hc1 _ hf) ?_
        have tk : (filesT t (aIns a i)[v]).take (m + 1) = (filesT t (aIns a i)[v]).take m ++ [(filesT t (aIns a i)[v])[m]] := by rw [List.take_add_one, List.getElem?_eq_getElem hm]; rfl
        by_cases hcv : cv (filesT t (aIns a i)[v])[m] = none
        · rw [if_pos hcv]
          refine b70_77.mpr (ifp (by decide) (b70_100.mpr ?_))
          rw [nI_1]
          refine ih (m + 1) τ _ (by omega) ?_
          rw [tk, List.filter_append]
          simpa [hcv] using ht
        · rw [if_neg hcv]
          have hsome : (cv (filesT t (aIns a i)[v])[m]).isSome = true := by
            cases hh : cv (filesT t (aIns a i)[v])[m] with
            | none => exact absurd hh hcv
            | some _ => rfl
          refine b70_77.mpr (ifn (fun r => r rfl) ((b70_80 hC1).mpr ⟨x_runner hC1 hX1.1, f0, ?_⟩))
          rw [f3]
          have hl1 := hr1.2.2.1
          by_cases hl : (row ++ (((filesT t (aIns a i)[v]).take m).filter fun k => (cv k).isSome).map (fun k => 96 + nI (tNam t k))).length < 64
          · refine append_ok hC1 hr1 hl (fun τ2 h2 => b70_95.mpr (ifp (by decide) (b70_100.mpr ?_)))
            rw [nI_1]
            refine ih (m + 1) τ2 _ (by omega) ?_
            have := toC_trans ht h2
            rw [tk, List.filter_append, List.map_append, ← List.append_assoc]
            simpa [hsome] using this
          · refine append_full hr1 (by omega) (b70_95.mpr (ifn (fun r => r rfl) (b70_98.mpr ?_)))
            have en : (namesW t cv (aIns a i)[v]).map (fun x => 96 + x) = ((filesT t (aIns a i)[v]).filter fun k => (cv k).isSome).map (fun k => 96 + nI (tNam t k)) := by
              unfold namesW; rw [List.map_map]; rfl
            rw [en] at hQ
            refine (rowApp h hs hQ ht).2 ?_
            have sub : ((((filesT t (aIns a i)[v]).take (m + 1)).filter fun k => (cv k).isSome)).length ≤ ((filesT t (aIns a i)[v]).filter fun k => (cv k).isSome).length := List.Sublist.length_le (List.Sublist.filter _ (List.take_sublist _ _))
            rw [tk, List.filter_append] at sub
            simp [hsome] at sub
            simp at hl ⊢
            omega
    exact key _ 0 σ none (Nat.zero_add _) (by simpa using toC_self hr)
  · rw [if_neg d] at hQ
    rw [show tDir t (aIns a i)[v] = false by simpa using d]
    exact ifn (fun r => r rfl) (b70_34.mpr (RunQ.same h hQ (fun r => absurd r (by decide))))
/-- what needs neither input nor output -/
theorem rs_ok (h : RunS σ X pa t a i q s cv o no row false out) (hs : s < 2) (hrow : conOk row) (hn : n < 14) (hv : v < 256) (hne : n ≠ 0 ∧ n ≠ 1 ∧ n ≠ 2 ∧ n ≠ 3 ∧ n ≠ 9 ∧ n ≠ 11) (hQ : RunQ σ X pa t a i q s cv o no P (stepW t cv (aIns a i) no n v row out)) : wpM 68 [.ref (X + 18), .int (nI n), .int (nI v)] σ P := by
  obtain ⟨⟨hH, hX, hT, hc, g0, g1, g2, g3, g4⟩, hr, hO, hps⟩ := id h
  have hC := hH.1
  have hz := x_runner hC hX.1
  have eqn : ∀ m, m < 14 → (nI n = nI m ↔ n = m) := fun m hm => nI_eq (by omega) (by omega)
  unfold stepW at hQ
  rw [if_neg (by omega), if_neg (by omega), if_neg hne.1, if_neg hne.2.1, if_neg hne.2.2.1, if_neg hne.2.2.2.1] at hQ
  refine b68.mpr ?_
  by_cases c4 : n = 4
  · rw [if_pos c4] at hQ
    refine ifp (show nI n = nI 4 by rw [c4]) ((b68_52 hC).mpr ⟨hz, turn_ok (c := X + 19) hC hr (fun τ ht => b68_59.mpr (RunQ.rowC h hs hQ ht (fun _ => rfl)))⟩)
  rw [if_neg c4] at hQ
  refine ifn (fun r => c4 ((eqn 4 (by omega)).mp r)) ?_
  by_cases c5 : n = 5
  · rw [if_pos c5] at hQ
    refine ifp (show nI n = nI 5 by rw [c5]) ((b68_61 hC).mpr ⟨hz, sort_ok (c := X + 19) hC hr (fun τ ht => b68_68.mpr (RunQ.rowC h hs hQ ht (fun _ => rfl)))⟩)
  rw [if_neg c5] at hQ
  refine ifn (fun r => c5 ((eqn 5 (by omega)).mp r)) ?_
  by_cases c6 : n = 6
  · rw [if_pos c6] at hQ
    refine ifp (show nI n = nI 6 by rw [c6]) ((b68_70 hC).mpr ⟨hz, ?_⟩)
    rw [show zfi σ 2 1 (X + 18 + 1) = nI row.length from hr.2.1]
    have := hr.2.2.1
    exact figures_ok (c := X + 19) hC hr.1 (by omega) (fun τ ht => b68_84.mpr (RunQ.rowC h hs hQ ht (fun _ => rfl)))
  rw [if_neg c6] at hQ
  refine ifn (fun r => c6 ((eqn 6 (by omega)).mp r)) ?_
  by_cases c7 : n = 7
  · rw [if_pos c7] at hQ
    obtain ⟨k, hk1, hk2, hk3⟩ := sum_eq hrow
    rw [hk3] at hQ
    refine ifp (show nI n = nI 7 by rw [c7]) ((b68_86 hC).mpr ⟨hz, sum_ok (c := X + 19) hC hr (b68_97.mpr ⟨hr.1, ?_⟩)⟩)
    rw [hk2]
    exact figures_ok (c := X + 19) hC hr.1 hk1 (fun τ ht => b68_100.mpr (RunQ.rowC h hs hQ ht (fun _ => rfl)))
  rw [if_neg c7] at hQ
  refine ifn (fun r => c7 ((eqn 7 (by omega)).mp r)) ?_
  by_cases c8 : n = 8
  · rw [if_pos c8] at hQ
    exact ifp (show nI n = nI 8 by rw [c8]) ((b68_102 hC).mpr ⟨hz, cut_ok (c := X + 19) hr (by omega) (fun τ ht => b68_110.mpr (RunQ.rowC h hs hQ ht (fun _ => rfl)))⟩)
  rw [if_neg c8, if_neg hne.2.2.2.2.1] at hQ
  refine ifn (fun r => c8 ((eqn 8 (by omega)).mp r)) ?_
  by_cases c10 : n = 10
  · rw [if_pos c10] at hQ
    exact ifp (show nI n = nI 10 by rw [c10]) ((b68_112 hC).mpr ⟨hz, keepFirst_ok (c := X + 19) hC hr (fun τ ht => b68_119.mpr (RunQ.rowC h hs hQ ht (fun _ => rfl)))⟩)
  rw [if_neg c10, if_neg hne.2.2.2.2.2] at hQ
  refine ifn (fun r => c10 ((eqn 10 (by omega)).mp r)) ?_
  by_cases c12 : n = 12
  · rw [if_pos c12] at hQ
    exact ifp (show nI n = nI 12 by rw [c12]) ((b68_121 hC).mpr ⟨hz, mix_ok (c := X + 19) hC hr (fun τ ht => b68_129.mpr (RunQ.rowC h hs hQ ht (fun _ => rfl)))⟩)
  rw [if_neg c12] at hQ
  refine ifn (fun r => c12 ((eqn 12 (by omega)).mp r)) ((b68_131 hC).mpr ⟨hz, ?_⟩)
  refine appendAll_ok (c := X + 19) (d := X + 19) hC hr hr (fun τ hl ht => b68_142.mpr (ifn (by decide) (b68_145.mpr (b68_150.mpr ?_)))) (fun τ w hl ht => b68_142.mpr (ifp rfl (b68_149.mpr (b68_150.mpr ?_))))
  · exact (rowApp h hs hQ ht).1 (by rw [List.length_append]; omega) rfl
  · exact (rowApp h hs hQ ht).2 (by rw [List.length_append]; omega)
theorem perf_ok (h : RunS σ X pa t a i q s cv o no row false out) (hI : TInv t) (hI2 : AInv t a) (hi : i < aN a) (hs : s < 2) (hno : no ≤ 3) (hrow : conOk row) (hj : j < (aSt a i).length) (hQ : RunQ σ X pa t a i q s cv o no P (stepW t cv (aIns a i) no (aSt a i)[j].1 (aSt a i)[j].2 row out)) : wpM 67 [.ref (X + 18), .ref q, .int (nI j), .int (nI s), .ref o] σ P := by
  obtain ⟨⟨hH, hX, hT, hc, g0, g1, g2, g3, g4⟩, hr, hO, hps⟩ := id h
  have hC := hH.1
  have hz := x_runner hC hX.1
  have h16 := (hI2.2.1 i hi).2.2.2.2.2.2.1
  obtain ⟨hn, hv⟩ := (hI2.2.1 i hi).2.2.2.2.2.2.2 _ (List.getElem_mem hj)
  have e1 := g4 j hj
  unfold stI at e1
  rw [List.getElem?_map, List.getElem?_eq_getElem hj] at e1
  have e2 := Option.some.inj e1
  have en : zai σ 4 (q + 3) j = nI (aSt a i)[j].1 := (congrArg Prod.fst e2).symm
  have ev : zai σ 5 (q + 4) j = nI (aSt a i)[j].2 := (congrArg Prod.snd e2).symm
  generalize hgn : (aSt a i)[j].1 = n at *
  generalize hgv : (aSt a i)[j].2 = v at *
  have eqn : ∀ m, m < 14 → (nI n = nI m ↔ n = m) := fun m hm => nI_eq (by omega) (by omega)
  refine (b67 hC).mpr ⟨g0, nI_in (by omega) (by omega), nI_in (by omega) (by omega), ?_⟩
  rw [nI_clamp (by omega), en, ev]
  by_cases c0 : n = 0
  · subst c0
    exact ifp rfl (b67_76.mpr ⟨hz, rd_ok h hI hI2 hi hs hv (fun τ row' a1 a2 a3 a4 => b67_84.mpr (hQ τ row' a1 a2 a3 a4))⟩)
  refine ifn (fun r => c0 ((eqn 0 (by omega)).mp r)) ?_
  by_cases c1 : n = 1
  · subst c1
    unfold stepW at hQ
    rw [if_neg (by omega), if_neg (by omega), if_neg (by decide), if_pos rfl] at hQ
    refine ifp rfl ((b67_85 hC).mpr ⟨hz, wpM_post (byte_ok h hs hQ) (fun r τ hr => ?_)⟩)
    obtain ⟨r1, r2, r3⟩ := hr
    rcases r3 with rfl | rfl
    · exact b67_94.mpr (ifn (by decide) (b67_97.mpr (b67_102.mpr (r1 rfl))))
    · exact b67_94.mpr (ifp rfl (b67_101.mpr (b67_102.mpr (r2 rfl))))
  refine ifn (fun r => c1 ((eqn 1 (by omega)).mp r)) ?_
  by_cases c2 : n = 2
  · subst c2
    exact ifp rfl (b67_103.mpr ⟨hz, ls_ok h hI hI2 hi hs hv (fun τ row' a1 a2 a3 a4 => b67_111.mpr (hQ τ row' a1 a2 a3 a4))⟩)
  refine ifn (fun r => c2 ((eqn 2 (by omega)).mp r)) ?_
  by_cases c3 : n = 3
  · subst c3
    exact ifp rfl (b67_112.mpr ⟨hz, wr_ok h hs hno hv (fun τ row' a1 a2 a3 a4 => b67_120.mpr (hQ τ row' a1 a2 a3 a4))⟩)
  refine ifn (fun r => c3 ((eqn 3 (by omega)).mp r)) ?_
  have rest : n ≠ 9 → n ≠ 11 → wp 67 132 [some (.ref (X + 18)), some (.ref q), some (.int (nI j)), some (.int (nI s)), some (.ref o), some (.int (nI v))] [] σ P := by
    intro c9 c11
    refine (b67_132 hC).mpr ⟨g0, nI_in (by omega) (by omega), hz, ?_⟩
    rw [nI_clamp (by omega), en]
    exact rs_ok h hs hrow hn hv ⟨c0, c1, c2, c3, c9, c11⟩ (fun τ row' a1 a2 a3 a4 => b67_144.mpr (hQ τ row' a1 a2 a3 a4))
  by_cases c9 : n = 9
  · subst c9
    exact ifp rfl (b67_121.mpr ⟨hz, sk_ok h hI hI2 hi hs hv (fun τ row' a1 a2 a3 a4 => b67_129.mpr (hQ τ row' a1 a2 a3 a4))⟩)
  refine ifn (fun r => c9 ((eqn 9 (by omega)).mp r)) ?_
  by_cases c11 : n = 11
  · subst c11
    unfold stepW at hQ
    rw [if_neg (by omega), if_neg (by omega), if_neg (by decide), if_neg (by decide), if_neg (by decide), if_neg (by decide), if_neg (by decide), if_neg (by decide), if_neg (by decide), if_neg (by decide), if_neg (by decide), if_neg (by decide), if_neg (by decide), if_pos rfl] at hQ
    exact ifp rfl (b67_130.mpr (RunQ.same h hQ (fun r => absurd r (by decide))))
  exact ifn (fun r => c11 ((eqn 11 (by omega)).mp r)) (rest c9 c11)
def outCs (o : Nat) : Nat → Prop := fun c => ∃ k, k < 3 ∧ c = o + 2 + 2 * k
def outFs (o : Nat) : Nat → Nat → Nat → Prop := fun c _ a => c = 7 ∧ a = o
theorem toN_C {c : Nat} : toC τ (sfi τ 2 1 c (-1)) c none := by
  refine ⟨-1, zai τ 1 (c + 1), ?_, rfl⟩
  conv => lhs; rw [← C_self (σ := τ) (c := c)]
  rw [C_sfi]
theorem fail_ok (hH : HI σ) (hz : zIs σ o 7) {f : Nat} (hP : ∀ τ, HI τ → zfi τ 7 1 o = zfi σ 7 1 o → zfi τ 7 2 o = nI f → (∀ k, k < 3 → Cnt τ (o + 2 + 2 * k) none) → Fr σ τ (outCs o) no1 no1 (outFs o) → NA σ τ → P none τ) : wpM 58 [.ref o, .int (nI f)] σ P := by
  have hC := hH.1
  have hF0 : Fr σ (sfi σ 7 2 o (nI f)) no1 no1 no1 (fun c' k' a' => c' = 7 ∧ k' = 2 ∧ a' = o) := Fr_fi (by decide) (by decide) (by decide) (by decide)
  have hF0' : Fr σ (sfi σ 7 2 o (nI f)) (outCs o) no1 no1 (outFs o) := hF0.mono (fun _ => False.elim) (fun _ => id) (fun _ => id) (fun _ _ _ r => ⟨r.1, r.2.2⟩)
  refine b58.mpr ⟨hz, ?_⟩
  have key : ∀ e m τ, m + e = 3 → HI τ → zfi τ 7 1 o = zfi σ 7 1 o → zfi τ 7 2 o = nI f → (∀ k, k < m → Cnt τ (o + 2 + 2 * k) none) → Fr σ τ (outCs o) no1 no1 (outFs o) → NA σ τ → wp 58 7 [some (.ref o), some (.int (nI f)), some (.int (nI m))] [] τ P := by
    intro e
    induction e with
    | zero =>
      intro m τ em hH h1 h2 hk hF hN
      have hC := hH.1
      have hz' := hF.is hz
      have tg : ztg τ (o + 1) = (3, 7, 3) := cs_T hC le_7_0 hz'
      have zl : zln τ (o + 1) = nI 3 := by unfold zln; rw [tg]; rfl
      exact (b58_7 hC).mpr ⟨hz', Or.inr (Or.inl (by rw [tg])), ifp (by rw [zl]; exact nI_le (by omega) (by omega)) (b58_32.mpr (hP τ hH h1 h2 (fun k hk' => hk k (by omega)) hF hN))⟩
    | succ e ih =>
      intro m τ em hH h1 h2 hk hF hN
      have hC := hH.1
      have hz' := hF.is hz
      have tg : ztg τ (o + 1) = (3, 7, 3) := cs_T hC le_7_0 hz'
      have zl : zln τ (o + 1) = nI 3 := by unfold zln; rw [tg]; rfl
      have hm : m < 3 := by omega
      refine (b58_7 hC).mpr ⟨hz', Or.inr (Or.inl (by rw [tg])), ifn (by rw [zl]; exact nI_ge hm (by omega)) ((b58_16 hC).mpr ⟨hz', nI_in hm (by omega), ?_⟩)⟩
      rw [nI_clamp (by omega), show o + 1 + 1 + 2 * m = o + 2 + 2 * m by omega, nI_1]
      have ht : toC τ (sfi τ 2 1 (o + 2 + 2 * m) (-1)) (o + 2 + 2 * m) none := toN_C
      have hF1 := Fr_C ht
      have hcz : zIs τ (o + 2 + 2 * m) 2 := by
        have := zIs_of (hC.2 _ la_7 _ tg m hm).2
        rw [show o + 2 + 2 * m = o + 1 + 1 + 2 * m by omega]; exact this
      refine ih (m + 1) _ (by omega) hH (by rw [hF1.fi rfl hz' id]; exact h1) (by rw [hF1.fi rfl hz' id]; exact h2) (fun k hk' => ?_) (hF.trans (hF1.mono (fun _ r => ⟨m, hm, r⟩) (fun _ => id) (fun _ => id) (fun _ _ _ => False.elim)) hC) (hN.tr (NA_C ht))
      by_cases ek : k = m
      · rw [ek]; exact toC_Cnt ht hcz
      · exact hF1.cnt hC (fun r => ek (oc_inj hC hz' hz' (by omega) hm r).2) (hk k (by omega))
  exact key 3 0 _ rfl hH rfl (if_pos ⟨rfl, rfl, rfl⟩) (fun k h => absurd h (Nat.not_lt_zero k)) hF0' NA.rf
theorem out_run1 : ∀ c, outCs o c → runCs X o c := fun _ r => Or.inr r
theorem out_run2 : ∀ c k a, outFs o c k a → runFs o c k a := fun _ _ _ r => Or.inr r
theorem runW_t {ins : List Nat} {st : Nat × Nat} {r : List (Nat × Nat)} : runW t cv ins no (st :: r) row true out = runW t cv ins no r row false out := rfl
theorem runW_f {ins : List Nat} {st : Nat × Nat} {r : List (Nat × Nat)} : runW t cv ins no (st :: r) row false out = if (stepW t cv ins no st.1 st.2 row out).1 = 0 then runW t cv ins no r (stepW t cv ins no st.1 st.2 row out).2.1 (stepW t cv ins no st.1 st.2 row out).2.2.1 (stepW t cv ins no st.1 st.2 row out).2.2.2 else ((stepW t cv ins no st.1 st.2 row out).1, fun _ => none) := rfl
/-- a program is run -/
theorem run_ok (h : RunC σ X pa t a i q s cv) (hz : zIs σ o 7) (hI : TInv t) (hI2 : AInv t a) (hi : i < aN a) (hs : s < 2) (hcv : cvOk t cv (aIns a i)) (hP : ∀ τ, RunC τ X pa t a i q s cv → OutI τ o (aOut a i).length (comesW t cv a i).1 (comesW t cv a i).2 → Fr σ τ (runCs X o) no1 no1 (runFs o) → NA σ τ → P none τ) : wpM 66 [.ref (X + 18), .ref q, .int (nI s), .ref o] σ P := by
  obtain ⟨hH, hX, hT, hc, g0, g1, g2, g3, g4⟩ := id h
  have hC := hH.1
  have h3 := (hI2.2.1 i hi).2.2.2.1
  have h16 := (hI2.2.1 i hi).2.2.2.2.2.2.1
  have hin := (hI2.2.1 i hi).2.1
  have hsv := (hI2.2.1 i hi).2.2.2.2.2.2.2
  refine (b66 hC).mpr ⟨g0, size_ok g2 (b66_8.mpr ⟨hz, b57.mpr ⟨hz, ?_⟩⟩)⟩
  rw [List.length_map]
  have emin : (if 3 < nI (aOut a i).length then (3 : Int32) else nI (aOut a i).length) = nI (aOut a i).length := if_neg (show ¬ nI 3 < nI (aOut a i).length from nI_nlt h3 (by omega))
  rw [emin]
  have hF0 : Fr σ (sfi σ 7 1 o (nI (aOut a i).length)) no1 no1 no1 (fun c' k' a' => c' = 7 ∧ k' = 1 ∧ a' = o) := Fr_fi (by decide) (by decide) (by decide) (by decide)
  refine fail_ok (f := 0) (σ := sfi σ 7 1 o (nI (aOut a i).length)) (P := fun r τ => wp 57 14 [some (.ref o), some (.int (nI (aOut a i).length))] (r.toList ++ []) τ (fun r τ => wp 66 11 [some (.ref (X + 18)), some (.ref q), some (.int (nI s)), some (.ref o), none, none] (r.toList ++ []) τ P)) hH hz (fun τ1 hH1 k1 k2 k3 hF1 hN1 => b57_14.mpr ?_)
  have hC1 := hH1.1
  have hFa : Fr σ τ1 (runCs X o) no1 no1 (runFs o) := (hF0.mono (fun _ => False.elim) (fun _ => id) (fun _ => id) (fun _ _ _ r => Or.inr ⟨r.1, r.2.2⟩)).trans (hF1.mono out_run1 (fun _ => id) (fun _ => id) out_run2) hC
  have hRC1 := RunC_fr h hs hz hFa hH1
  have hO1 : OutI τ1 o (aOut a i).length 0 (fun _ => none) := ⟨hFa.is hz, by rw [k1]; exact if_pos ⟨rfl, rfl, rfl⟩, k2, k3⟩
  have hX1 := hRC1.2.1
  have hrz := x_row hC1 hX1
  -- the row is empty, nothing is passed over
  have t2 : toC τ1 (sfi τ1 2 1 (X + 19) 0) (X + 19) (some []) := by
    refine ⟨0, zai τ1 1 (X + 19 + 1), ?_, rfl, Nat.zero_le _, fun i h => absurd h (Nat.not_lt_zero i)⟩
    conv => lhs; rw [← C_self (σ := τ1) (c := X + 19)]
    rw [C_sfi]
  have hF2 := Fr_C t2
  have hF2' : Fr τ1 (sfi τ1 2 1 (X + 19) 0) (runCs X o) no1 no1 (runFs o) := hF2.mono (fun _ r => Or.inl r) (fun _ => id) (fun _ => id) (fun _ _ _ => False.elim)
  have hO2 := OutI_fr hO1 hF2 hC1 (fun k hk r => (oc_X hC1 hO1.1 hX1 hk).2 r) (fun _ => id)
  have hRC2 := RunC_fr hRC1 hs hO1.1 hF2' (HI_C t2 hH1)
  have hC2 : CShape (sfi τ1 2 1 (X + 19) 0) := hC1
  have hF3 : Fr (sfi τ1 2 1 (X + 19) 0) (sfi (sfi τ1 2 1 (X + 19) 0) 9 1 (X + 18) 0) no1 no1 no1 (fun c' k' a' => c' = 9 ∧ k' = 1 ∧ a' = X + 18) := Fr_fi (by decide) (by decide) (by decide) (by decide)
  have hF3' : Fr (sfi τ1 2 1 (X + 19) 0) (sfi (sfi τ1 2 1 (X + 19) 0) 9 1 (X + 18) 0) (runCs X o) no1 no1 (runFs o) := hF3.mono (fun _ => False.elim) (fun _ => id) (fun _ => id) (fun _ _ _ r => Or.inl r.1)
  have hS : RunS (sfi (sfi τ1 2 1 (X + 19) 0) 9 1 (X + 18) 0) X pa t a i q s cv o (aOut a i).length [] false (fun _ => none) :=
    ⟨RunC_fr hRC2 hs hO2.1 hF3' (show HI (sfi τ1 2 1 (X + 19) 0) from HI_C t2 hH1), hF3.cnt hC2 id (toC_Cnt t2 hrz), OutI_fr hO2 hF3 hC2 (fun _ _ => id) (fun _ r => absurd r.1 (by decide)), if_pos ⟨rfl, rfl, rfl⟩⟩
  refine (b66_11 hC1).mpr ⟨x_runner hC1 hX1.1, Or.inl rfl, ?_⟩
  have hFb := (hFa.trans hF2' hC1).trans hF3' hC2
  have key : ∀ e j τ row ps out u5, j + e = (aSt a i).length → RunS τ X pa t a i q s cv o (aOut a i).length row ps out → conOk row → (∀ o l, out o = some l → conOk l) → runW t cv (aIns a i) (aOut a i).length ((aSt a i).drop j) row ps out = comesW t cv a i → Fr σ τ (runCs X o) no1 no1 (runFs o) → NA σ τ → wp 66 27 [some (.ref (X + 18)), some (.ref q), some (.int (nI s)), some (.ref o), some (.int (nI j)), u5] [] τ P := by
    intro e
    induction e with
    | zero =>
      intro j τ row ps out u5 ej hS hrow hout hw hF hN
      obtain ⟨hRC, hr, hO, hps⟩ := hS
      obtain ⟨hH, hX, hT, hc, g0, g1, g2, g3, g4⟩ := id hRC
      refine b66_27.mpr ⟨g0, ifp (by rw [g3]; exact nI_le (by omega) (by omega)) (b66_80.mpr (hP τ hRC ?_ hF hN))⟩
      rw [List.drop_eq_nil_of_le (by omega)] at hw
      rw [← hw]; exact hO
    | succ e ih =>
      intro j τ row ps out u5 ej hS hrow hout hw hF hN
      obtain ⟨hRC, hr, hO, hps⟩ := id hS
      obtain ⟨hH, hX, hT, hc, g0, g1, g2, g3, g4⟩ := id hRC
      have hC := hH.1
      have hj : j < (aSt a i).length := by omega
      rw [List.drop_eq_getElem_cons hj] at hw
      refine b66_27.mpr ⟨g0, ifn (by rw [g3]; exact nI_ge hj (by omega)) (b66_36.mpr ⟨x_runner hC hX.1, ?_⟩)⟩
      rw [hps]
      cases ps with
      | true =>
        have hw' : runW t cv (aIns a i) (aOut a i).length ((aSt a i).drop (j + 1)) row false out = comesW t cv a i := by
          rw [← hw]; exact runW_t.symm
        obtain ⟨h1, f1, n1⟩ := RunS_ps hS hs (b := false)
        refine ifn (by decide) (b66_43.mpr ⟨x_runner hC hX.1, Or.inl rfl, b66_74.mpr ?_⟩)
        rw [nI_1]
        exact ih (j + 1) _ row false out u5 (by omega) h1 hrow hout hw' (hF.trans f1 hC) (hN.tr n1)
      | false =>
        have hw' : (if (stepW t cv (aIns a i) (aOut a i).length (aSt a i)[j].1 (aSt a i)[j].2 row out).1 = 0 then runW t cv (aIns a i) (aOut a i).length ((aSt a i).drop (j + 1)) (stepW t cv (aIns a i) (aOut a i).length (aSt a i)[j].1 (aSt a i)[j].2 row out).2.1 (stepW t cv (aIns a i) (aOut a i).length (aSt a i)[j].1 (aSt a i)[j].2 row out).2.2.1 (stepW t cv (aIns a i) (aOut a i).length (aSt a i)[j].1 (aSt a i)[j].2 row out).2.2.2 else ((stepW t cv (aIns a i) (aOut a i).length (aSt a i)[j].1 (aSt a i)[j].2 row out).1, fun _ => none)) = comesW t cv a i := by
          rw [← hw]; exact runW_f.symm
        have hk := stepW_ok (no := (aOut a i).length) (n := (aSt a i)[j].1) hI hcv hin (hsv _ (List.getElem_mem hj)).2 hrow hout
        refine ifp rfl (b66_51.mpr ⟨x_runner hC hX.1, perf_ok hS hI hI2 hi hs h3 hrow hj (fun τ2 row2 h2 e2 f2 n2 => b66_60.mpr ?_)⟩)
        obtain ⟨hRC2, hr2, hO2, hps2⟩ := id h2
        by_cases h0 : (stepW t cv (aIns a i) (aOut a i).length (aSt a i)[j].1 (aSt a i)[j].2 row out).1 = 0
        · rw [if_pos h0] at hw'
          have e3 := e2 h0
          subst e3
          rw [h0]
          refine ifp rfl (b66_74.mpr ?_)
          rw [nI_1]
          exact ih (j + 1) τ2 _ _ _ _ (by omega) h2 (hk.1 h0) hk.2.1 hw' (hF.trans f2 hC) (hN.tr n2)
        · rw [if_neg h0] at hw'
          have h6 := hk.2.2.2
          refine ifn (fun r => h0 ((nI_eq (b := 0) (by omega) (by omega)).mp r)) (b66_67.mpr ⟨hO2.1, fail_ok hRC2.1 hO2.1 (fun τ3 hH3 k1 k2 k3 hF3 hN3 => b66_73.mpr ?_)⟩)
          have hF3' : Fr τ2 τ3 (runCs X o) no1 no1 (runFs o) := hF3.mono out_run1 (fun _ => id) (fun _ => id) out_run2
          refine hP τ3 (RunC_fr hRC2 hs hO2.1 hF3' hH3) ?_ ((hF.trans f2 hC).trans hF3' hRC2.1.1) ((hN.tr n2).tr hN3)
          rw [← hw']
          exact ⟨hF3.is hO2.1, by rw [k1]; exact hO2.2.1, k2, k3⟩
  exact key _ 0 _ [] false (fun _ => none) none (Nat.zero_add _) hS ⟨Nat.zero_le _, fun x hx => absurd hx (by simp)⟩ (fun o l h => by cases h) rfl hFb (hN1.tr (NA_C t2) : NA _ _)
end RM
