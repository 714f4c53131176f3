/-! THE REFERENCE: programs */ -/
/-- what a step comes to -/
def StR (sc : ScT) (ar : ArT) (r : Nat × List Int32 × Bool × (Nat → Con)) : Prop := (r.1 = 0 → WkR sc ar r.2.1) ∧ (r.1 ≠ 0 → sc 49 = nI r.1)
/-- what has been written -/
def RCame (ar : ArT) (out : Nat → Con) : Prop := ∀ q, q < 3 → RCc ar 70 71 q (out q)
section RP1
variable {σ : zSt} {o : Nat} {sc sc' : ScT} {ar ar' : ArT} {P : Option Value → zSt → Prop} {x y : Int32} {p s i j q m n a b k v no : Nat} {w : WT} {T : TreT} {A : ActT} {l l2 row : List Int32} {cv out : Nat → Con} {S ins : List Nat}
theorem StR_add (h : AddP sc ar l) : StR sc ar (rowIf l out) := by
  unfold rowIf
  rcases h with h | ⟨h1, h2, h3⟩
  · rw [if_pos h.1]
    exact ⟨fun _ => h, fun r => absurd rfl r⟩
  · rw [if_neg (by omega)]
    exact ⟨fun r => absurd r (by simp), fun _ => h3⟩
theorem StR_fail {f : Nat} {b : Bool} (hf : f ≠ 0) (h : sc 49 = nI f) : StR sc ar (f, row, b, out) := ⟨fun r => absurd r hf, fun _ => h⟩
theorem StR_ok {b : Bool} (h : WkR sc ar row) : StR sc ar (0, row, b, out) := ⟨fun _ => h, fun r => absurd rfl r⟩
theorem AddP_ag {S : List Nat} (h : AddP sc ar l) (hA : Ag sc ar sc' ar' S) (h1 : ∀ k ∈ [47, 48, 49], k ∉ S) : AddP sc' ar' l := by
  rcases h with ⟨g1, g2, g3, g4⟩ | ⟨g1, g2, g3⟩
  · exact Or.inl ⟨g1, by rw [hA.1 48 (h1 48 (by decide))]; exact g2, RRow_ag g3 (fun i => hA.2 67 i (h1 47 (by decide))), by rw [hA.1 49 (h1 49 (by decide))]; exact g4⟩
  · exact Or.inr ⟨g1, by rw [hA.1 48 (h1 48 (by decide))]; exact g2, by rw [hA.1 49 (h1 49 (by decide))]; exact g3⟩
theorem RCame_ag {S : List Nat} (h : RCame ar out) (hA : Ag sc ar sc' ar' S) (h1 : ∀ k ∈ [50, 51], k ∉ S) : RCame ar' out := fun q hq => RCc_ag (h q hq) (fun i => hA.2 70 i (h1 50 (by decide))) (fun i => hA.2 71 i (h1 51 (by decide)))
theorem r_read (hR : RShape σ o) (h : WkR sc ar row) (hT : RTree sc ar T) (hTI : TInv T) (hs : s < 3) (hC : RConS ar s (tN T) cv) (hcv : ∀ p, p < tN T → ∀ l, cv p = some l → l.length ≤ 64) (hp : p < tN T) (hP : ∀ sc' ar', StR sc' ar' (if tDir T p = true then (4, row, false, out) else match cv p with
    | none => (1, row, false, out)
    | some l => rowIf (row ++ l) out) → Ag sc ar sc' ar' [45, 46, 47, 48, 49] → P none (rOv σ o sc' ar')) : wpM 152 [.ref o, .int (nI s), .int (nI p)] (rOv σ o sc ar) P := by
  have h60 := hTI.2.1
  refine (b152 hR).mpr ⟨nI_in (N := 60) (by omega) (by omega), ?_⟩
  rw [nI_clamp (by omega), (hT.2 p hp).2.2.1, i60]
  by_cases c : tDir T p = true
  · rw [if_pos c] at hP
    exact ifn (fun r => b2I_ne.mpr c r) ((b152_16 hR).mpr ((b152_78 hR).mpr (hP _ _ (StR_fail (by omega) upS_same) (Ag_sc (by decide)))))
  · rw [if_neg c] at hP
    have p1 : 1 ≤ p := by
      by_cases e : p = 0
      · rw [e] at c; exact absurd hTI.2.2.1.2.2.1 c
      · omega
    have cc := hC p p1 hp
    refine ifp (b2I_0.mpr (by simpa using c)) ((b152_24 hR).mpr ?_)
    rw [nI_clamp (by omega), cc.1]
    refine ⟨nI_in (N := 180) (by omega) (by omega), ?_⟩
    cases hcv' : cv p with
    | none =>
      rw [hcv'] at hP
      exact ifn (fun r => r rfl) ((b152_34 hR).mpr ((b152_78 hR).mpr (hP _ _ (StR_fail (by omega) upS_same) (Ag_sc (by decide)))))
    | some L =>
      rw [hcv'] at hP cc
      have l64 := hcv p hp L hcv'
      have rr := cc.2 L rfl
      refine ifp (fun r => absurd (show nI L.length = -1 from r) (nI_m1 (by omega))) ((b152_42 hR).mpr ?_)
      have key : ∀ e k sc' ar', k + e = L.length → AddP sc' ar' (row ++ L.take k) → Ag sc ar sc' ar' [45, 46, 47, 48, 49] → wp 152 45 [some (.ref o), some (.int (nI s)), some (.int (nI p)), some (.int (nI (60 * s + p))), some (.int (nI k))] [] (rOv σ o sc' ar') P := by
        intro e
        induction e with
        | zero =>
          intro k sc' ar' hk hn hg
          refine (b152_45 hR).mpr ⟨nI_in (N := 180) (by omega) (by omega), ?_⟩
          rw [nI_clamp (by omega), hg.2 25 _ (by decide), cc.1]
          rw [List.take_of_length_le (by omega)] at hn
          exact ifp (nI_le (by omega) (by omega)) ((b152_78 hR).mpr (hP _ _ (StR_add hn) hg))
        | succ e ih =>
          intro k sc' ar' hk hn hg
          have hkl : k < L.length := by omega
          refine (b152_45 hR).mpr ⟨nI_in (N := 180) (by omega) (by omega), ?_⟩
          rw [nI_clamp (by omega), hg.2 25 _ (by decide), cc.1]
          refine ifn (nI_ge (a := k) (b := L.length) hkl (by omega)) ((b152_56 hR).mpr ?_)
          rw [i64, nI_clamp (by omega), hg.2 26 _ (by decide), RRow_get rr hkl]
          refine ⟨nI_in (N := 11520) (by omega) (by omega), r_add hR hn (fun sc4 ar4 n4 _ g4 => (b152_72 hR).mpr ?_)⟩
          rw [nI_1]
          refine ih (k + 1) sc4 ar4 (by omega) ?_ (hg.tr (g4.mono (by decide)))
          rw [List.take_add_one, List.getElem?_eq_getElem hkl, ← List.append_assoc]
          exact n4
      exact key _ 0 sc ar (Nat.zero_add _) (by simpa using h.add) Ag.rf
theorem r_listIn (hR : RShape σ o) (h : WkR sc ar row) (hT : RTree sc ar T) (hTI : TInv T) (hs : s < 3) (hC : RConS ar s (tN T) cv) (hcv : ∀ p, p < tN T → ∀ l, cv p = some l → l.length ≤ 64) (hp : p < tN T) (hP : ∀ sc' ar', StR sc' ar' (if tDir T p = true then rowIf (row ++ (namesW T cv p).map fun x => 96 + x) out else (4, row, false, out)) → Ag sc ar sc' ar' [45, 46, 47, 48, 49] → P none (rOv σ o sc' ar')) : wpM 153 [.ref o, .int (nI s), .int (nI p)] (rOv σ o sc ar) P := by
  have h60 := hTI.2.1
  refine (b153 hR).mpr ⟨nI_in (N := 60) (by omega) (by omega), ?_⟩
  rw [nI_clamp (by omega), (hT.2 p hp).2.2.1]
  by_cases c : tDir T p = true
  · rw [if_pos c] at hP
    have hnl : (namesW T cv p).length ≤ 26 := Nat.le_trans nmL_len (filesT_len hTI)
    refine ifp (b2I_ne.mpr c) ((b153_15 hR).mpr (r_list hR hT hTI hs hC hcv hp (fun sc1 ar1 h1 g1 => (b153_21 hR).mpr ?_)))
    have key : ∀ e k sc' ar', k + e = (namesW T cv p).length → AddP sc' ar' (row ++ ((namesW T cv p).map fun x => 96 + x).take k) → Ag sc1 ar1 sc' ar' [47, 48, 49] → wp 153 23 [some (.ref o), some (.int (nI s)), some (.int (nI p)), some (.int (nI k))] [] (rOv σ o sc' ar') P := by
      intro e
      induction e with
      | zero =>
        intro k sc' ar' hk hn hg
        rw [List.take_of_length_le (by rw [List.length_map]; omega)] at hn
        refine (b153_23 hR).mpr (ifp ?_ ((b153_50 hR).mpr (hP _ _ (StR_add hn) ((g1.mono (by decide)).tr (hg.mono (by decide))))))
        rw [hg.1 46 (by decide), h1.1]; exact nI_le (by omega) (by omega)
      | succ e ih =>
        intro k sc' ar' hk hn hg
        have hkl : k < (namesW T cv p).length := by omega
        refine (b153_23 hR).mpr (ifn ?_ ((b153_31 hR).mpr ⟨nI_in (N := 26) (by omega) (by omega), ?_⟩))
        · rw [hg.1 46 (by decide), h1.1]; exact nI_ge hkl (by omega)
        have g := RRow_get h1.2 hkl
        rw [Nat.zero_add] at g
        rw [nI_clamp (by omega), hg.2 65 _ (by decide), g]
        refine r_add hR hn (fun sc4 ar4 n4 _ g4 => (b153_44 hR).mpr ?_)
        rw [nI_1]
        refine ih (k + 1) sc4 ar4 (by omega) ?_ (hg.tr g4)
        rw [List.take_add_one, List.getElem?_eq_getElem (by rw [List.length_map]; exact hkl), List.getElem_map, ← List.append_assoc]
        exact n4
    have hadd := AddP_ag h.add g1 (by decide)
    exact key _ 0 sc1 ar1 (Nat.zero_add _) (by simpa using hadd) Ag.rf
  · rw [if_neg c] at hP
    exact ifn (fun r => c (b2I_ne.mp r)) ((b153_9 hR).mpr (hP _ _ (StR_fail (by omega) upS_same) (Ag_sc (by decide))))
theorem r_writeOut (hR : RShape σ o) (h : WkR sc ar row) (hk : k < 3) (hc : RCame ar out) (hl : ∀ q l, out q = some l → l.length ≤ 64) (hP : ∀ sc' ar', WkR sc' ar' [] → RCame ar' (fup out k (some row)) → Ag sc ar sc' ar' [48, 50, 51] → P none (rOv σ o sc' ar')) : wpM 154 [.ref o, .int (nI k)] (rOv σ o sc ar) P := by
  obtain ⟨h64, h48, hr, h49⟩ := h
  refine (b154 hR).mpr ⟨nI_in (N := 3) (by omega) (by omega), ?_⟩
  rw [nI_clamp (by omega), h48]
  have key : ∀ e j, j + e = row.length → wp 154 12 [some (.ref o), some (.int (nI k)), some (.int (nI j))] [] (rOv σ o sc (cpA (upA ar 70 k (nI row.length)) 71 (64 * k) 67 0 j)) P := by
    intro e
    induction e with
    | zero =>
      intro j hj
      have hj : j = row.length := by omega
      subst hj
      refine (b154_12 hR).mpr (ifp (by rw [h48]; exact nI_le (by omega) (by omega)) ((b154_43 hR).mpr (hP _ _ ⟨by simp, upS_same, RRow_nil, by rw [upS_ne (by omega)]; exact h49⟩ (fun q hq => ?_) (((Ag_ar (by decide)).tr (Ag_cp (by decide))).tr (Ag_sc (by decide))))))
      by_cases c : q = k
      · subst c
        rw [fup_same]
        refine ⟨by rw [cpA_ne (by decide), upA_same]; rfl, fun l hl' => ?_⟩
        cases hl'
        exact cpA_row (RRow_ag hr (fun i => upA_ne (fun r => absurd r.1 (by decide))))
      · rw [fup_ne c]
        obtain ⟨g1, g2⟩ := hc q hq
        refine ⟨by rw [cpA_ne (by decide), upA_ne (fun r => c r.2)]; exact g1, fun l hl' => RRow_eq (g2 l hl') (fun i hi => ?_)⟩
        have := hl q l hl'
        rw [cpA_out (by omega), upA_ne (fun r => absurd r.1 (by decide))]
    | succ e ih =>
      intro j hj
      refine (b154_12 hR).mpr (ifn (by rw [h48]; exact nI_ge (by omega) (by omega)) ((b154_20 hR).mpr ?_))
      have st := cpA_step (ar := upA ar 70 k (nI row.length)) (td := 71) (D := 64 * k) (ts := 67) (S := 0) (n := j) (Or.inl (by decide))
      rw [Nat.zero_add] at st
      rw [i64, nI_clamp (n := j) (by omega), nI_clamp (n := 64 * k + j) (by omega), st, nI_1]
      exact ⟨nI_in (N := 64) (by omega) (by omega), nI_in (N := 192) (by omega) (by omega), ih (j + 1) (by omega)⟩
  have := key _ 0 (Nat.zero_add _)
  rw [cpA_0] at this
  exact this
theorem r_alone (hR : RShape σ o) (h : WkR sc ar row) (hb : conOk row) (hn : n < 14) (h0 : n ≠ 0) (h2 : n ≠ 2) (h3 : n ≠ 3) (h9 : n ≠ 9) (hv : v < 256) (hP : ∀ sc' ar', StR sc' ar' (stepW T cv ins no n v row out) → (stepW T cv ins no n v row out).2.2.1 = false → (stepW T cv ins no n v row out).2.2.2 = out → Ag sc ar sc' ar' [47, 48, 49] → P none (rOv σ o sc' ar')) : wpM 161 [.ref o, .int (nI n), .int (nI v)] (rOv σ o sc ar) P := by
  have hc : n = 1 ∨ n = 4 ∨ n = 5 ∨ n = 6 ∨ n = 7 ∨ n = 8 ∨ n = 10 ∨ n = 11 ∨ n = 12 ∨ n = 13 := by omega
  have fig := sum_acc row 0 hb.2
  refine (b161 hR).mpr ?_
  have rif : ∀ L : List Int32, (rowIf L out).2.2.1 = false ∧ (rowIf L out).2.2.2 = out := by
    intro L; unfold rowIf; split <;> exact ⟨rfl, rfl⟩
  rcases hc with r | r | r | r | r | r | r | r | r | r <;> subst r
  · have e : stepW T cv ins no 1 v row out = rowIf (row ++ [nI v]) out := by unfold stepW; simp
    rw [e] at hP
    exact ifp rfl ((b161_64 hR).mpr (r_add hR h.add (fun sc1 ar1 h1 _ g1 => (b161_69 hR).mpr ((b161_158 hR).mpr (hP _ _ (StR_add h1) (rif _).1 (rif _).2 g1)))))
  · have e : stepW T cv ins no 4 v row out = (0, row.reverse, false, out) := by unfold stepW; simp
    rw [e] at hP
    exact ifn (by decide) (ifp rfl ((b161_72 hR).mpr (r_turn hR h (fun ar1 h1 g1 => (b161_76 hR).mpr ((b161_158 hR).mpr (hP _ _ (StR_ok h1) rfl rfl (g1.mono (by decide))))))))
  · have e : stepW T cv ins no 5 v row out = (0, sortL row, false, out) := by unfold stepW; simp
    rw [e] at hP
    exact ifn (by decide) (ifn (by decide) (ifp rfl ((b161_79 hR).mpr (r_sort hR h (fun ar1 h1 g1 => (b161_83 hR).mpr ((b161_158 hR).mpr (hP _ _ (StR_ok h1) rfl rfl (g1.mono (by decide)))))))))
  · have e : stepW T cv ins no 6 v row out = (0, figsL row.length, false, out) := by unfold stepW; simp
    rw [e] at hP
    refine ifn (by decide) (ifn (by decide) (ifn (by decide) (ifp rfl ((b161_86 hR).mpr ?_))))
    rw [h.2.1]
    exact r_figures hR (by have := h.1; omega) h.2.2.2 (fun sc1 ar1 h1 g1 => (b161_94 hR).mpr ((b161_158 hR).mpr (hP _ _ (StR_ok h1) rfl rfl g1)))
  · have e : stepW T cv ins no 7 v row out = (0, figsL (sumL row).toNatClampNeg, false, out) := by unfold stepW; simp
    rw [e] at hP
    obtain ⟨S, hS, eS⟩ := fig
    have eS : sumL row = nI S := eS
    have hl := h.1
    refine ifn (by decide) (ifn (by decide) (ifn (by decide) (ifn (by decide) (ifp rfl ((b161_97 hR).mpr (r_sum hR h ((b161_102 hR).mpr ?_)))))))
    rw [eS, nI_clamp (by omega)] at hP
    rw [eS]
    exact r_figures hR (by omega) h.2.2.2 (fun sc1 ar1 h1 g1 => (b161_105 hR).mpr ((b161_158 hR).mpr (hP _ _ (StR_ok h1) rfl rfl g1)))
  · have e : stepW T cv ins no 8 v row out = (0, row.take v, false, out) := by unfold stepW; simp
    rw [e] at hP
    refine ifn (by decide) (ifn (by decide) (ifn (by decide) (ifn (by decide) (ifn (by decide) (ifp rfl ((b161_108 hR).mpr ?_))))))
    have hl := h.1
    rw [h.2.1]
    have wk : ∀ k, k = (row.take v).length → WkR (upS sc 48 (nI k)) ar (row.take v) := by
      intro k hk
      refine ⟨by rw [List.length_take]; omega, by rw [upS_same, hk], fun i hi => ?_, by rw [upS_ne (by omega)]; exact h.2.2.2⟩
      rw [List.length_take] at hi
      rw [List.getElem?_take_of_lt (by omega)]
      exact h.2.2.1 i (by omega)
    by_cases c : v ≤ row.length
    · refine ifp (nI_le c (by omega)) ((b161_124 hR).mpr ((b161_125 hR).mpr ((b161_158 hR).mpr (hP _ _ (StR_ok (wk v ?_)) rfl rfl (Ag_sc (by decide))))))
      rw [List.length_take]; omega
    · refine ifn (nI_ge (by omega) (by omega)) ((b161_117 hR).mpr ((b161_125 hR).mpr ((b161_158 hR).mpr (hP _ _ (StR_ok ?_) rfl rfl (Ag_sc (by decide))))))
      rw [h.2.1]
      exact wk _ (by rw [List.length_take]; omega)
  · have e : stepW T cv ins no 10 v row out = (0, onceL row, false, out) := by unfold stepW; simp
    rw [e] at hP
    exact ifn (by decide) (ifn (by decide) (ifn (by decide) (ifn (by decide) (ifn (by decide) (ifn (by decide) (ifp rfl ((b161_131 hR).mpr (r_once hR h (fun sc1 ar1 h1 g1 => (b161_135 hR).mpr ((b161_158 hR).mpr (hP _ _ (StR_ok h1) rfl rfl (g1.mono (by decide)))))))))))))
  · have e : stepW T cv ins no 11 v row out = (5, row, false, out) := by unfold stepW; simp
    rw [e] at hP
    exact ifn (by decide) (ifn (by decide) (ifn (by decide) (ifn (by decide) (ifn (by decide) (ifn (by decide) (ifn (by decide) (ifp rfl ((b161_138 hR).mpr ((b161_158 hR).mpr (hP _ _ (StR_fail (by omega) upS_same) rfl rfl (Ag_sc (by decide))))))))))))
  · have e : stepW T cv ins no 12 v row out = (0, mixL row (nI v), false, out) := by unfold stepW; simp
    rw [e] at hP
    exact ifn (by decide) (ifn (by decide) (ifn (by decide) (ifn (by decide) (ifn (by decide) (ifn (by decide) (ifn (by decide) (ifn (by decide) (ifp rfl ((b161_146 hR).mpr (r_mixWith hR h (fun ar1 h1 g1 => (b161_151 hR).mpr ((b161_158 hR).mpr (hP _ _ (StR_ok h1) rfl rfl (g1.mono (by decide)))))))))))))))
  · have e : stepW T cv ins no 13 v row out = rowIf (row ++ row) out := by unfold stepW; simp
    rw [e] at hP
    exact ifn (by decide) (ifn (by decide) (ifn (by decide) (ifn (by decide) (ifn (by decide) (ifn (by decide) (ifn (by decide) (ifn (by decide) (ifn (by decide) ((b161_154 hR).mpr (r_twice hR h (fun sc1 ar1 h1 g1 => (b161_158 hR).mpr (hP _ _ (StR_add h1) (rif _).1 (rif _).2 g1))))))))))))
end RP1
