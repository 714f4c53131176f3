/-! THE CLASS'S CACHE: calls -/
section CD
variable {σ τ υ : zSt} {P : Option Value → zSt → Prop} {X N M n : Nat} {pa aa ea sa ea' sa' : List Nat} {z : Nat → Con} {w : WT} {K' : CacT} {u : Nat → Nat → Bool} {es : List EntT} {pe : List (Nat × EntT)} {x y : Int32} {i k o f q : Nat} {l : List Int32} {out : Nat → Con} {Cs Ks Ls : Nat → Prop} {Fs : Nat → Nat → Nat → Prop}
def cF13 : Nat → Nat → Nat → Prop := fun c _ _ => c = 1 ∨ c = 3
theorem ClsU_cac (h : ClsU σ X pa aa ea sa z w u) (hH : HI τ) (hF : Fr σ τ no1 no1 (cLs X) cF13) (hK : CCac τ X ea' sa' K') : ClsU τ X pa aa ea' sa' z (wT w, wA w, wC w, wP w, wW w, K', wL w) u := by
  have hC := h.C
  obtain ⟨_, hX, hT, hCC, hTp, hA, hW, _, hLg⟩ := h
  have nl : ∀ j, j = 2 ∨ j = 14 → ¬ cLs X (X + j) := fun j hj q => by unfold cLs at q; omega
  exact ⟨hH, XOk_fr hX hF, CTree_fr hT hF (nl 2 (Or.inl rfl)) (fun p hp q => by
      rcases q with q | q
      · exact pl_X hC (hT.2.2 p hp).1 hX (by omega) q
      · exact pl_X hC (hT.2.2 p hp).1 hX (by omega) q) (fun _ _ _ q => by unfold cF13 at q; omega), CCon_fr hCC hF hC (fun _ _ _ _ => id), hF.cnt hC id hTp, CActU_fr hA hF hC (nl 14 (Or.inr rfl)) (fun i hi => by
      have hz := (hA.2.2.2 i hi).1
      exact ⟨fun q => by rcases q with q | q <;> exact al_X hC hz hX (Or.inl rfl) (by omega) q, fun q => by rcases q with q | q <;> exact al_X hC hz hX (Or.inr rfl) (by omega) q⟩) (fun _ _ _ => ⟨fun q => by unfold cF13 at q; omega, fun q => by unfold cF13 at q; omega, fun q => by unfold cF13 at q; omega⟩), CWas_fr hW hF hC (fun _ _ _ _ => id), hK, hF.log hC (fun q => by unfold cF13 at q; omega) hLg⟩
theorem cF13_rf (hF : Fr σ τ Cs Ks Ls cF13) : RF σ τ := hF.rf (fun _ _ _ q => by unfold cF13 at q; omega)
theorem nodup_move {a b : List Nat} (h : (a ++ b).Nodup) {j : Nat} : (a.drop j ++ (b ++ a.take j)).Nodup := by
  have hp : (a.drop j ++ (b ++ a.take j)).Perm (a ++ b) := by
    have h1 : (a.drop j ++ (b ++ a.take j)).Perm ((b ++ a.take j) ++ a.drop j) := List.perm_append_comm
    have h2 : (b ++ a.take j) ++ a.drop j = b ++ a := by rw [List.append_assoc, List.take_append_drop]
    rw [h2] at h1
    exact h1.trans List.perm_append_comm
  exact hp.nodup_iff.mpr h
theorem capacity_ok (h : Cls σ X w N M) (hI : WInv w) (hP : ∀ τ, Cls τ X (sCapacity w x).1 N M → RF σ τ → P (some (.int (sCapacity w x).2)) τ) : wpM 102 [.ref X, .int x] σ P := by
  obtain ⟨pa, aa, ea, sa, z, hG, hR⟩ := h
  have hC := hG.C
  have bad : ∀ e : (x < 0 ∨ 4000 < x), P (some (.int (-2))) σ := by
    intro e
    have := hP σ
    unfold sCapacity at this
    rw [if_pos e] at this
    exact this ⟨pa, aa, ea, sa, z, hG, hR⟩ RF.rf
  by_cases h0 : x < 0
  · exact b102.mpr (ifp h0 (b102_11.mpr (bad (Or.inl h0))))
  by_cases h1 : x ≤ 4000
  · have hn : ∃ k, x = nI k ∧ k ≤ 4000 := by
      rcases pk_ix x (n := 4001) (by omega) with g | g | ⟨k, hk, rfl⟩
      · exact absurd g h0
      · exact absurd (Int32.le_trans g h1) (by decide)
      · exact ⟨k, rfl, by omega⟩
    obtain ⟨k, rfl, hk⟩ := hn
    have es : sCapacity w (nI k) = ((wT w, wA w, wC w, wP w, wW w, (k, (trimW k (wK w).2.1).1, (wK w).2.2 + nI (trimW k (wK w).2.1).2), wL w), nI (trimW k (wK w).2.1).2) := by
      unfold sCapacity
      rw [if_neg (by intro q; rcases q with q | q; exact h0 q; exact absurd h1 (Int32.not_le.mpr q)), nI_clamp (by omega)]
    rw [es] at hP
    have hG' := hG
    obtain ⟨hH, hX, hT, hCC, hTp, hA, hW, hK, hLg⟩ := hG'
    obtain ⟨g0, g1, g2, g3, g4, ⟨pe, e1, e2, g6⟩, g7, g8, g9⟩ := hK
    subst e1
    have hXc := x_cache hC hX.1
    have hF0 : Fr σ (sfi σ 1 2 (X + 15) (nI k)) no1 no1 no1 (fun c' k' a' => c' = 1 ∧ k' = 2 ∧ a' = X + 15) := Fr_fi (by decide) (by decide) (by decide) (by decide)
    have hF0' := hF0.mono (Cs' := no1) (Ks' := no1) (Ls' := cLs X) (Fs' := cF1) (fun _ => id) (fun _ => id) (fun _ => False.elim) (fun _ _ _ q => q.1)
    have hE0 : ∀ p ∈ pe, EntI (sfi σ 1 2 (X + 15) (nI k)) p.1 p.2 := fun p hp => EntI_fr (g6 p hp) hF0 hC (fun _ _ => id) (fun _ q => absurd q.1 (by decide)) id (fun _ q => absurd q.1 (by decide))
    have hen : ∀ p ∈ pe, entOk p.2 := fun p hp => hI.2.2.2.2.2.1.2.2.2 p.2 (by rw [e2]; exact List.mem_map.mpr ⟨p, hp, rfl⟩)
    have hlen : pe.length + sa.length ≤ 101 := by simpa using g3
    refine b102.mpr (ifn h0 (b102_4.mpr (ifp h1 ((b102_14 hC).mpr ⟨hX.1, ?_⟩))))
    refine evict_ok (σ := sfi σ 1 2 (X + 15) (nI k)) hH hXc (hF0.lst id g0) (hF0.lst id g1) hE0 hen hlen (n := (pe.map (·.1) ++ sa).length) (N := N) (M := M) hR hk (if_pos ⟨rfl, rfl, rfl⟩) (by rw [← e2]; exact g8) g9 (fun τ K eK hH1 hv1 hs1 k2 k3 k4 hF1 hR1 => b102_29.mpr ?_)
    have hF := hF0'.trans hF1 hC
    have hF13 := hF.mono (Cs' := no1) (Ks' := no1) (Ls' := cLs X) (Fs' := cF13) (fun _ => id) (fun _ => id) (fun _ => id) (fun _ _ _ q => Or.inl q)
    have hdr := trimW_drop k (wK w).2.1
    rw [e2] at hdr
    rw [e2, ← eK] at hP
    rw [← eK] at hdr
    rw [hdr.1, ← List.map_drop] at hP
    have hnd : ((pe.drop K).map (·.1) ++ (sa ++ (pe.take K).map (·.1))).Nodup := by
      rw [List.map_drop, List.map_take]; exact nodup_move g2
    have hle : ((pe.drop K).map (·.1) ++ (sa ++ (pe.take K).map (·.1))).length = (pe.map (·.1) ++ sa).length := by simp; omega
    refine hP τ ⟨pa, aa, (pe.drop K).map (·.1), sa ++ (pe.take K).map (·.1), z, ClsU_cac hG hH1 hF13 ⟨hv1, hs1, hnd, by rw [hle]; exact g3, fun e he => ?_, ⟨pe.drop K, rfl, rfl, fun p hp => EntI_fr (g6 p (List.mem_of_mem_drop hp)) hF hC (fun _ _ => id) (fun _ (q : 7 = 1) => absurd q (by decide)) id (fun _ (q : 3 = 1) => absurd q (by decide))⟩, k2, k3, k4⟩, ?_⟩ (cF13_rf hF13)
    · rcases List.mem_append.mp he with he | he
      · exact hF.is (g4 e he)
      · obtain ⟨p, hp, rfl⟩ := List.mem_map.mp he
        exact hF.is (g6 p (List.mem_of_mem_take hp)).1
    · unfold Rm; rw [hle]; exact hR1
  · exact b102.mpr (ifn h0 (b102_4.mpr (ifn h1 (b102_11.mpr (bad (Or.inr (Int32.not_le.mp h1)))))))
theorem entry_ok (hG : ClsG σ X pa aa ea sa z w) (hI : WInv w) (hP : P (some (.long (sEntry w x y))) σ) : wpM 103 [.ref X, .int x, .int y] σ P := by
  have hC := hG.C
  obtain ⟨hH, hX, hT, hCC, hTp, hA, hW, hK, hLg⟩ := hG
  obtain ⟨g0, g1, g2, g3, g4, ⟨pe, e1, e2, g6⟩, g7, g8, g9⟩ := hK
  subst e1
  have hlen : (wK w).2.1.length ≤ 100 := hI.2.2.2.2.2.1.2.1
  have hl2 : (wK w).2.1.length = pe.length := by rw [e2, List.length_map]
  unfold sEntry at hP
  rcases ixN_cases x (n := (wK w).2.1.length) (by omega) with ⟨e, hx⟩ | ⟨i, hi, rfl, e⟩
  · rw [e] at hP
    by_cases hn : x < 0
    · exact b103.mpr (ifp hn (b103_18.mpr hP))
    · refine b103.mpr (ifn hn ((b103_4 hC).mpr ⟨hX.1, size_ok g0 (b103_15.mpr (ifn ?_ (b103_18.mpr hP)))⟩))
      rw [List.length_map, ← hl2]
      rcases hx with g | g
      · exact absurd g hn
      · exact Int32.not_lt.mpr g
  · rw [e] at hP
    dsimp only at hP
    have hi2 : i < pe.length := by omega
    have hi' : i < (pe.map (·.1)).length := by rw [List.length_map]; exact hi2
    have ed : (wK w).2.1.getD i ([], fun _ => none, 0, 0, 0) = pe[i].2 := by
      rw [List.getD_eq_getElem?_getD, e2, List.getElem?_map, List.getElem?_eq_getElem hi2]; rfl
    rw [ed] at hP
    obtain ⟨m0, m1, m2, m3, m4⟩ := g6 _ (List.getElem_mem hi2)
    have hok : entOk pe[i].2 := hI.2.2.2.2.2.1.2.2.2 _ (by rw [e2]; exact List.mem_map.mpr ⟨_, List.getElem_mem hi2, rfl⟩)
    refine b103.mpr (ifn (nI_pos (by omega)) ((b103_4 hC).mpr ⟨hX.1, size_ok g0 (b103_15.mpr (ifp (by rw [List.length_map]; exact nI_lt hi2 (by omega)) ((b103_22 hC).mpr ⟨hX.1, get_ok g0 hi' (b103_33.mpr ?_)⟩)))⟩))
    rw [List.getElem_map]
    refine ⟨m0, ?_⟩
    by_cases c0 : y = 0
    · rw [if_pos c0] at hP ⊢
      exact b103_72.mpr ⟨m0, by rw [m3]; exact hP⟩
    rw [if_neg c0] at hP ⊢
    by_cases c1 : y = 1
    · rw [if_pos c1] at hP ⊢
      exact (b103_77 hC).mpr ⟨m0, esize_ok hC ⟨m0, m1, m2, m3, m4⟩ hok (b103_84.mpr hP)⟩
    rw [if_neg c1] at hP ⊢
    by_cases c2 : y = 2
    · rw [if_pos c2] at hP ⊢
      exact (b103_86 hC).mpr ⟨m0, by rw [m2.2.2.1]; exact hP⟩
    rw [if_neg c2] at hP ⊢
    by_cases c3 : y = 3
    · rw [if_pos c3] at hP ⊢
      exact b103_95.mpr ⟨m0, by rw [m4]; exact hP⟩
    rw [if_neg c3] at hP ⊢
    by_cases c4 : y = 4
    · rw [if_pos c4] at hP ⊢
      exact (b103_101 hC).mpr ⟨m0, by rw [m2.2.1]; exact hP⟩
    rw [if_neg c4] at hP ⊢
    exact b103_110.mpr hP
theorem drop_ok (hH : HI σ) (hX : zIs σ (X + 15) 1) (hv : LVal σ (X + 16) ea) (hs : LVal σ (X + 17) sa) (hz : ∀ e ∈ ea, zIs σ e 3) (h101 : ea.length + sa.length ≤ 101) (hR : RmN σ X n N M)
    (hP : ∀ τ, HI τ → LVal τ (X + 16) [] → LVal τ (X + 17) (sa ++ ea) → zfi τ 1 3 (X + 15) = 0 → zfi τ 1 2 (X + 15) = zfi σ 1 2 (X + 15) → zfi τ 1 4 (X + 15) = zfi σ 1 4 (X + 15) → Fr σ τ no1 no1 (cLs X) cF1 → RmN τ X n N M → P (some (.int (nI ea.length))) τ) : wpM 13 [.ref (X + 15)] σ P := by
  have hC0 := hH.1
  refine (b13 hC0).mpr ⟨hX, size_ok hv (b13_7.mpr ?_)⟩
  have key : ∀ d j τ, j + d = ea.length → HI τ → LVal τ (X + 16) ea → LVal τ (X + 17) (sa ++ ea.take j) → Fr σ τ no1 no1 (fun l => l = X + 17) no3 → RmN τ X n N M → wp 13 10 [some (.ref (X + 15)), some (.int (nI ea.length)), some (.int (nI j))] [] τ P := by
    intro d
    induction d with
    | zero =>
      intro j τ e hH hv hs hF hR
      have hC := hH.1
      refine b13_10.mpr (ifp (nI_le (by omega) (by omega)) ((b13_40 hC).mpr ⟨hF.is hX, clear_ok hH hv (fun τ1 h1 => b13_47.mpr ?_)⟩))
      have hF1 := Fr_L h1
      have hC1 := h1.2.1.1
      have hX1 := hF1.is (hF.is hX)
      rw [List.take_of_length_le (by omega)] at hs
      have hF2 : Fr τ1 (sfi τ1 1 3 (X + 15) 0) no1 no1 no1 (fun c' k' a' => c' = 1 ∧ k' = 3 ∧ a' = X + 15) := Fr_fi (by decide) (by decide) (by decide) (by decide)
      refine ⟨hX1, hP _ h1.2.1 (hF2.lst id h1.2.2.1) (hF2.lst id (hF1.lst (show ¬ X + 17 = X + 16 by omega) hs)) (if_pos ⟨rfl, rfl, rfl⟩) ?_ ?_ ?_ (show RmN τ1 X n N M from RmN_18 (ea := []) h1 hs (Nat.zero_le _) hR)⟩
      · rw [← hF.fi rfl hX id, ← hF1.fi rfl (hF.is hX) id]; rfl
      · rw [← hF.fi rfl hX id, ← hF1.fi rfl (hF.is hX) id]; rfl
      · exact ((hF.mono (fun _ => id) (fun _ => id) (fun _ => Or.inr) (fun _ _ _ => False.elim)).trans (hF1.mono (fun _ => id) (fun _ => id) (fun _ => Or.inl) (fun _ _ _ => False.elim)) hC).trans (hF2.mono (fun _ => id) (fun _ => id) (fun _ => False.elim) (fun _ _ _ q => q.1)) hC1
    | succ d ih =>
      intro j τ e hH hv hs hF hR
      have hC := hH.1
      have hj : j < ea.length := by omega
      have hl19 : zIs τ (X + 17) 13 := hs.1
      refine b13_10.mpr (ifn (nI_ge hj (by omega)) ((b13_15 hC).mpr ⟨hF.is hX, get_ok hv hj (b13_27.mpr ⟨hF.is (hz _ (List.getElem_mem hj)), hl19, ?_⟩)⟩))
      refine add_ok (P := fun r τ => wp 13 33 [some (.ref (X + 15)), some (.int (nI ea.length)), some (.int (nI j))] (r.toList ++ []) τ P) hH hs (by simp; omega) (zAsg3 (hF.is (hz _ (List.getElem_mem hj)))) (fun τ1 h1 => b13_33.mpr ?_)
      have hF1 := Fr_L h1
      have tk : sa ++ ea.take j ++ [ea[j]] = sa ++ ea.take (j + 1) := by
        rw [List.take_add_one, List.getElem?_eq_getElem hj, ← List.append_assoc]; rfl
      rw [tk] at h1
      rw [nI_1]
      exact ih (j + 1) τ1 (by omega) h1.2.1 (hF1.lst (show ¬ X + 16 = X + 17 by omega) hv) h1.2.2.1 (hF.trans hF1 hC) (RmN_19 h1 hv (by simp; omega) hR)
  exact key _ 0 σ (Nat.zero_add _) hH hv (by simpa using hs) Fr.refl hR
theorem forget_ok (h : Cls σ X w N M) (hI : WInv w) (hP : ∀ τ, Cls τ X (sForget w).1 N M → RF σ τ → P (some (.int (sForget w).2)) τ) : wpM 104 [.ref X] σ P := by
  obtain ⟨pa, aa, ea, sa, z, hG, hR⟩ := h
  have hC := hG.C
  have hG' := hG
  obtain ⟨hH, hX, hT, hCC, hTp, hA, hW, hK, hLg⟩ := hG'
  obtain ⟨g0, g1, g2, g3, g4, ⟨pe, e1, e2, g6⟩, g7, g8, g9⟩ := hK
  have hz : ∀ e ∈ ea, zIs σ e 3 := fun e he => (ent_ok hG he).1
  have hl : ea.length = (wK w).2.1.length := by rw [e1, e2]; simp
  refine (b104 hC).mpr ⟨hX.1, drop_ok hH (x_cache hC hX.1) g0 g1 hz (by simpa using g3) hR (fun τ hH1 hv1 hs1 k3 k2 k4 hF hR1 => b104_7.mpr ?_)⟩
  have hF13 := hF.mono (Cs' := no1) (Ks' := no1) (Ls' := cLs X) (Fs' := cF13) (fun _ => id) (fun _ => id) (fun _ => id) (fun _ _ _ q => Or.inl q)
  rw [hl]
  refine hP τ ⟨pa, aa, [], sa ++ ea, z, ClsU_cac hG hH1 hF13 ⟨hv1, hs1, ?_, by simp at g3 ⊢; omega, fun e he => ?_, ⟨[], rfl, rfl, fun p hp => absurd hp (by simp)⟩, by rw [k2]; exact g7, k3, by rw [k4]; exact g9⟩, ?_⟩ (cF13_rf hF13)
  · rw [List.nil_append]; exact (List.perm_append_comm.nodup_iff).mp g2
  · rcases List.mem_append.mp he with he | he
    · exact hF.is (g4 e he)
    · exact hF.is (hz e he)
  · have : (([] : List Nat) ++ (sa ++ ea)).length = (ea ++ sa).length := by simp; omega
    unfold Rm; rw [this]; exact hR1
theorem count_ok (hG : ClsG σ X pa aa ea sa z w) (hP : P (some (.int (sCount w x))) σ) : wpM 105 [.ref X, .int x] σ P := by
  have hC := hG.C
  obtain ⟨hH, hX, hT, hCC, hTp, hA, hW, hK, hLg⟩ := hG
  obtain ⟨g0, g1, g2, g3, g4, ⟨pe, e1, e2, g6⟩, g7, g8, g9⟩ := hK
  have hl : ea.length = (wK w).2.1.length := by rw [e1, e2]; simp
  unfold sCount at hP
  refine b105.mpr ?_
  by_cases c0 : x = 0
  · rw [if_pos c0] at hP ⊢
    exact (b105_60 hC).mpr ⟨hX.1, tsize_ok hC hX.1 hT (b105_67.mpr hP)⟩
  rw [if_neg c0] at hP ⊢
  by_cases c1 : x = 1
  · rw [if_pos c1] at hP ⊢
    exact (b105_68 hC).mpr ⟨hX.1, gsize_ok hC (x_graph hC hX.1) hA.1 (b105_75.mpr (by rw [hA.2.1]; exact hP))⟩
  rw [if_neg c1] at hP ⊢
  by_cases c2 : x = 2
  · rw [if_pos c2] at hP ⊢
    exact (b105_76 hC).mpr ⟨hX.1, by rw [lenI_cnt hTp]; exact hP⟩
  rw [if_neg c2] at hP ⊢
  by_cases c3 : x = 3
  · rw [if_pos c3] at hP ⊢
    exact (b105_84 hC).mpr ⟨hX.1, size_ok g0 (b105_94.mpr (by rw [hl]; exact hP))⟩
  rw [if_neg c3] at hP ⊢
  by_cases c4 : x = 4
  · rw [if_pos c4] at hP ⊢
    exact (b105_95 hC).mpr ⟨hX.1, by rw [g8]; exact hP⟩
  rw [if_neg c4] at hP ⊢
  by_cases c5 : x = 5
  · rw [if_pos c5] at hP ⊢
    exact (b105_103 hC).mpr ⟨hX.1, by rw [g7]; exact hP⟩
  rw [if_neg c5] at hP ⊢
  by_cases c6 : x = 6
  · rw [if_pos c6] at hP ⊢
    exact (b105_111 hC).mpr ⟨hX.1, by rw [show zfi σ 6 1 (X + 21) = nI (wL w).1.length from hLg.2.1]; exact hP⟩
  rw [if_neg c6] at hP ⊢
  by_cases c7 : x = 7
  · rw [if_pos c7] at hP ⊢
    exact (b105_119 hC).mpr ⟨hX.1, by rw [show zfi σ 6 2 (X + 21) = (wL w).2.1 from hLg.2.2.2.1]; exact hP⟩
  rw [if_neg c7] at hP ⊢
  by_cases c8 : x = 8
  · rw [if_pos c8] at hP ⊢
    exact (b105_127 hC).mpr ⟨hX.1, by rw [show zfi σ 6 3 (X + 21) = (wL w).2.2.1 from hLg.2.2.2.2.1]; exact hP⟩
  rw [if_neg c8] at hP ⊢
  by_cases c9 : x = 9
  · rw [if_pos c9] at hP ⊢
    exact (b105_135 hC).mpr ⟨hX.1, by rw [g9]; exact hP⟩
  rw [if_neg c9] at hP ⊢
  by_cases c10 : x = 10
  · rw [if_pos c10] at hP ⊢
    exact (b105_143 hC).mpr ⟨hX.1, by rw [show zfi σ 6 4 (X + 21) = (wL w).2.2.2 from hLg.2.2.2.2.2.1]; exact hP⟩
  rw [if_neg c10] at hP ⊢
  exact b105_151.mpr hP
end CD
