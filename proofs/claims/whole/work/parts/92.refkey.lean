/-! THE REFERENCE: a key is laid */ -/
/-- the numbers laid so far -/
def NowR (sc : ScT) (ar : ArT) (l : List Int32) : Prop := sc 43 = nI l.length ∧ RRow ar 62 0 l
def RNow (sc : ScT) (ar : ArT) (k : KeyT) : Prop := NowR sc ar (flatK k) ∧ RSt ar 64 0 k
section RN1
variable {σ : zSt} {o : Nat} {sc sc' : ScT} {ar ar' : ArT} {P : Option Value → zSt → Prop} {x y v : Int32} {p s i j q m n a b k : Nat} {w : WT} {T : TreT} {A : ActT} {l l2 : List Int32} {cv : Nat → Con} {S : List Nat}
theorem NowR_ag (h : NowR sc ar l) (hA : Ag sc ar sc' ar' S) (h1 : 42 ∉ S) (h2 : 43 ∉ S) : NowR sc' ar' l := ⟨by rw [hA.1 43 h2]; exact h.1, RRow_ag h.2 (fun i => hA.2 62 i h1)⟩
theorem r_mix (hR : RShape σ o) (h : NowR sc ar l) (hl : l.length < 425) (hP : ∀ sc' ar', NowR sc' ar' (l ++ [x]) → Ag sc ar sc' ar' [42, 43] → P none (rOv σ o sc' ar')) : wpM 139 [.ref o, .int x] (rOv σ o sc ar) P := by
  refine (b139 hR).mpr ?_
  rw [h.1, nI_clamp (by omega), nI_1]
  refine ⟨nI_in (N := 425) (by omega) (by omega), hP _ _ ⟨by rw [upS_same, List.length_append]; rfl, ?_⟩ ((Ag_ar (by decide)).tr (Ag_sc (by decide)))⟩
  have := RRow_put (v := x) h.2
  rw [Nat.zero_add] at this
  exact this
theorem flatMap_take {α β : Type} {L : List α} {f : α → List β} (h : k < L.length) : (L.take (k + 1)).flatMap f = (L.take k).flatMap f ++ f L[k] := by
  rw [List.take_add_one, List.getElem?_eq_getElem h, List.flatMap_append]
  simp
theorem headL_ln {ins outs : List Nat} {st : List (Int32 × Int32)} : (headL ins outs st).length = 3 + 2 * st.length := by
  have : ∀ L : List (Int32 × Int32), (L.flatMap fun p => [p.1, p.2]).length = 2 * L.length := by
    intro L
    induction L with
    | nil => rfl
    | cons a L ih =>
      rw [List.flatMap_cons, List.length_append, ih, List.length_cons]
      simp
      omega
  unfold headL
  simp only [List.length_cons, List.length_append, List.length_nil, this]
  omega
theorem r_mixHead (hR : RShape σ o) (h : NowR sc ar []) (hA : RAct sc ar A) (hn : aN A ≤ 40) (ha : a < aN A) (h16 : (aSt A a).length ≤ 16) (hP : ∀ sc' ar', NowR sc' ar' (headL (aIns A a) (aOut A a) (stI (aSt A a))) → Ag sc ar sc' ar' [42, 43] → P none (rOv σ o sc' ar')) : wpM 140 [.ref o, .int (nI a)] (rOv σ o sc ar) P := by
  obtain ⟨⟨a1, a2⟩, ⟨b1, b2⟩, c1, c2, c3⟩ := hA.2 a ha
  refine (b140 hR).mpr ⟨nI_in (N := 40) (by omega) (by omega), ?_⟩
  rw [nI_clamp (by omega), b1]
  refine r_mix hR h (by simp) (fun sc1 ar1 h1 g1 => (b140_10 hR).mpr ⟨nI_in (N := 40) (by omega) (by omega), ?_⟩)
  rw [nI_clamp (by omega), g1.2 36 _ (by decide), c1]
  refine r_mix hR h1 (by simp) (fun sc2 ar2 h2 g2 => (b140_20 hR).mpr ?_)
  have g12 := g1.tr g2
  have hst : (stI (aSt A a)).length = (aSt A a).length := by unfold stI; rw [List.length_map]
  have key : ∀ e k sc' ar', k + e = (aSt A a).length → NowR sc' ar' ([nI (aOut A a).length, nI (aSt A a).length] ++ ((stI (aSt A a)).take k).flatMap fun p => [p.1, p.2]) → Ag sc ar sc' ar' [42, 43] → wp 140 22 [some (.ref o), some (.int (nI a)), some (.int (nI k))] [] (rOv σ o sc' ar') P := by
    intro e
    induction e with
    | zero =>
      intro k sc' ar' hk hn' hg
      refine (b140_22 hR).mpr ⟨nI_in (N := 40) (by omega) (by omega), ?_⟩
      rw [nI_clamp (by omega), hg.2 36 _ (by decide), c1]
      refine ifp (nI_le (by omega) (by omega)) ((b140_68 hR).mpr ⟨nI_in (N := 40) (by omega) (by omega), ?_⟩)
      rw [nI_clamp (by omega), hg.2 31 _ (by decide), a1]
      rw [List.take_of_length_le (by omega)] at hn'
      have hl := headL_ln (ins := aIns A a) (outs := aOut A a) (st := stI (aSt A a))
      have hu : headL (aIns A a) (aOut A a) (stI (aSt A a)) = ([nI (aOut A a).length, nI (aSt A a).length] ++ (stI (aSt A a)).flatMap fun p => [p.1, p.2]) ++ [nI (aIns A a).length] := by
        unfold headL
        rw [hst]
        simp
      refine r_mix hR hn' ?_ (fun sc3 ar3 h3 g3 => (b140_78 hR).mpr (hP _ _ (by rw [hu]; exact h3) (hg.tr g3)))
      rw [hu, List.length_append, List.length_singleton] at hl
      omega
    | succ e ih =>
      intro k sc' ar' hk hn' hg
      have hkl : k < (aSt A a).length := by omega
      have hkl' : k < (stI (aSt A a)).length := by omega
      have sg : (stI (aSt A a))[k] = (nI (aSt A a)[k].1, nI (aSt A a)[k].2) := List.getElem_map (fun p : Nat × Nat => (nI p.1, nI p.2))
      have e34 : ar 34 (16 * a + k) = (stI (aSt A a))[k].1 := by
        rw [RRow_get c2 (by rw [List.length_map]; exact hkl), List.getElem_map, sg]
      have e35 : ar 35 (16 * a + k) = (stI (aSt A a))[k].2 := by
        rw [RRow_get c3 (by rw [List.length_map]; exact hkl), List.getElem_map, sg]
      have lk : ∀ L : List (Int32 × Int32), (L.flatMap fun p => [p.1, p.2]).length = 2 * L.length := by
        intro L
        induction L with
        | nil => rfl
        | cons a L ih =>
          rw [List.flatMap_cons, List.length_append, ih, List.length_cons]
          simp
          omega
      have hlen : ([nI (aOut A a).length, nI (aSt A a).length] ++ ((stI (aSt A a)).take k).flatMap fun p => [p.1, p.2]).length = 2 + 2 * k := by
        rw [List.length_append, lk, List.length_take, Nat.min_eq_left (by omega)]; rfl
      refine (b140_22 hR).mpr ⟨nI_in (N := 40) (by omega) (by omega), ?_⟩
      rw [nI_clamp (by omega), hg.2 36 _ (by decide), c1]
      refine ifn (nI_ge (by omega) (by omega)) ((b140_32 hR).mpr ?_)
      rw [i16, nI_clamp (n := 16 * a + k) (by omega), hg.2 34 _ (by decide), e34]
      refine ⟨nI_in (N := 640) (by omega) (by omega), r_mix hR hn' (by omega) (fun sc3 ar3 h3 g3 => (b140_47 hR).mpr ?_)⟩
      have hg3 := hg.tr g3
      rw [i16, nI_clamp (n := 16 * a + k) (by omega), hg3.2 35 _ (by decide), e35]
      refine ⟨nI_in (N := 640) (by omega) (by omega), r_mix hR h3 (by rw [List.length_append, hlen]; simp; omega) (fun sc4 ar4 h4 g4 => (b140_62 hR).mpr ?_)⟩
      rw [nI_1]
      refine ih (k + 1) sc4 ar4 (by omega) ?_ (hg3.tr g4)
      rw [flatMap_take hkl']
      have : ([nI (aOut A a).length, nI (aSt A a).length] ++ (((stI (aSt A a)).take k).flatMap (fun p => [p.1, p.2]) ++ [(stI (aSt A a))[k].1, (stI (aSt A a))[k].2])) = ([nI (aOut A a).length, nI (aSt A a).length] ++ ((stI (aSt A a)).take k).flatMap (fun p => [p.1, p.2])) ++ [(stI (aSt A a))[k].1] ++ [(stI (aSt A a))[k].2] := by simp
      rw [this]
      exact h4
  exact key _ 0 sc2 ar2 (Nat.zero_add _) (by simpa using h2) g12
/-- the names that are listed, as far as they are found -/
def pN (T : TreT) (p n : Nat) : Nat → Bool := fun k => decide (tPar T k = some p) && (decide (tNam T k = n) && !tDir T k)
def aNk (T : TreT) (p n k : Nat) : List Nat := ((List.range n).flatMap fun n => (List.range (tN T)).filter (pN T p n)) ++ (List.range k).filter (pN T p n)
theorem filesT_pN : filesT T p = (List.range 27).flatMap fun n => (List.range (tN T)).filter (pN T p n) := rfl
theorem aNk_end : aNk T p n (tN T) = aNk T p (n + 1) 0 := by
  unfold aNk
  rw [List.range_succ, List.flatMap_append]
  simp
theorem aNk_succ : aNk T p n (k + 1) = if pN T p n k = true then aNk T p n k ++ [k] else aNk T p n k := by
  unfold aNk
  rw [List.range_succ, List.filter_append]
  by_cases c : pN T p n k = true
  · rw [if_pos c]; simp [c]
  · rw [if_neg c]; simp [c]
theorem aNk_0 (hT : TInv T) : aNk T p 1 1 = [] := by
  have h0 : ∀ n, pN T p n 0 = false := by
    intro n; unfold pN; rw [hT.2.2.1.1]; rfl
  have e1 : (List.range (tN T)).filter (pN T p 0) = [] := by
    rw [List.filter_eq_nil_iff]
    intro k hk r
    rw [List.mem_range] at hk
    unfold pN at r
    rw [Bool.and_eq_true, Bool.and_eq_true, decide_eq_true_iff, decide_eq_true_iff] at r
    by_cases c : k = 0
    · rw [c, hT.2.2.1.1] at r; cases r.1
    · have := (hT.2.2.2.1 k (by omega) hk).2.1
      omega
  show (List.range 1).flatMap (fun n => (List.range (tN T)).filter (pN T p n)) ++ (List.range 1).filter (pN T p 1) = []
  rw [show List.range 1 = [0] from rfl, List.flatMap_cons, e1]
  simp [h0]
theorem aNk_len (hT : TInv T) (hn : n < 27) (hk : k ≤ tN T) : (aNk T p n k).length ≤ 26 := by
  have mono : ∀ d n, ((List.range n).flatMap fun n => (List.range (tN T)).filter (pN T p n)).length ≤ ((List.range (n + d)).flatMap fun n => (List.range (tN T)).filter (pN T p n)).length := by
    intro d
    induction d with
    | zero => intro n; exact Nat.le_refl _
    | succ d ih =>
      intro n
      rw [← Nat.add_assoc, List.range_succ, List.flatMap_append, List.length_append]
      exact Nat.le_trans (ih n) (Nat.le_add_right _ _)
  have h1 : (aNk T p n k).length ≤ (aNk T p n (tN T)).length := by
    unfold aNk
    rw [List.length_append, List.length_append]
    refine Nat.add_le_add_left (List.Sublist.length_le (List.Sublist.filter _ (List.range_sublist.mpr hk))) _
  rw [aNk_end] at h1
  have h2 := mono (27 - (n + 1)) (n + 1)
  rw [show n + 1 + (27 - (n + 1)) = 27 by omega, ← filesT_pN] at h2
  have h3 := filesT_len hT (p := p)
  have h4 : (aNk T p (n + 1) 0).length = ((List.range (n + 1)).flatMap fun n => (List.range (tN T)).filter (pN T p n)).length := by
    unfold aNk; simp
  omega
def nmL (T : TreT) (cv : Nat → Con) (l : List Nat) : List Int32 := (l.filter fun k => (cv k).isSome).map fun k => nI (tNam T k)
theorem namesW_nmL : namesW T cv p = nmL T cv (filesT T p) := rfl
theorem nmL_len {l : List Nat} : (nmL T cv l).length ≤ l.length := by
  unfold nmL; rw [List.length_map]; exact List.length_filter_le _ _
/-- what is listed so far -/
def ListR (sc : ScT) (ar : ArT) (l : List Int32) : Prop := sc 46 = nI l.length ∧ RRow ar 65 0 l
theorem r_list (hR : RShape σ o) (hT : RTree sc ar T) (hTI : TInv T) (hs : s < 3) (hC : RConS ar s (tN T) cv) (hcv : ∀ p, p < tN T → ∀ l, cv p = some l → l.length ≤ 64) (hp : p < tN T) (hP : ∀ sc' ar', ListR sc' ar' (namesW T cv p) → Ag sc ar sc' ar' [45, 46] → P none (rOv σ o sc' ar')) : wpM 141 [.ref o, .int (nI s), .int (nI p)] (rOv σ o sc ar) P := by
  have h60 := hTI.2.1
  have h1 := hTI.1
  refine (b141 hR).mpr ?_
  have key : ∀ e n sc' ar' u4, n + e = 27 → 1 ≤ n → Ag sc ar sc' ar' [45, 46] → ListR sc' ar' (nmL T cv (aNk T p n 1)) → wp 141 7 [some (.ref o), some (.int (nI s)), some (.int (nI p)), some (.int (nI n)), u4] [] (rOv σ o sc' ar') P := by
    intro e
    induction e with
    | zero =>
      intro n sc' ar' u4 hn n1 hg hl
      have hn : n = 27 := by omega
      subst hn
      refine (b141_7 hR).mpr (ifp (by decide) ((b141_105 hR).mpr (hP _ _ ?_ hg)))
      have : aNk T p 27 1 = filesT T p := by
        rw [show 1 = 0 + 1 from rfl, aNk_succ]
        have h0 : pN T p 27 0 = false := by unfold pN; rw [hTI.2.2.1.1]; rfl
        rw [h0, if_neg (by decide), filesT_pN]
        unfold aNk; simp
      rw [this] at hl
      exact hl
    | succ e ih =>
      intro n sc' ar' u4 hn n1 hg hl
      refine (b141_7 hR).mpr (ifn (show ¬ nI 26 < nI n from nI_nlt (by omega) (by omega)) ((b141_13 hR).mpr ?_))
      have inner : ∀ e' k sc' ar', k + e' = tN T → 1 ≤ k → Ag sc ar sc' ar' [45, 46] → ListR sc' ar' (nmL T cv (aNk T p n k)) → wp 141 16 [some (.ref o), some (.int (nI s)), some (.int (nI p)), some (.int (nI n)), some (.int (nI k))] [] (rOv σ o sc' ar') P := by
        intro e'
        induction e' with
        | zero =>
          intro k sc' ar' hk k1 hg hl
          have hk : k = tN T := by omega
          subst hk
          refine (b141_16 hR).mpr (ifp (by rw [hg.1 0 (by decide), hT.1]; exact nI_le (by omega) (by omega)) ((b141_99 hR).mpr ?_))
          rw [nI_1]
          refine ih (n + 1) sc' ar' _ (by omega) (by omega) hg ?_
          have h0 : pN T p (n + 1) 0 = false := by unfold pN; rw [hTI.2.2.1.1]; rfl
          rw [show (1 : Nat) = 0 + 1 from rfl, aNk_succ, show pN T p (n + (0 + 1)) 0 = false from h0, if_neg (by decide), ← aNk_end]
          exact hl
        | succ e' ih' =>
          intro k sc' ar' hk k1 hg hl
          have hkn : k < tN T := by omega
          obtain ⟨t1, t2, t3, t4⟩ := (RTree_ag hT hg (by decide)).2 k hkn
          have cc := (RConS_ag hC hg (by decide)) k k1 hkn
          obtain ⟨⟨q', hq', hpar, _⟩, hn1, hn2⟩ := hTI.2.2.2.1 k k1 hkn
          have epar : optI (tPar T k) = nI p ↔ tPar T k = some p := optI_eq (b := some p) (par31 hTI hkn) (fun k hk => by cases hk; omega)
          have skip : pN T p n k = false → wp 141 93 [some (.ref o), some (.int (nI s)), some (.int (nI p)), some (.int (nI n)), some (.int (nI k))] [] (rOv σ o sc' ar') P := by
            intro hno
            refine (b141_93 hR).mpr ?_
            rw [nI_1]
            refine ih' (k + 1) sc' ar' (by omega) (by omega) hg ?_
            rw [aNk_succ, hno, if_neg (by decide)]; exact hl
          refine (b141_16 hR).mpr (ifn (by rw [hg.1 0 (by decide), hT.1]; exact nI_ge hkn (by omega)) ((b141_25 hR).mpr ⟨nI_in (N := 60) (by omega) (by omega), ?_⟩))
          rw [nI_clamp (by omega), t1]
          by_cases c1 : tPar T k = some p
          · refine ifn (fun r => r (epar.mpr c1)) ((b141_36 hR).mpr ⟨nI_in (N := 60) (by omega) (by omega), ?_⟩)
            rw [nI_clamp (by omega), t2]
            by_cases c2 : tNam T k = n
            · refine ifn (fun r => r (by rw [c2])) ((b141_47 hR).mpr ⟨nI_in (N := 60) (by omega) (by omega), ?_⟩)
              rw [nI_clamp (by omega), t3]
              by_cases c3 : tDir T k = true
              · exact ifp (b2I_ne.mpr c3) (skip (by unfold pN; rw [c3]; simp))
              · refine ifn (fun r => c3 (b2I_ne.mp r)) ((b141_57 hR).mpr ?_)
                have c3' : tDir T k = false := by simpa using c3
                have hpn : pN T p n k = true := by unfold pN; rw [c1, c2, c3']; simp
                have hnx := aNk_len hTI (p := p) (n := n) (k := k + 1) (by omega) (by omega)
                rw [i60, nI_clamp (n := 60 * s + k) (by omega), cc.1]
                refine ⟨nI_in (N := 180) (by omega) (by omega), ?_⟩
                cases hcv' : cv k with
                | none =>
                  refine ifp rfl ((b141_93 hR).mpr ?_)
                  rw [nI_1]
                  refine ih' (k + 1) sc' ar' (by omega) (by omega) hg ?_
                  rw [aNk_succ, if_pos hpn]
                  have : nmL T cv (aNk T p n k ++ [k]) = nmL T cv (aNk T p n k) := by
                    unfold nmL; rw [List.filter_append]; simp [hcv']
                  rw [this]; exact hl
                | some l =>
                  have l64 := hcv k hkn l hcv'
                  refine ifn (fun r => absurd (show nI l.length = -1 from r) (nI_m1 (by omega))) ((b141_73 hR).mpr ?_)
                  rw [aNk_succ, if_pos hpn, List.length_append, List.length_singleton] at hnx
                  have hle := nmL_len (T := T) (cv := cv) (l := aNk T p n k)
                  rw [hl.1, nI_clamp (by omega), nI_1]
                  refine ⟨nI_in (N := 26) (by omega) (by omega), (b141_93 hR).mpr ?_⟩
                  rw [nI_1]
                  refine ih' (k + 1) _ _ (by omega) (by omega) (hg.tr ((Ag_ar (by decide)).tr (Ag_sc (by decide)))) ?_
                  rw [aNk_succ, if_pos hpn]
                  have : nmL T cv (aNk T p n k ++ [k]) = nmL T cv (aNk T p n k) ++ [nI n] := by
                    unfold nmL; rw [List.filter_append]; simp [hcv', c2]
                  rw [this]
                  refine ⟨by rw [upS_same, List.length_append]; rfl, ?_⟩
                  have g := RRow_put (v := nI n) hl.2
                  rw [Nat.zero_add] at g
                  exact g
            · exact ifp (fun r => c2 ((nI_eq (by omega) (by omega)).mp r)) (skip (by unfold pN; rw [decide_eq_false c2]; simp))
          · exact ifp (fun r => c1 (epar.mp r)) (skip (by unfold pN; rw [decide_eq_false c1]; simp))
      exact inner (tN T - 1) 1 sc' ar' (by omega) (Nat.le_refl 1) hg hl
  refine key 26 1 (upS sc 46 0) ar none rfl (Nat.le_refl 1) (Ag_sc (by decide)) ?_
  rw [aNk_0 hTI]
  exact ⟨upS_same, RRow_nil⟩
theorem r_mixPart (hR : RShape σ o) (h : NowR sc ar l) (hT : RTree sc ar T) (hTI : TInv T) (hs : s < 3) (hC : RConS ar s (tN T) cv) (hcv : ∀ p, p < tN T → ∀ l, cv p = some l → l.length ≤ 64) (hp : p < tN T) (hl : l.length + (partW T cv p).length ≤ 425) (hP : ∀ sc' ar', NowR sc' ar' (l ++ partW T cv p) → Ag sc ar sc' ar' [42, 43, 45, 46] → P none (rOv σ o sc' ar')) : wpM 142 [.ref o, .int (nI s), .int (nI p)] (rOv σ o sc ar) P := by
  have h60 := hTI.2.1
  unfold partW at hl hP
  refine (b142 hR).mpr ⟨nI_in (N := 60) (by omega) (by omega), ?_⟩
  rw [nI_clamp (by omega), (hT.2 p hp).2.2.1]
  by_cases c : tDir T p = true
  · rw [if_pos c] at hl hP
    have hnl : (namesW T cv p).length ≤ 26 := Nat.le_trans nmL_len (filesT_len hTI)
    have hl2 : l.length + (2 + (namesW T cv p).length) ≤ 425 := by
      unfold listL at hl; simp only [List.length_cons] at hl; omega
    refine ifn (fun r => b2I_ne.mpr c r) ((b142_9 hR).mpr (r_list hR hT hTI hs hC hcv hp (fun sc1 ar1 h1 g1 => (b142_15 hR).mpr ?_)))
    have n1 := NowR_ag h g1 (by decide) (by decide)
    refine r_mix hR n1 (by omega) (fun sc2 ar2 n2 g2 => (b142_21 hR).mpr ?_)
    have e46 : sc2 46 = nI (namesW T cv p).length := by rw [g2.1 46 (by decide)]; exact h1.1
    rw [e46]
    refine r_mix hR n2 (by rw [List.length_append]; simp; omega) (fun sc3 ar3 n3 g3 => (b142_29 hR).mpr ?_)
    have g23 := g2.tr g3
    have key : ∀ e k sc' ar', k + e = (namesW T cv p).length → NowR sc' ar' (l ++ [-2] ++ [nI (namesW T cv p).length] ++ (namesW T cv p).take k) → Ag sc1 ar1 sc' ar' [42, 43] → wp 142 31 [some (.ref o), some (.int (nI s)), some (.int (nI p)), some (.int (nI k)), none] [] (rOv σ o sc' ar') P := by
      intro e
      induction e with
      | zero =>
        intro k sc' ar' hk hn hg
        refine (b142_31 hR).mpr (ifp ?_ ((b142_55 hR).mpr (hP _ _ ?_ ((g1.mono (by decide)).tr (hg.mono (by decide))))))
        · rw [hg.1 46 (by decide), h1.1]; exact nI_le (by omega) (by omega)
        · rw [List.take_of_length_le (by omega)] at hn
          have : l ++ listL (namesW T cv p) = l ++ [-2] ++ [nI (namesW T cv p).length] ++ namesW T cv p := by unfold listL; simp
          rw [this]; exact hn
      | succ e ih =>
        intro k sc' ar' hk hn hg
        have hkl : k < (namesW T cv p).length := by omega
        refine (b142_31 hR).mpr (ifn ?_ ((b142_39 hR).mpr ⟨nI_in (N := 26) (by omega) (by omega), ?_⟩))
        · rw [hg.1 46 (by decide), h1.1]; exact nI_ge hkl (by omega)
        have g := RRow_get h1.2 hkl
        rw [Nat.zero_add] at g
        rw [nI_clamp (by omega), hg.2 65 _ (by decide), g]
        refine r_mix hR hn ?_ (fun sc4 ar4 n4 g4 => (b142_49 hR).mpr ?_)
        · simp only [List.length_append, List.length_take, List.length_singleton]; omega
        · rw [nI_1]
          refine ih (k + 1) sc4 ar4 (by omega) ?_ (hg.tr g4)
          rw [List.take_add_one, List.getElem?_eq_getElem hkl, ← List.append_assoc]
          exact n4
    exact key _ 0 sc3 ar3 (Nat.zero_add _) (by simpa using n3) g23
  · rw [if_neg c] at hl hP
    have p1 : 1 ≤ p := by
      by_cases e : p = 0
      · rw [e] at c; exact absurd hTI.2.2.1.2.2.1 c
      · omega
    have cc := hC p p1 hp
    refine ifp (b2I_0.mpr (by simpa using c)) ((b142_56 hR).mpr ?_)
    rw [i60, nI_clamp (by omega), cc.1]
    refine ⟨nI_in (N := 180) (by omega) (by omega), r_mix hR h (by unfold contL at hl; split at hl <;> simp at hl <;> omega) (fun sc1 ar1 n1 g1 => (b142_73 hR).mpr ?_)⟩
    cases hcv' : cv p with
    | none =>
      rw [hcv'] at hP n1 cc
      refine (b142_76 hR).mpr ⟨nI_in (N := 180) (by omega) (by omega), ?_⟩
      rw [nI_clamp (by omega), g1.2 25 _ (by decide), cc.1]
      exact ifp (by decide) ((b142_109 hR).mpr (hP _ _ n1 (g1.mono (by decide))))
    | some L =>
      rw [hcv'] at hP n1 cc hl
      have l64 := hcv p hp L hcv'
      have hl3 : l.length + (1 + L.length) ≤ 425 := by
        unfold contL at hl; simp only [List.length_cons] at hl; omega
      have rr := cc.2 L rfl
      have key : ∀ e k sc' ar', k + e = L.length → NowR sc' ar' (l ++ [nI L.length] ++ L.take k) → Ag sc ar sc' ar' [42, 43] → wp 142 76 [some (.ref o), some (.int (nI s)), some (.int (nI p)), some (.int (nI (60 * s + p))), some (.int (nI k))] [] (rOv σ o sc' ar') P := by
        intro e
        induction e with
        | zero =>
          intro k sc' ar' hk hn hg
          refine (b142_76 hR).mpr ⟨nI_in (N := 180) (by omega) (by omega), ?_⟩
          rw [nI_clamp (by omega), hg.2 25 _ (by decide), cc.1]
          refine ifp (nI_le (by omega) (by omega)) ((b142_109 hR).mpr (hP _ _ ?_ (hg.mono (by decide))))
          rw [List.take_of_length_le (by omega)] at hn
          have : l ++ contL (some L) = l ++ [nI L.length] ++ L := by unfold contL; simp
          rw [this]; exact hn
        | succ e ih =>
          intro k sc' ar' hk hn hg
          have hkl : k < L.length := by omega
          refine (b142_76 hR).mpr ⟨nI_in (N := 180) (by omega) (by omega), ?_⟩
          rw [nI_clamp (by omega), hg.2 25 _ (by decide), cc.1]
          refine ifn (nI_ge (a := k) (b := L.length) hkl (by omega)) ((b142_87 hR).mpr ?_)
          rw [i64, nI_clamp (by omega), hg.2 26 _ (by decide), RRow_get rr hkl]
          refine ⟨nI_in (N := 11520) (by omega) (by omega), r_mix hR hn ?_ (fun sc4 ar4 n4 g4 => (b142_103 hR).mpr ?_)⟩
          · simp only [List.length_append, List.length_take, List.length_singleton]; omega
          · rw [nI_1]
            refine ih (k + 1) sc4 ar4 (by omega) ?_ (hg.tr g4)
            rw [List.take_add_one, List.getElem?_eq_getElem hkl, ← List.append_assoc]
            exact n4
      have n1' : NowR sc1 ar1 (l ++ [nI L.length]) := n1
      exact key _ 0 sc1 ar1 (Nat.zero_add _) (by simpa using n1') g1
end RN1
