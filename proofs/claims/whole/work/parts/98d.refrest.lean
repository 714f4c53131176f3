/-! THE REFERENCE: whether all is clean; the calls that are left -/
section RRE
variable {σ : zSt} {o : Nat} {sc sc' : ScT} {ar ar' ar2 : ArT} {P : Option Value → zSt → Prop} {x y ev v : Int32} {p s i j q m n a b k f g cap no d e t : Nat} {w : WT} {T : TreT} {A : ActT} {l key : List Int32} {S : List Nat} {op op' : Nat → Bool} {out : Nat → Con} {cv : Nat → Con}
theorem triW_src (hA : AInv T A) (hm : tMk T p = none) : ∀ n cv op, triW T A n cv op p = cv p := by
  intro n
  induction n with
  | zero => intro cv op; rfl
  | succ n ih =>
    intro cv op
    show (match nextW T A op with
      | none => cv
      | some i => triW T A n (layO cv (aOut A i) (comesW T cv A i).2 0) (fup op i false)) p = cv p
    cases hnx : nextW T A op with
    | none => rfl
    | some i =>
      dsimp only
      rw [ih, layO_out]
      intro hp
      obtain ⟨hi, _⟩ := next_lt hnx
      have := ((hA.2.1 i hi).2.2.2.2.2.1 p hp).2.2
      rw [hm] at this; cases this
theorem triW_ok (hT : TInv T) (hA : AInv T A) : ∀ n cv op, allOk T cv → allOk T (triW T A n cv op) := by
  intro n
  induction n with
  | zero => intro cv op h; exact h
  | succ n ih =>
    intro cv op h
    show allOk T (match nextW T A op with
      | none => cv
      | some i => triW T A n (layO cv (aOut A i) (comesW T cv A i).2 0) (fup op i false))
    cases hnx : nextW T A op with
    | none => exact h
    | some i => exact ih _ _ (allOk_lay hT hA (next_lt hnx).1 h)
/-- the third space is for what would be; the others stay -/
def RTwo (ar ar' : ArT) (n : Nat) : Prop := ∀ s' cv', s' < 2 → (∀ p, p < n → ∀ l, cv' p = some l → l.length ≤ 64) → RConS ar s' n cv' → RConS ar' s' n cv'
theorem RTwo.rf : RTwo ar ar n := fun _ _ _ _ h => h
theorem RTwo.tr (h : RTwo ar ar' n) (h' : RTwo ar' ar2 n) : RTwo ar ar2 n := fun s' cv' h1 h2 h3 => h' s' cv' h1 h2 (h s' cv' h1 h2 h3)
theorem RTwo_ag {S : List Nat} (hA : Ag sc ar sc' ar' S) (hS : ∀ k ∈ [5, 6], k ∉ S) : RTwo ar ar' n := fun _ _ _ _ h => RConS_ag h hA hS
def cln8 : List Nat := [5, 6, 41, 45, 46, 47, 48, 49, 50, 51, 52, 53]
theorem RefR_two (h : RefR sc ar w) (hI : WInv w) (hg : Ag sc ar sc' ar' cln8) (h2 : RTwo ar ar' (tN (wT w))) : RefR sc' ar' w := by
  obtain ⟨q1, q2, q3, q4, q5, q6, q7⟩ := h
  exact ⟨RTree_ag q1 hg (by decide), ⟨h2 0 _ (by omega) (hI.2.2.1.len (by omega)) q2.1, h2 1 _ (by omega) (hI.2.2.1.len (by omega)) q2.2⟩, RTape_ag q3 hg (by decide), RAct_ag q4 hg (by decide), RWas_ag q5 hg (by decide), RCac_ag q6 hg (by decide), RLog_ag q7 hg (by decide)⟩
theorem r_tri (hR : RShape σ o) (h : RefR sc ar w) (hI : WInv w) : ∀ n cv op sc1 ar1 x1 u3 u4, RConS ar1 2 (tN (wT w)) cv → allOk (wT w) cv → Ag sc ar sc1 ar1 cln8 → RTwo ar ar1 (tN (wT w)) → RNd ar1 (aN (wA w)) op → cnt op (aN (wA w)) ≤ n → (∀ sc' ar' v2 v3 v4, RConS ar' 2 (tN (wT w)) (triW (wT w) (wA w) n cv op) → Ag sc ar sc' ar' cln8 → RTwo ar ar' (tN (wT w)) → wp 175 77 [some (.ref o), some (.int x1), some (.int v2), v3, v4] [] (rOv σ o sc' ar') P) → wp 175 45 [some (.ref o), some (.int x1), some (.int (optI (nextW (wT w) (wA w) op))), u3, u4] [] (rOv σ o sc1 ar1) P := by
  obtain ⟨q1, q2, q3, q4, q5, q6, q7⟩ := id h
  intro n
  induction n with
  | zero =>
    intro cv op sc1 ar1 x1 u3 u4 hC hok hg h2 hN hc hP
    rw [next_no (by omega)]
    exact (b175_45 hR).mpr (ifp rfl (hP _ _ _ _ _ hC hg h2))
  | succ n ih =>
    intro cv op sc1 ar1 x1 u3 u4 hC hok hg h2 hN hc hP
    cases hnx : nextW (wT w) (wA w) op with
    | none =>
      have eb : triW (wT w) (wA w) (n + 1) cv op = cv := by
        show (match nextW (wT w) (wA w) op with
          | none => cv
          | some i => triW (wT w) (wA w) n (layO cv (aOut (wA w) i) (comesW (wT w) cv (wA w) i).2 0) (fup op i false)) = cv
        rw [hnx]
      rw [eb] at hP
      exact (b175_45 hR).mpr (ifp rfl (hP _ _ _ _ _ hC hg h2))
    | some i =>
      obtain ⟨hi, hcd⟩ := next_lt hnx
      have h40 := hI.2.1.1
      have h60 := hI.1.2.1
      have eb : triW (wT w) (wA w) (n + 1) cv op = triW (wT w) (wA w) n (layO cv (aOut (wA w) i) (comesW (wT w) cv (wA w) i).2 0) (fup op i false) := by
        show (match nextW (wT w) (wA w) op with
          | none => cv
          | some i => triW (wT w) (wA w) n (layO cv (aOut (wA w) i) (comesW (wT w) cv (wA w) i).2 0) (fup op i false)) = _
        rw [hnx]
      rw [eb] at hP
      have hT1 := RTree_ag q1 hg (by decide)
      have hA1 := RAct_ag q4 hg (by decide)
      have hcvO : cvOk (wT w) cv (aIns (wA w) i) := fun p hp _ l hl => hok p ((hI.2.1.2.1 i hi).2.1 p hp) l hl
      have hrn := runW_ok (no := (aOut (wA w) i).length) hI.1 hcvO (hI.2.1.2.1 i hi).2.1 (aSt (wA w) i) [] false (fun _ => none) (fun q hq => ((hI.2.1.2.1 i hi).2.2.2.2.2.2.2 q hq).2) ⟨Nat.zero_le _, fun x hx => absurd hx (by simp)⟩ (fun o l h => by cases h) (fun _ _ => rfl)
      refine (b175_45 hR).mpr (ifn (nI_m1 (by omega)) ((b175_50 hR).mpr ?_))
      refine r_play (s := 2) hR hT1 hI.1 hA1 hI.2.1 (by omega) hC hok hi (fun sc2 ar2 f2 m2 g2 => (b175_56 hR).mpr ?_)
      have hg2 : Ag sc ar sc2 ar2 cln8 := hg.tr (g2.mono (by decide))
      have hlen : ∀ p, p < tN (wT w) → ∀ l, cv p = some l → l.length ≤ 64 := fun p hp l hl => (hok p hp l hl).1
      refine r_lay (s := 2) (cv := cv) (out := (comesW (wT w) cv (wA w) i).2) hR (RAct_ag q4 hg2 (by decide)) hI.2.1 h60 hi (by omega) (RConS_ag hC g2 (by decide)) hlen m2 (fun q l hl => (hrn.1 q l hl).1) (fun ar3 l1 l2 g3 => (b175_62 hR).mpr ?_)
      rw [show optI (some i) = nI i from rfl, nI_clamp (by omega)]
      refine ⟨⟨nI_in (N := 40) (by omega) (by omega), Or.inr rfl⟩, ?_⟩
      have g4 : Ag sc2 ar3 sc2 (upA ar3 73 i 1) [53] := Ag_ar (by decide)
      have hg4 : Ag sc ar sc2 (upA ar3 73 i 1) cln8 := (hg2.tr (g3.mono (by decide))).tr (g4.mono (by decide))
      have hN3 : RNd ar3 (aN (wA w)) op := RNd_ag (RNd_ag hN g2 (by decide) (by decide)) g3 (by decide) (by decide)
      have hN4 := RNd_done (a := i) hN3
      have ht2 : RTwo ar (upA ar3 73 i 1) (tN (wT w)) := (h2.tr (RTwo_ag g2 (by decide))).tr (RTwo.tr (ar' := ar3) (fun s' cv' h1 h2 h3 => l2 s' cv' (by omega) (by omega) h2 h3) (RTwo_ag g4 (by decide)))
      refine r_next hR (RTree_ag q1 hg4 (by decide)) (RAct_ag q4 hg4 (by decide)) hI.1 (hI.2.1.bnd hI.1) hN4 ((b175_73 hR).mpr ?_)
      have hoff := cnt_off (n := aN (wA w)) hi hcd.1
      exact ih _ _ _ _ _ _ _ (RConS_ag l1 g4 (by decide)) (allOk_lay hI.1 hI.2.1 hi hok) hg4 ht2 hN4 (by omega) hP
theorem r_isClean (hR : RShape σ o) (h : RefR sc ar w) (hI : WInv w) (hP : ∀ sc' ar', RefR sc' ar' w → P (some (.int (sClean w x))) (rOv σ o sc' ar')) : wpM 175 [.ref o, .int x] (rOv σ o sc ar) P := by
  have h40 := hI.2.1.1
  have h60 := hI.1.2.1
  refine (b175 hR).mpr ?_
  rcases ixN_cases x (n := 2) (by omega) with ⟨e, hx⟩ | ⟨s, hs, rfl, e⟩
  · refine rspace_no hR hx ((b175_6 hR).mpr (ifn (fun r => r rfl) ((b175_9 hR).mpr ?_)))
    have := hP sc ar h
    unfold sClean at this
    rw [e] at this
    exact this
  obtain ⟨q1, q2, q3, q4, q5, q6, q7⟩ := id h
  have hCs : RConS ar s (tN (wT w)) (wC w s) := RCon_at q2 hs
  have hlen := hI.2.2.1.len hs
  have hok : allOk (wT w) (wC w s) := fun p hp l hl => (hI.2.2.1 s p hs hp).1 l hl
  refine rspace_yes hR hs ((b175_6 hR).mpr (ifp (by decide) ((b175_12 hR).mpr ?_)))
  -- the answer
  have fin : ∀ sc1 ar1 v2 v3 v4, RConS ar1 2 (tN (wT w)) (triW (wT w) (wA w) 40 (wC w s) (needW (wT w) (wA w) none)) → Ag sc ar sc1 ar1 cln8 → RTwo ar ar1 (tN (wT w)) → wp 175 77 [some (.ref o), some (.int (nI s)), some (.int v2), v3, v4] [] (rOv σ o sc1 ar1) P := by
    intro sc1 ar1 v2 v3 v4 hC hg h2
    have hr := RefR_two h hI hg h2
    have hT1 := RTree_ag q1 hg (by decide)
    have hC1 := h2 s (wC w s) hs hlen hCs
    have htl := triW_ok hI.1 hI.2.1 40 (wC w s) (needW (wT w) (wA w) none) hok
    have h1 := hI.1.1
    generalize htri : triW (wT w) (wA w) 40 (wC w s) (needW (wT w) (wA w) none) = tv at hC htl
    refine (b175_77 hR).mpr ?_
    have loop : ∀ e k, k + e = tN (wT w) → 1 ≤ k → wp 175 82 [some (.ref o), some (.int (nI s)), some (.int v2), some (.int (b2I ((List.range k).all fun p => decide (p = 0) || decide (wC w s p = tv p)))), some (.int (nI k))] [] (rOv σ o sc1 ar1) P := by
      intro e
      induction e with
      | zero =>
        intro k hk hk1
        have hk : k = tN (wT w) := by omega
        subst hk
        refine (b175_82 hR).mpr (ifp (by rw [hT1.1]; exact nI_le (by omega) (by omega)) ((b175_118 hR).mpr ?_))
        have eq : ((List.range (tN (wT w))).all fun p => decide (p = 0) || decide (wC w s p = tv p)) = ((List.range (tN (wT w))).all fun p => decide (tMk (wT w) p = none) || decide (wC w s p = tv p)) := by
          rw [Bool.eq_iff_iff, List.all_eq_true, List.all_eq_true]
          have src : ∀ p, tMk (wT w) p = none → wC w s p = tv p := fun p hm => by rw [← htri, triW_src hI.2.1 hm]
          constructor
          · intro hh p hp
            rw [Bool.or_eq_true, decide_eq_true_iff, decide_eq_true_iff]
            have := hh p hp
            rw [Bool.or_eq_true, decide_eq_true_iff, decide_eq_true_iff] at this
            rcases this with r | r
            · left; rw [r]; exact hI.1.2.2.1.2.2.2
            · exact Or.inr r
          · intro hh p hp
            rw [Bool.or_eq_true, decide_eq_true_iff, decide_eq_true_iff]
            have := hh p hp
            rw [Bool.or_eq_true, decide_eq_true_iff, decide_eq_true_iff] at this
            rcases this with r | r
            · exact Or.inr (src p r)
            · exact Or.inr r
        rw [eq]
        have ans := hP _ _ hr
        unfold sClean at ans
        rw [e] at ans
        dsimp only at ans
        rw [htri] at ans
        cases hb : ((List.range (tN (wT w))).all fun p => decide (tMk (wT w) p = none) || decide (wC w s p = tv p)) with
        | true =>
          rw [hb] at ans
          exact ifn (by decide) ((b175_122 hR).mpr ((b175_127 hR).mpr ans))
        | false =>
          rw [hb] at ans
          exact ifp rfl ((b175_126 hR).mpr ((b175_127 hR).mpr ans))
      | succ e ih =>
        intro k hk hk1
        have hkl : k < tN (wT w) := by omega
        have nx : ∀ s0, s0 = b2I ((List.range (k + 1)).all fun p => decide (p = 0) || decide (wC w s p = tv p)) → ∀ x3, wp 175 111 [some (.ref o), some (.int (nI s)), some (.int v2), some (.int x3), some (.int (nI k))] [.int s0] (rOv σ o sc1 ar1) P := by
          intro s0 h0 x3
          subst h0
          refine (b175_111 hR).mpr ?_
          rw [nI_1]
          exact ih (k + 1) (by omega) (by omega)
        have sp : ((List.range (k + 1)).all fun p => decide (p = 0) || decide (wC w s p = tv p)) = (((List.range k).all fun p => decide (p = 0) || decide (wC w s p = tv p)) && decide (wC w s k = tv k)) := by
          rw [List.range_succ, List.all_append, List.all_cons, List.all_nil, Bool.and_true, decide_eq_false (show ¬ k = 0 by omega), Bool.false_or]
        refine (b175_82 hR).mpr (ifn (by rw [hT1.1]; exact nI_ge (by omega) (by omega)) ((b175_91 hR).mpr ?_))
        cases hb : ((List.range k).all fun p => decide (p = 0) || decide (wC w s p = tv p)) with
        | false =>
          exact ifp rfl ((b175_110 hR).mpr (nx 0 (by rw [sp, hb]; rfl) _))
        | true =>
          refine ifn (by decide) ((b175_95 hR).mpr (r_alike (s := s) (s2 := 2) (p := k) hR (by omega) (by omega) (hC1 k hk1 hkl) (hC k hk1 hkl) (hlen k hkl) (fun l hl => (htl k hkl l hl).1) ((b175_103 hR).mpr ?_)))
          by_cases c : wC w s k = tv k
          · rw [decide_eq_true c]
            exact ifn (by decide) ((b175_106 hR).mpr (nx 1 (by rw [sp, hb, decide_eq_true c]; rfl) _))
          · rw [decide_eq_false c]
            exact ifp rfl ((b175_110 hR).mpr (nx 0 (by rw [sp, hb, decide_eq_false c]; rfl) _))
    exact loop (tN (wT w) - 1) 1 (by omega) (Nat.le_refl 1)
  -- sources and all are copied
  have copy : ∀ e k sc1 ar1 u3 u4, k + e = tN (wT w) → 1 ≤ k → (∀ p, 1 ≤ p → p < k → RCc ar1 25 26 (60 * 2 + p) (wC w s p)) → Ag sc ar sc1 ar1 cln8 → RTwo ar ar1 (tN (wT w)) → wp 175 14 [some (.ref o), some (.int (nI s)), some (.int (nI k)), u3, u4] [] (rOv σ o sc1 ar1) P := by
    intro e
    induction e with
    | zero =>
      intro k sc1 ar1 u3 u4 hk hk1 hc hg h2
      have hk : k = tN (wT w) := by omega
      subst hk
      refine (b175_14 hR).mpr (ifp (by rw [hg.1 0 (by decide), q1.1]; exact nI_le (by omega) (by omega)) ((b175_35 hR).mpr ?_))
      refine r_need hR (RTree_ag q1 hg (by decide)) (RAct_ag q4 hg (by decide)) hI.1 hI.2.1 (po := none) (fun p hp => by cases hp) (fun ar2 hN g2 => (b175_40 hR).mpr ?_)
      have hg2 : Ag sc ar sc1 ar2 cln8 := hg.tr (g2.mono (by decide))
      refine r_next hR (RTree_ag q1 hg2 (by decide)) (RAct_ag q4 hg2 (by decide)) hI.1 (hI.2.1.bnd hI.1) hN ((b175_44 hR).mpr ?_)
      exact r_tri hR h hI 40 (wC w s) _ sc1 ar2 _ _ _ (RConS_ag (s := 2) (sc := sc1) (sc' := sc1) hc g2 (by decide)) hok hg2 (h2.tr (RTwo_ag g2 (by decide))) hN (Nat.le_trans (cnt_le _) h40) fin
    | succ e ih =>
      intro k sc1 ar1 u3 u4 hk hk1 hc hg h2
      have hkl : k < tN (wT w) := by omega
      refine (b175_14 hR).mpr (ifn (by rw [hg.1 0 (by decide), q1.1]; exact nI_ge (by omega) (by omega)) ((b175_22 hR).mpr ?_))
      refine r_copyFile (s := s) (s2 := 2) (p := k) hR (by omega) (by omega) (by omega) (h2 s (wC w s) hs hlen hCs k hk1 hkl) (hlen k hkl) (fun ar2 n2 f2 g2 => (b175_29 hR).mpr ?_)
      rw [nI_1]
      refine ih (k + 1) sc1 ar2 _ _ (by omega) (by omega) (fun p hp1 hp2 => ?_) (hg.tr (g2.mono (by decide))) (h2.tr (fun s' cv' hs' hl' hc' => RConS_fr hc' hl' f2 (fun p _ hp => by omega)))
      by_cases c : p = k
      · rw [c]; exact n2
      · exact RCc_fr (hc p hp1 (by omega)) (hlen p (by omega)) f2 (by omega)
  exact copy (tN (wT w) - 1) 1 sc ar none none (by have := hI.1.1; omega) (Nat.le_refl 1) (fun p h1 h2 => absurd h2 (by omega)) Ag.rf RTwo.rf
theorem r_done (hR : RShape σ o) (h : RefR sc ar w) (hI : WInv w) (hP : P (some (.int (sDone w x y))) (rOv σ o sc ar)) : wpM 174 [.ref o, .int x, .int y] (rOv σ o sc ar) P := by
  obtain ⟨q7, ⟨q8, q9, q10⟩, q11⟩ := h.2.2.2.2.2.2
  have h40 : (wL w).1.length ≤ 40 := hI.2.2.2.2.2.2
  unfold sDone at hP
  refine (b174 hR).mpr ?_
  rw [q7]
  rcases ixN_cases x (n := (wL w).1.length) (by omega) with ⟨e, hx⟩ | ⟨i, hi, rfl, e⟩
  · rw [e] at hP
    exact rin_no hR (lt_pred (by omega) hx) ((b174_11 hR).mpr (ifp rfl ((b174_23 hR).mpr hP)))
  · rw [e] at hP
    dsimp only at hP
    have hg := q11 i hi
    rw [List.getD_eq_getElem?_getD, hg] at hP
    dsimp only [Option.getD_some] at hP
    refine rin_n_yes hR (m := (wL w).1.length - 1) (by omega) (by omega) (pk_sub (b := 1) (by omega)) ((b174_11 hR).mpr (ifn (by decide) ((b174_14 hR).mpr ?_)))
    have bad : ¬ (0 ≤ y ∧ y ≤ 3) → wp 174 23 [some (.ref o), some (.int (nI i)), some (.int y)] [] (rOv σ o sc ar) P := by
      intro hb
      rw [if_neg (fun r => hb (by rw [r]; decide)), if_neg (fun r => hb (by rw [r]; decide)), if_neg (fun r => hb (by rw [r]; decide)), if_neg (fun r => hb (by rw [r]; decide))] at hP
      exact (b174_23 hR).mpr hP
    by_cases c : 0 ≤ y ∧ y ≤ 3
    rotate_left
    · refine rin_no hR ?_ ((b174_20 hR).mpr (ifn (fun r => r rfl) (bad c)))
      by_cases c0 : y < 0
      · exact Or.inl c0
      · exact Or.inr (Int32.not_le.mp (fun r => c ⟨Int32.not_lt.mp c0, r⟩))
    refine rin_yes hR c.1 c.2 ((b174_20 hR).mpr (ifp (by decide) ((b174_26 hR).mpr ?_)))
    by_cases c0 : y = 0
    · rw [if_pos c0] at hP
      refine ifn (fun r => r c0) ((b174_30 hR).mpr ⟨nI_in (N := 40) (by omega) (by omega), (b174_73 hR).mpr ?_⟩)
      rw [nI_clamp (by omega)]; exact hP
    rw [if_neg c0] at hP
    refine ifp c0 ((b174_39 hR).mpr ?_)
    by_cases c1 : y = 1
    · rw [if_pos c1] at hP
      refine ifn (fun r => r c1) ((b174_44 hR).mpr ⟨nI_in (N := 40) (by omega) (by omega), (b174_73 hR).mpr ?_⟩)
      rw [nI_clamp (by omega)]; exact hP
    rw [if_neg c1] at hP
    refine ifp c1 ((b174_53 hR).mpr ?_)
    by_cases c2 : y = 2
    · rw [if_pos c2] at hP
      refine ifn (fun r => r c2) ((b174_58 hR).mpr ⟨nI_in (N := 40) (by omega) (by omega), (b174_73 hR).mpr ?_⟩)
      rw [nI_clamp (by omega)]; exact hP
    rw [if_neg c2] at hP
    refine ifp c2 ((b174_67 hR).mpr ⟨nI_in (N := 40) (by omega) (by omega), (b174_73 hR).mpr ?_⟩)
    have c3 : y = 3 := by
      rcases pk_ix y (n := 4) (by omega) with g | g | ⟨j, hj, rfl⟩
      · exact absurd c.1 (Int32.not_le.mpr g)
      · exact absurd (Int32.le_trans g c.2) (by decide)
      · have : j = 0 ∨ j = 1 ∨ j = 2 ∨ j = 3 := by omega
        rcases this with r | r | r | r <;> subst r
        · exact absurd rfl c0
        · exact absurd rfl c1
        · exact absurd rfl c2
        · rfl
    rw [if_pos c3] at hP
    rw [nI_clamp (by omega)]; exact hP
theorem r_capacity (hR : RShape σ o) (h : RefR sc ar w) (hI : WInv w) (hP : ∀ sc' ar', RefR sc' ar' (sCapacity w x).1 → P (some (.int (sCapacity w x).2)) (rOv σ o sc' ar')) : wpM 176 [.ref o, .int x] (rOv σ o sc ar) P := by
  have hK := hI.2.2.2.2.2.1
  unfold sCapacity at hP
  refine (b176 hR).mpr ?_
  by_cases c : x < 0 ∨ 4000 < x
  · rw [if_pos c] at hP
    exact rin_no hR c ((b176_8 hR).mpr (ifn (fun r => r rfl) ((b176_11 hR).mpr (hP _ _ h))))
  · rw [if_neg c] at hP
    have c0 : 0 ≤ x := Int32.not_lt.mp (fun r => c (Or.inl r))
    have c1 : x ≤ 4000 := Int32.not_lt.mp (fun r => c (Or.inr r))
    refine rin_yes hR c0 c1 ((b176_8 hR).mpr (ifp (by decide) ((b176_14 hR).mpr ?_)))
    obtain ⟨m, hm, rfl⟩ : ∃ m, m ≤ 4000 ∧ x = nI m := by
      rcases pk_ix x (n := 4001) (by omega) with g | g | ⟨j, hj, rfl⟩
      · exact absurd c0 (Int32.not_le.mpr g)
      · exact absurd (Int32.le_trans g c1) (by decide)
      · exact ⟨j, by omega, rfl⟩
    rw [nI_clamp (by omega)] at hP
    obtain ⟨q1, q2, q3, q4, q5, ⟨pe, z1, z2, z3, z4, z5, z6, z7, z8⟩, q7⟩ := h
    refine r_trim (cap := m) (es := (wK w).2.1) (ev := (wK w).2.2) hR ⟨pe, z1, z2, z3, upS_same, by rw [upS_ne (by omega)]; exact z5, by rw [upS_ne (by omega)]; exact z6, z7, z8⟩ (Nat.le_trans hK.2.1 (by omega)) hK.2.2.2 hm (fun sc1 ar1 c1 g1 => (b176_24 hR).mpr (hP _ _ ?_))
    have g : Ag sc ar sc1 ar1 [20, 21, 22, 23, 39] := (Ag_sc (by decide)).tr (g1.mono (by decide))
    exact ⟨RTree_ag q1 g (by decide), ⟨RConS_ag q2.1 g (by decide), RConS_ag q2.2 g (by decide)⟩, RTape_ag q3 g (by decide), RAct_ag q4 g (by decide), RWas_ag q5 g (by decide), c1, RLog_ag q7 g (by decide)⟩
theorem r_entry (hR : RShape σ o) (h : RefR sc ar w) (hI : WInv w) (hP : P (some (.long (sEntry w x y))) (rOv σ o sc ar)) : wpM 177 [.ref o, .int x, .int y] (rOv σ o sc ar) P := by
  have hK := hI.2.2.2.2.2.1
  obtain ⟨q1, q2, q3, q4, q5, ⟨pe, z1, z2, z3, z4, z5, z6, z7, z8⟩, q7⟩ := h
  have hpl : pe.length = (wK w).2.1.length := by rw [z1, List.length_map]
  have hl := hK.2.1
  unfold sEntry at hP
  refine (b177 hR).mpr ?_
  rw [z5, hpl]
  rcases ixN_cases x (n := (wK w).2.1.length) (by omega) with ⟨e, hx⟩ | ⟨i, hi, rfl, e⟩
  · rw [e] at hP
    exact rin_no hR (lt_pred (by omega) hx) ((b177_11 hR).mpr (ifn (fun r => r rfl) ((b177_14 hR).mpr hP)))
  · rw [e] at hP
    dsimp only at hP
    have hip : i < pe.length := by omega
    have hm := z3 _ (List.getElem_mem hip)
    have e2 : (wK w).2.1[i] = pe[i].2 := by simp only [z1, List.getElem_map]
    rw [getD_E hi, e2] at hP
    have hlen := (hK.2.2.2 _ (List.getElem_mem hi)).1
    rw [e2] at hlen
    obtain ⟨m1, ⟨k1, k2⟩, ⟨b1, b2, b3, b4⟩, _⟩ := hm
    refine rin_n_yes hR (m := (wK w).2.1.length - 1) (by omega) (by omega) (pk_sub (b := 1) (by omega)) ((b177_11 hR).mpr (ifp (by decide) ((b177_18 hR).mpr ?_)))
    rw [nI_clamp (by omega), RRow_map z7 hip]
    refine ⟨nI_in (N := 101) (by omega) (by omega), ?_⟩
    have zi : zIn (nI pe[i].1) 101 := nI_in (by omega) (by omega)
    by_cases c0 : y = 0
    · rw [if_pos c0] at hP ⊢
      refine (b177_60 hR).mpr ?_
      rw [nI_clamp (by omega), k1, show (425 : Int32) * nI pe[i].1 = nI (425 * pe[i].1) from nI_mul 425 _]
      exact ⟨zi, r_signOf hR (by decide) (by decide) k2 (show _ ≤ 42925 by omega) (by decide) ((b177_78 hR).mpr hP)⟩
    rw [if_neg c0] at hP ⊢
    by_cases c1 : y = 1
    · rw [if_pos c1] at hP ⊢
      refine (b177_79 hR).mpr ?_
      rw [nI_clamp (by omega), b1]; exact ⟨zi, hP⟩
    rw [if_neg c1] at hP ⊢
    by_cases c2 : y = 2
    · rw [if_pos c2] at hP ⊢
      refine (b177_87 hR).mpr ?_
      rw [nI_clamp (by omega), b2]; exact ⟨zi, hP⟩
    rw [if_neg c2] at hP ⊢
    by_cases c3 : y = 3
    · rw [if_pos c3] at hP ⊢
      refine (b177_95 hR).mpr ?_
      rw [nI_clamp (by omega), b3]; exact ⟨zi, hP⟩
    rw [if_neg c3] at hP ⊢
    by_cases c4 : y = 4
    · rw [if_pos c4] at hP ⊢
      refine (b177_103 hR).mpr ?_
      rw [nI_clamp (by omega), b4]; exact ⟨zi, hP⟩
    rw [if_neg c4] at hP ⊢
    exact (b177_111 hR).mpr hP
theorem r_forgetK (hR : RShape σ o) {K : CacT} (h : RCac sc ar K) (hl : K.2.1.length ≤ 100) (hP : ∀ sc' ar', (sc' 21 = 0 ∧ ∀ e, e < 101 → ar' 43 e = 0) → Ag sc ar sc' ar' [21, 23] → P (some (.int (nI K.2.1.length))) (rOv σ o sc' ar')) : wpM 178 [.ref o] (rOv σ o sc ar) P := by
  obtain ⟨pe, z1, z2, z3, z4, z5, z6, z7, z8⟩ := h
  have hpl : pe.length = K.2.1.length := by rw [z1, List.length_map]
  refine (b178 hR).mpr ?_
  have loop : ∀ e k ar1, k + e = pe.length → (∀ e, e < 101 → ar1 43 e = b2I (decide (e ∈ (pe.drop k).map (·.1)))) → Ag sc ar sc ar1 [21, 23] → wp 178 7 [some (.ref o), some (.int (sc 21)), some (.int (nI k))] [] (rOv σ o sc ar1) P := by
    intro e
    induction e with
    | zero =>
      intro k ar1 hk ht hg
      refine (b178_7 hR).mpr (ifp (by rw [z5]; exact nI_le (by omega) (by omega)) ((b178_33 hR).mpr ?_))
      rw [z5, hpl]
      refine hP _ _ ⟨upS_same, fun e he => ?_⟩ (hg.tr (Ag_sc (by decide)))
      rw [ht e he, List.drop_eq_nil_of_le (by omega)]; rfl
    | succ e ih =>
      intro k ar1 hk ht hg
      have hkl : k < pe.length := by omega
      have hm1 := (z3 _ (List.getElem_mem hkl)).1
      refine (b178_7 hR).mpr (ifn (by rw [z5]; exact nI_ge (by omega) (by omega)) ((b178_15 hR).mpr ?_))
      rw [nI_clamp (n := k) (by omega), hg.2 42 _ (by decide), RRow_map z7 hkl, nI_clamp (by omega), nI_1]
      refine ⟨nI_in (N := 101) (by omega) (by omega), ⟨nI_in (N := 101) (by omega) (by omega), Or.inl rfl⟩, ih (k + 1) _ (by omega) (fun x hx => ?_) (hg.tr (Ag_ar (by decide)))⟩
      have hd := List.drop_eq_getElem_cons hkl
      by_cases c : x = pe[k].1
      · rw [c, upA_same, decide_eq_false]; rfl
        intro hmem
        obtain ⟨p, hp, hp2⟩ := List.mem_map.mp hmem
        obtain ⟨i, hi, hi2⟩ := List.mem_iff_getElem.mp hp
        rw [List.getElem_drop] at hi2
        rw [List.length_drop] at hi
        have := nod_map z2 (show k + 1 + i < pe.length by omega) hkl (by rw [hi2, hp2])
        omega
      · rw [upA_ne (fun r => c r.2), ht x hx, hd]
        congr 1
        refine sdec ?_
        rw [List.map_cons, List.mem_cons]
        exact ⟨fun r => r.resolve_left c, Or.inr⟩
  have := loop _ 0 ar (Nat.zero_add _) z8 Ag.rf
  exact this
theorem r_forget (hR : RShape σ o) (h : RefR sc ar w) (hI : WInv w) (hP : ∀ sc' ar', RefR sc' ar' (sForget w).1 → P (some (.int (sForget w).2)) (rOv σ o sc' ar')) : wpM 178 [.ref o] (rOv σ o sc ar) P := by
  have hK := hI.2.2.2.2.2.1
  obtain ⟨q1, q2, q3, q4, q5, q6, q7⟩ := h
  refine r_forgetK hR q6 hK.2.1 (fun sc1 ar1 h1 g => hP _ _ ?_)
  obtain ⟨pe, z1, z2, z3, z4, z5, z6, z7, z8⟩ := q6
  refine ⟨RTree_ag q1 g (by decide), ⟨RConS_ag q2.1 g (by decide), RConS_ag q2.2 g (by decide)⟩, RTape_ag q3 g (by decide), RAct_ag q4 g (by decide), RWas_ag q5 g (by decide), ⟨[], rfl, List.nodup_nil, fun p hp => absurd hp List.not_mem_nil, ?_, h1.1, ?_, RRow_nil, fun e he => ?_⟩, RLog_ag q7 g (by decide)⟩
  · rw [g.1 20 (by decide)]; exact z4
  · rw [g.1 39 (by decide)]; exact z6
  · rw [h1.2 e he]; rfl
theorem r_count (hR : RShape σ o) (h : RefR sc ar w) (hI : WInv w) (hP : P (some (.int (sCount w x))) (rOv σ o sc ar)) : wpM 179 [.ref o, .int x] (rOv σ o sc ar) P := by
  have hK := hI.2.2.2.2.2.1
  obtain ⟨q1, q2, q3, q4, q5, q6, ⟨q7, ⟨q8, q9, q10⟩, q11⟩⟩ := h
  obtain ⟨pe, z1, z2, z3, z4, z5, z6, z7, z8⟩ := id q6
  have hpl : pe.length = (wK w).2.1.length := by rw [z1, List.length_map]
  unfold sCount at hP
  refine (b179 hR).mpr ?_
  by_cases c0 : x = 0
  · rw [if_pos c0] at hP ⊢
    refine (b179_60 hR).mpr ?_
    rw [q1.1]; exact hP
  rw [if_neg c0] at hP ⊢
  by_cases c1 : x = 1
  · rw [if_pos c1] at hP ⊢
    refine (b179_65 hR).mpr ?_
    rw [q4.1]; exact hP
  rw [if_neg c1] at hP ⊢
  by_cases c2 : x = 2
  · rw [if_pos c2] at hP ⊢
    refine (b179_70 hR).mpr ?_
    rw [q3.1]; exact hP
  rw [if_neg c2] at hP ⊢
  by_cases c3 : x = 3
  · rw [if_pos c3] at hP ⊢
    refine (b179_75 hR).mpr ?_
    rw [z5, hpl]; exact hP
  rw [if_neg c3] at hP ⊢
  by_cases c4 : x = 4
  · rw [if_pos c4] at hP ⊢
    exact (b179_80 hR).mpr (r_sizes hR q6 (Nat.le_trans hK.2.1 (by omega)) ((b179_84 hR).mpr hP))
  rw [if_neg c4] at hP ⊢
  by_cases c5 : x = 5
  · rw [if_pos c5] at hP ⊢
    refine (b179_85 hR).mpr ?_
    rw [z4]; exact hP
  rw [if_neg c5] at hP ⊢
  by_cases c6 : x = 6
  · rw [if_pos c6] at hP ⊢
    refine (b179_90 hR).mpr ?_
    rw [q7]; exact hP
  rw [if_neg c6] at hP ⊢
  by_cases c7 : x = 7
  · rw [if_pos c7] at hP ⊢
    refine (b179_95 hR).mpr ?_
    rw [q8]; exact hP
  rw [if_neg c7] at hP ⊢
  by_cases c8 : x = 8
  · rw [if_pos c8] at hP ⊢
    refine (b179_100 hR).mpr ?_
    rw [q9]; exact hP
  rw [if_neg c8] at hP ⊢
  by_cases c9 : x = 9
  · rw [if_pos c9] at hP ⊢
    refine (b179_105 hR).mpr ?_
    rw [z6]; exact hP
  rw [if_neg c9] at hP ⊢
  by_cases c10 : x = 10
  · rw [if_pos c10] at hP ⊢
    refine (b179_110 hR).mpr ?_
    rw [q10]; exact hP
  rw [if_neg c10] at hP ⊢
  exact (b179_115 hR).mpr hP
/-- a first state -/
theorem RefR_0 (h0 : sc 0 = 1 ∧ sc 8 = 0 ∧ sc 9 = 0 ∧ sc 20 = 1000 ∧ sc 21 = 0 ∧ sc 32 = 0 ∧ sc 37 = 0 ∧ sc 38 = 0 ∧ sc 39 = 0 ∧ sc 40 = 0) (ht : ar 21 0 = -1 ∧ ar 22 0 = 0 ∧ ar 23 0 = 1 ∧ ar 24 0 = -1) (hk : ∀ e, e < 101 → ar 43 e = 0) : RefR sc ar w0 := by
  obtain ⟨a0, a8, a9, a20, a21, a32, a37, a38, a39, a40⟩ := h0
  obtain ⟨t1, t2, t3, t4⟩ := ht
  refine ⟨⟨a0, fun p hp => ?_⟩, ⟨fun p h1 h2 => ?_, fun p h1 h2 => ?_⟩, ⟨a8, RRow_nil⟩, ⟨a9, fun i hi => absurd hi (Nat.not_lt_zero i)⟩, fun s i _ hi => absurd hi (Nat.not_lt_zero i), ⟨[], rfl, List.nodup_nil, fun p hp => absurd hp List.not_mem_nil, a20, a21, a39, RRow_nil, fun e he => ?_⟩, ⟨a32, ⟨a37, a38, a40⟩, fun i hi => absurd hi (Nat.not_lt_zero i)⟩⟩
  · have hp : p < 1 := hp
    have : p = 0 := by omega
    subst this
    exact ⟨t1, t2, t3, t4⟩
  · have h2 : p < 1 := h2
    omega
  · have h2 : p < 1 := h2
    omega
  · rw [hk e he]; rfl
theorem r_clear (hR : RShape σ o) (h : RefR sc ar w) (hI : WInv w) (hP : ∀ sc' ar', RefR sc' ar' sClear.1 → P (some (.int sClear.2)) (rOv σ o sc' ar')) : wpM 180 [.ref o] (rOv σ o sc ar) P := by
  have hK := hI.2.2.2.2.2.1
  obtain ⟨q1, q2, q3, q4, q5, ⟨pe, z1, z2, z3, z4, z5, z6, z7, z8⟩, q7⟩ := h
  have hT := hI.1
  have t0 := q1.2 0 (by have := hT.1; omega)
  rw [hT.2.2.1.1, hT.2.2.1.2.1, hT.2.2.1.2.2.1, hT.2.2.1.2.2.2] at t0
  refine (b180 hR).mpr ?_
  refine r_forgetK (K := (1000, (wK w).2.1, (wK w).2.2)) hR ⟨pe, z1, z2, z3, upS_same, ?_, ?_, z7, z8⟩ hK.2.1 (fun sc1 ar1 h1 g => (b180_26 hR).mpr (hP _ _ (RefR_0 ⟨?_, ?_, ?_, ?_, ?_, ?_, ?_, ?_, ?_, upS_same⟩ ⟨?_, ?_, ?_, ?_⟩ h1.2)))
  · rw [upS_ne (by omega), upS_ne (by omega), upS_ne (by omega), upS_ne (by omega)]; exact z5
  · rw [upS_ne (by omega), upS_ne (by omega), upS_ne (by omega), upS_ne (by omega)]; exact z6
  · rw [upS_ne (by omega), upS_ne (by omega), upS_ne (by omega), upS_ne (by omega), upS_ne (by omega), g.1 0 (by decide), upS_ne (by omega), upS_ne (by omega), upS_ne (by omega), upS_same]
  · rw [upS_ne (by omega), upS_ne (by omega), upS_ne (by omega), upS_ne (by omega), upS_ne (by omega), g.1 8 (by decide), upS_ne (by omega), upS_ne (by omega), upS_same]
  · rw [upS_ne (by omega), upS_ne (by omega), upS_ne (by omega), upS_ne (by omega), upS_ne (by omega), g.1 9 (by decide), upS_ne (by omega), upS_same]
  · rw [upS_ne (by omega), upS_ne (by omega), upS_ne (by omega), upS_ne (by omega), upS_ne (by omega), g.1 20 (by decide), upS_same]
  · rw [upS_ne (by omega), upS_ne (by omega), upS_ne (by omega), upS_ne (by omega), upS_ne (by omega)]; exact h1.1
  · rw [upS_ne (by omega), upS_ne (by omega), upS_ne (by omega), upS_ne (by omega), upS_same]
  · rw [upS_ne (by omega), upS_ne (by omega), upS_ne (by omega), upS_same]
  · rw [upS_ne (by omega), upS_ne (by omega), upS_same]
  · rw [upS_ne (by omega), upS_same]
  · rw [g.2 21 _ (by decide)]; exact t0.1
  · rw [g.2 22 _ (by decide)]; exact t0.2.1
  · rw [g.2 23 _ (by decide)]; exact t0.2.2.1
  · rw [g.2 24 _ (by decide)]; exact t0.2.2.2
end RRE
