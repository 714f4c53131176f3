/-! THE REFERENCE: keys; what has changed -/
section RO1
variable {σ : zSt} {o : Nat} {sc sc' : ScT} {ar ar' : ArT} {P : Option Value → zSt → Prop} {x y v : Int32} {p s i j q m n a b k t off : Nat} {w : WT} {T : TreT} {A : ActT} {l l2 : List Int32} {cv : Nat → Con} {S : List Nat} {u now : KeyT}
theorem partOk_len (h : partOk l) : l.length ≤ 65 := by
  rcases h with ⟨w, h1, rfl⟩ | ⟨nm, h1, rfl⟩
  · exact contL_len h1
  · unfold listL; simp only [List.length_cons]; omega
theorem heads_parts (h : keyOk now) (h' : keyOk u) (e : now.1 = u.1) : now.2.length = u.2.length := by
  obtain ⟨⟨i1, o1, s1, a1, a2, a3, a4, a5⟩, _⟩ := h
  obtain ⟨⟨i2, o2, s2, b1, b2, b3, b4, b5⟩, _⟩ := h'
  have e1 : headL i1 o1 s1 = headL i2 o2 s2 := by rw [← a1, ← b1, e]
  have l1 := headL_len i1 o1 s1
  have l2 := headL_len i2 o2 s2
  rw [e1] at l1
  have es : s1.length = s2.length := by omega
  have g1 := headL_last i1 o1 s1
  have g2 := headL_last i2 o2 s2
  rw [e1, es, g2] at g1
  have := (nI_eq (by omega) (by omega)).mp (Option.some.inj g1)
  omega
theorem stK_succ (h : i < u.2.length) : stK u (i + 1) = stK u i + u.2[i].length := by
  unfold stK
  rw [List.take_add_one, List.getElem?_eq_getElem h, List.map_append, List.sum_append]
  simp
  omega
theorem stK_0 : stK u 0 = u.1.length := by unfold stK; simp
theorem stK_len : stK u i = (u.1 ++ (u.2.take i).flatten).length := by
  unfold stK; rw [List.length_append, List.length_flatten]
theorem flat_split (h : i < u.2.length) : flatK u = (u.1 ++ (u.2.take i).flatten) ++ (u.2[i] ++ (u.2.drop (i + 1)).flatten) := by
  unfold flatK
  conv => lhs; rw [← List.take_append_drop i u.2, List.flatten_append, List.drop_eq_getElem_cons h, List.flatten_cons]
  simp
theorem stK_le (h : i ≤ u.2.length) : stK u i ≤ (flatK u).length := by
  rw [stK_len]
  have : flatK u = (u.1 ++ (u.2.take i).flatten) ++ (u.2.drop i).flatten := by
    unfold flatK
    conv => lhs; rw [← List.take_append_drop i u.2, List.flatten_append]
    simp
  rw [this]
  simp only [List.length_append]
  omega
theorem stK_mono (h : i ≤ u.2.length) : u.1.length ≤ stK u i := by unfold stK; omega
theorem RRow_part (h : RRow ar t off (flatK u)) (hi : i < u.2.length) : RRow ar t (off + stK u i) u.2[i] := by
  rw [flat_split hi] at h
  have g := (RRow_app1 h).2
  rw [← stK_len] at g
  exact (RRow_app1 g).1
theorem RRow_head (h : RRow ar t off (flatK u)) : RRow ar t off u.1 := (RRow_app1 h).1
theorem keyW_parts : (keyW T cv A a).2.length = (aIns A a).length := by simp [keyW]
theorem r_layKey (hR : RShape σ o) (hT : RTree sc ar T) (hTI : TInv T) (hA : RAct sc ar A) (hAI : AInv T A) (hs : s < 3) (hC : RConS ar s (tN T) cv) (hcv : ∀ p, p < tN T → ∀ l, cv p = some l → l.length ≤ 64) (ha : a < aN A) (hP : ∀ sc' ar', RNow sc' ar' (keyW T cv A a) → Ag sc ar sc' ar' [42, 43, 44, 45, 46] → P none (rOv σ o sc' ar')) : wpM 143 [.ref o, .int (nI s), .int (nI a)] (rOv σ o sc ar) P := by
  have h40 := hAI.1
  have h60 := hTI.2.1
  obtain ⟨b1, b2, b3, b4, b5, b6, b7, b8⟩ := hAI.2.1 a ha
  have hko := keyW_ok hTI hAI ha hcv
  have hkl := keyOk_len hko
  obtain ⟨⟨a1, a2⟩, _⟩ := hA.2 a ha
  refine (b143 hR).mpr ?_
  have g0 : Ag sc ar (upS sc 43 0) ar [42, 43, 44, 45, 46] := Ag_sc (by decide)
  refine r_mixHead hR ⟨upS_same, RRow_nil⟩ (RAct_ag hA g0 (by decide)) h40 ha b7 (fun sc1 ar1 n1 g1 => (b143_10 hR).mpr ⟨nI_in (c := 0) (N := 7) (by omega) (by omega), ?_⟩)
  have g01 := g0.tr (g1.mono (by decide))
  rw [show Int32.toNatClampNeg 0 = 0 from rfl]
  have hd : headL (aIns A a) (aOut A a) (stI (aSt A a)) = (keyW T cv A a).1 := rfl
  rw [hd] at n1
  have hps : ∀ i, (h : i < (keyW T cv A a).2.length) → (keyW T cv A a).2[i] = partW T cv ((aIns A a)[i]'(by rw [← keyW_parts (T := T) (cv := cv)]; exact h)) := fun i h => List.getElem_map (partW T cv)
  have key : ∀ e k sc' ar', k + e = (aIns A a).length → NowR sc' ar' ((keyW T cv A a).1 ++ ((keyW T cv A a).2.take k).flatten) → (∀ j, j ≤ k → ar' 64 j = nI (stK (keyW T cv A a) j)) → Ag sc ar sc' ar' [42, 43, 44, 45, 46] → wp 143 22 [some (.ref o), some (.int (nI s)), some (.int (nI a)), some (.int (nI k))] [] (rOv σ o sc' ar') P := by
    intro e
    induction e with
    | zero =>
      intro k sc' ar' hk hn hst hg
      refine (b143_22 hR).mpr ⟨nI_in (N := 40) (by omega) (by omega), ?_⟩
      rw [nI_clamp (by omega), hg.2 31 _ (by decide), a1]
      refine ifp (nI_le (by omega) (by omega)) ((b143_66 hR).mpr (hP _ _ ⟨?_, fun j hj => ?_⟩ hg))
      · rw [List.take_of_length_le (by rw [keyW_parts]; omega)] at hn; exact hn
      · rw [keyW_parts] at hj
        rw [Nat.zero_add]; exact hst j (by omega)
    | succ e ih =>
      intro k sc' ar' hk hn hst hg
      have hkl' : k < (aIns A a).length := by omega
      have hkp : k < (keyW T cv A a).2.length := by rw [keyW_parts]; exact hkl'
      have hin : ar' 30 (6 * a + k) = nI (aIns A a)[k] := by rw [hg.2 30 _ (by decide), RRow_get a2 (by rw [List.length_map]; exact hkl'), List.getElem_map]
      have hpt := b2 _ (List.getElem_mem hkl')
      have hst1 := stK_succ hkp
      have hle := stK_le (u := keyW T cv A a) (i := k + 1) (by omega)
      refine (b143_22 hR).mpr ⟨nI_in (N := 40) (by omega) (by omega), ?_⟩
      rw [nI_clamp (by omega), hg.2 31 _ (by decide), a1]
      refine ifn (nI_ge (by omega) (by omega)) ((b143_32 hR).mpr ?_)
      rw [i6, nI_clamp (n := 6 * a + k) (by omega), hin]
      refine ⟨nI_in (N := 240) (by omega) (by omega), r_mixPart hR hn (RTree_ag hT hg (by decide)) hTI hs (RConS_ag hC hg (by decide)) hcv hpt ?_ (fun sc2 ar2 n2 g2 => (b143_48 hR).mpr ?_)⟩
      · rw [← stK_len]; rw [hps k hkp] at hst1; omega
      · have e43 : sc2 43 = nI (stK (keyW T cv A a) (k + 1)) := by
          rw [n2.1, List.length_append, ← stK_len, hst1, hps k hkp]
        rw [nI_1, nI_clamp (by omega), e43]
        refine ⟨nI_in (N := 7) (by omega) (by omega), ih (k + 1) _ _ (by omega) ?_ (fun j hj => ?_) ((hg.tr (g2.mono (by decide))).tr (Ag_ar (by decide)))⟩
        · have : (keyW T cv A a).1 ++ ((keyW T cv A a).2.take (k + 1)).flatten = ((keyW T cv A a).1 ++ ((keyW T cv A a).2.take k).flatten) ++ partW T cv (aIns A a)[k] := by
            rw [List.take_add_one, List.getElem?_eq_getElem hkp, List.flatten_append, ← List.append_assoc, hps k hkp]
            simp
          rw [this]
          exact NowR_ag (S := [44]) n2 (Ag_ar (by decide)) (by decide) (by decide)
        · by_cases c : j = k + 1
          · rw [c, upA_same]
          · rw [upA_ne (fun r => c r.2), g2.2 64 _ (by decide)]; exact hst j (by omega)
  refine key _ 0 _ _ (Nat.zero_add _) ?_ (fun j hj => ?_) (g01.tr (Ag_ar (by decide)))
  · have : (keyW T cv A a).1 ++ ((keyW T cv A a).2.take 0).flatten = (keyW T cv A a).1 := by simp
    rw [this]
    exact NowR_ag (S := [44]) n1 (Ag_ar (by decide)) (by decide) (by decide)
  · have : j = 0 := by omega
    subst this
    rw [upA_same, n1.1, stK_0]
theorem r_signOf (hR : RShape σ o) {t0 : Nat} (ht0 : rOk t0 = true) (hs0 : siteTy t0 = .int) (h : RRow ar t0 off l) (hlen : off + l.length ≤ rlen t0) (h31 : rlen t0 < 2 ^ 31) (hP : P (some (.long (signL l))) (rOv σ o sc ar)) : wpM 144 [.ref (rad o t0), .int (nI off), .int (nI l.length)] (rOv σ o sc ar) P := by
  refine (b144 hR ht0 hs0).mpr ?_
  have key : ∀ e k, k + e = l.length → wp 144 7 [some (.ref (rad o t0)), some (.int (nI off)), some (.int (nI l.length)), some (.long (signL (l.take k))), none, some (.int (nI (off + k)))] [] (rOv σ o sc ar) P := by
    intro e
    induction e with
    | zero =>
      intro k hk
      refine (b144_7 hR ht0 hs0).mpr (ifp ?_ ((b144_33 hR ht0 hs0).mpr ?_))
      · rw [nI_add]; exact nI_le (by omega) (by omega)
      · rw [List.take_of_length_le (by omega)]; exact hP
    | succ e ih =>
      intro k hk
      have hkl : k < l.length := by omega
      refine (b144_7 hR ht0 hs0).mpr (ifn ?_ ((b144_15 hR ht0 hs0).mpr ⟨nI_in (by omega) h31, ?_⟩))
      · rw [nI_add]; exact nI_ge (by omega) (by omega)
      · rw [nI_clamp (by omega), RRow_get h hkl, nI_1]
        have st := ih (k + 1) (by omega)
        rw [List.take_add_one, List.getElem?_eq_getElem hkl] at st
        rw [show (some l[k]).toList = [l[k]] from rfl, signL_snoc] at st
        exact st
  exact key _ 0 (Nat.zero_add _)
theorem r_key (hR : RShape σ o) (h : RefR sc ar w) (hI : WInv w) (hP : ∀ sc' ar', RefR sc' ar' w → P (some (.long (sKey w x y))) (rOv σ o sc' ar')) : wpM 145 [.ref o, .int x, .int y] (rOv σ o sc ar) P := by
  obtain ⟨q1, q2, q3, q4, q5, q6, q7⟩ := id h
  have h40 := hI.2.1.1
  unfold sKey at hP
  refine (b145 hR).mpr ?_
  rcases ixN_cases x (n := 2) (by omega) with ⟨e, hx⟩ | ⟨s, hs, rfl, e⟩
  · rw [e] at hP
    exact rspace_no hR hx ((b145_6 hR).mpr (ifp rfl ((b145_17 hR).mpr (hP sc ar h))))
  rw [e] at hP
  refine rspace_yes hR hs ((b145_6 hR).mpr (ifn (by decide) ((b145_9 hR).mpr ?_)))
  rcases ixN_cases y (n := aN (wA w)) (by omega) with ⟨e, hx⟩ | ⟨a, ha, rfl, e⟩
  · rw [e] at hP
    exact risact_no hR q4 h40 hx ((b145_14 hR).mpr (ifn (fun r => r rfl) ((b145_17 hR).mpr (hP sc ar h))))
  rw [e] at hP
  dsimp only at hP
  have hko := keyOk_len (keyW_ok hI.1 hI.2.1 ha (hI.2.2.1.len hs))
  refine risact_yes hR q4 h40 ha ((b145_14 hR).mpr (ifp (by decide) ((b145_19 hR).mpr (r_layKey hR q1 hI.1 q4 hI.2.1 (by omega) (RCon_at q2 hs) (hI.2.2.1.len hs) ha (fun sc1 ar1 n1 g1 => (b145_25 hR).mpr ?_)))))
  rw [n1.1.1]
  exact r_signOf hR (off := 0) (by decide) rfl n1.1.2 (by rw [Nat.zero_add]; exact hko) (by rw [rlen_62]; omega) ((b145_37 hR).mpr (hP _ _ (RefR_ag h g1 (by decide))))
theorem nI_subm {f m : Nat} : nI (f + m) - nI f = nI m := by rw [← nI_add, Int32.add_comm, Int32.add_sub_cancel]
/-- whether cells of the key that lies ready are those of another row -/
theorem r_isRow (hR : RShape σ o) {t3 f : Nat} (ht3 : rOk t3 = true) (hs3 : siteTy t3 = .int) {x2 x4 x5 : Int32} (h1 : RRow ar 62 f l) (h2 : RRow ar t3 off l2) (e2 : x2 = nI (f + l.length)) (e4 : x4 = nI off) (e5 : x5 = nI l2.length) (hb1 : f + l.length ≤ 425) (hb2 : off + l2.length ≤ rlen t3) (h31 : rlen t3 < 2 ^ 31) (hP : P (some (.int (b2I (decide (l = l2))))) (rOv σ o sc ar)) : wpM 146 [.ref o, .int (nI f), .int x2, .ref (rad o t3), .int x4, .int x5] (rOv σ o sc ar) P := by
  subst e2 e4 e5
  refine (b146 hR ht3 hs3).mpr ?_
  rw [nI_subm]
  have no : ∀ k, l ≠ l2 → wp 146 18 [some (.ref o), some (.int (nI f)), some (.int (nI (f + l.length))), some (.ref (rad o t3)), some (.int (nI off)), some (.int (nI l2.length)), some (.int 0), some (.int k)] [] (rOv σ o sc ar) P := by
    intro k hne
    rw [show decide (l = l2) = false from decide_eq_false hne] at hP
    have fin := (b146_62 (P := P) (σ := σ) (o := o) (sc := sc) (ar := ar) (x1 := nI f) (x2 := nI (f + l.length)) (x4 := nI off) (x5 := nI l2.length) (x6 := 0) (x7 := k) hR ht3 hs3).mpr ⟨Or.inl rfl, hP⟩
    refine (b146_18 hR ht3 hs3).mpr ?_
    split
    · exact fin
    · exact (b146_25 hR ht3 hs3).mpr (ifp rfl fin)
  by_cases c : l.length = l2.length
  · refine ifn (fun r => r (by rw [c])) ((b146_8 hR ht3 hs3).mpr ((b146_13 hR ht3 hs3).mpr ?_))
    have key : ∀ e k, k + e = l2.length → l.take k = l2.take k → wp 146 18 [some (.ref o), some (.int (nI f)), some (.int (nI (f + l.length))), some (.ref (rad o t3)), some (.int (nI off)), some (.int (nI l2.length)), some (.int 1), some (.int (nI k))] [] (rOv σ o sc ar) P := by
      intro e
      induction e with
      | zero =>
        intro k hk ht
        have : l = l2 := by
          rw [List.take_of_length_le (by omega), List.take_of_length_le (by omega)] at ht
          exact ht
        rw [show decide (l = l2) = true from decide_eq_true this] at hP
        exact (b146_18 hR ht3 hs3).mpr (ifp (nI_le (by omega) (by omega)) ((b146_62 hR ht3 hs3).mpr ⟨Or.inr rfl, hP⟩))
      | succ e ih =>
        intro k hk ht
        refine (b146_18 hR ht3 hs3).mpr (ifn (nI_ge (by omega) (by omega)) ((b146_25 hR ht3 hs3).mpr (ifn (by decide) ((b146_30 hR ht3 hs3).mpr ?_))))
        rw [nI_add, nI_add, nI_clamp (n := f + k) (by omega), nI_clamp (n := off + k) (by omega), RRow_get h1 (by omega), RRow_get h2 (by omega)]
        refine ⟨nI_in (N := 425) (by omega) (by omega), nI_in (by omega) h31, ?_⟩
        by_cases d : l[k] = l2[k]
        · refine ifn (fun r => r d) ((b146_49 hR ht3 hs3).mpr ((b146_54 hR ht3 hs3).mpr ?_))
          rw [nI_1]
          refine ih (k + 1) (by omega) ?_
          rw [List.take_add_one, List.take_add_one, ht, List.getElem?_eq_getElem (by omega), List.getElem?_eq_getElem (by omega), d]
        · refine ifp d ((b146_53 hR ht3 hs3).mpr ((b146_54 hR ht3 hs3).mpr (no _ ?_)))
          intro r
          subst r
          exact d rfl
    exact key _ 0 (Nat.zero_add _) rfl
  · exact ifp (fun r => c ((nI_eq (by omega) (by omega)).mp r)) ((b146_12 hR ht3 hs3).mpr ((b146_13 hR ht3 hs3).mpr (no 0 (fun r => c (by rw [r])))))
theorem cdif_step {ps qs : List (List Int32)} (h1 : k < ps.length) (h2 : k < qs.length) : cdif i (ps.drop k) (qs.drop k) = if ps[k] = qs[k] then cdif (i + 1) (ps.drop (k + 1)) (qs.drop (k + 1)) else nI (10 + i) := by
  rw [List.drop_eq_getElem_cons h1, List.drop_eq_getElem_cons h2]; rfl
theorem r_changedOf (hR : RShape σ o) (hT : RTree sc ar T) (hTI : TInv T) (hA : RAct sc ar A) (hAI : AInv T A) (hs : s < 2) (hC : RConS ar s (tN T) cv) (hcv : ∀ p, p < tN T → ∀ l, cv p = some l → l.length ≤ 64) (ha : a < aN A) {was : Option KeyT} (hW : RWasI ar (40 * s + a) was) (hWk : ∀ u, was = some u → keyOk u) (hP : ∀ sc' ar', Ag sc ar sc' ar' [42, 43, 44, 45, 46] → P (some (.int (chgW (keyW T cv A a) was))) (rOv σ o sc' ar')) : wpM 147 [.ref o, .int (nI s), .int (nI a)] (rOv σ o sc ar) P := by
  have h40 := hAI.1
  have hko := keyW_ok hTI hAI ha hcv
  have hkl := keyOk_len hko
  have h6 := (hAI.2.1 a ha).1
  refine (b147 hR).mpr ?_
  rw [i40, nI_clamp (by omega), hW.1]
  refine ⟨nI_in (N := 80) (by omega) (by omega), ?_⟩
  cases hwas : was with
  | none =>
    rw [hwas] at hP
    exact ifn (fun r => r rfl) ((b147_16 hR).mpr (hP sc ar Ag.rf))
  | some u =>
    rw [hwas] at hP
    have huo := hWk u hwas
    have hul := keyOk_len huo
    obtain ⟨w1, w2⟩ := hW.2 u hwas
    generalize hL : 40 * s + a = L at *
    refine ifp (by show ¬ (1 : Int32) = 0; decide) ((b147_18 hR).mpr (r_layKey hR hT hTI hA hAI (by omega) hC hcv ha (fun sc1 ar1 n1 g1 => (b147_24 hR).mpr ?_)))
    have w1' : RRow ar1 38 (425 * L) (flatK u) := RRow_ag w1 (fun i => g1.2 38 i (by decide))
    have w2' : RSt ar1 39 (7 * L) u := fun j hj => by rw [g1.2 39 _ (by decide)]; exact w2 j hj
    have s0 := n1.2 0 (Nat.zero_le _)
    have u0 := w2' 0 (Nat.zero_le _)
    rw [Nat.zero_add] at s0
    rw [Nat.add_zero] at u0
    rw [show (7 : Int32) * nI L = nI (7 * L) from nI_mul 7 L, show (425 : Int32) * nI L = nI (425 * L) from nI_mul 425 L, nI_clamp (n := 7 * L) (by omega), u0, show Int32.toNatClampNeg 0 = 0 from rfl, s0, stK_0, stK_0]
    have hm1 := stK_mono (u := keyW T cv A a) (i := (keyW T cv A a).2.length) (Nat.le_refl _)
    have hm2 := stK_le (u := keyW T cv A a) (i := (keyW T cv A a).2.length) (Nat.le_refl _)
    have hu1 := stK_mono (u := u) (i := u.2.length) (Nat.le_refl _)
    have hu2 := stK_le (u := u) (i := u.2.length) (Nat.le_refl _)
    refine ⟨nI_in (c := 0) (N := 7) (by omega) (by omega), nI_in (N := 560) (by omega) (by omega), ?_⟩
    refine r_isRow hR (f := 0) (l := (keyW T cv A a).1) (l2 := u.1) (off := 425 * L) (by decide) rfl (RRow_head n1.1.2) (RRow_head w1') (by rw [Nat.zero_add]) rfl rfl (by omega) (by rw [rlen_38]; omega) (by rw [rlen_38]; omega) ((b147_53 hR).mpr ?_)
    have eP : chgW (keyW T cv A a) (some u) = if (keyW T cv A a).1 = u.1 then cdif 0 (keyW T cv A a).2 u.2 else 1 := rfl
    rw [eP] at hP
    by_cases c : (keyW T cv A a).1 = u.1
    · rw [if_pos c] at hP
      rw [decide_eq_true c]
      have hpl := heads_parts hko huo c
      rw [keyW_parts] at hpl
      refine ifp (by decide) ((b147_58 hR).mpr ?_)
      obtain ⟨⟨a1, _⟩, _⟩ := (RAct_ag hA g1 (by decide)).2 a ha
      have key : ∀ e k u5, k + e = (aIns A a).length → cdif k ((keyW T cv A a).2.drop k) (u.2.drop k) = cdif 0 (keyW T cv A a).2 u.2 → wp 147 61 [some (.ref o), some (.int (nI s)), some (.int (nI a)), some (.int (nI L)), some (.int (nI k)), u5] [] (rOv σ o sc1 ar1) P := by
        intro e
        induction e with
        | zero =>
          intro k u5 hk hc
          refine (b147_61 hR).mpr ⟨nI_in (N := 40) (by omega) (by omega), ?_⟩
          rw [nI_clamp (by omega), a1]
          refine ifp (nI_le (by omega) (by omega)) ((b147_150 hR).mpr ?_)
          rw [List.drop_eq_nil_of_le (by rw [keyW_parts]; omega)] at hc
          rw [← hc] at hP
          exact hP _ _ g1
        | succ e ih =>
          intro k u5 hk hc
          have hk1 : k < (keyW T cv A a).2.length := by rw [keyW_parts]; omega
          have hk2 : k < u.2.length := by omega
          have p1 := stK_succ hk1
          have p2 := stK_succ hk2
          have p3 := stK_le (u := keyW T cv A a) (i := k + 1) (by omega)
          have p4 := stK_le (u := u) (i := k + 1) (by omega)
          have f1 := w2' k (by omega)
          have f2 := w2' (k + 1) (by omega)
          have f3 := n1.2 k (by omega)
          have f4 := n1.2 (k + 1) (by omega)
          rw [Nat.zero_add] at f3 f4
          refine (b147_61 hR).mpr ⟨nI_in (N := 40) (by omega) (by omega), ?_⟩
          rw [nI_clamp (by omega), a1]
          refine ifn (nI_ge (by omega) (by omega)) ((b147_72 hR).mpr ?_)
          rw [i7, nI_1, nI_1, nI_clamp (n := 7 * L + k) (by omega), nI_clamp (n := 7 * L + k + 1) (by omega), nI_clamp (n := k) (by omega), nI_clamp (n := k + 1) (by omega), f1, show 7 * L + k + 1 = 7 * L + (k + 1) by omega, f2, f3, f4, i425, p2, nI_subm]
          refine ⟨nI_in (N := 560) (by omega) (by omega), nI_in (N := 7) (by omega) (by omega), nI_in (N := 7) (by omega) (by omega), nI_in (N := 560) (by omega) (by omega), ?_⟩
          have r1 := RRow_part n1.1.2 hk1
          rw [Nat.zero_add] at r1
          refine r_isRow hR (l := (keyW T cv A a).2[k]) (l2 := u.2[k]) (off := 425 * L + stK u k) (by decide) rfl r1 (RRow_part w1' hk2) (by rw [p1]) rfl rfl (by omega) (by rw [rlen_38]; omega) (by rw [rlen_38]; omega) ((b147_135 hR).mpr ?_)
          rw [cdif_step hk1 hk2] at hc
          by_cases d : (keyW T cv A a).2[k] = u.2[k]
          · rw [if_pos d] at hc
            rw [decide_eq_true d]
            refine ifp (by decide) ((b147_144 hR).mpr ?_)
            rw [nI_1]
            exact ih (k + 1) _ (by omega) hc
          · rw [if_neg d] at hc
            rw [decide_eq_false d]
            refine ifn (fun r => r rfl) ((b147_138 hR).mpr ?_)
            rw [show (10 : Int32) + nI k = nI (10 + k) from nI_add 10 k, hc]
            exact hP _ _ g1
      exact key _ 0 _ (Nat.zero_add _) rfl
    · rw [if_neg c] at hP
      rw [decide_eq_false c]
      exact ifn (fun r => r rfl) ((b147_56 hR).mpr (hP _ _ g1))
theorem r_changed (hR : RShape σ o) (h : RefR sc ar w) (hI : WInv w) (hP : ∀ sc' ar', RefR sc' ar' w → P (some (.int (sChanged w x y))) (rOv σ o sc' ar')) : wpM 148 [.ref o, .int x, .int y] (rOv σ o sc ar) P := by
  obtain ⟨q1, q2, q3, q4, q5, q6, q7⟩ := id h
  have h40 := hI.2.1.1
  unfold sChanged at hP
  refine (b148 hR).mpr ?_
  rcases ixN_cases x (n := 2) (by omega) with ⟨e, hx⟩ | ⟨s, hs, rfl, e⟩
  · rw [e] at hP
    exact rspace_no hR hx ((b148_6 hR).mpr (ifp rfl ((b148_26 hR).mpr ((b148_28 hR).mpr (hP sc ar h)))))
  rw [e] at hP
  refine rspace_yes hR hs ((b148_6 hR).mpr (ifn (by decide) ((b148_9 hR).mpr ?_)))
  rcases ixN_cases y (n := aN (wA w)) (by omega) with ⟨e, hx⟩ | ⟨a, ha, rfl, e⟩
  · rw [e] at hP
    exact risact_no hR q4 h40 hx ((b148_14 hR).mpr (ifp rfl ((b148_26 hR).mpr ((b148_28 hR).mpr (hP sc ar h)))))
  rw [e] at hP
  dsimp only at hP
  refine risact_yes hR q4 h40 ha ((b148_14 hR).mpr (ifn (by decide) ((b148_17 hR).mpr (r_changedOf hR q1 hI.1 q4 hI.2.1 hs (RCon_at q2 hs) (hI.2.2.1.len hs) ha (q5 s a hs ha) (fun u hu => hI.2.2.2.2.1 s a u hs ha hu) (fun sc1 ar1 g1 => (b148_23 hR).mpr ((b148_28 hR).mpr (hP _ _ (RefR_ag h g1 (by decide)))))))))
/-- the key of now is kept as the latest -/
theorem r_note (hR : RShape σ o) (hT : RTree sc ar T) (hTI : TInv T) (hA : RAct sc ar A) (hAI : AInv T A) (hs : s < 2) (hC : RConS ar s (tN T) cv) (hcv : ∀ p, p < tN T → ∀ l, cv p = some l → l.length ≤ 64) (ha : a < aN A) {was : Nat → Nat → Option KeyT} (hW : RWas ar (aN A) was) (hWk : WInvW A was) (hP : ∀ sc' ar', RNow sc' ar' (keyW T cv A a) → RWas ar' (aN A) (fup2 was s a (some (keyW T cv A a))) → Ag sc ar sc' ar' [17, 18, 19, 42, 43, 44, 45, 46] → P none (rOv σ o sc' ar')) : wpM 149 [.ref o, .int (nI s), .int (nI a)] (rOv σ o sc ar) P := by
  have h40 := hAI.1
  have hko := keyW_ok hTI hAI ha hcv
  have hkl := keyOk_len hko
  have h6 := (hAI.2.1 a ha).1
  refine (b149 hR).mpr ?_
  rw [i40, nI_clamp (by omega)]
  refine ⟨⟨nI_in (N := 80) (by omega) (by omega), Or.inr rfl⟩, ?_⟩
  have g0 : Ag sc ar sc (upA ar 37 (40 * s + a) 1) [17, 18, 19, 42, 43, 44, 45, 46] := Ag_ar (by decide)
  refine r_layKey hR (RTree_ag hT g0 (by decide)) hTI (RAct_ag hA g0 (by decide)) hAI (by omega) (RConS_ag hC g0 (by decide)) hcv ha (fun sc1 ar1 n1 g1 => (b149_20 hR).mpr ?_)
  have g01 := g0.tr (g1.mono (S' := [17, 18, 19, 42, 43, 44, 45, 46]) (by decide))
  have kp : (keyW T cv A a).2.length = (aIns A a).length := keyW_parts
  have key2 : ∀ e k, k + e = (aIns A a).length + 1 → wp 149 61 [some (.ref o), some (.int (nI s)), some (.int (nI a)), some (.int (nI (40 * s + a))), some (.int (nI k))] [] (rOv σ o sc1 (cpA (cpA ar1 38 (425 * (40 * s + a)) 62 0 (flatK (keyW T cv A a)).length) 39 (7 * (40 * s + a)) 64 0 k)) P := by
    intro e
    induction e with
    | zero =>
      intro k hk
      have ga : Ag sc ar sc1 (cpA (cpA ar1 38 (425 * (40 * s + a)) 62 0 (flatK (keyW T cv A a)).length) 39 (7 * (40 * s + a)) 64 0 k) [17, 18, 19, 42, 43, 44, 45, 46] := (g01.tr (Ag_cp (by decide))).tr (Ag_cp (by decide))
      obtain ⟨⟨a1, _⟩, _⟩ := (RAct_ag hA ga (by decide)).2 a ha
      refine (b149_61 hR).mpr ⟨nI_in (N := 40) (by omega) (by omega), ?_⟩
      rw [nI_clamp (by omega), a1]
      refine ifp (nI_lt (by omega) (by omega)) ((b149_97 hR).mpr (hP _ _ ⟨NowR_ag (S := [18, 19]) n1.1 ((Ag_cp (by decide)).tr (Ag_cp (by decide))) (by decide) (by decide), fun j hj => ?_⟩ (fun s' i hs' hi => ?_) ga))
      · rw [cpA_ne (by decide), cpA_ne (by decide)]; exact n1.2 j hj
      · by_cases c : s' = s ∧ i = a
        · have e1 : fup2 was s a (some (keyW T cv A a)) s' i = some (keyW T cv A a) := if_pos c
          rw [e1, c.1, c.2]
          refine ⟨?_, fun u hu => ?_⟩
          · rw [cpA_ne (by decide), cpA_ne (by decide), g1.2 37 _ (by decide), upA_same]; rfl
          · cases hu
            refine ⟨RRow_ag (cpA_row n1.1.2) (fun i => cpA_ne (by decide)), fun j hj => ?_⟩
            have : cpA (cpA ar1 38 (425 * (40 * s + a)) 62 0 (flatK (keyW T cv A a)).length) 39 (7 * (40 * s + a)) 64 0 k 39 (7 * (40 * s + a) + j) = cpA ar1 38 (425 * (40 * s + a)) 62 0 (flatK (keyW T cv A a)).length 64 (0 + (7 * (40 * s + a) + j - 7 * (40 * s + a))) := if_pos ⟨rfl, by omega, by omega⟩
            rw [this, cpA_ne (by decide), show 0 + (7 * (40 * s + a) + j - 7 * (40 * s + a)) = 0 + j by omega]
            exact n1.2 j hj
        · have e1 : fup2 was s a (some (keyW T cv A a)) s' i = was s' i := if_neg c
          rw [e1]
          obtain ⟨h1, h2⟩ := hW s' i hs' hi
          refine ⟨?_, fun u hu => ?_⟩
          · rw [cpA_ne (by decide), cpA_ne (by decide), g1.2 37 _ (by decide), upA_ne (fun r => by omega)]; exact h1
          · have hul := keyOk_len (hWk s' i u hs' hi hu)
            have hu6 : u.2.length ≤ 6 := by
              obtain ⟨⟨_, _, _, _, h3, h4, _⟩, _⟩ := hWk s' i u hs' hi hu
              omega
            refine ⟨RRow_eq (h2 u hu).1 (fun j hj => ?_), fun j hj => ?_⟩
            · rw [cpA_ne (by decide), cpA_out (by omega), g1.2 38 _ (by decide), upA_ne (fun r => absurd r.1 (by decide))]
            · rw [cpA_out (by omega), cpA_ne (by decide), g1.2 39 _ (by decide), upA_ne (fun r => absurd r.1 (by decide))]
              exact (h2 u hu).2 j hj
    | succ e ih =>
      intro k hk
      have ga : Ag sc ar sc1 (cpA (cpA ar1 38 (425 * (40 * s + a)) 62 0 (flatK (keyW T cv A a)).length) 39 (7 * (40 * s + a)) 64 0 k) [17, 18, 19, 42, 43, 44, 45, 46] := (g01.tr (Ag_cp (by decide))).tr (Ag_cp (by decide))
      obtain ⟨⟨a1, _⟩, _⟩ := (RAct_ag hA ga (by decide)).2 a ha
      refine (b149_61 hR).mpr ⟨nI_in (N := 40) (by omega) (by omega), ?_⟩
      rw [nI_clamp (by omega), a1]
      refine ifn (nI_nlt (by omega) (by omega)) ((b149_72 hR).mpr ?_)
      have st := cpA_step (ar := cpA ar1 38 (425 * (40 * s + a)) 62 0 (flatK (keyW T cv A a)).length) (td := 39) (D := 7 * (40 * s + a)) (ts := 64) (S := 0) (n := k) (Or.inl (by decide))
      rw [Nat.zero_add] at st
      rw [i7, nI_1, nI_clamp (n := k) (by omega), nI_clamp (n := 7 * (40 * s + a) + k) (by omega), st]
      exact ⟨nI_in (N := 7) (by omega) (by omega), nI_in (N := 560) (by omega) (by omega), ih (k + 1) (by omega)⟩
  have key1 : ∀ e k, k + e = (flatK (keyW T cv A a)).length → wp 149 23 [some (.ref o), some (.int (nI s)), some (.int (nI a)), some (.int (nI (40 * s + a))), some (.int (nI k))] [] (rOv σ o sc1 (cpA ar1 38 (425 * (40 * s + a)) 62 0 k)) P := by
    intro e
    induction e with
    | zero =>
      intro k hk
      have hk : k = (flatK (keyW T cv A a)).length := by omega
      subst hk
      refine (b149_23 hR).mpr (ifp (by rw [n1.1.1]; exact nI_le (by omega) (by omega)) ((b149_58 hR).mpr ?_))
      have := key2 _ 0 (Nat.zero_add _)
      rw [cpA_0] at this
      exact this
    | succ e ih =>
      intro k hk
      refine (b149_23 hR).mpr (ifn (by rw [n1.1.1]; exact nI_ge (by omega) (by omega)) ((b149_32 hR).mpr ?_))
      have st := cpA_step (ar := ar1) (td := 38) (D := 425 * (40 * s + a)) (ts := 62) (S := 0) (n := k) (Or.inl (by decide))
      rw [Nat.zero_add] at st
      rw [i425, nI_1, nI_clamp (n := k) (by omega), nI_clamp (n := 425 * (40 * s + a) + k) (by omega), st]
      exact ⟨nI_in (N := 425) (by omega) (by omega), nI_in (N := 34000) (by omega) (by omega), ih (k + 1) (by omega)⟩
  have := key1 _ 0 (Nat.zero_add _)
  rw [cpA_0] at this
  exact this
end RO1
