/-! THE CLASS: whether all is clean -/
section CE
variable {σ τ υ : zSt} {P : Option Value → zSt → Prop} {X N M i s k n : Nat} {pa aa ea sa : List Nat} {z cv : Nat → Con} {w : WT} {t : TreT} {a : ActT} {x y : Int32} {op : Nat → Bool}
theorem alike_ok (hG : ClsG σ X pa aa ea sa z w) (hI1 : TInv (wT w)) (hI2 : AInv (wT w) (wA w)) {s s' : Nat} (hs : s < 3) (hs' : s' < 3) (hP : P (some (.int (b2I ((List.range (tN (wT w))).all fun p => decide (tMk (wT w) p = none) || decide (con3 (wC w) z s p = con3 (wC w) z s' p))))) σ) : wpM 80 [.ref (X + 1), .int (nI s), .int (nI s')] σ P := by
  have hC := hG.C
  have hX := hG.2.1
  have hT := hG.2.2.1
  have hCC := hG.2.2.2.1
  have h60 := hI1.2.1
  refine b80.mpr ?_
  have key : ∀ d j u4, j + d = tN (wT w) → (∀ p, p < j → tMk (wT w) p = none ∨ con3 (wC w) z s p = con3 (wC w) z s' p) → wp 80 2 [some (.ref (X + 1)), some (.int (nI s)), some (.int (nI s')), some (.int (nI j)), u4] [] σ P := by
    intro d
    induction d with
    | zero =>
      intro j u4 e hn
      refine (b80_2 hC).mpr ⟨x_tree hC hX.1, size_ok hT.1 (b80_10.mpr (ifp (by rw [hT.2.1]; exact nI_le (by omega) (by omega)) (b80_63.mpr ⟨Or.inr rfl, ?_⟩)))⟩
      have : ((List.range (tN (wT w))).all fun p => decide (tMk (wT w) p = none) || decide (con3 (wC w) z s p = con3 (wC w) z s' p)) = true := by
        rw [List.all_eq_true]
        intro p hp
        rw [List.mem_range] at hp
        rw [Bool.or_eq_true, decide_eq_true_iff, decide_eq_true_iff]
        exact hn p (by omega)
      rw [this] at hP; exact hP
    | succ d ih =>
      intro j u4 e hn
      have hj : j < tN (wT w) := by omega
      have hj' : j < pa.length := by rw [hT.2.1]; exact hj
      obtain ⟨g0, g1, g2, g3, g4, g5, g6⟩ := hT.2.2 j hj
      refine (b80_2 hC).mpr ⟨x_tree hC hX.1, size_ok hT.1 (b80_10.mpr (ifn (by rw [hT.2.1]; exact nI_ge hj (by omega)) ((b80_13 hC).mpr ⟨x_tree hC hX.1, get_ok hT.1 hj' (b80_21.mpr ?_)⟩)))⟩
      rw [pA_elem hj']
      refine ⟨g0, ?_⟩
      rw [g5]
      have nxt : (tMk (wT w) j = none ∨ con3 (wC w) z s j = con3 (wC w) z s' j) → wp 80 57 [some (.ref (X + 1)), some (.int (nI s)), some (.int (nI s')), some (.int (nI j)), some (.ref (pA pa j))] [] σ P := by
        intro hh
        refine b80_57.mpr ?_
        rw [nI_1]
        refine ih (j + 1) _ (by omega) (fun p hp => ?_)
        by_cases q : p = j
        · rw [q]; exact hh
        · exact hn p (by omega)
      by_cases hm : tMk (wT w) j = none
      · exact ifp (by rw [hm]; rfl) (nxt (Or.inl hm))
      · refine ifn (fun q => hm ((optI_m1 (hI1.mk31 hI2 hj)).mp q)) ((b80_35 hC).mpr ⟨g0, nI_in hs (by omega), nI_in hs' (by omega), ?_⟩)
        rw [nI_clamp (by omega), nI_clamp (by omega), show pA pa j + 1 + 2 + 2 * s = pA pa j + 3 + 2 * s by omega, show pA pa j + 1 + 2 + 2 * s' = pA pa j + 3 + 2 * s' by omega]
        refine sameAs_ok hC (hCC s j hs hj) (hCC s' j hs' hj) (b80_52.mpr ?_)
        by_cases hc : con3 (wC w) z s j = con3 (wC w) z s' j
        · rw [if_pos hc]
          exact ifp (by decide) (nxt (Or.inr hc))
        · rw [if_neg hc]
          refine ifn (fun q => q rfl) (b80_55.mpr ⟨Or.inl rfl, ?_⟩)
          have : ((List.range (tN (wT w))).all fun p => decide (tMk (wT w) p = none) || decide (con3 (wC w) z s p = con3 (wC w) z s' p)) = false := by
            rw [List.all_eq_false]
            refine ⟨j, List.mem_range.mpr hj, ?_⟩
            rw [Bool.or_eq_true, decide_eq_true_iff, decide_eq_true_iff]
            rintro (q | q)
            · exact hm q
            · exact hc q
          rw [this] at hP; exact hP
  exact key _ 0 none (Nat.zero_add _) (fun p h => absurd h (Nat.not_lt_zero p))
theorem clean_loop (hI : WInv w) {x1 : Int32} {u5 : Option Value} : ∀ n z cv m op τ u5, n ≤ 40 → ClsG τ X pa aa ea sa z w → Rm τ X ea sa N M → RF σ τ → agS (wT w) op z cv → allOk (wT w) cv → (∀ k, mb m k = true ↔ k < aN (wA w) ∧ op k = true) → cnt op (aN (wA w)) ≤ n → (∀ τ z' m' t' u5', ClsG τ X pa aa ea sa z' w → Rm τ X ea sa N M → RF σ τ → (∀ p, p < tN (wT w) → z' p = triW (wT w) (wA w) n cv op p) → wp 101 119 [some (.ref X), some (.int x1), some (.long m'), none, some (.int t'), u5'] [] τ P) → wp 101 31 [some (.ref X), some (.int x1), some (.long m), none, some (.int (nI (40 - n))), u5] [] τ P := by
  have hT := hI.1
  have hA := hI.2.1
  have allSet : ∀ op : Nat → Bool, (∀ i, i < aN (wA w) → op i = false) → ∀ p, p < tN (wT w) → settled (wT w) op p := fun op h p hp i hm => h i (hA.2.2.1 p i hp hm).1
  have noNext : ∀ op : Nat → Bool, (∀ i, i < aN (wA w) → op i = false) → nextW (wT w) (wA w) op = none := fun op h => next_none (fun j hj hc => by
    have := h j hj
    rw [hc.1] at this; cases this)
  have triN : ∀ n cv op, nextW (wT w) (wA w) op = none → triW (wT w) (wA w) n cv op = cv := by
    intro n cv op h
    cases n with
    | zero => rfl
    | succ n =>
      show (match nextW (wT w) (wA w) op with
        | none => cv
        | some i => triW (wT w) (wA w) n (layO cv (aOut (wA w) i) (comesW (wT w) cv (wA w) i).2 0) (fup op i false)) = cv
      rw [h]
  intro n
  induction n with
  | zero =>
    intro z cv m op τ u5 _ hG hR hF hag hok hm hc hfin
    have h0 := cnt_0 (Nat.le_zero.mp hc)
    exact b101_31.mpr (ifp (show nI 40 ≤ nI 40 by decide) (hfin τ z _ _ _ hG hR hF (fun p hp => hag p hp (allSet op h0 p hp))))
  | succ n ih =>
    intro z cv m op τ u5 hn hG hR hF hag hok hm hc hfin
    have hC := hG.C
    have hX := hG.2.1
    have hActs := hG.2.2.2.2.2.1
    have h40 := hA.1
    have done : (∀ i, i < aN (wA w) → op i = false) → ∀ (m' : Int64) (t' : Int32) (u5' : Option Value), wp 101 119 [some (.ref X), some (.int x1), some (.long m'), none, some (.int t'), u5'] [] τ P := by
      intro h0 m' t' u5'
      refine hfin τ z m' t' u5' hG hR hF (fun p hp => ?_)
      rw [triN _ _ _ (noNext op h0)]
      exact hag p hp (allSet op h0 p hp)
    refine b101_31.mpr (ifn (show ¬ nI 40 ≤ nI (40 - (n + 1)) from nI_ge (by omega) (by omega)) (b101_38.mpr ?_))
    by_cases hm0 : m = 0
    · refine ifp (lcmp0.mpr hm0) (done (fun i hi => ?_) _ _ _)
      cases ho : op i with
      | false => rfl
      | true =>
        have := (hm i).mpr ⟨hi, ho⟩
        rw [hm0, mb_0] at this; cases this
    · refine ifn (fun q => hm0 (lcmp0.mp q)) ((b101_44 hC).mpr ⟨hX.1, mask_next (t := wT w) (a := wA w) (op := op) hC hX.1 hActs h40 hm (b101_52.mpr ?_)⟩)
      cases hnx : nextW (wT w) (wA w) op with
      | none =>
        refine ifn (fun q => q rfl) (b101_60.mpr (done (fun i hi => ?_) _ _ _))
        cases ho : op i with
        | false => rfl
        | true =>
          obtain ⟨j, hj, hcj⟩ := acyc_next hA ⟨i, hi, ho⟩
          unfold nextW at hnx
          rw [List.find?_eq_none] at hnx
          exact absurd (cond_iff.mpr hcj) (hnx j (List.mem_range.mpr hj))
      | some i =>
        obtain ⟨hi, hcd⟩ := next_lt hnx
        have hin := (hA.2.1 i hi).2.1
        have k2 : con3 (wC w) z 2 = z := by funext p; rfl
        have hRC := RunC_of hG (s := 2) (by omega) hi
        rw [k2] at hRC
        have hagi := agS_in hT hA hi hag hcd
        have hcv : cvOk (wT w) z (aIns (wA w) i) := fun p hp hd l hl => hok p (hin p hp) l (by rw [← (hagi p hp).1 hd]; exact hl)
        have ho7 := x_trial hC hX.1
        refine ifp (nI_m1 (by omega)) ((b101_63 hC).mpr ⟨hX.1, aat_ok hC hX.1 hActs hi ((b101_76 hC).mpr ⟨hX.1, x_runner hC hX.1, ?_⟩)⟩)
        refine run_ok (s := 2) hRC ho7 hT hA hi (by omega) hcv (fun τ2 hRC2 hO2 hf2 hN2 => ?_)
        have hG2 : ClsG τ2 X pa aa ea sa z w := ClsU_lim hG hRC2.1 ho7 (fun q hq => (en_X hC (ent_ok hG hq).1 hX).1) hf2 (fun _ r => r.elim) (fun c k a r => by rcases r with r | r; exact Or.inl r; exact Or.inr (Or.inl r))
        have hC2 := hG2.C
        have hX2 := hG2.2.1
        have hRF2 : RF τ τ2 := hf2.rf (fun c k a r => by unfold runFs at r; omega)
        have hK := hG.2.2.2.2.2.2.2.1
        have hR2 := Rm_na hR (hf2.cap id hK.1) (hf2.cap id hK.2.1) hN2
        refine (b101_84 hC2).mpr ⟨hX2.1, aat_ok hC2 hX2.1 hG2.2.2.2.2.2.1 hi ((b101_93 hC2).mpr ⟨hX2.1, (hG2.2.2.2.2.2.1.2.2.2 i hi).1, ?_⟩)⟩
        refine take_ok (s := 2) hG2 hT hA hi (by omega) hO2 (fun τ3 c' z3 hcon h2' _ hG3 hN3 hF3 hf3 => ?_)
        have ec := h2' rfl
        subst ec
        have hK2 := hG2.2.2.2.2.2.2.2.1
        have hR3 := Rm_na hR2 (hf3.cap id hK2.1) (hf3.cap id hK2.2.1) hN3
        have hz3 : ∀ p, p < tN (wT w) → z3 p = layO z (aOut (wA w) i) (comesW (wT w) z (wA w) i).2 0 p := by
          intro p hp
          have := hcon 2 p (by omega) hp
          rw [if_pos rfl, k2] at this
          exact this
        refine b101_101.mpr (bit_ok (by omega) (b101_107.mpr ?_))
        rw [nI_1, show 40 - (n + 1) + 1 = 40 - n by omega]
        have hag3 := agS_lay hT hA hi hag hcd
        refine ih z3 (layO cv (aOut (wA w) i) (comesW (wT w) cv (wA w) i).2 0) _ (fup op i false) τ3 _ (by omega) hG3 hR3 (hF.tr (hRF2.tr hF3)) (fun p hp hst => by rw [hz3 p hp]; exact hag3 p hp hst) (allOk_lay hT hA hi hok) (fun k => ?_) ?_ (fun τ4 z4 m4 t4 u4 hG4 hR4 hF4 h4 => hfin τ4 z4 m4 t4 u4 hG4 hR4 hF4 (fun p hp => ?_))
        · rw [mb_clr (by omega), Bool.and_eq_true, hm k]
          unfold fup
          by_cases e : k = i
          · subst e; simp
          · simp [e]
        · have := cnt_off (n := aN (wA w)) hi hcd.1
          omega
        · rw [h4 p hp]
          show _ = (match nextW (wT w) (wA w) op with
            | none => cv
            | some i => triW (wT w) (wA w) n (layO cv (aOut (wA w) i) (comesW (wT w) cv (wA w) i).2 0) (fup op i false)) p
          rw [hnx]
theorem clean_ok (h : Cls σ X w N M) (hI : WInv w) (hP : ∀ τ, Cls τ X w N M → RF σ τ → P (some (.int (sClean w x))) τ) : wpM 101 [.ref X, .int x] σ P := by
  obtain ⟨pa, aa, ea, sa, z, hG, hR⟩ := id h
  have hC := hG.C
  have hX := hG.2.1
  have hT := hI.1
  have hA := hI.2.1
  refine b101.mpr ?_
  rcases ixN_cases x (n := 2) (by omega) with ⟨e, hx⟩ | ⟨s, hs, rfl, e⟩
  · have := hP σ h RF.rf
    unfold sClean at this
    rw [e] at this
    refine isSpace_ok ?_
    rw [if_neg]
    · exact b101_4.mpr (ifn (fun q => q rfl) (b101_7.mpr this))
    · rintro ⟨q1, q2⟩
      rcases hx with g | g
      · exact absurd q1 (Int32.not_le.mpr g)
      · exact absurd (show x < nI 2 from q2) (Int32.not_lt.mpr g)
  refine isSpace_ok ?_
  rw [if_pos ⟨nI_le (a := 0) (by omega) (by omega), nI_lt (b := 2) hs (by omega)⟩]
  refine b101_4.mpr (ifp (by decide) ((b101_10 hC).mpr ⟨hX.1, ?_⟩))
  refine cpyS_ok (s := s) (s' := 2) hG hR hI (by omega) (by omega) (by omega) (fun τ c' z' hcon h2' _ hG1 hR1 hF1 => ?_)
  have ec := h2' rfl
  subst ec
  have hC1 := hG1.C
  have hX1 := hG1.2.1
  have k1 : con3 (wC w) z s = wC w s := by funext p; unfold con3; rw [if_neg (by omega)]
  have hz' : ∀ p, p < tN (wT w) → tMk (wT w) p = none → z' p = wC w s p := by
    intro p hp hm
    have := hcon 2 p (by omega) hp
    rw [if_pos rfl, cpyW_at _ p hp, if_pos (decide_eq_true hm), k1] at this
    exact this
  refine (b101_19 hC1).mpr ⟨hX1.1, gall_ok hC1 (x_graph hC1 hX1.1) hG1.2.2.2.2.2.1.1 (by rw [hG1.2.2.2.2.2.1.2.1]; exact hA.1) (fun v hv => b101_27.mpr ?_)⟩
  have hop : ∀ k, mb v k = true ↔ k < aN (wA w) ∧ needW (wT w) (wA w) none k = true := by
    intro k
    rw [hv k, hG1.2.2.2.2.2.1.2.1]
    unfold needW
    show k < aN (wA w) ↔ _
    simp
  refine clean_loop (σ := σ) (N := N) (M := M) (u5 := none) hI 40 z' (wC w s) v (needW (wT w) (wA w) none) τ _ (Nat.le_refl _) hG1 hR1 hF1 (fun p hp hst => ?_) (fun p hp l hl => (hI.2.2.1 s p hs hp).1 l hl) hop (Nat.le_trans (cnt_le _) hA.1) (fun τ2 z2 m2 t2 u2 hG2 hR2 hF2 hz2 => ?_)
  · cases hm : tMk (wT w) p with
    | none => exact hz' p hp hm
    | some i =>
      have hi := (hA.2.2.1 p i hp hm).1
      have := hst i hm
      unfold needW at this
      rw [decide_eq_true hi] at this
      cases this
  have hC2 := hG2.C
  refine (b101_119 hC2).mpr ⟨hG2.2.1.1, alike_ok (s := s) (s' := 2) hG2 hT hA (by omega) (by omega) (b101_128.mpr ?_)⟩
  have eall : ((List.range (tN (wT w))).all fun p => decide (tMk (wT w) p = none) || decide (con3 (wC w) z2 s p = con3 (wC w) z2 2 p)) = ((List.range (tN (wT w))).all fun p => decide (tMk (wT w) p = none) || decide (wC w s p = triW (wT w) (wA w) 40 (wC w s) (needW (wT w) (wA w) none) p)) := by
    have e1 : con3 (wC w) z2 s = wC w s := by funext p; unfold con3; rw [if_neg (by omega)]
    rw [Bool.eq_iff_iff, List.all_eq_true, List.all_eq_true]
    have : ∀ p, p ∈ List.range (tN (wT w)) → ((decide (tMk (wT w) p = none) || decide (con3 (wC w) z2 s p = con3 (wC w) z2 2 p)) = (decide (tMk (wT w) p = none) || decide (wC w s p = triW (wT w) (wA w) 40 (wC w s) (needW (wT w) (wA w) none) p))) := by
      intro p hp
      rw [List.mem_range] at hp
      rw [e1, show con3 (wC w) z2 2 p = z2 p from rfl, hz2 p hp]
    exact ⟨fun h p hp => by rw [← this p hp]; exact h p hp, fun h p hp => by rw [this p hp]; exact h p hp⟩
  rw [eall]
  have fin := hP τ2 ⟨pa, aa, ea, sa, z2, hG2, hR2⟩ hF2
  unfold sClean at fin
  rw [e] at fin
  dsimp only at fin
  cases hb : ((List.range (tN (wT w))).all fun p => decide (tMk (wT w) p = none) || decide (wC w s p = triW (wT w) (wA w) 40 (wC w s) (needW (wT w) (wA w) none) p)) with
  | true =>
    rw [hb] at fin
    exact ifn (by decide) (b101_131.mpr (b101_136.mpr fin))
  | false =>
    rw [hb] at fin
    exact ifp rfl (b101_135.mpr (b101_136.mpr fin))
end CE
