/-! WHETHER ALL IS CLEAN, PURE: no order is needed -/
section TS
variable {t : TreT} {a : ActT} {cv : Nat → Con} {out : Nat → Con} {i n : Nat} {op : Nat → Bool}
/-- whether these paths hold just what came -/
def sameO (cv : Nat → Con) (l : List Nat) (out : Nat → Con) : Bool := (List.range l.length).all fun k => decide (cv (l.getD k 0) = out k)
theorem sameO_iff {l : List Nat} : sameO cv l out = true ↔ ∀ k (h : k < l.length), cv l[k] = out k := by
  unfold sameO
  rw [List.all_eq_true]
  have eg : ∀ k (h : k < l.length), l.getD k 0 = l[k] := fun k h => by rw [List.getD_eq_getElem?_getD, List.getElem?_eq_getElem h]; rfl
  constructor
  · intro h k hk
    have := of_decide_eq_true (h k (List.mem_range.mpr hk))
    rw [eg k hk] at this; exact this
  · intro h k hk
    rw [List.mem_range] at hk
    rw [decide_eq_true_iff, eg k hk]; exact h k hk
theorem layO_same : ∀ (l : List Nat) (cv : Nat → Con) (k : Nat), (∀ j (h : j < l.length), cv l[j] = out (k + j)) → layO cv l out k = cv
  | [], _, _, _ => rfl
  | x :: l, cv, k, h => by
    have e : fup cv x (out k) = cv := by
      funext p
      by_cases q : p = x
      · have := h 0 (Nat.succ_pos _)
        rw [q, fup_same]; exact this.symm
      · exact fup_ne q
    show layO (fup cv x (out k)) l out (k + 1) = cv
    rw [e]
    refine layO_same l cv (k + 1) (fun j hj => ?_)
    have := h (j + 1) (Nat.succ_lt_succ hj)
    rw [show k + 1 + j = k + (j + 1) by omega]; exact this
theorem layO_get : ∀ (l : List Nat) (cv : Nat → Con) (k : Nat), l.Nodup → ∀ j (h : j < l.length), layO cv l out k l[j] = out (k + j)
  | [], _, _, _, j, h => absurd h (Nat.not_lt_zero j)
  | x :: l, cv, k, hn, j, h => by
    rw [List.nodup_cons] at hn
    show layO (fup cv x (out k)) l out (k + 1) _ = _
    cases j with
    | zero =>
      show layO (fup cv x (out k)) l out (k + 1) x = out k
      rw [layO_out l _ _ _ hn.1, fup_same]
    | succ j =>
      have hj : j < l.length := Nat.lt_of_succ_lt_succ h
      show layO (fup cv x (out k)) l out (k + 1) l[j] = _
      rw [layO_get l _ (k + 1) hn.2 j hj, show k + 1 + j = k + (j + 1) by omega]
theorem triW_succ : triW t a (n + 1) cv op = (match nextW t a op with
    | none => cv
    | some i => triW t a n (layO cv (aOut a i) (comesW t cv a i).2 0) (fup op i false)) := rfl
theorem triW_out : ∀ n (cv : Nat → Con) (op : Nat → Bool) p, (∀ i, i < aN a → op i = true → p ∉ aOut a i) → triW t a n cv op p = cv p
  | 0, _, _, _, _ => rfl
  | n + 1, cv, op, p, h => by
    rw [triW_succ]
    cases hnx : nextW t a op with
    | none => rfl
    | some i =>
      obtain ⟨hi, hcd⟩ := next_lt hnx
      show triW t a n (layO cv (aOut a i) (comesW t cv a i).2 0) (fup op i false) p = cv p
      rw [triW_out n _ _ p (fun j hj ho => ?_), layO_out _ _ _ _ (h i hi hcd.1)]
      unfold fup at ho
      split at ho
      · cases ho
      · exact h j hj ho
theorem triW_all (h : ∀ i, i < aN a → sameO cv (aOut a i) (comesW t cv a i).2 = true) : ∀ n (op : Nat → Bool), triW t a n cv op = cv
  | 0, _ => rfl
  | n + 1, op => by
    rw [triW_succ]
    cases hnx : nextW t a op with
    | none => rfl
    | some i =>
      have hi := (next_lt hnx).1
      show triW t a n (layO cv (aOut a i) (comesW t cv a i).2 0) (fup op i false) = cv
      rw [layO_same _ cv 0 (fun j hj => by rw [Nat.zero_add]; exact sameO_iff.mp (h i hi) j hj)]
      exact triW_all h n _
theorem triW_back (hA : AInv t a) : ∀ n (op : Nat → Bool), cnt op (aN a) ≤ n → (∀ i, i < aN a → op i = true → ∀ p, p ∈ aOut a i → triW t a n cv op p = cv p) → ∀ i, i < aN a → op i = true → sameO cv (aOut a i) (comesW t cv a i).2 = true
  | 0, op, hc, _, i, hi, ho => by
    have := cnt_0 (Nat.le_zero.mp hc) i hi
    rw [this] at ho; cases ho
  | n + 1, op, hc, h, i, hi, ho => by
    cases hnx : nextW t a op with
    | none =>
      obtain ⟨j, hj, hcj⟩ := acyc_next hA ⟨i, hi, ho⟩
      unfold nextW at hnx
      rw [List.find?_eq_none] at hnx
      exact absurd (cond_iff.mpr hcj) (hnx j (List.mem_range.mpr hj))
    | some m =>
      obtain ⟨hm, hcd⟩ := next_lt hnx
      have et : triW t a (n + 1) cv op = triW t a n (layO cv (aOut a m) (comesW t cv a m).2 0) (fup op m false) := by
        rw [triW_succ, hnx]
      have hone : ∀ p j, p ∈ aOut a m → j < aN a → fup op m false j = true → p ∉ aOut a j := by
        intro p j hp hj ho hq
        have e1 := (hA.2.1 m hm).2.2.2.2.2.1 p hp
        have e2 := (hA.2.1 j hj).2.2.2.2.2.1 p hq
        have e3 : j = m := Option.some.inj (e2.2.2.symm.trans e1.2.2)
        rw [e3, fup_same] at ho; cases ho
      have hs : sameO cv (aOut a m) (comesW t cv a m).2 = true := by
        rw [sameO_iff]
        intro k hk
        have hp : (aOut a m)[k] ∈ aOut a m := List.getElem_mem hk
        have := h m hm hcd.1 _ hp
        rw [et, triW_out n _ _ _ (fun j hj ho => hone _ j hp hj ho), layO_get _ _ _ (hA.2.1 m hm).2.2.2.2.1 k hk, Nat.zero_add] at this
        exact this.symm
      have ec : layO cv (aOut a m) (comesW t cv a m).2 0 = cv := layO_same _ cv 0 (fun j hj => by rw [Nat.zero_add]; exact sameO_iff.mp hs j hj)
      rw [ec] at et
      by_cases q : i = m
      · rw [q]; exact hs
      · refine triW_back hA n (fup op m false) ?_ (fun j hj hoj p hp => ?_) i hi (by rw [fup_ne q]; exact ho)
        · have := cnt_off (n := aN a) hm hcd.1
          omega
        · rw [← et]
          refine h j hj ?_ p hp
          unfold fup at hoj
          split at hoj
          · cases hoj
          · exact hoj
/-- all is clean just where each action, run on what stands, comes to what stands -/
theorem clean_iff (hA : AInv t a) : ((List.range (tN t)).all fun p => decide (tMk t p = none) || decide (cv p = triW t a 40 cv (needW t a none) p)) = (List.range (aN a)).all fun i => sameO cv (aOut a i) (comesW t cv a i).2 := by
  rw [Bool.eq_iff_iff, List.all_eq_true, List.all_eq_true]
  constructor
  · intro h i hi
    rw [List.mem_range] at hi
    refine triW_back hA 40 (needW t a none) (Nat.le_trans (cnt_le _) hA.1) (fun j hj _ p hp => ?_) i hi ?_
    · have e1 := (hA.2.1 j hj).2.2.2.2.2.1 p hp
      have := h p (List.mem_range.mpr e1.1)
      rw [Bool.or_eq_true, decide_eq_true_iff, decide_eq_true_iff] at this
      rcases this with q | q
      · rw [e1.2.2] at q; cases q
      · exact q.symm
    · unfold needW
      rw [decide_eq_true hi]; rfl
  · intro h p _
    rw [Bool.or_eq_true, decide_eq_true_iff, decide_eq_true_iff]
    right
    rw [triW_all (fun i hi => h i (List.mem_range.mpr hi))]
end TS
/-! THE CLASS: whether all is clean -/
section CE
variable {σ τ υ : zSt} {P : Option Value → zSt → Prop} {X N M i s k n : Nat} {pa aa ea sa : List Nat} {z cv : Nat → Con} {w : WT} {t : TreT} {a : ActT} {x y : Int32} {op : Nat → Bool}
theorem has_ok (hG : ClsG σ X pa aa ea sa z w) (hI2 : AInv (wT w) (wA w)) {o f m : Nat} {out : Nat → Con} (hi : i < aN (wA w)) (hs : s < 2) (hO : OutI σ o m f out) (hP : P (some (.int (b2I (sameO (wC w s) (aOut (wA w) i) out)))) σ) : wpM 5 [.ref (pA aa i), .ref o, .int (nI s)] σ P := by
  have hC := hG.C
  have hT := hG.2.2.1
  have hCC := hG.2.2.2.1
  obtain ⟨d1, d2, d3, d4, d5, d6, d7, d8⟩ := hI2.2.1 i hi
  obtain ⟨g0, g1, g2, g3, g4, g5⟩ := hG.2.2.2.2.2.1.2.2.2 i hi
  have k2 : con3 (wC w) z s = wC w s := by funext p; unfold con3; rw [if_neg (by omega)]
  refine b5.mpr ?_
  have key : ∀ d j, j + d = (aOut (wA w) i).length → (∀ k (h : k < (aOut (wA w) i).length), k < j → wC w s (aOut (wA w) i)[k] = out k) → wp 5 2 [some (.ref (pA aa i)), some (.ref o), some (.int (nI s)), some (.int (nI j))] [] σ P := by
    intro d
    induction d with
    | zero =>
      intro j e hn
      refine (b5_2 hC).mpr ⟨g0, size_ok g2 (b5_10.mpr (ifp (by rw [List.length_map]; exact nI_le (by omega) (by omega)) (b5_54.mpr ⟨Or.inr rfl, ?_⟩)))⟩
      have : sameO (wC w s) (aOut (wA w) i) out = true := sameO_iff.mpr (fun k hk => hn k hk (by omega))
      rw [this] at hP; exact hP
    | succ d ih =>
      intro j e hn
      have hj : j < (aOut (wA w) i).length := by omega
      have hj' : j < ((aOut (wA w) i).map (pA pa)).length := by rw [List.length_map]; exact hj
      have hp := (d6 _ (List.getElem_mem hj)).1
      have hz8 := (hT.2.2 _ hp).1
      have hov := hO.2.2.2 j (by omega)
      refine (b5_2 hC).mpr ⟨g0, size_ok g2 (b5_10.mpr (ifn (by rw [List.length_map]; exact nI_ge hj (by omega)) (b5_13.mpr (ifn (show ¬ nI 3 ≤ nI j from nI_ge (by omega) (by omega)) ((b5_18 hC).mpr ⟨g0, get_ok g2 hj' ((b5_26 hC).mpr ?_)⟩)))))⟩
      rw [List.getElem_map]
      refine ⟨hz8, nI_in hs (by omega), hO.1, nI_in (by omega) (by omega), ?_⟩
      rw [nI_clamp (by omega), nI_clamp (by omega), show pA pa (aOut (wA w) i)[j] + 1 + 2 + 2 * s = pA pa (aOut (wA w) i)[j] + 3 + 2 * s by omega, show o + 1 + 1 + 2 * j = o + 2 + 2 * j by omega]
      have hc := hCC s _ hs hp
      rw [k2] at hc
      refine sameAs_ok hC hc hov (b5_43.mpr ?_)
      by_cases hsame : wC w s (aOut (wA w) i)[j] = out j
      · rw [if_pos hsame]
        refine ifp (by decide) (b5_48.mpr ?_)
        rw [nI_1]
        refine ih (j + 1) (by omega) (fun k hk hkj => ?_)
        by_cases q : k = j
        · subst q; exact hsame
        · exact hn k hk (by omega)
      · rw [if_neg hsame]
        refine ifn (fun q => q rfl) (b5_46.mpr ⟨Or.inl rfl, ?_⟩)
        have : sameO (wC w s) (aOut (wA w) i) out = false := Bool.eq_false_iff.mpr (fun r => hsame (sameO_iff.mp r j hj))
        rw [this] at hP; exact hP
  exact key _ 0 (Nat.zero_add _) (fun k _ h => absurd h (Nat.not_lt_zero k))
theorem clean_ok (h : Cls σ X w N M) (hI : WInv w) (hP : ∀ τ, Cls τ X w N M → RF σ τ → P (some (.int (sClean w x))) τ) : wpM 101 [.ref X, .int x] σ P := by
  obtain ⟨pa, aa, ea, sa, z, hG, hR⟩ := id h
  have hC := hG.C
  have hX := hG.2.1
  have hT := hI.1
  have hA := hI.2.1
  refine b101.mpr ?_
  rcases ixN_cases x (n := 2) (by omega) with ⟨e, hx⟩ | ⟨s, hs, rfl, e⟩
  · have := hP σ h RF.rf
    unfold sClean at this
    rw [e] at this
    refine isSpace_ok ?_
    rw [if_neg]
    · exact b101_4.mpr (ifn (fun q => q rfl) (b101_7.mpr this))
    · rintro ⟨q1, q2⟩
      rcases hx with g | g
      · exact absurd q1 (Int32.not_le.mpr g)
      · exact absurd (show x < nI 2 from q2) (Int32.not_lt.mpr g)
  refine isSpace_ok ?_
  rw [if_pos ⟨nI_le (a := 0) (by omega) (by omega), nI_lt (b := 2) hs (by omega)⟩]
  refine b101_4.mpr (ifp (by decide) (b101_10.mpr ?_))
  have h40 := hA.1
  have eS : sClean w (nI s) = if ((List.range (aN (wA w))).all fun i => sameO (wC w s) (aOut (wA w) i) (comesW (wT w) (wC w s) (wA w) i).2) = true then 1 else 0 := by
    unfold sClean
    rw [e]
    dsimp only
    rw [clean_iff hA]
  rw [eS] at hP
  have k2 : con3 (wC w) z s = wC w s := by funext p; unfold con3; rw [if_neg (by omega)]
  have key : ∀ d j τ, j + d = aN (wA w) → ClsG τ X pa aa ea sa z w → Rm τ X ea sa N M → RF σ τ → (∀ k, k < j → sameO (wC w s) (aOut (wA w) k) (comesW (wT w) (wC w s) (wA w) k).2 = true) → wp 101 12 [some (.ref X), some (.int (nI s)), some (.int (nI j))] [] τ P := by
    intro d
    induction d with
    | zero =>
      intro j τ ej hG hR hF hn
      have hC := hG.C
      have hX := hG.2.1
      have hAc := hG.2.2.2.2.2.1
      refine (b101_12 hC).mpr ⟨hX.1, gsize_ok hC (x_graph hC hX.1) hAc.1 (b101_20.mpr (ifp (by rw [hAc.2.1]; exact nI_le (by omega) (by omega)) (b101_70.mpr ?_)))⟩
      have fin := hP τ ⟨pa, aa, ea, sa, z, hG, hR⟩ hF
      rw [if_pos (by rw [List.all_eq_true]; intro k hk; exact hn k (by have := List.mem_range.mp hk; omega))] at fin
      exact fin
    | succ d ih =>
      intro j τ ej hG hR hF hn
      have hj : j < aN (wA w) := by omega
      have hC := hG.C
      have hX := hG.2.1
      have hAc := hG.2.2.2.2.2.1
      have hin := (hA.2.1 j hj).2.1
      refine (b101_12 hC).mpr ⟨hX.1, gsize_ok hC (x_graph hC hX.1) hAc.1 (b101_20.mpr (ifn (by rw [hAc.2.1]; exact nI_ge hj (by omega)) ((b101_23 hC).mpr ⟨hX.1, aat_ok hC hX.1 hAc hj ((b101_35 hC).mpr ⟨hX.1, x_runner hC hX.1, ?_⟩)⟩)))⟩
      have hRC := RunC_of hG (s := s) hs hj
      rw [k2] at hRC
      have hcv : cvOk (wT w) (wC w s) (aIns (wA w) j) := CInv.cvOk hI.2.2.1 hs hin
      have ho7 := x_trial hC hX.1
      refine run_ok (s := s) hRC ho7 hT hA hj hs hcv (fun τ2 hRC2 hO2 hf2 hN2 => ?_)
      have hG2 : ClsG τ2 X pa aa ea sa z w := ClsU_lim hG hRC2.1 ho7 (fun q hq => (en_X hC (ent_ok hG hq).1 hX).1) hf2 (fun _ r => r.elim) (fun c k a r => by rcases r with r | r; exact Or.inl r; exact Or.inr (Or.inl r))
      have hC2 := hG2.C
      have hX2 := hG2.2.1
      have hRF2 : RF τ τ2 := hf2.rf (fun c k a r => by unfold runFs at r; omega)
      have hK := hG.2.2.2.2.2.2.2.1
      have hR2 := Rm_na hR (hf2.cap id hK.1) (hf2.cap id hK.2.1) hN2
      refine (b101_43 hC2).mpr ⟨hX2.1, aat_ok hC2 hX2.1 hG2.2.2.2.2.2.1 hj ((b101_51 hC2).mpr ⟨hX2.1, (hG2.2.2.2.2.2.1.2.2.2 j hj).1, ?_⟩)⟩
      refine has_ok hG2 hA hj hs hO2 (b101_59.mpr ?_)
      cases hb : sameO (wC w s) (aOut (wA w) j) (comesW (wT w) (wC w s) (wA w) j).2 with
      | true =>
        refine ifp (by decide) (b101_64.mpr ?_)
        rw [nI_1]
        refine ih (j + 1) τ2 (by omega) hG2 hR2 (hF.tr hRF2) (fun k hk => ?_)
        by_cases q : k = j
        · rw [q]; exact hb
        · exact hn k (by omega)
      | false =>
        refine ifn (fun q => q rfl) (b101_62.mpr ?_)
        have fin := hP τ2 ⟨pa, aa, ea, sa, z, hG2, hR2⟩ (hF.tr hRF2)
        rw [if_neg (fun r => by
          rw [List.all_eq_true] at r
          have := r j (List.mem_range.mpr hj)
          rw [hb] at this; cases this)] at fin
        exact fin
  exact key _ 0 σ (Nat.zero_add _) hG hR RF.rf (fun k h => absurd h (Nat.not_lt_zero k))
end CE
