/-! THE CLASS: an entry to be filled, latest keys, the log -/
section UN
variable {σ τ υ : zSt} {P : Option Value → zSt → Prop} {X N M i s o k n f q : Nat} {pa aa ea sa : List Nat} {z : Nat → Con} {w : WT} {t : TreT} {a : ActT} {out cv : Nat → Con} {u : Nat → Nat → Bool} {hd : List Int32} {ps : List (List Int32)} {Cs Ks Ls : Nat → Prop} {Fs : Nat → Nat → Nat → Prop}
theorem ClsU_fr0 (h : ClsU σ X pa aa ea sa z w u) (hH : HI τ) (hF : Fr σ τ no1 no1 no1 no3) : ClsU τ X pa aa ea sa z w u := by
  have hC := h.C
  obtain ⟨_, hX, hT, hCC, hTp, hA, hW, hK, hLg⟩ := h
  exact ⟨hH, XOk_fr hX hF, CTree_fr hT hF id (fun _ _ => id) (fun _ _ _ => id), CCon_fr hCC hF hC (fun _ _ _ _ => id), hF.cnt hC id hTp, CActU_fr hA hF hC id (fun _ _ => ⟨id, id⟩) (fun _ _ _ => ⟨id, id, id⟩), CWas_fr hW hF hC (fun _ _ _ _ => id), CCac_fr hK hF hC (x_cache hC hX.1) id id (fun _ => id) (fun _ _ => ⟨fun _ _ => id, fun _ => id, id, fun _ => id⟩), hF.log hC id hLg⟩
theorem ClsU_was (h : ClsU σ X pa aa ea sa z w u) (hs : s < 2) (hi : i < aN (wA w)) {now : KeyT} (ht : toKK σ τ (pA aa i + 6 + 3 * s) (flatK now)) : ClsU τ X pa aa ea sa z (wT w, wA w, wC w, wP w, fup2 (wW w) s i (some now), wK w, wL w) u ∧ NA σ τ ∧ RF σ τ ∧ Fr σ τ no1 (fun x => x = pA aa i + 6 + 3 * s) no1 no3 := by
  have hF := Fr_KK' ht
  have hC := h.C
  have he := fun q (hq : q ∈ ea) => ent_ok h hq
  obtain ⟨hH, hX, hT, hCC, hTp, hA, hW, hK, hLg⟩ := h
  have hz := (hA.2.2.2 i hi).1
  refine ⟨⟨HI_KK ht hH, XOk_fr hX hF, CTree_fr hT hF id (fun _ _ => id) (fun _ _ _ => id), CCon_fr hCC hF hC (fun s p hs hp => id), hF.cnt hC id hTp, CActU_fr hA hF hC id (fun _ _ => ⟨id, id⟩) (fun _ _ _ => ⟨id, id, id⟩), fun s' j hs' hj => ?_, CCac_fr hK hF hC (x_cache hC hX.1) id id (fun _ => id) (fun q hq => ⟨fun k hk => id, fun _ => id, fun r => ak_ek hC hz (he q hq).1 hs r.symm, fun _ => id⟩), hF.log hC id hLg⟩, NA_KK ht, hF.rf (fun _ _ _ q => q.elim), hF⟩
  show Ky τ _ (wasL (fup2 (wW w) s i (some now) s' j))
  by_cases e : s' = s ∧ j = i
  · have e2 : fup2 (wW w) s i (some now) s' j = some now := if_pos e
    rw [e2, e.1, e.2]
    exact toKK_ky ht (hW s i hs hi).1
  · have e2 : fup2 (wW w) s i (some now) s' j = wW w s' j := if_neg e
    rw [e2]
    refine hF.ky hC (fun r => e ?_) (hW s' j hs' hj)
    have := ak_inj hC (hA.2.2.2 j hj).1 hz hs' hs r
    exact ⟨this.2, pA_nodup hA.2.2.1 (by rw [hA.2.1]; exact hj) (by rw [hA.2.1]; exact hi) this.1⟩
theorem ClsU_log (h : ClsU σ X pa aa ea sa z w u) {L' : LogT} (ht : toG σ τ (X + 21) L'.1 L'.2.1 L'.2.2.1 L'.2.2.2) : ClsU τ X pa aa ea sa z (wT w, wA w, wC w, wP w, wW w, wK w, L') u ∧ NA σ τ ∧ RF σ τ ∧ Fr σ τ no1 no1 no1 (fun c _ _ => c = 6) := by
  have hF := Fr_G ht
  have hC := h.C
  obtain ⟨hH, hX, hT, hCC, hTp, hA, hW, hK, hLg⟩ := h
  exact ⟨⟨HI_G ht hH, XOk_fr hX hF, CTree_fr hT hF id (fun _ _ => id) (fun _ _ _ q => absurd q (by decide)), CCon_fr hCC hF hC (fun _ _ _ _ => id), hF.cnt hC id hTp, CActU_fr hA hF hC id (fun _ _ => ⟨id, id⟩) (fun _ _ _ => ⟨fun q => absurd q (by decide), fun q => absurd q (by decide), fun q => absurd q (by decide)⟩), CWas_fr hW hF hC (fun _ _ _ _ => id), CCac_fr hK hF hC (x_cache hC hX.1) id id (fun _ q => absurd q (by decide)) (fun _ _ => ⟨fun _ _ => id, fun _ q => absurd q (by decide), id, fun _ q => absurd q (by decide)⟩), toG_log ht (x_log hC hX.1)⟩, NA_G ht, hF.rf (fun _ _ _ q => by omega), hF⟩
/-- an entry outside the row is given its key -/
theorem begin_ok (hG : ClsG σ X pa aa ea sa z w) (hz : zIs σ q 3) (hq : q ∉ ea) (hk : KyP σ (X + 27) hd ps) (hP : ∀ τ, ClsG τ X pa aa ea sa z w → NA σ τ → RF σ τ → zIs τ q 3 → Ky τ (q + 1) (hd ++ ps.flatten) → zfl τ 3 2 q = signL (hd ++ ps.flatten) → zfi τ 3 3 q = 0 → KyP τ (X + 27) hd ps → capOf τ (X + 16) = capOf σ (X + 16) → capOf τ (X + 17) = capOf σ (X + 17) → P none τ) : wpM 29 [.ref q, .ref (X + 27)] σ P := by
  have hC := hG.C
  have hX := hG.2.1
  have hk5 : zIs σ (q + 1) 5 := zIs_of (cs_T hC le_3_0 hz)
  have hne := (en_X hC hz hX).2
  have ho7 : zIs σ (q + 4) 7 := zIs_of (cs_T hC le_3_1 hz)
  refine (b29 hC).mpr ⟨hz, keyBecome_ok hC hk5 hk hne (fun τ1 h1 => ?_)⟩
  have hF1 := Fr_KK' h1
  have hC1 := cs_toKK hC h1
  have hk1 := hF1.kyp hC (fun r => hne r.symm) hk
  have hky1 := toKK_ky h1 hk5
  refine b29_8.mpr ⟨hk1.1.1, sign_ok hC1 hk1.1 (b29_13.mpr ⟨hF1.is hz, hF1.is hz, ?_⟩)⟩
  have hF2 : Fr τ1 (sfl τ1 3 2 q (signL (hd ++ ps.flatten))) no1 no1 no1 (fun c' k' a' => c' = 3 ∧ k' = 2 ∧ a' = q) := Fr_fl
  have hC2 : CShape (sfl τ1 3 2 q (signL (hd ++ ps.flatten))) := hC1
  have hF3 : Fr (sfl τ1 3 2 q (signL (hd ++ ps.flatten))) (sfi (sfl τ1 3 2 q (signL (hd ++ ps.flatten))) 3 3 q 0) no1 no1 no1 (fun c' k' a' => c' = 3 ∧ k' = 3 ∧ a' = q) := Fr_fi (by decide) (by decide) (by decide) (by decide)
  have hF23 : Fr τ1 (sfi (sfl τ1 3 2 q (signL (hd ++ ps.flatten))) 3 3 q 0) no1 (fun x => x = q + 1) no1 (fun c _ a => c = 3 ∧ a = q) := (hF2.mono (fun _ => id) (fun _ => False.elim) (fun _ => id) (fun _ _ _ r => ⟨r.1, r.2.2⟩)).trans (hF3.mono (fun _ => id) (fun _ => False.elim) (fun _ => id) (fun _ _ _ r => ⟨r.1, r.2.2⟩)) hC2
  have hF : Fr σ (sfi (sfl τ1 3 2 q (signL (hd ++ ps.flatten))) 3 3 q 0) no1 (fun x => x = q + 1) no1 (fun c _ a => c = 3 ∧ a = q) := (hF1.mono (fun _ => id) (fun _ => id) (fun _ => id) (fun _ _ _ => False.elim)).trans hF23 hC1
  have hK := hG.2.2.2.2.2.2.2.1
  have hH1 : HI τ1 := HI_KK h1 hG.1
  refine hP _ (ClsU_lim hG (τ := sfi (sfl τ1 3 2 q (signL (hd ++ ps.flatten))) 3 3 q 0) hH1 ho7 (fun q' hq' r => hq (by rw [show q = q' by omega]; exact hq')) (hF.mono (fun _ => False.elim) (fun _ => id) (fun _ => id) (fun _ _ _ => id)) (fun k hk' => ⟨fun q' hq' r => hq (by rw [show q = q' by omega]; exact hq'), fun j s' hj hs' r => ak_ek hC (hG.2.2.2.2.2.1.2.2.2 j hj).1 hz hs' (by omega)⟩) (fun c _ a r => Or.inr (Or.inr ⟨r.1, by rw [r.2]; exact hq⟩))) (NA_KK h1 : NA σ τ1) (hF.rf (fun _ _ _ r => by omega)) (hF.is hz) (hF3.ky hC2 id (hF2.ky hC1 id hky1)) ?_ (if_pos ⟨rfl, rfl, rfl⟩) (hF3.kyp hC2 id (hF2.kyp hC1 id hk1)) (hF.cap id hK.1) (hF.cap id hK.2.1)
  exact if_pos ⟨rfl, rfl, rfl⟩
theorem unused_ok (hG : ClsG σ X pa aa ea sa z w) (hR : Rm σ X ea sa N M) (h100 : ea.length ≤ 100) (hk : KyP σ (X + 27) hd ps) (hP : ∀ τ q sa', ClsG τ X pa aa ea sa' z w → RmN τ X ((ea ++ sa').length + 1) N M → q ∉ ea → q ∉ sa' → (ea ++ sa').length ≤ 100 → zIs τ q 3 → Ky τ (q + 1) (hd ++ ps.flatten) → zfl τ 3 2 q = signL (hd ++ ps.flatten) → zfi τ 3 3 q = 0 → KyP τ (X + 27) hd ps → RF σ τ → P (some (.ref q)) τ) : wpM 10 [.ref (X + 15), .ref (X + 27)] σ P := by
  have hC := hG.C
  have hH := hG.1
  have hX := hG.2.1
  have hXc := x_cache hC hX.1
  have hG' := hG
  obtain ⟨_, _, _, _, _, _, _, hK, _⟩ := hG'
  obtain ⟨g0, g1, g2, g3, g4, g6, g7, g8, g9⟩ := hK
  have hlen : ea.length + sa.length ≤ 101 := by simpa using g3
  refine (b10 hC).mpr ⟨hXc, isEmpty_ok g1 (by omega) (b10_7.mpr ?_)⟩
  by_cases he : sa = []
  · subst he
    rw [if_pos rfl]
    refine ifn (by decide) (b10_10.mpr (b10_13.mpr ?_))
    have hw1 : HIw (zNew σ 3) := HIw_new (HIw_of hH)
    have f1 : NewF σ (zNew σ 3) (znx σ) := NewF_new hH.2.1 (Nat.le_refl _)
    have t1 : ztg (zNew σ 3) (znx σ) = (1, 3, 0) := if_pos rfl
    refine mkE_ok hw1 (zIs_of t1) rfl (fun τ hw2 f2 n2 s2 sh2 z2 => b10_17.mpr ?_)
    have f12 := f1.tr f2
    have hH2 : HI τ := HI_new hH f12 hw2 (fun a h1 h2 => sh2 a h1 (by omega))
    have hF := Fr_new hH.2.1 f12
    have hG2 : ClsG τ X pa aa ea [] z w := ClsU_fr0 hG hH2 hF
    have hq : znx σ ∉ ea := fun r => by
      have := (ent_ok hG r).1
      have := tag_lt hH.2.1 (show (ztg σ (znx σ)).1 ≠ 0 by rw [this.1]; exact Nat.succ_ne_zero 0)
      omega
    refine b10_39.mpr ⟨z2, begin_ok hG2 z2 hq (hF.kyp hC id hk) (fun υ hG3 hN3 hF3 k0 k1 k2 k3 k4 c1 c2 => b10_45.mpr (hP υ (znx σ) [] hG3 ?_ hq (by simp) (by simpa using h100) k0 k1 k2 k3 k4 ((hF.rf (fun _ _ _ r => r.elim)).tr hF3)))⟩
    have d1 := hF.cap id g0
    have d2 := hF.cap id g1
    have sl : zsl τ = zsl σ + 644 := by
      rw [s2]
      show zsl σ + (cRow 3).2.2 + 640 = _
      rw [show (cRow 3).2.2 = 4 from rfl]
    refine RmN_na (σ := τ) ?_ c1 c2 hN3
    unfold Rm RmN at hR
    unfold RmN
    rw [d1, d2, n2, sl]
    simp at hR ⊢
    omega
  · rw [if_neg he]
    refine ifp rfl ((b10_20 hC).mpr ⟨hXc, size_ok g1 (b10_31.mpr ⟨g1.1, ?_⟩)⟩)
    have hpos : 0 < sa.length := List.length_pos_iff.mpr he
    rw [show nI sa.length - 1 = nI (sa.length - 1) from pk_sub (b := 1) (by omega)]
    have hl : sa.length - 1 < sa.length := by omega
    refine removeAt_ok (P := fun r τ => wp 10 36 [some (.ref (X + 15)), some (.ref (X + 27)), none] (r.toList ++ []) τ P) hH g1 hl (fun τ h1 => b10_36.mpr ?_)
    have hF := Fr_L h1
    have hzq := hF.is (g4 _ (List.getElem_mem hl))
    refine ⟨hzq, b10_39.mpr ⟨hzq, ?_⟩⟩
    have hdl : sa.eraseIdx (sa.length - 1) = sa.take (sa.length - 1) := by
      rw [List.eraseIdx_eq_take_drop_succ, List.drop_eq_nil_of_le (by omega), List.append_nil]
    rw [hdl] at h1
    have hsplit : sa = sa.take (sa.length - 1) ++ [sa[sa.length - 1]] := by
      have := List.take_append_drop (sa.length - 1) sa
      rw [List.drop_eq_getElem_cons hl, List.drop_eq_nil_of_le (by omega)] at this
      exact this.symm
    have hnd := g2
    rw [hsplit, ← List.append_assoc] at hnd
    have hnd2 := List.nodup_append.mp hnd
    have hqn : sa[sa.length - 1] ∉ ea ++ sa.take (sa.length - 1) := fun r => hnd2.2.2 _ r _ (List.mem_singleton_self _) rfl
    have hqe : sa[sa.length - 1] ∉ ea := fun r => hqn (List.mem_append_left _ r)
    have hF' : Fr σ τ no1 no1 (cLs X) cF13 := hF.mono (fun _ => id) (fun _ => id) (fun _ r => Or.inr r) (fun _ _ _ => False.elim)
    have hlt : (ea ++ sa.take (sa.length - 1)).length + 1 = (ea ++ sa).length := by simp; omega
    have hG2 : ClsG τ X pa aa ea (sa.take (sa.length - 1)) z w := ClsU_cac (K' := wK w) hG h1.2.1 hF' ⟨hF.lst (show ¬ X + 16 = X + 17 by omega) g0, h1.2.2.1, hnd2.1, by omega, fun e hee => hF.is (g4 e (List.mem_of_mem_take hee)), RowI_fr g6 hF hC (fun _ _ => ⟨fun _ _ => id, fun _ => id, id, fun _ => id⟩), by rw [hF.fi rfl hXc id]; exact g7, by rw [hF.fi rfl hXc id]; exact g8, by rw [hF.fi rfl hXc id]; exact g9⟩
    have R1 := RmN_19 h1 g0 (by simp; omega) hR
    refine begin_ok hG2 hzq hqe (hF.kyp hC id hk) (fun υ hG3 hN3 hF3 k0 k1 k2 k3 k4 c1 c2 => b10_45.mpr (hP υ _ _ hG3 ?_ hqe (fun r => hqn (List.mem_append_right _ r)) (by omega) k0 k1 k2 k3 k4 ((cF13_rf hF').tr hF3)))
    rw [hlt]
    exact RmN_na R1 c1 c2 hN3
end UN
