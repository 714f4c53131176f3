/-! THE CLASS'S FILES: what is changed -/
section CW
variable {σ τ υ : zSt} {P : Option Value → zSt → Prop} {X N M : Nat} {pa aa ea sa : List Nat} {z : Nat → Con} {w : WT} {t : TreT} {x y n : Int32} {p s : Nat} {Cs Ks Ls : Nat → Prop} {Fs : Nat → Nat → Nat → Prop}
theorem ClsG.C (h : ClsG σ X pa aa ea sa z w) : CShape σ := h.1.1
theorem ClsU.C {u : Nat → Nat → Bool} (h : ClsU σ X pa aa ea sa z w u) : CShape σ := h.1.1
theorem ent_ok {u : Nat → Nat → Bool} (h : ClsU σ X pa aa ea sa z w u) {q : Nat} (hq : q ∈ ea) : zIs σ q 3 ∧ zIs σ (q + 4) 7 := by
  obtain ⟨hH, hX, hT, hCC, hTp, hA, hW, hK, hLg⟩ := h
  obtain ⟨g0, g1, g2, g3, g4, ⟨pe, e1, e2, g6⟩, g7⟩ := hK
  rw [e1] at hq
  obtain ⟨p, hp, rfl⟩ := List.mem_map.mp hq
  have := g6 p hp
  exact ⟨this.1, this.2.2.1.1⟩
/-- the tape or a path's content, anew: the rest stays -/
theorem Cls_tape (h : ClsG σ X pa aa ea sa z w) {l : List Int32} (ht : toC σ τ (X + 11) (some l)) : ClsG τ X pa aa ea sa z (wT w, wA w, wC w, l, wW w, wK w, wL w) ∧ NA σ τ ∧ RF σ τ ∧ Fr σ τ (fun x => x = X + 11) no1 no1 no3 := by
  have hF := Fr_C ht
  have hC := h.C
  have he := fun q (hq : q ∈ ea) => ent_ok h hq
  obtain ⟨hH, hX, hT, hCC, hTp, hA, hW, hK, hLg⟩ := h
  refine ⟨⟨HI_C ht hH, XOk_fr hX hF, CTree_fr hT hF id (fun _ _ => id) (fun _ _ _ => id), CCon_fr hCC hF hC (fun s p hs hp q => (pc_X hC (hT.2.2 p hp).1 hX hs).1 q), toC_Cnt ht (x_tape hC hX.1), CAct_fr hA hF hC id (fun _ _ => ⟨id, id⟩) (fun _ _ _ => ⟨id, id, id⟩), CWas_fr hW hF hC (fun _ _ _ _ => id), CCac_fr hK hF hC (x_cache hC hX.1) id id (fun _ => id) (fun i hi => ⟨fun k hk q => (oc_X hC (he i hi).2 hX hk).1 q, fun _ => id, id, fun _ => id⟩), hF.log hC id hLg⟩, NA_C ht, hF.rf (fun _ _ _ q => q.elim), hF⟩
theorem Cls_con3 {u : Nat → Nat → Bool} (h : ClsU σ X pa aa ea sa z w u) (hI : tN (wT w) ≤ 60) {v : Con} (hs : s < 2) (hp : p < tN (wT w)) (ht : toC σ τ (pA pa p + 3 + 2 * s) v) {c' : Nat → Nat → Con} {z' : Nat → Con} (hc : ∀ s' p', s' < 2 → p' < tN (wT w) → con3 c' z' s' p' = if s' = s ∧ p' = p then v else con3 (wC w) z s' p') : ClsU τ X pa aa ea sa z' (wT w, wA w, c', wP w, wW w, wK w, wL w) u ∧ NA σ τ ∧ RF σ τ ∧ Fr σ τ (fun x => x = pA pa p + 3 + 2 * s) no1 no1 no3 := by
  have hF := Fr_C ht
  have hC := h.C
  have he := fun q (hq : q ∈ ea) => ent_ok h hq
  obtain ⟨hH, hX, hT, hCC, hTp, hA, hW, hK, hLg⟩ := h
  have hz := (hT.2.2 p hp).1
  refine ⟨⟨HI_C ht hH, XOk_fr hX hF, CTree_fr hT hF id (fun _ _ => id) (fun _ _ _ => id), ?_, hF.cnt hC (fun q => (pc_X hC hz hX hs).1 q.symm) hTp, CActU_fr hA hF hC id (fun _ _ => ⟨id, id⟩) (fun _ _ _ => ⟨id, id, id⟩), CWas_fr hW hF hC (fun _ _ _ _ => id), CCac_fr hK hF hC (x_cache hC hX.1) id id (fun _ => id) (fun i hi => ⟨fun k hk q => pc_oc hC hz (he i hi).2 hs hk q.symm, fun _ => id, id, fun _ => id⟩), hF.log hC id hLg⟩, NA_C ht, hF.rf (fun _ _ _ q => q.elim), hF⟩
  intro s' p' hs' hp'
  have hz' := (hT.2.2 p' hp').1
  show Cnt τ _ (con3 c' z' s' p')
  rw [hc s' p' hs' hp']
  by_cases q : s' = s ∧ p' = p
  · rw [if_pos q, q.1, q.2]
    exact toC_Cnt ht (hCC s p hs hp).1
  · rw [if_neg q]
    refine hF.cnt hC (fun r => q ?_) (hCC s' p' hs' hp')
    have := pc_inj hC hz' hz hs' hs r
    exact ⟨this.2, tree_inj hT hI hp' hp this.1⟩
theorem Cls_con (h : ClsG σ X pa aa ea sa z w) (hI : TInv (wT w)) {v : Con} (hs : s < 2) (hp : p < tN (wT w)) (ht : toC σ τ (pA pa p + 3 + 2 * s) v) : ClsG τ X pa aa ea sa z (wT w, wA w, fup2 (wC w) s p v, wP w, wW w, wK w, wL w) ∧ NA σ τ ∧ RF σ τ ∧ Fr σ τ (fun x => x = pA pa p + 3 + 2 * s) no1 no1 no3 := by
  refine Cls_con3 h hI.2.1 (by omega) hp ht (fun s' p' hs' hp' => ?_)
  unfold con3 fup2
  by_cases q : s' = 2
  · rw [if_pos q, if_neg (by omega), if_pos q]
  · rw [if_neg q, if_neg q]
theorem Rm_fr (hR : Rm σ X ea sa N M) (hF : Fr σ τ Cs Ks no1 Fs) (hK : CCac σ X ea sa (wK w)) (hN : NA σ τ) : Rm τ X ea sa N M := Rm_na hR (hF.cap id hK.1) (hF.cap id hK.2.1) hN
theorem write_ok (h : Cls σ X w N M) (hI : WInv w) (hP : ∀ τ, Cls τ X (sWrite w x y).1 N M → RF σ τ → P (some (.int (sWrite w x y).2)) τ) : wpM 85 [.ref X, .int x, .int y] σ P := by
  obtain ⟨pa, aa, ea, sa, z, hG, hR⟩ := h
  have hG' := hG
  obtain ⟨hH, hX, hT, hCC, hTp, hA, hW, hK, hLg⟩ := hG'
  have hC := hG.C
  unfold sWrite at hP
  refine b85.mpr ⟨hX.1, refS_ok hG hI (fun e => b85_6.mpr (ifn (by decide) (b85_11.mpr ?_))) (fun s p e ex ey hs hp => b85_6.mpr ?_)⟩
  · rw [e] at hP; exact hP σ ⟨pa, aa, ea, sa, z, hG, hR⟩ RF.rf
  · rw [e] at hP
    dsimp only at hP
    subst ex ey
    by_cases hd : srcW w p = true
    · rw [if_pos hd] at hP ⊢
      have hz := (hT.2.2 p hp).1
      have hcz := (hCC s p (by omega) hp).1
      refine ifp rfl ((b85_13 hC).mpr ⟨hX.1, tat_ok hC hX.1 hT hp ((b85_21 hC).mpr ⟨hz, nI_in (by omega) (by omega), hX.1, ?_⟩)⟩)
      rw [nI_clamp (by omega), show pA pa p + 1 + 2 + 2 * s = pA pa p + 3 + 2 * s by omega]
      refine become_ok hC hTp (pc_X hC hz hX (by omega)).1 hcz (fun τ ht => ?_)
      obtain ⟨hG1, hN1, hF1, hf1⟩ := Cls_con hG hI.1 hs hp ht
      have hC1 := hG1.C
      have h0 : toC τ (sfi τ 2 1 (X + 11) 0) (X + 11) (some []) := by
        refine ⟨0, zai τ 1 (X + 11 + 1), ?_, rfl, Nat.zero_le _, fun i h => absurd h (Nat.not_lt_zero i)⟩
        conv => lhs; rw [← C_self (σ := τ) (c := X + 11)]
        rw [C_sfi]
      obtain ⟨hG2, hN2, hF2, hf2⟩ := Cls_tape hG1 h0
      have hC2 := hG2.C
      have hT2 := hG2.2.2.1
      refine (b85_33 hC1).mpr ⟨hG1.2.1.1, tat_ok hC2 hG2.2.1.1 hT2 hp ((b85_49 hC2).mpr ⟨(hT2.2.2 p hp).1, nI_in (by omega) (by omega), ?_⟩)⟩
      have hc2 := hG2.2.2.2.1 s p (by omega) hp
      rw [nI_clamp (by omega), show pA pa p + 1 + 2 + 2 * s = pA pa p + 3 + 2 * s by omega, lenI_cnt hc2]
      have e3 : con3 (wC (wT w, wA w, fup2 (wC w) s p (some (wP w)), ([] : List Int32), wW w, wK w, wL w)) z s p = some (wP w) := by
        unfold con3; rw [if_neg (by omega)]; exact if_pos ⟨rfl, rfl⟩
      have e4 : con3 (wC (wT (wT w, wA w, fup2 (wC w) s p (some (wP w)), wP w, wW w, wK w, wL w), wA (wT w, wA w, fup2 (wC w) s p (some (wP w)), wP w, wW w, wK w, wL w), wC (wT w, wA w, fup2 (wC w) s p (some (wP w)), wP w, wW w, wK w, wL w), ([] : List Int32), wW (wT w, wA w, fup2 (wC w) s p (some (wP w)), wP w, wW w, wK w, wL w), wK (wT w, wA w, fup2 (wC w) s p (some (wP w)), wP w, wW w, wK w, wL w), wL (wT w, wA w, fup2 (wC w) s p (some (wP w)), wP w, wW w, wK w, wL w))) z s p = some (wP w) := e3
      rw [e4]
      exact hP _ ⟨pa, aa, ea, sa, z, hG2, Rm_fr (Rm_fr hR hf1 hK hN1) hf2 hG1.2.2.2.2.2.2.2.1 hN2⟩ (hF1.tr hF2)
    · rw [if_neg hd] at hP ⊢
      exact ifn (by decide) (b85_11.mpr (hP σ ⟨pa, aa, ea, sa, z, hG, hR⟩ RF.rf))
theorem remove_ok (h : Cls σ X w N M) (hI : WInv w) (hP : ∀ τ, Cls τ X (sRemove w x y).1 N M → RF σ τ → P (some (.int (sRemove w x y).2)) τ) : wpM 86 [.ref X, .int x, .int y] σ P := by
  obtain ⟨pa, aa, ea, sa, z, hG, hR⟩ := h
  have hG' := hG
  obtain ⟨hH, hX, hT, hCC, hTp, hA, hW, hK, hLg⟩ := hG'
  have hC := hG.C
  unfold sRemove at hP
  refine b86.mpr ⟨hX.1, refS_ok hG hI (fun e => b86_6.mpr (ifn (by decide) (b86_11.mpr ?_))) (fun s p e ex ey hs hp => b86_6.mpr ?_)⟩
  · rw [e] at hP; exact hP σ ⟨pa, aa, ea, sa, z, hG, hR⟩ RF.rf
  · rw [e] at hP
    dsimp only at hP
    subst ex ey
    by_cases hd : srcW w p = true
    · rw [if_pos hd] at hP ⊢
      have hz := (hT.2.2 p hp).1
      have hc := hCC s p (by omega) hp
      refine ifp rfl ((b86_13 hC).mpr ⟨hX.1, tat_ok hC hX.1 hT hp ((b86_21 hC).mpr ⟨hz, nI_in (by omega) (by omega), ?_⟩)⟩)
      rw [nI_clamp (by omega), show pA pa p + 1 + 2 + 2 * s = pA pa p + 3 + 2 * s by omega, lenI_cnt hc]
      have h0 : toC σ (sfi σ 2 1 (pA pa p + 3 + 2 * s) (-1)) (pA pa p + 3 + 2 * s) none := by
        refine ⟨-1, zai σ 1 (pA pa p + 3 + 2 * s + 1), ?_, rfl⟩
        conv => lhs; rw [← C_self (σ := σ) (c := pA pa p + 3 + 2 * s)]
        rw [C_sfi]
      obtain ⟨hG1, hN1, hF1, hf1⟩ := Cls_con hG hI.1 hs hp h0
      have e3 : con3 (wC w) z s p = wC w s p := by unfold con3; rw [if_neg (by omega)]
      rw [e3]
      exact hP _ ⟨pa, aa, ea, sa, z, hG1, Rm_fr hR hf1 hK hN1⟩ hF1
    · rw [if_neg hd] at hP ⊢
      exact ifn (by decide) (b86_11.mpr (hP σ ⟨pa, aa, ea, sa, z, hG, hR⟩ RF.rf))
theorem byteU (v : Int64) {k : Nat} (hk : k < 8) : (Int64.toInt32 ((v.toUInt64 >>> ((Int32.toInt64 (8 * nI k)).toUInt64 &&& Int64.toUInt64 63)).toInt64)) &&& 255 = byteW v k := by
  have tab : ∀ k, k < 8 → ((Int32.toInt64 (8 * nI k)).toUInt64 &&& Int64.toUInt64 63).toNat % 64 = 8 * k := by decide
  rw [pk_and _ 8 (by decide)]
  unfold byteW
  congr 1
  have e : (Int64.toInt32 ((v.toUInt64 >>> ((Int32.toInt64 (8 * nI k)).toUInt64 &&& Int64.toUInt64 63)).toInt64)).toBitVec = ((v.toUInt64 >>> ((Int32.toInt64 (8 * nI k)).toUInt64 &&& Int64.toUInt64 63)).toBitVec).signExtend 32 := rfl
  rw [e, BitVec.signExtend_eq_setWidth_of_le _ (by omega), BitVec.toNat_setWidth]
  have e2 : (v.toUInt64 >>> ((Int32.toInt64 (8 * nI k)).toUInt64 &&& Int64.toUInt64 63)).toBitVec.toNat = v.toBitVec.toNat / 2 ^ (8 * k) := by
    have : (v.toUInt64 >>> ((Int32.toInt64 (8 * nI k)).toUInt64 &&& Int64.toUInt64 63)).toNat = v.toUInt64.toNat / 2 ^ (((Int32.toInt64 (8 * nI k)).toUInt64 &&& Int64.toUInt64 63).toNat % 64) := by
      rw [UInt64.toNat_shiftRight, Nat.shiftRight_eq_div_pow]
    rw [tab k hk] at this
    exact this
  rw [e2]
  omega
theorem feed_ok {v : Int64} (h : Cls σ X w N M) (hI : WInv w) (hP : ∀ τ, Cls τ X (sFeed w v n).1 N M → RF σ τ → P (some (.int (sFeed w v n).2)) τ) : wpM 84 [.ref X, .long v, .int n] σ P := by
  obtain ⟨pa, aa, ea, sa, z, hG, hR⟩ := h
  have hG' := hG
  obtain ⟨hH, hX, hT, hCC, hTp, hA, hW, hK, hLg⟩ := hG'
  have hC := hG.C
  unfold sFeed at hP
  have bad : ∀ u, (n < 1 ∨ 8 < n) → wp 84 11 [some (.ref X), some (.long v), none, some (.int n), u] [] σ P := by
    intro u hn
    rw [if_pos hn] at hP
    exact b84_11.mpr (hP σ ⟨pa, aa, ea, sa, z, hG, hR⟩ RF.rf)
  by_cases h1 : n < 1
  · exact b84.mpr (ifp h1 (bad _ (Or.inl h1)))
  by_cases h8 : n ≤ 8
  · have hn : ∃ k, n = nI k ∧ 1 ≤ k ∧ k ≤ 8 := by
      rcases pk_ix n (n := 9) (by omega) with g | g | ⟨k, hk, rfl⟩
      · exact absurd (Int32.lt_trans g (by decide)) h1
      · exact absurd (Int32.le_trans g h8) (by decide)
      · refine ⟨k, rfl, ?_, by omega⟩
        cases k with
        | zero => exact absurd (by decide) h1
        | succ k => omega
    obtain ⟨m, rfl, hm1, hm8⟩ := hn
    rw [if_neg (by intro q; rcases q with q | q; exact h1 q; exact absurd h8 (Int32.not_le.mpr q)), nI_clamp (by omega)] at hP
    have hl := hTp.2.1
    have h64 := hTp.2.2.1
    refine b84.mpr (ifn h1 (b84_5.mpr (ifp h8 ((b84_14 hC).mpr ⟨hX.1, ?_⟩))))
    rw [hl, nI_add]
    by_cases hf : 64 < (wP w).length + m
    · rw [if_pos hf] at hP
      exact ifn (show ¬ nI ((wP w).length + m) ≤ nI 64 from nI_ge hf (by omega)) (b84_28.mpr (hP σ ⟨pa, aa, ea, sa, z, hG, hR⟩ RF.rf))
    · rw [if_neg hf] at hP
      refine ifp (show nI ((wP w).length + m) ≤ nI 64 from nI_le (by omega) (by omega)) (b84_31.mpr ?_)
      have blen : ∀ k, (bytesW v k).length = k := by
        intro k; induction k with
        | zero => rfl
        | succ k ih => show (bytesW v k).length + 1 = _; rw [ih]
      have key : ∀ k acc τ, k ≤ m → acc.length + k ≤ 64 → acc ++ bytesW v k = wP w ++ bytesW v m → toC σ τ (X + 11) (some acc) → wp 84 36 [some (.ref X), some (.long v), none, some (.int (nI m)), some (.int (nI k - 1))] [] τ P := by
        intro k
        induction k with
        | zero =>
          intro acc τ _ hacc he ht
          have he : acc = wP w ++ bytesW v m := by rw [← he]; exact (List.append_nil acc).symm
          refine b84_36.mpr (ifp (by decide) ?_)
          obtain ⟨hG1, hN1, hF1, hf1⟩ := Cls_tape hG ht
          refine (b84_67 hG1.C).mpr ⟨hG1.2.1.1, ?_⟩
          rw [lenI_cnt hG1.2.2.2.2.1]
          have e2 : lenI (some acc) = nI ((wP w).length + m) := by
            show nI acc.length = _
            rw [he, List.length_append, blen]
          have e3 : lenI (some (wP (wT w, wA w, wC w, acc, wW w, wK w, wL w))) = nI ((wP w).length + m) := e2
          rw [e3]
          rw [he] at hG1
          exact hP _ ⟨pa, aa, ea, sa, z, hG1, Rm_fr hR hf1 hK hN1⟩ hF1
        | succ k ih =>
          intro acc τ hkm hacc he ht
          have e1 : nI (k + 1) - 1 = nI k := nI_pred k
          rw [e1]
          refine b84_36.mpr (ifn (nI_pos (by omega)) ((b84_41 (cs_toC hC ht)).mpr ⟨toC_is ht hX.1, ?_⟩))
          rw [byteU v (by omega)]
          refine append_ok (cs_toC hC ht) (toC_Cnt ht (x_tape hC hX.1)) (by omega) (fun τ' h' => b84_60.mpr ?_)
          rw [show nI k + (-1) = nI k - 1 by rw [Int32.sub_eq_add_neg]]
          refine ih (acc ++ [byteW v k]) τ' (by omega) (by simp; omega) ?_ (toC_trans ht h')
          rw [← he]; simp [bytesW]
      exact key m (wP w) σ (Nat.le_refl _) (by omega) rfl (toC_self hTp)
  · exact b84.mpr (ifn h1 (b84_5.mpr (ifn h8 (bad _ (Or.inr (Int32.not_le.mp h8))))))
end CW
