/-! THE CLASS: a path more, whole -/
section PW
variable {σ τ υ : zSt} {P : Option Value → zSt → Prop} {X N M i s k n p q m : Nat} {pa aa ea sa : List Nat} {z cv : Nat → Con} {w : WT} {t : TreT} {a : ActT} {x y v : Int32} {d : Bool}
theorem pA_old {x : Nat} (h : p < pa.length) : pA (pa ++ [x]) p = pA pa p := by
  unfold pA
  rw [List.getD_eq_getElem?_getD, List.getD_eq_getElem?_getD, List.getElem?_append_left h]
theorem pA_new {x : Nat} : pA (pa ++ [x]) pa.length = x := by
  unfold pA
  rw [List.getD_eq_getElem?_getD, List.getElem?_append_right (Nat.le_refl _), Nat.sub_self]; rfl
def pLs (X f : Nat) (d : Bool) : Nat → Prop := fun l => l = X + 2 ∨ (d = false ∧ l = f)
theorem path_fin (hG : ClsG σ X pa aa ea sa z w) (hI : WInv w) (hq : q < tN (wT w)) (h60 : tN (wT w) < 60) (hH : HI τ) (hF : Fr σ τ no1 no1 (pLs X (pA pa q + 2) d) no3) (hl : LVal τ (X + 2) (pa ++ [n])) (hp : zIs τ n 8 ∧ zfi τ 8 0 n = nI (tN (wT w)) ∧ zfi τ 8 1 n = nI q ∧ zfi τ 8 2 n = nI m ∧ zfi τ 8 3 n = b2I d ∧ zfi τ 8 6 n = -1 ∧ LVal τ (n + 2) [] ∧ ∀ j, j < 2 → Cnt τ (n + 3 + 2 * j) none) (hm : m ≤ 26) (h0 : fAt (wT w) q m = []) (hfile : d = false → LVal τ (pA pa q + 2) (((fLo (wT w) q m).map (pA pa)) ++ n :: (fHi (wT w) q m).map (pA pa))) : ClsG τ X (pa ++ [n]) aa ea sa (fup z (tN (wT w)) none) (tAdd (wT w) q m d, wA w, (fun s k => if k = tN (wT w) then none else wC w s k), wP w, wW w, wK w, wL w) := by
  have hC := hG.C
  have hT1 := hI.1
  have hA1 := hI.2.1
  obtain ⟨_, hX, hT, hCC, hTp, hA, hW, hK, hLg⟩ := hG
  have hlen : pa.length = tN (wT w) := hT.2.1
  have mapOld : ∀ l : List Nat, (∀ k ∈ l, k < tN (wT w)) → l.map (pA (pa ++ [n])) = l.map (pA pa) := by
    intro l h
    apply List.map_congr_left
    intro k hk
    exact pA_old (by rw [hlen]; exact h k hk)
  have fOld : ∀ p, ∀ k ∈ filesT (wT w) p, k < tN (wT w) := fun p k hk => ((mem_filesT hT1).mp hk).1
  have nl : ∀ j, j = 14 ∨ j = 16 ∨ j = 17 → ¬ pLs X (pA pa q + 2) d (X + j) := by
    intro j hj r
    rcases r with r | ⟨_, r⟩
    · omega
    · exact pl_X hC (hT.2.2 q hq).1 hX (by omega) r.symm
  have pNew : pA (pa ++ [n]) (tN (wT w)) = n := by rw [← hlen]; exact pA_new
  refine ⟨hH, XOk_fr hX hF, ⟨hl, by simp [hlen]; rfl, fun p hp' => ?_⟩, fun s p hs hp' => ?_, hF.cnt hC id hTp, ?_, CWas_fr hW hF hC (fun _ _ _ _ => id), CCac_fr hK hF hC (x_cache hC hX.1) (nl 16 (by omega)) (nl 17 (by omega)) (fun _ => id) (fun _ _ => ⟨fun _ _ => id, fun _ => id, id, fun _ => id⟩), hF.log hC id hLg⟩
  · have hp' : p < tN (wT w) + 1 := hp'
    by_cases e : p = tN (wT w)
    · subst e
      rw [pNew]
      obtain ⟨g0, g1, g2, g3, g4, g5, g6, g7⟩ := hp
      refine ⟨g0, g1, ?_, ?_, ?_, ?_, ?_⟩
      · show _ = optI (fup (tPar (wT w)) (tN (wT w)) (some q) (tN (wT w)))
        rw [fup_same]; exact g2
      · show _ = nI (fup (tNam (wT w)) (tN (wT w)) m (tN (wT w)))
        rw [fup_same]; exact g3
      · show _ = b2I (fup (tDir (wT w)) (tN (wT w)) d (tN (wT w)))
        rw [fup_same]; exact g4
      · show _ = optI (fup (tMk (wT w)) (tN (wT w)) none (tN (wT w)))
        rw [fup_same]; exact g5
      · show LVal τ (n + 2) ((filesT (tAdd (wT w) q m d) (tN (wT w))).map _)
        rw [files_same (Or.inl (by omega))]
        have : filesT (wT w) (tN (wT w)) = [] := by
          refine List.eq_nil_iff_forall_not_mem.mpr (fun k hk => ?_)
          obtain ⟨k1, k2, _⟩ := (mem_filesT hT1).mp hk
          by_cases c0 : k = 0
          · rw [c0, hT1.2.2.1.1] at k2; cases k2
          · obtain ⟨⟨q', h1, h2, _⟩, _⟩ := hT1.2.2.2.1 k (by omega) k1
            rw [h2] at k2; cases k2; omega
        rw [this]; exact g6
    · have hp2 : p < tN (wT w) := by omega
      rw [pA_old (by rw [hlen]; exact hp2)]
      obtain ⟨g0, g1, g2, g3, g4, g5, g6⟩ := hT.2.2 p hp2
      refine ⟨hF.is g0, by rw [hF.fi rfl g0 id]; exact g1, ?_, ?_, ?_, ?_, ?_⟩
      · show _ = optI (fup (tPar (wT w)) (tN (wT w)) (some q) p)
        rw [fup_ne e, hF.fi rfl g0 id]; exact g2
      · show _ = nI (fup (tNam (wT w)) (tN (wT w)) m p)
        rw [fup_ne e, hF.fi rfl g0 id]; exact g3
      · show _ = b2I (fup (tDir (wT w)) (tN (wT w)) d p)
        rw [fup_ne e, hF.fi rfl g0 id]; exact g4
      · show _ = optI (fup (tMk (wT w)) (tN (wT w)) none p)
        rw [fup_ne e, hF.fi rfl g0 id]; exact g5
      · show LVal τ _ ((filesT (tAdd (wT w) q m d) p).map _)
        by_cases c : p = q ∧ d = false
        · obtain ⟨c1, c2⟩ := c
          subst c1 c2
          rw [files_new hm h0, List.map_append, List.map_cons, mapOld _ (fun k hk => (fLo_name k hk).2), mapOld _ (fun k hk => (fHi_name k hk).2), pNew]
          exact hfile rfl
        · have c' : p ≠ q ∨ d = true := by
            by_cases h1 : p = q
            · right
              cases hd : d with
              | true => rfl
              | false => exact absurd ⟨h1, hd⟩ c
            · exact Or.inl h1
          rw [files_same c', mapOld _ (fOld p)]
          refine hF.lst (fun r => ?_) g6
          rcases r with r | ⟨r1, r2⟩
          · exact pl_X hC g0 hX (Or.inl rfl) r
          · refine c ⟨tree_inj hT hT1.2.1 hp2 hq (by omega), r1⟩
  · have hp' : p < tN (wT w) + 1 := hp'
    show Cnt τ _ (con3 (fun s k => if k = tN (wT w) then none else wC w s k) (fup z (tN (wT w)) none) s p)
    by_cases e : p = tN (wT w)
    · subst e
      rw [pNew]
      have : con3 (fun s k => if k = tN (wT w) then none else wC w s k) (fup z (tN (wT w)) none) s (tN (wT w)) = none := by
        unfold con3
        by_cases h2 : s = 2
        · rw [if_pos h2]; exact fup_same
        · rw [if_neg h2]; exact if_pos rfl
      rw [this]; exact hp.2.2.2.2.2.2.2 s hs
    · have hp2 : p < tN (wT w) := by omega
      rw [pA_old (by rw [hlen]; exact hp2)]
      have : con3 (fun s k => if k = tN (wT w) then none else wC w s k) (fup z (tN (wT w)) none) s p = con3 (wC w) z s p := by
        unfold con3
        by_cases h2 : s = 2
        · rw [if_pos h2, if_pos h2]; exact fup_ne e
        · rw [if_neg h2, if_neg h2]; exact if_neg e
      rw [this]; exact hF.cnt hC id (hCC s p hs hp2)
  · have hA2 := CActU_fr hA hF hC (nl 14 (by omega)) (fun i hi => by
      have hz := (hA.2.2.2 i hi).1
      exact ⟨fun r => by
        rcases r with r | ⟨_, r⟩
        · exact al_X hC hz hX (Or.inl rfl) (Or.inl rfl) r
        · exact pl_al hC (hT.2.2 q hq).1 hz (Or.inl rfl) r.symm, fun r => by
        rcases r with r | ⟨_, r⟩
        · exact al_X hC hz hX (Or.inr rfl) (Or.inl rfl) r
        · exact pl_al hC (hT.2.2 q hq).1 hz (Or.inr rfl) r.symm⟩) (fun _ _ _ => ⟨id, id, id⟩)
    refine ⟨hA2.1, hA2.2.1, hA2.2.2.1, fun i hi => ?_⟩
    obtain ⟨g0, g1, g2, g3, g4, g5⟩ := hA2.2.2.2 i hi
    obtain ⟨b1, b2, b3, b4', b5', b6', b7', b8'⟩ := hA1.2.1 i hi
    refine ⟨g0, ?_, ?_, g3, g4, fun b => ?_⟩
    · show LVal τ _ ((aIns (wA w) i).map _)
      rw [mapOld _ b2]; exact g1
    · show LVal τ _ ((aOut (wA w) i).map _)
      rw [mapOld _ (fun k hk => (b6' k hk).1)]; exact g2
    · rw [g5 b]
      have : b < aN (wA w) → usesT (tAdd (wT w) q m d) (wA w) i b = usesT (wT w) (wA w) i b := by
        intro hb
        have hout := (hA1.2.1 b hb).2.2.2.2.2.1
        rw [Bool.eq_iff_iff, uses_iff, uses_iff]
        have pe : ∀ o, o ∈ aOut (wA w) b → tPar (tAdd (wT w) q m d) o = tPar (wT w) o := fun o ho => fup_ne (by have := (hout o ho).1; omega)
        constructor
        · rintro ⟨p, h1, o, h2, h3⟩; exact ⟨p, h1, o, h2, by rw [← pe o h2]; exact h3⟩
        · rintro ⟨p, h1, o, h2, h3⟩; exact ⟨p, h1, o, h2, by rw [pe o h2]; exact h3⟩
      constructor
      · rintro ⟨h1, h2⟩; exact ⟨h1, by show usesT (tAdd (wT w) q m d) (wA w) i b = true; rw [this h1]; exact h2⟩
      · rintro ⟨h1, h2⟩; exact ⟨h1, by rw [← this h1]; exact h2⟩
theorem fAt_taken (hT : TInv t) (hm : 1 ≤ m) (h : ((List.range (tN t)).any fun k => decide (tPar t k = some q) && decide (tNam t k = m)) = false) : fAt t q m = [] := by
  unfold fAt
  rw [List.filter_eq_nil_iff]
  intro k hk r
  rw [Bool.and_eq_true, Bool.and_eq_true, decide_eq_true_iff, decide_eq_true_iff] at r
  rw [List.any_eq_false] at h
  refine h k hk ?_
  rw [Bool.and_eq_true, decide_eq_true_iff, decide_eq_true_iff]
  exact ⟨r.1, r.2.1⟩
theorem path_ok (h : Cls σ X w N M) (hI : WInv w) (hP : ∀ τ, Cls τ X (sPath w x y d).1 (N + 250) (M + 1100) → RF σ τ → P (some (.int (sPath w x y d).2)) τ) : wpM 82 [.ref X, .int x, .int y, .int (b2I d)] σ P := by
  obtain ⟨pa, aa, ea, sa, z, hG, hR⟩ := id h
  have hC := hG.C
  have hH := hG.1
  have hX := hG.2.1
  have hT := hG.2.2.1
  have hT1 := hI.1
  have h31 := hI.1.n31
  have same : ∀ r, sPath w x y d = (w, r) → P (some (.int r)) σ := by
    intro r e
    have := hP σ
    rw [e] at this
    exact this (Cls_mono h (by omega) (by omega)) RF.rf
  refine (b82 hC).mpr ⟨hX.1, ?_⟩
  rcases ixN_cases x h31 with ⟨e, hx⟩ | ⟨q, hq, rfl, e⟩
  · exact thas_no hC hX.1 hT hx (b82_8.mpr (ifp rfl (b82_22.mpr (same _ (by unfold sPath; rw [e])))))
  have eS : sPath w (nI q) y d = if y < 1 ∨ 26 < y then (w, -2) else if tDir (wT w) q = false then (w, -3)
    else if ((List.range (tN (wT w))).any fun k => decide (tPar (wT w) k = some q) && decide (tNam (wT w) k = y.toNatClampNeg)) = true then (w, -4)
    else if 60 ≤ tN (wT w) then (w, -6)
    else ((tAdd (wT w) q y.toNatClampNeg d, wA w, (fun s k => if k = tN (wT w) then none else wC w s k), wP w, wW w, wK w, wL w), nI (tN (wT w))) := by
    unfold sPath; rw [e]; rfl
  refine thas_yes hC hX.1 hT h31 hq (b82_8.mpr (ifn (by decide) (b82_11.mpr ?_)))
  by_cases y1 : y < 1
  · exact ifp y1 (b82_22.mpr (same _ (by rw [eS, if_pos (Or.inl y1)])))
  by_cases y2 : y ≤ 26
  · have hm : ∃ m, y = nI m ∧ 1 ≤ m ∧ m ≤ 26 := by
      rcases pk_ix y (n := 27) (by omega) with g | g | ⟨k, hk, rfl⟩
      · exact absurd (Int32.lt_trans g (by decide)) y1
      · exact absurd (Int32.le_trans g y2) (by decide)
      · refine ⟨k, rfl, ?_, by omega⟩
        cases k with
        | zero => exact absurd (by decide) y1
        | succ k => omega
    obtain ⟨m, rfl, hm1, hm2⟩ := hm
    rw [if_neg (fun r => by rcases r with r | r; exact y1 r; exact absurd y2 (Int32.not_le.mpr r)), nI_clamp (by omega)] at eS
    obtain ⟨k0, k1, k2, k3, k4, k5, k6⟩ := hT.2.2 q hq
    refine ifn y1 (b82_16.mpr (ifp y2 ((b82_25 hC).mpr ⟨hX.1, tat_ok hC hX.1 hT hq (b82_33.mpr ⟨k0, ?_⟩)⟩)))
    rw [k4]
    by_cases c0 : tDir (wT w) q = false
    · rw [c0]
      exact ifn (fun r => r rfl) (b82_39.mpr (same _ (by rw [eS, if_pos c0])))
    rw [show tDir (wT w) q = true by simpa using c0]
    refine ifp (by decide) ((b82_42 hC).mpr ⟨hX.1, taken_ok hC hX.1 hT hT1 hq hm2 (b82_51.mpr ?_)⟩)
    by_cases c1 : ((List.range (tN (wT w))).any fun k => decide (tPar (wT w) k = some q) && decide (tNam (wT w) k = m)) = true
    · rw [c1]
      exact ifn (by decide) (b82_54.mpr (same _ (by rw [eS, if_neg c0, if_pos c1])))
    have c1f : ((List.range (tN (wT w))).any fun k => decide (tPar (wT w) k = some q) && decide (tNam (wT w) k = m)) = false := Bool.eq_false_iff.mpr c1
    rw [c1f]
    refine ifp rfl ((b82_57 hC).mpr ⟨hX.1, tsize_ok hC hX.1 hT (b82_64.mpr ?_)⟩)
    by_cases c2 : 60 ≤ tN (wT w)
    · have := hT1.2.1
      exact ifn (show ¬ nI (tN (wT w)) < nI 60 from nI_nlt c2 (by omega)) (b82_69.mpr (same _ (by rw [eS, if_neg c0, if_neg c1, if_pos c2])))
    have c2' : tN (wT w) < 60 := by omega
    rw [if_neg c0, if_neg c1, if_neg c2] at eS
    rw [eS] at hP
    have h0 := fAt_taken hT1 hm1 c1f
    have hlen : pa.length = tN (wT w) := hT.2.1
    have hK := hG.2.2.2.2.2.2.2.1
    refine ifp (show nI (tN (wT w)) < nI 60 from nI_lt c2' (by omega)) ((b82_72 hC).mpr ⟨hX.1, b79.mpr ?_⟩)
    -- the new path
    have hw1 : HIw (zNew σ 8) := HIw_new (HIw_of hH)
    have f1 : NewF σ (zNew σ 8) (znx σ) := NewF_new hH.2.1 (Nat.le_refl _)
    have t1 : ztg (zNew σ 8) (znx σ) = (1, 8, 0) := if_pos rfl
    have F1 := Fr_new hH.2.1 f1
    have hzt := x_tree hC hX.1
    have hX1lt : X + 1 < znx σ := tag_lt hH.2.1 (by rw [hzt.1]; exact Nat.succ_ne_zero 0)
    have hr1 : zfr (zNew σ 8) 10 0 (X + 1) = some (X + 2) := by
      rw [((f1.1 (X + 1) hX1lt).2.1 10 0).2.2]
      exact cs_R hC le_10_0 hzt
    have hl1 := F1.lst id hT.1
    refine (n79_3 (f1.is hzt) hr1 hl1.1).mpr (size_ok hl1 (b79_11.mpr ?_))
    rw [hlen]
    refine mkP_ok hw1 (zIs_of t1) rfl (by cases d <;> decide) (fun τ2 hw2 f2 n2 s2 sh2 pm2 => ?_)
    have f12 := f1.tr f2
    have hH2 : HI τ2 := HI_new hH f12 hw2 (fun a h1 h2 => sh2 a h1 (by omega))
    have hC2 := hH2.1
    have hF2 := Fr_new hH.2.1 f12
    have hG2 : ClsG τ2 X pa aa ea sa z w := ClsU_fr0 hG hH2 hF2
    have hK2 := hG2.2.2.2.2.2.2.2.1
    have lt : ∀ c k, zIs σ c k → c < znx σ := fun c k hz => tag_lt hH.2.1 (by rw [hz.1]; exact Nat.succ_ne_zero 0)
    have hXlt := lt X 11 hX.1
    have hqlt := lt (pA pa q) 8 k0
    have R2 : Rm τ2 X ea sa (N + 9) (M + 211) := by
      have d1 := hF2.cap id hK.1
      have d2 := hF2.cap id hK.2.1
      have sl : zsl τ2 = zsl σ + 144 := by
        rw [s2]
        show zsl σ + (cRow 8).2.2 + 137 = _
        rw [show (cRow 8).2.2 = 7 from rfl]
      unfold Rm RmN at hR ⊢
      rw [d1, d2, n2, sl]
      omega
    obtain ⟨p0, p1, p2, p3, p4, p5, p6, p7⟩ := pm2
    obtain ⟨p6v, _⟩ := LE_val p6 hw2
    refine (b79_17 hC2).mpr ⟨hF2.is hzt, add_ok hH2 (hF2.lst id hT.1) (by rw [hlen]; omega) (by unfold zAsg; rw [p0.1, p0.2]; rfl) (fun τ3 h3 => b79_28.mpr ?_)⟩
    have hF3 := Fr_L h3
    have hH3 := h3.2.1
    have hC3 := hH3.1
    have hX2 : XOk τ2 X := hG2.2.1
    have hK3 : CCac τ3 X ea sa (wK w) := CCac_fr hK2 hF3 hC2 (x_cache hC2 hX2.1) (show ¬ X + 16 = X + 2 by omega) (show ¬ X + 17 = X + 2 by omega) (fun _ => id) (fun _ _ => ⟨fun _ _ => id, fun _ => id, id, fun _ => id⟩)
    have R3 := Rm_L (w := w) R2 hK2 h3 (show X + 1 + 1 ≠ X + 16 by omega) (show X + 1 + 1 ≠ X + 17 by omega)
    have R3' : Rm τ3 X ea sa (N + 150) (M + 800) := Rm_mono R3 (by simp; omega) (by simp; omega)
    have fin : ∀ τ, HI τ → Fr τ3 τ no1 no1 (fun l => d = false ∧ l = pA pa q + 2) no3 → (d = false → LVal τ (pA pa q + 2) (((fLo (wT w) q m).map (pA pa)) ++ znx σ :: (fHi (wT w) q m).map (pA pa))) → Rm τ X ea sa (N + 250) (M + 1100) → wp 79 43 [some (.ref (X + 1)), some (.int (nI q)), some (.int (nI m)), some (.int (b2I d)), some (.ref (znx σ))] [] τ (fun r τ => wp 82 82 [some (.ref X), some (.int (nI q)), some (.int (nI m)), some (.int (b2I d))] (r.toList ++ []) τ P) := by
      intro τ hHf hFf hfile hRf
      have hFs : Fr σ τ no1 no1 (pLs X (pA pa q + 2) d) no3 := ((hF2.mono (fun _ => id) (fun _ => id) (fun _ => False.elim) (fun _ _ _ => id)).trans (hF3.mono (fun _ => id) (fun _ => id) (fun _ r => Or.inl r) (fun _ _ _ => id)) hC2).trans (hFf.mono (fun _ => id) (fun _ => id) (fun _ r => Or.inr r) (fun _ _ _ => id)) hC3
      have z3 := hF3.is p0
      have zf := hFf.is z3
      have g : ∀ k, zfi τ 8 k (znx σ) = zfi τ2 8 k (znx σ) := fun k => by rw [hFf.fi rfl z3 id, hF3.fi rfl p0 id]
      refine b79_43.mpr ⟨zf, ?_⟩
      rw [g 0, p1]
      refine b82_82.mpr (hP τ ⟨pa ++ [znx σ], aa, ea, sa, _, path_fin (n := znx σ) (q := q) (m := m) (d := d) hG hI hq c2' hHf hFs (hFf.lst (fun r => pl_X hC k0 hX (Or.inl rfl) r.2.symm) h3.2.2.1) ⟨zf, by rw [g]; exact p1, by rw [g]; exact p2, by rw [g]; exact p3, by rw [g]; exact p4, by rw [g]; exact p5, hFf.lst (fun r => by omega) (hF3.lst (show ¬ znx σ + 2 = X + 2 by omega) p6v), fun j hj => hFf.cnt hC3 id (hF3.cnt hC2 id (p7 j hj))⟩ hm2 h0 hfile, hRf⟩ (hFs.rf (fun _ _ _ r => r.elim)))
    cases hd : d with
    | true =>
      subst hd
      exact ifp (by decide) (fin τ3 hH3 Fr.refl (fun r => by cases r) (Rm_mono R3' (by omega) (by omega)))
    | false =>
      subst hd
      have hq' : q < (pa ++ [znx σ]).length := by simp; omega
      have eq' : (pa ++ [znx σ])[q] = pA pa q := by
        have h1 := pA_elem (pa := pa ++ [znx σ]) hq'
        rw [h1]; exact pA_old (by omega)
      refine ifn (by decide) (b79_33.mpr ⟨hF3.is (hF2.is hzt), (b77 hC3).mpr ⟨hF3.is (hF2.is hzt), get_ok h3.2.2.1 hq' (b77_8.mpr ?_)⟩⟩)
      rw [eq']
      have zq3 := hF3.is (hF2.is k0)
      refine ⟨zq3, b79_38.mpr ⟨zq3, ?_⟩⟩
      have esp := files_split hm2 h0
      have hv3 : LVal τ3 (pA pa q + 2) ((filesT (wT w) q).map (pA pa)) := hF3.lst (fun r => pl_X hC k0 hX (Or.inl rfl) r) (hF2.lst id k6)
      rw [esp, List.map_append] at hv3
      have nm : ∀ k, k < tN (wT w) → zIs τ3 (pA pa k) 8 ∧ zfi τ3 8 2 (pA pa k) = nI (tNam (wT w) k) := by
        intro k hk
        obtain ⟨m0, m1, m2, m3, _⟩ := hT.2.2 k hk
        exact ⟨hF3.is (hF2.is m0), by rw [hF3.fi rfl (hF2.is m0) id, hF2.fi rfl m0 id]; exact m3⟩
      have nmn : zfi τ3 8 2 (znx σ) = nI m := by rw [hF3.fi rfl p0 id]; exact p3
      have n26 : ∀ k, k < tN (wT w) → tNam (wT w) k ≤ 26 := by
        intro k hk
        by_cases c : k = 0
        · rw [c, hT1.2.2.1.2.1]; omega
        · exact (hT1.2.2.2.1 k (by omega) hk).2.2
      have hfl := filesT_len hT1 (p := q)
      rw [esp, List.length_append] at hfl
      refine addFile_ok (P := fun r τ => wp 79 43 [some (.ref (X + 1)), some (.int (nI q)), some (.int (nI m)), some (.int (b2I false)), some (.ref (znx σ))] (r.toList ++ []) τ (fun r τ => wp 82 82 [some (.ref X), some (.int (nI q)), some (.int (nI m)), some (.int (b2I false))] (r.toList ++ []) τ P)) (A := ((fLo (wT w) q m).map (pA pa)).length) (B := []) hH3 zq3 hv3 (hF3.is p0) (fun g hg => ?_) (by simp; omega) (by simp) (fun i hi hiA => ?_) (fun hA => ?_) (fun τ4 h4 => ?_)
      · rcases List.mem_append.mp hg with hg | hg
        · obtain ⟨k, hk, rfl⟩ := List.mem_map.mp hg
          exact (nm k (fLo_name k hk).2).1
        · obtain ⟨k, hk, rfl⟩ := List.mem_map.mp hg
          exact (nm k (fHi_name k hk).2).1
      · rw [List.getElem_append_left hiA, List.getElem_map, nmn]
        have hi2 : i < (fLo (wT w) q m).length := by simpa using hiA
        obtain ⟨h1, h2⟩ := fLo_name _ (List.getElem_mem hi2)
        rw [(nm _ h2).2]
        exact nI_lt h1 (by omega)
      · rw [List.getElem_append_right (Nat.le_refl _), List.getElem_map, nmn]
        have hA2 : ((fLo (wT w) q m).map (pA pa)).length - ((fLo (wT w) q m).map (pA pa)).length < (fHi (wT w) q m).length := by
          simp at hA ⊢; omega
        obtain ⟨h1, h2⟩ := fHi_name _ (List.getElem_mem hA2)
        rw [(nm _ h2).2]
        have := n26 _ h2
        exact nI_nlt (by omega) (by omega)
      · rw [insert_mid] at h4
        have hF4 := Fr_L h4
        have R4 := Rm_L (w := w) R3' hK3 h4 (fun r => pl_X hC k0 hX (by omega) r) (fun r => pl_X hC k0 hX (by omega) r)
        refine fin τ4 h4.2.1 (hF4.mono (fun _ => id) (fun _ => id) (fun _ r => ⟨rfl, r⟩) (fun _ _ _ => id)) (fun _ => h4.2.2.1) (Rm_mono R4 ?_ ?_)
        · simp; omega
        · simp; omega
  · exact ifn y1 (b82_16.mpr (ifn y2 (b82_22.mpr (same _ (by rw [eS, if_pos (Or.inr (Int32.not_le.mp y2))])))))
end PW
