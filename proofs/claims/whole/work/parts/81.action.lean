/-! THE CLASS: an action more -/
section AW
variable {σ τ υ : zSt} {P : Option Value → zSt → Prop} {X N M i s k n p q m : Nat} {pa aa ea sa : List Nat} {z : Nat → Con} {w : WT} {t : TreT} {a : ActT}
theorem usesT_oob {j : Nat} (h : aIns a i = [] ∨ aOut a j = []) : usesT t a i j = false := by
  unfold usesT
  rcases h with h | h
  · rw [h]; rfl
  · rw [h]
    rw [List.any_eq_false]
    intro x _ r
    cases r
/-- one more action -/
def aAdd (a : ActT) : ActT := (aN a + 1, fup (aIns a) (aN a) [], fup (aOut a) (aN a) [], fup (aSt a) (aN a) [])
theorem uses_add (hi : i < aN a) {j : Nat} (hj : j < aN a) : usesT t (aAdd a) i j = usesT t a i j := by
  unfold usesT
  show ((fup (aIns a) (aN a) [] i).any fun p => (fup (aOut a) (aN a) [] j).any _) = _
  rw [fup_ne (by omega), fup_ne (by omega)]
theorem act_fin (hG : ClsG σ X pa aa ea sa z w) (hH : HI τ) (hF : Fr σ τ no1 no1 (fun l => l = X + 14) no3) (hl : LVal τ (X + 14) (aa ++ [n])) (hn : n ∉ aa) (hA0 : zIs τ n 0 ∧ zfi τ 0 5 n = 0 ∧ zfl τ 0 6 n = 0 ∧ LVal τ (n + 1) [] ∧ LVal τ (n + 2) [] ∧ ∀ j, j < 2 → Ky τ (n + 6 + 3 * j) []) : ClsG τ X pa (aa ++ [n]) ea sa z (wT w, aAdd (wA w), wC w, wP w, (fun s i => if i = aN (wA w) then none else wW w s i), wK w, wL w) := by
  have hC := hG.C
  obtain ⟨_, hX, hT, hCC, hTp, hA, hW, hK, hLg⟩ := hG
  have hlen : aa.length = aN (wA w) := hA.2.1
  have pNew : pA (aa ++ [n]) (aN (wA w)) = n := by rw [← hlen]; exact pA_new
  have nX : ∀ j, j = 2 ∨ j = 16 ∨ j = 17 → ¬ X + j = X + 14 := by intro j hj; omega
  have hA2 : ∀ i, i < aN (wA w) → ActU τ pa (wA w) i (pA aa i) (usesT (wT w) (wA w)) := by
    intro i hi
    obtain ⟨g0, g1, g2, g3, g4, g5⟩ := hA.2.2.2 i hi
    refine ⟨hF.is g0, hF.lst (al_X hC g0 hX (Or.inl rfl) (Or.inr (Or.inl rfl))) g1, hF.lst (al_X hC g0 hX (Or.inr rfl) (Or.inr (Or.inl rfl))) g2, ?_, fun j hj => ?_, fun b => ?_⟩
    · rw [hF.fi rfl g0 id]; exact g3
    · rw [hF.ai (t := 4) (Or.inl rfl) (cs_T hC le_0_2 g0) id, hF.ai (t := 5) (Or.inr rfl) (cs_T hC le_0_3 g0) id]; exact g4 j hj
    · rw [hF.fl rfl g0 id]; exact g5 b
  refine ⟨hH, XOk_fr hX hF, CTree_fr hT hF (nX 2 (Or.inl rfl)) (fun p hp => pl_X hC (hT.2.2 p hp).1 hX (Or.inr (Or.inl rfl))) (fun _ _ _ => id), CCon_fr hCC hF hC (fun _ _ _ _ => id), hF.cnt hC id hTp, ⟨hl, by simp [hlen]; rfl, List.nodup_append.mpr ⟨hA.2.2.1, by simp, fun x hx y hy => by rw [List.mem_singleton] at hy; intro e; exact hn (by rw [← hy, ← e]; exact hx)⟩, fun i hi => ?_⟩, fun s i hs hi => ?_, CCac_fr hK hF hC (x_cache hC hX.1) (nX 16 (Or.inr (Or.inl rfl))) (nX 17 (Or.inr (Or.inr rfl))) (fun _ => id) (fun _ _ => ⟨fun _ _ => id, fun _ => id, id, fun _ => id⟩), hF.log hC id hLg⟩
  · have hi : i < aN (wA w) + 1 := hi
    show ActU τ pa (aAdd (wA w)) i _ (usesT (wT w) (aAdd (wA w)))
    by_cases e : i = aN (wA w)
    · subst e
      rw [pNew]
      obtain ⟨g0, g1, g2, g3, g4, g5⟩ := hA0
      have ei : aIns (aAdd (wA w)) (aN (wA w)) = [] := fup_same
      have eo : aOut (aAdd (wA w)) (aN (wA w)) = [] := fup_same
      have es : aSt (aAdd (wA w)) (aN (wA w)) = [] := fup_same
      refine ⟨g0, by rw [ei]; exact g3, by rw [eo]; exact g4, by rw [es]; exact g1, fun j hj => ?_, fun b => ?_⟩
      · rw [es] at hj; exact absurd hj (Nat.not_lt_zero j)
      · rw [g2, mb_0, usesT_oob (Or.inl ei)]
        constructor
        · intro r; cases r
        · rintro ⟨_, r⟩; cases r
    · have hi2 : i < aN (wA w) := by omega
      rw [pA_old (by rw [hlen]; exact hi2)]
      obtain ⟨g0, g1, g2, g3, g4, g5⟩ := hA2 i hi2
      have ei : aIns (aAdd (wA w)) i = aIns (wA w) i := fup_ne e
      have eo : aOut (aAdd (wA w)) i = aOut (wA w) i := fup_ne e
      have es : aSt (aAdd (wA w)) i = aSt (wA w) i := fup_ne e
      refine ⟨g0, by rw [ei]; exact g1, by rw [eo]; exact g2, by rw [es]; exact g3, fun j hj => by rw [es] at hj ⊢; exact g4 j hj, fun b => ?_⟩
      rw [g5 b]
      show _ ↔ b < aN (wA w) + 1 ∧ _
      by_cases hb : b = aN (wA w)
      · subst hb
        rw [usesT_oob (t := wT w) (a := aAdd (wA w)) (j := aN (wA w)) (Or.inr fup_same)]
        constructor
        · rintro ⟨r, _⟩; omega
        · rintro ⟨_, r⟩; cases r
      · constructor
        · rintro ⟨h1, h2⟩; exact ⟨by omega, by rw [uses_add hi2 h1]; exact h2⟩
        · rintro ⟨h1, h2⟩
          have h3 : b < aN (wA w) := by omega
          exact ⟨h3, by rw [uses_add hi2 h3] at h2; exact h2⟩
  · have hi : i < aN (wA w) + 1 := hi
    show Ky τ _ (wasL (if i = aN (wA w) then none else wW w s i))
    by_cases e : i = aN (wA w)
    · subst e
      rw [pNew, if_pos rfl]; exact hA0.2.2.2.2.2 s hs
    · have hi2 : i < aN (wA w) := by omega
      rw [pA_old (by rw [hlen]; exact hi2), if_neg e]
      exact hF.ky hC id (hW s i hs hi2)
theorem action_ok (h : Cls σ X w N M) (hI : WInv w) (hP : ∀ τ, Cls τ X (sAction w).1 (N + 110) (M + 1300) → RF σ τ → P (some (.int (sAction w).2)) τ) : wpM 90 [.ref X] σ P := by
  obtain ⟨pa, aa, ea, sa, z, hG, hR⟩ := id h
  have hC := hG.C
  have hH := hG.1
  have hX := hG.2.1
  have hA := hG.2.2.2.2.2.1
  have hK := hG.2.2.2.2.2.2.2.1
  have hlen : aa.length = aN (wA w) := hA.2.1
  have hzg := x_graph hC hX.1
  have h40 := hI.2.1.1
  refine (b90 hC).mpr ⟨hX.1, gsize_ok hC hzg hA.1 (b90_7.mpr ?_)⟩
  rw [hlen]
  by_cases c : 40 ≤ aN (wA w)
  · have e : sAction w = (w, -6) := if_pos c
    rw [e] at hP
    exact ifn (show ¬ nI (aN (wA w)) < nI 40 from nI_nlt c (by omega)) (b90_12.mpr (hP σ (Cls_mono h (by omega) (by omega)) RF.rf))
  have c' : aN (wA w) < 40 := by omega
  have e : sAction w = ((wT w, aAdd (wA w), wC w, wP w, (fun s i => if i = aN (wA w) then none else wW w s i), wK w, wL w), nI (aN (wA w))) := if_neg c
  rw [e] at hP
  refine ifp (show nI (aN (wA w)) < nI 40 from nI_lt c' (by omega)) ((b90_15 hC).mpr ⟨hX.1, (b34 hC).mpr ⟨hzg, b34_7.mpr ?_⟩⟩)
  have hw1 : HIw (zNew σ 0) := HIw_new (HIw_of hH)
  have f1 : NewF σ (zNew σ 0) (znx σ) := NewF_new hH.2.1 (Nat.le_refl _)
  have t1 : ztg (zNew σ 0) (znx σ) = (1, 0, 0) := if_pos rfl
  refine mkA_ok hw1 (zIs_of t1) rfl (fun τ2 hw2 f2 n2 s2 sh2 pm2 => ?_)
  have f12 := f1.tr f2
  have hH2 : HI τ2 := HI_new hH f12 hw2 (fun a h1 h2 => sh2 a h1 (by omega))
  have hC2 := hH2.1
  have hF2 := Fr_new hH.2.1 f12
  have hG2 : ClsG τ2 X pa aa ea sa z w := ClsU_fr0 hG hH2 hF2
  have hK2 := hG2.2.2.2.2.2.2.2.1
  have R2 : Rm τ2 X ea sa (N + 12) (M + 919) := by
    have d1 := hF2.cap id hK.1
    have d2 := hF2.cap id hK.2.1
    have sl : zsl τ2 = zsl σ + 919 := by
      rw [s2]
      show zsl σ + (cRow 0).2.2 + 912 = _
      rw [show (cRow 0).2.2 = 7 from rfl]
    unfold Rm RmN at hR ⊢
    rw [d1, d2, n2, sl]
    omega
  obtain ⟨p0, p1, p2, p3, p4, p5⟩ := pm2
  obtain ⟨p3v, _⟩ := LE_val p3 hw2
  obtain ⟨p4v, _⟩ := LE_val p4 hw2
  have hA2 : LVal τ2 (X + 14) aa := hF2.lst id hA.1
  refine b34_11.mpr ⟨hA2.1, add_ok hH2 hA2 (by omega) (by unfold zAsg; rw [p0.1, p0.2]; rfl) (fun τ3 h3 => ?_)⟩
  have hF3 := Fr_L h3
  have hH3 := h3.2.1
  have hC3 := hH3.1
  have zg3 := hF3.is (hF2.is hzg)
  have l3 := h3.2.2.1
  refine (b34_14 hC3).mpr ⟨zg3, size_ok l3 (b34_22.mpr (b90_22.mpr ?_))⟩
  have el : nI (aa ++ [znx σ]).length - 1 = nI (aN (wA w)) := by rw [List.length_append, hlen]; exact nI_pred _
  rw [el]
  have hFs : Fr σ τ3 no1 no1 (fun l => l = X + 14) no3 := (hF2.mono (fun _ => id) (fun _ => id) (fun _ => False.elim) (fun _ _ _ => id)).trans hF3 hC2
  have R3 := Rm_L (w := w) R2 hK2 h3 (show X + 13 + 1 ≠ X + 16 by omega) (show X + 13 + 1 ≠ X + 17 by omega)
  have nn : znx σ ∉ aa := by
    intro r
    obtain ⟨i, hi, e⟩ := List.getElem_of_mem r
    have := (hA.2.2.2 i (by omega)).1
    rw [← pA_elem hi, e] at this
    have := tag_lt hH.2.1 (a := znx σ) (by rw [this.1]; exact Nat.succ_ne_zero 0)
    omega
  refine hP τ3 ⟨pa, aa ++ [znx σ], ea, sa, z, act_fin hG hH3 hFs l3 nn ⟨hF3.is p0, by rw [hF3.fi rfl p0 id]; exact p1, by rw [hF3.fl rfl p0 id]; exact p2, hF3.lst (fun r => ?_) p3v, hF3.lst (fun r => ?_) p4v, fun j hj => hF3.ky hC2 id (p5 j hj)⟩, Rm_mono R3 (by rw [List.length_append]; simp; omega) (by rw [List.length_append]; simp; omega)⟩ (hFs.rf (fun _ _ _ r => r.elim))
  · have hXlt : X + 14 < znx σ := tag_lt hH.2.1 (by rw [hA.1.1.1]; exact Nat.succ_ne_zero 0)
    have r : znx σ + 1 = X + 13 + 1 := r
    omega
  · have hXlt : X + 14 < znx σ := tag_lt hH.2.1 (by rw [hA.1.1.1]; exact Nat.succ_ne_zero 0)
    have r : znx σ + 2 = X + 13 + 1 := r
    omega
end AW
