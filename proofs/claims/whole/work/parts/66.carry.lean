/-! THE CLASS DOES AN ACTION -/
section CY
variable {σ τ υ : zSt} {P : Option Value → zSt → Prop} {X N M i s o k n f q : Nat} {pa aa ea sa : List Nat} {z : Nat → Con} {w : WT} {t : TreT} {a : ActT} {out cv : Nat → Con} {e : EntT} {hd : List Int32} {ps : List (List Int32)} {Cs Ks Ls : Nat → Prop} {Fs : Nat → Nat → Nat → Prop}
theorem addE_ok (hG : ClsG σ X pa aa ea sa z w) (hI : KInv (wK w)) (hR : RmN σ X ((ea ++ sa).length + 1) N M) (hq : q ∉ ea) (hq' : q ∉ sa) (hle : (ea ++ sa).length ≤ 100) (hE : EntI σ q e) (hok : entOk e) (hP : ∀ τ ea' sa', ClsG τ X pa aa ea' sa' z (wT w, wA w, wC w, wP w, wW w, ((wK w).1, (trimW (wK w).1 ((wK w).2.1 ++ [e])).1, (wK w).2.2 + nI (trimW (wK w).1 ((wK w).2.1 ++ [e])).2), wL w) → Rm τ X ea' sa' N M → RF σ τ → P none τ) : wpM 11 [.ref (X + 15), .ref q] σ P := by
  have hC := hG.C
  have hH := hG.1
  have hX := hG.2.1
  have hXc := x_cache hC hX.1
  have hG' := hG
  obtain ⟨_, _, _, _, _, _, _, hK, _⟩ := hG'
  obtain ⟨g0, g1, g2, g3, g4, ⟨pe, e1, e2, g6⟩, g7, g8, g9⟩ := hK
  subst e1
  have hlen : pe.length + sa.length ≤ 100 := by simpa using hle
  have hen : ∀ p ∈ pe ++ [(q, e)], entOk p.2 := by
    intro p hp
    rcases List.mem_append.mp hp with hp | hp
    · exact hI.2.2.2 p.2 (by rw [e2]; exact List.mem_map.mpr ⟨p, hp, rfl⟩)
    · rw [List.mem_singleton.mp hp]; exact hok
  refine (b11 hC).mpr ⟨hXc, add_ok hH g0 (by simp; omega) (zAsg3 hE.1) (fun τ1 h1 => ?_)⟩
  have hF1 := Fr_L h1
  have hC1 := h1.2.1.1
  have em : pe.map (·.1) ++ [q] = (pe ++ [(q, e)]).map (·.1) := by simp
  rw [em] at h1
  have R1 := RmN_18 h1 g1 (by simp; omega) hR
  have hE1 : EntI τ1 q e := EntI_fr hE hF1 hC (fun _ _ => id) (fun _ => id) id (fun _ => id)
  refine (b11_8 hC1).mpr ⟨hF1.is hXc, hE1.1, esize_ok hC1 hE1 hok (b11_21.mpr ⟨hF1.is hXc, hF1.is hXc, ?_⟩)⟩
  have f3 : zfi τ1 1 3 (X + 15) = nI (sizesW (wK w).2.1) := by rw [hF1.fi rfl hXc id]; exact g8
  have es : sizesW ((pe ++ [(q, e)]).map (·.2)) = sizesW (wK w).2.1 + eSize e := by
    rw [List.map_append, sizesW_app, ← e2]; rfl
  rw [f3, nI_add, ← es]
  have hF2 : Fr τ1 (sfi τ1 1 3 (X + 15) (nI (sizesW ((pe ++ [(q, e)]).map (·.2))))) no1 no1 no1 (fun c' k' a' => c' = 1 ∧ k' = 3 ∧ a' = X + 15) := Fr_fi (by decide) (by decide) (by decide) (by decide)
  have hC2 : CShape (sfi τ1 1 3 (X + 15) (nI (sizesW ((pe ++ [(q, e)]).map (·.2))))) := hC1
  have hF12 : Fr σ (sfi τ1 1 3 (X + 15) (nI (sizesW ((pe ++ [(q, e)]).map (·.2))))) no1 no1 (cLs X) cF1 := (hF1.mono (fun _ => id) (fun _ => id) (fun _ r => Or.inl r) (fun _ _ _ => False.elim)).trans (hF2.mono (fun _ => id) (fun _ => id) (fun _ => False.elim) (fun _ _ _ r => r.1)) hC1
  have hE2 : ∀ p ∈ pe ++ [(q, e)], EntI (sfi τ1 1 3 (X + 15) (nI (sizesW ((pe ++ [(q, e)]).map (·.2))))) p.1 p.2 := by
    intro p hp
    have : EntI σ p.1 p.2 := by
      rcases List.mem_append.mp hp with hp | hp
      · exact g6 p hp
      · rw [List.mem_singleton.mp hp]; exact hE
    exact EntI_fr this hF12 hC (fun _ _ => id) (fun _ (r : 7 = 1) => absurd r (by decide)) id (fun _ (r : 3 = 1) => absurd r (by decide))
  refine evict_ok (σ := sfi τ1 1 3 (X + 15) (nI (sizesW ((pe ++ [(q, e)]).map (·.2))))) (P := fun r τ => wp 11 29 [some (.ref (X + 15)), some (.ref q)] (r.toList ++ []) τ P) (pe := pe ++ [(q, e)]) (sa := sa) (cap := (wK w).1) (ev := (wK w).2.2) h1.2.1 (hF1.is hXc) (hF2.lst id h1.2.2.1) (hF2.lst id (hF1.lst (show ¬ X + 17 = X + 16 by omega) g1)) hE2 hen (by simp; omega) (show RmN (sfi τ1 1 3 (X + 15) _) X _ N M from R1) hI.1 ?_ (if_pos ⟨rfl, rfl, rfl⟩) ?_ (fun τ K eK hH3 hv3 hs3 k2 k3 k4 hF3 hR3 => b11_29.mpr ?_)
  · rw [← g7, ← hF1.fi rfl hXc id]; rfl
  · rw [← g9, ← hF1.fi rfl hXc id]; rfl
  have hF := hF12.trans hF3 hC2
  have hF13 := hF.mono (Cs' := no1) (Ks' := no1) (Ls' := cLs X) (Fs' := cF13) (fun _ => id) (fun _ => id) (fun _ => id) (fun _ _ _ r => Or.inl r)
  have em2 : (pe ++ [(q, e)]).map (·.2) = (wK w).2.1 ++ [e] := by rw [List.map_append, ← e2]; rfl
  have hdr := trimW_drop (wK w).1 ((wK w).2.1 ++ [e])
  rw [em2] at eK
  rw [← eK] at hdr
  have hnd0 : ((pe ++ [(q, e)]).map (·.1) ++ sa).Nodup := by
    rw [← em]
    have hp : (pe.map (·.1) ++ [q] ++ sa).Perm (q :: (pe.map (·.1) ++ sa)) := by
      rw [List.append_assoc]
      exact List.perm_middle
    rw [hp.nodup_iff, List.nodup_cons]
    exact ⟨fun r => by rcases List.mem_append.mp r with r | r; exact hq r; exact hq' r, g2⟩
  have hnd : (((pe ++ [(q, e)]).drop K).map (·.1) ++ (sa ++ ((pe ++ [(q, e)]).take K).map (·.1))).Nodup := by
    rw [List.map_drop, List.map_take]; exact nodup_move hnd0
  have hll : (((pe ++ [(q, e)]).drop K).map (·.1) ++ (sa ++ ((pe ++ [(q, e)]).take K).map (·.1))).length = (pe.map (·.1) ++ sa).length + 1 := by simp; omega
  have hEf : ∀ p ∈ pe ++ [(q, e)], EntI τ p.1 p.2 := fun p hp => EntI_fr (hE2 p hp) hF3 hC2 (fun _ _ => id) (fun _ (r : 7 = 1) => absurd r (by decide)) id (fun _ (r : 3 = 1) => absurd r (by decide))
  refine hP τ ((pe ++ [(q, e)]).drop K |>.map (·.1)) (sa ++ ((pe ++ [(q, e)]).take K).map (·.1)) (ClsU_cac hG hH3 hF13 ⟨hv3, hs3, hnd, by rw [hll]; omega, fun x hx => ?_, ⟨(pe ++ [(q, e)]).drop K, rfl, ?_, fun p hp => hEf p (List.mem_of_mem_drop hp)⟩, k2, ?_, by rw [k4, eK]⟩) ?_ (cF13_rf hF13)
  · rcases List.mem_append.mp hx with hx | hx
    · exact hF.is (g4 x hx)
    · obtain ⟨p, hp, rfl⟩ := List.mem_map.mp hx
      exact (hEf p (List.mem_of_mem_take hp)).1
  · show (trimW (wK w).1 ((wK w).2.1 ++ [e])).1 = _
    rw [hdr.1, ← em2, ← List.map_drop]
  · show _ = nI (sizesW (trimW (wK w).1 ((wK w).2.1 ++ [e])).1)
    rw [k3, hdr.1, ← em2, ← List.map_drop]
  · unfold Rm; rw [hll]; exact hR3
theorem sizes_erase : ∀ (es : List EntT) (j : Nat) (h : j < es.length), sizesW (es.eraseIdx j) + eSize es[j] = sizesW es
  | [], j, h => by simp at h
  | x :: es, 0, h => by
    show sizesW es + eSize x = eSize x + sizesW es
    omega
  | x :: es, j + 1, h => by
    have hj : j < es.length := by simpa using h
    have := sizes_erase es j hj
    show eSize x + sizesW (es.eraseIdx j) + eSize es[j] = eSize x + sizesW es
    omega
/-- what an entry has is laid out, its key is the latest one, the log has a row more -/
theorem lay_tail {now : KeyT} {f : Nat} {x5 x6 chg : Int32} {L' : LogT} (hG : ClsG σ X pa aa ea sa z w) (hI1 : TInv (wT w)) (hI2 : AInv (wT w) (wA w)) (hs : s < 2) (hi : i < aN (wA w)) (hz3 : zIs σ q 3) (hO : OutI σ (q + 4) n f out) (hk : KyP σ (X + 27) now.1 now.2) (hx6 : x6 = 0 ∨ x6 = 1) (hlog : (wL w).1.length < 40) (hL' : L' = ((wL w).1 ++ [(nI i, x6, nI f, chg)], (if x6 = 0 then (wL w).2.1 else (wL w).2.1 + 1), (if x6 = 0 then (wL w).2.2.1 + 1 else (wL w).2.2.1), (wL w).2.2.2))
    (hP : ∀ τ, ClsG τ X pa aa ea sa z (wT w, wA w, fup (wC w) s (layO (wC w s) (aOut (wA w) i) out 0), wP w, fup2 (wW w) s i (some now), wK w, L') → NA σ τ → RF σ τ → capOf τ (X + 16) = capOf σ (X + 16) → capOf τ (X + 17) = capOf σ (X + 17) → (∀ e, EntI σ q e → EntI τ q e) → wp 111 151 [some (.ref X), some (.int (nI s)), some (.int (nI i)), some (.ref (pA aa i)), some (.int chg), some (.int x5), some (.int x6), some (.ref q)] [] τ P) : wp 111 108 [some (.ref X), some (.int (nI s)), some (.int (nI i)), some (.ref (pA aa i)), some (.int chg), some (.int x5), some (.int x6), some (.ref q)] [] σ P := by
  have hC := hG.C
  have hX := hG.2.1
  have hz0 := (hG.2.2.2.2.2.1.2.2.2 i hi).1
  have hKc := hG.2.2.2.2.2.2.2.1
  have hTr := hG.2.2.1
  refine (b111_108 hC).mpr ⟨hz3, hz0, take_ok hG hI1 hI2 hi (by omega) hO (fun τ1 c' z' _ _ h3 hG1 hN1 hF1 hf1 => ?_)⟩
  obtain ⟨q1, q2⟩ := h3 (by omega)
  have k2 : con3 (wC w) z s = wC w s := by funext p; unfold con3; rw [if_neg (by omega)]
  rw [k2] at q2
  subst q1 q2
  have hC1 := hG1.C
  have hk1 := hf1.kyp hC id hk
  have hz01 := hf1.is hz0
  have hX1 := hG1.2.1
  have hO1 : OutI τ1 (q + 4) n f out := OutI_fr hO hf1 hC (fun k hk r => by
    obtain ⟨p, hp, r⟩ := r
    exact pc_oc hC (hTr.2.2 p hp).1 hO.1 (by omega) hk r.symm) (fun _ => id)
  have hkl : zIs τ1 (pA aa i + 6 + 3 * s) 5 := (hG1.2.2.2.2.2.2.1 s i hs hi).1
  refine (b111_118 hC1).mpr ⟨hz01, nI_in hs (by omega), hX1.1, ?_⟩
  rw [nI_clamp (by omega), show pA aa i + 5 + 1 + 3 * s = pA aa i + 6 + 3 * s by omega]
  refine keyBecome_ok hC1 hkl hk1 (ak_X hC1 hz01 hX1 hs) (fun τ2 ht2 => ?_)
  obtain ⟨hG2, hN2, hF2, hf2⟩ := ClsU_was (now := now) hG1 hs hi ht2
  have hC2 := hG2.C
  have hX2 := hG2.2.1
  have hO2 : OutI τ2 (q + 4) n f out := OutI_fr hO1 hf2 hC1 (fun _ _ => id) (fun _ => id)
  have hz32 := hf2.is (hf1.is hz3)
  refine (b111_131 hC2).mpr ⟨hX2.1, hz32, ?_⟩
  rw [hO2.2.2.1]
  refine logAdd_ok (g := X + 21) hC2 hG2.2.2.2.2.2.2.2.2 hlog hx6 (fun τ3 ht3 => ?_)
  obtain ⟨hG3, hN3, hF3, hf3⟩ := ClsU_log (L' := L') hG2 (by rw [hL']; exact ht3)
  have hK1 := hG1.2.2.2.2.2.2.2.1
  have hK2 := hG2.2.2.2.2.2.2.2.1
  refine hP τ3 hG3 (hN1.tr (hN2.tr hN3)) (hF1.tr (hF2.tr hF3)) ?_ ?_ (fun e he => ?_)
  · rw [hf3.cap id hK2.1, hf2.cap id hK1.1, hf1.cap id hKc.1]
  · rw [hf3.cap id hK2.2.1, hf2.cap id hK1.2.1, hf1.cap id hKc.2.1]
  · have e1 : EntI τ1 q e := EntI_fr he hf1 hC (fun k hk r => by
      obtain ⟨p, hp, r⟩ := r
      exact pc_oc hC (hTr.2.2 p hp).1 hO.1 (by omega) hk r.symm) (fun _ => id) id (fun _ => id)
    have e2 : EntI τ2 q e := EntI_fr e1 hf2 hC1 (fun _ _ => id) (fun _ => id) (fun r => ak_ek hC1 hz01 (hf1.is hz3) hs r.symm) (fun _ => id)
    exact EntI_fr e2 hf3 hC2 (fun _ _ => id) (fun _ (r : 7 = 6) => absurd r (by decide)) id (fun _ (r : 3 = 6) => absurd r (by decide))
def bOf (w : WT) : BldT := (wC w, wW w, wK w, wL w)
def withB (w : WT) (b : BldT) : WT := (wT w, wA w, b.1, wP w, b.2.1, b.2.2.1, b.2.2.2)
theorem CInv.cvOk {c : Nat → Nat → Con} {ins : List Nat} (h : CInv t c) (hs : s < 2) (hin : ∀ p ∈ ins, p < tN t) : cvOk t (c s) ins := fun p hp _ l hl => (h s p hs (hin p hp)).1 l hl
theorem RunC_of (hG : ClsG σ X pa aa ea sa z w) (hs : s < 2) (hi : i < aN (wA w)) : RunC σ X pa (wT w) (wA w) i (pA aa i) s (con3 (wC w) z s) := by
  obtain ⟨hH, hX, hT, hCC, hTp, hA, hW, hK, hLg⟩ := hG
  obtain ⟨g0, g1, g2, g3, g4, g5⟩ := hA.2.2.2 i hi
  exact ⟨hH, hX, hT, fun p hp => hCC s p hs hp, g0, g1, g2, g3, g4⟩
theorem findW_some {es : List EntT} {l : List Int32} {j : Nat} (h : findW es l = some j) : ∃ hj : j < es.length, eKey es[j] = l := by
  unfold findW at h
  rw [List.findIdx?_eq_some_iff_getElem] at h
  obtain ⟨hj, h1, _⟩ := h
  exact ⟨hj, of_decide_eq_true h1⟩
theorem erase_perm {α : Type} : ∀ (l : List α) (i : Nat) (h : i < l.length), (l[i] :: l.eraseIdx i).Perm l
  | [], i, h => by simp at h
  | x :: l, 0, _ => List.Perm.refl _
  | x :: l, i + 1, h => by
    have hi : i < l.length := by simpa using h
    exact (List.Perm.swap x l[i] (l.eraseIdx i)).trans (List.Perm.cons x (erase_perm l i hi))
theorem doW_some {b : BldT} {now : KeyT} {j : Nat} (hn : keyW t (b.1 s) a i = now) (h : findW b.2.2.1.2.1 (flatK now) = some j) : doW t a s i b = (fup b.1 s (layO (b.1 s) (aOut a i) (eOut (b.2.2.1.2.1.getD j ([], fun _ => none, 0, 0, 0))) 0), fup2 b.2.1 s i (some now), (b.2.2.1.1, b.2.2.1.2.1.eraseIdx j ++ [useE (b.2.2.1.2.1.getD j ([], fun _ => none, 0, 0, 0))], b.2.2.1.2.2), (b.2.2.2.1 ++ [(nI i, 0, nI (eFail (b.2.2.1.2.1.getD j ([], fun _ => none, 0, 0, 0))), chgW now (b.2.1 s i))], b.2.2.2.2.1, b.2.2.2.2.2.1 + 1, b.2.2.2.2.2.2)) := by
  unfold doW
  dsimp only
  rw [hn, h]
theorem doW_none {b : BldT} {now : KeyT} (hn : keyW t (b.1 s) a i = now) (h : findW b.2.2.1.2.1 (flatK now) = none) : doW t a s i b = (fup b.1 s (layO (b.1 s) (aOut a i) (comesW t (b.1 s) a i).2 0), fup2 b.2.1 s i (some now), (b.2.2.1.1, (trimW b.2.2.1.1 (b.2.2.1.2.1 ++ [(flatK now, (comesW t (b.1 s) a i).2, (comesW t (b.1 s) a i).1, 0, (aOut a i).length)])).1, b.2.2.1.2.2 + nI (trimW b.2.2.1.1 (b.2.2.1.2.1 ++ [(flatK now, (comesW t (b.1 s) a i).2, (comesW t (b.1 s) a i).1, 0, (aOut a i).length)])).2), (b.2.2.2.1 ++ [(nI i, 1, nI (comesW t (b.1 s) a i).1, chgW now (b.2.1 s i))], b.2.2.2.2.1 + 1, b.2.2.2.2.2.1, b.2.2.2.2.2.2)) := by
  unfold doW
  dsimp only
  rw [hn, h]
theorem carry_ok (h : Cls σ X w N M) (hI : WInv w) (hs : s < 2) (hi : i < aN (wA w)) (hlog : (wL w).1.length < 40) (hP : ∀ τ, Cls τ X (withB w (doW (wT w) (wA w) s i (bOf w))) N M → RF σ τ → P none τ) : wpM 111 [.ref X, .int (nI s), .int (nI i)] σ P := by
  obtain ⟨pa, aa, ea, sa, z, hG, hR⟩ := h
  have hC := hG.C
  have hX := hG.2.1
  have hA := hG.2.2.2.2.2.1
  have hK := hG.2.2.2.2.2.2.2.1
  have h40 := hI.2.1.1
  refine (b111 hC).mpr ⟨hX.1, aat_ok hC hX.1 hA hi ((b111_8 hC).mpr ⟨hX.1, desc_ok hG hI (x_key hC hX.1) hs hi (fun τ1 ht1 => ?_)⟩)⟩
  generalize hnow : keyW (wT w) (wC w s) (wA w) i = now at ht1
  obtain ⟨hG1, hN1, hF1, hf1⟩ := Cls_key hG ht1
  have hC1 := hG1.C
  have hX1 := hG1.2.1
  have hk1 := toKP_kyP ht1 (x_key hC hX.1)
  have hz01 := (hG1.2.2.2.2.2.1.2.2.2 i hi).1
  have hR1 := Rm_na hR (hf1.cap id hK.1) (hf1.cap id hK.2.1) hN1
  have hnok : keyOk now := by rw [← hnow]; exact keyW_ok hI.1 hI.2.1 hi (hI.2.2.1.len hs)
  refine (b111_18 hC1).mpr ⟨hX1.1, hz01, nI_in hs (by omega), ?_⟩
  rw [nI_clamp (by omega), show pA aa i + 5 + 1 + 3 * s = pA aa i + 6 + 3 * s by omega]
  refine chg_ok hC1 hk1 (hG1.2.2.2.2.2.2.1 s i hs hi) hnok (fun u hu => hI.2.2.2.2.1 s i u hs hi hu) ((b111_31 hC1).mpr ⟨hX1.1, ?_⟩)
  have hK1 := hG1.2.2.2.2.2.2.2.1
  obtain ⟨g0, g1, g2, g3, g4, ⟨pe, e1, e2, g6⟩, g7, g8, g9⟩ := id hK1
  subst e1
  have hkey : Ky τ1 (X + 27) (flatK now) := hk1.1
  have hKI := hI.2.2.2.2.2.1
  have hl100 : pe.length ≤ 100 := by have := hKI.2.1; rw [e2, List.length_map] at this; exact this
  refine find_ok hC1 (x_cache hC1 hX1.1) g0 g6 hkey (b111_44.mpr ?_)
  rw [← e2]
  have hnd : (pe.map (·.1)).Nodup := (List.nodup_append.mp g2).1
  cases hfd : findW (wK w).2.1 (flatK now) with
  | some j =>
    obtain ⟨hj0, hjk⟩ := findW_some hfd
    have hj : j < pe.length := by rw [e2, List.length_map] at hj0; exact hj0
    have hpe : (wK w).2.1[j] = pe[j].2 := by
      have : (wK w).2.1[j]? = some pe[j].2 := by rw [e2, List.getElem?_map, List.getElem?_eq_getElem hj]; rfl
      rw [List.getElem?_eq_getElem hj0] at this
      exact Option.some.inj this
    refine ifp (nI_m1 (by omega)) (b111_56.mpr (b111_57.mpr (ifp rfl ((b111_78 hC1).mpr ⟨hX1.1, ?_⟩))))
    refine use_ok (N := N) (M := M) (P := fun r τ => wp 111 87 [some (.ref X), some (.int (nI s)), some (.int (nI i)), some (.ref (pA aa i)), some (.int (chgW now (wW w s i))), some (.int (nI j)), some (.int 0), none] (r.toList ++ []) τ P) hG1.1 (x_cache hC1 hX1.1) g0 g1 g6 hnd (by omega) hj hR1 (fun τ2 hH2 hv2 hE2 hF2 hR2 => b111_87.mpr (ifp rfl ?_))
    have hF2' := hF2.mono (Cs' := no1) (Ks' := no1) (Ls' := cLs X) (Fs' := cF13) (fun _ => id) (fun _ => id) (fun _ r => Or.inl r) (fun _ _ _ r => Or.inr r)
    have hXc := x_cache hC1 hX1.1
    have hpm : ((pe.eraseIdx j ++ [(pe[j].1, useE pe[j].2)]).map (·.1)).Perm (pe.map (·.1)) := by
      have e3 : (pe.eraseIdx j ++ [(pe[j].1, useE pe[j].2)]).map (·.1) = (pe.eraseIdx j ++ [pe[j]]).map (·.1) := by simp
      rw [e3]
      refine List.Perm.map _ ?_
      have h1 : (pe.eraseIdx j ++ [pe[j]]).Perm (pe[j] :: pe.eraseIdx j) := List.perm_append_singleton _ _
      exact h1.trans (erase_perm pe j hj)
    have hpm2 : ((pe.eraseIdx j ++ [(pe[j].1, useE pe[j].2)]).map (·.1) ++ sa).Perm (pe.map (·.1) ++ sa) := List.Perm.append_right _ hpm
    have esz : sizesW ((wK w).2.1.eraseIdx j ++ [useE pe[j].2]) = sizesW (wK w).2.1 := by
      have h1 := sizes_erase (wK w).2.1 j hj0
      rw [hpe] at h1
      rw [sizesW_app]
      have h2 : sizesW [useE pe[j].2] = eSize pe[j].2 := by show eSize (useE pe[j].2) + 0 = _; rfl
      omega
    have erow : (pe.eraseIdx j ++ [(pe[j].1, useE pe[j].2)]).map (·.2) = (wK w).2.1.eraseIdx j ++ [useE pe[j].2] := by
      rw [List.map_append, map_erase, ← e2]; rfl
    have hG2 : ClsG τ2 X pa aa ((pe.eraseIdx j ++ [(pe[j].1, useE pe[j].2)]).map (·.1)) sa z (wT w, wA w, wC w, wP w, wW w, ((wK w).1, (wK w).2.1.eraseIdx j ++ [useE pe[j].2], (wK w).2.2), wL w) :=
      ClsU_cac hG1 hH2 hF2' ⟨hv2, hF2.lst (show ¬ X + 17 = X + 16 by omega) g1, hpm2.nodup_iff.mpr g2, by rw [hpm2.length_eq]; exact g3, fun e he => hF2.is (g4 e he), ⟨_, rfl, erow.symm, hE2⟩, by rw [hF2.fi rfl hXc (by decide)]; exact g7, by rw [hF2.fi rfl hXc (by decide)]; show _ = nI (sizesW ((wK w).2.1.eraseIdx j ++ [useE pe[j].2])); rw [esz]; exact g8, by rw [hF2.fi rfl hXc (by decide)]; exact g9⟩
    have hEq := hE2 (pe[j].1, useE pe[j].2) (List.mem_append_right _ (List.mem_singleton_self _))
    have hk2 := hF2.kyp hC1 id hk1
    have ed : (wK w).2.1.getD j ([], fun _ => none, 0, 0, 0) = pe[j].2 := by
      rw [List.getD_eq_getElem?_getD, List.getElem?_eq_getElem hj0, ← hpe]; rfl
    have eD := doW_some (t := wT w) (a := wA w) (s := s) (i := i) (b := bOf w) hnow hfd
    rw [show (bOf w).2.2.1.2.1 = (wK w).2.1 from rfl, ed] at eD
    refine lay_tail (n := eN pe[j].2) (f := eFail pe[j].2) (out := eOut pe[j].2) (now := now) (L' := ((wL w).1 ++ [(nI i, 0, nI (eFail pe[j].2), chgW now (wW w s i))], (wL w).2.1, (wL w).2.2.1 + 1, (wL w).2.2.2)) hG2 hI.1 hI.2.1 hs hi hEq.1 hEq.2.2.1 hk2 (Or.inl rfl) hlog rfl (fun τ3 hG3 hN3 hF3 c1 c2 _ => b111_151.mpr (ifp rfl (b111_165.mpr (hP τ3 ?_ (hF1.tr ((cF13_rf hF2').tr hF3))))))
    rw [eD]
    refine ⟨pa, aa, _, sa, z, hG3, ?_⟩
    have R3 := RmN_na hR2 c1 c2 hN3
    unfold Rm
    rw [hpm2.length_eq]; exact R3
  | none =>
    refine ifn (fun r => r rfl) (b111_52.mpr (b111_57.mpr (ifn (by decide) ((b111_64 hC1).mpr ⟨hX1.1, ?_⟩))))
    refine unused_ok (N := N) (M := M) hG1 hR1 (by rw [List.length_map]; exact hl100) hk1 (fun τ2 q sa' hG2 hR2 hq hq' hle hz2 hky2 hsg2 hfd2 hk2 hF2 => b111_75.mpr (b111_87.mpr (ifn (by decide) ?_)))
    have hC2 := hG2.C
    have hX2 := hG2.2.1
    have ho7 : zIs τ2 (q + 4) 7 := zIs_of (cs_T hC2 le_3_1 hz2)
    have k2 : con3 (wC w) z s = wC w s := by funext p; unfold con3; rw [if_neg (by omega)]
    have hRC := RunC_of hG2 (s := s) (by omega) hi
    rw [k2] at hRC
    refine (b111_94 hC2).mpr ⟨hX2.1, hz2, run_ok hRC ho7 hI.1 hI.2.1 hi (by omega) (hI.2.2.1.cvOk hs (hI.2.1.2.1 i hi).2.1) (fun τ3 hRC3 hO3 hf3 hN3 => ?_)⟩
    have hG3 : ClsG τ3 X pa aa (pe.map (·.1)) sa' z w := ClsU_lim hG2 hRC3.1 ho7 (fun q' hq2 r => hq (by rw [show q = q' by omega]; exact hq2)) hf3 (fun _ r => r.elim) (fun c k a r => by rcases r with r | r; exact Or.inl r; exact Or.inr (Or.inl r))
    have hC3 := hG3.C
    have hEE : EntI τ3 q (flatK now, (comesW (wT w) (wC w s) (wA w) i).2, (comesW (wT w) (wC w s) (wA w) i).1, 0, (aOut (wA w) i).length) := by
      refine ⟨hf3.is hz2, hf3.ky hC2 id hky2, hO3, ?_, ?_⟩
      · rw [hf3.fl rfl hz2 (fun r => by unfold runFs at r; omega)]; exact hsg2
      · rw [hf3.fi rfl hz2 (fun r => by unfold runFs at r; omega)]; exact hfd2
    have hrn := runW_ok (no := (aOut (wA w) i).length) hI.1 (hI.2.2.1.cvOk hs (hI.2.1.2.1 i hi).2.1) (hI.2.1.2.1 i hi).2.1 (aSt (wA w) i) [] false (fun _ => none) (fun q hq => ((hI.2.1.2.1 i hi).2.2.2.2.2.2.2 q hq).2) ⟨Nat.zero_le _, fun x hx => absurd hx (by simp)⟩ (fun o l h => by cases h) (fun _ _ => rfl)
    have hok : entOk (flatK now, (comesW (wT w) (wC w s) (wA w) i).2, (comesW (wT w) (wC w s) (wA w) i).1, 0, (aOut (wA w) i).length) := ⟨hky2.2.2.1, hrn.1, hrn.2.2, (hI.2.1.2.1 i hi).2.2.2.1, hrn.2.1⟩
    have hk3 := hf3.kyp hC2 id hk2
    have hK2 := hG2.2.2.2.2.2.2.2.1
    have hR3 := RmN_na hR2 (hf3.cap id hK2.1) (hf3.cap id hK2.2.1) hN3
    have hRF3 : RF τ2 τ3 := hf3.rf (fun c k a r => by unfold runFs at r; omega)
    have eD := doW_none (t := wT w) (a := wA w) (s := s) (i := i) (b := bOf w) hnow hfd
    refine lay_tail (n := (aOut (wA w) i).length) (f := (comesW (wT w) (wC w s) (wA w) i).1) (out := (comesW (wT w) (wC w s) (wA w) i).2) (now := now) (L' := ((wL w).1 ++ [(nI i, 1, nI (comesW (wT w) (wC w s) (wA w) i).1, chgW now (wW w s i))], (wL w).2.1 + 1, (wL w).2.2.1, (wL w).2.2.2)) hG3 hI.1 hI.2.1 hs hi hEE.1 hO3 hk3 (Or.inr rfl) hlog rfl (fun τ4 hG4 hN4 hF4 c1 c2 hent => b111_151.mpr (ifn (by decide) ((b111_156 hG4.C).mpr ⟨hG4.2.1.1, ?_⟩)))
    refine addE_ok (e := (flatK now, (comesW (wT w) (wC w s) (wA w) i).2, (comesW (wT w) (wC w s) (wA w) i).1, 0, (aOut (wA w) i).length)) hG4 hKI (RmN_na hR3 c1 c2 hN4) hq hq' hle (hent _ hEE) hok (fun τ5 ea' sa2 hG5 hR5 hF5 => b111_165.mpr (hP τ5 ?_ (hF1.tr (hF2.tr (hRF3.tr (hF4.tr hF5))))))
    rw [eD]
    exact ⟨pa, aa, ea', sa2, z, hG5, hR5⟩
end CY
