/-! THE LAW: one call of both (written by wip/whole/p98f.py) -/
/-- both hold one state; the script stands -/
def LawS (σ : zSt) (b X o L : Nat) (xs : Nat → Int32) (w : WT) (N M : Nat) : Prop := Cls σ X w N M ∧ WInv w ∧ RShape σ o ∧ (∃ sc ar, rOv σ o sc ar = σ ∧ RefR sc ar w) ∧ ztg σ b = (4, 12, L) ∧ ∀ i, zai σ 12 b i = xs i
section LAW1
variable {σ τ υ : zSt} {P : Option Value → zSt → Prop} {b X o L N M N' M' i c t : Nat} {xs : Nat → Int32} {w w' : WT} {sc : ScT} {ar : ArT}
theorem fiO (hc : c ≠ 12) : zfi (rOv σ o sc ar) c = zfi σ c := by
  funext k a
  exact if_neg (fun r => hc r.1)
theorem aiO (ht : t < 20) : zai (rOv σ o sc ar) t = zai σ t := by
  funext a i
  refine if_neg (fun r => ?_)
  have := r.1
  simp [rOk] at this
  omega
def fs12 : Nat → Nat → Nat → Prop := fun c _ _ => c = 12 ∨ 112 ≤ c
theorem Fr_rOv : Fr σ (rOv σ o sc ar) no1 no1 no1 fs12 := by
  refine ⟨fun _ _ => rfl, fun c v _ _ hv => ⟨hv.1, ?_⟩, fun k l _ _ hv => ⟨hv.1, ?_⟩, fun l ys _ hv => ?_, fun c k a _ _ _ _ _ hn => ⟨if_neg (fun r => hn (Or.inl r.1)), rfl⟩, fun t a i ht _ hn => ?_, fun g ds r f b _ _ hv => ⟨hv.1, ?_⟩, fun _ _ _ => rfl, fun k hd ps _ _ hv => ⟨⟨hv.1.1, ?_⟩, ?_⟩⟩
  · rw [fiO (by omega), aiO (by omega)]; exact hv.2
  · rw [fiO (by omega), aiO (by omega)]; exact hv.2
  · obtain ⟨hz, d, hd, hn, hc, he⟩ := hv
    exact ⟨⟨hz, d, hd, by rw [fiO (by omega)]; exact hn, hc, he⟩, rfl⟩
  · rcases ht with ht | ht | ht
    · rw [aiO (by omega)]
    · rw [aiO (by omega)]
    · exact absurd (Or.inr (by omega)) hn
  · rw [fiO (by omega), aiO (by omega)]; exact hv.2
  · rw [fiO (by omega), aiO (by omega)]; exact hv.1.2
  · rw [fiO (by omega), aiO (by omega)]; exact hv.2
theorem Cls_rOv (h : Cls σ X w N M) : Cls (rOv σ o sc ar) X w N M := by
  obtain ⟨pa, aa, ea, sa, z, hG, hR⟩ := h
  have hF : Fr σ (rOv σ o sc ar) no1 no1 no1 fs12 := Fr_rOv
  have hC := hG.C
  have f0 : ∀ c k a, c < 12 → ¬ fs12 c k a := fun c k a hc q => by rcases q with q | q <;> omega
  have f4 : ∀ c k a, c = 104 ∨ c = 105 → ¬ fs12 c k a := fun c k a hc q => by rcases q with q | q <;> omega
  obtain ⟨hH, hX, hT, hCC, hTp, hA, hW, hK, hLg⟩ := hG
  refine ⟨pa, aa, ea, sa, z, ⟨hH, XOk_fr hX hF, CTree_fr hT hF id (fun _ _ => id) (fun _ _ _ => f0 _ _ _ (by omega)), CCon_fr hCC hF hC (fun _ _ _ _ => id), hF.cnt hC id hTp, CActU_fr hA hF hC id (fun _ _ => ⟨id, id⟩) (fun _ _ _ => ⟨f0 _ _ _ (by omega), f4 _ _ _ (Or.inl rfl), f4 _ _ _ (Or.inr rfl)⟩), CWas_fr hW hF hC (fun _ _ _ _ => id), CCac_fr hK hF hC (x_cache hC hX.1) id id (fun _ => f0 _ _ _ (by omega)) (fun _ _ => ⟨fun _ _ => id, fun _ => f0 _ _ _ (by omega), id, fun _ => f0 _ _ _ (by omega)⟩), hF.log hC (f0 _ _ _ (by omega)) hLg⟩, hR⟩
theorem rOv_rOv : rOv (rOv σ o sc ar) o sc ar = rOv σ o sc ar := by
  unfold rOv
  congr 1
  · funext c k a
    show (if c = 12 ∧ a = o then sc k else (if c = 12 ∧ a = o then sc k else zfi σ c k a)) = _
    by_cases h : c = 12 ∧ a = o
    · rw [if_pos h, if_pos h]
    · rw [if_neg h, if_neg h]
  · funext t a i
    show (if rOk t = true ∧ a = rad o t then ar t i else (if rOk t = true ∧ a = rad o t then ar t i else zai σ t a i)) = _
    by_cases h : rOk t = true ∧ a = rad o t
    · rw [if_pos h, if_pos h]
    · rw [if_neg h, if_neg h]
/-- a call of the class leaves the reference and the script -/
theorem law_cls (S : LawS σ b X o L xs w N M) (h : RF σ τ) : RShape τ o ∧ (∃ sc ar, rOv τ o sc ar = τ ∧ RefR sc ar w) ∧ ztg τ b = (4, 12, L) ∧ ∀ i, zai τ 12 b i = xs i := by
  obtain ⟨hC, hI, hR, ⟨sc, ar, hov, hr⟩, ht, hx⟩ := S
  have zo : zIs σ o 12 := zIs_of hR.1
  have tr : ∀ t, rOk t = true → (ztg σ (rad o t)).1 ≠ 0 := fun t ht => by rw [(hR.2 t ht).2]; exact Nat.succ_ne_zero 1
  have es : ∀ k, sc k = zfi τ 12 k o := fun k => by
    rw [(h.2.1 k o zo).1, ← hov]
    exact (if_pos ⟨rfl, rfl⟩ : zfi (rOv σ o sc ar) 12 k o = sc k).symm
  have ea : ∀ t, rOk t = true → ∀ i, ar t i = zai τ t (rad o t) i := fun t ht i => by
    have t20 : 20 ≤ t := by simp [rOk] at ht; omega
    rw [h.2.2 t (rad o t) i (by omega) (tr t ht), ← hov]
    exact (if_pos ⟨ht, rfl⟩ : zai (rOv σ o sc ar) t (rad o t) i = ar t i).symm
  refine ⟨⟨?_, fun t ht => ⟨?_, ?_⟩⟩, ⟨sc, ar, ?_, hr⟩, ?_, fun i => ?_⟩
  · rw [h.1 o (by rw [hR.1]; exact Nat.succ_ne_zero 0)]; exact hR.1
  · rw [(h.2.1 _ o zo).2]; exact (hR.2 t ht).1
  · rw [h.1 _ (tr t ht)]; exact (hR.2 t ht).2
  · have e1 : (fun c k a => if c = 12 ∧ a = o then sc k else zfi τ c k a) = zfi τ := by
      funext c k a
      by_cases q : c = 12 ∧ a = o
      · rw [if_pos q, q.1, q.2, es]
      · rw [if_neg q]
    have e2 : (fun t a i => if rOk t = true ∧ a = rad o t then ar t i else zai τ t a i) = zai τ := by
      funext t a i
      by_cases q : rOk t = true ∧ a = rad o t
      · rw [if_pos q, q.2, ea t q.1]
      · rw [if_neg q]
    unfold rOv
    rw [e1, e2]
    rfl
  · rw [h.1 b (by rw [ht]; exact Nat.succ_ne_zero 3)]; exact ht
  · rw [h.2.2 12 b i (by omega) (by rw [ht]; exact Nat.succ_ne_zero 3)]; exact hx i
/-- and one of the reference leaves the class -/
theorem law_ref (hC : Cls τ X w' N M) (hR : RShape τ o) (ht : ztg τ b = (4, 12, L)) (hx : ∀ i, zai τ 12 b i = xs i) (hr : RefR sc ar w') (hI : WInv w') (hN : N ≤ N') (hM : M ≤ M') : LawS (rOv τ o sc ar) b X o L xs w' N' M' :=
  ⟨Cls_mono (Cls_rOv hC) hN hM, hI, hR, ⟨sc, ar, rOv_rOv, hr⟩, ht, fun i => by rw [aiO (by omega)]; exact hx i⟩
theorem law_X (hC : Cls σ X w N M) : zIs σ X 11 := by
  obtain ⟨pa, aa, ea, sa, z, hG, hR⟩ := hC
  exact hG.2.1.1
theorem lg_same (x : Int64) : lg_cmp x x = 0 := by
  unfold lg_cmp
  rw [if_neg Int64.lt_irrefl, if_pos rfl]
theorem law_of (S : LawS σ b X o L xs w N M) (hi : i + 3 < L) (hL : L ≤ 2048) (hgo : ∀ τ w', LawS τ b X o L xs w' (N + 250) (M + 1300) → wp 204 941 [some (.ref b), some (.ref X), some (.ref o), some (.int (nI i))] [] τ P) : wp 204 207 [some (.ref b), some (.ref X), some (.ref o), some (.int (nI i))] [] σ P := by
  have z : ∀ k, k ≤ 3 → zIn (nI (i + k)) L := fun k hk => nI_in (by omega) (by omega)
  have e1 : nI i + 1 = nI (i + 1) := nI_add i 1
  have e2 : nI i + 2 = nI (i + 2) := nI_add i 2
  have e3 : nI i + 3 = nI (i + 3) := nI_add i 3
  have c1 : (nI (i + 1)).toNatClampNeg = i + 1 := nI_clamp (by omega)
  have c2 : (nI (i + 2)).toNatClampNeg = i + 2 := nI_clamp (by omega)
  have c3 : (nI (i + 3)).toNatClampNeg = i + 3 := nI_clamp (by omega)
  obtain ⟨hC, hI, hR, ⟨sc, ar, hov, hr⟩, ht, hx⟩ := id S
  refine (b204_207 ht).mpr ?_
  simp only [e1, e2, c1, c2, hx]
  have hC2 := hC
  obtain ⟨pa, aa, ea, sa, z0, hG, hRm⟩ := hC
  refine ⟨z 1 (by omega), z 2 (by omega), law_X hC2, of_ok hG hI ?_⟩
  refine (b204_221 ht).mpr ?_
  simp only [e1, e2, c1, c2, hx]
  refine ⟨z 1 (by omega), z 2 (by omega), zIs_of hR.1, ?_⟩
  rw [← hov]
  exact r_of hR hr hI ((b204_235 (σ := rOv σ o sc ar) ht).mpr (ifp rfl (hgo _ _ (law_ref hC2 hR ht hx hr hI (by omega) (by omega)))))
theorem law_feed (S : LawS σ b X o L xs w N M) (hi : i + 3 < L) (hL : L ≤ 2048) (hgo : ∀ τ w', LawS τ b X o L xs w' (N + 250) (M + 1300) → wp 204 941 [some (.ref b), some (.ref X), some (.ref o), some (.int (nI i))] [] τ P) : wp 204 240 [some (.ref b), some (.ref X), some (.ref o), some (.int (nI i))] [] σ P := by
  have z : ∀ k, k ≤ 3 → zIn (nI (i + k)) L := fun k hk => nI_in (by omega) (by omega)
  have e1 : nI i + 1 = nI (i + 1) := nI_add i 1
  have e2 : nI i + 2 = nI (i + 2) := nI_add i 2
  have e3 : nI i + 3 = nI (i + 3) := nI_add i 3
  have c1 : (nI (i + 1)).toNatClampNeg = i + 1 := nI_clamp (by omega)
  have c2 : (nI (i + 2)).toNatClampNeg = i + 2 := nI_clamp (by omega)
  have c3 : (nI (i + 3)).toNatClampNeg = i + 3 := nI_clamp (by omega)
  obtain ⟨hC, hI, hR, ⟨sc, ar, hov, hr⟩, ht, hx⟩ := id S
  refine (b204_240 ht).mpr ?_
  simp only [e1, e2, e3, c1, c2, c3, hx]
  refine ⟨z 1 (by omega), z 2 (by omega), z 3 (by omega), law_X hC, feed_ok hC hI (fun τ hC2 hRF => ?_)⟩
  obtain ⟨hR2, ⟨sc2, ar2, hov2, hr2⟩, ht2, hx2⟩ := law_cls S hRF
  refine (b204_269 ht2).mpr ?_
  simp only [e1, e2, e3, c1, c2, c3, hx2]
  refine ⟨z 1 (by omega), z 2 (by omega), z 3 (by omega), zIs_of hR2.1, ?_⟩
  rw [← hov2]
  exact r_feed hR2 hr2 hI (fun sc3 ar3 hr3 => (b204_298 (σ := rOv τ o sc3 ar3) ht2).mpr (ifp rfl (hgo _ _ (law_ref hC2 hR2 ht2 hx2 hr3 (sFeed_inv hI) (by omega) (by omega)))))
theorem law_write (S : LawS σ b X o L xs w N M) (hi : i + 3 < L) (hL : L ≤ 2048) (hgo : ∀ τ w', LawS τ b X o L xs w' (N + 250) (M + 1300) → wp 204 941 [some (.ref b), some (.ref X), some (.ref o), some (.int (nI i))] [] τ P) : wp 204 303 [some (.ref b), some (.ref X), some (.ref o), some (.int (nI i))] [] σ P := by
  have z : ∀ k, k ≤ 3 → zIn (nI (i + k)) L := fun k hk => nI_in (by omega) (by omega)
  have e1 : nI i + 1 = nI (i + 1) := nI_add i 1
  have e2 : nI i + 2 = nI (i + 2) := nI_add i 2
  have e3 : nI i + 3 = nI (i + 3) := nI_add i 3
  have c1 : (nI (i + 1)).toNatClampNeg = i + 1 := nI_clamp (by omega)
  have c2 : (nI (i + 2)).toNatClampNeg = i + 2 := nI_clamp (by omega)
  have c3 : (nI (i + 3)).toNatClampNeg = i + 3 := nI_clamp (by omega)
  obtain ⟨hC, hI, hR, ⟨sc, ar, hov, hr⟩, ht, hx⟩ := id S
  refine (b204_303 ht).mpr ?_
  simp only [e1, e2, c1, c2, hx]
  refine ⟨z 1 (by omega), z 2 (by omega), law_X hC, write_ok hC hI (fun τ hC2 hRF => ?_)⟩
  obtain ⟨hR2, ⟨sc2, ar2, hov2, hr2⟩, ht2, hx2⟩ := law_cls S hRF
  refine (b204_317 ht2).mpr ?_
  simp only [e1, e2, c1, c2, hx2]
  refine ⟨z 1 (by omega), z 2 (by omega), zIs_of hR2.1, ?_⟩
  rw [← hov2]
  exact r_write hR2 hr2 hI (fun sc3 ar3 hr3 => (b204_331 (σ := rOv τ o sc3 ar3) ht2).mpr (ifp rfl (hgo _ _ (law_ref hC2 hR2 ht2 hx2 hr3 (sWrite_inv hI) (by omega) (by omega)))))
theorem law_remove (S : LawS σ b X o L xs w N M) (hi : i + 3 < L) (hL : L ≤ 2048) (hgo : ∀ τ w', LawS τ b X o L xs w' (N + 250) (M + 1300) → wp 204 941 [some (.ref b), some (.ref X), some (.ref o), some (.int (nI i))] [] τ P) : wp 204 336 [some (.ref b), some (.ref X), some (.ref o), some (.int (nI i))] [] σ P := by
  have z : ∀ k, k ≤ 3 → zIn (nI (i + k)) L := fun k hk => nI_in (by omega) (by omega)
  have e1 : nI i + 1 = nI (i + 1) := nI_add i 1
  have e2 : nI i + 2 = nI (i + 2) := nI_add i 2
  have e3 : nI i + 3 = nI (i + 3) := nI_add i 3
  have c1 : (nI (i + 1)).toNatClampNeg = i + 1 := nI_clamp (by omega)
  have c2 : (nI (i + 2)).toNatClampNeg = i + 2 := nI_clamp (by omega)
  have c3 : (nI (i + 3)).toNatClampNeg = i + 3 := nI_clamp (by omega)
  obtain ⟨hC, hI, hR, ⟨sc, ar, hov, hr⟩, ht, hx⟩ := id S
  refine (b204_336 ht).mpr ?_
  simp only [e1, e2, c1, c2, hx]
  refine ⟨z 1 (by omega), z 2 (by omega), law_X hC, remove_ok hC hI (fun τ hC2 hRF => ?_)⟩
  obtain ⟨hR2, ⟨sc2, ar2, hov2, hr2⟩, ht2, hx2⟩ := law_cls S hRF
  refine (b204_350 ht2).mpr ?_
  simp only [e1, e2, c1, c2, hx2]
  refine ⟨z 1 (by omega), z 2 (by omega), zIs_of hR2.1, ?_⟩
  rw [← hov2]
  exact r_remove hR2 hr2 hI (fun sc3 ar3 hr3 => (b204_364 (σ := rOv τ o sc3 ar3) ht2).mpr (ifp rfl (hgo _ _ (law_ref hC2 hR2 ht2 hx2 hr3 (sRemove_inv hI) (by omega) (by omega)))))
theorem law_copy (S : LawS σ b X o L xs w N M) (hi : i + 3 < L) (hL : L ≤ 2048) (hgo : ∀ τ w', LawS τ b X o L xs w' (N + 250) (M + 1300) → wp 204 941 [some (.ref b), some (.ref X), some (.ref o), some (.int (nI i))] [] τ P) : wp 204 369 [some (.ref b), some (.ref X), some (.ref o), some (.int (nI i))] [] σ P := by
  have z : ∀ k, k ≤ 3 → zIn (nI (i + k)) L := fun k hk => nI_in (by omega) (by omega)
  have e1 : nI i + 1 = nI (i + 1) := nI_add i 1
  have e2 : nI i + 2 = nI (i + 2) := nI_add i 2
  have e3 : nI i + 3 = nI (i + 3) := nI_add i 3
  have c1 : (nI (i + 1)).toNatClampNeg = i + 1 := nI_clamp (by omega)
  have c2 : (nI (i + 2)).toNatClampNeg = i + 2 := nI_clamp (by omega)
  have c3 : (nI (i + 3)).toNatClampNeg = i + 3 := nI_clamp (by omega)
  obtain ⟨hC, hI, hR, ⟨sc, ar, hov, hr⟩, ht, hx⟩ := id S
  refine (b204_369 ht).mpr ?_
  simp only [e1, c1, hx]
  refine ⟨z 1 (by omega), law_X hC, copy_ok hC hI (fun τ hC2 hRF => ?_)⟩
  obtain ⟨hR2, ⟨sc2, ar2, hov2, hr2⟩, ht2, hx2⟩ := law_cls S hRF
  refine (b204_378 ht2).mpr ?_
  simp only [e1, c1, hx2]
  refine ⟨z 1 (by omega), zIs_of hR2.1, ?_⟩
  rw [← hov2]
  exact r_copy hR2 hr2 hI (fun sc3 ar3 hr3 => (b204_387 (σ := rOv τ o sc3 ar3) ht2).mpr (ifp rfl (hgo _ _ (law_ref hC2 hR2 ht2 hx2 hr3 (sCopy_inv hI) (by omega) (by omega)))))
theorem law_length (S : LawS σ b X o L xs w N M) (hi : i + 3 < L) (hL : L ≤ 2048) (hgo : ∀ τ w', LawS τ b X o L xs w' (N + 250) (M + 1300) → wp 204 941 [some (.ref b), some (.ref X), some (.ref o), some (.int (nI i))] [] τ P) : wp 204 392 [some (.ref b), some (.ref X), some (.ref o), some (.int (nI i))] [] σ P := by
  have z : ∀ k, k ≤ 3 → zIn (nI (i + k)) L := fun k hk => nI_in (by omega) (by omega)
  have e1 : nI i + 1 = nI (i + 1) := nI_add i 1
  have e2 : nI i + 2 = nI (i + 2) := nI_add i 2
  have e3 : nI i + 3 = nI (i + 3) := nI_add i 3
  have c1 : (nI (i + 1)).toNatClampNeg = i + 1 := nI_clamp (by omega)
  have c2 : (nI (i + 2)).toNatClampNeg = i + 2 := nI_clamp (by omega)
  have c3 : (nI (i + 3)).toNatClampNeg = i + 3 := nI_clamp (by omega)
  obtain ⟨hC, hI, hR, ⟨sc, ar, hov, hr⟩, ht, hx⟩ := id S
  refine (b204_392 ht).mpr ?_
  simp only [e1, e2, c1, c2, hx]
  have hC2 := hC
  obtain ⟨pa, aa, ea, sa, z0, hG, hRm⟩ := hC
  refine ⟨z 1 (by omega), z 2 (by omega), law_X hC2, length_ok hG hI ?_⟩
  refine (b204_406 ht).mpr ?_
  simp only [e1, e2, c1, c2, hx]
  refine ⟨z 1 (by omega), z 2 (by omega), zIs_of hR.1, ?_⟩
  rw [← hov]
  exact r_length hR hr hI ((b204_420 (σ := rOv σ o sc ar) ht).mpr (ifp rfl (hgo _ _ (law_ref hC2 hR ht hx hr hI (by omega) (by omega)))))
theorem law_byteAt (S : LawS σ b X o L xs w N M) (hi : i + 3 < L) (hL : L ≤ 2048) (hgo : ∀ τ w', LawS τ b X o L xs w' (N + 250) (M + 1300) → wp 204 941 [some (.ref b), some (.ref X), some (.ref o), some (.int (nI i))] [] τ P) : wp 204 425 [some (.ref b), some (.ref X), some (.ref o), some (.int (nI i))] [] σ P := by
  have z : ∀ k, k ≤ 3 → zIn (nI (i + k)) L := fun k hk => nI_in (by omega) (by omega)
  have e1 : nI i + 1 = nI (i + 1) := nI_add i 1
  have e2 : nI i + 2 = nI (i + 2) := nI_add i 2
  have e3 : nI i + 3 = nI (i + 3) := nI_add i 3
  have c1 : (nI (i + 1)).toNatClampNeg = i + 1 := nI_clamp (by omega)
  have c2 : (nI (i + 2)).toNatClampNeg = i + 2 := nI_clamp (by omega)
  have c3 : (nI (i + 3)).toNatClampNeg = i + 3 := nI_clamp (by omega)
  obtain ⟨hC, hI, hR, ⟨sc, ar, hov, hr⟩, ht, hx⟩ := id S
  refine (b204_425 ht).mpr ?_
  simp only [e1, e2, e3, c1, c2, c3, hx]
  have hC2 := hC
  obtain ⟨pa, aa, ea, sa, z0, hG, hRm⟩ := hC
  refine ⟨z 1 (by omega), z 2 (by omega), z 3 (by omega), law_X hC2, byteAt_ok hG hI ?_⟩
  refine (b204_444 ht).mpr ?_
  simp only [e1, e2, e3, c1, c2, c3, hx]
  refine ⟨z 1 (by omega), z 2 (by omega), z 3 (by omega), zIs_of hR.1, ?_⟩
  rw [← hov]
  exact r_byteAt hR hr hI ((b204_463 (σ := rOv σ o sc ar) ht).mpr (ifp rfl (hgo _ _ (law_ref hC2 hR ht hx hr hI (by omega) (by omega)))))
theorem law_action (S : LawS σ b X o L xs w N M) (hi : i + 3 < L) (hL : L ≤ 2048) (hgo : ∀ τ w', LawS τ b X o L xs w' (N + 250) (M + 1300) → wp 204 941 [some (.ref b), some (.ref X), some (.ref o), some (.int (nI i))] [] τ P) : wp 204 468 [some (.ref b), some (.ref X), some (.ref o), some (.int (nI i))] [] σ P := by
  have z : ∀ k, k ≤ 3 → zIn (nI (i + k)) L := fun k hk => nI_in (by omega) (by omega)
  have e1 : nI i + 1 = nI (i + 1) := nI_add i 1
  have e2 : nI i + 2 = nI (i + 2) := nI_add i 2
  have e3 : nI i + 3 = nI (i + 3) := nI_add i 3
  have c1 : (nI (i + 1)).toNatClampNeg = i + 1 := nI_clamp (by omega)
  have c2 : (nI (i + 2)).toNatClampNeg = i + 2 := nI_clamp (by omega)
  have c3 : (nI (i + 3)).toNatClampNeg = i + 3 := nI_clamp (by omega)
  obtain ⟨hC, hI, hR, ⟨sc, ar, hov, hr⟩, ht, hx⟩ := id S
  refine (b204_468 ht).mpr ?_
  refine ⟨law_X hC, action_ok hC hI (fun τ hC2 hRF => ?_)⟩
  obtain ⟨hR2, ⟨sc2, ar2, hov2, hr2⟩, ht2, hx2⟩ := law_cls S hRF
  refine (b204_472 ht2).mpr ?_
  refine ⟨zIs_of hR2.1, ?_⟩
  rw [← hov2]
  exact r_action hR2 hr2 hI (fun sc3 ar3 hr3 => (b204_476 (σ := rOv τ o sc3 ar3) ht2).mpr (ifp rfl (hgo _ _ (law_ref hC2 hR2 ht2 hx2 hr3 (sAction_inv hI) (by omega) (by omega)))))
theorem law_input (S : LawS σ b X o L xs w N M) (hi : i + 3 < L) (hL : L ≤ 2048) (hgo : ∀ τ w', LawS τ b X o L xs w' (N + 250) (M + 1300) → wp 204 941 [some (.ref b), some (.ref X), some (.ref o), some (.int (nI i))] [] τ P) : wp 204 481 [some (.ref b), some (.ref X), some (.ref o), some (.int (nI i))] [] σ P := by
  have z : ∀ k, k ≤ 3 → zIn (nI (i + k)) L := fun k hk => nI_in (by omega) (by omega)
  have e1 : nI i + 1 = nI (i + 1) := nI_add i 1
  have e2 : nI i + 2 = nI (i + 2) := nI_add i 2
  have e3 : nI i + 3 = nI (i + 3) := nI_add i 3
  have c1 : (nI (i + 1)).toNatClampNeg = i + 1 := nI_clamp (by omega)
  have c2 : (nI (i + 2)).toNatClampNeg = i + 2 := nI_clamp (by omega)
  have c3 : (nI (i + 3)).toNatClampNeg = i + 3 := nI_clamp (by omega)
  obtain ⟨hC, hI, hR, ⟨sc, ar, hov, hr⟩, ht, hx⟩ := id S
  refine (b204_481 ht).mpr ?_
  simp only [e1, e2, c1, c2, hx]
  refine ⟨z 1 (by omega), z 2 (by omega), law_X hC, input_ok hC hI (sInput_inv hI) (fun τ hC2 hRF => ?_)⟩
  obtain ⟨hR2, ⟨sc2, ar2, hov2, hr2⟩, ht2, hx2⟩ := law_cls S hRF
  refine (b204_495 ht2).mpr ?_
  simp only [e1, e2, c1, c2, hx2]
  refine ⟨z 1 (by omega), z 2 (by omega), zIs_of hR2.1, ?_⟩
  rw [← hov2]
  exact r_input hR2 hr2 hI (fun sc3 ar3 hr3 => (b204_509 (σ := rOv τ o sc3 ar3) ht2).mpr (ifp rfl (hgo _ _ (law_ref hC2 hR2 ht2 hx2 hr3 (sInput_inv hI) (by omega) (by omega)))))
theorem law_output (S : LawS σ b X o L xs w N M) (hi : i + 3 < L) (hL : L ≤ 2048) (hgo : ∀ τ w', LawS τ b X o L xs w' (N + 250) (M + 1300) → wp 204 941 [some (.ref b), some (.ref X), some (.ref o), some (.int (nI i))] [] τ P) : wp 204 514 [some (.ref b), some (.ref X), some (.ref o), some (.int (nI i))] [] σ P := by
  have z : ∀ k, k ≤ 3 → zIn (nI (i + k)) L := fun k hk => nI_in (by omega) (by omega)
  have e1 : nI i + 1 = nI (i + 1) := nI_add i 1
  have e2 : nI i + 2 = nI (i + 2) := nI_add i 2
  have e3 : nI i + 3 = nI (i + 3) := nI_add i 3
  have c1 : (nI (i + 1)).toNatClampNeg = i + 1 := nI_clamp (by omega)
  have c2 : (nI (i + 2)).toNatClampNeg = i + 2 := nI_clamp (by omega)
  have c3 : (nI (i + 3)).toNatClampNeg = i + 3 := nI_clamp (by omega)
  obtain ⟨hC, hI, hR, ⟨sc, ar, hov, hr⟩, ht, hx⟩ := id S
  refine (b204_514 ht).mpr ?_
  simp only [e1, e2, c1, c2, hx]
  refine ⟨z 1 (by omega), z 2 (by omega), law_X hC, output_ok hC hI (sOutput_inv hI) (fun τ hC2 hRF => ?_)⟩
  obtain ⟨hR2, ⟨sc2, ar2, hov2, hr2⟩, ht2, hx2⟩ := law_cls S hRF
  refine (b204_528 ht2).mpr ?_
  simp only [e1, e2, c1, c2, hx2]
  refine ⟨z 1 (by omega), z 2 (by omega), zIs_of hR2.1, ?_⟩
  rw [← hov2]
  exact r_output hR2 hr2 hI (fun sc3 ar3 hr3 => (b204_542 (σ := rOv τ o sc3 ar3) ht2).mpr (ifp rfl (hgo _ _ (law_ref hC2 hR2 ht2 hx2 hr3 (sOutput_inv hI) (by omega) (by omega)))))
theorem law_step (S : LawS σ b X o L xs w N M) (hi : i + 3 < L) (hL : L ≤ 2048) (hgo : ∀ τ w', LawS τ b X o L xs w' (N + 250) (M + 1300) → wp 204 941 [some (.ref b), some (.ref X), some (.ref o), some (.int (nI i))] [] τ P) : wp 204 547 [some (.ref b), some (.ref X), some (.ref o), some (.int (nI i))] [] σ P := by
  have z : ∀ k, k ≤ 3 → zIn (nI (i + k)) L := fun k hk => nI_in (by omega) (by omega)
  have e1 : nI i + 1 = nI (i + 1) := nI_add i 1
  have e2 : nI i + 2 = nI (i + 2) := nI_add i 2
  have e3 : nI i + 3 = nI (i + 3) := nI_add i 3
  have c1 : (nI (i + 1)).toNatClampNeg = i + 1 := nI_clamp (by omega)
  have c2 : (nI (i + 2)).toNatClampNeg = i + 2 := nI_clamp (by omega)
  have c3 : (nI (i + 3)).toNatClampNeg = i + 3 := nI_clamp (by omega)
  obtain ⟨hC, hI, hR, ⟨sc, ar, hov, hr⟩, ht, hx⟩ := id S
  refine (b204_547 ht).mpr ?_
  simp only [e1, e2, e3, c1, c2, c3, hx]
  refine ⟨z 1 (by omega), z 2 (by omega), z 3 (by omega), law_X hC, step_ok hC hI (fun τ hC2 hRF => ?_)⟩
  obtain ⟨hR2, ⟨sc2, ar2, hov2, hr2⟩, ht2, hx2⟩ := law_cls S hRF
  refine (b204_566 ht2).mpr ?_
  simp only [e1, e2, e3, c1, c2, c3, hx2]
  refine ⟨z 1 (by omega), z 2 (by omega), z 3 (by omega), zIs_of hR2.1, ?_⟩
  rw [← hov2]
  exact r_step hR2 hr2 hI (fun sc3 ar3 hr3 => (b204_585 (σ := rOv τ o sc3 ar3) ht2).mpr (ifp rfl (hgo _ _ (law_ref hC2 hR2 ht2 hx2 hr3 (sStep_inv hI) (by omega) (by omega)))))
theorem law_erase (S : LawS σ b X o L xs w N M) (hi : i + 3 < L) (hL : L ≤ 2048) (hgo : ∀ τ w', LawS τ b X o L xs w' (N + 250) (M + 1300) → wp 204 941 [some (.ref b), some (.ref X), some (.ref o), some (.int (nI i))] [] τ P) : wp 204 590 [some (.ref b), some (.ref X), some (.ref o), some (.int (nI i))] [] σ P := by
  have z : ∀ k, k ≤ 3 → zIn (nI (i + k)) L := fun k hk => nI_in (by omega) (by omega)
  have e1 : nI i + 1 = nI (i + 1) := nI_add i 1
  have e2 : nI i + 2 = nI (i + 2) := nI_add i 2
  have e3 : nI i + 3 = nI (i + 3) := nI_add i 3
  have c1 : (nI (i + 1)).toNatClampNeg = i + 1 := nI_clamp (by omega)
  have c2 : (nI (i + 2)).toNatClampNeg = i + 2 := nI_clamp (by omega)
  have c3 : (nI (i + 3)).toNatClampNeg = i + 3 := nI_clamp (by omega)
  obtain ⟨hC, hI, hR, ⟨sc, ar, hov, hr⟩, ht, hx⟩ := id S
  refine (b204_590 ht).mpr ?_
  simp only [e1, c1, hx]
  refine ⟨z 1 (by omega), law_X hC, erase_ok hC hI (sErase_inv hI) (fun τ hC2 hRF => ?_)⟩
  obtain ⟨hR2, ⟨sc2, ar2, hov2, hr2⟩, ht2, hx2⟩ := law_cls S hRF
  refine (b204_599 ht2).mpr ?_
  simp only [e1, c1, hx2]
  refine ⟨z 1 (by omega), zIs_of hR2.1, ?_⟩
  rw [← hov2]
  exact r_erase hR2 hr2 hI (fun sc3 ar3 hr3 => (b204_608 (σ := rOv τ o sc3 ar3) ht2).mpr (ifp rfl (hgo _ _ (law_ref hC2 hR2 ht2 hx2 hr3 (sErase_inv hI) (by omega) (by omega)))))
theorem law_about (S : LawS σ b X o L xs w N M) (hi : i + 3 < L) (hL : L ≤ 2048) (hgo : ∀ τ w', LawS τ b X o L xs w' (N + 250) (M + 1300) → wp 204 941 [some (.ref b), some (.ref X), some (.ref o), some (.int (nI i))] [] τ P) : wp 204 613 [some (.ref b), some (.ref X), some (.ref o), some (.int (nI i))] [] σ P := by
  have z : ∀ k, k ≤ 3 → zIn (nI (i + k)) L := fun k hk => nI_in (by omega) (by omega)
  have e1 : nI i + 1 = nI (i + 1) := nI_add i 1
  have e2 : nI i + 2 = nI (i + 2) := nI_add i 2
  have e3 : nI i + 3 = nI (i + 3) := nI_add i 3
  have c1 : (nI (i + 1)).toNatClampNeg = i + 1 := nI_clamp (by omega)
  have c2 : (nI (i + 2)).toNatClampNeg = i + 2 := nI_clamp (by omega)
  have c3 : (nI (i + 3)).toNatClampNeg = i + 3 := nI_clamp (by omega)
  obtain ⟨hC, hI, hR, ⟨sc, ar, hov, hr⟩, ht, hx⟩ := id S
  refine (b204_613 ht).mpr ?_
  simp only [e1, e2, c1, c2, hx]
  have hC2 := hC
  obtain ⟨pa, aa, ea, sa, z0, hG, hRm⟩ := hC
  refine ⟨z 1 (by omega), z 2 (by omega), law_X hC2, about_ok hG hI ?_⟩
  refine (b204_627 ht).mpr ?_
  simp only [e1, e2, c1, c2, hx]
  refine ⟨z 1 (by omega), z 2 (by omega), zIs_of hR.1, ?_⟩
  rw [← hov]
  exact r_about hR hr hI ((b204_641 (σ := rOv σ o sc ar) ht).mpr (ifp rfl (hgo _ _ (law_ref hC2 hR ht hx hr hI (by omega) (by omega)))))
theorem law_uses (S : LawS σ b X o L xs w N M) (hi : i + 3 < L) (hL : L ≤ 2048) (hgo : ∀ τ w', LawS τ b X o L xs w' (N + 250) (M + 1300) → wp 204 941 [some (.ref b), some (.ref X), some (.ref o), some (.int (nI i))] [] τ P) : wp 204 646 [some (.ref b), some (.ref X), some (.ref o), some (.int (nI i))] [] σ P := by
  have z : ∀ k, k ≤ 3 → zIn (nI (i + k)) L := fun k hk => nI_in (by omega) (by omega)
  have e1 : nI i + 1 = nI (i + 1) := nI_add i 1
  have e2 : nI i + 2 = nI (i + 2) := nI_add i 2
  have e3 : nI i + 3 = nI (i + 3) := nI_add i 3
  have c1 : (nI (i + 1)).toNatClampNeg = i + 1 := nI_clamp (by omega)
  have c2 : (nI (i + 2)).toNatClampNeg = i + 2 := nI_clamp (by omega)
  have c3 : (nI (i + 3)).toNatClampNeg = i + 3 := nI_clamp (by omega)
  obtain ⟨hC, hI, hR, ⟨sc, ar, hov, hr⟩, ht, hx⟩ := id S
  refine (b204_646 ht).mpr ?_
  simp only [e1, e2, c1, c2, hx]
  have hC2 := hC
  obtain ⟨pa, aa, ea, sa, z0, hG, hRm⟩ := hC
  refine ⟨z 1 (by omega), z 2 (by omega), law_X hC2, uses_ok hG hI ?_⟩
  refine (b204_660 ht).mpr ?_
  simp only [e1, e2, c1, c2, hx]
  refine ⟨z 1 (by omega), z 2 (by omega), zIs_of hR.1, ?_⟩
  rw [← hov]
  exact r_uses hR hr hI ((b204_674 (σ := rOv σ o sc ar) ht).mpr (ifp rfl (hgo _ _ (law_ref hC2 hR ht hx hr hI (by omega) (by omega)))))
theorem law_build (S : LawS σ b X o L xs w N M) (hi : i + 3 < L) (hL : L ≤ 2048) (hgo : ∀ τ w', LawS τ b X o L xs w' (N + 250) (M + 1300) → wp 204 941 [some (.ref b), some (.ref X), some (.ref o), some (.int (nI i))] [] τ P) : wp 204 679 [some (.ref b), some (.ref X), some (.ref o), some (.int (nI i))] [] σ P := by
  have z : ∀ k, k ≤ 3 → zIn (nI (i + k)) L := fun k hk => nI_in (by omega) (by omega)
  have e1 : nI i + 1 = nI (i + 1) := nI_add i 1
  have e2 : nI i + 2 = nI (i + 2) := nI_add i 2
  have e3 : nI i + 3 = nI (i + 3) := nI_add i 3
  have c1 : (nI (i + 1)).toNatClampNeg = i + 1 := nI_clamp (by omega)
  have c2 : (nI (i + 2)).toNatClampNeg = i + 2 := nI_clamp (by omega)
  have c3 : (nI (i + 3)).toNatClampNeg = i + 3 := nI_clamp (by omega)
  obtain ⟨hC, hI, hR, ⟨sc, ar, hov, hr⟩, ht, hx⟩ := id S
  refine (b204_679 ht).mpr ?_
  simp only [e1, e2, c1, c2, hx]
  refine ⟨z 1 (by omega), z 2 (by omega), law_X hC, build_ok hC hI (fun τ hC2 hRF => ?_)⟩
  obtain ⟨hR2, ⟨sc2, ar2, hov2, hr2⟩, ht2, hx2⟩ := law_cls S hRF
  refine (b204_693 ht2).mpr ?_
  simp only [e1, e2, c1, c2, hx2]
  refine ⟨z 1 (by omega), z 2 (by omega), zIs_of hR2.1, ?_⟩
  rw [← hov2]
  exact r_build hR2 hr2 hI (fun sc3 ar3 hr3 => (b204_707 (σ := rOv τ o sc3 ar3) ht2).mpr (ifp rfl (hgo _ _ (law_ref hC2 hR2 ht2 hx2 hr3 (sBuild_inv hI) (by omega) (by omega)))))
theorem law_done (S : LawS σ b X o L xs w N M) (hi : i + 3 < L) (hL : L ≤ 2048) (hgo : ∀ τ w', LawS τ b X o L xs w' (N + 250) (M + 1300) → wp 204 941 [some (.ref b), some (.ref X), some (.ref o), some (.int (nI i))] [] τ P) : wp 204 712 [some (.ref b), some (.ref X), some (.ref o), some (.int (nI i))] [] σ P := by
  have z : ∀ k, k ≤ 3 → zIn (nI (i + k)) L := fun k hk => nI_in (by omega) (by omega)
  have e1 : nI i + 1 = nI (i + 1) := nI_add i 1
  have e2 : nI i + 2 = nI (i + 2) := nI_add i 2
  have e3 : nI i + 3 = nI (i + 3) := nI_add i 3
  have c1 : (nI (i + 1)).toNatClampNeg = i + 1 := nI_clamp (by omega)
  have c2 : (nI (i + 2)).toNatClampNeg = i + 2 := nI_clamp (by omega)
  have c3 : (nI (i + 3)).toNatClampNeg = i + 3 := nI_clamp (by omega)
  obtain ⟨hC, hI, hR, ⟨sc, ar, hov, hr⟩, ht, hx⟩ := id S
  refine (b204_712 ht).mpr ?_
  simp only [e1, e2, c1, c2, hx]
  have hC2 := hC
  obtain ⟨pa, aa, ea, sa, z0, hG, hRm⟩ := hC
  refine ⟨z 1 (by omega), z 2 (by omega), law_X hC2, done_ok hG hI ?_⟩
  refine (b204_726 ht).mpr ?_
  simp only [e1, e2, c1, c2, hx]
  refine ⟨z 1 (by omega), z 2 (by omega), zIs_of hR.1, ?_⟩
  rw [← hov]
  exact r_done hR hr hI ((b204_740 (σ := rOv σ o sc ar) ht).mpr (ifp rfl (hgo _ _ (law_ref hC2 hR ht hx hr hI (by omega) (by omega)))))
theorem law_changed (S : LawS σ b X o L xs w N M) (hi : i + 3 < L) (hL : L ≤ 2048) (hgo : ∀ τ w', LawS τ b X o L xs w' (N + 250) (M + 1300) → wp 204 941 [some (.ref b), some (.ref X), some (.ref o), some (.int (nI i))] [] τ P) : wp 204 745 [some (.ref b), some (.ref X), some (.ref o), some (.int (nI i))] [] σ P := by
  have z : ∀ k, k ≤ 3 → zIn (nI (i + k)) L := fun k hk => nI_in (by omega) (by omega)
  have e1 : nI i + 1 = nI (i + 1) := nI_add i 1
  have e2 : nI i + 2 = nI (i + 2) := nI_add i 2
  have e3 : nI i + 3 = nI (i + 3) := nI_add i 3
  have c1 : (nI (i + 1)).toNatClampNeg = i + 1 := nI_clamp (by omega)
  have c2 : (nI (i + 2)).toNatClampNeg = i + 2 := nI_clamp (by omega)
  have c3 : (nI (i + 3)).toNatClampNeg = i + 3 := nI_clamp (by omega)
  obtain ⟨hC, hI, hR, ⟨sc, ar, hov, hr⟩, ht, hx⟩ := id S
  refine (b204_745 ht).mpr ?_
  simp only [e1, e2, c1, c2, hx]
  refine ⟨z 1 (by omega), z 2 (by omega), law_X hC, changed_ok hC hI (fun τ hC2 hRF => ?_)⟩
  obtain ⟨hR2, ⟨sc2, ar2, hov2, hr2⟩, ht2, hx2⟩ := law_cls S hRF
  refine (b204_759 ht2).mpr ?_
  simp only [e1, e2, c1, c2, hx2]
  refine ⟨z 1 (by omega), z 2 (by omega), zIs_of hR2.1, ?_⟩
  rw [← hov2]
  exact r_changed hR2 hr2 hI (fun sc3 ar3 hr3 => (b204_773 (σ := rOv τ o sc3 ar3) ht2).mpr (ifp rfl (hgo _ _ (law_ref hC2 hR2 ht2 hx2 hr3 hI (by omega) (by omega)))))
theorem law_key (S : LawS σ b X o L xs w N M) (hi : i + 3 < L) (hL : L ≤ 2048) (hgo : ∀ τ w', LawS τ b X o L xs w' (N + 250) (M + 1300) → wp 204 941 [some (.ref b), some (.ref X), some (.ref o), some (.int (nI i))] [] τ P) : wp 204 778 [some (.ref b), some (.ref X), some (.ref o), some (.int (nI i))] [] σ P := by
  have z : ∀ k, k ≤ 3 → zIn (nI (i + k)) L := fun k hk => nI_in (by omega) (by omega)
  have e1 : nI i + 1 = nI (i + 1) := nI_add i 1
  have e2 : nI i + 2 = nI (i + 2) := nI_add i 2
  have e3 : nI i + 3 = nI (i + 3) := nI_add i 3
  have c1 : (nI (i + 1)).toNatClampNeg = i + 1 := nI_clamp (by omega)
  have c2 : (nI (i + 2)).toNatClampNeg = i + 2 := nI_clamp (by omega)
  have c3 : (nI (i + 3)).toNatClampNeg = i + 3 := nI_clamp (by omega)
  obtain ⟨hC, hI, hR, ⟨sc, ar, hov, hr⟩, ht, hx⟩ := id S
  refine (b204_778 ht).mpr ?_
  simp only [e1, e2, c1, c2, hx]
  refine ⟨z 1 (by omega), z 2 (by omega), law_X hC, key_ok hC hI (fun τ hC2 hRF => ?_)⟩
  obtain ⟨hR2, ⟨sc2, ar2, hov2, hr2⟩, ht2, hx2⟩ := law_cls S hRF
  refine (b204_792 ht2).mpr ?_
  simp only [e1, e2, c1, c2, hx2]
  refine ⟨z 1 (by omega), z 2 (by omega), zIs_of hR2.1, ?_⟩
  rw [← hov2]
  exact r_key hR2 hr2 hI (fun sc3 ar3 hr3 => (b204_806 (σ := rOv τ o sc3 ar3) ht2).mpr (ifp (lg_same _) (hgo _ _ (law_ref hC2 hR2 ht2 hx2 hr3 hI (by omega) (by omega)))))
theorem law_isClean (S : LawS σ b X o L xs w N M) (hi : i + 3 < L) (hL : L ≤ 2048) (hgo : ∀ τ w', LawS τ b X o L xs w' (N + 250) (M + 1300) → wp 204 941 [some (.ref b), some (.ref X), some (.ref o), some (.int (nI i))] [] τ P) : wp 204 812 [some (.ref b), some (.ref X), some (.ref o), some (.int (nI i))] [] σ P := by
  have z : ∀ k, k ≤ 3 → zIn (nI (i + k)) L := fun k hk => nI_in (by omega) (by omega)
  have e1 : nI i + 1 = nI (i + 1) := nI_add i 1
  have e2 : nI i + 2 = nI (i + 2) := nI_add i 2
  have e3 : nI i + 3 = nI (i + 3) := nI_add i 3
  have c1 : (nI (i + 1)).toNatClampNeg = i + 1 := nI_clamp (by omega)
  have c2 : (nI (i + 2)).toNatClampNeg = i + 2 := nI_clamp (by omega)
  have c3 : (nI (i + 3)).toNatClampNeg = i + 3 := nI_clamp (by omega)
  obtain ⟨hC, hI, hR, ⟨sc, ar, hov, hr⟩, ht, hx⟩ := id S
  refine (b204_812 ht).mpr ?_
  simp only [e1, c1, hx]
  refine ⟨z 1 (by omega), law_X hC, clean_ok hC hI (fun τ hC2 hRF => ?_)⟩
  obtain ⟨hR2, ⟨sc2, ar2, hov2, hr2⟩, ht2, hx2⟩ := law_cls S hRF
  refine (b204_821 ht2).mpr ?_
  simp only [e1, c1, hx2]
  refine ⟨z 1 (by omega), zIs_of hR2.1, ?_⟩
  rw [← hov2]
  exact r_isClean hR2 hr2 hI (fun sc3 ar3 hr3 => (b204_830 (σ := rOv τ o sc3 ar3) ht2).mpr (ifp rfl (hgo _ _ (law_ref hC2 hR2 ht2 hx2 hr3 hI (by omega) (by omega)))))
theorem law_capacity (S : LawS σ b X o L xs w N M) (hi : i + 3 < L) (hL : L ≤ 2048) (hgo : ∀ τ w', LawS τ b X o L xs w' (N + 250) (M + 1300) → wp 204 941 [some (.ref b), some (.ref X), some (.ref o), some (.int (nI i))] [] τ P) : wp 204 835 [some (.ref b), some (.ref X), some (.ref o), some (.int (nI i))] [] σ P := by
  have z : ∀ k, k ≤ 3 → zIn (nI (i + k)) L := fun k hk => nI_in (by omega) (by omega)
  have e1 : nI i + 1 = nI (i + 1) := nI_add i 1
  have e2 : nI i + 2 = nI (i + 2) := nI_add i 2
  have e3 : nI i + 3 = nI (i + 3) := nI_add i 3
  have c1 : (nI (i + 1)).toNatClampNeg = i + 1 := nI_clamp (by omega)
  have c2 : (nI (i + 2)).toNatClampNeg = i + 2 := nI_clamp (by omega)
  have c3 : (nI (i + 3)).toNatClampNeg = i + 3 := nI_clamp (by omega)
  obtain ⟨hC, hI, hR, ⟨sc, ar, hov, hr⟩, ht, hx⟩ := id S
  refine (b204_835 ht).mpr ?_
  simp only [e1, c1, hx]
  refine ⟨z 1 (by omega), law_X hC, capacity_ok hC hI (fun τ hC2 hRF => ?_)⟩
  obtain ⟨hR2, ⟨sc2, ar2, hov2, hr2⟩, ht2, hx2⟩ := law_cls S hRF
  refine (b204_844 ht2).mpr ?_
  simp only [e1, c1, hx2]
  refine ⟨z 1 (by omega), zIs_of hR2.1, ?_⟩
  rw [← hov2]
  exact r_capacity hR2 hr2 hI (fun sc3 ar3 hr3 => (b204_853 (σ := rOv τ o sc3 ar3) ht2).mpr (ifp rfl (hgo _ _ (law_ref hC2 hR2 ht2 hx2 hr3 (sCapacity_inv hI) (by omega) (by omega)))))
theorem law_entry (S : LawS σ b X o L xs w N M) (hi : i + 3 < L) (hL : L ≤ 2048) (hgo : ∀ τ w', LawS τ b X o L xs w' (N + 250) (M + 1300) → wp 204 941 [some (.ref b), some (.ref X), some (.ref o), some (.int (nI i))] [] τ P) : wp 204 858 [some (.ref b), some (.ref X), some (.ref o), some (.int (nI i))] [] σ P := by
  have z : ∀ k, k ≤ 3 → zIn (nI (i + k)) L := fun k hk => nI_in (by omega) (by omega)
  have e1 : nI i + 1 = nI (i + 1) := nI_add i 1
  have e2 : nI i + 2 = nI (i + 2) := nI_add i 2
  have e3 : nI i + 3 = nI (i + 3) := nI_add i 3
  have c1 : (nI (i + 1)).toNatClampNeg = i + 1 := nI_clamp (by omega)
  have c2 : (nI (i + 2)).toNatClampNeg = i + 2 := nI_clamp (by omega)
  have c3 : (nI (i + 3)).toNatClampNeg = i + 3 := nI_clamp (by omega)
  obtain ⟨hC, hI, hR, ⟨sc, ar, hov, hr⟩, ht, hx⟩ := id S
  refine (b204_858 ht).mpr ?_
  simp only [e1, e2, c1, c2, hx]
  have hC2 := hC
  obtain ⟨pa, aa, ea, sa, z0, hG, hRm⟩ := hC
  refine ⟨z 1 (by omega), z 2 (by omega), law_X hC2, entry_ok hG hI ?_⟩
  refine (b204_872 ht).mpr ?_
  simp only [e1, e2, c1, c2, hx]
  refine ⟨z 1 (by omega), z 2 (by omega), zIs_of hR.1, ?_⟩
  rw [← hov]
  exact r_entry hR hr hI ((b204_886 (σ := rOv σ o sc ar) ht).mpr (ifp (lg_same _) (hgo _ _ (law_ref hC2 hR ht hx hr hI (by omega) (by omega)))))
theorem law_forget (S : LawS σ b X o L xs w N M) (hi : i + 3 < L) (hL : L ≤ 2048) (hgo : ∀ τ w', LawS τ b X o L xs w' (N + 250) (M + 1300) → wp 204 941 [some (.ref b), some (.ref X), some (.ref o), some (.int (nI i))] [] τ P) : wp 204 892 [some (.ref b), some (.ref X), some (.ref o), some (.int (nI i))] [] σ P := by
  have z : ∀ k, k ≤ 3 → zIn (nI (i + k)) L := fun k hk => nI_in (by omega) (by omega)
  have e1 : nI i + 1 = nI (i + 1) := nI_add i 1
  have e2 : nI i + 2 = nI (i + 2) := nI_add i 2
  have e3 : nI i + 3 = nI (i + 3) := nI_add i 3
  have c1 : (nI (i + 1)).toNatClampNeg = i + 1 := nI_clamp (by omega)
  have c2 : (nI (i + 2)).toNatClampNeg = i + 2 := nI_clamp (by omega)
  have c3 : (nI (i + 3)).toNatClampNeg = i + 3 := nI_clamp (by omega)
  obtain ⟨hC, hI, hR, ⟨sc, ar, hov, hr⟩, ht, hx⟩ := id S
  refine (b204_892 ht).mpr ?_
  refine ⟨law_X hC, forget_ok hC hI (fun τ hC2 hRF => ?_)⟩
  obtain ⟨hR2, ⟨sc2, ar2, hov2, hr2⟩, ht2, hx2⟩ := law_cls S hRF
  refine (b204_896 ht2).mpr ?_
  refine ⟨zIs_of hR2.1, ?_⟩
  rw [← hov2]
  exact r_forget hR2 hr2 hI (fun sc3 ar3 hr3 => (b204_900 (σ := rOv τ o sc3 ar3) ht2).mpr (ifp rfl (hgo _ _ (law_ref hC2 hR2 ht2 hx2 hr3 (sForget_inv hI) (by omega) (by omega)))))
theorem law_count (S : LawS σ b X o L xs w N M) (hi : i + 3 < L) (hL : L ≤ 2048) (hgo : ∀ τ w', LawS τ b X o L xs w' (N + 250) (M + 1300) → wp 204 941 [some (.ref b), some (.ref X), some (.ref o), some (.int (nI i))] [] τ P) : wp 204 905 [some (.ref b), some (.ref X), some (.ref o), some (.int (nI i))] [] σ P := by
  have z : ∀ k, k ≤ 3 → zIn (nI (i + k)) L := fun k hk => nI_in (by omega) (by omega)
  have e1 : nI i + 1 = nI (i + 1) := nI_add i 1
  have e2 : nI i + 2 = nI (i + 2) := nI_add i 2
  have e3 : nI i + 3 = nI (i + 3) := nI_add i 3
  have c1 : (nI (i + 1)).toNatClampNeg = i + 1 := nI_clamp (by omega)
  have c2 : (nI (i + 2)).toNatClampNeg = i + 2 := nI_clamp (by omega)
  have c3 : (nI (i + 3)).toNatClampNeg = i + 3 := nI_clamp (by omega)
  obtain ⟨hC, hI, hR, ⟨sc, ar, hov, hr⟩, ht, hx⟩ := id S
  refine (b204_905 ht).mpr ?_
  simp only [e1, c1, hx]
  have hC2 := hC
  obtain ⟨pa, aa, ea, sa, z0, hG, hRm⟩ := hC
  refine ⟨z 1 (by omega), law_X hC2, count_ok hG ?_⟩
  refine (b204_914 ht).mpr ?_
  simp only [e1, c1, hx]
  refine ⟨z 1 (by omega), zIs_of hR.1, ?_⟩
  rw [← hov]
  exact r_count hR hr hI ((b204_923 (σ := rOv σ o sc ar) ht).mpr (ifp rfl (hgo _ _ (law_ref hC2 hR ht hx hr hI (by omega) (by omega)))))
theorem law_clear (S : LawS σ b X o L xs w N M) (hi : i + 3 < L) (hL : L ≤ 2048) (hgo : ∀ τ w', LawS τ b X o L xs w' (N + 250) (M + 1300) → wp 204 941 [some (.ref b), some (.ref X), some (.ref o), some (.int (nI i))] [] τ P) : wp 204 928 [some (.ref b), some (.ref X), some (.ref o), some (.int (nI i))] [] σ P := by
  have z : ∀ k, k ≤ 3 → zIn (nI (i + k)) L := fun k hk => nI_in (by omega) (by omega)
  have e1 : nI i + 1 = nI (i + 1) := nI_add i 1
  have e2 : nI i + 2 = nI (i + 2) := nI_add i 2
  have e3 : nI i + 3 = nI (i + 3) := nI_add i 3
  have c1 : (nI (i + 1)).toNatClampNeg = i + 1 := nI_clamp (by omega)
  have c2 : (nI (i + 2)).toNatClampNeg = i + 2 := nI_clamp (by omega)
  have c3 : (nI (i + 3)).toNatClampNeg = i + 3 := nI_clamp (by omega)
  obtain ⟨hC, hI, hR, ⟨sc, ar, hov, hr⟩, ht, hx⟩ := id S
  refine (b204_928 ht).mpr ?_
  refine ⟨law_X hC, clear_all_ok hC hI (fun τ hC2 hRF => ?_)⟩
  obtain ⟨hR2, ⟨sc2, ar2, hov2, hr2⟩, ht2, hx2⟩ := law_cls S hRF
  refine (b204_932 ht2).mpr ?_
  refine ⟨zIs_of hR2.1, ?_⟩
  rw [← hov2]
  exact r_clear hR2 hr2 hI (fun sc3 ar3 hr3 => (b204_936 (σ := rOv τ o sc3 ar3) ht2).mpr (ifp rfl (hgo _ _ (law_ref hC2 hR2 ht2 hx2 hr3 (w0_inv) (by omega) (by omega)))))
theorem law_path (S : LawS σ b X o L xs w N M) (hi : i + 3 < L) (hL : L ≤ 2048) (hgo : ∀ τ w', LawS τ b X o L xs w' (N + 250) (M + 1300) → wp 204 941 [some (.ref b), some (.ref X), some (.ref o), some (.int (nI i))] [] τ P) : wp 204 148 [some (.ref b), some (.ref X), some (.ref o), some (.int (nI i))] [] σ P := by
  have z : ∀ k, k ≤ 3 → zIn (nI (i + k)) L := fun k hk => nI_in (by omega) (by omega)
  have e1 : nI i + 1 = nI (i + 1) := nI_add i 1
  have e2 : nI i + 2 = nI (i + 2) := nI_add i 2
  have e3 : nI i + 3 = nI (i + 3) := nI_add i 3
  have c1 : (nI (i + 1)).toNatClampNeg = i + 1 := nI_clamp (by omega)
  have c2 : (nI (i + 2)).toNatClampNeg = i + 2 := nI_clamp (by omega)
  have c3 : (nI (i + 3)).toNatClampNeg = i + 3 := nI_clamp (by omega)
  obtain ⟨hC, hI, hR, ⟨sc, ar, hov, hr⟩, ht, hx⟩ := id S
  refine (b204_148 ht).mpr ?_
  simp only [e1, e2, e3, c1, c2, c3, hx]
  refine ⟨z 1 (by omega), z 2 (by omega), z 3 (by omega), ?_⟩
  have go : ∀ d, b2I d = (if xs (i + 3) = 0 then 0 else 1) → wp 204 172 [some (.ref b), some (.ref X), some (.ref o), some (.int (nI i))] [.int (b2I d), .int (xs (i + 2)), .int (xs (i + 1)), .ref X] σ P := by
    intro d hd
    refine (b204_172 ht).mpr ⟨law_X hC, path_ok hC hI (fun τ hC2 hRF => ?_)⟩
    obtain ⟨hR2, ⟨sc2, ar2, hov2, hr2⟩, ht2, hx2⟩ := law_cls S hRF
    refine (b204_175 ht2).mpr ?_
    simp only [e1, e2, e3, c1, c2, c3, hx2]
    refine ⟨z 1 (by omega), z 2 (by omega), z 3 (by omega), ?_⟩
    have go2 : wp 204 199 [some (.ref b), some (.ref X), some (.ref o), some (.int (nI i))] [.int (b2I d), .int (xs (i + 2)), .int (xs (i + 1)), .ref o, .int (sPath w (xs (i + 1)) (xs (i + 2)) d).2] τ P := by
      refine (b204_199 ht2).mpr ⟨zIs_of hR2.1, ?_⟩
      rw [← hov2]
      exact r_path hR2 hr2 hI (fun sc3 ar3 hr3 => (b204_202 (σ := rOv τ o sc3 ar3) ht2).mpr (ifp rfl (hgo _ _ (law_ref hC2 hR2 ht2 hx2 hr3 (sPath_inv hI) (by omega) (by omega)))))
    by_cases q : xs (i + 3) = 0
    · rw [if_pos q] at hd
      rw [hd] at go2
      exact ifp q ((b204_198 ht2).mpr go2)
    · rw [if_neg q] at hd
      rw [hd] at go2
      exact ifn q ((b204_194 ht2).mpr go2)
  by_cases q : xs (i + 3) = 0
  · exact ifp q ((b204_171 ht).mpr (go false (by rw [if_pos q]; rfl)))
  · exact ifn q ((b204_167 ht).mpr (go true (by rw [if_neg q]; rfl)))
end LAW1
