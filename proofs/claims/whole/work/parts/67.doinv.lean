/-! WHAT HOLDS ALL THE TIME: an action is done -/
section DI
variable {t : TreT} {a : ActT} {w : WT} {s i : Nat} {out : Nat → Con}
theorem layO_at : ∀ (l : List Nat) (cv : Nat → Con) (k p : Nat), layO cv l out k p = cv p ∨ (p ∈ l ∧ ∃ j, layO cv l out k p = out j)
  | [], _, _, _ => Or.inl rfl
  | x :: l, cv, k, p => by
    rcases layO_at l (fup cv x (out k)) (k + 1) p with h | ⟨h1, h2⟩
    · by_cases e : p = x
      · right
        refine ⟨by rw [e]; exact List.mem_cons_self, k, ?_⟩
        show layO (fup cv x (out k)) l out (k + 1) p = _
        rw [h, e, fup_same]
      · left
        show layO (fup cv x (out k)) l out (k + 1) p = _
        rw [h, fup_ne e]
    · exact Or.inr ⟨List.mem_cons_of_mem _ h1, h2⟩
theorem CInv_lay {c : Nat → Nat → Con} (h : CInv t c) (hA : AInv t a) (hi : i < aN a) (ho : ∀ o l, out o = some l → conOk l) : CInv t (fup c s (layO (c s) (aOut a i) out 0)) := by
  intro s' p hs hp
  by_cases e : s' = s
  · subst e
    have e2 : fup c s' (layO (c s') (aOut a i) out 0) s' = layO (c s') (aOut a i) out 0 := fup_same
    rw [e2]
    rcases layO_at (out := out) (aOut a i) (c s') 0 p with q | ⟨q1, j, q2⟩
    · rw [q]; exact h s' p hs hp
    · refine ⟨fun l hl => ho j l (by rw [← q2]; exact hl), fun hd => ?_⟩
      have := ((hA.2.1 i hi).2.2.2.2.2.1 p q1).2.1
      rw [hd] at this; cases this
  · rw [fup_ne e]; exact h s' p hs hp
theorem trimW_len (cap : Nat) : ∀ es : List EntT, (trimW cap es).1.length ≤ 100
  | [] => Nat.zero_le _
  | e :: es => by
    have ih := trimW_len cap es
    have ee : trimW cap (e :: es) = if 100 < (e :: es).length ∨ cap < sizesW (e :: es) then ((trimW cap es).1, (trimW cap es).2 + 1) else (e :: es, 0) := rfl
    rw [ee]
    split
    · exact ih
    · rename_i h
      have : ¬ 100 < (e :: es).length := fun q => h (Or.inl q)
      show (e :: es).length ≤ 100
      omega
theorem findW_none {es : List EntT} {l : List Int32} (h : findW es l = none) : l ∉ es.map eKey := by
  unfold findW at h
  rw [List.findIdx?_eq_none_iff] at h
  intro hm
  obtain ⟨e, he, hk⟩ := List.mem_map.mp hm
  have := h e he
  rw [decide_eq_false_iff_not] at this
  exact this hk
theorem KInv_trim {cap : Nat} {ev : Int32} {es : List EntT} (h : (es.map eKey).Nodup) (hok : ∀ e ∈ es, entOk e) (hc : cap ≤ 4000) : KInv (cap, (trimW cap es).1, ev) := by
  have hd := (trimW_drop cap es).1
  refine ⟨hc, trimW_len _ _, ?_, fun e he => ?_⟩
  · show ((trimW cap es).1.map eKey).Nodup
    rw [hd, List.map_drop]
    exact h.sublist (List.drop_sublist _ _)
  · have he : e ∈ (trimW cap es).1 := he
    rw [hd] at he
    exact hok e (List.mem_of_mem_drop he)
theorem flat_len : ∀ (ps : List (List Int32)), (∀ p ∈ ps, partOk p) → ps.flatten.length ≤ 65 * ps.length
  | [], _ => by simp
  | p :: ps, h => by
    have ih := flat_len ps (fun x hx => h x (List.mem_cons_of_mem _ hx))
    have hp : p.length ≤ 65 := by
      rcases h p (by simp) with ⟨w, hw, rfl⟩ | ⟨nm, hn, rfl⟩
      · exact contL_len hw
      · simp [listL]; omega
    rw [List.flatten_cons, List.length_append, List.length_cons]; omega
theorem keyOk_len {k : KeyT} (h : keyOk k) : (flatK k).length ≤ 425 := by
  obtain ⟨⟨ins, outs, st, e1, e2, e3, e4, e5⟩, hp⟩ := h
  have h1 := flat_len k.2 hp
  have h2 := headL_len ins outs st
  unfold flatK
  rw [List.length_append, e1, h2]; omega
theorem doW_inv (hI : WInv w) (hs : s < 2) (hi : i < aN (wA w)) (hlog : (wL w).1.length < 40) : WInv (withB w (doW (wT w) (wA w) s i (bOf w))) ∧ (withB w (doW (wT w) (wA w) s i (bOf w))).2.2.2.2.2.2.1.length = (wL w).1.length + 1 := by
  obtain ⟨hT, hA, hC, hP, hW, hK, hL⟩ := hI
  have hnok : keyOk (keyW (wT w) (wC w s) (wA w) i) := keyW_ok hT hA hi (hC.len hs)
  have hWW : WInvW (wA w) (fup2 (wW w) s i (some (keyW (wT w) (wC w s) (wA w) i))) := by
    intro s' j k hs' hj hk
    unfold fup2 at hk
    split at hk
    · cases hk; exact hnok
    · exact hW s' j k hs' hj hk
  cases hfd : findW (wK w).2.1 (flatK (keyW (wT w) (wC w s) (wA w) i)) with
  | some j =>
    obtain ⟨hj, _⟩ := findW_some hfd
    have ed : (wK w).2.1.getD j ([], fun _ => none, 0, 0, 0) = (wK w).2.1[j] := by
      rw [List.getD_eq_getElem?_getD, List.getElem?_eq_getElem hj]; rfl
    have eD := doW_some (t := wT w) (a := wA w) (s := s) (i := i) (b := bOf w) rfl hfd
    rw [show (bOf w).2.2.1.2.1 = (wK w).2.1 from rfl, ed] at eD
    rw [eD]
    have hok := hK.2.2.2 _ (List.getElem_mem hj)
    have hpm : ((wK w).2.1.eraseIdx j ++ [(wK w).2.1[j]]).Perm (wK w).2.1 := (List.perm_append_singleton _ _).trans (erase_perm (wK w).2.1 j hj)
    refine ⟨⟨hT, hA, CInv_lay hC hA hi hok.2.1, hP, hWW, ⟨hK.1, ?_, ?_, ?_⟩, ?_⟩, ?_⟩
    · show ((wK w).2.1.eraseIdx j ++ [useE (wK w).2.1[j]]).length ≤ 100
      have := hpm.length_eq
      simp at this ⊢
      have := hK.2.1
      omega
    · show (((wK w).2.1.eraseIdx j ++ [useE (wK w).2.1[j]]).map eKey).Nodup
      have e : ((wK w).2.1.eraseIdx j ++ [useE (wK w).2.1[j]]).map eKey = ((wK w).2.1.eraseIdx j ++ [(wK w).2.1[j]]).map eKey := by
        rw [List.map_append, List.map_append]; rfl
      rw [e]
      exact (hpm.map eKey).nodup_iff.mpr hK.2.2.1
    · intro e he
      have he : e ∈ (wK w).2.1.eraseIdx j ++ [useE (wK w).2.1[j]] := he
      rcases List.mem_append.mp he with q | q
      · exact hK.2.2.2 e (List.mem_of_mem_eraseIdx q)
      · rw [List.mem_singleton.mp q]; exact hok
    · show ((wL w).1 ++ [_]).length ≤ 40
      simp; omega
    · show ((wL w).1 ++ [_]).length = _
      simp
  | none =>
    have eD := doW_none (t := wT w) (a := wA w) (s := s) (i := i) (b := bOf w) rfl hfd
    rw [eD]
    have hrn := runW_ok (no := (aOut (wA w) i).length) hT (hC.cvOk hs (hA.2.1 i hi).2.1) (hA.2.1 i hi).2.1 (aSt (wA w) i) [] false (fun _ => none) (fun q hq => ((hA.2.1 i hi).2.2.2.2.2.2.2 q hq).2) ⟨Nat.zero_le _, fun x hx => absurd hx (by simp)⟩ (fun o l h => by cases h) (fun _ _ => rfl)
    refine ⟨⟨hT, hA, CInv_lay hC hA hi hrn.1, hP, hWW, ?_, ?_⟩, ?_⟩
    · refine KInv_trim ?_ (fun e he => ?_) hK.1
      · rw [List.map_append, List.nodup_append]
        refine ⟨hK.2.2.1, by simp, fun x hx y hy e => ?_⟩
        have hy : y = flatK (keyW (wT w) (wC w s) (wA w) i) := List.mem_singleton.mp hy
        rw [e, hy] at hx
        exact findW_none hfd hx
      · rcases List.mem_append.mp he with q | q
        · exact hK.2.2.2 e q
        · rw [List.mem_singleton.mp q]
          refine ⟨?_, hrn.1, hrn.2.2, (hA.2.1 i hi).2.2.2.1, hrn.2.1⟩
          exact keyOk_len hnok
    · show ((wL w).1 ++ [_]).length ≤ 40
      simp; omega
    · show ((wL w).1 ++ [_]).length = _
      simp
end DI
