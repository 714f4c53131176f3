/-! THE CLASS: a path more, whole -/
section PW
variable {σ τ υ : zSt} {P : Option Value → zSt → Prop} {X N M i s k n p q m : Nat} {pa aa ea sa : List Nat} {z cv : Nat → Con} {w : WT} {t : TreT} {a : ActT} {x y v : Int32} {d : Bool}
theorem pA_old {x : Nat} (h : p < pa.length) : pA (pa ++ [x]) p = pA pa p := by
  unfold pA
  rw [List.getD_eq_getElem?_getD, List.getD_eq_getElem?_getD, List.getElem?_append_left h]
theorem pA_new {x : Nat} : pA (pa ++ [x]) pa.length = x := by
  unfold pA
  rw [List.getD_eq_getElem?_getD, List.getElem?_append_right (Nat.le_refl _), Nat.sub_self]; rfl
def pLs (X f : Nat) (d : Bool) : Nat → Prop := fun l => l = X + 2 ∨ (d = false ∧ l = f)
theorem path_fin (hG : ClsG σ X pa aa ea sa z w) (hI : WInv w) (hq : q < tN (wT w)) (h60 : tN (wT w) < 60) (hH : HI τ) (hF : Fr σ τ no1 no1 (pLs X (pA pa q + 2) d) no3) (hl : LVal τ (X + 2) (pa ++ [n])) (hp : zIs τ n 8 ∧ zfi τ 8 0 n = nI (tN (wT w)) ∧ zfi τ 8 1 n = nI q ∧ zfi τ 8 2 n = nI m ∧ zfi τ 8 3 n = b2I d ∧ zfi τ 8 6 n = -1 ∧ LVal τ (n + 2) [] ∧ ∀ j, j < 3 → Cnt τ (n + 3 + 2 * j) none) (hm : m ≤ 26) (h0 : fAt (wT w) q m = []) (hfile : d = false → LVal τ (pA pa q + 2) (((fLo (wT w) q m).map (pA pa)) ++ n :: (fHi (wT w) q m).map (pA pa))) : ClsG τ X (pa ++ [n]) aa ea sa (fup z (tN (wT w)) none) (tAdd (wT w) q m d, wA w, (fun s k => if k = tN (wT w) then none else wC w s k), wP w, wW w, wK w, wL w) := by
  have hC := hG.C
  have hT1 := hI.1
  have hA1 := hI.2.1
  obtain ⟨_, hX, hT, hCC, hTp, hA, hW, hK, hLg⟩ := hG
  have hlen : pa.length = tN (wT w) := hT.2.1
  have mapOld : ∀ l : List Nat, (∀ k ∈ l, k < tN (wT w)) → l.map (pA (pa ++ [n])) = l.map (pA pa) := by
    intro l h
    apply List.map_congr_left
    intro k hk
    exact pA_old (by rw [hlen]; exact h k hk)
  have fOld : ∀ p, ∀ k ∈ filesT (wT w) p, k < tN (wT w) := fun p k hk => ((mem_filesT hT1).mp hk).1
  have nl : ∀ j, j = 16 ∨ j = 18 ∨ j = 19 → ¬ pLs X (pA pa q + 2) d (X + j) := by
    intro j hj r
    rcases r with r | ⟨_, r⟩
    · omega
    · exact pl_X hC (hT.2.2 q hq).1 hX (by omega) r.symm
  have pNew : pA (pa ++ [n]) (tN (wT w)) = n := by rw [← hlen]; exact pA_new
  refine ⟨hH, XOk_fr hX hF, ⟨hl, by simp [hlen]; rfl, fun p hp' => ?_⟩, fun s p hs hp' => ?_, hF.cnt hC id hTp, ?_, CWas_fr hW hF hC (fun _ _ _ _ => id), CCac_fr hK hF hC (x_cache hC hX.1) (nl 18 (by omega)) (nl 19 (by omega)) (fun _ => id) (fun _ _ => ⟨fun _ _ => id, fun _ => id, id, fun _ => id⟩), hF.log hC id hLg⟩
  · have hp' : p < tN (wT w) + 1 := hp'
    by_cases e : p = tN (wT w)
    · subst e
      rw [pNew]
      obtain ⟨g0, g1, g2, g3, g4, g5, g6, g7⟩ := hp
      refine ⟨g0, g1, ?_, ?_, ?_, ?_, ?_⟩
      · show _ = optI (fup (tPar (wT w)) (tN (wT w)) (some q) (tN (wT w)))
        rw [fup_same]; exact g2
      · show _ = nI (fup (tNam (wT w)) (tN (wT w)) m (tN (wT w)))
        rw [fup_same]; exact g3
      · show _ = b2I (fup (tDir (wT w)) (tN (wT w)) d (tN (wT w)))
        rw [fup_same]; exact g4
      · show _ = optI (fup (tMk (wT w)) (tN (wT w)) none (tN (wT w)))
        rw [fup_same]; exact g5
      · show LVal τ (n + 2) ((filesT (tAdd (wT w) q m d) (tN (wT w))).map _)
        rw [files_same (Or.inl (by omega))]
        have : filesT (wT w) (tN (wT w)) = [] := by
          refine List.eq_nil_iff_forall_not_mem.mpr (fun k hk => ?_)
          obtain ⟨k1, k2, _⟩ := (mem_filesT hT1).mp hk
          by_cases c0 : k = 0
          · rw [c0, hT1.2.2.1.1] at k2; cases k2
          · obtain ⟨⟨q', h1, h2, _⟩, _⟩ := hT1.2.2.2.1 k (by omega) k1
            rw [h2] at k2; cases k2; omega
        rw [this]; exact g6
    · have hp2 : p < tN (wT w) := by omega
      rw [pA_old (by rw [hlen]; exact hp2)]
      obtain ⟨g0, g1, g2, g3, g4, g5, g6⟩ := hT.2.2 p hp2
      refine ⟨hF.is g0, by rw [hF.fi rfl g0 id]; exact g1, ?_, ?_, ?_, ?_, ?_⟩
      · show _ = optI (fup (tPar (wT w)) (tN (wT w)) (some q) p)
        rw [fup_ne e, hF.fi rfl g0 id]; exact g2
      · show _ = nI (fup (tNam (wT w)) (tN (wT w)) m p)
        rw [fup_ne e, hF.fi rfl g0 id]; exact g3
      · show _ = b2I (fup (tDir (wT w)) (tN (wT w)) d p)
        rw [fup_ne e, hF.fi rfl g0 id]; exact g4
      · show _ = optI (fup (tMk (wT w)) (tN (wT w)) none p)
        rw [fup_ne e, hF.fi rfl g0 id]; exact g5
      · show LVal τ _ ((filesT (tAdd (wT w) q m d) p).map _)
        by_cases c : p = q ∧ d = false
        · obtain ⟨c1, c2⟩ := c
          subst c1 c2
          rw [files_new hm h0, List.map_append, List.map_cons, mapOld _ (fun k hk => (fLo_name k hk).2), mapOld _ (fun k hk => (fHi_name k hk).2), pNew]
          exact hfile rfl
        · have c' : p ≠ q ∨ d = true := by
            by_cases h1 : p = q
            · right
              cases hd : d with
              | true => rfl
              | false => exact absurd ⟨h1, hd⟩ c
            · exact Or.inl h1
          rw [files_same c', mapOld _ (fOld p)]
          refine hF.lst (fun r => ?_) g6
          rcases r with r | ⟨r1, r2⟩
          · exact pl_X hC g0 hX (Or.inl rfl) r
          · refine c ⟨tree_inj hT hT1.2.1 hp2 hq (by omega), r1⟩
  · have hp' : p < tN (wT w) + 1 := hp'
    show Cnt τ _ (con3 (fun s k => if k = tN (wT w) then none else wC w s k) (fup z (tN (wT w)) none) s p)
    by_cases e : p = tN (wT w)
    · subst e
      rw [pNew]
      have : con3 (fun s k => if k = tN (wT w) then none else wC w s k) (fup z (tN (wT w)) none) s (tN (wT w)) = none := by
        unfold con3
        by_cases h2 : s = 2
        · rw [if_pos h2]; exact fup_same
        · rw [if_neg h2]; exact if_pos rfl
      rw [this]; exact hp.2.2.2.2.2.2.2 s hs
    · have hp2 : p < tN (wT w) := by omega
      rw [pA_old (by rw [hlen]; exact hp2)]
      have : con3 (fun s k => if k = tN (wT w) then none else wC w s k) (fup z (tN (wT w)) none) s p = con3 (wC w) z s p := by
        unfold con3
        by_cases h2 : s = 2
        · rw [if_pos h2, if_pos h2]; exact fup_ne e
        · rw [if_neg h2, if_neg h2]; exact if_neg e
      rw [this]; exact hF.cnt hC id (hCC s p hs hp2)
  · have hA2 := CActU_fr hA hF hC (nl 16 (by omega)) (fun i hi => by
      have hz := (hA.2.2.2 i hi).1
      exact ⟨fun r => by
        rcases r with r | ⟨_, r⟩
        · exact al_X hC hz hX (Or.inl rfl) (Or.inl rfl) r
        · exact pl_al hC (hT.2.2 q hq).1 hz (Or.inl rfl) r.symm, fun r => by
        rcases r with r | ⟨_, r⟩
        · exact al_X hC hz hX (Or.inr rfl) (Or.inl rfl) r
        · exact pl_al hC (hT.2.2 q hq).1 hz (Or.inr rfl) r.symm⟩) (fun _ _ _ => ⟨id, id, id⟩)
    refine ⟨hA2.1, hA2.2.1, hA2.2.2.1, fun i hi => ?_⟩
    obtain ⟨g0, g1, g2, g3, g4, g5⟩ := hA2.2.2.2 i hi
    obtain ⟨b1, b2, b3, b4', b5', b6', b7', b8'⟩ := hA1.2.1 i hi
    refine ⟨g0, ?_, ?_, g3, g4, fun b => ?_⟩
    · show LVal τ _ ((aIns (wA w) i).map _)
      rw [mapOld _ b2]; exact g1
    · show LVal τ _ ((aOut (wA w) i).map _)
      rw [mapOld _ (fun k hk => (b6' k hk).1)]; exact g2
    · rw [g5 b]
      have : b < aN (wA w) → usesT (tAdd (wT w) q m d) (wA w) i b = usesT (wT w) (wA w) i b := by
        intro hb
        have hout := (hA1.2.1 b hb).2.2.2.2.2.1
        rw [Bool.eq_iff_iff, uses_iff, uses_iff]
        have pe : ∀ o, o ∈ aOut (wA w) b → tPar (tAdd (wT w) q m d) o = tPar (wT w) o := fun o ho => fup_ne (by have := (hout o ho).1; omega)
        constructor
        · rintro ⟨p, h1, o, h2, h3⟩; exact ⟨p, h1, o, h2, by rw [← pe o h2]; exact h3⟩
        · rintro ⟨p, h1, o, h2, h3⟩; exact ⟨p, h1, o, h2, by rw [pe o h2]; exact h3⟩
      constructor
      · rintro ⟨h1, h2⟩; exact ⟨h1, by show usesT (tAdd (wT w) q m d) (wA w) i b = true; rw [this h1]; exact h2⟩
      · rintro ⟨h1, h2⟩; exact ⟨h1, by rw [← this h1]; exact h2⟩
end PW
