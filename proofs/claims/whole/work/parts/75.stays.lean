/-! WHAT HOLDS ALL THE TIME: of what a call leaves that changes the paths or the actions -/
section NJ
variable {w : WT} {x y z : Int32} {t t' : TreT} {a a' : ActT}
theorem rchN_sub (hu : ∀ i j, j < aN a' → usesT t' a' i j = true → j < aN a ∧ usesT t a i j = true) : ∀ n {i j : Nat}, rchN t' a' n i j → rchN t a n i j
  | 0, _, _, h => hu _ _ h.1 h.2
  | n + 1, _, _, ⟨k, h1, h2, h3⟩ => ⟨k, (hu _ _ h1 h2).1, (hu _ _ h1 h2).2, rchN_sub hu n h3⟩
theorem rch_sub (hu : ∀ i j, j < aN a' → usesT t' a' i j = true → j < aN a ∧ usesT t a i j = true) {i j : Nat} (h : rch t' a' i j) : rch t a i j := by
  obtain ⟨n, h⟩ := h
  exact ⟨n, rchN_sub hu n h⟩
theorem TInv_mk {f : Nat → Option Nat} (h : TInv t) (h0 : f 0 = none) : TInv (setMk t f) := ⟨h.1, h.2.1, ⟨h.2.2.1.1, h.2.2.1.2.1, h.2.2.1.2.2.1, h0⟩, h.2.2.2.1, h.2.2.2.2⟩
theorem sStep_inv (h : WInv w) : WInv (sStep w x y z).1 := by
  unfold sStep
  split
  · rename_i i n v e1 e2 e3
    split
    · exact h
    · rename_i g
      have hi := ixN_lt e1
      have hA := h.2.1
      refine ⟨h.1, ⟨hA.1, fun j hj => ?_, hA.2.2.1, fun j hj hr => hA.2.2.2 j hj (rch_sub (fun i j h1 h2 => ⟨h1, h2⟩) hr)⟩, h.2.2.1, h.2.2.2.1, h.2.2.2.2⟩
      obtain ⟨a1, a2, a3, a4, a5, a6, a7, a8⟩ := hA.2.1 j hj
      refine ⟨a1, a2, a3, a4, a5, a6, ?_⟩
      show (fup (aSt (wA w)) i _ j).length ≤ 16 ∧ ∀ q ∈ fup (aSt (wA w)) i _ j, q.1 < 14 ∧ q.2 < 256
      by_cases e : j = i
      · subst e
        rw [fup_same]
        refine ⟨by rw [List.length_append]; show _ + 1 ≤ 16; omega, fun q hq => ?_⟩
        rcases List.mem_append.mp hq with r | r
        · exact a8 q r
        · rw [List.mem_singleton.mp r]; exact ⟨ixN_lt e2, ixN_lt e3⟩
      · rw [fup_ne e]; exact ⟨a7, a8⟩
  · exact h
theorem sAction_inv (h : WInv w) : WInv (sAction w).1 := by
  unfold sAction
  split
  · exact h
  · rename_i g
    have hA := h.2.1
    have hu : ∀ i j, j < aN (wA w) + 1 → usesT (wT w) (aN (wA w) + 1, fup (aIns (wA w)) (aN (wA w)) [], fup (aOut (wA w)) (aN (wA w)) [], fup (aSt (wA w)) (aN (wA w)) []) i j = true → (i ≠ aN (wA w) ∧ j < aN (wA w)) ∧ usesT (wT w) (wA w) i j = true := by
      intro i j hj hu
      obtain ⟨p, hp, o, ho, hpo⟩ := uses_iff.mp hu
      have hp : p ∈ fup (aIns (wA w)) (aN (wA w)) [] i := hp
      have ho : o ∈ fup (aOut (wA w)) (aN (wA w)) [] j := ho
      have c1 : i ≠ aN (wA w) := fun e => by rw [e, fup_same] at hp; exact absurd hp (by simp)
      have c2 : j ≠ aN (wA w) := fun e => by rw [e, fup_same] at ho; exact absurd ho (by simp)
      rw [fup_ne c1] at hp
      rw [fup_ne c2] at ho
      exact ⟨⟨c1, by omega⟩, uses_iff.mpr ⟨p, hp, o, ho, hpo⟩⟩
    refine ⟨h.1, ⟨(show aN (wA w) + 1 ≤ 40 by omega), fun j hj => ?_, fun p i hp hm => ?_, fun j hj hr => ?_⟩, h.2.2.1, h.2.2.2.1, fun s i k hs hi hk => ?_, h.2.2.2.2.2⟩
    · have hj : j < aN (wA w) + 1 := hj
      show (fup (aIns (wA w)) (aN (wA w)) [] j).length ≤ 6 ∧ (∀ p ∈ fup (aIns (wA w)) (aN (wA w)) [] j, p < tN (wT w)) ∧ (fup (aIns (wA w)) (aN (wA w)) [] j).Nodup ∧ (fup (aOut (wA w)) (aN (wA w)) [] j).length ≤ 3 ∧ (fup (aOut (wA w)) (aN (wA w)) [] j).Nodup ∧ (∀ p ∈ fup (aOut (wA w)) (aN (wA w)) [] j, p < tN (wT w) ∧ tDir (wT w) p = false ∧ tMk (wT w) p = some j) ∧ (fup (aSt (wA w)) (aN (wA w)) [] j).length ≤ 16 ∧ ∀ q ∈ fup (aSt (wA w)) (aN (wA w)) [] j, q.1 < 14 ∧ q.2 < 256
      by_cases e : j = aN (wA w)
      · subst e
        rw [fup_same, fup_same, fup_same]
        simp
      · rw [fup_ne e, fup_ne e, fup_ne e]
        exact hA.2.1 j (by omega)
    · have q := hA.2.2.1 p i hp hm
      refine ⟨Nat.lt_succ_of_lt q.1, ?_⟩
      show p ∈ fup (aOut (wA w)) (aN (wA w)) [] i
      rw [fup_ne (Nat.ne_of_lt q.1)]
      exact q.2
    · have hr2 := rch_sub (t := wT w) (a := wA w) (fun i j h1 h2 => ⟨(hu i j h1 h2).1.2, (hu i j h1 h2).2⟩) hr
      have hl := rch_lt hr2
      exact hA.2.2.2 j hl hr2
    · have hi : i < aN (wA w) + 1 := hi
      have hk : (if i = aN (wA w) then none else wW w s i) = some k := hk
      split at hk
      · cases hk
      · exact h.2.2.2.2.1 s i k hs (by omega) hk
theorem sErase_inv (h : WInv w) : WInv (sErase w x).1 := by
  unfold sErase
  split
  · exact h
  · rename_i i e1
    have hi := ixN_lt e1
    have hA := h.2.1
    refine ⟨TInv_mk h.1 (by show (if 0 ∈ aOut (wA w) i then none else tMk (wT w) 0) = none; rw [h.1.2.2.1.2.2.2]; split <;> rfl), ⟨hA.1, fun j hj => ?_, fun p k hp hm => ?_, fun j hj hr => ?_⟩, fun s p hs hp => ?_, h.2.2.2.1, h.2.2.2.2.1, h.2.2.2.2.2⟩
    · have hj : j < aN (wA w) := hj
      show (fup (aIns (wA w)) i [] j).length ≤ 6 ∧ (∀ p ∈ fup (aIns (wA w)) i [] j, p < tN (wT w)) ∧ (fup (aIns (wA w)) i [] j).Nodup ∧ (fup (aOut (wA w)) i [] j).length ≤ 3 ∧ (fup (aOut (wA w)) i [] j).Nodup ∧ (∀ p ∈ fup (aOut (wA w)) i [] j, p < tN (wT w) ∧ tDir (wT w) p = false ∧ (if p ∈ aOut (wA w) i then none else tMk (wT w) p) = some j) ∧ (fup (aSt (wA w)) i [] j).length ≤ 16 ∧ ∀ q ∈ fup (aSt (wA w)) i [] j, q.1 < 14 ∧ q.2 < 256
      by_cases e : j = i
      · subst e
        rw [fup_same, fup_same, fup_same]
        simp
      · rw [fup_ne e, fup_ne e, fup_ne e]
        obtain ⟨a1, a2, a3, a4, a5, a6, a7, a8⟩ := hA.2.1 j hj
        refine ⟨a1, a2, a3, a4, a5, fun p hp => ⟨(a6 p hp).1, (a6 p hp).2.1, ?_⟩, a7, a8⟩
        rw [if_neg (fun r => ?_)]
        · exact (a6 p hp).2.2
        · have g1 := (a6 p hp).2.2
          rw [((hA.2.1 i hi).2.2.2.2.2.1 p r).2.2] at g1
          cases g1; exact e rfl
    · have hm : (if p ∈ aOut (wA w) i then none else tMk (wT w) p) = some k := hm
      split at hm
      · cases hm
      · rename_i g
        have q := hA.2.2.1 p k hp hm
        refine ⟨q.1, ?_⟩
        show p ∈ fup (aOut (wA w)) i [] k
        rw [fup_ne (fun e => g (by rw [← e]; exact q.2))]
        exact q.2
    · refine hA.2.2.2 j hj (rch_sub (fun i' j' h1 h2 => ⟨h1, ?_⟩) hr)
      obtain ⟨p, hp, o, ho, hpo⟩ := uses_iff.mp h2
      have hp : p ∈ fup (aIns (wA w)) i [] i' := hp
      have ho : o ∈ fup (aOut (wA w)) i [] j' := ho
      have c1 : i' ≠ i := fun e => by rw [e, fup_same] at hp; exact absurd hp (by simp)
      have c2 : j' ≠ i := fun e => by rw [e, fup_same] at ho; exact absurd ho (by simp)
      rw [fup_ne c1] at hp
      rw [fup_ne c2] at ho
      exact uses_iff.mpr ⟨p, hp, o, ho, hpo⟩
    · show (∀ l, (if p ∈ aOut (wA w) i then none else wC w s p) = some l → conOk l) ∧ (tDir (wT w) p = true → (if p ∈ aOut (wA w) i then none else wC w s p) = none)
      split
      · exact ⟨fun l e => by cases e, fun _ => rfl⟩
      · exact h.2.2.1 s p hs hp
end NJ
