/-! WHAT HOLDS ALL THE TIME: of what a call leaves that changes the paths or the actions -/
section NJ
variable {w : WT} {x y z : Int32} {t t' : TreT} {a a' : ActT}
theorem rchN_sub (hu : ∀ i j, j < aN a' → usesT t' a' i j = true → j < aN a ∧ usesT t a i j = true) : ∀ n {i j : Nat}, rchN t' a' n i j → rchN t a n i j
  | 0, _, _, h => hu _ _ h.1 h.2
  | n + 1, _, _, ⟨k, h1, h2, h3⟩ => ⟨k, (hu _ _ h1 h2).1, (hu _ _ h1 h2).2, rchN_sub hu n h3⟩
theorem rch_sub (hu : ∀ i j, j < aN a' → usesT t' a' i j = true → j < aN a ∧ usesT t a i j = true) {i j : Nat} (h : rch t' a' i j) : rch t a i j := by
  obtain ⟨n, h⟩ := h
  exact ⟨n, rchN_sub hu n h⟩
theorem TInv_mk {f : Nat → Option Nat} (h : TInv t) (h0 : f 0 = none) : TInv (setMk t f) := ⟨h.1, h.2.1, ⟨h.2.2.1.1, h.2.2.1.2.1, h.2.2.1.2.2.1, h0⟩, h.2.2.2.1, h.2.2.2.2⟩
theorem sStep_inv (h : WInv w) : WInv (sStep w x y z).1 := by
  unfold sStep
  split
  · rename_i i n v e1 e2 e3
    split
    · exact h
    · rename_i g
      have hi := ixN_lt e1
      have hA := h.2.1
      refine ⟨h.1, ⟨hA.1, fun j hj => ?_, hA.2.2.1, fun j hj hr => hA.2.2.2 j hj (rch_sub (t := wT w) (a := wA w) (t' := wT w) (a' := (aN (wA w), aIns (wA w), aOut (wA w), fup (aSt (wA w)) i (aSt (wA w) i ++ [(n, v)]))) (fun i j h1 h2 => ⟨h1, h2⟩) hr)⟩, h.2.2.1, h.2.2.2.1, h.2.2.2.2⟩
      obtain ⟨a1, a2, a3, a4, a5, a6, a7, a8⟩ := hA.2.1 j hj
      refine ⟨a1, a2, a3, a4, a5, a6, ?_⟩
      show (fup (aSt (wA w)) i _ j).length ≤ 16 ∧ ∀ q ∈ fup (aSt (wA w)) i _ j, q.1 < 14 ∧ q.2 < 256
      by_cases e : j = i
      · subst e
        rw [fup_same]
        refine ⟨by rw [List.length_append]; show _ + 1 ≤ 16; omega, fun q hq => ?_⟩
        rcases List.mem_append.mp hq with r | r
        · exact a8 q r
        · rw [List.mem_singleton.mp r]; exact ⟨ixN_lt e2, ixN_lt e3⟩
      · rw [fup_ne e]; exact ⟨a7, a8⟩
  · exact h
theorem sAction_inv (h : WInv w) : WInv (sAction w).1 := by
  unfold sAction
  split
  · exact h
  · rename_i g
    have hA := h.2.1
    have hu : ∀ i j, j < aN (wA w) + 1 → usesT (wT w) (aN (wA w) + 1, fup (aIns (wA w)) (aN (wA w)) [], fup (aOut (wA w)) (aN (wA w)) [], fup (aSt (wA w)) (aN (wA w)) []) i j = true → (i ≠ aN (wA w) ∧ j < aN (wA w)) ∧ usesT (wT w) (wA w) i j = true := by
      intro i j hj hu
      obtain ⟨p, hp, o, ho, hpo⟩ := uses_iff.mp hu
      have hp : p ∈ fup (aIns (wA w)) (aN (wA w)) [] i := hp
      have ho : o ∈ fup (aOut (wA w)) (aN (wA w)) [] j := ho
      have c1 : i ≠ aN (wA w) := fun e => by rw [e, fup_same] at hp; exact absurd hp (by simp)
      have c2 : j ≠ aN (wA w) := fun e => by rw [e, fup_same] at ho; exact absurd ho (by simp)
      rw [fup_ne c1] at hp
      rw [fup_ne c2] at ho
      exact ⟨⟨c1, by omega⟩, uses_iff.mpr ⟨p, hp, o, ho, hpo⟩⟩
    refine ⟨h.1, ⟨(show aN (wA w) + 1 ≤ 40 by omega), fun j hj => ?_, fun p i hp hm => ?_, fun j hj hr => ?_⟩, h.2.2.1, h.2.2.2.1, fun s i k hs hi hk => ?_, h.2.2.2.2.2⟩
    · have hj : j < aN (wA w) + 1 := hj
      show (fup (aIns (wA w)) (aN (wA w)) [] j).length ≤ 6 ∧ (∀ p ∈ fup (aIns (wA w)) (aN (wA w)) [] j, p < tN (wT w)) ∧ (fup (aIns (wA w)) (aN (wA w)) [] j).Nodup ∧ (fup (aOut (wA w)) (aN (wA w)) [] j).length ≤ 3 ∧ (fup (aOut (wA w)) (aN (wA w)) [] j).Nodup ∧ (∀ p ∈ fup (aOut (wA w)) (aN (wA w)) [] j, p < tN (wT w) ∧ tDir (wT w) p = false ∧ tMk (wT w) p = some j) ∧ (fup (aSt (wA w)) (aN (wA w)) [] j).length ≤ 16 ∧ ∀ q ∈ fup (aSt (wA w)) (aN (wA w)) [] j, q.1 < 14 ∧ q.2 < 256
      by_cases e : j = aN (wA w)
      · subst e
        rw [fup_same, fup_same, fup_same]
        simp
      · rw [fup_ne e, fup_ne e, fup_ne e]
        exact hA.2.1 j (by omega)
    · have q := hA.2.2.1 p i hp hm
      refine ⟨Nat.lt_succ_of_lt q.1, ?_⟩
      show p ∈ fup (aOut (wA w)) (aN (wA w)) [] i
      rw [fup_ne (Nat.ne_of_lt q.1)]
      exact q.2
    · have hr2 := rch_sub (t := wT w) (a := wA w) (t' := wT w) (a' := (aN (wA w) + 1, fup (aIns (wA w)) (aN (wA w)) [], fup (aOut (wA w)) (aN (wA w)) [], fup (aSt (wA w)) (aN (wA w)) [])) (fun i j h1 h2 => ⟨(hu i j h1 h2).1.2, (hu i j h1 h2).2⟩) hr
      have hl := rch_lt hr2
      exact hA.2.2.2 j hl hr2
    · have hi : i < aN (wA w) + 1 := hi
      have hk : (if i = aN (wA w) then none else wW w s i) = some k := hk
      split at hk
      · cases hk
      · exact h.2.2.2.2.1 s i k hs (by omega) hk
theorem sErase_inv (h : WInv w) : WInv (sErase w x).1 := by
  unfold sErase
  split
  · exact h
  · rename_i i e1
    have hi := ixN_lt e1
    have hA := h.2.1
    refine ⟨TInv_mk h.1 (by show (if 0 ∈ aOut (wA w) i then none else tMk (wT w) 0) = none; rw [h.1.2.2.1.2.2.2]; split <;> rfl), ⟨hA.1, fun j hj => ?_, fun p k hp hm => ?_, fun j hj hr => ?_⟩, fun s p hs hp => ?_, h.2.2.2.1, h.2.2.2.2.1, h.2.2.2.2.2⟩
    · have hj : j < aN (wA w) := hj
      show (fup (aIns (wA w)) i [] j).length ≤ 6 ∧ (∀ p ∈ fup (aIns (wA w)) i [] j, p < tN (wT w)) ∧ (fup (aIns (wA w)) i [] j).Nodup ∧ (fup (aOut (wA w)) i [] j).length ≤ 3 ∧ (fup (aOut (wA w)) i [] j).Nodup ∧ (∀ p ∈ fup (aOut (wA w)) i [] j, p < tN (wT w) ∧ tDir (wT w) p = false ∧ (if p ∈ aOut (wA w) i then none else tMk (wT w) p) = some j) ∧ (fup (aSt (wA w)) i [] j).length ≤ 16 ∧ ∀ q ∈ fup (aSt (wA w)) i [] j, q.1 < 14 ∧ q.2 < 256
      by_cases e : j = i
      · subst e
        rw [fup_same, fup_same, fup_same]
        simp
      · rw [fup_ne e, fup_ne e, fup_ne e]
        obtain ⟨a1, a2, a3, a4, a5, a6, a7, a8⟩ := hA.2.1 j hj
        refine ⟨a1, a2, a3, a4, a5, fun p hp => ⟨(a6 p hp).1, (a6 p hp).2.1, ?_⟩, a7, a8⟩
        rw [if_neg (fun r => ?_)]
        · exact (a6 p hp).2.2
        · have g1 := (a6 p hp).2.2
          rw [((hA.2.1 i hi).2.2.2.2.2.1 p r).2.2] at g1
          cases g1; exact e rfl
    · have hm : (if p ∈ aOut (wA w) i then none else tMk (wT w) p) = some k := hm
      split at hm
      · cases hm
      · rename_i g
        have q := hA.2.2.1 p k hp hm
        refine ⟨q.1, ?_⟩
        show p ∈ fup (aOut (wA w)) i [] k
        rw [fup_ne (fun e => g (by rw [← e]; exact q.2))]
        exact q.2
    · refine hA.2.2.2 j hj (rch_sub (t := wT w) (a := wA w) (t' := setMk (wT w) (fun p => if p ∈ aOut (wA w) i then none else tMk (wT w) p)) (a' := (aN (wA w), fup (aIns (wA w)) i [], fup (aOut (wA w)) i [], fup (aSt (wA w)) i [])) (fun i' j' h1 h2 => ⟨h1, ?_⟩) hr)
      obtain ⟨p, hp, o, ho, hpo⟩ := uses_iff.mp h2
      have hp : p ∈ fup (aIns (wA w)) i [] i' := hp
      have ho : o ∈ fup (aOut (wA w)) i [] j' := ho
      have c1 : i' ≠ i := fun e => by rw [e, fup_same] at hp; exact absurd hp (by simp)
      have c2 : j' ≠ i := fun e => by rw [e, fup_same] at ho; exact absurd ho (by simp)
      rw [fup_ne c1] at hp
      rw [fup_ne c2] at ho
      exact uses_iff.mpr ⟨p, hp, o, ho, hpo⟩
    · show (∀ l, (if p ∈ aOut (wA w) i then none else wC w s p) = some l → conOk l) ∧ (tDir (wT w) p = true → (if p ∈ aOut (wA w) i then none else wC w s p) = none)
      split
      · exact ⟨(fun l e => by cases e), fun _ => rfl⟩
      · exact h.2.2.1 s p hs hp
end NJ
section NK
variable {w : WT} {x y z : Int32} {t : TreT} {a : ActT}
/-- what reaches what, once a path more is asked for by action i -/
theorem rchN_in {i p : Nat} (hu : ∀ j k, k < aN a → usesT t (aN a, fup (aIns a) i (aIns a i ++ [p]), aOut a, aSt a) j k = true → usesT t a j k = true ∨ (j = i ∧ mkr t p k)) : ∀ n {j k : Nat}, rchN t (aN a, fup (aIns a) i (aIns a i ++ [p]), aOut a, aSt a) n j k → rch t a j k ∨ ((j = i ∨ rch t a j i) ∧ needP t a p k)
  | 0, j, k, h => by
    rcases hu j k h.1 h.2 with g | g
    · exact Or.inl (rch_one h.1 g)
    · exact Or.inr ⟨Or.inl g.1, Or.inl g.2⟩
  | n + 1, j, k, ⟨m, h1, h2, h3⟩ => by
    have h1 : m < aN a := h1
    rcases hu j m h1 h2 with g | g
    · have g1 := rch_one h1 g
      rcases rchN_in hu n h3 with q | ⟨q | q, r⟩
      · exact Or.inl (rch_trans g1 q)
      · exact Or.inr ⟨Or.inr (by rw [← q]; exact g1), r⟩
      · exact Or.inr ⟨Or.inr (rch_trans g1 q), r⟩
    · rcases rchN_in hu n h3 with q | ⟨_, r⟩
      · exact Or.inr ⟨Or.inl g.1, Or.inr ⟨m, g.2, q⟩⟩
      · exact Or.inr ⟨Or.inl g.1, r⟩
theorem sInput_inv (h : WInv w) : WInv (sInput w x y).1 := by
  unfold sInput
  split
  · rename_i i p e1 e2
    split
    · exact h
    split
    · exact h
    split
    · exact h
    · rename_i g1 g2 g3
      have hi := ixN_lt e1
      have hp := ixN_lt e2
      have hA := h.2.1
      refine ⟨h.1, ⟨hA.1, fun j hj => ?_, hA.2.2.1, fun j hj hr => ?_⟩, h.2.2.1, h.2.2.2.1, h.2.2.2.2⟩
      · have hj : j < aN (wA w) := hj
        obtain ⟨a1, a2, a3, a4⟩ := hA.2.1 j hj
        show (fup (aIns (wA w)) i (aIns (wA w) i ++ [p]) j).length ≤ 6 ∧ (∀ q ∈ fup (aIns (wA w)) i (aIns (wA w) i ++ [p]) j, q < tN (wT w)) ∧ (fup (aIns (wA w)) i (aIns (wA w) i ++ [p]) j).Nodup ∧ _
        by_cases e : j = i
        · subst e
          rw [fup_same]
          refine ⟨by rw [List.length_append]; show _ + 1 ≤ 6; omega, fun q hq => ?_, ?_, a4⟩
          · rcases List.mem_append.mp hq with r | r
            · exact a2 q r
            · rw [List.mem_singleton.mp r]; exact hp
          · rw [List.nodup_append]
            refine ⟨a3, by simp, fun u hu v hv e => ?_⟩
            rw [List.mem_singleton.mp hv] at e
            rw [e] at hu
            exact g1 hu
        · rw [fup_ne e]; exact ⟨a1, a2, a3, a4⟩
      · have hj : j < aN (wA w) := hj
        obtain ⟨n, hr⟩ := hr
        have hu : ∀ j k, k < aN (wA w) → usesT (wT w) (aN (wA w), fup (aIns (wA w)) i (aIns (wA w) i ++ [p]), aOut (wA w), aSt (wA w)) j k = true → usesT (wT w) (wA w) j k = true ∨ (j = i ∧ mkr (wT w) p k) := by
          intro j k hk hu
          obtain ⟨q, hq, o, ho, hqo⟩ := uses_iff.mp hu
          have hq : q ∈ fup (aIns (wA w)) i (aIns (wA w) i ++ [p]) j := hq
          have ho : o ∈ aOut (wA w) k := ho
          by_cases e : j = i
          · subst e
            rw [fup_same] at hq
            rcases List.mem_append.mp hq with r | r
            · exact Or.inl (uses_iff.mpr ⟨q, r, o, ho, hqo⟩)
            · rw [List.mem_singleton.mp r] at hqo
              exact Or.inr ⟨rfl, (mkr_out hA hk).mp ⟨o, ho, hqo⟩⟩
          · rw [fup_ne e] at hq
            exact Or.inl (uses_iff.mpr ⟨q, hq, o, ho, hqo⟩)
        have hc : ¬ needP (wT w) (wA w) p i := fun r => g2 (pB_iff.mpr r)
        rcases rchN_in hu n hr with q | ⟨q, r⟩
        · exact hA.2.2.2 j hj q
        · refine hc ?_
          rcases q with q | q
          · rw [← q]; exact r
          · rcases r with r | ⟨k, r1, r2⟩
            · exact Or.inr ⟨j, r, q⟩
            · exact Or.inr ⟨k, r1, rch_trans r2 q⟩
  · exact h
/-- what reaches what, once action i makes a path more -/
theorem rchN_out {i p : Nat} {t' : TreT} (hu : ∀ j k, k < aN a → usesT t' (aN a, aIns a, fup (aOut a) i (aOut a i ++ [p]), aSt a) j k = true → usesT t a j k = true ∨ (k = i ∧ ∃ q, q ∈ aIns a j ∧ (q = p ∨ tPar t p = some q))) : ∀ n {j k : Nat}, rchN t' (aN a, aIns a, fup (aOut a) i (aOut a i ++ [p]), aSt a) n j k → rch t a j k ∨ ((∃ b, (b = j ∨ rch t a j b) ∧ ∃ q, q ∈ aIns a b ∧ (q = p ∨ tPar t p = some q)) ∧ (k = i ∨ rch t a i k))
  | 0, j, k, h => by
    rcases hu j k h.1 h.2 with g | g
    · exact Or.inl (rch_one h.1 g)
    · exact Or.inr ⟨⟨j, Or.inl rfl, g.2⟩, Or.inl g.1⟩
  | n + 1, j, k, ⟨m, h1, h2, h3⟩ => by
    have h1 : m < aN a := h1
    rcases hu j m h1 h2 with g | g
    · have g1 := rch_one h1 g
      rcases rchN_out hu n h3 with q | ⟨⟨b, q | q, q2⟩, r⟩
      · exact Or.inl (rch_trans g1 q)
      · exact Or.inr ⟨⟨m, Or.inr g1, by rw [← q]; exact q2⟩, r⟩
      · exact Or.inr ⟨⟨b, Or.inr (rch_trans g1 q), q2⟩, r⟩
    · rcases rchN_out hu n h3 with q | ⟨_, r⟩
      · exact Or.inr ⟨⟨j, Or.inl rfl, g.2⟩, Or.inr (by rw [← g.1]; exact q)⟩
      · exact Or.inr ⟨⟨j, Or.inl rfl, g.2⟩, r⟩
theorem sOutput_inv (h : WInv w) : WInv (sOutput w x y).1 := by
  unfold sOutput
  split
  · rename_i i p e1 e2
    split
    · exact h
    split
    · exact h
    split
    · exact h
    split
    · exact h
    · rename_i g1 g2 g3 g4
      have hi := ixN_lt e1
      have hp := ixN_lt e2
      have hA := h.2.1
      have hd : tDir (wT w) p = false := Bool.eq_false_iff.mpr g1
      have hm : tMk (wT w) p = none := Classical.not_not.mp g2
      have hp0 : p ≠ 0 := fun e => by
        rw [e, h.1.2.2.1.2.2.1] at hd
        cases hd
      have hno : ∀ j, j < aN (wA w) → p ∉ aOut (wA w) j := fun j hj r => by
        have := ((hA.2.1 j hj).2.2.2.2.2.1 p r).2.2
        rw [hm] at this; cases this
      refine ⟨TInv_mk h.1 (by rw [fup_ne (fun e => hp0 e.symm)]; exact h.1.2.2.1.2.2.2), ⟨hA.1, fun j hj => ?_, fun k j hk hmk => ?_, fun j hj hr => ?_⟩, fun s k hs hk => ?_, h.2.2.2.1, h.2.2.2.2⟩
      · have hj : j < aN (wA w) := hj
        obtain ⟨a1, a2, a3, a4, a5, a6, a7⟩ := hA.2.1 j hj
        refine ⟨a1, a2, a3, ?_⟩
        show (fup (aOut (wA w)) i (aOut (wA w) i ++ [p]) j).length ≤ 3 ∧ (fup (aOut (wA w)) i (aOut (wA w) i ++ [p]) j).Nodup ∧ (∀ q ∈ fup (aOut (wA w)) i (aOut (wA w) i ++ [p]) j, q < tN (wT w) ∧ tDir (wT w) q = false ∧ fup (tMk (wT w)) p (some i) q = some j) ∧ _
        by_cases e : j = i
        · subst e
          rw [fup_same]
          refine ⟨by rw [List.length_append]; show _ + 1 ≤ 3; omega, ?_, fun q hq => ?_, a7⟩
          · rw [List.nodup_append]
            refine ⟨a5, by simp, fun u hu v hv e => ?_⟩
            rw [List.mem_singleton.mp hv] at e
            rw [e] at hu
            exact hno j hj hu
          · rcases List.mem_append.mp hq with r | r
            · refine ⟨(a6 q r).1, (a6 q r).2.1, ?_⟩
              rw [fup_ne (fun e => hno j hj (by rw [← e]; exact r))]
              exact (a6 q r).2.2
            · rw [List.mem_singleton.mp r]; exact ⟨hp, hd, fup_same⟩
        · rw [fup_ne e]
          refine ⟨a4, a5, fun q hq => ⟨(a6 q hq).1, (a6 q hq).2.1, ?_⟩, a7⟩
          rw [fup_ne (fun e => hno j hj (by rw [← e]; exact hq))]
          exact (a6 q hq).2.2
      · have hmk : fup (tMk (wT w)) p (some i) k = some j := hmk
        show j < aN (wA w) ∧ k ∈ fup (aOut (wA w)) i (aOut (wA w) i ++ [p]) j
        by_cases e : k = p
        · subst e
          rw [fup_same] at hmk
          cases hmk
          exact ⟨hi, by rw [fup_same]; simp⟩
        · rw [fup_ne e] at hmk
          have q := hA.2.2.1 k j hk hmk
          refine ⟨q.1, ?_⟩
          by_cases e2 : j = i
          · subst e2
            rw [fup_same]
            exact List.mem_append_left _ q.2
          · rw [fup_ne e2]; exact q.2
      · have hj : j < aN (wA w) := hj
        obtain ⟨n, hr⟩ := hr
        have hu : ∀ j k, k < aN (wA w) → usesT (setMk (wT w) (fup (tMk (wT w)) p (some i))) (aN (wA w), aIns (wA w), fup (aOut (wA w)) i (aOut (wA w) i ++ [p]), aSt (wA w)) j k = true → usesT (wT w) (wA w) j k = true ∨ (k = i ∧ ∃ q, q ∈ aIns (wA w) j ∧ (q = p ∨ tPar (wT w) p = some q)) := by
          intro j k hk hu
          obtain ⟨q, hq, o, ho, hqo⟩ := uses_iff.mp hu
          have hq : q ∈ aIns (wA w) j := hq
          have ho : o ∈ fup (aOut (wA w)) i (aOut (wA w) i ++ [p]) k := ho
          have hqo : o = q ∨ tPar (wT w) o = some q := hqo
          by_cases e : k = i
          · subst e
            rw [fup_same] at ho
            rcases List.mem_append.mp ho with r | r
            · exact Or.inl (uses_iff.mpr ⟨q, hq, o, r, hqo⟩)
            · rw [List.mem_singleton.mp r] at hqo
              exact Or.inr ⟨rfl, q, hq, hqo.imp Eq.symm id⟩
          · rw [fup_ne e] at ho
            exact Or.inl (uses_iff.mpr ⟨q, hq, o, ho, hqo⟩)
        have hc : ¬ circO (wT w) (wA w) i p := fun r => g3 (pB_iff.mpr r)
        rcases rchN_out hu n hr with q | ⟨⟨b, q1, q2⟩, r⟩
        · exact hA.2.2.2 j hj q
        · refine hc ?_
          have hb : b = i ∨ rch (wT w) (wA w) i b := by
            rcases r with r | r
            · rw [← r]; exact q1
            · rcases q1 with q1 | q1
              · rw [q1]; exact Or.inr r
              · exact Or.inr (rch_trans r q1)
          refine ⟨b, ?_, hb, q2⟩
          rcases hb with hb | hb
          · rw [hb]; exact hi
          · exact rch_lt hb
      · show (∀ l, (if k = p then none else wC w s k) = some l → conOk l) ∧ (tDir (wT w) k = true → (if k = p then none else wC w s k) = none)
        split
        · exact ⟨(fun l e => by cases e), fun _ => rfl⟩
        · exact h.2.2.1 s k hs hk
  · exact h
/-- a path more -/
theorem TInv_add {q m : Nat} {d : Bool} (h : TInv t) (hq : q < tN t) (hqd : tDir t q = true) (hm1 : 1 ≤ m) (hm2 : m ≤ 26) (h60 : tN t < 60) (h0 : ((List.range (tN t)).any fun k => decide (tPar t k = some q) && decide (tNam t k = m)) = false) : TInv (tAdd t q m d) := by
  obtain ⟨h1, h2, h3, h4, h5⟩ := h
  have hne : ∀ k, k < tN t → k ≠ tN t := fun k hk => Nat.ne_of_lt hk
  have hnn : ∀ k, k < tN t → ¬ (tPar t k = some q ∧ tNam t k = m) := by
    intro k hk ⟨r1, r2⟩
    rw [List.any_eq_false] at h0
    exact h0 k (List.mem_range.mpr hk) (by rw [r1, r2]; simp)
  have h0t : (0 : Nat) ≠ tN t := by omega
  refine ⟨(show 1 ≤ tN t + 1 by omega), (show tN t + 1 ≤ 60 by omega), ⟨?_, ?_, ?_, ?_⟩, fun p p1 p2 => ?_, fun p p' p1 p2 e1 e2 => ?_⟩
  · show fup (tPar t) (tN t) _ 0 = none
    rw [fup_ne h0t]; exact h3.1
  · show fup (tNam t) (tN t) _ 0 = 0
    rw [fup_ne h0t]; exact h3.2.1
  · show fup (tDir t) (tN t) _ 0 = true
    rw [fup_ne h0t]; exact h3.2.2.1
  · show fup (tMk t) (tN t) _ 0 = none
    rw [fup_ne h0t]; exact h3.2.2.2
  · have p2 : p < tN t + 1 := p2
    show (∃ r, r < p ∧ fup (tPar t) (tN t) (some q) p = some r ∧ fup (tDir t) (tN t) d r = true) ∧ 1 ≤ fup (tNam t) (tN t) m p ∧ fup (tNam t) (tN t) m p ≤ 26
    by_cases e : p = tN t
    · subst e
      rw [fup_same, fup_same]
      exact ⟨⟨q, hq, rfl, by rw [fup_ne (hne q hq)]; exact hqd⟩, hm1, hm2⟩
    · rw [fup_ne e, fup_ne e]
      obtain ⟨⟨r, r1, r2, r3⟩, r4⟩ := h4 p p1 (by omega)
      exact ⟨⟨r, r1, r2, by rw [fup_ne (by omega)]; exact r3⟩, r4⟩
  · have p1 : p < tN t + 1 := p1
    have p2 : p' < tN t + 1 := p2
    have e1 : fup (tPar t) (tN t) (some q) p = fup (tPar t) (tN t) (some q) p' := e1
    have e2 : fup (tNam t) (tN t) m p = fup (tNam t) (tN t) m p' := e2
    by_cases c : p = tN t
    · by_cases c' : p' = tN t
      · rw [c, c']
      · rw [c, fup_same, fup_ne c'] at e1
        rw [c, fup_same, fup_ne c'] at e2
        exact absurd ⟨e1.symm, e2.symm⟩ (hnn p' (by omega))
    · by_cases c' : p' = tN t
      · rw [c', fup_same, fup_ne c] at e1
        rw [c', fup_same, fup_ne c] at e2
        exact absurd ⟨e1, e2⟩ (hnn p (by omega))
      · rw [fup_ne c, fup_ne c'] at e1
        rw [fup_ne c, fup_ne c'] at e2
        exact h5 p p' (by omega) (by omega) e1 e2
theorem AInv_add {q m : Nat} {d : Bool} (hA : AInv t a) : AInv (tAdd t q m d) a := by
  have hne : ∀ k, k < tN t → k ≠ tN t := fun k hk => Nat.ne_of_lt hk
  refine ⟨hA.1, fun j hj => ?_, fun p j hp hm => ?_, fun j hj hr => ?_⟩
  · obtain ⟨a1, a2, a3, a4, a5, a6, a7⟩ := hA.2.1 j hj
    refine ⟨a1, fun p hp => Nat.lt_succ_of_lt (a2 p hp), a3, a4, a5, fun p hp => ?_, a7⟩
    obtain ⟨b1, b2, b3⟩ := a6 p hp
    show p < tN t + 1 ∧ fup (tDir t) (tN t) d p = false ∧ fup (tMk t) (tN t) none p = some j
    rw [fup_ne (hne p b1), fup_ne (hne p b1)]
    exact ⟨Nat.lt_succ_of_lt b1, b2, b3⟩
  · have hp : p < tN t + 1 := hp
    have hm : fup (tMk t) (tN t) none p = some j := hm
    by_cases e : p = tN t
    · rw [e, fup_same] at hm; cases hm
    · rw [fup_ne e] at hm
      exact hA.2.2.1 p j (by omega) hm
  · refine hA.2.2.2 j hj (rch_sub (t := t) (a := a) (t' := tAdd t q m d) (a' := a) (fun i' j' h1 h2 => ⟨h1, ?_⟩) hr)
    obtain ⟨p, hp, o, ho, hpo⟩ := uses_iff.mp h2
    have hot := ((hA.2.1 j' h1).2.2.2.2.2.1 o ho).1
    have hpo : o = p ∨ fup (tPar t) (tN t) (some q) o = some p := hpo
    rw [fup_ne (hne o hot)] at hpo
    exact uses_iff.mpr ⟨p, hp, o, ho, hpo⟩
theorem sPath_inv {d : Bool} (h : WInv w) : WInv (sPath w x y d).1 := by
  unfold sPath
  split
  · exact h
  split
  · exact h
  split
  · exact h
  split
  · exact h
  split
  · exact h
  · rename_i q e1 g1 g2 g3 g4
    have hq := ixN_lt e1
    have hm : 1 ≤ y.toNatClampNeg ∧ y.toNatClampNeg ≤ 26 := by
      rcases pk_ix y (n := 27) (by omega) with r | r | ⟨k, hk, rfl⟩
      · exact absurd (Or.inl (Int32.lt_trans r (by decide))) g1
      · exact absurd (Or.inr (Int32.lt_of_lt_of_le (by decide) r)) g1
      · rw [nI_clamp (by omega)]
        refine ⟨?_, by omega⟩
        cases k with
        | zero => exact absurd (Or.inl (by decide)) g1
        | succ k => omega
    refine ⟨TInv_add h.1 hq (by simpa using g2) hm.1 hm.2 (by omega) (Bool.eq_false_iff.mpr g3), AInv_add h.2.1, fun s p hs hp => ?_, h.2.2.2.1, h.2.2.2.2.1, h.2.2.2.2.2⟩
    have hp : p < tN (wT w) + 1 := hp
    show (∀ l, (if p = tN (wT w) then none else wC w s p) = some l → conOk l) ∧ (fup (tDir (wT w)) (tN (wT w)) d p = true → (if p = tN (wT w) then none else wC w s p) = none)
    by_cases e : p = tN (wT w)
    · rw [if_pos e]
      exact ⟨(fun l e => by cases e), fun _ => rfl⟩
    · rw [if_neg e, fup_ne e]
      exact h.2.2.1 s p hs (by omega)
end NK
