/-! FROM THE 204's ENTRY: the machine over fields at its start; what is left is a run of it -/
theorem siteTy_of (t : Nat) : siteTy t = .int ∨ siteTy t = .boolean ∨ siteTy t = .array .int ∨ siteTy t = .object "BuildCache$Content" ∨ siteTy t = .object "BuildCache$Key" ∨ siteTy t = .object "java/lang/Object" := by
  unfold siteTy
  by_cases h1 : t = 6 ∨ t = 7
  · rw [if_pos h1]; simp
  rw [if_neg h1]
  by_cases h2 : t = 8
  · rw [if_pos h2]; simp
  rw [if_neg h2]
  by_cases h3 : t = 9
  · rw [if_pos h3]; simp
  rw [if_neg h3]
  by_cases h4 : t = 11
  · rw [if_pos h4]; simp
  rw [if_neg h4]
  split <;> simp
/-- the start: the script at b, the empty array at e, nothing else -/
def zInit (b ee mi n0 L : Nat) (xs : Nat → Int32) : zSt := zmk (fun a => if a = b then (4, 12, L) else if a = ee then (5, 0, 0) else (0, 0, 0)) (fun _ _ _ => 0) (fun _ _ _ => 0) (fun _ _ _ => none) (fun _ _ => xs) (fun _ _ _ => none) n0 0 ee mi
/-- WHAT IS LEFT: the law's own run ends, with 1, within the room -/
def zLawOK : Prop := ∀ (b ee mi n0 L : Nat) (xs : Nat → Int32), L ≤ 2048 → b < n0 → ee < n0 → b ≠ ee → ∃ n u, zRun n 204 0 (zL0 204 [.ref b]) [] (zInit b ee mi n0 L xs) = some u ∧ u.1 = some (.int 1) ∧ znx u.2 - n0 ≤ 600000 ∧ zsl u.2 ≤ 7302250
theorem gK_start {s : State} {args : Array Value} (hts : ∀ w ∈ lw_tbl, w.before args s = true) : ∃ G : zG, gK G s := by
  have htb : ∀ w ∈ bigW, w.before args s = true := fun w hw => hts w (bigW_tbl hw)
  have h1 : ∀ ci : Nat, ∃ q : ClassId × (Nat → Nat), ci < 14 → u_Kn s (cRow ci).1 (cRow ci).2.1 (cRow ci).2.2 q.1 q.2 := by
    intro ci
    by_cases hc : ci < 14
    · have hin := htb _ (ins_ok ci hc)
      rw [← (cls_ok ci hc).2] at hin
      obtain ⟨cC, iS, h⟩ := u_known htb (lay_ok ci hc) hin
      exact ⟨(cC, iS), fun _ => h⟩
    · exact ⟨(0, fun _ => 0), fun h => absurd h hc⟩
  obtain ⟨F, hF⟩ := Classical.axiomOfChoice h1
  have h2 : ∀ t : Nat, ∃ cA : ClassId, ArrOfT s cA (siteTy t) ∧ va_RA s cA (siteTy t) := by
    intro t
    rcases siteTy_of t with h | h | h | h | h | h
    · rw [h]
      obtain ⟨cA, k, comp, g1, g2, g3⟩ := Cond.arrayClass_spec (htb _ w_aI)
      exact ⟨cA, fun n z => ⟨fun k h => (by cases h), k, g2, comp, g3⟩, g1⟩
    · rw [h]
      obtain ⟨cA, k, comp, g1, g2, g3⟩ := Cond.arrayClass_spec (htb _ w_aZ)
      exact ⟨cA, fun n z => ⟨fun k h => (by cases h), k, g2, comp, g3⟩, g1⟩
    · rw [h]
      obtain ⟨comp, cA, k, g0, -, g2, g3, g1⟩ := arrayOverA_spec (hts _ (tl2 (i := 36) rfl))
      exact ⟨cA, fun n z => ⟨fun k h => (by cases h), k, g2, comp, g3⟩, g1⟩
    · rw [h]
      obtain ⟨comp, cA, k, g0, -, g2, g3, g1⟩ := Cond.arrayOver_spec (hts _ (tl1 (i := 79) rfl))
      exact ⟨cA, fun n z => ⟨fun k h => (by cases h), k, g2, comp, g3⟩, k, comp, g2, g3, g0, g1⟩
    · rw [h]
      obtain ⟨comp, cA, k, g0, -, g2, g3, g1⟩ := Cond.arrayOver_spec (hts _ (tl3 (i := 25) rfl))
      exact ⟨cA, fun n z => ⟨fun k h => (by cases h), k, g2, comp, g3⟩, k, comp, g2, g3, g0, g1⟩
    · rw [h]
      obtain ⟨comp, cA, k, g0, -, g2, g3, g1⟩ := Cond.arrayOver_spec (hts _ (tl1 (i := 197) rfl))
      exact ⟨cA, fun n z => ⟨fun k h => (by cases h), k, g2, comp, g3⟩, k, comp, g2, g3, g0, g1⟩
  obtain ⟨A, hA⟩ := Classical.axiomOfChoice h2
  refine ⟨((fun k => (F k).1, fun k => (F k).2), A), ⟨fun ci q hq => ?_, fun k q hk => by simp at hk⟩, hA⟩
  have hc : ci < 14 := (List.getElem?_eq_some_iff.mp hq).1
  have e1 : q = cRow ci := Option.some.inj (hq.symm.trans (cls_ok ci hc).1)
  rw [e1]
  exact hF ci hc
theorem gS_start {s : State} {b : Addr} (hts : ∀ w ∈ lw_tbl, w.before #[Value.ref b] s = true) (hgv : (Jvm.Cond.and given_1 narrow_1).before #[Value.ref b] s = true) : ∃ ee mi : Nat, gS s.heap.size ee mi s ∧ va_T (.object "java/lang/Object") ee 0 (fun _ => .null) (fun q => s.heap.size ≤ q) s s.heap := by
  have hs := flat_of_before _ hgv
  have harr : (Cond.arrayOf (.static "java/util/ArrayList" "DEFAULTCAPACITY_EMPTY_ELEMENTDATA" "[Ljava/lang/Object;") (.object "java/lang/Object")).before #[Value.ref b] s = true := hs _ (by decide +kernel)
  have hlen : (Cond.eq (.length (.static "java/util/ArrayList" "DEFAULTCAPACITY_EMPTY_ELEMENTDATA" "[Ljava/lang/Object;")) (.int 0)).before #[Value.ref b] s = true := hs _ (by decide +kernel)
  have hmir : (Cond.isRef (.mirror "[Ljava/lang/Object;")).before #[Value.ref b] s = true := hs _ (by decide +kernel)
  have hA : ∀ a : Nat, a < s.heap.size → ¬ (s.heap.size ≤ a) := fun a h => Nat.not_le.mpr h
  obtain ⟨ee, h1, h2⟩ := va_Tof (N := 0) (f := fun _ => .null) (A := fun q => s.heap.size ≤ q) (by decide) harr (va_eqt hlen) (fun j hj => absurd hj (Nat.not_lt_zero j)) hA
  obtain ⟨mi, h3⟩ := va_Mi.of hmir
  refine ⟨ee, mi, ⟨va_Zref (hts _ (tl1 (i := 51) rfl)) (hts _ (tl1 (i := 5) rfl)) h1 hA, h3, va_Dc.of (hts _ (tl6 (i := 208) rfl)), ?_, ?_, ⟨hts _ (tl1 (i := 79) rfl), hts _ (tl3 (i := 25) rfl), hts _ (tl1 (i := 197) rfl)⟩, hts _ (tl2 (i := 36) rfl)⟩, h2⟩
  · intro q hq hk
    have h4 := (pi_ok q hq).1
    rw [if_pos hk] at h4
    exact va_Nw.of rfl (hts _ h4)
  · intro k hk
    rcases hk with rfl | rfl | rfl
    · exact va_Nw.of rfl (hts _ (tl6 (i := 204) rfl))
    · exact va_Nw.of rfl (hts _ (tl6 (i := 205) rfl))
    · exact va_Nw.of rfl (hts _ (tl6 (i := 197) rfl))
theorem z_apart0 {s : State} {b ee L : Nat} {xs : Nat → Int32} {A : Nat → Prop} (h1 : va_X b L xs s s.heap) (h2 : va_T (.object "java/lang/Object") ee 0 (fun _ => .null) A s s.heap) : b ≠ ee := by
  intro he
  subst he
  obtain ⟨c1, g1, ⟨-, k1, g2, m1, g3⟩, -⟩ := h1
  obtain ⟨c2, f1, ⟨-, k2, f2, m2, f3⟩, -⟩ := h2
  cases g1.symm.trans f1
  cases g2.symm.trans f2
  cases g3.symm.trans f3
