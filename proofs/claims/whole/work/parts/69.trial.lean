/-! WHETHER ALL IS CLEAN, PURE: what an action reads is settled before it is done -/
section TR
variable {t : TreT} {a : ActT} {cv cv' : Nat → Con} {ins : List Nat} {no n v i j : Nat} {row : List Int32} {out : Nat → Con} {op : Nat → Bool}
/-- two spaces are alike for what is read -/
def agI (t : TreT) (cv cv' : Nat → Con) (ins : List Nat) : Prop := ∀ p, p ∈ ins → (tDir t p = false → cv p = cv' p) ∧ (tDir t p = true → namesW t cv p = namesW t cv' p)
theorem stepW_ag (h : agI t cv cv' ins) : stepW t cv ins no n v row out = stepW t cv' ins no n v row out := by
  unfold stepW
  by_cases c0 : (n = 0 ∨ n = 2 ∨ n = 9) ∧ ins.length ≤ v
  · rw [if_pos c0, if_pos c0]
  rw [if_neg c0, if_neg c0]
  have hm : (n = 0 ∨ n = 2 ∨ n = 9) → ins.getD v 0 ∈ ins := by
    intro hn
    have hv : v < ins.length := by
      rcases Nat.lt_or_ge v ins.length with q | q
      · exact q
      · exact absurd ⟨hn, q⟩ c0
    rw [List.getD_eq_getElem?_getD, List.getElem?_eq_getElem hv]
    exact List.getElem_mem hv
  by_cases c1 : n = 3 ∧ no ≤ v
  · rw [if_pos c1, if_pos c1]
  rw [if_neg c1, if_neg c1]
  by_cases c2 : n = 0
  · rw [if_pos c2, if_pos c2]
    by_cases d : tDir t (ins.getD v 0) = true
    · rw [if_pos d, if_pos d]
    · rw [if_neg d, if_neg d, (h _ (hm (Or.inl c2))).1 (by simpa using d)]
  rw [if_neg c2, if_neg c2]
  by_cases c3 : n = 1
  · rw [if_pos c3, if_pos c3]
  rw [if_neg c3, if_neg c3]
  by_cases c4 : n = 2
  · rw [if_pos c4, if_pos c4]
    by_cases d : tDir t (ins.getD v 0) = true
    · rw [if_pos d, if_pos d, (h _ (hm (Or.inr (Or.inl c4)))).2 d]
    · rw [if_neg d, if_neg d]
  rw [if_neg c4, if_neg c4]
  by_cases c9 : n = 9
  · have e : ∀ x : Nat, x ≠ 9 → ¬ n = x := fun x hx q => hx (q.symm.trans c9)
    rw [if_neg (e 3 (by decide)), if_neg (e 3 (by decide)), if_neg (e 4 (by decide)), if_neg (e 4 (by decide)), if_neg (e 5 (by decide)), if_neg (e 5 (by decide)), if_neg (e 6 (by decide)), if_neg (e 6 (by decide)), if_neg (e 7 (by decide)), if_neg (e 7 (by decide)), if_neg (e 8 (by decide)), if_neg (e 8 (by decide)), if_pos c9, if_pos c9]
    by_cases d : tDir t (ins.getD v 0) = true
    · rw [if_pos d, if_pos d]
    · rw [if_neg d, if_neg d, (h _ (hm (Or.inr (Or.inr c9)))).1 (by simpa using d)]
  · rw [if_neg c9, if_neg c9]
theorem runW_ag (h : agI t cv cv' ins) : ∀ (st : List (Nat × Nat)) (row : List Int32) (ps : Bool) (out : Nat → Con), runW t cv ins no st row ps out = runW t cv' ins no st row ps out
  | [], _, _, _ => rfl
  | s :: st, row, ps, out => by
    have ih := runW_ag h st
    unfold runW
    rw [stepW_ag h]
    by_cases c : ps = true
    · rw [if_pos c, if_pos c]; exact ih _ _ _
    · rw [if_neg c, if_neg c]
      by_cases c0 : (stepW t cv' ins no s.1 s.2 row out).1 = 0
      · rw [if_pos c0, if_pos c0]; exact ih _ _ _
      · rw [if_neg c0, if_neg c0]
theorem comesW_ag (h : agI t cv cv' (aIns a i)) : comesW t cv a i = comesW t cv' a i := runW_ag h _ _ _ _
theorem layO_in : ∀ (l : List Nat) (cv cv' : Nat → Con) (k p : Nat), p ∈ l → layO cv l out k p = layO cv' l out k p
  | [], _, _, _, _, h => absurd h (by simp)
  | x :: l, cv, cv', k, p, h => by
    show layO (fup cv x (out k)) l out (k + 1) p = layO (fup cv' x (out k)) l out (k + 1) p
    by_cases hl : p ∈ l
    · exact layO_in l _ _ _ _ hl
    · have e : p = x := by
        rcases List.mem_cons.mp h with q | q
        · exact q
        · exact absurd q hl
      have key : ∀ (l : List Nat) (g : Nat → Con) (k : Nat), p ∉ l → layO g l out k p = g p := by
        intro l
        induction l with
        | nil => intro g k _; rfl
        | cons y l ih =>
          intro g k hy
          show layO (fup g y (out k)) l out (k + 1) p = g p
          rw [ih _ _ (fun q => hy (List.mem_cons_of_mem _ q)), fup_ne (fun q => hy (by rw [q]; exact List.mem_cons_self))]
      rw [key l _ _ hl, key l _ _ hl, e, fup_same, fup_same]
theorem layO_out : ∀ (l : List Nat) (cv : Nat → Con) (k p : Nat), p ∉ l → layO cv l out k p = cv p
  | [], _, _, _, _ => rfl
  | x :: l, cv, k, p, h => by
    show layO (fup cv x (out k)) l out (k + 1) p = cv p
    rw [layO_out l _ _ _ (fun q => h (List.mem_cons_of_mem _ q)), fup_ne (fun q => h (by rw [q]; exact List.mem_cons_self))]
/-- all that is settled: sources, and what is made by those that aren't open -/
def settled (t : TreT) (op : Nat → Bool) (p : Nat) : Prop := ∀ i, tMk t p = some i → op i = false
def agS (t : TreT) (op : Nat → Bool) (cv cv' : Nat → Con) : Prop := ∀ p, p < tN t → settled t op p → cv p = cv' p
theorem agS_in (hT : TInv t) (hA : AInv t a) (hi : i < aN a) (h : agS t op cv cv') (hc : condW t a op i) : agI t cv cv' (aIns a i) := by
  have hin := (hA.2.1 i hi).2.1
  have key : ∀ p k, p ∈ aIns a i → k < tN t → (k = p ∨ tPar t k = some p) → cv k = cv' k := by
    intro p k hp hk hpk
    refine h k hk (fun j hj => ?_)
    cases hop : op j with
    | false => rfl
    | true =>
      have hja := (hA.2.2.1 k j hk hj).1
      have := hc.2 j hja hop
      rw [(uses_mkr hA hja).mpr ⟨p, hp, k, hk, hj, hpk⟩] at this
      cases this
  intro p hp
  refine ⟨fun _ => key p p hp (hin p hp) (Or.inl rfl), fun _ => ?_⟩
  unfold namesW
  congr 1
  apply List.filter_congr
  intro k hk
  obtain ⟨k1, k2, _⟩ := (mem_filesT hT).mp hk
  rw [key p k hp k1 (Or.inr k2)]
theorem agS_lay (hT : TInv t) (hA : AInv t a) (hi : i < aN a) (h : agS t op cv cv') (hc : condW t a op i) : agS t (fup op i false) (layO cv (aOut a i) (comesW t cv a i).2 0) (layO cv' (aOut a i) (comesW t cv' a i).2 0) := by
  rw [comesW_ag (agS_in hT hA hi h hc)]
  intro p hp hs
  by_cases hl : p ∈ aOut a i
  · exact layO_in _ _ _ _ _ hl
  · rw [layO_out _ _ _ _ hl, layO_out _ _ _ _ hl]
    refine h p hp (fun j hj => ?_)
    have e : j ≠ i := fun q => hl (by rw [← q]; exact (hA.2.2.1 p j hp hj).2)
    have := hs j hj
    rw [fup_ne e] at this; exact this
/-- where some are open, one of them can be done -/
theorem acyc_next (hA : AInv t a) (h : ∃ i, i < aN a ∧ op i = true) : ∃ i, i < aN a ∧ condW t a op i := by
  have key : ∀ c i, i < aN a → op i = true → cnt (fun b => pB (rch t a i b)) (aN a) ≤ c → ∃ i, i < aN a ∧ condW t a op i := by
    intro c
    induction c with
    | zero =>
      intro i hi hop hc
      refine ⟨i, hi, hop, fun j hj _ => ?_⟩
      cases hu : usesT t a i j with
      | false => rfl
      | true =>
        have hr := rch_one hj hu
        have : cnt (fun _ => false) (aN a) < cnt (fun b => pB (rch t a i b)) (aN a) := cnt_lt _ (fun _ _ h => by cases h) ⟨j, hj, rfl, pB_iff.mpr hr⟩
        omega
    | succ c ih =>
      intro i hi hop hc
      refine Classical.byContradiction fun hn => ?_
      have : ∃ j, j < aN a ∧ op j = true ∧ usesT t a i j = true := by
        refine Classical.byContradiction fun g => hn ⟨i, hi, hop, fun j hj hoj => ?_⟩
        cases hu : usesT t a i j with
        | false => rfl
        | true => exact absurd ⟨j, hj, hoj, hu⟩ g
      obtain ⟨j, hj, hoj, hu⟩ := this
      have hr := rch_one hj hu
      have hlt : cnt (fun b => pB (rch t a j b)) (aN a) < cnt (fun b => pB (rch t a i b)) (aN a) := by
        refine cnt_lt _ (fun b _ hb => pB_iff.mpr (rch_trans hr (pB_iff.mp hb))) ⟨j, hj, pB_false.mpr (hA.2.2.2 j hj), pB_iff.mpr hr⟩
      exact hn (ih j hj hoj (by omega))
  obtain ⟨i, hi, hop⟩ := h
  exact key _ i hi hop (Nat.le_refl _)
theorem cnt_off (hi : i < n) (ho : op i = true) : cnt (fup op i false) n + 1 ≤ cnt op n := by
  refine cnt_lt n (fun j _ hj => ?_) ⟨i, hi, fup_same, ho⟩
  unfold fup at hj
  split at hj
  · cases hj
  · exact hj
theorem cnt_0 {f : Nat → Bool} (h : cnt f n = 0) : ∀ i, i < n → f i = false := by
  intro i hi
  cases hf : f i with
  | false => rfl
  | true =>
    have : cnt (fun _ => false) n < cnt f n := cnt_lt n (fun _ _ h => by cases h) ⟨i, hi, rfl, hf⟩
    omega
/-- bytes all the time -/
def allOk (t : TreT) (cv : Nat → Con) : Prop := ∀ p, p < tN t → ∀ l, cv p = some l → conOk l
theorem allOk_lay (hT : TInv t) (hA : AInv t a) (hi : i < aN a) (h : allOk t cv) : allOk t (layO cv (aOut a i) (comesW t cv a i).2 0) := by
  have hin := (hA.2.1 i hi).2.1
  have hrn := runW_ok (no := (aOut a i).length) (cv := cv) hT (fun p hp _ l hl => h p (hin p hp) l hl) hin (aSt a i) [] false (fun _ => none) (fun q hq => ((hA.2.1 i hi).2.2.2.2.2.2.2 q hq).2) ⟨Nat.zero_le _, fun x hx => absurd hx (by simp)⟩ (fun o l h => by cases h) (fun _ _ => rfl)
  intro p hp l hl
  rcases layO_at (out := (comesW t cv a i).2) (aOut a i) cv 0 p with q | ⟨q1, j, q2⟩
  · rw [q] at hl; exact h p hp l hl
  · exact hrn.1 j l (by rw [q2] at hl; exact hl)
end TR
