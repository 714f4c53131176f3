/-! ONE INSTRUCTION of any kind, but calls and returns -/
theorem fld_ok {M n x y : Nat} (ok : zPF.any (fun q => q.1 == mC M && q.2.1 == n && q.2.2.1 == x && q.2.2.2.1 == y) = true) : ∃ ref, Cond.fieldLink (cNm (mC M)) n ref ((cRow x).2.1 y).2.1 ((cRow x).2.1 y).2.2.1 ∈ bigW ∧ x < 14 ∧ y < (cRow x).2.2 ∧ (ref = ((cRow x).2.1 y).1 ∨ Cond.sameField ref ((cRow x).2.1 y).1 ((cRow x).2.1 y).2.1 ((cRow x).2.1 y).2.2.1 ∈ bigW) := by
  obtain ⟨q, hq, h⟩ := any_mem ok
  simp only [Bool.and_eq_true, beq_iff_eq] at h
  obtain ⟨⟨⟨h1, h2⟩, h3⟩, h4⟩ := h
  obtain ⟨g1, g2, g3, g4⟩ := pf_ok q hq
  rw [← h1, ← h2, ← h3, ← h4]
  exact ⟨_, g1, g2, g3, g4⟩
theorem cls_lk {M n x : Nat} (ok : zPC.any (fun q => q.1 == mC M && q.2.1 == n && q.2.2 == x) = true) : Cond.classLink (cNm (mC M)) n (cNm x) ∈ bigW := by
  obtain ⟨q, hq, h⟩ := any_mem ok
  simp only [Bool.and_eq_true, beq_iff_eq] at h
  obtain ⟨⟨h1, h2⟩, h3⟩ := h
  rw [← h1, ← h2, ← h3]
  exact pc_ok q hq
theorem inv_ok {M n x y : Nat} {z : Int} (ok : zPI.any (fun q => q.1 == mC M && q.2.1 == n && q.2.2.1 == x && q.2.2.2.1 == y && (q.2.2.2.2 : Int) == z) = true) : ∃ k : Nat, (k : Int) = z ∧ piOk (mC M, n, x, y, k) ∧ (mC M, n, x, y, k) ∈ zPI := by
  obtain ⟨q, hq, h⟩ := any_mem ok
  simp only [Bool.and_eq_true, beq_iff_eq] at h
  obtain ⟨⟨⟨⟨h1, h2⟩, h3⟩, h4⟩, h5⟩ := h
  refine ⟨q.2.2.2.2, h5, ?_⟩
  rw [← h1, ← h2, ← h3, ← h4]
  exact ⟨pi_ok q hq, hq⟩
theorem zLd_spec {p : Value → Bool} {k npc : Nat} {L : List (Option Value)} {S : List Value} {σ : zSt} {q : zC} (h : zLd p k npc L S σ = some q) : ∃ v, L[k]? = some (some v) ∧ p v = true ∧ q = (npc, L, v :: S, σ) := by
  unfold zLd at h
  split at h
  · rename_i v hv
    split at h
    · rename_i hp
      cases h
      exact ⟨v, hv, hp, rfl⟩
    · cases h
  · cases h
theorem zSto_spec {p : Value → Bool} {k nL npc : Nat} {L : List (Option Value)} {S : List Value} {σ : zSt} {q : zC} (h : zSto p k nL npc L S σ = some q) : ∃ v r, S = v :: r ∧ p v = true ∧ k < nL ∧ zNL L k = true ∧ q = (npc, L.set k (some v), r, σ) := by
  unfold zSto at h
  split at h
  · rename_i v r
    split at h
    · rename_i hp
      cases h
      exact ⟨v, r, rfl, hp.1, hp.2.1, hp.2.2, rfl⟩
    · cases h
  · cases h
theorem zStoL_spec {k nL npc : Nat} {L : List (Option Value)} {S : List Value} {σ : zSt} {q : zC} (h : zStoL k nL npc L S σ = some q) : ∃ v r, S = .long v :: r ∧ k + 1 < nL ∧ zNL L k = true ∧ q = (npc, (L.set k (some (.long v))).set (k + 1) none, r, σ) := by
  unfold zStoL at h
  split at h
  · rename_i v r
    split at h
    · rename_i hp
      cases h
      exact ⟨v, r, rfl, hp.1, hp.2, rfl⟩
    · cases h
  · cases h
theorem zInc_spec {k nL pc : Nat} {c : Int} {L : List (Option Value)} {S : List Value} {σ : zSt} {q : zC} (h : zInc k c nL pc L S σ = some q) : ∃ v, L[k]? = some (some (.int v)) ∧ k < nL ∧ zNL L k = true ∧ q = (pc + 3, L.set k (some (.int (v + Int32.ofInt c))), S, σ) := by
  unfold zInc at h
  split at h
  · rename_i v hv
    split at h
    · rename_i hp
      cases h
      exact ⟨v, hv, hp.1, hp.2, rfl⟩
    · cases h
  · cases h
theorem zBI_spec {f : Int32 → Int32 → Option Int32} {pc : Nat} {L : List (Option Value)} {S : List Value} {σ : zSt} {q : zC} (h : zBI f pc L S σ = some q) : ∃ x y v r, S = .int y :: .int x :: r ∧ f x y = some v ∧ q = (pc + 1, L, .int v :: r, σ) := by
  unfold zBI at h
  split at h
  · rename_i y x r
    split at h
    · rename_i v hv
      cases h
      exact ⟨x, y, v, r, rfl, hv, rfl⟩
    · cases h
  · cases h
theorem zBL_spec {f : Int64 → Int64 → Value} {pc : Nat} {L : List (Option Value)} {S : List Value} {σ : zSt} {q : zC} (h : zBL f pc L S σ = some q) : ∃ x y r, S = .long y :: .long x :: r ∧ q = (pc + 1, L, f x y :: r, σ) := by
  unfold zBL at h
  split at h
  · rename_i y x r
    cases h
    exact ⟨x, y, r, rfl, rfl⟩
  · cases h
theorem zSL_spec {f : Int64 → Int32 → Int64} {pc : Nat} {L : List (Option Value)} {S : List Value} {σ : zSt} {q : zC} (h : zSL f pc L S σ = some q) : ∃ x y r, S = .int y :: .long x :: r ∧ q = (pc + 1, L, .long (f x y) :: r, σ) := by
  unfold zSL at h
  split at h
  · rename_i y x r
    cases h
    exact ⟨x, y, r, rfl, rfl⟩
  · cases h
theorem zJ_spec {pc t : Nat} {off : Int} (h : zJ pc off = some t) : (pc : Int) + off = (t : Int) := by
  unfold zJ at h
  split at h
  · cases h; omega
  · cases h
theorem zGo_spec {b : Bool} {pc : Nat} {off : Int} {L : List (Option Value)} {r : List Value} {σ : zSt} {q : zC} (h : zGo b pc off L r σ = some q) : (b = true ∧ ∃ t : Nat, (pc : Int) + off = (t : Int) ∧ q = (t, L, r, σ)) ∨ (b = false ∧ q = (pc + 3, L, r, σ)) := by
  unfold zGo at h
  cases b with
  | true =>
    rw [if_pos rfl] at h
    split at h
    · rename_i t ht
      cases h
      exact Or.inl ⟨rfl, t, zJ_spec ht, rfl⟩
    · cases h
  | false =>
    rw [if_neg (by decide)] at h
    cases h
    exact Or.inr ⟨rfl, rfl⟩
theorem zIf_spec {f : Int32 → Bool} {pc : Nat} {off : Int} {L : List (Option Value)} {S : List Value} {σ : zSt} {q : zC} (h : zIf f pc off L S σ = some q) : ∃ x r, S = .int x :: r ∧ zGo (f x) pc off L r σ = some q := by
  unfold zIf at h
  split at h
  · exact ⟨_, _, rfl, h⟩
  · cases h
theorem zIc_spec {f : Int32 → Int32 → Bool} {pc : Nat} {off : Int} {L : List (Option Value)} {S : List Value} {σ : zSt} {q : zC} (h : zIc f pc off L S σ = some q) : ∃ x y r, S = .int y :: .int x :: r ∧ zGo (f x y) pc off L r σ = some q := by
  unfold zIc at h
  split at h
  · exact ⟨_, _, _, rfl, h⟩
  · cases h
theorem zAc_spec {ne : Bool} {pc : Nat} {off : Int} {L : List (Option Value)} {S : List Value} {σ : zSt} {q : zC} (h : zAc ne pc off L S σ = some q) : ∃ x y r, S = .ref y :: .ref x :: r ∧ zGo (ne != (x == y)) pc off L r σ = some q := by
  unfold zAc at h
  split at h
  · exact ⟨_, _, _, rfl, h⟩
  · cases h
def zCtx (p : Program) (s : State) (m : MethodId) (args : Array Value) (meth : Method) (c : Code) (G : zG) (lo M e mi : Nat) : Prop :=
  p.tables.exec = Jvm.exec ∧ c.code = mB M ∧ c.maxLocals = mL M ∧ s.vm.findClass (cNm (mC M)) = some m.cls ∧ (∀ w ∈ bigW, w.before args s = true) ∧ ((mY M).name = "<init>" → meth.name = "<init>") ∧ gK G s ∧ gS lo e mi s ∧ lo ≤ s.heap.size
theorem zisI_of {v : Value} (h : zisI v = true) : ∃ x, v = .int x := by cases v <;> first | exact ⟨_, rfl⟩ | cases h
theorem zisL_of {v : Value} (h : zisL v = true) : ∃ x, v = .long x := by cases v <;> first | exact ⟨_, rfl⟩ | cases h
theorem zisA_of {v : Value} (h : zisA v = true) : ∃ x, v = .ref x := by cases v <;> first | exact ⟨_, rfl⟩ | cases h
theorem zPv_spec {σ σ' : zSt} {ci k a : Nat} {v : Value} (hc : ci < 14) (hk : k < (cRow ci).2.2) (h : zPv σ ci k a v = some σ') : narrow (cTy ci k) v = v ∧ fits (cTy ci k) v = true ∧ ztg σ' = ztg σ ∧ (∀ c' k' b, zval σ' c' k' b = if c' = ci ∧ k' = k ∧ b = a then v else zval σ c' k' b) ∧ zai σ' = zai σ ∧ zar σ' = zar σ ∧ znx σ' = znx σ ∧ zsl σ' = zsl σ ∧ ze0 σ' = ze0 σ ∧ zmi σ' = zmi σ := by
  have hf := fty_ok ci hc k hk
  cases v with
  | int w =>
    unfold zPv at h
    dsimp only at h
    split at h
    · rename_i hw
      cases h
      have hfit : narrow (cTy ci k) (.int w) = .int w ∧ fits (cTy ci k) (.int w) = true ∧ fTy ci k ≠ 1 ∧ fTy ci k ≠ 2 := by
        rcases hf with ⟨f1, f2⟩ | ⟨f1, f2⟩ | ⟨f1, f2⟩ | ⟨f1, f2⟩
        · rw [f1, f2]; exact ⟨rfl, rfl, by decide, by decide⟩
        · rw [f1] at hw; rcases hw with hw | hw
          · cases hw
          · cases hw.1
        · rw [f1, f2]
          rcases hw with hw | ⟨-, rfl | rfl⟩
          · rw [f1] at hw; cases hw
          · exact ⟨rfl, rfl, by decide, by decide⟩
          · exact ⟨rfl, rfl, by decide, by decide⟩
        · rw [f1] at hw; rcases hw with hw | hw
          · cases hw
          · cases hw.1
      refine ⟨hfit.1, hfit.2.1, rfl, fun c' k' b => ?_, rfl, rfl, rfl, rfl, rfl, rfl⟩
      by_cases hq : c' = ci ∧ k' = k ∧ b = a
      · rw [if_pos hq]
        obtain ⟨rfl, rfl, rfl⟩ := hq
        unfold zval
        rw [if_neg hfit.2.2.1, if_neg hfit.2.2.2]
        exact congrArg Value.int (if_pos ⟨rfl, rfl, rfl⟩)
      · rw [if_neg hq]
        have e1 : zfi (sfi σ ci k a w) c' k' b = zfi σ c' k' b := if_neg hq
        unfold zval
        rw [e1]
        rfl
    · cases h
  | long w =>
    unfold zPv at h
    dsimp only at h
    split at h
    · rename_i hw
      cases h
      have hfit : narrow (cTy ci k) (.long w) = .long w ∧ fits (cTy ci k) (.long w) = true := by
        rcases hf with ⟨f1, f2⟩ | ⟨f1, f2⟩ | ⟨f1, f2⟩ | ⟨f1, f2⟩
        · rw [f1] at hw; cases hw
        · rw [f2]; exact ⟨rfl, rfl⟩
        · rw [f1] at hw; cases hw
        · rw [f1] at hw; cases hw
      refine ⟨hfit.1, hfit.2, rfl, fun c' k' b => ?_, rfl, rfl, rfl, rfl, rfl, rfl⟩
      by_cases hq : c' = ci ∧ k' = k ∧ b = a
      · rw [if_pos hq]
        obtain ⟨rfl, rfl, rfl⟩ := hq
        unfold zval
        rw [if_pos hw]
        exact congrArg Value.long (if_pos ⟨rfl, rfl, rfl⟩)
      · rw [if_neg hq]
        have e1 : zfl (sfl σ ci k a w) c' k' b = zfl σ c' k' b := if_neg hq
        unfold zval
        rw [e1]
        rfl
    · cases h
  | ref w =>
    unfold zPv at h
    dsimp only at h
    split at h
    · rename_i hw
      cases h
      have hfit : narrow (cTy ci k) (.ref w) = .ref w ∧ fits (cTy ci k) (.ref w) = true := by
        rcases hf with ⟨f1, f2⟩ | ⟨f1, f2⟩ | ⟨f1, f2⟩ | ⟨f1, f2⟩
        · rw [f1] at hw; cases hw
        · rw [f1] at hw; cases hw
        · rw [f1] at hw; cases hw
        · cases hh : cTy ci k <;> rw [hh] at f2 <;> first | exact ⟨rfl, rfl⟩ | cases f2
      refine ⟨hfit.1, hfit.2, rfl, fun c' k' b => ?_, rfl, rfl, rfl, rfl, rfl, rfl⟩
      by_cases hq : c' = ci ∧ k' = k ∧ b = a
      · rw [if_pos hq]
        obtain ⟨rfl, rfl, rfl⟩ := hq
        unfold zval
        rw [if_neg (by rw [hw]; decide), if_pos hw]
        exact congrArg va_rf (if_pos ⟨rfl, rfl, rfl⟩)
      · rw [if_neg hq]
        have e1 : zfr (sfr σ ci k a (some w)) c' k' b = zfr σ c' k' b := if_neg hq
        unfold zval
        rw [e1]
        rfl
    · cases h
  | _ => cases h
