/-! RUNS OF THE MACHINE OVER FIELDS: what a run comes to -/
theorem zRun_s {n m pc x y : Nat} {z : Int} {i : Instr} {L : List (Option Value)} {S : List Value} {σ : zSt} (hc : zcode m pc = some (i, x, y, z)) (hk : zKd i y = 0) : zRun (n + 1) m pc L S σ = (match z1 i x y z (mL m) pc L S σ with
    | none => none
    | some q => zRun n m q.1 q.2.1 q.2.2.1 q.2.2.2) := by
  rw [zRun, hc]
  simp only [hk]
  rfl
theorem zRun_c {n m pc x y : Nat} {z : Int} {i : Instr} {L : List (Option Value)} {S : List Value} {σ : zSt} (hc : zcode m pc = some (i, x, y, z)) (hk : zKd i y = 1) : zRun (n + 1) m pc L S σ = (match zCa x y z.toNat S σ with
    | none => none
    | some q => if zW q.2 ≤ 8 ∧ (zArgs q.1).length ≤ mL x then (match zRun n x 0 (zL0 x q.1) [] σ with
      | none => none
      | some u => zRun n m (pc + 3) L (u.1.toList ++ q.2) u.2) else none) := by
  rw [zRun, hc]
  simp only [hk]
  rfl
theorem zRun_r {n m pc x y : Nat} {z : Int} {i : Instr} {L : List (Option Value)} {S : List Value} {σ : zSt} (hc : zcode m pc = some (i, x, y, z)) (hk : zKd i y = 2) : zRun (n + 1) m pc L S σ = zRet i (mR m) S σ := by
  rw [zRun, hc]
  simp only [hk]
theorem zKd_012 (i : Instr) (y : Nat) : zKd i y = 0 ∨ zKd i y = 1 ∨ zKd i y = 2 := by
  unfold zKd
  split <;> first | (split <;> simp) | simp
theorem zRun_more : ∀ (n m pc : Nat) (L : List (Option Value)) (S : List Value) (σ : zSt) (u : Option Value × zSt), zRun n m pc L S σ = some u → zRun (n + 1) m pc L S σ = some u
  | 0, _, _, _, _, _, _, h => by cases h
  | n + 1, m, pc, L, S, σ, u, h => by
    cases hc : zcode m pc with
    | none => rw [zRun, hc] at h; cases h
    | some t =>
      obtain ⟨i, x, y, z⟩ := t
      rcases zKd_012 i y with hk | hk | hk
      · rw [zRun_s hc hk] at h ⊢
        cases hz : z1 i x y z (mL m) pc L S σ with
        | none => rw [hz] at h; cases h
        | some q => rw [hz] at h; exact zRun_more n _ _ _ _ _ _ h
      · rw [zRun_c hc hk] at h ⊢
        cases hz : zCa x y z.toNat S σ with
        | none => rw [hz] at h; cases h
        | some q =>
          rw [hz] at h
          simp only at h ⊢
          by_cases hw : zW q.2 ≤ 8 ∧ (zArgs q.1).length ≤ mL x
          · rw [if_pos hw] at h ⊢
            cases hr : zRun n x 0 (zL0 x q.1) [] σ with
            | none => rw [hr] at h; cases h
            | some u1 =>
              rw [hr] at h
              rw [zRun_more n _ _ _ _ _ _ hr]
              exact zRun_more n _ _ _ _ _ _ h
          · rw [if_neg hw] at h; cases h
      · rw [zRun_r hc hk] at h ⊢
        exact h
theorem zRun_le {n k m pc : Nat} {L : List (Option Value)} {S : List Value} {σ : zSt} {u : Option Value × zSt} (h : zRun n m pc L S σ = some u) (hk : n ≤ k) : zRun k m pc L S σ = some u := by
  induction hk with
  | refl => exact h
  | step _ ih => exact zRun_more _ _ _ _ _ _ _ ih
def wp (m pc : Nat) (L : List (Option Value)) (S : List Value) (σ : zSt) (P : Option Value → zSt → Prop) : Prop := ∃ n u, zRun n m pc L S σ = some u ∧ P u.1 u.2
def wpM (m : Nat) (av : List Value) (σ : zSt) (P : Option Value → zSt → Prop) : Prop := wp m 0 (zL0 m av) [] σ P
section WP
variable {m pc x y : Nat} {z : Int} {i : Instr} {L : List (Option Value)} {S : List Value} {σ : zSt} {P : Option Value → zSt → Prop}
theorem wp_step {q : zC} (hc : zcode m pc = some (i, x, y, z)) (hk : zKd i y = 0) (h1 : z1 i x y z (mL m) pc L S σ = some q) : wp m pc L S σ P ↔ wp m q.1 q.2.1 q.2.2.1 q.2.2.2 P := by
  constructor
  · rintro ⟨n, u, h, hP⟩
    cases n with
    | zero => cases h
    | succ n =>
      rw [zRun_s hc hk, h1] at h
      exact ⟨n, u, h, hP⟩
  · rintro ⟨n, u, h, hP⟩
    refine ⟨n + 1, u, ?_, hP⟩
    rw [zRun_s hc hk, h1]
    exact h
theorem wp_no (hc : zcode m pc = some (i, x, y, z)) (hk : zKd i y = 0) (h1 : z1 i x y z (mL m) pc L S σ = none) : ¬ wp m pc L S σ P := by
  rintro ⟨n, u, h, hP⟩
  cases n with
  | zero => cases h
  | succ n =>
    rw [zRun_s hc hk, h1] at h
    cases h
/-- an instruction with a condition -/
theorem wp_cond {q : zC} {c : Prop} (hc : zcode m pc = some (i, x, y, z)) (hk : zKd i y = 0) (h1 : c → z1 i x y z (mL m) pc L S σ = some q) (h2 : ¬ c → z1 i x y z (mL m) pc L S σ = none) : wp m pc L S σ P ↔ (c ∧ wp m q.1 q.2.1 q.2.2.1 q.2.2.2 P) := by
  by_cases h : c
  · rw [wp_step hc hk (h1 h)]
    exact ⟨fun g => ⟨h, g⟩, fun g => g.2⟩
  · exact ⟨fun g => absurd g (wp_no hc hk (h2 h)), fun g => absurd g.1 h⟩
/-- a jump on a condition -/
theorem wp_jump {c : Prop} [Decidable c] {off : Int} {t : Nat} {r : List Value} (hc : zcode m pc = some (i, x, y, z)) (hk : zKd i y = 0) (h1 : z1 i x y z (mL m) pc L S σ = zGo (decide c) pc off L r σ) (ht : zJ pc off = some t) : wp m pc L S σ P ↔ (if c then wp m t L r σ P else wp m (pc + 3) L r σ P) := by
  by_cases h : c
  · rw [if_pos h]
    refine wp_step hc hk (q := (t, L, r, σ)) ?_
    rw [h1]
    unfold zGo
    rw [if_pos (decide_eq_true h), ht]
  · rw [if_neg h]
    refine wp_step hc hk (q := (pc + 3, L, r, σ)) ?_
    rw [h1]
    unfold zGo
    rw [if_neg (by simpa using h)]
theorem wp_ret {u : Option Value × zSt} (hc : zcode m pc = some (i, x, y, z)) (hk : zKd i y = 2) (h1 : zRet i (mR m) S σ = some u) : wp m pc L S σ P ↔ P u.1 u.2 := by
  constructor
  · rintro ⟨n, w, h, hP⟩
    cases n with
    | zero => cases h
    | succ n =>
      rw [zRun_r hc hk, h1] at h
      cases h
      exact hP
  · intro hP
    exact ⟨1, u, by rw [zRun_r hc hk, h1], hP⟩
/-- an answer of 0 or 1 -/
theorem wp_retZ {v : Int32} (hc : zcode m pc = some (.ireturn, x, y, z)) (hr : mR m = some .boolean) : wp m pc L [.int v] σ P ↔ ((v = 0 ∨ v = 1) ∧ P (some (.int v)) σ) := by
  have hz : zRet .ireturn (mR m) [.int v] σ = if some FieldType.boolean = some FieldType.int ∨ (some FieldType.boolean = some FieldType.boolean ∧ (v = 0 ∨ v = 1)) then some (some (Value.int v), σ) else none := by
    rw [hr]; rfl
  by_cases h : v = 0 ∨ v = 1
  · rw [if_pos (Or.inr ⟨rfl, h⟩)] at hz
    rw [wp_ret hc rfl hz]
    exact ⟨fun g => ⟨h, g⟩, fun g => g.2⟩
  · rw [if_neg (fun g => by rcases g with g | g; exact absurd g (by decide); exact h g.2)] at hz
    refine ⟨fun g => ?_, fun g => absurd g.1 h⟩
    obtain ⟨n, u, h1, -⟩ := g
    cases n with
    | zero => cases h1
    | succ n =>
      rw [zRun_r hc rfl, hz] at h1
      cases h1
theorem wp_call {q : List Value × List Value} (hc : zcode m pc = some (i, x, y, z)) (hk : zKd i y = 1) (h1 : zCa x y z.toNat S σ = some q) (hw : zW q.2 ≤ 8 ∧ (zArgs q.1).length ≤ mL x) : wp m pc L S σ P ↔ wpM x q.1 σ (fun r σ' => wp m (pc + 3) L (r.toList ++ q.2) σ' P) := by
  constructor
  · rintro ⟨n, u, h, hP⟩
    cases n with
    | zero => cases h
    | succ n =>
      rw [zRun_c hc hk, h1] at h
      simp only [if_pos hw] at h
      cases hr : zRun n x 0 (zL0 x q.1) [] σ with
      | none => rw [hr] at h; cases h
      | some u1 =>
        rw [hr] at h
        exact ⟨n, u1, hr, n, u, h, hP⟩
  · rintro ⟨n, u1, hr, k, u, h, hP⟩
    refine ⟨max n k + 1, u, ?_, hP⟩
    rw [zRun_c hc hk, h1]
    simp only [if_pos hw]
    rw [zRun_le hr (Nat.le_max_left n k)]
    exact zRun_le h (Nat.le_max_right n k)
theorem wp_post {Q : Option Value → zSt → Prop} (h : wp m pc L S σ P) (hPQ : ∀ r σ', P r σ' → Q r σ') : wp m pc L S σ Q := by
  obtain ⟨n, u, h1, h2⟩ := h
  exact ⟨n, u, h1, hPQ _ _ h2⟩
end WP
theorem wpM_post {m : Nat} {av : List Value} {σ : zSt} {P Q : Option Value → zSt → Prop} (h : wpM m av σ P) (hPQ : ∀ r σ', P r σ' → Q r σ') : wpM m av σ Q := wp_post h hPQ
