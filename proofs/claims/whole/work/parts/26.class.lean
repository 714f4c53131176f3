/-! THE CLASS: where a whole object's parts stand; steps of a run over it -/
/-- class, place, how far off its part stands, what it is -/
def layL : List (Nat × Nat × Nat × Nat × Nat × Nat) := [(8, 4, 1, 3, 6, 2), (8, 5, 2, 1, 13, 0), (7, 0, 1, 3, 7, 3), (2, 0, 1, 2, 1, 64), (5, 0, 1, 2, 2, 425), (5, 1, 2, 2, 3, 6), (0, 0, 1, 1, 13, 0), (0, 1, 2, 1, 13, 0), (0, 2, 3, 2, 4, 16), (0, 3, 4, 2, 5, 16), (0, 4, 5, 3, 8, 2), (3, 0, 1, 1, 5, 0), (3, 1, 4, 1, 7, 0), (6, 0, 1, 3, 9, 4), (10, 0, 1, 1, 13, 0), (4, 0, 1, 1, 13, 0), (1, 0, 1, 1, 13, 0), (1, 1, 2, 1, 13, 0), (9, 0, 1, 1, 2, 0), (11, 0, 1, 1, 10, 0), (11, 1, 11, 1, 2, 0), (11, 2, 13, 1, 4, 0), (11, 3, 15, 1, 1, 0), (11, 4, 18, 1, 9, 0), (11, 5, 21, 1, 6, 0), (11, 6, 27, 1, 5, 0), (11, 7, 30, 1, 7, 0)]
/-- where made, length, how far off the first element stands, how far the next, what they are -/
def layA : List (Nat × Nat × Nat × Nat × Nat × Nat × Nat) := [(6, 2, 2, 2, 1, 2, 0), (7, 3, 1, 2, 1, 2, 0), (8, 2, 1, 3, 1, 5, 0), (9, 4, 1, 1, 2, 10, 40)]
def zIs (σ : zSt) (a c : Nat) : Prop := (ztg σ a).1 = 1 ∧ (ztg σ a).2.1 = c
def CShape (σ : zSt) : Prop := (∀ e ∈ layL, ∀ a, zIs σ a e.1 → zfr σ e.1 e.2.1 a = some (a + e.2.2.1) ∧ ztg σ (a + e.2.2.1) = e.2.2.2) ∧ (∀ e ∈ layA, ∀ b, ztg σ b = (3, e.1, e.2.1) → ∀ i, i < e.2.1 → zar σ e.1 b i = some (b + e.2.2.1 + e.2.2.2.1 * i) ∧ ztg σ (b + e.2.2.1 + e.2.2.2.1 * i) = e.2.2.2.2)
def zrf (σ : zSt) (c k a : Nat) : Nat := (zfr σ c k a).getD 0
def zrq (σ : zSt) (t a i : Nat) : Nat := (zar σ t a i).getD 0
def zln (σ : zSt) (a : Nat) : Int32 := if (ztg σ a).1 = 5 then 0 else Int32.ofNat (ztg σ a).2.2
section WCC
variable {m pc x y z9 t n a b n' : Nat} {z : Int} {i : Instr} {L : List (Option Value)} {S : List Value} {σ : zSt} {P : Option Value → zSt → Prop}
theorem zIs_of {c : Nat} (h : ztg σ a = (1, c, 0)) : zIs σ a c := by unfold zIs; rw [h]; exact ⟨rfl, rfl⟩
theorem cs_R (hC : CShape σ) {e : Nat × Nat × Nat × Nat × Nat × Nat} (he : e ∈ layL) (h : zIs σ a e.1) : zfr σ e.1 e.2.1 a = some (a + e.2.2.1) := (hC.1 e he a h).1
theorem cs_T (hC : CShape σ) {e : Nat × Nat × Nat × Nat × Nat × Nat} (he : e ∈ layL) (h : zIs σ a e.1) : ztg σ (a + e.2.2.1) = e.2.2.2 := (hC.1 e he a h).2
theorem cs_A (hC : CShape σ) {e : Nat × Nat × Nat × Nat × Nat × Nat × Nat} (he : e ∈ layA) (h : ztg σ b = (3, e.1, e.2.1)) {v : Int32} (hi : zIn v e.2.1) : ztg σ (b + e.2.2.1 + e.2.2.2.1 * v.toNatClampNeg) = e.2.2.2.2 := (hC.2 e he b h _ (Nat.not_le.mp fun g => hi (Or.inr g))).2
theorem wc_get {c k : Nat} {v : Value} (hn : pc + 3 = n') (hc : zcode m pc = some (.getfield x, c, k, z)) (h : zIs σ a c) (hv : zgv σ c k a = some v) : wp m pc L (.ref a :: S) σ P ↔ wp m n' L (v :: S) σ P := by
  subst hn
  refine wp_step (q := (pc + 3, L, v :: S, σ)) hc rfl ?_
  show zGet c k pc L (.ref a :: S) σ = _
  unfold zGet
  dsimp only
  rw [if_pos (show (ztg σ a).1 = 1 ∧ (ztg σ a).2.1 = c from h), hv]
theorem wc_getI {c k : Nat} (hn : pc + 3 = n') (hc : zcode m pc = some (.getfield x, c, k, z)) (hk : (fTy c k == 0 || fTy c k == 3) = true) (h : zIs σ a c) : wp m pc L (.ref a :: S) σ P ↔ wp m n' L (.int (zfi σ c k a) :: S) σ P :=
  wc_get hn hc h (by
    unfold zgv
    rw [Bool.or_eq_true, beq_iff_eq, beq_iff_eq] at hk
    rw [if_neg (by omega), if_neg (by omega)])
theorem wc_getL {c k : Nat} (hn : pc + 3 = n') (hc : zcode m pc = some (.getfield x, c, k, z)) (hk : fTy c k = 1) (h : zIs σ a c) : wp m pc L (.ref a :: S) σ P ↔ wp m n' L (.long (zfl σ c k a) :: S) σ P :=
  wc_get hn hc h (by unfold zgv; rw [if_pos hk])
theorem wc_getR {e : Nat × Nat × Nat × Nat × Nat × Nat} {c k d : Nat} (hn : pc + 3 = n') (hc : zcode m pc = some (.getfield x, c, k, z)) (hk : fTy c k = 2) (hC : CShape σ) (he : e ∈ layL) (h1 : e.1 = c) (h2 : e.2.1 = k) (h3 : e.2.2.1 = d) (h : zIs σ a c) : wp m pc L (.ref a :: S) σ P ↔ wp m n' L (.ref (a + d) :: S) σ P := by
  subst h1 h2 h3
  exact wc_get hn hc h (by unfold zgv; rw [if_neg (by omega), if_pos hk, cs_R hC he h])
theorem wc_getE {c k : Nat} (hn : pc + 3 = n') (hc : zcode m pc = some (.getfield x, c, k, z)) (hk : fTy c k = 2) (h : zIs σ a c) : wp m pc L (.ref a :: S) σ P ↔ ((zfr σ c k a).isSome = true ∧ wp m n' L (.ref (zrf σ c k a) :: S) σ P) := by
  subst hn
  refine wp_cond (q := (pc + 3, L, .ref (zrf σ c k a) :: S, σ)) hc rfl (fun g => ?_) (fun g => ?_)
  · show zGet c k pc L (.ref a :: S) σ = _
    unfold zGet
    dsimp only
    rw [if_pos (show (ztg σ a).1 = 1 ∧ (ztg σ a).2.1 = c from h)]
    unfold zgv zrf
    rw [if_neg (by omega), if_pos hk]
    cases hq : zfr σ c k a with
    | none => rw [hq] at g; cases g
    | some q => rfl
  · show zGet c k pc L (.ref a :: S) σ = _
    unfold zGet
    dsimp only
    rw [if_pos (show (ztg σ a).1 = 1 ∧ (ztg σ a).2.1 = c from h)]
    unfold zgv
    rw [if_neg (by omega), if_pos hk]
    cases hq : zfr σ c k a with
    | none => rfl
    | some q => rw [hq] at g; exact absurd rfl g
/-- a value of which nothing is known yet must be an object of the class -/
theorem wc_is {c k : Nat} (hc : zcode m pc = some (.getfield x, c, k, z)) : wp m pc L (.ref a :: S) σ P ↔ (zIs σ a c ∧ wp m pc L (.ref a :: S) σ P) := by
  refine ⟨fun h => ⟨Classical.byContradiction fun g => ?_, h⟩, fun h => h.2⟩
  refine wp_no hc rfl ?_ h
  show zGet c k pc L (.ref a :: S) σ = _
  unfold zGet
  dsimp only
  rw [if_neg (show ¬ ((ztg σ a).1 = 1 ∧ (ztg σ a).2.1 = c) from g)]
theorem wc_isP {c k : Nat} {v : Value} (hc : zcode m pc = some (.putfield x, c, k, z)) : wp m pc L (v :: .ref a :: S) σ P ↔ (zIs σ a c ∧ wp m pc L (v :: .ref a :: S) σ P) := by
  refine ⟨fun h => ⟨Classical.byContradiction fun g => ?_, h⟩, fun h => h.2⟩
  refine wp_no hc rfl ?_ h
  show zPutf c k pc L (v :: .ref a :: S) σ = _
  unfold zPutf
  dsimp only
  rw [if_neg (show ¬ ((ztg σ a).1 = 1 ∧ (ztg σ a).2.1 = c) from g)]
theorem wc_put {c k : Nat} {v : Value} {σ' : zSt} (hn : pc + 3 = n') (hc : zcode m pc = some (.putfield x, c, k, z)) (h : zIs σ a c) (hv : zPv σ c k a v = some σ') : wp m pc L (v :: .ref a :: S) σ P ↔ wp m n' L S σ' P := by
  subst hn
  refine wp_step (q := (pc + 3, L, S, σ')) hc rfl ?_
  show zPutf c k pc L (v :: .ref a :: S) σ = _
  unfold zPutf
  dsimp only
  rw [if_pos (show (ztg σ a).1 = 1 ∧ (ztg σ a).2.1 = c from h), hv]
theorem wc_putI {c k : Nat} {v : Int32} (hn : pc + 3 = n') (hc : zcode m pc = some (.putfield x, c, k, z)) (hk : fTy c k = 0) (h : zIs σ a c) : wp m pc L (.int v :: .ref a :: S) σ P ↔ wp m n' L S (sfi σ c k a v) P := wc_put hn hc h (by unfold zPv; dsimp only; rw [if_pos (Or.inl hk)])
theorem wc_putZ {c k : Nat} {v : Int32} (hn : pc + 3 = n') (hc : zcode m pc = some (.putfield x, c, k, z)) (hk : fTy c k = 3) (h : zIs σ a c) : wp m pc L (.int v :: .ref a :: S) σ P ↔ ((v = 0 ∨ v = 1) ∧ wp m n' L S (sfi σ c k a v) P) := by
  by_cases hv : v = 0 ∨ v = 1
  · rw [wc_put hn hc h (show zPv σ c k a (.int v) = some (sfi σ c k a v) by unfold zPv; dsimp only; rw [if_pos (Or.inr ⟨hk, hv⟩)])]
    exact ⟨fun g => ⟨hv, g⟩, fun g => g.2⟩
  · refine ⟨fun g => absurd g (wp_no hc rfl ?_), fun g => absurd g.1 hv⟩
    show zPutf c k pc L (.int v :: .ref a :: S) σ = _
    unfold zPutf
    dsimp only
    rw [if_pos (show (ztg σ a).1 = 1 ∧ (ztg σ a).2.1 = c from h)]
    unfold zPv
    dsimp only
    rw [if_neg (fun g => by rcases g with g | g; rw [hk] at g; cases g; exact hv g.2)]
theorem wc_putL {c k : Nat} {v : Int64} (hn : pc + 3 = n') (hc : zcode m pc = some (.putfield x, c, k, z)) (hk : fTy c k = 1) (h : zIs σ a c) : wp m pc L (.long v :: .ref a :: S) σ P ↔ wp m n' L S (sfl σ c k a v) P := wc_put hn hc h (by unfold zPv; dsimp only; rw [if_pos hk])
theorem wc_putR {c k : Nat} (hn : pc + 3 = n') (hc : zcode m pc = some (.putfield x, c, k, z)) (hk : fTy c k = 2) (h : zIs σ a c) : wp m pc L (.ref b :: .ref a :: S) σ P ↔ wp m n' L S (sfr σ c k a (some b)) P := wc_put hn hc h (by unfold zPv; dsimp only; rw [if_pos hk])
theorem wc_ld {v : Int32} (hn : pc + 1 = n') (hc : zcode m pc = some (.iaload, x, y, z)) (ht : ztg σ b = (2, t, n)) (hty : siteTy t = .int) : wp m pc L (.int v :: .ref b :: S) σ P ↔ (zIn v n ∧ wp m n' L (.int (zai σ t b v.toNatClampNeg) :: S) σ P) := by
  subst hn
  refine wp_cond (q := (pc + 1, L, .int (zai σ t b v.toNatClampNeg) :: S, σ)) hc rfl (fun h => ?_) (fun h => ?_)
  · show zIld .int pc L (.int v :: .ref b :: S) σ = _
    unfold zIld
    dsimp only
    rw [ht, if_pos ⟨Or.inl rfl, hty, h⟩]
  · show zIld .int pc L (.int v :: .ref b :: S) σ = _
    unfold zIld
    dsimp only
    rw [ht, if_neg (fun g => h g.2.2)]
/-- the script -/
theorem wc_ldS {v : Int32} (hn : pc + 1 = n') (hc : zcode m pc = some (.iaload, x, y, z)) (ht : ztg σ b = (4, t, n)) (hty : siteTy t = .int) : wp m pc L (.int v :: .ref b :: S) σ P ↔ (zIn v n ∧ wp m n' L (.int (zai σ t b v.toNatClampNeg) :: S) σ P) := by
  subst hn
  refine wp_cond (q := (pc + 1, L, .int (zai σ t b v.toNatClampNeg) :: S, σ)) hc rfl (fun h => ?_) (fun h => ?_)
  · show zIld .int pc L (.int v :: .ref b :: S) σ = _
    unfold zIld
    dsimp only
    rw [ht, if_pos ⟨Or.inr rfl, hty, h⟩]
  · show zIld .int pc L (.int v :: .ref b :: S) σ = _
    unfold zIld
    dsimp only
    rw [ht, if_neg (fun g => h g.2.2)]
theorem wc_st {v w : Int32} (hn : pc + 1 = n') (hc : zcode m pc = some (.iastore, x, y, z)) (ht : ztg σ b = (2, t, n)) (hty : siteTy t = .int) : wp m pc L (.int w :: .int v :: .ref b :: S) σ P ↔ (zIn v n ∧ wp m n' L S (sai σ t b v.toNatClampNeg w) P) := by
  subst hn
  refine wp_cond (q := (pc + 1, L, S, sai σ t b v.toNatClampNeg w)) hc rfl (fun h => ?_) (fun h => ?_)
  · show zIst .int pc L (.int w :: .int v :: .ref b :: S) σ = _
    unfold zIst
    dsimp only
    rw [ht, if_pos ⟨rfl, hty, h, fun z => by cases z⟩]
  · show zIst .int pc L (.int w :: .int v :: .ref b :: S) σ = _
    unfold zIst
    dsimp only
    rw [ht, if_neg (fun g => h g.2.2.1)]
theorem wc_ald {e : Nat × Nat × Nat × Nat × Nat × Nat × Nat} {v : Int32} {u w d k : Nat} (hn : pc + 1 = n') (hc : zcode m pc = some (.aaload, x, y, z)) (hC : CShape σ) (he : e ∈ layA) (h1 : e.1 = u) (h2 : e.2.1 = w) (h3 : e.2.2.1 = d) (h4 : e.2.2.2.1 = k) (hr : (siteTy u).isReference = true) (ht : ztg σ b = (3, u, w)) : wp m pc L (.int v :: .ref b :: S) σ P ↔ (zIn v w ∧ wp m n' L (.ref (b + d + k * v.toNatClampNeg) :: S) σ P) := by
  subst hn h1 h2 h3 h4
  refine wp_cond (q := (pc + 1, L, .ref (b + e.2.2.1 + e.2.2.2.1 * v.toNatClampNeg) :: S, σ)) hc rfl (fun h => ?_) (fun h => ?_)
  · show zAld pc L (.int v :: .ref b :: S) σ = _
    unfold zAld
    dsimp only
    have hq := (hC.2 e he b ht _ (Nat.not_le.mp fun g => h (Or.inr g))).1
    rw [ht, if_pos ⟨rfl, hr, h⟩]
    dsimp only
    rw [hq]
  · show zAld pc L (.int v :: .ref b :: S) σ = _
    unfold zAld
    dsimp only
    rw [ht, if_neg (fun g => h g.2.2)]
/-- an element of a list's array -/
theorem wc_aldE {v : Int32} (hn : pc + 1 = n') (hc : zcode m pc = some (.aaload, x, y, z)) : wp m pc L (.int v :: .ref b :: S) σ P ↔ (((ztg σ b).1 = 3 ∧ (siteTy (ztg σ b).2.1).isReference = true ∧ zIn v (ztg σ b).2.2 ∧ (zar σ (ztg σ b).2.1 b v.toNatClampNeg).isSome = true) ∧ wp m n' L (.ref (zrq σ (ztg σ b).2.1 b v.toNatClampNeg) :: S) σ P) := by
  subst hn
  refine wp_cond (q := (pc + 1, L, .ref (zrq σ (ztg σ b).2.1 b v.toNatClampNeg) :: S, σ)) hc rfl (fun h => ?_) (fun h => ?_)
  · show zAld pc L (.int v :: .ref b :: S) σ = _
    unfold zAld
    dsimp only
    rw [if_pos ⟨h.1, h.2.1, h.2.2.1⟩]
    unfold zrq
    cases hq : zar σ (ztg σ b).2.1 b v.toNatClampNeg with
    | none => have g := h.2.2.2; rw [hq] at g; cases g
    | some q => rfl
  · show zAld pc L (.int v :: .ref b :: S) σ = _
    unfold zAld
    dsimp only
    by_cases g : (ztg σ b).1 = 3 ∧ (siteTy (ztg σ b).2.1).isReference = true ∧ ¬ (v < 0 ∨ (ztg σ b).2.2 ≤ v.toNatClampNeg)
    · rw [if_pos g]
      cases hq : zar σ (ztg σ b).2.1 b v.toNatClampNeg with
      | none => rfl
      | some q => exact absurd ⟨g.1, g.2.1, g.2.2, by rw [hq]; rfl⟩ h
    · rw [if_neg g]
theorem wc_ast {v : Int32} (hn : pc + 1 = n') (hc : zcode m pc = some (.aastore, x, y, z)) : wp m pc L (.ref a :: .int v :: .ref b :: S) σ P ↔ (((ztg σ b).1 = 3 ∧ zAsg (ztg σ b).2.1 (ztg σ a) = true ∧ zIn v (ztg σ b).2.2) ∧ wp m n' L S (sar σ (ztg σ b).2.1 b v.toNatClampNeg (some a)) P) := by
  subst hn
  refine wp_cond (q := (pc + 1, L, S, sar σ (ztg σ b).2.1 b v.toNatClampNeg (some a))) hc rfl (fun h => ?_) (fun h => ?_)
  · show zAst pc L (.ref a :: .int v :: .ref b :: S) σ = _
    unfold zAst
    dsimp only
    rw [if_pos (show (ztg σ b).1 = 3 ∧ zAsg (ztg σ b).2.1 (ztg σ a) = true ∧ ¬ (v < 0 ∨ (ztg σ b).2.2 ≤ v.toNatClampNeg) from h)]
  · show zAst pc L (.ref a :: .int v :: .ref b :: S) σ = _
    unfold zAst
    dsimp only
    rw [if_neg (show ¬ ((ztg σ b).1 = 3 ∧ zAsg (ztg σ b).2.1 (ztg σ a) = true ∧ ¬ (v < 0 ∨ (ztg σ b).2.2 ≤ v.toNatClampNeg)) from h)]
theorem wc_astN {v : Int32} (hn : pc + 1 = n') (hc : zcode m pc = some (.aastore, x, y, z)) : wp m pc L (.null :: .int v :: .ref b :: S) σ P ↔ (((ztg σ b).1 = 3 ∧ (siteTy (ztg σ b).2.1).isReference = true ∧ zIn v (ztg σ b).2.2) ∧ wp m n' L S (sar σ (ztg σ b).2.1 b v.toNatClampNeg none) P) := by
  subst hn
  refine wp_cond (q := (pc + 1, L, S, sar σ (ztg σ b).2.1 b v.toNatClampNeg none)) hc rfl (fun h => ?_) (fun h => ?_)
  · show zAst pc L (.null :: .int v :: .ref b :: S) σ = _
    unfold zAst
    dsimp only
    rw [if_pos (show (ztg σ b).1 = 3 ∧ (siteTy (ztg σ b).2.1).isReference = true ∧ ¬ (v < 0 ∨ (ztg σ b).2.2 ≤ v.toNatClampNeg) from h)]
  · show zAst pc L (.null :: .int v :: .ref b :: S) σ = _
    unfold zAst
    dsimp only
    rw [if_neg (show ¬ ((ztg σ b).1 = 3 ∧ (siteTy (ztg σ b).2.1).isReference = true ∧ ¬ (v < 0 ∨ (ztg σ b).2.2 ≤ v.toNatClampNeg)) from h)]
theorem wc_len (hn : pc + 1 = n') (hc : zcode m pc = some (.arraylength, x, y, z)) : wp m pc L (.ref b :: S) σ P ↔ (((ztg σ b).1 = 2 ∨ (ztg σ b).1 = 3 ∨ (ztg σ b).1 = 4 ∨ (ztg σ b).1 = 5) ∧ wp m n' L (.int (zln σ b) :: S) σ P) := by
  subst hn
  refine wp_cond (q := (pc + 1, L, .int (zln σ b) :: S, σ)) hc rfl (fun h => ?_) (fun h => ?_)
  · show zLn pc L (.ref b :: S) σ = _
    unfold zLn zln
    dsimp only
    by_cases h5 : (ztg σ b).1 = 5
    · rw [if_neg (by omega), if_pos h5, if_pos h5]
    · rw [if_pos (by omega), if_neg h5]
  · show zLn pc L (.ref b :: S) σ = _
    unfold zLn
    dsimp only
    rw [if_neg (by omega), if_neg (by omega)]
theorem wc_new {k : Nat} (hn : pc + 3 = n') (hc : zcode m pc = some (.new k, x, y, z)) : wp m pc L S σ P ↔ wp m n' L (.ref (znx σ) :: S) (zNew σ x) P := by
  subst hn
  exact wp_step (q := (pc + 3, L, .ref (znx σ) :: S, zNew σ x)) hc rfl rfl
theorem wc_na {aty : ArrayType} {v : Int32} (hn : pc + 2 = n') (hc : zcode m pc = some (.newarray aty, x, y, z)) : wp m pc L (.int v :: S) σ P ↔ ((¬ v < 0 ∧ v.toNatClampNeg * componentBytes (siteTy x) ≤ 536870912) ∧ wp m n' L (.ref (znx σ) :: S) (zNewI σ x v.toNatClampNeg) P) := by
  subst hn
  refine wp_cond (q := (pc + 2, L, .ref (znx σ) :: S, zNewI σ x v.toNatClampNeg)) hc rfl (fun h => ?_) (fun h => ?_)
  · show zNa x pc L (.int v :: S) σ = _
    unfold zNa
    dsimp only
    rw [if_pos h]
  · show zNa x pc L (.int v :: S) σ = _
    unfold zNa
    dsimp only
    rw [if_neg h]
theorem wc_ana {k : Nat} {v : Int32} (hn : pc + 3 = n') (hc : zcode m pc = some (.anewarray k, x, y, z)) : wp m pc L (.int v :: S) σ P ↔ ((¬ v < 0 ∧ v.toNatClampNeg * 4 ≤ 536870912) ∧ wp m n' L (.ref (znx σ) :: S) (zNewR σ x v.toNatClampNeg) P) := by
  subst hn
  refine wp_cond (q := (pc + 3, L, .ref (znx σ) :: S, zNewR σ x v.toNatClampNeg)) hc rfl (fun h => ?_) (fun h => ?_)
  · show zAna x pc L (.int v :: S) σ = _
    unfold zAna
    dsimp only
    rw [if_pos h]
  · show zAna x pc L (.int v :: S) σ = _
    unfold zAna
    dsimp only
    rw [if_neg h]
theorem wc_mna {k d : Nat} {v w : Int32} (hn : pc + 4 = n') (hc : zcode m pc = some (.multianewarray k d, x, y, z)) : wp m pc L (.int v :: .int w :: S) σ P ↔ ((¬ w < 0 ∧ ¬ v < 0 ∧ w.toNatClampNeg * 4 ≤ 536870912 ∧ v.toNatClampNeg * 4 ≤ 536870912 ∧ v.toNatClampNeg ≤ 536870912) ∧ wp m n' L (.ref (znx σ) :: S) (zNewM σ w.toNatClampNeg v.toNatClampNeg) P) := by
  subst hn
  refine wp_cond (q := (pc + 4, L, .ref (znx σ) :: S, zNewM σ w.toNatClampNeg v.toNatClampNeg)) hc rfl (fun h => ?_) (fun h => ?_)
  · show zMna pc L (.int v :: .int w :: S) σ = _
    unfold zMna
    dsimp only
    rw [if_pos h]
  · show zMna pc L (.int v :: .int w :: S) σ = _
    unfold zMna
    dsimp only
    rw [if_neg h]
theorem wc_chk {k : Nat} (hn : pc + 3 = n') (hc : zcode m pc = some (.checkcast k, x, y, z)) : wp m pc L (.ref a :: S) σ P ↔ (zIs σ a x ∧ wp m n' L (.ref a :: S) σ P) := by
  subst hn
  refine wp_cond (q := (pc + 3, L, .ref a :: S, σ)) hc rfl (fun h => ?_) (fun h => ?_)
  · show zCk x pc L (.ref a :: S) σ = _
    unfold zCk
    dsimp only
    rw [if_pos (show (ztg σ a).1 = 1 ∧ (ztg σ a).2.1 = x from h)]
  · show zCk x pc L (.ref a :: S) σ = _
    unfold zCk
    dsimp only
    rw [if_neg (show ¬ ((ztg σ a).1 = 1 ∧ (ztg σ a).2.1 = x) from h)]
theorem wc_gs {k : Nat} (hn : pc + 3 = n') (hc : zcode m pc = some (.getstatic k, x, y, z)) : wp m pc L S σ P ↔ wp m n' L (.ref (ze0 σ) :: S) σ P := by
  subst hn
  exact wp_step (q := (pc + 3, L, .ref (ze0 σ) :: S, σ)) hc rfl rfl
theorem wc_ldm {k : Nat} (hn : pc + 2 = n') (hc : zcode m pc = some (.ldc k, 1, y, z)) : wp m pc L S σ P ↔ wp m n' L (.ref (zmi σ) :: S) σ P := by
  subst hn
  exact wp_step (q := (pc + 2, L, .ref (zmi σ) :: S, σ)) hc rfl rfl
theorem wc_ne {off : Int} {u : Nat} (hc : zcode m pc = some (.if_acmp .ne off, x, y, z)) (ht : zJ pc off = some u) : wp m pc L (.ref b :: .ref a :: S) σ P ↔ (if ¬ a = b then wp m u L S σ P else wp m (pc + 3) L S σ P) := by
  refine wp_jump (c := ¬ a = b) hc rfl ?_ ht
  show zGo (true != (a == b)) pc off L S σ = _
  congr 1
  by_cases h : a = b <;> simp [h]
theorem wc_eq {off : Int} {u : Nat} (hc : zcode m pc = some (.if_acmp .eq off, x, y, z)) (ht : zJ pc off = some u) : wp m pc L (.ref b :: .ref a :: S) σ P ↔ (if a = b then wp m u L S σ P else wp m (pc + 3) L S σ P) := by
  refine wp_jump (c := a = b) hc rfl ?_ ht
  show zGo (false != (a == b)) pc off L S σ = _
  congr 1
  by_cases h : a = b <;> simp [h]
theorem wc_oi {k : Nat} (hn : pc + 3 = n') (hc : zcode m pc = some (.invokespecial k, x, 5, z)) (hw : zW S ≤ 8) : wp m pc L (.ref a :: S) σ P ↔ wp m n' L S σ P := by
  subst hn
  refine wp_step (q := (pc + 3, L, S, σ)) hc rfl ?_
  show zOi pc L (.ref a :: S) σ = _
  unfold zOi
  dsimp only
  rw [if_pos hw]
theorem wc_gc {k : Nat} (hn : pc + 3 = n') (hc : zcode m pc = some (.invokevirtual k, x, 7, z)) (hw : zW S ≤ 8) : wp m pc L (.ref a :: S) σ P ↔ (((ztg σ a).1 = 3 ∧ (ztg σ a).2.1 = 11) ∧ wp m n' L (.ref (zmi σ) :: S) σ P) := by
  subst hn
  refine wp_cond (q := (pc + 3, L, .ref (zmi σ) :: S, σ)) hc rfl (fun h => ?_) (fun h => ?_)
  · show zGc pc L (.ref a :: S) σ = _
    unfold zGc
    dsimp only
    rw [if_pos ⟨h.1, h.2, hw⟩]
  · show zGc pc L (.ref a :: S) σ = _
    unfold zGc
    dsimp only
    rw [if_neg (fun g => h ⟨g.1, g.2.1⟩)]
def zCpyOk (σ : zSt) (a b : Nat) (sp dp n : Int32) : Prop := ((ztg σ a).1 = 3 ∧ (ztg σ a).2.1 = 11 ∧ (ztg σ b).1 = 3 ∧ (ztg σ b).2.1 = 11) ∧ (¬ sp < 0 ∧ ¬ dp < 0 ∧ ¬ n < 0) ∧ sp.toNatClampNeg + n.toNatClampNeg ≤ (ztg σ b).2.2 ∧ dp.toNatClampNeg + n.toNatClampNeg ≤ (ztg σ a).2.2 ∧ (∀ i, i < n.toNatClampNeg → zEl σ (zar σ 11 b (sp.toNatClampNeg + i)) = true)
theorem wc_cpy {k : Nat} {sp dp w : Int32} (hn : pc + 3 = n') (hc : zcode m pc = some (.invokestatic k, x, 6, z)) (hw : zW S ≤ 8) : wp m pc L (.int w :: .int dp :: .ref a :: .int sp :: .ref b :: S) σ P ↔ (zCpyOk σ a b sp dp w ∧ wp m n' L S (sarW σ 11 a (va_cpy (zar σ 11 b) (zar σ 11 a) sp.toNatClampNeg dp.toNatClampNeg w.toNatClampNeg)) P) := by
  subst hn
  refine wp_cond (q := (pc + 3, L, S, sarW σ 11 a (va_cpy (zar σ 11 b) (zar σ 11 a) sp.toNatClampNeg dp.toNatClampNeg w.toNatClampNeg))) hc rfl (fun h => ?_) (fun h => ?_)
  · show zCpy pc L (.int w :: .int dp :: .ref a :: .int sp :: .ref b :: S) σ = _
    unfold zCpy
    dsimp only
    rw [if_pos ⟨h.1, h.2.1, h.2.2.1, h.2.2.2.1, h.2.2.2.2, hw⟩]
  · show zCpy pc L (.int w :: .int dp :: .ref a :: .int sp :: .ref b :: S) σ = _
    unfold zCpy
    dsimp only
    rw [if_neg (fun g => h ⟨g.1, g.2.1, g.2.2.1, g.2.2.2.1, g.2.2.2.2.1⟩)]
theorem wc_max {k : Nat} {v w : Int32} (hn : pc + 3 = n') (hc : zcode m pc = some (.invokestatic k, x, 8, z)) (hw : zW S ≤ 8) : wp m pc L (.int w :: .int v :: S) σ P ↔ wp m n' L (.int (if v < w then w else v) :: S) σ P := by
  subst hn
  refine wp_step (q := (pc + 3, L, .int (if v < w then w else v) :: S, σ)) hc rfl ?_
  show zMm true pc L (.int w :: .int v :: S) σ = _
  unfold zMm
  dsimp only
  rw [if_pos hw]
  rfl
theorem wc_min {k : Nat} {v w : Int32} (hn : pc + 3 = n') (hc : zcode m pc = some (.invokestatic k, x, 9, z)) (hw : zW S ≤ 8) : wp m pc L (.int w :: .int v :: S) σ P ↔ wp m n' L (.int (if w < v then w else v) :: S) σ P := by
  subst hn
  refine wp_step (q := (pc + 3, L, .int (if w < v then w else v) :: S, σ)) hc rfl ?_
  show zMm false pc L (.int w :: .int v :: S) σ = _
  unfold zMm
  dsimp only
  rw [if_pos hw]
  rfl
/-- a call by an object: it must be one of the callee's class -/
theorem wc_isV {k nn : Nat} {rest : List Value} (hc : zcode m pc = some (.invokevirtual k, x, 0, z)) (hnn : z.toNat = nn) (hd : S.drop nn = .ref b :: rest) {cl : Nat} (hcl : mC x = cl) : wp m pc L S σ P ↔ (zIs σ b cl ∧ wp m pc L S σ P) := by
  subst hcl hnn
  refine ⟨fun h => ⟨Classical.byContradiction fun g => ?_, h⟩, fun h => h.2⟩
  obtain ⟨n, u, h, -⟩ := h
  cases n with
  | zero => cases h
  | succ n =>
    rw [zRun_c hc rfl] at h
    have e : zCa x 0 z.toNat S σ = none := by
      unfold zCa
      split
      · rw [if_neg (by decide), hd]
        exact if_neg (fun q => g (q rfl))
      · rfl
    rw [e] at h
    cases h
end WCC
section CSK
variable {σ : zSt}
theorem cs_sfi (hC : CShape σ) {c k a : Nat} {v : Int32} : CShape (sfi σ c k a v) := hC
theorem cs_sfl (hC : CShape σ) {c k a : Nat} {v : Int64} : CShape (sfl σ c k a v) := hC
theorem cs_sai (hC : CShape σ) {t a i : Nat} {v : Int32} : CShape (sai σ t a i v) := hC
theorem cs_sfr (hC : CShape σ) {k a : Nat} {v : Option Nat} : CShape (sfr σ 13 k a v) := by
  refine ⟨fun e he b h => ?_, hC.2⟩
  have h1 := hC.1 e he b h
  refine ⟨?_, h1.2⟩
  show up3 _ _ _ _ _ _ _ _ = _
  unfold up3
  rw [if_neg (fun q => ?_)]
  · exact h1.1
  · have : ∀ e ∈ layL, e.1 ≠ 13 := by decide
    exact this e he q.1
theorem cs_sar (hC : CShape σ) {a i : Nat} {v : Option Nat} : CShape (sar σ 11 a i v) := by
  refine ⟨hC.1, fun e he b h i hi => ?_⟩
  have h1 := hC.2 e he b h i hi
  refine ⟨?_, h1.2⟩
  show up3 _ _ _ _ _ _ _ _ = _
  unfold up3
  rw [if_neg (fun q => ?_)]
  · exact h1.1
  · have : ∀ e ∈ layA, e.1 ≠ 11 := by decide
    exact this e he q.1
theorem cs_sarW (hC : CShape σ) {a : Nat} {f : Nat → Option Nat} : CShape (sarW σ 11 a f) := by
  refine ⟨hC.1, fun e he b h i hi => ?_⟩
  have h1 := hC.2 e he b h i hi
  refine ⟨?_, h1.2⟩
  show (if _ then _ else _) = _
  rw [if_neg (fun q => ?_)]
  · exact h1.1
  · have : ∀ e ∈ layA, e.1 ≠ 11 := by decide
    exact this e he q.1
end CSK
