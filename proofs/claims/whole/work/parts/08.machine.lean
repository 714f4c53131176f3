/-! A MACHINE OVER FIELDS: the heap as a function for each kind of field (class, place, address) and each kind of array (where made, address, index); an int of its own for the next address. What the law's bytecode does is first done here; parts 09 and 10 say that the JVM does the same. -/
abbrev zSt : Type := (Nat → Nat × Nat × Nat) × (Nat → Nat → Nat → Int32) × (Nat → Nat → Nat → Int64) × (Nat → Nat → Nat → Option Nat) × (Nat → Nat → Nat → Int32) × (Nat → Nat → Nat → Option Nat) × (Nat × Nat) × (Nat × Nat)
/-- what stands at an address: (0, _, _) nothing known; (1, class, _) an object; (2, place, length) an array of ints or booleans; (3, place, length) of references; (4, _, length) the script; (5, _, _) the list's empty array -/
def ztg (σ : zSt) : Nat → Nat × Nat × Nat := σ.1
def zfi (σ : zSt) : Nat → Nat → Nat → Int32 := σ.2.1
def zfl (σ : zSt) : Nat → Nat → Nat → Int64 := σ.2.2.1
def zfr (σ : zSt) : Nat → Nat → Nat → Option Nat := σ.2.2.2.1
def zai (σ : zSt) : Nat → Nat → Nat → Int32 := σ.2.2.2.2.1
def zar (σ : zSt) : Nat → Nat → Nat → Option Nat := σ.2.2.2.2.2.1
def znx (σ : zSt) : Nat := σ.2.2.2.2.2.2.1.1
def zsl (σ : zSt) : Nat := σ.2.2.2.2.2.2.1.2
def ze0 (σ : zSt) : Nat := σ.2.2.2.2.2.2.2.1
def zmi (σ : zSt) : Nat := σ.2.2.2.2.2.2.2.2
def zmk (tg : Nat → Nat × Nat × Nat) (fi : Nat → Nat → Nat → Int32) (fl : Nat → Nat → Nat → Int64) (fr : Nat → Nat → Nat → Option Nat) (ai : Nat → Nat → Nat → Int32) (ar : Nat → Nat → Nat → Option Nat) (nx sl e0 mi : Nat) : zSt := (tg, fi, fl, fr, ai, ar, (nx, sl), (e0, mi))
def up3 {α : Type} (f : Nat → Nat → Nat → α) (c k a : Nat) (v : α) : Nat → Nat → Nat → α := fun c' k' a' => if c' = c ∧ k' = k ∧ a' = a then v else f c' k' a'
def sfi (σ : zSt) (c k a : Nat) (v : Int32) : zSt := zmk (ztg σ) (up3 (zfi σ) c k a v) (zfl σ) (zfr σ) (zai σ) (zar σ) (znx σ) (zsl σ) (ze0 σ) (zmi σ)
def sfl (σ : zSt) (c k a : Nat) (v : Int64) : zSt := zmk (ztg σ) (zfi σ) (up3 (zfl σ) c k a v) (zfr σ) (zai σ) (zar σ) (znx σ) (zsl σ) (ze0 σ) (zmi σ)
def sfr (σ : zSt) (c k a : Nat) (v : Option Nat) : zSt := zmk (ztg σ) (zfi σ) (zfl σ) (up3 (zfr σ) c k a v) (zai σ) (zar σ) (znx σ) (zsl σ) (ze0 σ) (zmi σ)
def sai (σ : zSt) (t a i : Nat) (v : Int32) : zSt := zmk (ztg σ) (zfi σ) (zfl σ) (zfr σ) (up3 (zai σ) t a i v) (zar σ) (znx σ) (zsl σ) (ze0 σ) (zmi σ)
def sar (σ : zSt) (t a i : Nat) (v : Option Nat) : zSt := zmk (ztg σ) (zfi σ) (zfl σ) (zfr σ) (zai σ) (up3 (zar σ) t a i v) (znx σ) (zsl σ) (ze0 σ) (zmi σ)
/-- a whole row of references anew -/
def sarW (σ : zSt) (t a : Nat) (f : Nat → Option Nat) : zSt := zmk (ztg σ) (zfi σ) (zfl σ) (zfr σ) (zai σ) (fun t' a' i => if t' = t ∧ a' = a then f i else zar σ t' a' i) (znx σ) (zsl σ) (ze0 σ) (zmi σ)
def upT (f : Nat → Nat × Nat × Nat) (a : Nat) (v : Nat × Nat × Nat) : Nat → Nat × Nat × Nat := fun b => if b = a then v else f b
def zNew (σ : zSt) (c : Nat) : zSt := zmk (upT (ztg σ) (znx σ) (1, c, 0)) (fun c' k b => if c' = c ∧ b = znx σ then 0 else zfi σ c' k b) (fun c' k b => if c' = c ∧ b = znx σ then 0 else zfl σ c' k b) (fun c' k b => if c' = c ∧ b = znx σ then none else zfr σ c' k b) (zai σ) (zar σ) (znx σ + 1) (zsl σ + (cRow c).2.2) (ze0 σ) (zmi σ)
def zNewI (σ : zSt) (t n : Nat) : zSt := zmk (upT (ztg σ) (znx σ) (2, t, n)) (zfi σ) (zfl σ) (zfr σ) (fun t' b i => if t' = t ∧ b = znx σ then 0 else zai σ t' b i) (zar σ) (znx σ + 1) (zsl σ + n) (ze0 σ) (zmi σ)
def zNewR (σ : zSt) (t n : Nat) : zSt := zmk (upT (ztg σ) (znx σ) (3, t, n)) (zfi σ) (zfl σ) (zfr σ) (zai σ) (fun t' b i => if t' = t ∧ b = znx σ then none else zar σ t' b i) (znx σ + 1) (zsl σ + n) (ze0 σ) (zmi σ)
def zNewM (σ : zSt) (n k : Nat) : zSt := zmk (fun b => if b = znx σ then (3, 9, n) else if znx σ < b ∧ b ≤ znx σ + n then (2, 10, k) else ztg σ b) (zfi σ) (zfl σ) (zfr σ) (fun t' b i => if t' = 10 ∧ znx σ < b ∧ b ≤ znx σ + n then 0 else zai σ t' b i) (fun t' b i => if t' = 9 ∧ b = znx σ then (if i < n then some (znx σ + 1 + i) else none) else zar σ t' b i) (znx σ + 1 + n) (zsl σ + n + n * k) (ze0 σ) (zmi σ)
def zval (σ : zSt) (c k a : Nat) : Value := if fTy c k = 1 then .long (zfl σ c k a) else if fTy c k = 2 then va_rf (zfr σ c k a) else .int (zfi σ c k a)
abbrev zC : Type := Nat × List (Option Value) × List Value × zSt
def zisI : Value → Bool
  | .int _ => true
  | _ => false
def zisL : Value → Bool
  | .long _ => true
  | _ => false
def zisA : Value → Bool
  | .ref _ => true
  | _ => false
def zW (r : List Value) : Nat := (r.map fun v => v.category).sum
/-- the local ahead of this one is no long -/
def zNL (L : List (Option Value)) : Nat → Bool
  | 0 => true
  | j + 1 => match L[j]? with
    | some (some v) => v.category == 1
    | _ => true
def zLd (p : Value → Bool) (k npc : Nat) (L : List (Option Value)) (S : List Value) (σ : zSt) : Option zC :=
  match L[k]? with
  | some (some v) => if p v = true then some (npc, L, v :: S, σ) else none
  | _ => none
def zSto (p : Value → Bool) (k nL npc : Nat) (L : List (Option Value)) (S : List Value) (σ : zSt) : Option zC :=
  match S with
  | v :: r => if p v = true ∧ k < nL ∧ zNL L k = true then some (npc, L.set k (some v), r, σ) else none
  | _ => none
def zStoL (k nL npc : Nat) (L : List (Option Value)) (S : List Value) (σ : zSt) : Option zC :=
  match S with
  | .long v :: r => if k + 1 < nL ∧ zNL L k = true then some (npc, (L.set k (some (.long v))).set (k + 1) none, r, σ) else none
  | _ => none
def zInc (k : Nat) (c : Int) (nL pc : Nat) (L : List (Option Value)) (S : List Value) (σ : zSt) : Option zC :=
  match L[k]? with
  | some (some (.int v)) => if k < nL ∧ zNL L k = true then some (pc + 3, L.set k (some (.int (v + Int32.ofInt c))), S, σ) else none
  | _ => none
def zBI (f : Int32 → Int32 → Option Int32) (pc : Nat) (L : List (Option Value)) (S : List Value) (σ : zSt) : Option zC :=
  match S with
  | .int y :: .int x :: r => match f x y with
    | some v => some (pc + 1, L, .int v :: r, σ)
    | none => none
  | _ => none
def zBL (f : Int64 → Int64 → Value) (pc : Nat) (L : List (Option Value)) (S : List Value) (σ : zSt) : Option zC :=
  match S with
  | .long y :: .long x :: r => some (pc + 1, L, f x y :: r, σ)
  | _ => none
def zSL (f : Int64 → Int32 → Int64) (pc : Nat) (L : List (Option Value)) (S : List Value) (σ : zSt) : Option zC :=
  match S with
  | .int y :: .long x :: r => some (pc + 1, L, .long (f x y) :: r, σ)
  | _ => none
def zJ (pc : Nat) (off : Int) : Option Nat := if 0 ≤ (pc : Int) + off then some ((pc : Int) + off).toNat else none
def zGo (b : Bool) (pc : Nat) (off : Int) (L : List (Option Value)) (r : List Value) (σ : zSt) : Option zC :=
  if b = true then (match zJ pc off with
    | some q => some (q, L, r, σ)
    | none => none) else some (pc + 3, L, r, σ)
def zIf (f : Int32 → Bool) (pc : Nat) (off : Int) (L : List (Option Value)) (S : List Value) (σ : zSt) : Option zC :=
  match S with
  | .int x :: r => zGo (f x) pc off L r σ
  | _ => none
def zIc (f : Int32 → Int32 → Bool) (pc : Nat) (off : Int) (L : List (Option Value)) (S : List Value) (σ : zSt) : Option zC :=
  match S with
  | .int y :: .int x :: r => zGo (f x y) pc off L r σ
  | _ => none
def zAc (ne : Bool) (pc : Nat) (off : Int) (L : List (Option Value)) (S : List Value) (σ : zSt) : Option zC :=
  match S with
  | .ref y :: .ref x :: r => zGo (ne != (x == y)) pc off L r σ
  | _ => none
def zSw (dflt lo hi : Int) (offs : Array Int) (pc : Nat) (L : List (Option Value)) (S : List Value) (σ : zSt) : Option zC :=
  match S with
  | .int x :: r => if x.toInt < lo ∨ hi < x.toInt then (match zJ pc dflt with
      | some q => some (q, L, r, σ)
      | none => none) else (match offs[(x.toInt - lo).toNat]? with
      | some off => (match zJ pc off with
        | some q => some (q, L, r, σ)
        | none => none)
      | none => none)
  | _ => none
/-- what a field gives: a reference that is null stops the machine -/
def zgv (σ : zSt) (c k a : Nat) : Option Value := if fTy c k = 1 then some (.long (zfl σ c k a)) else if fTy c k = 2 then (match zfr σ c k a with
    | some q => some (.ref q)
    | none => none) else some (.int (zfi σ c k a))
theorem zgv_val {σ : zSt} {c k a : Nat} {v : Value} (h : zgv σ c k a = some v) : zval σ c k a = v := by
  unfold zgv at h
  unfold zval
  by_cases h1 : fTy c k = 1
  · rw [if_pos h1] at h ⊢
    cases h; rfl
  · rw [if_neg h1] at h ⊢
    by_cases h2 : fTy c k = 2
    · rw [if_pos h2] at h ⊢
      cases hq : zfr σ c k a with
      | none => rw [hq] at h; cases h
      | some q => rw [hq] at h; cases h; rfl
    · rw [if_neg h2] at h ⊢
      cases h; rfl
def zGet (c k pc : Nat) (L : List (Option Value)) (S : List Value) (σ : zSt) : Option zC :=
  match S with
  | .ref a :: r => if (ztg σ a).1 = 1 ∧ (ztg σ a).2.1 = c then (match zgv σ c k a with
      | some v => some (pc + 3, L, v :: r, σ)
      | none => none) else none
  | _ => none
/-- what a field takes -/
def zPv (σ : zSt) (c k a : Nat) (v : Value) : Option zSt :=
  match v with
  | .int w => if fTy c k = 0 ∨ (fTy c k = 3 ∧ (w = 0 ∨ w = 1)) then some (sfi σ c k a w) else none
  | .long w => if fTy c k = 1 then some (sfl σ c k a w) else none
  | .ref q => if fTy c k = 2 then some (sfr σ c k a (some q)) else none
  | _ => none
def zPutf (c k pc : Nat) (L : List (Option Value)) (S : List Value) (σ : zSt) : Option zC :=
  match S with
  | v :: .ref a :: r => if (ztg σ a).1 = 1 ∧ (ztg σ a).2.1 = c then (match zPv σ c k a v with
      | some σ' => some (pc + 3, L, r, σ')
      | none => none) else none
  | _ => none
def zIld (ty : FieldType) (pc : Nat) (L : List (Option Value)) (S : List Value) (σ : zSt) : Option zC :=
  match S with
  | .int i :: .ref a :: r => if ((ztg σ a).1 = 2 ∨ (ztg σ a).1 = 4) ∧ siteTy (ztg σ a).2.1 = ty ∧ ¬ (i < 0 ∨ (ztg σ a).2.2 ≤ i.toNatClampNeg) then some (pc + 1, L, .int (zai σ (ztg σ a).2.1 a i.toNatClampNeg) :: r, σ) else none
  | _ => none
def zIst (ty : FieldType) (pc : Nat) (L : List (Option Value)) (S : List Value) (σ : zSt) : Option zC :=
  match S with
  | .int x :: .int i :: .ref a :: r => if (ztg σ a).1 = 2 ∧ siteTy (ztg σ a).2.1 = ty ∧ ¬ (i < 0 ∨ (ztg σ a).2.2 ≤ i.toNatClampNeg) ∧ (ty = .boolean → x = 0 ∨ x = 1) then some (pc + 1, L, r, sai σ (ztg σ a).2.1 a i.toNatClampNeg x) else none
  | _ => none
def zAld (pc : Nat) (L : List (Option Value)) (S : List Value) (σ : zSt) : Option zC :=
  match S with
  | .int i :: .ref a :: r => if (ztg σ a).1 = 3 ∧ (siteTy (ztg σ a).2.1).isReference = true ∧ ¬ (i < 0 ∨ (ztg σ a).2.2 ≤ i.toNatClampNeg) then (match zar σ (ztg σ a).2.1 a i.toNatClampNeg with
      | some q => some (pc + 1, L, .ref q :: r, σ)
      | none => none) else none
  | _ => none
/-- which objects an array of references takes, by where it was made -/
def zAsg (t : Nat) (g : Nat × Nat × Nat) : Bool := g.1 == 1 && (((t == 6 || t == 7) && g.2.1 == 2) || (t == 8 && g.2.1 == 5) || (t == 11 && (g.2.1 == 0 || g.2.1 == 3 || g.2.1 == 8)))
def zAst (pc : Nat) (L : List (Option Value)) (S : List Value) (σ : zSt) : Option zC :=
  match S with
  | .ref v :: .int i :: .ref a :: r => if (ztg σ a).1 = 3 ∧ zAsg (ztg σ a).2.1 (ztg σ v) = true ∧ ¬ (i < 0 ∨ (ztg σ a).2.2 ≤ i.toNatClampNeg) then some (pc + 1, L, r, sar σ (ztg σ a).2.1 a i.toNatClampNeg (some v)) else none
  | .null :: .int i :: .ref a :: r => if (ztg σ a).1 = 3 ∧ (siteTy (ztg σ a).2.1).isReference = true ∧ ¬ (i < 0 ∨ (ztg σ a).2.2 ≤ i.toNatClampNeg) then some (pc + 1, L, r, sar σ (ztg σ a).2.1 a i.toNatClampNeg none) else none
  | _ => none
def zLn (pc : Nat) (L : List (Option Value)) (S : List Value) (σ : zSt) : Option zC :=
  match S with
  | .ref a :: r => if (ztg σ a).1 = 2 ∨ (ztg σ a).1 = 3 ∨ (ztg σ a).1 = 4 then some (pc + 1, L, .int (Int32.ofNat (ztg σ a).2.2) :: r, σ) else if (ztg σ a).1 = 5 then some (pc + 1, L, .int 0 :: r, σ) else none
  | _ => none
def zNa (x pc : Nat) (L : List (Option Value)) (S : List Value) (σ : zSt) : Option zC :=
  match S with
  | .int n :: r => if ¬ n < 0 ∧ n.toNatClampNeg * componentBytes (siteTy x) ≤ 536870912 then some (pc + 2, L, .ref (znx σ) :: r, zNewI σ x n.toNatClampNeg) else none
  | _ => none
def zAna (x pc : Nat) (L : List (Option Value)) (S : List Value) (σ : zSt) : Option zC :=
  match S with
  | .int n :: r => if ¬ n < 0 ∧ n.toNatClampNeg * 4 ≤ 536870912 then some (pc + 3, L, .ref (znx σ) :: r, zNewR σ x n.toNatClampNeg) else none
  | _ => none
def zMna (pc : Nat) (L : List (Option Value)) (S : List Value) (σ : zSt) : Option zC :=
  match S with
  | .int k :: .int n :: r => if ¬ n < 0 ∧ ¬ k < 0 ∧ n.toNatClampNeg * 4 ≤ 536870912 ∧ k.toNatClampNeg * 4 ≤ 536870912 ∧ k.toNatClampNeg ≤ 536870912 then some (pc + 4, L, .ref (znx σ) :: r, zNewM σ n.toNatClampNeg k.toNatClampNeg) else none
  | _ => none
def zCk (c pc : Nat) (L : List (Option Value)) (S : List Value) (σ : zSt) : Option zC :=
  match S with
  | .ref a :: r => if (ztg σ a).1 = 1 ∧ (ztg σ a).2.1 = c then some (pc + 3, L, .ref a :: r, σ) else none
  | _ => none
def zDup (pc : Nat) (L : List (Option Value)) (S : List Value) (σ : zSt) : Option zC :=
  match S with
  | v :: r => if v.category = 1 then some (pc + 1, L, v :: v :: r, σ) else none
  | _ => none
def zPop (pc : Nat) (L : List (Option Value)) (S : List Value) (σ : zSt) : Option zC :=
  match S with
  | v :: r => if v.category = 1 then some (pc + 1, L, r, σ) else none
  | _ => none
def zDupx (pc : Nat) (L : List (Option Value)) (S : List Value) (σ : zSt) : Option zC :=
  match S with
  | v :: w :: r => if v.category = 1 ∧ w.category = 1 then some (pc + 1, L, v :: w :: v :: r, σ) else none
  | _ => none
def zDup2 (pc : Nat) (L : List (Option Value)) (S : List Value) (σ : zSt) : Option zC :=
  match S with
  | v :: w :: r => if v.category = 1 ∧ w.category = 1 then some (pc + 1, L, v :: w :: v :: w :: r, σ) else none
  | _ => none
def zEl (σ : zSt) : Option Nat → Bool
  | some q => zAsg 11 (ztg σ q)
  | none => true
/-- System.arraycopy between lists' arrays -/
def zCpy (pc : Nat) (L : List (Option Value)) (S : List Value) (σ : zSt) : Option zC :=
  match S with
  | .int n :: .int dp :: .ref a :: .int sp :: .ref b :: r =>
    if ((ztg σ a).1 = 3 ∧ (ztg σ a).2.1 = 11 ∧ (ztg σ b).1 = 3 ∧ (ztg σ b).2.1 = 11) ∧ (¬ sp < 0 ∧ ¬ dp < 0 ∧ ¬ n < 0) ∧ sp.toNatClampNeg + n.toNatClampNeg ≤ (ztg σ b).2.2 ∧ dp.toNatClampNeg + n.toNatClampNeg ≤ (ztg σ a).2.2 ∧ (∀ i, i < n.toNatClampNeg → zEl σ (zar σ 11 b (sp.toNatClampNeg + i)) = true) ∧ zW r ≤ 8 then some (pc + 3, L, r, sarW σ 11 a (va_cpy (zar σ 11 b) (zar σ 11 a) sp.toNatClampNeg dp.toNatClampNeg n.toNatClampNeg)) else none
  | _ => none
def zGc (pc : Nat) (L : List (Option Value)) (S : List Value) (σ : zSt) : Option zC :=
  match S with
  | .ref a :: r => if (ztg σ a).1 = 3 ∧ (ztg σ a).2.1 = 11 ∧ zW r ≤ 8 then some (pc + 3, L, .ref (zmi σ) :: r, σ) else none
  | _ => none
def zOi (pc : Nat) (L : List (Option Value)) (S : List Value) (σ : zSt) : Option zC :=
  match S with
  | .ref _ :: r => if zW r ≤ 8 then some (pc + 3, L, r, σ) else none
  | _ => none
def zMm (mx : Bool) (pc : Nat) (L : List (Option Value)) (S : List Value) (σ : zSt) : Option zC :=
  match S with
  | .int y :: .int x :: r => if zW r ≤ 8 then some (pc + 3, L, .int (if mx = true then (if x < y then y else x) else (if y < x then y else x)) :: r, σ) else none
  | _ => none
def zDiv (f : Int32 → Int32 → Int32) : Int32 → Int32 → Option Int32 := fun x y => if y = 0 then none else some (f x y)
/-- an instruction that neither calls nor returns -/
def z1 (i : Instr) (x y : Nat) (z : Int) (nL pc : Nat) (L : List (Option Value)) (S : List Value) (σ : zSt) : Option zC :=
  match i with
  | .iconst n => some (pc + 1, L, .int (Int32.ofInt n) :: S, σ)
  | .bipush n => some (pc + 2, L, .int ((Int8.ofInt n).toInt32) :: S, σ)
  | .sipush n => some (pc + 3, L, .int ((Int16.ofInt n).toInt32) :: S, σ)
  | .aconst_null => some (pc + 1, L, .null :: S, σ)
  | .lconst n => some (pc + 1, L, .long (Int64.ofNat (n : Nat)) :: S, σ)
  | .ldc _ => if x = 0 then some (pc + 2, L, .int (Int32.ofInt z) :: S, σ) else some (pc + 2, L, .ref (zmi σ) :: S, σ)
  | .ldc2_w _ => some (pc + 3, L, .long (Int64.ofInt z) :: S, σ)
  | .iload k => zLd zisI k (pc + 2) L S σ
  | .iload_n k => zLd zisI (k : Nat) (pc + 1) L S σ
  | .lload k => zLd zisL k (pc + 2) L S σ
  | .lload_n k => zLd zisL (k : Nat) (pc + 1) L S σ
  | .aload k => zLd zisA k (pc + 2) L S σ
  | .aload_n k => zLd zisA (k : Nat) (pc + 1) L S σ
  | .istore k => zSto zisI k nL (pc + 2) L S σ
  | .istore_n k => zSto zisI (k : Nat) nL (pc + 1) L S σ
  | .astore k => zSto zisA k nL (pc + 2) L S σ
  | .astore_n k => zSto zisA (k : Nat) nL (pc + 1) L S σ
  | .lstore k => zStoL k nL (pc + 2) L S σ
  | .lstore_n k => zStoL (k : Nat) nL (pc + 1) L S σ
  | .iinc k c => zInc k c nL pc L S σ
  | .iadd => zBI (fun a b => some (a + b)) pc L S σ
  | .isub => zBI (fun a b => some (a - b)) pc L S σ
  | .imul => zBI (fun a b => some (a * b)) pc L S σ
  | .iand => zBI (fun a b => some (a &&& b)) pc L S σ
  | .ixor => zBI (fun a b => some (a ^^^ b)) pc L S σ
  | .ishr => zBI (fun a b => some (a >>> (b &&& 31))) pc L S σ
  | .idiv => zBI (zDiv (fun a b => a / b)) pc L S σ
  | .irem => zBI (zDiv (fun a b => a - a / b * b)) pc L S σ
  | .ladd => zBL (fun a b => .long (a + b)) pc L S σ
  | .lsub => zBL (fun a b => .long (a - b)) pc L S σ
  | .lmul => zBL (fun a b => .long (a * b)) pc L S σ
  | .land => zBL (fun a b => .long (a &&& b)) pc L S σ
  | .lor => zBL (fun a b => .long (a ||| b)) pc L S σ
  | .lxor => zBL (fun a b => .long (a ^^^ b)) pc L S σ
  | .lcmp => zBL (fun a b => .int (lg_cmp a b)) pc L S σ
  | .lshl => zSL (fun a b => a <<< (b.toInt64 &&& 63)) pc L S σ
  | .lshr => zSL (fun a b => a >>> (b.toInt64 &&& 63)) pc L S σ
  | .lushr => zSL (fun a b => (a.toUInt64 >>> (b.toInt64.toUInt64 &&& Int64.toUInt64 63)).toInt64) pc L S σ
  | .i2l => (match S with
    | .int v :: r => some (pc + 1, L, .long v.toInt64 :: r, σ)
    | _ => none)
  | .l2i => (match S with
    | .long v :: r => some (pc + 1, L, .int v.toInt32 :: r, σ)
    | _ => none)
  | .ifCond .eq off => zIf (fun a => decide (a = 0)) pc off L S σ
  | .ifCond .ne off => zIf (fun a => decide (¬ a = 0)) pc off L S σ
  | .ifCond .lt off => zIf (fun a => decide (a < 0)) pc off L S σ
  | .ifCond .ge off => zIf (fun a => decide (0 ≤ a)) pc off L S σ
  | .ifCond .gt off => zIf (fun a => decide (0 < a)) pc off L S σ
  | .ifCond .le off => zIf (fun a => decide (a ≤ 0)) pc off L S σ
  | .if_icmp .eq off => zIc (fun a b => decide (a = b)) pc off L S σ
  | .if_icmp .ne off => zIc (fun a b => decide (¬ a = b)) pc off L S σ
  | .if_icmp .lt off => zIc (fun a b => decide (a < b)) pc off L S σ
  | .if_icmp .ge off => zIc (fun a b => decide (b ≤ a)) pc off L S σ
  | .if_icmp .gt off => zIc (fun a b => decide (b < a)) pc off L S σ
  | .if_icmp .le off => zIc (fun a b => decide (a ≤ b)) pc off L S σ
  | .if_acmp .eq off => zAc false pc off L S σ
  | .if_acmp .ne off => zAc true pc off L S σ
  | .goto off => (match zJ pc off with
    | some q => some (q, L, S, σ)
    | none => none)
  | .tableswitch d lo hi offs => zSw d lo hi offs pc L S σ
  | .dup => zDup pc L S σ
  | .pop => zPop pc L S σ
  | .dup_x1 => zDupx pc L S σ
  | .dup2 => zDup2 pc L S σ
  | .getfield _ => zGet x y pc L S σ
  | .putfield _ => zPutf x y pc L S σ
  | .iaload => zIld .int pc L S σ
  | .baload => zIld .boolean pc L S σ
  | .iastore => zIst .int pc L S σ
  | .bastore => zIst .boolean pc L S σ
  | .aaload => zAld pc L S σ
  | .aastore => zAst pc L S σ
  | .arraylength => zLn pc L S σ
  | .new _ => some (pc + 3, L, .ref (znx σ) :: S, zNew σ x)
  | .newarray _ => zNa x pc L S σ
  | .anewarray _ => zAna x pc L S σ
  | .multianewarray _ _ => zMna pc L S σ
  | .checkcast _ => zCk x pc L S σ
  | .getstatic _ => some (pc + 3, L, .ref (ze0 σ) :: S, σ)
  | .invokestatic _ => if y = 6 then zCpy pc L S σ else if y = 8 then zMm true pc L S σ else if y = 9 then zMm false pc L S σ else none
  | .invokevirtual _ => if y = 7 then zGc pc L S σ else none
  | .invokespecial _ => if y = 5 then zOi pc L S σ else none
  | _ => none
def zArgs : List Value → List (Option Value)
  | [] => []
  | v :: t => if v.category = 2 then some v :: none :: zArgs t else some v :: zArgs t
def zL0 (m : Nat) (vs : List Value) : List (Option Value) := zArgs vs ++ List.replicate (mL m - (zArgs vs).length) none
/-- a call's arguments, the receiver first, and what stays on the stack -/
def zCa (x y n : Nat) (S : List Value) (σ : zSt) : Option (List Value × List Value) :=
  if n ≤ S.length then (if y = 1 ∨ y = 4 then some ((S.take n).reverse, S.drop n) else (match S.drop n with
    | .ref b :: r => if y = 0 → (ztg σ b).1 = 1 ∧ (ztg σ b).2.1 = mC x then some (.ref b :: (S.take n).reverse, r) else none
    | _ => none)) else none
def zKd (i : Instr) (y : Nat) : Nat :=
  match i with
  | .invokevirtual _ | .invokespecial _ | .invokestatic _ => if y < 5 then 1 else 0
  | .ireturn | .lreturn | .areturn | .return_ => 2
  | _ => 0
def zRet (i : Instr) (ret : Option FieldType) (S : List Value) (σ : zSt) : Option (Option Value × zSt) :=
  match i, S with
  | .ireturn, [.int v] => if ret = some .int ∨ (ret = some .boolean ∧ (v = 0 ∨ v = 1)) then some (some (.int v), σ) else none
  | .lreturn, [.long v] => if ret = some .long then some (some (.long v), σ) else none
  | .areturn, [.ref a] => (match ret with
    | some (.object _) | some (.array _) => some (some (.ref a), σ)
    | _ => none)
  | .return_, [] => if ret = none then some (none, σ) else none
  | _, _ => none
def zRun : Nat → Nat → Nat → List (Option Value) → List Value → zSt → Option (Option Value × zSt)
  | 0, _, _, _, _, _ => none
  | n + 1, m, pc, L, S, σ =>
    match zcode m pc with
    | none => none
    | some (i, x, y, z) =>
      match zKd i y with
      | 0 => (match z1 i x y z (mL m) pc L S σ with
        | none => none
        | some q => zRun n m q.1 q.2.1 q.2.2.1 q.2.2.2)
      | 1 => (match zCa x y z.toNat S σ with
        | none => none
        | some q => if zW q.2 ≤ 8 ∧ (zArgs q.1).length ≤ mL x then (match zRun n x 0 (zL0 x q.1) [] σ with
          | none => none
          | some u => zRun n m (pc + 3) L (u.1.toList ++ q.2) u.2) else none)
      | _ => zRet i (mR m) S σ
