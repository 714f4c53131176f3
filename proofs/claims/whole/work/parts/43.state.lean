/-! THE STATE, PURE: what both the class and the reference hold, and what each call makes of it -/
abbrev Con : Type := Option (List Int32)
/-- a key: its head, and a part for each input -/
abbrev KeyT : Type := List Int32 × List (List Int32)
/-- key, contents, failure, how often found, how many outputs -/
abbrev EntT : Type := List Int32 × (Nat → Con) × Nat × Int32 × Nat
abbrev RowT : Type := Int32 × Int32 × Int32 × Int32
/-- how many paths; parent, name, whether a directory, maker of each -/
abbrev TreT : Type := Nat × (Nat → Option Nat) × (Nat → Nat) × (Nat → Bool) × (Nat → Option Nat)
/-- how many actions; inputs, outputs, steps of each -/
abbrev ActT : Type := Nat × (Nat → List Nat) × (Nat → List Nat) × (Nat → List (Nat × Nat))
/-- capacity, entries, how many evicted -/
abbrev CacT : Type := Nat × List EntT × Int32
/-- rows, ran, found, builds -/
abbrev LogT : Type := List RowT × Int32 × Int32 × Int32
def tN (t : TreT) : Nat := t.1
def tPar (t : TreT) : Nat → Option Nat := t.2.1
def tNam (t : TreT) : Nat → Nat := t.2.2.1
def tDir (t : TreT) : Nat → Bool := t.2.2.2.1
def tMk (t : TreT) : Nat → Option Nat := t.2.2.2.2
def aN (a : ActT) : Nat := a.1
def aIns (a : ActT) : Nat → List Nat := a.2.1
def aOut (a : ActT) : Nat → List Nat := a.2.2.1
def aSt (a : ActT) : Nat → List (Nat × Nat) := a.2.2.2
def eKey (e : EntT) : List Int32 := e.1
def eOut (e : EntT) : Nat → Con := e.2.1
def eFail (e : EntT) : Nat := e.2.2.1
def eFnd (e : EntT) : Int32 := e.2.2.2.1
def eN (e : EntT) : Nat := e.2.2.2.2
def fup {α : Type} (f : Nat → α) (i : Nat) (v : α) : Nat → α := fun j => if j = i then v else f j
def fup2 {α : Type} (f : Nat → Nat → α) (s i : Nat) (v : α) : Nat → Nat → α := fun s' j => if s' = s ∧ j = i then v else f s' j
theorem fup_same {α : Type} {f : Nat → α} {i : Nat} {v : α} : fup f i v i = v := if_pos rfl
theorem fup_ne {α : Type} {f : Nat → α} {i j : Nat} {v : α} (h : j ≠ i) : fup f i v j = f j := if_neg h
noncomputable def pB (p : Prop) : Bool := @decide p (Classical.propDecidable p)
theorem pB_iff {p : Prop} : pB p = true ↔ p := by
  unfold pB
  exact @decide_eq_true_iff p (Classical.propDecidable p)
theorem pB_false {p : Prop} : pB p = false ↔ ¬ p := by
  constructor
  · intro h g
    rw [pB_iff.mpr g] at h; cases h
  · intro h
    cases g : pB p with
    | false => rfl
    | true => exact absurd (pB_iff.mp g) h
/-- a number that is asked for: one of the n first, or none -/
def ixN (n : Nat) (x : Int32) : Option Nat := if 0 ≤ x ∧ x.toNatClampNeg < n then some x.toNatClampNeg else none
def optI : Option Nat → Int32
  | none => -1
  | some k => nI k
def filesT (t : TreT) (p : Nat) : List Nat := (List.range 27).flatMap fun n => (List.range (tN t)).filter fun k => decide (tPar t k = some p) && (decide (tNam t k = n) && !tDir t k)
/-- action i uses j -/
def usesT (t : TreT) (a : ActT) (i j : Nat) : Bool := (aIns a i).any fun p => (aOut a j).any fun o => decide (o = p) || decide (tPar t o = some p)
def rchN (t : TreT) (a : ActT) : Nat → Nat → Nat → Prop
  | 0, i, j => j < aN a ∧ usesT t a i j = true
  | n + 1, i, j => ∃ k, k < aN a ∧ usesT t a i k = true ∧ rchN t a n k j
/-- action i comes to j by what is used -/
def rch (t : TreT) (a : ActT) (i j : Nat) : Prop := ∃ n, rchN t a n i j
/-- action i makes the path, or a file in it -/
def mkr (t : TreT) (p i : Nat) : Prop := ∃ o, o < tN t ∧ tMk t o = some i ∧ (o = p ∨ tPar t o = some p)
def needP (t : TreT) (a : ActT) (p i : Nat) : Prop := mkr t p i ∨ ∃ k, mkr t p k ∧ rch t a k i
def circO (t : TreT) (a : ActT) (i p : Nat) : Prop := ∃ b, b < aN a ∧ (b = i ∨ rch t a i b) ∧ ∃ q, q ∈ aIns a b ∧ (q = p ∨ tPar t p = some q)
noncomputable def needW (t : TreT) (a : ActT) (p : Option Nat) : Nat → Bool := fun i => decide (i < aN a) && (match p with
  | none => true
  | some p => pB (needP t a p i))
/-- keys -/
def stI (l : List (Nat × Nat)) : List (Int32 × Int32) := l.map fun p => (nI p.1, nI p.2)
def namesW (t : TreT) (cv : Nat → Con) (p : Nat) : List Int32 := ((filesT t p).filter fun k => (cv k).isSome).map fun k => nI (tNam t k)
def partW (t : TreT) (cv : Nat → Con) (p : Nat) : List Int32 := if tDir t p = true then listL (namesW t cv p) else contL (cv p)
def keyW (t : TreT) (cv : Nat → Con) (a : ActT) (i : Nat) : KeyT := (headL (aIns a i) (aOut a i) (stI (aSt a i)), (aIns a i).map (partW t cv))
def flatK (k : KeyT) : List Int32 := k.1 ++ k.2.flatten
def cdif : Nat → List (List Int32) → List (List Int32) → Int32
  | _, [], _ => 0
  | i, _ :: _, [] => nI (10 + i)
  | i, p :: ps, q :: qs => if p = q then cdif (i + 1) ps qs else nI (10 + i)
def chgW (now : KeyT) : Option KeyT → Int32
  | none => -1
  | some u => if now.1 = u.1 then cdif 0 now.2 u.2 else 1
/-- programs: failure (0 none), row, whether the next step is passed over, what is written -/
def rowIf (l : List Int32) (out : Nat → Con) : Nat × List Int32 × Bool × (Nat → Con) := if l.length ≤ 64 then (0, l, false, out) else (2, l, false, out)
def stepW (t : TreT) (cv : Nat → Con) (ins : List Nat) (no n v : Nat) (row : List Int32) (out : Nat → Con) : Nat × List Int32 × Bool × (Nat → Con) :=
  if (n = 0 ∨ n = 2 ∨ n = 9) ∧ ins.length ≤ v then (3, row, false, out)
  else if n = 3 ∧ no ≤ v then (3, row, false, out)
  else if n = 0 then (if tDir t (ins.getD v 0) = true then (4, row, false, out) else match cv (ins.getD v 0) with
    | none => (1, row, false, out)
    | some l => rowIf (row ++ l) out)
  else if n = 1 then rowIf (row ++ [nI v]) out
  else if n = 2 then (if tDir t (ins.getD v 0) = true then rowIf (row ++ (namesW t cv (ins.getD v 0)).map fun x => 96 + x) out else (4, row, false, out))
  else if n = 3 then (0, [], false, fup out v (some row))
  else if n = 4 then (0, row.reverse, false, out)
  else if n = 5 then (0, sortL row, false, out)
  else if n = 6 then (0, figsL row.length, false, out)
  else if n = 7 then (0, figsL (sumL row).toNatClampNeg, false, out)
  else if n = 8 then (0, row.take v, false, out)
  else if n = 9 then (if tDir t (ins.getD v 0) = true then (4, row, false, out) else (0, row, (cv (ins.getD v 0)).isSome, out))
  else if n = 10 then (0, onceL row, false, out)
  else if n = 11 then (5, row, false, out)
  else if n = 12 then (0, mixL row (nI v), false, out)
  else rowIf (row ++ row) out
def runW (t : TreT) (cv : Nat → Con) (ins : List Nat) (no : Nat) : List (Nat × Nat) → List Int32 → Bool → (Nat → Con) → Nat × (Nat → Con)
  | [], _, _, out => (0, out)
  | st :: r, row, ps, out => if ps = true then runW t cv ins no r row false out else (if (stepW t cv ins no st.1 st.2 row out).1 = 0 then runW t cv ins no r (stepW t cv ins no st.1 st.2 row out).2.1 (stepW t cv ins no st.1 st.2 row out).2.2.1 (stepW t cv ins no st.1 st.2 row out).2.2.2 else ((stepW t cv ins no st.1 st.2 row out).1, fun _ => none))
def comesW (t : TreT) (cv : Nat → Con) (a : ActT) (i : Nat) : Nat × (Nat → Con) := runW t cv (aIns a i) (aOut a i).length (aSt a i) [] false (fun _ => none)
def layO : (Nat → Con) → List Nat → (Nat → Con) → Nat → (Nat → Con)
  | cv, [], _, _ => cv
  | cv, p :: ps, out, k => layO (fup cv p (out k)) ps out (k + 1)
/-- the cache -/
def lenC : Con → Nat
  | none => 0
  | some l => l.length
def eSize (e : EntT) : Nat := 16 + lenC (eOut e 0) + lenC (eOut e 1) + lenC (eOut e 2)
def sizesW (es : List EntT) : Nat := (es.map eSize).sum
def trimW (cap : Nat) : List EntT → List EntT × Nat
  | [] => ([], 0)
  | e :: es => if 100 < (e :: es).length ∨ cap < sizesW (e :: es) then ((trimW cap es).1, (trimW cap es).2 + 1) else (e :: es, 0)
def findW (es : List EntT) (k : List Int32) : Option Nat := es.findIdx? fun e => decide (eKey e = k)
/-- builds: contents, latest keys, cache, log -/
abbrev BldT : Type := (Nat → Nat → Con) × (Nat → Nat → Option KeyT) × CacT × LogT
def nextW (t : TreT) (a : ActT) (op : Nat → Bool) : Option Nat := (List.range (aN a)).find? fun i => op i && (List.range (aN a)).all fun j => !(op j && usesT t a i j)
def useE (e : EntT) : EntT := (eKey e, eOut e, eFail e, eFnd e + 1, eN e)
def doW (t : TreT) (a : ActT) (s i : Nat) (b : BldT) : BldT :=
  let now := keyW t (b.1 s) a i
  let chg := chgW now (b.2.1 s i)
  let was := fup2 b.2.1 s i (some now)
  let K := b.2.2.1
  let L := b.2.2.2
  match findW K.2.1 (flatK now) with
  | some j => (fup b.1 s (layO (b.1 s) (aOut a i) (eOut (K.2.1.getD j ([], fun _ => none, 0, 0, 0))) 0), was, (K.1, K.2.1.eraseIdx j ++ [useE (K.2.1.getD j ([], fun _ => none, 0, 0, 0))], K.2.2), (L.1 ++ [(nI i, 0, nI (eFail (K.2.1.getD j ([], fun _ => none, 0, 0, 0))), chg)], L.2.1, L.2.2.1 + 1, L.2.2.2))
  | none => (fup b.1 s (layO (b.1 s) (aOut a i) (comesW t (b.1 s) a i).2 0), was, (K.1, (trimW K.1 (K.2.1 ++ [(flatK now, (comesW t (b.1 s) a i).2, (comesW t (b.1 s) a i).1, 0, (aOut a i).length)])).1, K.2.2 + nI (trimW K.1 (K.2.1 ++ [(flatK now, (comesW t (b.1 s) a i).2, (comesW t (b.1 s) a i).1, 0, (aOut a i).length)])).2), (L.1 ++ [(nI i, 1, nI (comesW t (b.1 s) a i).1, chg)], L.2.1 + 1, L.2.2.1, L.2.2.2))
def bldW (t : TreT) (a : ActT) (s : Nat) : Nat → BldT → (Nat → Bool) → BldT
  | 0, b, _ => b
  | n + 1, b, op => match nextW t a op with
    | none => b
    | some i => bldW t a s n (doW t a s i b) (fup op i false)
def triW (t : TreT) (a : ActT) : Nat → (Nat → Con) → (Nat → Bool) → (Nat → Con)
  | 0, cv, _ => cv
  | n + 1, cv, op => match nextW t a op with
    | none => cv
    | some i => triW t a n (layO cv (aOut a i) (comesW t cv a i).2 0) (fup op i false)
