/-! THE CALLS, PURE -/
abbrev WT : Type := TreT × ActT × (Nat → Nat → Con) × List Int32 × (Nat → Nat → Option KeyT) × CacT × LogT
def wT (w : WT) : TreT := w.1
def wA (w : WT) : ActT := w.2.1
def wC (w : WT) : Nat → Nat → Con := w.2.2.1
def wP (w : WT) : List Int32 := w.2.2.2.1
def wW (w : WT) : Nat → Nat → Option KeyT := w.2.2.2.2.1
def wK (w : WT) : CacT := w.2.2.2.2.2.1
def wL (w : WT) : LogT := w.2.2.2.2.2.2
def w0 : WT := ((1, fun _ => none, fun _ => 0, fun k => decide (k = 0), fun _ => none), (0, fun _ => [], fun _ => [], fun _ => []), fun _ _ => none, [], fun _ _ => none, (1000, [], 0), ([], 0, 0, 0))
def lenI : Con → Int32
  | none => -1
  | some l => nI l.length
def sPath (w : WT) (p n : Int32) (d : Bool) : WT × Int32 :=
  match ixN (tN (wT w)) p with
  | none => (w, -2)
  | some q => if n < 1 ∨ 26 < n then (w, -2) else if tDir (wT w) q = false then (w, -3)
    else if ((List.range (tN (wT w))).any fun k => decide (tPar (wT w) k = some q) && decide (tNam (wT w) k = n.toNatClampNeg)) = true then (w, -4)
    else if 60 ≤ tN (wT w) then (w, -6)
    else (((tN (wT w) + 1, fup (tPar (wT w)) (tN (wT w)) (some q), fup (tNam (wT w)) (tN (wT w)) n.toNatClampNeg, fup (tDir (wT w)) (tN (wT w)) d, fup (tMk (wT w)) (tN (wT w)) none), wA w, (fun s k => if k = tN (wT w) then none else wC w s k), wP w, wW w, wK w, wL w), nI (tN (wT w)))
def sOf (w : WT) (p n : Int32) : Int32 :=
  match ixN (tN (wT w)) p with
  | none => -2
  | some q => if n = 0 then optI (tPar (wT w) q) else if n = 1 then nI (tNam (wT w) q) else if n = 2 then (if tDir (wT w) q = true then 1 else 0) else if n = 3 then optI (tMk (wT w) q) else -2
/-- the n lowest bytes of a number, the highest first -/
def byteW (v : Int64) (k : Nat) : Int32 := nI (v.toBitVec.toNat / 2 ^ (8 * k) % 256)
def bytesW (v : Int64) : Nat → List Int32
  | 0 => []
  | n + 1 => byteW v n :: bytesW v n
def sFeed (w : WT) (v : Int64) (n : Int32) : WT × Int32 :=
  if n < 1 ∨ 8 < n then (w, -2) else if 64 < (wP w).length + n.toNatClampNeg then (w, -6)
  else ((wT w, wA w, wC w, wP w ++ bytesW v n.toNatClampNeg, wW w, wK w, wL w), nI ((wP w).length + n.toNatClampNeg))
/-- space and path of a file that is asked for -/
def fileW (w : WT) (s p : Int32) : Option (Nat × Nat) := match ixN 2 s, ixN (tN (wT w)) p with
  | some s, some p => some (s, p)
  | _, _ => none
def srcW (w : WT) (p : Nat) : Bool := !tDir (wT w) p && decide (tMk (wT w) p = none)
def sWrite (w : WT) (s p : Int32) : WT × Int32 :=
  match fileW w s p with
  | none => (w, -2)
  | some (s, p) => if srcW w p = true then ((wT w, wA w, fup2 (wC w) s p (some (wP w)), [], wW w, wK w, wL w), nI (wP w).length) else (w, -3)
def sRemove (w : WT) (s p : Int32) : WT × Int32 :=
  match fileW w s p with
  | none => (w, -2)
  | some (s, p) => if srcW w p = true then ((wT w, wA w, fup2 (wC w) s p none, wP w, wW w, wK w, wL w), lenI (wC w s p)) else (w, -3)
/-- sources of a space come from the other one: contents, how many are others -/
def cpyW (t : TreT) (src : Nat → Bool) (f : Nat → Con) (g : Nat → Con) : Nat → (Nat → Con) × Nat
  | 0 => (g, 0)
  | n + 1 => if src n = true ∧ (cpyW t src f g n).1 n ≠ f n then (fup (cpyW t src f g n).1 n (f n), (cpyW t src f g n).2 + 1) else cpyW t src f g n
def sCopy (w : WT) (s : Int32) : WT × Int32 :=
  match ixN 2 s with
  | none => (w, -2)
  | some s => ((wT w, wA w, fup (wC w) s (cpyW (wT w) (srcW w) (wC w (1 - s)) (wC w s) (tN (wT w))).1, wP w, wW w, wK w, wL w), nI (cpyW (wT w) (srcW w) (wC w (1 - s)) (wC w s) (tN (wT w))).2)
def sLength (w : WT) (s p : Int32) : Int32 :=
  match fileW w s p with
  | none => -2
  | some (s, p) => if tDir (wT w) p = true then -3 else lenI (wC w s p)
def sByteAt (w : WT) (s p i : Int32) : Int32 :=
  match fileW w s p with
  | none => -2
  | some (s, p) => if tDir (wT w) p = true then -3 else match wC w s p with
    | none => -2
    | some l => match ixN l.length i with
      | none => -2
      | some i => l.getD i 0
def sAction (w : WT) : WT × Int32 :=
  if 40 ≤ aN (wA w) then (w, -6) else ((wT w, (aN (wA w) + 1, fup (aIns (wA w)) (aN (wA w)) [], fup (aOut (wA w)) (aN (wA w)) [], fup (aSt (wA w)) (aN (wA w)) []), wC w, wP w, (fun s i => if i = aN (wA w) then none else wW w s i), wK w, wL w), nI (aN (wA w)))
noncomputable def sInput (w : WT) (a p : Int32) : WT × Int32 :=
  match ixN (aN (wA w)) a, ixN (tN (wT w)) p with
  | some a, some p => if p ∈ aIns (wA w) a then (w, -4) else if pB (needP (wT w) (wA w) p a) = true then (w, -5) else if 6 ≤ (aIns (wA w) a).length then (w, -6)
    else ((wT w, (aN (wA w), fup (aIns (wA w)) a (aIns (wA w) a ++ [p]), aOut (wA w), aSt (wA w)), wC w, wP w, wW w, wK w, wL w), nI ((aIns (wA w) a).length + 1))
  | _, _ => (w, -2)
def setMk (t : TreT) (f : Nat → Option Nat) : TreT := (tN t, tPar t, tNam t, tDir t, f)
noncomputable def sOutput (w : WT) (a p : Int32) : WT × Int32 :=
  match ixN (aN (wA w)) a, ixN (tN (wT w)) p with
  | some a, some p => if tDir (wT w) p = true then (w, -3) else if tMk (wT w) p ≠ none then (w, -4) else if pB (circO (wT w) (wA w) a p) = true then (w, -5) else if 3 ≤ (aOut (wA w) a).length then (w, -6)
    else ((setMk (wT w) (fup (tMk (wT w)) p (some a)), (aN (wA w), aIns (wA w), fup (aOut (wA w)) a (aOut (wA w) a ++ [p]), aSt (wA w)), (fun s k => if k = p then none else wC w s k), wP w, wW w, wK w, wL w), nI ((aOut (wA w) a).length + 1))
  | _, _ => (w, -2)
def sStep (w : WT) (a n v : Int32) : WT × Int32 :=
  match ixN (aN (wA w)) a, ixN 14 n, ixN 256 v with
  | some a, some n, some v => if 16 ≤ (aSt (wA w) a).length then (w, -6)
    else ((wT w, (aN (wA w), aIns (wA w), aOut (wA w), fup (aSt (wA w)) a (aSt (wA w) a ++ [(n, v)])), wC w, wP w, wW w, wK w, wL w), nI ((aSt (wA w) a).length + 1))
  | _, _, _ => (w, -2)
def sErase (w : WT) (a : Int32) : WT × Int32 :=
  match ixN (aN (wA w)) a with
  | none => (w, -2)
  | some a => ((setMk (wT w) (fun p => if p ∈ aOut (wA w) a then none else tMk (wT w) p), (aN (wA w), fup (aIns (wA w)) a [], fup (aOut (wA w)) a [], fup (aSt (wA w)) a []), (fun s k => if k ∈ aOut (wA w) a then none else wC w s k), wP w, wW w, wK w, wL w), nI (aSt (wA w) a).length)
def usedN (w : WT) (a : Nat) : Nat := ((List.range (aN (wA w))).filter fun b => usesT (wT w) (wA w) a b).length
def sAbout (w : WT) (a n : Int32) : Int32 :=
  match ixN (aN (wA w)) a with
  | none => -2
  | some a => if n = 0 then nI (aIns (wA w) a).length else if n = 1 then nI (aOut (wA w) a).length else if n = 2 then nI (aSt (wA w) a).length else if n = 3 then nI (usedN w a) else -2
def sUses (w : WT) (a b : Int32) : Int32 :=
  match ixN (aN (wA w)) a, ixN (aN (wA w)) b with
  | some a, some b => if usesT (wT w) (wA w) a b = true then 1 else 0
  | _, _ => -2
noncomputable def bldOf (w : WT) (s : Nat) (p : Option Nat) : BldT := bldW (wT w) (wA w) s 40 (wC w, wW w, wK w, ([], (wL w).2.1, (wL w).2.2.1, (wL w).2.2.2 + 1)) (needW (wT w) (wA w) p)
noncomputable def sBuild (w : WT) (s p : Int32) : WT × Int32 :=
  match ixN 2 s with
  | none => (w, -2)
  | some s => if p ≠ -1 ∧ ixN (tN (wT w)) p = none then (w, -2)
    else ((wT w, wA w, (bldOf w s (ixN (tN (wT w)) p)).1, wP w, (bldOf w s (ixN (tN (wT w)) p)).2.1, (bldOf w s (ixN (tN (wT w)) p)).2.2.1, (bldOf w s (ixN (tN (wT w)) p)).2.2.2), (bldOf w s (ixN (tN (wT w)) p)).2.2.2.2.1 - (wL w).2.1)
def sDone (w : WT) (i n : Int32) : Int32 :=
  match ixN (wL w).1.length i with
  | none => -2
  | some i => if n = 0 then ((wL w).1.getD i (0, 0, 0, 0)).1 else if n = 1 then ((wL w).1.getD i (0, 0, 0, 0)).2.1 else if n = 2 then ((wL w).1.getD i (0, 0, 0, 0)).2.2.1 else if n = 3 then ((wL w).1.getD i (0, 0, 0, 0)).2.2.2 else -2
def sChanged (w : WT) (s a : Int32) : Int32 :=
  match ixN 2 s, ixN (aN (wA w)) a with
  | some s, some a => chgW (keyW (wT w) (wC w s) (wA w) a) (wW w s a)
  | _, _ => -2
def sKey (w : WT) (s a : Int32) : Int64 :=
  match ixN 2 s, ixN (aN (wA w)) a with
  | some s, some a => signL (flatK (keyW (wT w) (wC w s) (wA w) a))
  | _, _ => 0
noncomputable def sClean (w : WT) (s : Int32) : Int32 :=
  match ixN 2 s with
  | none => -2
  | some s => if ((List.range (tN (wT w))).all fun p => decide (tMk (wT w) p = none) || decide (wC w s p = triW (wT w) (wA w) 40 (wC w s) (needW (wT w) (wA w) none) p)) = true then 1 else 0
def sCapacity (w : WT) (n : Int32) : WT × Int32 :=
  if n < 0 ∨ 4000 < n then (w, -2)
  else ((wT w, wA w, wC w, wP w, wW w, (n.toNatClampNeg, (trimW n.toNatClampNeg (wK w).2.1).1, (wK w).2.2 + nI (trimW n.toNatClampNeg (wK w).2.1).2), wL w), nI (trimW n.toNatClampNeg (wK w).2.1).2)
def sEntry (w : WT) (i n : Int32) : Int64 :=
  match ixN (wK w).2.1.length i with
  | none => -9223372036854775808
  | some i => if n = 0 then signL (eKey ((wK w).2.1.getD i ([], fun _ => none, 0, 0, 0))) else if n = 1 then (nI (eSize ((wK w).2.1.getD i ([], fun _ => none, 0, 0, 0)))).toInt64 else if n = 2 then (nI (eFail ((wK w).2.1.getD i ([], fun _ => none, 0, 0, 0)))).toInt64 else if n = 3 then (eFnd ((wK w).2.1.getD i ([], fun _ => none, 0, 0, 0))).toInt64 else if n = 4 then (nI (eN ((wK w).2.1.getD i ([], fun _ => none, 0, 0, 0)))).toInt64 else -9223372036854775808
def sForget (w : WT) : WT × Int32 := ((wT w, wA w, wC w, wP w, wW w, ((wK w).1, [], (wK w).2.2), wL w), nI (wK w).2.1.length)
def sCount (w : WT) (n : Int32) : Int32 :=
  if n = 0 then nI (tN (wT w)) else if n = 1 then nI (aN (wA w)) else if n = 2 then nI (wP w).length else if n = 3 then nI (wK w).2.1.length else if n = 4 then nI (sizesW (wK w).2.1) else if n = 5 then nI (wK w).1 else if n = 6 then nI (wL w).1.length else if n = 7 then (wL w).2.1 else if n = 8 then (wL w).2.2.1 else if n = 9 then (wK w).2.2 else if n = 10 then (wL w).2.2.2 else -2
def sClear : WT × Int32 := (w0, 1)
/-! WHAT HOLDS OF IT ALL THE TIME -/
def byteI (x : Int32) : Prop := 0 ≤ x ∧ x ≤ 255
def conOk (l : List Int32) : Prop := l.length ≤ 64 ∧ ∀ x ∈ l, byteI x
def TInv (t : TreT) : Prop := 1 ≤ tN t ∧ tN t ≤ 60 ∧ (tPar t 0 = none ∧ tNam t 0 = 0 ∧ tDir t 0 = true ∧ tMk t 0 = none) ∧ (∀ p, 1 ≤ p → p < tN t → (∃ q, q < p ∧ tPar t p = some q ∧ tDir t q = true) ∧ 1 ≤ tNam t p ∧ tNam t p ≤ 26) ∧ ∀ p q, p < tN t → q < tN t → tPar t p = tPar t q → tNam t p = tNam t q → p = q
def AInv (t : TreT) (a : ActT) : Prop := aN a ≤ 40 ∧ (∀ i, i < aN a → (aIns a i).length ≤ 6 ∧ (∀ p ∈ aIns a i, p < tN t) ∧ (aIns a i).Nodup ∧ (aOut a i).length ≤ 3 ∧ (aOut a i).Nodup ∧ (∀ p ∈ aOut a i, p < tN t ∧ tDir t p = false ∧ tMk t p = some i) ∧ (aSt a i).length ≤ 16 ∧ ∀ q ∈ aSt a i, q.1 < 14 ∧ q.2 < 256) ∧ (∀ p i, p < tN t → tMk t p = some i → i < aN a ∧ p ∈ aOut a i) ∧ ∀ i, i < aN a → ¬ rch t a i i
def CInv (t : TreT) (c : Nat → Nat → Con) : Prop := ∀ s p, s < 2 → p < tN t → (∀ l, c s p = some l → conOk l) ∧ (tDir t p = true → c s p = none)
def partOk (l : List Int32) : Prop := (∃ w : Con, (∀ l, w = some l → l.length ≤ 64) ∧ l = contL w) ∨ ∃ nm : List Int32, nm.length ≤ 26 ∧ l = listL nm
def keyOk (k : KeyT) : Prop := (∃ ins outs : List Nat, ∃ st : List (Int32 × Int32), k.1 = headL ins outs st ∧ ins.length = k.2.length ∧ ins.length ≤ 6 ∧ outs.length ≤ 3 ∧ st.length ≤ 16) ∧ ∀ p ∈ k.2, partOk p
def WInvW (a : ActT) (was : Nat → Nat → Option KeyT) : Prop := ∀ s i k, s < 2 → i < aN a → was s i = some k → keyOk k
def entOk (e : EntT) : Prop := (eKey e).length ≤ 425 ∧ (∀ o l, eOut e o = some l → conOk l) ∧ eFail e < 6 ∧ eN e ≤ 3 ∧ ∀ o, eN e ≤ o → eOut e o = none
def KInv (K : CacT) : Prop := K.1 ≤ 4000 ∧ K.2.1.length ≤ 100 ∧ (K.2.1.map eKey).Nodup ∧ ∀ e ∈ K.2.1, entOk e
def WInv (w : WT) : Prop := TInv (wT w) ∧ AInv (wT w) (wA w) ∧ CInv (wT w) (wC w) ∧ conOk (wP w) ∧ WInvW (wA w) (wW w) ∧ KInv (wK w) ∧ (wL w).1.length ≤ 40
