/-! steps of a run, whatever the heap -/
section WG
variable {m pc x y : Nat} {z : Int} {i : Instr} {L : List (Option Value)} {S : List Value} {σ : zSt} {P : Option Value → zSt → Prop}
theorem wp_s {n : Nat} {L' : List (Option Value)} {S' : List Value} {σ' : zSt} (hc : zcode m pc = some (i, x, y, z)) (hk : zKd i y = 0) (h1 : z1 i x y z (mL m) pc L S σ = some (n, L', S', σ')) : wp m pc L S σ P ↔ wp m n L' S' σ' P := wp_step hc hk h1
theorem wp_retI {v : Int32} (hc : zcode m pc = some (.ireturn, x, y, z)) (hr : mR m = some .int) : wp m pc L [.int v] σ P ↔ P (some (.int v)) σ := wp_ret (u := (some (.int v), σ)) hc rfl (by rw [hr]; rfl)
theorem wp_retL {v : Int64} (hc : zcode m pc = some (.lreturn, x, y, z)) (hr : mR m = some .long) : wp m pc L [.long v] σ P ↔ P (some (.long v)) σ := wp_ret (u := (some (.long v), σ)) hc rfl (by rw [hr]; rfl)
theorem wp_retV (hc : zcode m pc = some (.return_, x, y, z)) (hr : mR m = none) : wp m pc L [] σ P ↔ P none σ := wp_ret (u := (none, σ)) hc rfl (by rw [hr]; rfl)
theorem wp_retA {a : Nat} {C : String} (hc : zcode m pc = some (.areturn, x, y, z)) (hr : mR m = some (.object C)) : wp m pc L [.ref a] σ P ↔ P (some (.ref a)) σ := wp_ret (u := (some (.ref a), σ)) hc rfl (by rw [hr]; rfl)
theorem wp_retR {a : Nat} {C : FieldType} (hc : zcode m pc = some (.areturn, x, y, z)) (hr : mR m = some (.array C)) : wp m pc L [.ref a] σ P ↔ P (some (.ref a)) σ := wp_ret (u := (some (.ref a), σ)) hc rfl (by rw [hr]; rfl)
theorem wp_ic {n : Int} {v : Int32} {n' : Nat} (hn : pc + 1 = n') (hc : zcode m pc = some (.iconst n, x, y, z)) (hv : Int32.ofInt n = v) : wp m pc L S σ P ↔ wp m n' L (.int v :: S) σ P := by subst hn; subst hv; exact wp_step (q := (pc + 1, L, .int (Int32.ofInt n) :: S, σ)) hc rfl rfl
theorem wp_bp {n : Int} {v : Int32} {n' : Nat} (hn : pc + 2 = n') (hc : zcode m pc = some (.bipush n, x, y, z)) (hv : (Int8.ofInt n).toInt32 = v) : wp m pc L S σ P ↔ wp m n' L (.int v :: S) σ P := by subst hn; subst hv; exact wp_step (q := (pc + 2, L, .int ((Int8.ofInt n).toInt32) :: S, σ)) hc rfl rfl
theorem wp_sp {n : Int} {v : Int32} {n' : Nat} (hn : pc + 3 = n') (hc : zcode m pc = some (.sipush n, x, y, z)) (hv : (Int16.ofInt n).toInt32 = v) : wp m pc L S σ P ↔ wp m n' L (.int v :: S) σ P := by subst hn; subst hv; exact wp_step (q := (pc + 3, L, .int ((Int16.ofInt n).toInt32) :: S, σ)) hc rfl rfl
theorem wp_ldc {n : Nat} {v : Int32} {n' : Nat} (hn : pc + 2 = n') (hc : zcode m pc = some (.ldc n, 0, y, z)) (hv : Int32.ofInt z = v) : wp m pc L S σ P ↔ wp m n' L (.int v :: S) σ P := by subst hn; subst hv; exact wp_step (q := (pc + 2, L, .int (Int32.ofInt z) :: S, σ)) hc rfl rfl
theorem wp_ldc2 {n : Nat} {v : Int64} {n' : Nat} (hn : pc + 3 = n') (hc : zcode m pc = some (.ldc2_w n, x, y, z)) (hv : Int64.ofInt z = v) : wp m pc L S σ P ↔ wp m n' L (.long v :: S) σ P := by subst hn; subst hv; exact wp_step (q := (pc + 3, L, .long (Int64.ofInt z) :: S, σ)) hc rfl rfl
theorem wp_lc {n : Fin 2} {v : Int64} {n' : Nat} (hn : pc + 1 = n') (hc : zcode m pc = some (.lconst n, x, y, z)) (hv : Int64.ofNat (n : Nat) = v) : wp m pc L S σ P ↔ wp m n' L (.long v :: S) σ P := by subst hn; subst hv; exact wp_step (q := (pc + 1, L, .long (Int64.ofNat (n : Nat)) :: S, σ)) hc rfl rfl
theorem wp_inc {k : Nat} {c : Int} {v w : Int32} {n' : Nat} (hn : pc + 3 = n') (hc : zcode m pc = some (.iinc k c, x, y, z)) (hl : L[k]? = some (some (.int v))) (hk : (decide (k < mL m) && zNL L k) = true) (hw : Int32.ofInt c = w) : wp m pc L S σ P ↔ wp m n' (L.set k (some (.int (v + w)))) S σ P := by
  subst hn
  subst hw
  refine wp_step (q := (pc + 3, L.set k (some (.int (v + Int32.ofInt c))), S, σ)) hc rfl ?_
  show zInc k c (mL m) pc L S σ = _
  unfold zInc
  rw [hl]
  dsimp only
  have h := Bool.and_eq_true_iff.mp hk
  rw [if_pos ⟨of_decide_eq_true h.1, h.2⟩]
theorem wp_goto {off : Int} {t : Nat} (hc : zcode m pc = some (.goto off, x, y, z)) (ht : zJ pc off = some t) : wp m pc L S σ P ↔ wp m t L S σ P := by
  refine wp_step (q := (t, L, S, σ)) hc rfl ?_
  show (match zJ pc off with
    | some q => some (q, L, S, σ)
    | none => none) = _
  rw [ht]
theorem wp_swI {d lo hi : Int} {offs : Array Int} {v : Int32} {t : Nat} (hc : zcode m pc = some (.tableswitch d lo hi offs, x, y, z)) (h : (¬ (v.toInt < lo ∨ hi < v.toInt)) ∧ (offs[(v.toInt - lo).toNat]?).bind (zJ pc) = some t) : wp m pc L (.int v :: S) σ P ↔ wp m t L S σ P := by
  refine wp_step (q := (t, L, S, σ)) hc rfl ?_
  show zSw d lo hi offs pc L (.int v :: S) σ = _
  unfold zSw
  dsimp only
  rw [if_neg h.1]
  cases ho : offs[(v.toInt - lo).toNat]? with
  | none => rw [ho] at h; cases h.2
  | some off =>
    rw [ho] at h
    have h2 : zJ pc off = some t := h.2
    dsimp only
    rw [h2]
theorem wp_swO {d lo hi : Int} {offs : Array Int} {v : Int32} {t : Nat} (hc : zcode m pc = some (.tableswitch d lo hi offs, x, y, z)) (ht : zJ pc d = some t) (h : v.toInt < lo ∨ hi < v.toInt) : wp m pc L (.int v :: S) σ P ↔ wp m t L S σ P := by
  refine wp_step (q := (t, L, S, σ)) hc rfl ?_
  show zSw d lo hi offs pc L (.int v :: S) σ = _
  unfold zSw
  dsimp only
  rw [if_pos h, ht]
/-- out of a row of cases one by one -/
theorem zsw_lo {v : Int32} {lo hi : Int} (h : ∀ k : Int, lo ≤ k → k ≤ hi → ¬ v = Int32.ofInt k) (h1 : -2147483648 ≤ lo) (h2 : hi ≤ 2147483647) : v.toInt < lo ∨ hi < v.toInt := by
  by_cases h3 : v.toInt < lo
  · exact Or.inl h3
  · by_cases h4 : hi < v.toInt
    · exact Or.inr h4
    · exact absurd (Int32.ofInt_toInt v).symm (h v.toInt (by omega) (by omega))
end WG

section WC
theorem ci_1 : Int32.ofInt 1 = 1 := by decide
theorem ci_0 : Int32.ofInt 0 = 0 := by decide
theorem cb_26 : (Int8.ofInt 26).toInt32 = 26 := by decide
theorem cb_m2 : (Int8.ofInt (-2)).toInt32 = (-2) := by decide
theorem cb_m3 : (Int8.ofInt (-3)).toInt32 = (-3) := by decide
theorem cb_m4 : (Int8.ofInt (-4)).toInt32 = (-4) := by decide
theorem cb_60 : (Int8.ofInt 60).toInt32 = 60 := by decide
theorem cb_m6 : (Int8.ofInt (-6)).toInt32 = (-6) := by decide
theorem ci_m1 : Int32.ofInt (-1) = (-1) := by decide
theorem ci_3 : Int32.ofInt 3 = 3 := by decide
theorem cb_8 : (Int8.ofInt 8).toInt32 = 8 := by decide
theorem cb_64 : (Int8.ofInt 64).toInt32 = 64 := by decide
theorem cl_255 : Int64.ofInt 255 = 255 := by decide
theorem cb_40 : (Int8.ofInt 40).toInt32 = 40 := by decide
theorem cb_6 : (Int8.ofInt 6).toInt32 = 6 := by decide
theorem cb_m5 : (Int8.ofInt (-5)).toInt32 = (-5) := by decide
theorem cb_13 : (Int8.ofInt 13).toInt32 = 13 := by decide
theorem cs_255 : (Int16.ofInt 255).toInt32 = 255 := by decide
theorem cb_16 : (Int8.ofInt 16).toInt32 = 16 := by decide
theorem cl_1469598103934665603 : Int64.ofInt 1469598103934665603 = 1469598103934665603 := by decide
theorem cl_1099511628211 : Int64.ofInt 1099511628211 = 1099511628211 := by decide
theorem cc_0 : Int64.ofNat 0 = 0 := by decide
theorem cs_425 : (Int16.ofInt 425).toInt32 = 425 := by decide
theorem cb_7 : (Int8.ofInt 7).toInt32 = 7 := by decide
theorem cb_10 : (Int8.ofInt 10).toInt32 = 10 := by decide
theorem ci_2 : Int32.ofInt 2 = 2 := by decide
theorem cb_9 : (Int8.ofInt 9).toInt32 = 9 := by decide
theorem cb_48 : (Int8.ofInt 48).toInt32 = 48 := by decide
theorem ci_4 : Int32.ofInt 4 = 4 := by decide
theorem cb_96 : (Int8.ofInt 96).toInt32 = 96 := by decide
theorem ci_5 : Int32.ofInt 5 = 5 := by decide
theorem cb_100 : (Int8.ofInt 100).toInt32 = 100 := by decide
theorem cs_192 : (Int16.ofInt 192).toInt32 = 192 := by decide
theorem cs_4000 : (Int16.ofInt 4000).toInt32 = 4000 := by decide
theorem cl_m9223372036854775808 : Int64.ofInt (-9223372036854775808) = (-9223372036854775808) := by decide
theorem cs_1000 : (Int16.ofInt 1000).toInt32 = 1000 := by decide
end WC
