/-! A WHOLE RUN: a method by its contract, from a run of the machine over fields -/
def zMono (σ σ' : zSt) : Prop := znx σ ≤ znx σ' ∧ zsl σ ≤ zsl σ' ∧ ze0 σ' = ze0 σ ∧ zmi σ' = zmi σ
theorem zMono.rf (σ : zSt) : zMono σ σ := ⟨Nat.le_refl _, Nat.le_refl _, rfl, rfl⟩
theorem zMono.tr {a b c : zSt} (h1 : zMono a b) (h2 : zMono b c) : zMono a c := ⟨Nat.le_trans h1.1 h2.1, Nat.le_trans h1.2.1 h2.2.1, h2.2.2.1.trans h1.2.2.1, h2.2.2.2.trans h1.2.2.2⟩
theorem zGo_st {b : Bool} {pc : Nat} {off : Int} {L : List (Option Value)} {r : List Value} {σ : zSt} {q : zC} (h : zGo b pc off L r σ = some q) : q.2.2.2 = σ := by
  rcases zGo_spec h with ⟨-, t, -, rfl⟩ | ⟨-, rfl⟩ <;> rfl
theorem z1_mono {i : Instr} {x y nL pc : Nat} {z : Int} {L : List (Option Value)} {S : List Value} {σ : zSt} {q : zC} (h1 : z1 i x y z nL pc L S σ = some q) : zMono σ q.2.2.2 := by
  have hq : ∀ {q' : zC}, q'.2.2.2 = σ → zMono σ q'.2.2.2 := fun h => by rw [h]; exact zMono.rf σ
  have mk : ∀ {q' : zC}, znx σ ≤ znx q'.2.2.2 → zsl σ ≤ zsl q'.2.2.2 → ze0 q'.2.2.2 = ze0 σ → zmi q'.2.2.2 = zmi σ → zMono σ q'.2.2.2 := fun a b c d => ⟨a, b, c, d⟩
  cases i with
  | ldc n =>
    replace h1 : (if x = 0 then some (pc + 2, L, Value.int (Int32.ofInt z) :: S, σ) else some (pc + 2, L, Value.ref (zmi σ) :: S, σ)) = some q := h1
    split at h1 <;> cases h1 <;> exact zMono.rf σ
  | iload k => obtain ⟨v, -, -, rfl⟩ := zLd_spec h1; exact zMono.rf σ
  | iload_n k => obtain ⟨v, -, -, rfl⟩ := zLd_spec h1; exact zMono.rf σ
  | lload k => obtain ⟨v, -, -, rfl⟩ := zLd_spec h1; exact zMono.rf σ
  | lload_n k => obtain ⟨v, -, -, rfl⟩ := zLd_spec h1; exact zMono.rf σ
  | aload k => obtain ⟨v, -, -, rfl⟩ := zLd_spec h1; exact zMono.rf σ
  | aload_n k => obtain ⟨v, -, -, rfl⟩ := zLd_spec h1; exact zMono.rf σ
  | istore k => obtain ⟨v, r, rfl, -, -, -, rfl⟩ := zSto_spec h1; exact zMono.rf σ
  | istore_n k => obtain ⟨v, r, rfl, -, -, -, rfl⟩ := zSto_spec h1; exact zMono.rf σ
  | astore k => obtain ⟨v, r, rfl, -, -, -, rfl⟩ := zSto_spec h1; exact zMono.rf σ
  | astore_n k => obtain ⟨v, r, rfl, -, -, -, rfl⟩ := zSto_spec h1; exact zMono.rf σ
  | lstore k => obtain ⟨v, r, rfl, -, -, rfl⟩ := zStoL_spec h1; exact zMono.rf σ
  | lstore_n k => obtain ⟨v, r, rfl, -, -, rfl⟩ := zStoL_spec h1; exact zMono.rf σ
  | iinc k n => obtain ⟨v, -, -, -, rfl⟩ := zInc_spec h1; exact zMono.rf σ
  | iadd => obtain ⟨v, w, u, r, rfl, h2, rfl⟩ := zBI_spec (show zBI (fun a b => some (a + b)) pc L S σ = some q from h1); exact zMono.rf σ
  | isub => obtain ⟨v, w, u, r, rfl, h2, rfl⟩ := zBI_spec (show zBI (fun a b => some (a - b)) pc L S σ = some q from h1); exact zMono.rf σ
  | imul => obtain ⟨v, w, u, r, rfl, h2, rfl⟩ := zBI_spec (show zBI (fun a b => some (a * b)) pc L S σ = some q from h1); exact zMono.rf σ
  | iand => obtain ⟨v, w, u, r, rfl, h2, rfl⟩ := zBI_spec (show zBI (fun a b => some (a &&& b)) pc L S σ = some q from h1); exact zMono.rf σ
  | ixor => obtain ⟨v, w, u, r, rfl, h2, rfl⟩ := zBI_spec (show zBI (fun a b => some (a ^^^ b)) pc L S σ = some q from h1); exact zMono.rf σ
  | ishr => obtain ⟨v, w, u, r, rfl, h2, rfl⟩ := zBI_spec (show zBI (fun a b => some (a >>> (b &&& 31))) pc L S σ = some q from h1); exact zMono.rf σ
  | idiv => obtain ⟨v, w, u, r, rfl, h2, rfl⟩ := zBI_spec h1; exact zMono.rf σ
  | irem => obtain ⟨v, w, u, r, rfl, h2, rfl⟩ := zBI_spec h1; exact zMono.rf σ
  | ladd => obtain ⟨v, w, r, rfl, rfl⟩ := zBL_spec h1; exact zMono.rf σ
  | lsub => obtain ⟨v, w, r, rfl, rfl⟩ := zBL_spec h1; exact zMono.rf σ
  | lmul => obtain ⟨v, w, r, rfl, rfl⟩ := zBL_spec h1; exact zMono.rf σ
  | land => obtain ⟨v, w, r, rfl, rfl⟩ := zBL_spec h1; exact zMono.rf σ
  | lor => obtain ⟨v, w, r, rfl, rfl⟩ := zBL_spec h1; exact zMono.rf σ
  | lxor => obtain ⟨v, w, r, rfl, rfl⟩ := zBL_spec h1; exact zMono.rf σ
  | lcmp => obtain ⟨v, w, r, rfl, rfl⟩ := zBL_spec h1; exact zMono.rf σ
  | lshl => obtain ⟨v, w, r, rfl, rfl⟩ := zSL_spec h1; exact zMono.rf σ
  | lshr => obtain ⟨v, w, r, rfl, rfl⟩ := zSL_spec h1; exact zMono.rf σ
  | lushr => obtain ⟨v, w, r, rfl, rfl⟩ := zSL_spec h1; exact zMono.rf σ
  | i2l =>
    unfold z1 at h1
    dsimp only at h1
    split at h1 <;> cases h1
    exact zMono.rf σ
  | l2i =>
    unfold z1 at h1
    dsimp only at h1
    split at h1 <;> cases h1
    exact zMono.rf σ
  | ifCond cnd off => cases cnd <;> (obtain ⟨v, r, rfl, h2⟩ := zIf_spec h1; exact hq (zGo_st h2))
  | if_icmp cnd off => cases cnd <;> (obtain ⟨v, w, r, rfl, h2⟩ := zIc_spec h1; exact hq (zGo_st h2))
  | if_acmp cnd off => cases cnd <;> (obtain ⟨v, w, r, rfl, h2⟩ := zAc_spec h1; exact hq (zGo_st h2))
  | goto off =>
    unfold z1 at h1
    dsimp only at h1
    split at h1 <;> cases h1
    exact zMono.rf σ
  | tableswitch d lo9 hi offs =>
    replace h1 : zSw d lo9 hi offs pc L S σ = some q := h1
    unfold zSw at h1
    split at h1
    · split at h1
      · split at h1 <;> cases h1
        exact zMono.rf σ
      · split at h1
        · split at h1 <;> cases h1
          exact zMono.rf σ
        · cases h1
    · cases h1
  | dup =>
    replace h1 : zDup pc L S σ = some q := h1
    unfold zDup at h1
    split at h1 <;> first | (split at h1 <;> cases h1; exact zMono.rf σ) | cases h1
  | pop =>
    replace h1 : zPop pc L S σ = some q := h1
    unfold zPop at h1
    split at h1 <;> first | (split at h1 <;> cases h1; exact zMono.rf σ) | cases h1
  | dup_x1 =>
    replace h1 : zDupx pc L S σ = some q := h1
    unfold zDupx at h1
    split at h1 <;> first | (split at h1 <;> cases h1; exact zMono.rf σ) | cases h1
  | dup2 =>
    replace h1 : zDup2 pc L S σ = some q := h1
    unfold zDup2 at h1
    split at h1 <;> first | (split at h1 <;> cases h1; exact zMono.rf σ) | cases h1
  | getfield n =>
    replace h1 : zGet x y pc L S σ = some q := h1
    unfold zGet at h1
    split at h1
    · split at h1
      · split at h1 <;> cases h1
        exact zMono.rf σ
      · cases h1
    · cases h1
  | putfield n =>
    replace h1 : zPutf x y pc L S σ = some q := h1
    unfold zPutf at h1
    split at h1
    · split at h1
      · split at h1
        · rename_i σ1 hp
          cases h1
          unfold zPv at hp
          split at hp <;> first | (split at hp <;> cases hp; exact ⟨Nat.le_refl _, Nat.le_refl _, rfl, rfl⟩) | cases hp
        · cases h1
      · cases h1
    · cases h1
  | iaload =>
    replace h1 : zIld .int pc L S σ = some q := h1
    unfold zIld at h1
    split at h1 <;> first | (split at h1 <;> cases h1; exact zMono.rf σ) | cases h1
  | baload =>
    replace h1 : zIld .boolean pc L S σ = some q := h1
    unfold zIld at h1
    split at h1 <;> first | (split at h1 <;> cases h1; exact zMono.rf σ) | cases h1
  | iastore =>
    replace h1 : zIst .int pc L S σ = some q := h1
    unfold zIst at h1
    split at h1 <;> first | (split at h1 <;> cases h1; exact ⟨Nat.le_refl _, Nat.le_refl _, rfl, rfl⟩) | cases h1
  | bastore =>
    replace h1 : zIst .boolean pc L S σ = some q := h1
    unfold zIst at h1
    split at h1 <;> first | (split at h1 <;> cases h1; exact ⟨Nat.le_refl _, Nat.le_refl _, rfl, rfl⟩) | cases h1
  | aaload =>
    replace h1 : zAld pc L S σ = some q := h1
    unfold zAld at h1
    split at h1
    · split at h1
      · split at h1 <;> cases h1
        exact zMono.rf σ
      · cases h1
    · cases h1
  | aastore =>
    replace h1 : zAst pc L S σ = some q := h1
    unfold zAst at h1
    split at h1 <;> first | (split at h1 <;> cases h1; exact ⟨Nat.le_refl _, Nat.le_refl _, rfl, rfl⟩) | cases h1
  | arraylength =>
    replace h1 : zLn pc L S σ = some q := h1
    unfold zLn at h1
    split at h1
    · split at h1
      · cases h1; exact zMono.rf σ
      · split at h1 <;> cases h1
        exact zMono.rf σ
    · cases h1
  | new n => cases h1; exact ⟨Nat.le_succ _, Nat.le_add_right _ _, rfl, rfl⟩
  | newarray aty =>
    replace h1 : zNa x pc L S σ = some q := h1
    unfold zNa at h1
    split at h1 <;> first | (split at h1 <;> cases h1; exact ⟨Nat.le_succ _, Nat.le_add_right _ _, rfl, rfl⟩) | cases h1
  | anewarray k =>
    replace h1 : zAna x pc L S σ = some q := h1
    unfold zAna at h1
    split at h1 <;> first | (split at h1 <;> cases h1; exact ⟨Nat.le_succ _, Nat.le_add_right _ _, rfl, rfl⟩) | cases h1
  | multianewarray idx dims =>
    replace h1 : zMna pc L S σ = some q := h1
    unfold zMna at h1
    split at h1
    · rename_i k n r
      split at h1
      · cases h1
        exact ⟨show znx σ ≤ znx σ + 1 + n.toNatClampNeg by omega, show zsl σ ≤ zsl σ + n.toNatClampNeg + n.toNatClampNeg * k.toNatClampNeg by omega, rfl, rfl⟩
      · cases h1
    · cases h1
  | checkcast n =>
    replace h1 : zCk x pc L S σ = some q := h1
    unfold zCk at h1
    split at h1 <;> first | (split at h1 <;> cases h1; exact zMono.rf σ) | cases h1
  | invokestatic n =>
    replace h1 : (if y = 6 then zCpy pc L S σ else if y = 8 then zMm true pc L S σ else if y = 9 then zMm false pc L S σ else none) = some q := h1
    split at h1
    · unfold zCpy at h1
      split at h1 <;> first | (split at h1 <;> cases h1; exact ⟨Nat.le_refl _, Nat.le_refl _, rfl, rfl⟩) | cases h1
    · split at h1
      · unfold zMm at h1
        split at h1 <;> first | (split at h1 <;> cases h1; exact zMono.rf σ) | cases h1
      · split at h1
        · unfold zMm at h1
          split at h1 <;> first | (split at h1 <;> cases h1; exact zMono.rf σ) | cases h1
        · cases h1
  | invokevirtual n =>
    replace h1 : (if y = 7 then zGc pc L S σ else none) = some q := h1
    split at h1
    · unfold zGc at h1
      split at h1 <;> first | (split at h1 <;> cases h1; exact zMono.rf σ) | cases h1
    · cases h1
  | invokespecial n =>
    replace h1 : (if y = 5 then zOi pc L S σ else none) = some q := h1
    split at h1
    · unfold zOi at h1
      split at h1 <;> first | (split at h1 <;> cases h1; exact zMono.rf σ) | cases h1
    · cases h1
  | _ => first | (cases h1; exact zMono.rf σ) | cases h1
theorem zRet_spec {i : Instr} {ret : Option FieldType} {S : List Value} {σ : zSt} {u : Option Value × zSt} (h : zRet i ret S σ = some u) : u.2 = σ ∧ S = u.1.toList := by
  unfold zRet at h
  split at h
  · split at h <;> cases h
    exact ⟨rfl, rfl⟩
  · split at h <;> cases h
    exact ⟨rfl, rfl⟩
  · split at h <;> cases h <;> exact ⟨rfl, rfl⟩
  · split at h <;> cases h
    exact ⟨rfl, rfl⟩
  · cases h
theorem zRun_mono : ∀ (n m pc : Nat) (L : List (Option Value)) (S : List Value) (σ : zSt) (u : Option Value × zSt), zRun n m pc L S σ = some u → zMono σ u.2
  | 0, _, _, _, _, _, _, h => by cases h
  | n + 1, m, pc, L, S, σ, u, h => by
    unfold zRun at h
    split at h
    · cases h
    · split at h
      · split at h
        · cases h
        · rename_i q hq
          exact (z1_mono hq).tr (zRun_mono n _ _ _ _ _ _ h)
      · split at h
        · cases h
        · split at h
          · split at h
            · cases h
            · rename_i q hq hw u1 hu1
              exact (zRun_mono n _ _ _ _ _ _ hu1).tr (zRun_mono n _ _ _ _ _ _ h)
          · cases h
      · rw [(zRet_spec h).1]; exact zMono.rf σ
def gB (G : zG) (lo : Nat) (σ : zSt) (U : State) : Prop := U.heap.size = znx σ ∧ lo ≤ U.heap.size ∧ gRep G lo U σ U.heap ∧ gK G U ∧ gS lo (ze0 σ) (zmi σ) U
def gQ (G : zG) (lo : Nat) (r : Option Value) (σ' : zSt) : Array Value → State → Outcome → State → Prop := fun _ st oc t => oc = .returned r ∧ t.heap.size = znx σ' ∧ gRep G lo t σ' t.heap ∧ va_F (fun q => lo ≤ q) st t
def wsM (M : Nat) : List Cond := .code (mY M) (mB M) (mL M) (mR M) :: bigW
section ZR
variable {p : Program} {l : Launch} {e : Env} {R : Room} {s : State} {m : MethodId} {args : Array Value} {below : List Frame} {meth : Method} {c : Code} {H : Heap} {locs : List Loc} {cells slots : Nat} {Q : State → Prop}
variable {ls : Array Slot} {G : zG} {lo M pc : Nat} {σ σ' : zSt} {r : Option Value} {rest st0 : List Value} {a : Array Value}
theorem g_call {mc ms : Nat} (hr : va_Run p l e R s m args below meth c H locs cells slots mc ms (F0 m pc ls st0) rest (gQ G lo r σ' a) (fun q => lo ≤ q)) (hS : va_S (fun q => lo ≤ q) s.heap H locs)
    (kk : ∀ (H1 : Heap) (locs1 : List Loc), H1.size = znx σ' → gRep G lo s σ' H1 → va_S (fun q => lo ≤ q) s.heap H1 locs1 → W p l e R s m args below meth c H1 locs1 (cells + mc) (slots + ms) Q (F0 m (pc + 3) ls (r.toList ++ rest))) : W p l e R s m args below meth c H locs cells slots Q (F0 m pc ls st0) := by
  intro T hT X
  obtain ⟨v, st₀, t, T', L, h0, X', hL, e1, e2, ⟨hv, hsz, hG, hz, hk⟩, st⟩ := hr T hT X
  cases hv
  rw [h0] at hz hk
  have hal : t.vm.Alike s.vm := by rw [← e2]; exact X'.warmed.alike.symm
  obtain ⟨t2, a1, b1⟩ := kk T'.heap (locs ++ L) (by rw [e1]; exact hsz) (by rw [e1]; exact hG.moved hal)
    ⟨Nat.le_trans hS.1 (by rw [e1]; exact hz), fun q h1 h2 => by rw [e1, hk q (Nat.lt_of_lt_of_le h1 hS.1) h2]; exact hS.2.1 q h1 h2, fun q hq => by
      rcases List.mem_append.mp hq with h | h
      · exact hS.2.2 q h
      · exact hL q h⟩ T' rfl X'
  exact ⟨t2, st t2 a1, b1⟩
theorem gB.calling {U : State} {g : JFrame} {mk : MethodId} {a : Array Value} (h : gB G lo σ U) : gB G lo σ (U.calling g mk a) :=
  ⟨h.1, h.2.1, h.2.2.1.moved (u := U) (U := U.calling g mk a) (Vm.Alike.refl U.vm), h.2.2.2.1.moved (u := U) (U := U.calling g mk a) (Vm.Alike.refl U.vm), h.2.2.2.2.to (s := U) (U := U.calling g mk a) (locs := []) rfl va_S.rf (State.WarmedH.refl U)⟩
theorem gB.blind {av : List Value} : FrameBlind (va_Pc av (gB G lo σ)) := fun _ _ _ _ h => ⟨h.1, h.2.calling⟩
theorem gB.pre {U : State} (hK : gK G s) (hgS : gS lo (ze0 σ) (zmi σ) s) (hlo : lo ≤ s.heap.size) (hsz : H.size = znx σ) (hG : gRep G lo s σ H) (hS : va_S (fun q => lo ≤ q) s.heap H locs) (hU : U.heap = H) (hW : s.WarmedH U.vm) : gB G lo σ U :=
  ⟨by rw [hU]; exact hsz, by rw [hU]; exact Nat.le_trans hlo hS.1, by rw [hU]; exact hG.moved hW.alike, hK.moved hW.alike, hgS.to hU hS hW⟩
end ZR
theorem wsM_in {x : Nat} (h : x < 204) : ∀ w ∈ wsM x, w ∈ bigW := fun w hw => by
  rcases List.mem_cons.mp hw with rfl | hw
  · exact (mW h).1
  · exact hw
theorem zCa_spec {x y n : Nat} {S : List Value} {σ : zSt} {u : List Value × List Value} (h : zCa x y n S σ = some u) : ((y = 1 ∨ y = 4) ∧ S = u.1.reverse ++ u.2 ∧ u.1.length = n) ∨ (¬ (y = 1 ∨ y = 4) ∧ ∃ b As, u.1 = .ref b :: As ∧ S = As.reverse ++ .ref b :: u.2 ∧ As.length = n ∧ (y = 0 → (ztg σ b).1 = 1 ∧ (ztg σ b).2.1 = mC x)) := by
  unfold zCa at h
  split at h
  · rename_i hn
    split at h
    · rename_i hy
      cases h
      refine Or.inl ⟨hy, ?_, ?_⟩
      · show S = (S.take n).reverse.reverse ++ S.drop n
        rw [List.reverse_reverse, List.take_append_drop]
      · show (S.take n).reverse.length = n
        rw [List.length_reverse, List.length_take]
        omega
    · rename_i hy
      split at h
      · rename_i b r hd
        split at h
        · rename_i ht
          cases h
          refine Or.inr ⟨hy, b, (S.take n).reverse, rfl, ?_, ?_, ht⟩
          · rw [List.reverse_reverse]
            show S = S.take n ++ Value.ref b :: r
            rw [← hd, List.take_append_drop]
          · rw [List.length_reverse, List.length_take]
            omega
        · cases h
      · cases h
  · cases h
