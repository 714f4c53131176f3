/-! ONE INSTRUCTION of any kind, but calls and returns: what the machine over fields does, the JVM does -/
section ZO
variable {p : Program} {l : Launch} {e : Env} {R : Room} {s : State} {m : MethodId} {args : Array Value} {below : List Frame} {meth : Method} {c : Code} {H : Heap} {locs : List Loc} {Q : State → Prop}
variable {ls : Array Slot} {G : zG} {lo M pc x y nx0 sl0 : Nat} {z : Int} {L : List (Option Value)} {S : List Value} {σ : zSt} {q : zC} {i : Instr}
theorem o_ld (hexec : p.tables.exec = Jvm.exec) (hb : c.code = mB M) (hl : zLH ls (mL M) L) {f : Value → Bool} {k len : Nat} (h1 : zLd f k (pc + len) L S σ = some q) {cells slots : Nat}
    (row : ∀ v, f v = true → ls[k]? = some (Slot.val v) → W p l e R s m args below meth c H locs cells slots Q (F0 m (pc + len) ls (v :: S)) → W p l e R s m args below meth c H locs cells slots Q (F0 m pc ls S))
    (kk : W p l e R s m args below meth c H locs cells slots Q (F0 m q.1 ls q.2.2.1)) : W p l e R s m args below meth c H locs cells slots Q (F0 m pc ls S) := by
  obtain ⟨v, h2, h3, rfl⟩ := zLd_spec h1
  exact row v h3 (hl.at h2) kk
theorem o_if (hexec : p.tables.exec = Jvm.exec) (hb : c.code = mB M) {f : Int32 → Bool} {P : Int32 → Prop} {off : Int} (hf : ∀ v, f v = true ↔ P v) (h1 : zIf f pc off L S σ = some q) {cells slots : Nat}
    (row : ∀ (v : Int32) (r : List Value) (t : Nat), (pc : Int) + off = (t : Int) → (P v → W p l e R s m args below meth c H locs cells slots Q (F0 m t ls r)) → (¬ P v → W p l e R s m args below meth c H locs cells slots Q (F0 m (pc + 3) ls r)) → W p l e R s m args below meth c H locs cells slots Q (F0 m pc ls (.int v :: r)))
    (ht0 : ∃ t : Nat, (pc : Int) + off = (t : Int))
    (kk : W p l e R s m args below meth c H locs cells slots Q (F0 m q.1 ls q.2.2.1)) : W p l e R s m args below meth c H locs cells slots Q (F0 m pc ls S) := by
  obtain ⟨v, r, rfl, h2⟩ := zIf_spec h1
  rcases zGo_spec h2 with ⟨h3, t, h4, rfl⟩ | ⟨h3, rfl⟩
  · exact row v r t h4 (fun _ => kk) (fun h => absurd ((hf v).mp h3) h)
  · obtain ⟨t, h4⟩ := ht0
    exact row v r t h4 (fun h => by rw [(hf v).mpr h] at h3; cases h3) (fun _ => kk)
theorem o_ic (hexec : p.tables.exec = Jvm.exec) (hb : c.code = mB M) {f : Int32 → Int32 → Bool} {P : Int32 → Int32 → Prop} {off : Int} (hf : ∀ v w, f v w = true ↔ P v w) (h1 : zIc f pc off L S σ = some q) {cells slots : Nat}
    (row : ∀ (v w : Int32) (r : List Value) (t : Nat), (pc : Int) + off = (t : Int) → (P v w → W p l e R s m args below meth c H locs cells slots Q (F0 m t ls r)) → (¬ P v w → W p l e R s m args below meth c H locs cells slots Q (F0 m (pc + 3) ls r)) → W p l e R s m args below meth c H locs cells slots Q (F0 m pc ls (.int w :: .int v :: r)))
    (ht0 : ∃ t : Nat, (pc : Int) + off = (t : Int))
    (kk : W p l e R s m args below meth c H locs cells slots Q (F0 m q.1 ls q.2.2.1)) : W p l e R s m args below meth c H locs cells slots Q (F0 m pc ls S) := by
  obtain ⟨v, w, r, rfl, h2⟩ := zIc_spec h1
  rcases zGo_spec h2 with ⟨h3, t, h4, rfl⟩ | ⟨h3, rfl⟩
  · exact row v w r t h4 (fun _ => kk) (fun h => absurd ((hf v w).mp h3) h)
  · obtain ⟨t, h4⟩ := ht0
    exact row v w r t h4 (fun h => by rw [(hf v w).mpr h] at h3; cases h3) (fun _ => kk)
/-- the offsets of jumps stay in the method -/
def zOff (e : zE) : Bool :=
  match e with
  | (pc, .ifCond _ off, _) | (pc, .if_icmp _ off, _) | (pc, .if_acmp _ off, _) => decide (0 ≤ (pc : Int) + off)
  | _ => true
set_option maxRecDepth 100000 in
theorem zOff_ok : ∀ t ∈ zT, t.2.2.2.2.2.2.2.all zOff = true := by decide +kernel
theorem zOff_at {r : Instr × Nat × Nat × Int} (h : zcode M pc = some r) : zOff (pc, r) = true :=
  List.all_eq_true.mp (zOff_ok _ (mE_mem h)) _ (zFind_mem h)
def zDims (e : zE) : Bool :=
  match e with
  | (_, .multianewarray _ d, _) => d == 2
  | _ => true
set_option maxRecDepth 100000 in
theorem zDims_ok : ∀ t ∈ zT, t.2.2.2.2.2.2.2.all zDims = true := by decide +kernel
theorem zDims_at {r : Instr × Nat × Nat × Int} (h : zcode M pc = some r) : zDims (pc, r) = true :=
  List.all_eq_true.mp (zDims_ok _ (mE_mem h)) _ (zFind_mem h)
theorem off_t {off : Int} (h : decide (0 ≤ (pc : Int) + off) = true) : ∃ t : Nat, (pc : Int) + off = (t : Int) := ⟨((pc : Int) + off).toNat, by have := of_decide_eq_true h; omega⟩
set_option maxHeartbeats 4000000 in
theorem z1_sound (C : zCtx p s m args meth c G lo M (ze0 σ) (zmi σ)) (hc : zcode M pc = some (i, x, y, z)) (h1 : z1 i x y z (mL M) pc L S σ = some q) (hsz : H.size = znx σ) (hG : gRep G lo s σ H) (hS : va_S (fun q => lo ≤ q) s.heap H locs) (hl : zLH ls (mL M) L) (hfr : mDep M ≤ R.frames) (hlo : mLoc M ≤ R.locals)
    (hn0 : nx0 ≤ znx σ) (hs0 : sl0 ≤ zsl σ) (hcR : znx q.2.2.2 - nx0 ≤ R.cells) (hsR : zsl q.2.2.2 - sl0 ≤ R.slots)
    (kk : ∀ (H1 : Heap) (locs1 : List Loc) (ls1 : Array Slot), H1.size = znx q.2.2.2 → gRep G lo s q.2.2.2 H1 → va_S (fun q => lo ≤ q) s.heap H1 locs1 → zLH ls1 (mL M) q.2.1 → W p l e R s m args below meth c H1 locs1 (znx q.2.2.2 - nx0) (zsl q.2.2.2 - sl0) Q (F0 m q.1 ls1 q.2.2.1)) : W p l e R s m args below meth c H locs (znx σ - nx0) (zsl σ - sl0) Q (F0 m pc ls S) := by
  obtain ⟨hx, hb, hml, hown, hts, hname, hK, hgS, hlo0⟩ := C
  have hd := zcode_dec hc
  have ok := zcode_ok hc
  have put := zPut_at hc
  have hoff := zOff_at hc
  have hml' : c.maxLocals = ls.size := hml.trans hl.1.symm
  cases i with
  | iconst n => cases h1; exact lv_iconst hx hb hd rfl (kk H locs ls hsz hG hS hl)
  | bipush n => cases h1; exact lv_bipush hx hb hd rfl (kk H locs ls hsz hG hS hl)
  | sipush n => cases h1; exact lv_sipush hx hb hd rfl (kk H locs ls hsz hG hS hl)
  | aconst_null => cases h1; exact lv_null hx hb hd (kk H locs ls hsz hG hS hl)
  | lconst n => cases h1; exact lv_lconst hx hb hd rfl (kk H locs ls hsz hG hS hl)
  | ldc n =>
    replace h1 : (if x = 0 then some (pc + 2, L, Value.int (Int32.ofInt z) :: S, σ) else some (pc + 2, L, Value.ref (zmi σ) :: S, σ)) = some q := h1
    have ok : (if x = 0 then zPK.any (fun q => q.1 == mC M && q.2.1 == n && q.2.2 == z) else mC M == 16 && n == 110) = true := ok
    by_cases hx0 : x = 0
    · rw [if_pos hx0] at h1 ok
      cases h1
      obtain ⟨w, hw, h⟩ := any_mem ok
      simp only [Bool.and_eq_true, beq_iff_eq] at h
      have h2 := pk_ok w hw
      unfold pkOk at h2
      rw [h.1.1, h.1.2, h.2] at h2
      exact lv_ldc hx hb hown (hts _ h2) hd (kk H locs ls hsz hG hS hl)
    · rw [if_neg hx0] at h1 ok
      cases h1
      simp only [Bool.and_eq_true, beq_iff_eq] at ok
      have hown2 := hown
      rw [ok.1] at hown2
      have h2 := hts _ w_ldcM
      rw [← ok.2] at h2
      exact va_ldcM hx hb hown2 h2 hgS.2.1 hd (kk H locs ls hsz hG hS hl)
  | ldc2_w n =>
    cases h1
    obtain ⟨w, hw, h⟩ := any_mem (show zPL.any (fun q => q.1 == mC M && q.2.1 == n && q.2.2 == z) = true from ok)
    simp only [Bool.and_eq_true, beq_iff_eq] at h
    have h2 := pl_ok w hw
    unfold plOk at h2
    rw [h.1.1, h.1.2, h.2] at h2
    exact lv_ldc2 hx hb hown (hts _ h2) hd (kk H locs ls hsz hG hS hl)
  | iload k => exact o_ld hx hb hl h1 (fun v hv ha k2 => by obtain ⟨w, rfl⟩ := zisI_of hv; exact lv_iload hx hb hd ha k2) (by obtain ⟨v, -, -, rfl⟩ := zLd_spec h1; exact kk H locs ls hsz hG hS hl)
  | iload_n k => exact o_ld hx hb hl h1 (fun v hv ha k2 => by obtain ⟨w, rfl⟩ := zisI_of hv; exact lv_iload_n hx hb hd rfl ha k2) (by obtain ⟨v, -, -, rfl⟩ := zLd_spec h1; exact kk H locs ls hsz hG hS hl)
  | lload k => exact o_ld hx hb hl h1 (fun v hv ha k2 => by obtain ⟨w, rfl⟩ := zisL_of hv; exact lv_lload hx hb hd ha k2) (by obtain ⟨v, -, -, rfl⟩ := zLd_spec h1; exact kk H locs ls hsz hG hS hl)
  | lload_n k => exact o_ld hx hb hl h1 (fun v hv ha k2 => by obtain ⟨w, rfl⟩ := zisL_of hv; exact lv_lload_n hx hb hd rfl ha k2) (by obtain ⟨v, -, -, rfl⟩ := zLd_spec h1; exact kk H locs ls hsz hG hS hl)
  | aload k => exact o_ld hx hb hl h1 (fun v hv ha k2 => by obtain ⟨w, rfl⟩ := zisA_of hv; exact lv_aload hx hb hd ha k2) (by obtain ⟨v, -, -, rfl⟩ := zLd_spec h1; exact kk H locs ls hsz hG hS hl)
  | aload_n k => exact o_ld hx hb hl h1 (fun v hv ha k2 => by obtain ⟨w, rfl⟩ := zisA_of hv; exact lv_aload_n hx hb hd rfl ha k2) (by obtain ⟨v, -, -, rfl⟩ := zLd_spec h1; exact kk H locs ls hsz hG hS hl)
  | istore k =>
    obtain ⟨v, r, rfl, h2, h3, h4, rfl⟩ := zSto_spec h1
    obtain ⟨w, rfl⟩ := zisI_of h2
    exact lv_istore hx hb hd hl.has h3 rfl (fun ls1 g => kk H locs ls1 hsz hG hS (zLH.set1 h4 g))
  | istore_n k =>
    obtain ⟨v, r, rfl, h2, h3, h4, rfl⟩ := zSto_spec h1
    obtain ⟨w, rfl⟩ := zisI_of h2
    exact lv_istore_n hx hb hd rfl hl.has h3 rfl (fun ls1 g => kk H locs ls1 hsz hG hS (zLH.set1 h4 g))
  | astore k =>
    obtain ⟨v, r, rfl, h2, h3, h4, rfl⟩ := zSto_spec h1
    obtain ⟨w, rfl⟩ := zisA_of h2
    exact lv_astore hx hb hd hl.has h3 rfl (fun ls1 g => kk H locs ls1 hsz hG hS (zLH.set1 h4 g))
  | astore_n k =>
    obtain ⟨v, r, rfl, h2, h3, h4, rfl⟩ := zSto_spec h1
    obtain ⟨w, rfl⟩ := zisA_of h2
    exact lv_astore_n hx hb hd rfl hl.has h3 rfl (fun ls1 g => kk H locs ls1 hsz hG hS (zLH.set1 h4 g))
  | lstore k =>
    obtain ⟨v, r, rfl, h3, h4, rfl⟩ := zStoL_spec h1
    exact lv_lstore hx hb hd hl.has h3 rfl (fun ls1 g => kk H locs ls1 hsz hG hS (zLH.set2 h4 g))
  | lstore_n k =>
    obtain ⟨v, r, rfl, h3, h4, rfl⟩ := zStoL_spec h1
    exact lv_lstore_n hx hb hd rfl hl.has h3 rfl (fun ls1 g => kk H locs ls1 hsz hG hS (zLH.set2 h4 g))
  | iinc k n =>
    obtain ⟨v, h2, h3, h4, rfl⟩ := zInc_spec h1
    obtain ⟨j, hj⟩ := List.getElem?_of_mem (zPr_mem.mpr ⟨Nat.zero_le _, h2⟩ : (k, Value.int v) ∈ zPr 0 L)
    exact lv_iinc (v := v + Int32.ofInt n) hx hb hd hl.has (k := j) hj rfl h3 rfl (fun ls1 g => kk H locs ls1 hsz hG hS (zLH.set1 h4 g))
  | iadd => obtain ⟨v, w, u, r, rfl, h2, rfl⟩ := zBI_spec (show zBI (fun a b => some (a + b)) pc L S σ = some q from h1); cases h2; exact lv_iadd hx hb hd (kk H locs ls hsz hG hS hl)
  | isub => obtain ⟨v, w, u, r, rfl, h2, rfl⟩ := zBI_spec (show zBI (fun a b => some (a - b)) pc L S σ = some q from h1); cases h2; exact lv_isub hx hb hd (kk H locs ls hsz hG hS hl)
  | imul => obtain ⟨v, w, u, r, rfl, h2, rfl⟩ := zBI_spec (show zBI (fun a b => some (a * b)) pc L S σ = some q from h1); cases h2; exact lv_imul hx hb hd (kk H locs ls hsz hG hS hl)
  | iand => obtain ⟨v, w, u, r, rfl, h2, rfl⟩ := zBI_spec (show zBI (fun a b => some (a &&& b)) pc L S σ = some q from h1); cases h2; exact lv_iand hx hb hd (kk H locs ls hsz hG hS hl)
  | ixor => obtain ⟨v, w, u, r, rfl, h2, rfl⟩ := zBI_spec (show zBI (fun a b => some (a ^^^ b)) pc L S σ = some q from h1); cases h2; exact lv_ixor hx hb hd (kk H locs ls hsz hG hS hl)
  | ishr => obtain ⟨v, w, u, r, rfl, h2, rfl⟩ := zBI_spec (show zBI (fun a b => some (a >>> (b &&& 31))) pc L S σ = some q from h1); cases h2; exact lv_ishr hx hb hd (kk H locs ls hsz hG hS hl)
  | idiv =>
    obtain ⟨v, w, u, r, rfl, h2, rfl⟩ := zBI_spec h1
    unfold zDiv at h2
    split at h2
    · cases h2
    · rename_i hne
      cases h2; exact lv_idiv hx hb hd hne (kk H locs ls hsz hG hS hl)
  | irem =>
    obtain ⟨v, w, u, r, rfl, h2, rfl⟩ := zBI_spec h1
    unfold zDiv at h2
    split at h2
    · cases h2
    · rename_i hne
      cases h2; exact lv_irem hx hb hd hne (kk H locs ls hsz hG hS hl)
  | ladd => obtain ⟨v, w, r, rfl, rfl⟩ := zBL_spec h1; exact lv_ladd hx hb hd (kk H locs ls hsz hG hS hl)
  | lsub => obtain ⟨v, w, r, rfl, rfl⟩ := zBL_spec h1; exact lv_lsub hx hb hd (kk H locs ls hsz hG hS hl)
  | lmul => obtain ⟨v, w, r, rfl, rfl⟩ := zBL_spec h1; exact lv_lmul hx hb hd (kk H locs ls hsz hG hS hl)
  | land => obtain ⟨v, w, r, rfl, rfl⟩ := zBL_spec h1; exact lv_land hx hb hd (kk H locs ls hsz hG hS hl)
  | lor => obtain ⟨v, w, r, rfl, rfl⟩ := zBL_spec h1; exact lv_lor hx hb hd (kk H locs ls hsz hG hS hl)
  | lxor => obtain ⟨v, w, r, rfl, rfl⟩ := zBL_spec h1; exact lv_lxor hx hb hd (kk H locs ls hsz hG hS hl)
  | lcmp => obtain ⟨v, w, r, rfl, rfl⟩ := zBL_spec h1; exact W.lcmp hx hb hd (kk H locs ls hsz hG hS hl)
  | lshl => obtain ⟨v, w, r, rfl, rfl⟩ := zSL_spec h1; exact lv_lshl hx hb hd rfl (kk H locs ls hsz hG hS hl)
  | lshr => obtain ⟨v, w, r, rfl, rfl⟩ := zSL_spec h1; exact lv_lshr hx hb hd rfl (kk H locs ls hsz hG hS hl)
  | lushr => obtain ⟨v, w, r, rfl, rfl⟩ := zSL_spec h1; exact lv_lushr hx hb hd rfl (kk H locs ls hsz hG hS hl)
  | i2l =>
    unfold z1 at h1
    dsimp only at h1
    split at h1
    · cases h1; exact lv_i2l hx hb hd rfl (kk H locs ls hsz hG hS hl)
    · cases h1
  | l2i =>
    unfold z1 at h1
    dsimp only at h1
    split at h1
    · cases h1; exact lv_l2i hx hb hd rfl (kk H locs ls hsz hG hS hl)
    · cases h1
  | ifCond cnd off =>
    have ht0 := off_t (show decide (0 ≤ (pc : Int) + off) = true from hoff)
    have k2 : W p l e R s m args below meth c H locs (znx σ - nx0) (zsl σ - sl0) Q (F0 m q.1 ls q.2.2.1) := by
      cases cnd <;> (obtain ⟨v, r, rfl, h2⟩ := zIf_spec h1; rcases zGo_spec h2 with ⟨h3, t, h4, rfl⟩ | ⟨h3, rfl⟩ <;> exact kk H locs ls hsz hG hS hl)
    cases cnd with
    | eq => exact o_if hx hb (P := fun a => a = 0) (fun v => by simp) h1 (fun v r t h4 ka kb => lv_if_eq hx hb hd h4 ka kb) ht0 k2
    | ne => exact o_if hx hb (P := fun a => ¬ a = 0) (fun v => by simp) h1 (fun v r t h4 ka kb => lv_if_ne hx hb hd h4 ka (fun h => kb (fun g => g h))) ht0 k2
    | lt => exact o_if hx hb (P := fun a => a < 0) (fun v => by simp) h1 (fun v r t h4 ka kb => lv_if_lt hx hb hd h4 ka kb) ht0 k2
    | ge => exact o_if hx hb (P := fun a => 0 ≤ a) (fun v => by simp) h1 (fun v r t h4 ka kb => lv_if_ge hx hb hd h4 ka kb) ht0 k2
    | gt => exact o_if hx hb (P := fun a => 0 < a) (fun v => by simp) h1 (fun v r t h4 ka kb => lv_if_gt hx hb hd h4 ka kb) ht0 k2
    | le => exact o_if hx hb (P := fun a => a ≤ 0) (fun v => by simp) h1 (fun v r t h4 ka kb => lv_if_le hx hb hd h4 ka kb) ht0 k2
  | if_icmp cnd off =>
    have ht0 := off_t (show decide (0 ≤ (pc : Int) + off) = true from hoff)
    have k2 : W p l e R s m args below meth c H locs (znx σ - nx0) (zsl σ - sl0) Q (F0 m q.1 ls q.2.2.1) := by
      cases cnd <;> (obtain ⟨v, w, r, rfl, h2⟩ := zIc_spec h1; rcases zGo_spec h2 with ⟨h3, t, h4, rfl⟩ | ⟨h3, rfl⟩ <;> exact kk H locs ls hsz hG hS hl)
    cases cnd with
    | eq => exact o_ic hx hb (P := fun a b => a = b) (fun v w => by simp) h1 (fun v w r t h4 ka kb => lv_icmp_eq hx hb hd h4 ka kb) ht0 k2
    | ne => exact o_ic hx hb (P := fun a b => ¬ a = b) (fun v w => by simp) h1 (fun v w r t h4 ka kb => lv_icmp_ne hx hb hd h4 ka (fun h => kb (fun g => g h))) ht0 k2
    | lt => exact o_ic hx hb (P := fun a b => a < b) (fun v w => by simp) h1 (fun v w r t h4 ka kb => lv_icmp_lt hx hb hd h4 ka kb) ht0 k2
    | ge => exact o_ic hx hb (P := fun a b => b ≤ a) (fun v w => by simp) h1 (fun v w r t h4 ka kb => lv_icmp_ge hx hb hd h4 ka kb) ht0 k2
    | gt => exact o_ic hx hb (P := fun a b => b < a) (fun v w => by simp) h1 (fun v w r t h4 ka kb => lv_icmp_gt hx hb hd h4 ka kb) ht0 k2
    | le => exact o_ic hx hb (P := fun a b => a ≤ b) (fun v w => by simp) h1 (fun v w r t h4 ka kb => lv_icmp_le hx hb hd h4 ka kb) ht0 k2
  | if_acmp cnd off =>
    have ht0 := off_t (show decide (0 ≤ (pc : Int) + off) = true from hoff)
    obtain ⟨t0, ht0⟩ := ht0
    cases cnd with
    | eq =>
      obtain ⟨v, w, r, rfl, h2⟩ := zAc_spec h1
      rcases zGo_spec h2 with ⟨h3, t, h4, rfl⟩ | ⟨h3, rfl⟩
      · exact lv_acmp_eq (rx := some v) (ry := some w) hx hb hd h4 (fun _ => kk H locs ls hsz hG hS hl) (fun h => by simp at h3; exact absurd (congrArg some h3) h)
      · exact lv_acmp_eq (rx := some v) (ry := some w) hx hb hd ht0 (fun h => by cases h; simp at h3) (fun _ => kk H locs ls hsz hG hS hl)
    | ne =>
      obtain ⟨v, w, r, rfl, h2⟩ := zAc_spec h1
      rcases zGo_spec h2 with ⟨h3, t, h4, rfl⟩ | ⟨h3, rfl⟩
      · exact lv_acmp_ne (rx := some v) (ry := some w) hx hb hd h4 (fun _ => kk H locs ls hsz hG hS hl) (fun h => by cases h; simp at h3)
      · exact lv_acmp_ne (rx := some v) (ry := some w) hx hb hd ht0 (fun h => by simp at h3; exact absurd (congrArg some h3) h) (fun _ => kk H locs ls hsz hG hS hl)
  | goto off =>
    unfold z1 at h1
    dsimp only at h1
    split at h1
    · rename_i t ht
      cases h1; exact lv_goto hx hb hd (zJ_spec ht) (kk H locs ls hsz hG hS hl)
    · cases h1
  | tableswitch d lo9 hi offs =>
    replace h1 : zSw d lo9 hi offs pc L S σ = some q := h1
    unfold zSw at h1
    split at h1
    · rename_i v r
      split at h1
      · rename_i hout
        split at h1
        · rename_i t ht
          cases h1; exact lv_tableOut hx hb hd hout (zJ_spec ht) (kk H locs ls hsz hG hS hl)
        · cases h1
      · rename_i hout
        split at h1
        · rename_i off hoff9
          split at h1
          · rename_i t ht
            cases h1; exact lv_tableIn hx hb hd (fun g => hout (Or.inl g)) (fun g => hout (Or.inr g)) hoff9 (zJ_spec ht) (kk H locs ls hsz hG hS hl)
          · cases h1
        · cases h1
    · cases h1
  | dup =>
    replace h1 : zDup pc L S σ = some q := h1
    unfold zDup at h1
    split at h1
    · split at h1
      · rename_i hv
        cases h1; exact lv_dup hx hb hd hv (kk H locs ls hsz hG hS hl)
      · cases h1
    · cases h1
  | pop =>
    replace h1 : zPop pc L S σ = some q := h1
    unfold zPop at h1
    split at h1
    · split at h1
      · rename_i hv
        cases h1; exact lv_pop hx hb hd hv (kk H locs ls hsz hG hS hl)
      · cases h1
    · cases h1
  | dup_x1 =>
    replace h1 : zDupx pc L S σ = some q := h1
    unfold zDupx at h1
    split at h1
    · split at h1
      · rename_i hv
        cases h1; exact lv_dup_x1 hx hb hd hv.1 hv.2 (kk H locs ls hsz hG hS hl)
      · cases h1
    · cases h1
  | dup2 =>
    replace h1 : zDup2 pc L S σ = some q := h1
    unfold zDup2 at h1
    split at h1
    · split at h1
      · rename_i hv
        cases h1; exact lv_dup2_11 hx hb hd hv.1 hv.2 (kk H locs ls hsz hG hS hl)
      · cases h1
    · cases h1
  | getfield n =>
    replace h1 : zGet x y pc L S σ = some q := h1
    unfold zGet at h1
    split at h1
    · split at h1
      · rename_i ht
        split at h1
        · rename_i v hv
          cases h1
          have hv2 := zgv_val hv
          obtain ⟨ref, g1, g2, g3, g4⟩ := fld_ok (show zPF.any (fun q => q.1 == mC M && q.2.1 == n && q.2.2.1 == x && q.2.2.2.1 == y) = true from ok)
          refine s_get hx hb hts hown hK hG g3 (hts _ g1) (fun w hw => ?_) ht hd (by rw [hv2]; exact kk H locs ls hsz hG hS hl)
          rcases g4 with rfl | g4
          · exact hw
          · exact u_same (hts _ g4) w hw
        · cases h1
      · cases h1
    · cases h1
  | putfield n =>
    replace h1 : zPutf x y pc L S σ = some q := h1
    unfold zPutf at h1
    split at h1
    · split at h1
      · rename_i ht
        split at h1
        · rename_i σ1 hp
          cases h1
          obtain ⟨ref, g1, g2, g3, g4⟩ := fld_ok (show zPF.any (fun q => q.1 == mC M && q.2.1 == n && q.2.2.1 == x && q.2.2.2.1 == y) = true from ok)
          obtain ⟨f1, f2, f3, f4, f5, f6, f7, f8, -, -⟩ := zPv_spec g2 g3 hp
          have put := of_decide_eq_true (show decide (((cRow x).2.1 y).2.2.2 = false ∨ (((cRow x).2.1 y).2.2.2 = true ∧ ((cRow x).2.1 y).1 = cNm (mC M) ∧ (mY M).name = "<init>")) = true from put)
          refine s_put hx hb hts hown hK hG hS g3 (hts _ g1) (fun w hw => ?_) ?_ ht f1 f2 f3 f4 f5 f6 hd (fun H1 locs1 k1 k2 k3 => ?_)
          · rcases g4 with rfl | g4
            · exact hw
            · exact u_same (hts _ g4) w hw
          · rcases put with h | ⟨h, h2, h3⟩
            · exact Or.inl h
            · exact Or.inr ⟨h, h2, hname h3⟩
          · have := kk H1 locs1 ls (by rw [k1, hsz]; exact f7.symm) k2 k3 hl
            dsimp only at this
            rw [f7, f8] at this
            exact this
        · cases h1
      · cases h1
    · cases h1
  | iaload =>
    replace h1 : zIld .int pc L S σ = some q := h1
    unfold zIld at h1
    split at h1
    · split at h1
      · rename_i ht
        cases h1; exact s_ild (z := false) hx hb hK hG ht.1 ht.2.1 ht.2.2 hd (kk H locs ls hsz hG hS hl)
      · cases h1
    · cases h1
  | baload =>
    replace h1 : zIld .boolean pc L S σ = some q := h1
    unfold zIld at h1
    split at h1
    · split at h1
      · rename_i ht
        cases h1; exact s_ild (z := true) hx hb hK hG ht.1 ht.2.1 ht.2.2 hd (kk H locs ls hsz hG hS hl)
      · cases h1
    · cases h1
  | iastore =>
    replace h1 : zIst .int pc L S σ = some q := h1
    unfold zIst at h1
    split at h1
    · split at h1
      · rename_i ht
        cases h1; exact s_ist (z := false) hx hb hK hG hS ht.1 ht.2.1 ht.2.2.1 (fun h => by cases h) hd (fun H1 locs1 k1 k2 k3 => kk H1 locs1 ls (k1.trans hsz) k2 k3 hl)
      · cases h1
    · cases h1
  | bastore =>
    replace h1 : zIst .boolean pc L S σ = some q := h1
    unfold zIst at h1
    split at h1
    · split at h1
      · rename_i ht
        cases h1; exact s_ist (z := true) hx hb hK hG hS ht.1 ht.2.1 ht.2.2.1 (fun _ => ht.2.2.2 rfl) hd (fun H1 locs1 k1 k2 k3 => kk H1 locs1 ls (k1.trans hsz) k2 k3 hl)
      · cases h1
    · cases h1
  | aaload =>
    replace h1 : zAld pc L S σ = some q := h1
    unfold zAld at h1
    split at h1
    · split at h1
      · rename_i ht
        split at h1
        · rename_i w hw
          cases h1; exact s_ald hx hb hK hG ht.1 ht.2.1 ht.2.2 hw hd (kk H locs ls hsz hG hS hl)
        · cases h1
      · cases h1
    · cases h1
  | aastore =>
    replace h1 : zAst pc L S σ = some q := h1
    unfold zAst at h1
    split at h1
    · split at h1
      · rename_i ht
        cases h1; exact s_ast hx hb hK hgS.2.2.2.2.1 hG hS ht.1 ht.2.1 ht.2.2 hd (fun H1 locs1 k1 k2 k3 => kk H1 locs1 ls (k1.trans hsz) k2 k3 hl)
      · cases h1
    · split at h1
      · rename_i ht
        cases h1; exact s_astN hx hb hK hG hS ht.1 ht.2.1 ht.2.2 hd (fun H1 locs1 k1 k2 k3 => kk H1 locs1 ls (k1.trans hsz) k2 k3 hl)
      · cases h1
    · cases h1
  | arraylength =>
    replace h1 : zLn pc L S σ = some q := h1
    unfold zLn at h1
    split at h1
    · split at h1
      · rename_i ht
        cases h1; exact s_len hx hb hK hG ht hd (kk H locs ls hsz hG hS hl)
      · split at h1
        · rename_i ht
          cases h1; exact s_len0 hx hb hG ht hd (kk H locs ls hsz hG hS hl)
        · cases h1
    · cases h1
  | new n =>
    cases h1
    have ok := (Bool.and_eq_true_iff.mp (show (zPC.any (fun q => q.1 == mC M && q.2.1 == n && q.2.2 == x) && decide (x < 14)) = true from ok))
    have hcR : znx σ + 1 - nx0 ≤ R.cells := hcR
    have hsR : zsl σ + (cRow x).2.2 - sl0 ≤ R.slots := hsR
    exact s_new hx hb hts hown hK hG hS hlo0 hsz (of_decide_eq_true ok.2) (hts _ (cls_lk ok.1)) (by omega) (by omega) hd (fun H1 k1 k2 k3 => W.cs (show znx σ - nx0 + 1 = znx σ + 1 - nx0 by omega) (show zsl σ - sl0 + (cRow x).2.2 = zsl σ + (cRow x).2.2 - sl0 by omega) (kk H1 locs ls k1 k2 k3 hl))
  | newarray aty =>
    replace h1 : zNa x pc L S σ = some q := h1
    unfold zNa at h1
    split at h1
    · rename_i n r
      split at h1
      · rename_i ht
        cases h1
        have ok := of_decide_eq_true (show decide (newarray.typeOf aty = siteTy x) = true from ok)
        have hcR : znx σ + 1 - nx0 ≤ R.cells := hcR
        have hsR : zsl σ + n.toNatClampNeg - sl0 ≤ R.slots := hsR
        exact s_newI hx hb hts ok hK hG hS hlo0 hsz ht.1 ht.2 (by omega) (by omega) hd (fun H1 k1 k2 k3 => W.cs (show znx σ - nx0 + 1 = znx σ + 1 - nx0 by omega) (show zsl σ - sl0 + n.toNatClampNeg = zsl σ + n.toNatClampNeg - sl0 by omega) (kk H1 locs ls k1 k2 k3 hl))
      · cases h1
    · cases h1
  | anewarray k =>
    replace h1 : zAna x pc L S σ = some q := h1
    unfold zAna at h1
    split at h1
    · rename_i n r
      split at h1
      · rename_i ht
        cases h1
        have ok : (decide (Cond.classLink (cNm (mC M)) k "BuildCache$Content" ∈ zAN ∧ (x = 6 ∨ x = 7)) || decide (Cond.classLink (cNm (mC M)) k "BuildCache$Key" ∈ zAN ∧ x = 8) || decide (Cond.classLink (cNm (mC M)) k "java/lang/Object" ∈ zAN ∧ x = 11)) = true := ok
        have hcR : znx σ + 1 - nx0 ≤ R.cells := hcR
        have hsR : zsl σ + n.toNatClampNeg - sl0 ≤ R.slots := hsR
        have hex : ∃ C, Cond.classLink (cNm (mC M)) k C ∈ bigW ∧ va_AO C s ∧ siteTy x = .object C := by
          simp only [Bool.or_eq_true, decide_eq_true_eq] at ok
          rcases ok with (⟨g1, rfl | rfl⟩ | ⟨g1, rfl⟩) | ⟨g1, rfl⟩
          · exact ⟨_, an_ok _ g1, hgS.2.2.2.2.2.1.1, rfl⟩
          · exact ⟨_, an_ok _ g1, hgS.2.2.2.2.2.1.1, rfl⟩
          · exact ⟨_, an_ok _ g1, hgS.2.2.2.2.2.1.2.1, rfl⟩
          · exact ⟨_, an_ok _ g1, hgS.2.2.2.2.2.1.2.2, rfl⟩
        obtain ⟨C, g1, g2, g3⟩ := hex
        exact s_newR hx hb hown (hts _ g1) g2 g3 hK hG hS hlo0 hsz ht.1 ht.2 (by omega) (by omega) hd (fun H1 k1 k2 k3 => W.cs (show znx σ - nx0 + 1 = znx σ + 1 - nx0 by omega) (show zsl σ - sl0 + n.toNatClampNeg = zsl σ + n.toNatClampNeg - sl0 by omega) (kk H1 locs ls k1 k2 k3 hl))
      · cases h1
    · cases h1
  | multianewarray idx dims =>
    replace h1 : zMna pc L S σ = some q := h1
    unfold zMna at h1
    split at h1
    · rename_i k n r
      split at h1
      · rename_i ht
        cases h1
        have ok9 : (mC M == 6 && idx == 11) = true := ok
        simp only [Bool.and_eq_true, beq_iff_eq] at ok9
        have hdims := zDims_at hc
        have hdims : dims = 2 := by simpa [zDims] using hdims
        subst hdims
        have hown2 := hown
        rw [ok9.1] at hown2
        have h2 := hts _ w_mna
        rw [← ok9.2] at h2
        have hcR : znx σ + 1 + n.toNatClampNeg - nx0 ≤ R.cells := hcR
        have hsR : zsl σ + n.toNatClampNeg + n.toNatClampNeg * k.toNatClampNeg - sl0 ≤ R.slots := hsR
        exact s_newM hx hb hts hown2 h2 hgS.2.2.2.2.2.2 hK hG hS hlo0 hsz ht.1 ht.2.1 ht.2.2.1 ht.2.2.2.1 ht.2.2.2.2 (by omega) (by omega) hd (fun H1 k1 k2 k3 => W.cs (show znx σ - nx0 + 1 + n.toNatClampNeg = znx σ + 1 + n.toNatClampNeg - nx0 by omega) (show zsl σ - sl0 + n.toNatClampNeg + n.toNatClampNeg * k.toNatClampNeg = zsl σ + n.toNatClampNeg + n.toNatClampNeg * k.toNatClampNeg - sl0 by omega) (kk H1 locs ls k1 k2 k3 hl))
      · cases h1
    · cases h1
  | checkcast n =>
    replace h1 : zCk x pc L S σ = some q := h1
    unfold zCk at h1
    split at h1
    · split at h1
      · rename_i ht
        cases h1
        have ok := (Bool.and_eq_true_iff.mp (show (zPC.any (fun q => q.1 == mC M && q.2.1 == n && q.2.2 == x) && decide (x < 14)) = true from ok))
        exact s_chk hx hb hown (hts _ (cls_lk ok.1)) hK hG ht hd (kk H locs ls hsz hG hS hl)
      · cases h1
    · cases h1
  | getstatic n =>
    cases h1
    have ok : (mC M == 13 && n == 39) = true := ok
    simp only [Bool.and_eq_true, beq_iff_eq] at ok
    have hown2 := hown
    rw [ok.1] at hown2
    have h2 := hts _ w_stat
    rw [← ok.2] at h2
    exact va_gets hx hb hgS.1 hS hown2 h2 (fun w hw => hw) hd (kk H locs ls hsz hG hS hl)
  | invokestatic n =>
    replace h1 : (if y = 6 then zCpy pc L S σ else if y = 8 then zMm true pc L S σ else if y = 9 then zMm false pc L S σ else none) = some q := h1
    have ok := (Bool.and_eq_true_iff.mp (show (zPI.any (fun q => q.1 == mC M && q.2.1 == n && q.2.2.1 == x && q.2.2.2.1 == y && (q.2.2.2.2 : Int) == z) && (if y = 6 ∨ y = 8 ∨ y = 9 then decide (1 ≤ mDep M ∧ 40 ≤ mLoc M) else (y == 1 || y == 4) && zRm (mE M) x)) = true from ok))
    obtain ⟨nn, -, hpi, -⟩ := inv_ok ok.1
    by_cases hy6 : y = 6
    · subst hy6
      rw [if_pos rfl] at h1
      have ok2 := ok.2
      rw [if_pos (Or.inl rfl)] at ok2
      have ok2 := of_decide_eq_true ok2
      have hlk : Cond.methodLink (cNm (mC M)) n arraycopyName ∈ bigW := hpi.1
      unfold zCpy at h1
      split at h1
      · split at h1
        · rename_i ht
          cases h1
          obtain ⟨t1, ⟨t2, t3, t4⟩, t5, t6, t7, t8⟩ := ht
          exact s_cpy hx hb hml' hts hown (hts _ hlk) hK hgS.2.2.2.2.1 hG hS t1 t2 t3 t4 t5 t6 t7 (by omega) (by omega) t8 hd (fun H1 locs1 k1 k2 k3 => kk H1 locs1 ls (k1.trans hsz) k2 k3 hl)
        · cases h1
      · cases h1
    · rw [if_neg hy6] at h1
      by_cases hy8 : y = 8
      · subst hy8
        rw [if_pos rfl] at h1
        have ok2 := ok.2
        rw [if_pos (Or.inr (Or.inl rfl))] at ok2
        have ok2 := of_decide_eq_true ok2
        have hlk : Cond.methodLink (cNm (mC M)) n Lib.Math.max.name ∈ bigW := hpi.1
        unfold zMm at h1
        split at h1
        · split at h1
          · rename_i hw
            cases h1
            exact va_mmax hx hb hml' hown (hts _ hlk) (hts _ w_maxS) (hts _ w_mathI) (hts _ w_maxC) (by omega) (by unfold zW at hw; omega) hcR hsR hd (kk H locs ls hsz hG hS hl)
          · cases h1
        · cases h1
      · rw [if_neg hy8] at h1
        by_cases hy9 : y = 9
        · subst hy9
          rw [if_pos rfl] at h1
          have ok2 := ok.2
          rw [if_pos (Or.inr (Or.inr rfl))] at ok2
          have ok2 := of_decide_eq_true ok2
          have hlk : Cond.methodLink (cNm (mC M)) n Lib.Math.min.name ∈ bigW := hpi.1
          unfold zMm at h1
          split at h1
          · split at h1
            · rename_i hw
              cases h1
              exact va_mmin hx hb hml' hown (hts _ hlk) (hts _ w_minS) (hts _ w_mathI) (hts _ w_minC) (by omega) (by unfold zW at hw; omega) hcR hsR hd (kk H locs ls hsz hG hS hl)
            · cases h1
          · cases h1
        · rw [if_neg hy9] at h1; cases h1
  | invokevirtual n =>
    replace h1 : (if y = 7 then zGc pc L S σ else none) = some q := h1
    have ok := (Bool.and_eq_true_iff.mp (show (zPI.any (fun q => q.1 == mC M && q.2.1 == n && q.2.2.1 == x && q.2.2.2.1 == y && (q.2.2.2.2 : Int) == z) && (if y = 7 then decide (1 ≤ mDep M ∧ 40 ≤ mLoc M) else y == 0 && zRm (mE M) x)) = true from ok))
    obtain ⟨nn, -, hpi, -⟩ := inv_ok ok.1
    by_cases hy : y = 7
    · subst hy
      rw [if_pos rfl] at h1
      have ok2 := ok.2
      rw [if_pos rfl] at ok2
      have ok2 := of_decide_eq_true ok2
      have hlk : Cond.methodLink (cNm (mC M)) n gcY ∈ bigW := hpi.1
      unfold zGc at h1
      split at h1
      · split at h1
        · rename_i ht
          cases h1
          exact s_gcl hx hb hml' hts hown (hts _ hlk) hK hG hgS.2.1 hgS.2.2.1 ⟨ht.1, ht.2.1⟩ (by omega) (by omega) ht.2.2 hd (kk H locs ls hsz hG hS hl)
        · cases h1
      · cases h1
    · rw [if_neg hy] at h1; cases h1
  | invokespecial n =>
    replace h1 : (if y = 5 then zOi pc L S σ else none) = some q := h1
    have ok := (Bool.and_eq_true_iff.mp (show (zPI.any (fun q => q.1 == mC M && q.2.1 == n && q.2.2.1 == x && q.2.2.2.1 == y && (q.2.2.2.2 : Int) == z) && (if y = 5 then decide (1 ≤ mDep M ∧ 40 ≤ mLoc M) else (y == 2 || y == 3) && zRm (mE M) x)) = true from ok))
    obtain ⟨nn, -, hpi, -⟩ := inv_ok ok.1
    by_cases hy : y = 5
    · subst hy
      rw [if_pos rfl] at h1
      have ok2 := ok.2
      rw [if_pos rfl] at ok2
      have ok2 := of_decide_eq_true ok2
      have hlk : Cond.methodLink (cNm (mC M)) n objectInit ∈ bigW := hpi.1
      unfold zOi at h1
      split at h1
      · rename_i a r
        split at h1
        · rename_i hw
          cases h1
          refine W.objInit hx hb hown (hts _ hlk) (hts _ w_oiI) (hts _ w_oiC) (g := F0 m pc ls (.ref a :: r)) rfl (by rw [hml]; exact hl.1) rfl hd (by omega) (by show 2 * 0 + _ + 12 ≤ _; unfold zW at hw; omega) ?_
          exact W.eq (g2 := F0 m (pc + 3) ls r) rfl (kk H locs ls hsz hG hS hl)
        · cases h1
      · cases h1
    · rw [if_neg hy] at h1; cases h1
  | _ => cases h1
end ZO
