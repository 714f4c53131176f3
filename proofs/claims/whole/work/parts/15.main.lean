/-! THE RUN OF THE MACHINE OVER FIELDS IS THE JVM's -/
section ZZ
variable {p : Program} {l : Launch} {e : Env} {G : zG} {lo : Nat}
/-- what a method's run gives, for every frame in which it stands -/
def zGood (l : Launch) (G : zG) (lo n : Nat) : Prop := ∀ (M pc : Nat) (L : List (Option Value)) (S : List Value) (σ : zSt) (u : Option Value × zSt), zRun n M pc L S σ = some u →
  ∀ (p : Program) (e : Env) (R : Room) (s : State) (m : MethodId) (args : Array Value) (below : List Frame) (meth : Method) (c : Code) (H : Heap) (locs : List Loc) (Q : State → Prop) (ls : Array Slot) (nx0 sl0 : Nat),
  zCtx p s m args meth c G lo M (ze0 σ) (zmi σ) → H.size = znx σ → gRep G lo s σ H → va_S (fun q => lo ≤ q) s.heap H locs → zLH ls (mL M) L → mDep M ≤ R.frames → mLoc M ≤ R.locals → nx0 ≤ znx σ → sl0 ≤ zsl σ → znx u.2 - nx0 ≤ R.cells → zsl u.2 - sl0 ≤ R.slots →
  (∀ (H1 : Heap) (locs1 : List Loc) (pc1 : Nat) (ls1 : Array Slot) (i : Instr), H1.size = znx u.2 → gRep G lo s u.2 H1 → va_S (fun q => lo ≤ q) s.heap H1 locs1 → decode (mB M) pc1 = .ok (i, 1) → zRet i (mR M) u.1.toList u.2 = some u → W p l e R s m args below meth c H1 locs1 (znx u.2 - nx0) (zsl u.2 - sl0) Q (F0 m pc1 ls1 u.1.toList)) →
  W p l e R s m args below meth c H locs (znx σ - nx0) (zsl σ - sl0) Q (F0 m pc ls S)
theorem zRet_len {i : Instr} {ret : Option FieldType} {S : List Value} {σ : zSt} {u : Option Value × zSt} (h : zRet i ret S σ = some u) (pc : Nat) : zLen pc i = 1 := by
  unfold zRet at h
  split at h <;> first | rfl | cases h
/-- a method's own end -/
theorem z_end {R : Room} {s : State} {m : MethodId} {args : Array Value} {below : List Frame} {meth : Method} {c : Code} {H : Heap} {locs : List Loc} {ls : Array Slot} {M pc cells slots : Nat} {i : Instr} {u : Option Value × zSt}
    (hx : p.tables.exec = Jvm.exec) (hb : c.code = mB M) (hr : meth.sig.returnType = mR M) (hlocks : meth.locks = false) (hsz : H.size = znx u.2) (hG : gRep G lo s u.2 H) (hS : va_S (fun q => lo ≤ q) s.heap H locs) (hd : decode (mB M) pc = .ok (i, 1)) (h : zRet i (mR M) u.1.toList u.2 = some u) :
    W p l e R s m args below meth c H locs cells slots (MQ below (gQ G lo u.1 u.2) args s cells slots (fun q => lo ≤ q)) (F0 m pc ls u.1.toList) := by
  have hq : ∀ t : State, t.heap = H → s.WarmedH t.vm → gQ G lo u.1 u.2 args s (.returned u.1) t := fun t ht hW => ⟨rfl, by rw [ht]; exact hsz, by rw [ht]; exact hG.moved hW.alike, hS.F ht⟩
  obtain ⟨r, σ'⟩ := u
  unfold zRet at h
  split at h
  · rename_i v hv
    have hv : r = some (.int v) := by cases r with
      | none => cases hv
      | some w => simpa using hv
    subst hv
    split at h
    · rename_i ht
      rcases ht with ht | ⟨ht, hz⟩
      · exact W.iret hx hb (by rw [hr, ht]) hq hS.2.2 hd
      · exact W.zret (ty := .boolean) hx hb (by rw [hr, ht]) (by rcases hz with rfl | rfl <;> rfl) hq hS.2.2 hd
    · cases h
  · rename_i v hv
    have hv : r = some (.long v) := by cases r with
      | none => cases hv
      | some w => simpa using hv
    subst hv
    split at h
    · rename_i ht
      exact W.lret hx hb (by rw [hr, ht]) hq hS.2.2 hd
    · cases h
  · rename_i v hv
    have hv : r = some (.ref v) := by cases r with
      | none => cases hv
      | some w => simpa using hv
    subst hv
    split at h
    · rename_i C ht
      exact W.aret hx hb (by rw [hr, ht]) (Or.inl ⟨_, rfl⟩) (Or.inr ⟨_, rfl⟩) hq hS.2.2 hd
    · rename_i C ht
      exact W.aret hx hb (by rw [hr, ht]) (Or.inr ⟨_, rfl⟩) (Or.inr ⟨_, rfl⟩) hq hS.2.2 hd
    · cases h
  · rename_i hv
    have hv : r = none := by cases r with
      | none => rfl
      | some w => cases hv
    subst hv
    split at h
    · rename_i ht
      exact W.vret hx hb (by rw [hr, ht]) hq hS.2.2 hd
    · cases h
  · cases h
theorem z_met {n M : Nat} (ih : zGood l G lo n) (hM : M < 204) {av : List Value} (hlen : (zArgs av).length ≤ mL M) {σ : zSt} {u : Option Value × zSt} (h : zRun n M 0 (zL0 M av) [] σ = some u) :
    Met l (mY M) (wsM M) { frames := mDep M, cells := znx u.2 - znx σ, slots := zsl u.2 - zsl σ, locals := mLoc M } (va_Pc av (gB G lo σ)) (gQ G lo u.1 u.2) (znx u.2 - znx σ) (zsl u.2 - zsl σ) (fun q => lo ≤ q) := by
  obtain ⟨w1, w2, w3, w4⟩ := mW hM
  have hpl := (cn_ok _ w3 w4).2.2
  rw [← w2] at hpl
  refine Met.ofW (cc := mB M) (maxL := mL M) (ret := mR M) hpl rfl ?_
  intro p e s m args below meth c s₁ B hml hv
  obtain ⟨rfl, hsz, hlo, hG, hK, hgS⟩ := hv
  have hx := B.exec
  have hb := B.bytes
  have hr := B.returns
  have hts0 := atoms_spec (ws := wsM M) B.pre
  have hts : ∀ w ∈ bigW, w.before av.toArray s = true := fun w hw => hts0 w (List.mem_cons_of_mem _ hw)
  have hown : s.vm.findClass (cNm (mC M)) = some m.cls := by rw [← w2]; exact findClass_of_methodNamed B.named
  have hlocks := B.notSynchronized
  have hnm : meth.name = (mY M).name := (name_of_methodNamed B.named B.method).1
  rw [lg_entry_eq]
  have hl := zLH_entry hlen
  have hmo := zRun_mono _ _ _ _ _ _ _ h
  have key := ih M 0 _ _ _ _ h p e ({ frames := mDep M, cells := znx u.2 - znx σ, slots := zsl u.2 - zsl σ, locals := mLoc M } : Room) s m av.toArray below meth c s.heap [] (MQ below (gQ G lo u.1 u.2) av.toArray s (znx u.2 - znx σ) (zsl u.2 - zsl σ) (fun q => lo ≤ q)) _ (znx σ) (zsl σ)
    ⟨hx, hb, hml, hown, hts, fun h => hnm.trans h, hK, hgS, hlo⟩ hsz hG va_S.rf hl (Nat.le_refl _) (Nat.le_refl _) (Nat.le_refl _) (Nat.le_refl _) (Nat.le_refl _) (Nat.le_refl _)
    (fun H1 locs1 pc1 ls1 i k1 k2 k3 k4 k5 => z_end hx hb hr hlocks k1 k2 k3 k4 k5)
  rw [Nat.sub_self, Nat.sub_self] at key
  exact key
theorem zRm_spec {M x : Nat} (h : zRm (mE M) x = true) : mDep x + 1 ≤ mDep M ∧ 8 + (mL x + 11) + mLoc x ≤ mLoc M ∧ x < 204 := of_decide_eq_true h
/-- a call's link, by the numbers that stand in the code -/
def piU (o n x y k : Nat) : Prop := (y = 3 ∨ y = 4 → ∀ U, zNest U → va_Nw (.methodLinkNest (cNm o) n (mY x) "BuildCache") U) ∧ (y < 3 → Cond.methodLink (cNm o) n (mY x) ∈ bigW) ∧ x < 204 ∧ (parseMethodDescriptor (mY x).desc).map (fun d => d.parameters.length) = some k ∧ (y = 0 → Cond.selects (mY x).cls (mY x) (mY x) ∈ bigW) ∧ (y = 1 ∨ y = 4 → Cond.static (mY x) ∈ bigW) ∧ (¬ (y = 1 ∨ y = 4) → Cond.instanceMethod (mY x) ∈ bigW) ∧ (y = 2 ∨ y = 3 → (mY x).name = "<init>" ∧ mR x = none)
theorem piU_of {q : Nat × Nat × Nat × Nat × Nat} (hq : q ∈ zPI) (h5 : q.2.2.2.1 < 5) : piU q.1 q.2.1 q.2.2.1 q.2.2.2.1 q.2.2.2.2 := by
  obtain ⟨g1, g2⟩ := pi_ok q hq
  obtain ⟨b3, b4, b5, b6, b7⟩ := g2 h5
  refine ⟨fun h U hN => hN q hq h, fun h => ?_, b3, b4, b5, fun h => ?_, fun h => ?_, b7⟩
  · rw [if_neg (by omega)] at g1
    unfold piY at g1
    rw [if_neg (by omega), if_neg (by omega), if_neg (by omega), if_neg (by omega), if_neg (by omega)] at g1
    exact g1
  · rw [if_pos h] at b6; exact b6
  · rw [if_neg h] at b6; exact b6
theorem inv_ok2 {o n x y : Nat} {z : Int} (h5 : y < 5) (ok : zPI.any (fun q => q.1 == o && q.2.1 == n && q.2.2.1 == x && q.2.2.2.1 == y && (q.2.2.2.2 : Int) == z) = true) : ∃ k : Nat, z.toNat = k ∧ piU o n x y k := by
  obtain ⟨q, hq, h⟩ := any_mem ok
  simp only [Bool.and_eq_true, beq_iff_eq] at h
  obtain ⟨⟨⟨⟨h1, h2⟩, h3⟩, h4⟩, h6⟩ := h
  refine ⟨q.2.2.2.2, by omega, ?_⟩
  rw [← h1, ← h2, ← h3, ← h4]
  exact piU_of hq (by rw [h4]; exact h5)
section GC
variable {p : Program} {l : Launch} {e : Env} {R : Room} {s : State} {m : MethodId} {args : Array Value} {below : List Frame} {meth : Method} {c : Code} {H : Heap} {locs : List Loc} {cells slots : Nat} {Q : State → Prop}
variable {ls : Array Slot} {G : zG} {lo pc nL ix mx mc ms nn b : Nat} {u : Option Value × zSt} {rest As : List Value} {cc bb : ByteArray} {own : String} {yy : MethodName} {rr : Option FieldType} {ws : List Cond} {rm : Room} {Pc : Array Value → State → Prop}
def gcB (s : State) (args : Array Value) (yy : MethodName) (bb : ByteArray) (mx : Nat) (rr : Option FieldType) (ws : List Cond) (nn : Nat) : Prop := (∀ w ∈ ws, ∀ (a' : Array Value) (U : State), s.WarmedH U.vm → w.before a' U = true) ∧ Cond.code yy bb mx rr ∈ ws ∧ (Cond.code yy bb mx rr).before args s = true ∧ (Cond.initialized yy.cls).before args s = true ∧ (yy.cls ≠ "java/lang/invoke/MethodHandle" ∧ yy.cls ≠ "java/lang/invoke/VarHandle") ∧ (∀ sig, parseMethodDescriptor yy.desc = some sig → nn = sig.parameters.length)
def gcR (R rm : Room) (mx mc ms : Nat) : Prop := rm.cells = mc ∧ rm.slots = ms ∧ rm.frames + 1 ≤ R.frames ∧ 8 + (mx + 11) + rm.locals ≤ R.locals
theorem gc_V (hCF : CallFix p m c cc nL s args bigW own) (hM : Met l yy ws rm Pc (gQ G lo u.1 u.2) mc ms (fun q => lo ≤ q)) (hR : gcR R rm mx mc ms) (hB : gcB s args yy bb mx rr ws nn) (hlk : (Cond.methodLink own ix yy).before args s = true) (hin : (Cond.instanceMethod yy).before args s = true) (hsel : (Cond.selects yy.cls yy yy).before args s = true) (hpre : PreV s H yy.cls b Pc As) (hn : As.length = nn) (hls : ls.size = nL) (hw : zW rest ≤ 8) (hd : decode cc pc = .ok (.invokevirtual ix, 3)) (hcs : cells + mc ≤ R.cells ∧ slots + ms ≤ R.slots) (hS : va_S (fun q => lo ≤ q) s.heap H locs)
    (hfin : ∀ (H1 : Heap) (locs1 : List Loc), H1.size = znx u.2 → gRep G lo s u.2 H1 → va_S (fun q => lo ≤ q) s.heap H1 locs1 → W p l e R s m args below meth c H1 locs1 (cells + mc) (slots + ms) Q (F0 m (pc + 3) ls (u.1.toList ++ rest))) : W p l e R s m args below meth c H locs cells slots Q (F0 m pc ls (As.reverse ++ .ref b :: rest)) :=
  g_call (va_runV hCF hM ⟨⟨hR.1, hR.2.1, hR.2.2.1, hR.2.2.2, hB.1, hB.2.1, hB.2.2.1, hB.2.2.2.1, hB.2.2.2.2.1, hB.2.2.2.2.2, hlk⟩, hin, hsel⟩ hpre rfl hn hls rfl (lv_room hw) hd hcs) hS hfin
theorem gc_S (hCF : CallFix p m c cc nL s args bigW own) (hM : Met l yy ws rm Pc (gQ G lo u.1 u.2) mc ms (fun q => lo ≤ q)) (hR : gcR R rm mx mc ms) (hB : gcB s args yy bb mx rr ws nn) (hlk : (Cond.methodLink own ix yy).before args s = true) (hst : (Cond.static yy).before args s = true) (hpre : PreS s H Pc As) (hn : As.length = nn) (hls : ls.size = nL) (hw : zW rest ≤ 8) (hd : decode cc pc = .ok (.invokestatic ix, 3)) (hcs : cells + mc ≤ R.cells ∧ slots + ms ≤ R.slots) (hS : va_S (fun q => lo ≤ q) s.heap H locs)
    (hfin : ∀ (H1 : Heap) (locs1 : List Loc), H1.size = znx u.2 → gRep G lo s u.2 H1 → va_S (fun q => lo ≤ q) s.heap H1 locs1 → W p l e R s m args below meth c H1 locs1 (cells + mc) (slots + ms) Q (F0 m (pc + 3) ls (u.1.toList ++ rest))) : W p l e R s m args below meth c H locs cells slots Q (F0 m pc ls (As.reverse ++ rest)) :=
  g_call (va_runS hCF hM ⟨⟨hR.1, hR.2.1, hR.2.2.1, hR.2.2.2, hB.1, hB.2.1, hB.2.2.1, hB.2.2.2.1, hB.2.2.2.2.1, hB.2.2.2.2.2, hlk⟩, hst⟩ hpre rfl hn hls rfl (lv_room hw) hd hcs) hS hfin
theorem gc_SN {host : String} (hCF : CallFix p m c cc nL s args bigW own) (hM : Met l yy ws rm Pc (gQ G lo u.1 u.2) mc ms (fun q => lo ≤ q)) (hR : gcR R rm mx mc ms) (hB : gcB s args yy bb mx rr ws nn) (hlk : va_Nw (Cond.methodLinkNest own ix yy host) s) (hst : (Cond.static yy).before args s = true) (hpre : PreS s H Pc As) (hn : As.length = nn) (hls : ls.size = nL) (hw : zW rest ≤ 8) (hd : decode cc pc = .ok (.invokestatic ix, 3)) (hcs : cells + mc ≤ R.cells ∧ slots + ms ≤ R.slots) (hS : va_S (fun q => lo ≤ q) s.heap H locs)
    (hfin : ∀ (H1 : Heap) (locs1 : List Loc), H1.size = znx u.2 → gRep G lo s u.2 H1 → va_S (fun q => lo ≤ q) s.heap H1 locs1 → W p l e R s m args below meth c H1 locs1 (cells + mc) (slots + ms) Q (F0 m (pc + 3) ls (u.1.toList ++ rest))) : W p l e R s m args below meth c H locs cells slots Q (F0 m pc ls (As.reverse ++ rest)) :=
  g_call (va_runSN hCF hM ⟨⟨⟨hR.1, hR.2.1, hR.2.2.1, hR.2.2.2, hB.1, hB.2.1⟩, hB.2.2.1, hB.2.2.2.1, hB.2.2.2.2.1, hB.2.2.2.2.2, va_Nw.use rfl hlk⟩, hst, trivial⟩ hpre rfl hn hls rfl (lv_room hw) hd hcs) hS hfin
theorem gc_I (hCF : CallFix p m c cc nL s args bigW own) (hM : Met l yy ws rm Pc (gQ G lo u.1 u.2) mc ms (fun q => lo ≤ q)) (hR : gcR R rm mx mc ms) (hB : gcB s args yy bb mx none ws nn) (hlk : (Cond.methodLink own ix yy).before args s = true) (hin : (Cond.instanceMethod yy).before args s = true) (hname : yy.name = "<init>") (hpre : PreS s H Pc (.ref b :: As)) (hn : As.length = nn) (hls : ls.size = nL) (hw : zW rest ≤ 8) (hd : decode cc pc = .ok (.invokespecial ix, 3)) (hcs : cells + mc ≤ R.cells ∧ slots + ms ≤ R.slots) (hS : va_S (fun q => lo ≤ q) s.heap H locs)
    (hfin : ∀ (H1 : Heap) (locs1 : List Loc), H1.size = znx u.2 → gRep G lo s u.2 H1 → va_S (fun q => lo ≤ q) s.heap H1 locs1 → W p l e R s m args below meth c H1 locs1 (cells + mc) (slots + ms) Q (F0 m (pc + 3) ls (u.1.toList ++ rest))) : W p l e R s m args below meth c H locs cells slots Q (F0 m pc ls (As.reverse ++ .ref b :: rest)) :=
  g_call (va_runI hCF hM ⟨⟨hR.1, hR.2.1, hR.2.2.1, hR.2.2.2, hB.1, hB.2.1, hB.2.2.1, hB.2.2.2.1, hB.2.2.2.2.1, hB.2.2.2.2.2, hlk⟩, hname, hin⟩ hpre rfl hn hls rfl (lv_room hw) hd hcs) hS hfin
theorem gc_IN {host : String} (hCF : CallFix p m c cc nL s args bigW own) (hM : Met l yy ws rm Pc (gQ G lo u.1 u.2) mc ms (fun q => lo ≤ q)) (hR : gcR R rm mx mc ms) (hB : gcB s args yy bb mx none ws nn) (hlk : va_Nw (Cond.methodLinkNest own ix yy host) s) (hin : (Cond.instanceMethod yy).before args s = true) (hname : yy.name = "<init>") (hpre : PreS s H Pc (.ref b :: As)) (hn : As.length = nn) (hls : ls.size = nL) (hw : zW rest ≤ 8) (hd : decode cc pc = .ok (.invokespecial ix, 3)) (hcs : cells + mc ≤ R.cells ∧ slots + ms ≤ R.slots) (hS : va_S (fun q => lo ≤ q) s.heap H locs)
    (hfin : ∀ (H1 : Heap) (locs1 : List Loc), H1.size = znx u.2 → gRep G lo s u.2 H1 → va_S (fun q => lo ≤ q) s.heap H1 locs1 → W p l e R s m args below meth c H1 locs1 (cells + mc) (slots + ms) Q (F0 m (pc + 3) ls (u.1.toList ++ rest))) : W p l e R s m args below meth c H locs cells slots Q (F0 m pc ls (As.reverse ++ .ref b :: rest)) :=
  g_call (va_runIN hCF hM ⟨⟨⟨hR.1, hR.2.1, hR.2.2.1, hR.2.2.2, hB.1, hB.2.1⟩, hB.2.2.1, hB.2.2.2.1, hB.2.2.2.2.1, hB.2.2.2.2.2, va_Nw.use rfl hlk⟩, hname, hin⟩ hpre rfl hn hls rfl (lv_room hw) hd hcs) hS hfin
end GC
theorem gcB_of {s : State} {args : Array Value} {x nn : Nat} (hts : ∀ w ∈ bigW, w.before args s = true) (hx2 : x < 204) (hpd : (parseMethodDescriptor (mY x).desc).map (fun d => d.parameters.length) = some nn) : gcB s args (mY x) (mB x) (mL x) (mR x) (wsM x) nn := by
  obtain ⟨w1, w2, w3, w4⟩ := mW hx2
  refine ⟨pay_in hts (goodIn_big (wsM_in hx2)), List.mem_cons_self, hts _ w1, ?_, ?_, ?_⟩
  · rw [w2]; exact hts _ (ini_ok _ w3)
  · rw [w2]; exact ⟨(cn_ok _ w3 w4).1, (cn_ok _ w3 w4).2.1⟩
  · intro sig hsig
    rw [hsig] at hpd
    exact (Option.some.inj hpd).symm
theorem zKd_5 {i : Instr} {y : Nat} (h : zKd i y = 1) : y < 5 ∧ ((∃ n, i = .invokevirtual n) ∨ (∃ n, i = .invokestatic n) ∨ ∃ n, i = .invokespecial n) := by
  unfold zKd at h
  split at h
  · split at h
    · exact ⟨by assumption, Or.inl ⟨_, rfl⟩⟩
    · cases h
  · split at h
    · exact ⟨by assumption, Or.inr (Or.inr ⟨_, rfl⟩)⟩
    · cases h
  · split at h
    · exact ⟨by assumption, Or.inr (Or.inl ⟨_, rfl⟩)⟩
    · cases h
  · cases h
  · cases h
  · cases h
  · cases h
  · cases h
/-- a call, out of its entry -/
theorem z_call {n M pc : Nat} (ih : zGood l G lo n) {i : Instr} {x y : Nat} {z : Int} (hc : zcode M pc = some (i, x, y, z)) (hkd : zKd i y = 1) {S : List Value} {σ : zSt} {q : List Value × List Value} (hq : zCa x y z.toNat S σ = some q) (hw : zW q.2 ≤ 8 ∧ (zArgs q.1).length ≤ mL x) {u1 : Option Value × zSt} (hu1 : zRun n x 0 (zL0 x q.1) [] σ = some u1)
    {R : Room} {s : State} {m : MethodId} {args : Array Value} {below : List Frame} {meth : Method} {c : Code} {H : Heap} {locs : List Loc} {Q : State → Prop} {ls : Array Slot} {cells slots : Nat}
    (C : zCtx p s m args meth c G lo M (ze0 σ) (zmi σ)) (hsz : H.size = znx σ) (hG : gRep G lo s σ H) (hS : va_S (fun q => lo ≤ q) s.heap H locs) (hls : ls.size = mL M) (hfr : mDep M ≤ R.frames) (hloc : mLoc M ≤ R.locals) (hcs : cells + (znx u1.2 - znx σ) ≤ R.cells ∧ slots + (zsl u1.2 - zsl σ) ≤ R.slots)
    (hfin : ∀ (H1 : Heap) (locs1 : List Loc), H1.size = znx u1.2 → gRep G lo s u1.2 H1 → va_S (fun q => lo ≤ q) s.heap H1 locs1 → W p l e R s m args below meth c H1 locs1 (cells + (znx u1.2 - znx σ)) (slots + (zsl u1.2 - zsl σ)) Q (F0 m (pc + 3) ls (u1.1.toList ++ q.2))) : W p l e R s m args below meth c H locs cells slots Q (F0 m pc ls S) := by
  obtain ⟨hx, hb, hml, hown, hts, hname, hK, hgS, hlo0⟩ := C
  have hd := zcode_dec hc
  have ok := zcode_ok hc
  have hCF : CallFix p m c (mB M) (mL M) s args bigW (cNm (mC M)) := ⟨hx, hb, hml, hown, hts⟩
  have hpre : ∀ U : State, U.heap = H → s.WarmedH U.vm → gB G lo σ U := fun U hU hW => gB.pre hK hgS hlo0 hsz hG hS hU hW
  obtain ⟨h5, hi⟩ := zKd_5 hkd
  rcases hi with ⟨ix, rfl⟩ | ⟨ix, rfl⟩ | ⟨ix, rfl⟩
  · have ok := (Bool.and_eq_true_iff.mp (show (zPI.any (fun q => q.1 == mC M && q.2.1 == ix && q.2.2.1 == x && q.2.2.2.1 == y && (q.2.2.2.2 : Int) == z) && (if y = 7 then decide (1 ≤ mDep M ∧ 40 ≤ mLoc M) else y == 0 && zRm (mE M) x)) = true from ok))
    obtain ⟨nn, hnn, b1, b2, b3, b4, b5, b6, b7, b8⟩ := inv_ok2 h5 ok.1
    have ok2 := ok.2
    rw [if_neg (by omega)] at ok2
    have ok2 := Bool.and_eq_true_iff.mp ok2
    have hy0 : y = 0 := beq_iff_eq.mp ok2.1
    obtain ⟨r1, r2, r3⟩ := zRm_spec ok2.2
    rcases zCa_spec hq with ⟨hy, -⟩ | ⟨hy, b, As, e1, e2, e3, e4⟩
    · omega
    · obtain ⟨t1, t2⟩ := e4 hy0
      obtain ⟨h0, ⟨cell, q1, q2, q3, q4⟩, -⟩ := hG.obj t1
      have hcl := (hK.cls h0).2
      rw [(cls_ok _ h0).2, t2] at hcl
      rw [t2] at q2
      obtain ⟨w1, w2, w3, w4⟩ := mW b3
      have hM := z_met ih b3 hw.2 hu1
      rw [e1] at hM
      subst e2
      exact gc_V hCF hM ⟨rfl, rfl, Nat.le_trans r1 hfr, Nat.le_trans r2 hloc⟩ (gcB_of hts b3 b4) (hts _ (b2 (by omega))) (hts _ (b7 hy)) (hts _ (b5 hy0)) ⟨gB.blind, ⟨cell, q1, by rw [q3]; rfl, by rw [w2, q2]; exact hcl.1⟩, fun U hU hW => ⟨rfl, hpre U hU hW⟩⟩ (e3.trans hnn) hls hw.1 hd hcs hS hfin
  · have ok := (Bool.and_eq_true_iff.mp (show (zPI.any (fun q => q.1 == mC M && q.2.1 == ix && q.2.2.1 == x && q.2.2.2.1 == y && (q.2.2.2.2 : Int) == z) && (if y = 6 ∨ y = 8 ∨ y = 9 then decide (1 ≤ mDep M ∧ 40 ≤ mLoc M) else (y == 1 || y == 4) && zRm (mE M) x)) = true from ok))
    obtain ⟨nn, hnn, b1, b2, b3, b4, b5, b6, b7, b8⟩ := inv_ok2 h5 ok.1
    have ok2 := ok.2
    rw [if_neg (by omega)] at ok2
    have ok2 := Bool.and_eq_true_iff.mp ok2
    have hy0 : y = 1 ∨ y = 4 := by simpa using ok2.1
    obtain ⟨r1, r2, r3⟩ := zRm_spec ok2.2
    rcases zCa_spec hq with ⟨-, e2, e3⟩ | ⟨hy, -⟩
    · have hM := z_met ih b3 hw.2 hu1
      subst e2
      rcases hy0 with hy1 | hy4
      · exact gc_S hCF hM ⟨rfl, rfl, Nat.le_trans r1 hfr, Nat.le_trans r2 hloc⟩ (gcB_of hts b3 b4) (hts _ (b2 (by omega))) (hts _ (b6 (Or.inl hy1))) ⟨gB.blind, fun U hU hW => ⟨rfl, hpre U hU hW⟩⟩ (e3.trans hnn) hls hw.1 hd hcs hS hfin
      · exact gc_SN hCF hM ⟨rfl, rfl, Nat.le_trans r1 hfr, Nat.le_trans r2 hloc⟩ (gcB_of hts b3 b4) (b1 (Or.inr hy4) s hgS.2.2.2.1) (hts _ (b6 (Or.inr hy4))) ⟨gB.blind, fun U hU hW => ⟨rfl, hpre U hU hW⟩⟩ (e3.trans hnn) hls hw.1 hd hcs hS hfin
    · exact absurd hy0 hy
  · have ok := (Bool.and_eq_true_iff.mp (show (zPI.any (fun q => q.1 == mC M && q.2.1 == ix && q.2.2.1 == x && q.2.2.2.1 == y && (q.2.2.2.2 : Int) == z) && (if y = 5 then decide (1 ≤ mDep M ∧ 40 ≤ mLoc M) else (y == 2 || y == 3) && zRm (mE M) x)) = true from ok))
    obtain ⟨nn, hnn, b1, b2, b3, b4, b5, b6, b7, b8⟩ := inv_ok2 h5 ok.1
    have ok2 := ok.2
    rw [if_neg (by omega)] at ok2
    have ok2 := Bool.and_eq_true_iff.mp ok2
    have hy0 : y = 2 ∨ y = 3 := by simpa using ok2.1
    obtain ⟨r1, r2, r3⟩ := zRm_spec ok2.2
    rcases zCa_spec hq with ⟨hy, -⟩ | ⟨hy, b, As, e1, e2, e3, e4⟩
    · omega
    · obtain ⟨g8, g9⟩ := b8 hy0
      have hM := z_met ih b3 hw.2 hu1
      rw [e1] at hM
      subst e2
      have hB := gcB_of (args := args) hts b3 b4
      rw [g9] at hB
      rcases hy0 with hy2 | hy3
      · exact gc_I hCF hM ⟨rfl, rfl, Nat.le_trans r1 hfr, Nat.le_trans r2 hloc⟩ hB (hts _ (b2 (by omega))) (hts _ (b7 hy)) g8 ⟨gB.blind, fun U hU hW => ⟨rfl, hpre U hU hW⟩⟩ (e3.trans hnn) hls hw.1 hd hcs hS hfin
      · exact gc_IN hCF hM ⟨rfl, rfl, Nat.le_trans r1 hfr, Nat.le_trans r2 hloc⟩ hB (b1 (Or.inr hy3 |> Or.symm) s hgS.2.2.2.1) (hts _ (b7 hy)) g8 ⟨gB.blind, fun U hU hW => ⟨rfl, hpre U hU hW⟩⟩ (e3.trans hnn) hls hw.1 hd hcs hS hfin
theorem zRun_good (l : Launch) (G : zG) (lo : Nat) : ∀ n, zGood l G lo n
  | 0 => fun M pc L S σ u h => by cases h
  | n + 1 => by
    have ih := zRun_good l G lo n
    intro M pc L S σ u h p e R s m args below meth c H locs Q ls nx0 sl0 C hsz hG hS hl hfr hloc hn0 hs0 hcR hsR hend
    unfold zRun at h
    split at h
    · cases h
    · rename_i i x y z hc
      split at h
      · split at h
        · cases h
        · rename_i q hq
          have m1 := z1_mono hq
          have m2 := zRun_mono _ _ _ _ _ _ _ h
          have C2 := C
          rw [← m1.2.2.1, ← m1.2.2.2] at C2
          refine z1_sound C hc hq hsz hG hS hl hfr hloc hn0 hs0 (Nat.le_trans (Nat.sub_le_sub_right m2.1 _) hcR) (Nat.le_trans (Nat.sub_le_sub_right m2.2.1 _) hsR) (fun H1 locs1 ls1 k1 k2 k3 k4 => ?_)
          exact ih M _ _ _ _ _ h p e R s m args below meth c H1 locs1 Q ls1 nx0 sl0 C2 k1 k2 k3 k4 hfr hloc (Nat.le_trans hn0 m1.1) (Nat.le_trans hs0 m1.2.1) hcR hsR hend
      · rename_i hkd
        split at h
        · cases h
        · rename_i q hq
          split at h
          · rename_i hw
            split at h
            · cases h
            · rename_i u1 hu1
              have m1 := zRun_mono _ _ _ _ _ _ _ hu1
              have m2 := zRun_mono _ _ _ _ _ _ _ h
              have C2 := C
              rw [← m1.2.2.1, ← m1.2.2.2] at C2
              have hcs : znx σ - nx0 + (znx u1.2 - znx σ) ≤ R.cells ∧ zsl σ - sl0 + (zsl u1.2 - zsl σ) ≤ R.slots := by
                have h1 := m1.1
                have h2 := m1.2.1
                have h3 := m2.1
                have h4 := m2.2.1
                exact ⟨by omega, by omega⟩
              refine z_call ih hc hkd hq hw hu1 C hsz hG hS hl.1 hfr hloc hcs (fun H1 locs1 k1 k2 k3 => ?_)
              refine W.cs (show znx σ - nx0 + (znx u1.2 - znx σ) = znx u1.2 - nx0 by have := m1.1; omega) (show zsl σ - sl0 + (zsl u1.2 - zsl σ) = zsl u1.2 - sl0 by have := m1.2.1; omega) ?_
              exact ih M _ _ _ _ _ h p e R s m args below meth c H1 locs1 Q ls nx0 sl0 C2 k1 k2 k3 hl hfr hloc (Nat.le_trans hn0 m1.1) (Nat.le_trans hs0 m1.2.1) hcR hsR hend
          · cases h
      · obtain ⟨r, σ1⟩ := u
        obtain ⟨g1, g2⟩ := zRet_spec h
        dsimp only at g1 g2
        subst g1
        have hd := zcode_dec hc
        rw [show zLen pc (i, x, y, z).1 = 1 from zRet_len h pc] at hd
        subst g2
        exact hend H locs pc ls i hsz hG hS hd h
end ZZ
