/-! ONE INSTRUCTION: what makes objects and arrays; casts, copies, the JDK's natives -/
theorem vr_outer0 (c : ClassId) (N h0 : Nat) : ∀ i : Nat, Jvm.Free.Multi.outerC c N h0 i = arrV c N (fun j => va_rf (if j < i then some (h0 + 1 + j) else none))
  | 0 => by
    show ({ cls := c, slots := Array.replicate N .null, vm := .none } : Cell) = _
    rw [arrV_new]
    refine congrArg (arrV c N) (funext fun j => ?_)
    simp [va_rf]
  | i + 1 => by
    show (Jvm.Free.Multi.outerC c N h0 i).setSlot i (.ref (h0 + 1 + i)) = _
    rw [vr_outer0 c N h0 i, arrV_store]
    refine congrArg (arrV c N) (funext fun j => ?_)
    by_cases e : j = i
    · subst e
      simp [updV, va_rf]
    · by_cases h : j < i
      · simp [updV, e, h, Nat.lt_succ_of_lt h]
      · simp [updV, e, h, show ¬ j < i + 1 by omega]
section ZM
variable {p : Program} {l : Launch} {e : Env} {R : Room} {s : State} {m : MethodId} {args : Array Value} {below : List Frame} {meth : Method} {c : Code} {H : Heap} {locs : List Loc} {cells slots : Nat} {Q : State → Prop}
variable {cc : ByteArray} {pc : Nat} {ls : Array Slot} {rest : List Value} {G : zG} {lo : Nat} {σ σ' : zSt} {a : Nat} {H0 : Heap}
theorem va_S.more {A : Nat → Prop} {H1 : Heap} (h : va_S A H0 H locs) (z : H.size ≤ H1.size) (oq : ∀ q : Nat, q < H.size → H1[q]? = H[q]?) : va_S A H0 H1 locs :=
  ⟨Nat.le_trans h.1 z, fun q h1 h2 => by rw [oq q (Nat.lt_of_lt_of_le h1 h.1)]; exact h.2.1 q h1 h2, h.2.2⟩
theorem siteTy_pr (t : Nat) : siteTy t = .int ∨ siteTy t = .boolean ∨ siteTy t = .array .int ∨ ∃ C, siteTy t = .object C := by
  unfold siteTy
  by_cases h1 : t = 6 ∨ t = 7
  · rw [if_pos h1]; exact Or.inr (Or.inr (Or.inr ⟨_, rfl⟩))
  rw [if_neg h1]
  by_cases h2 : t = 8
  · rw [if_pos h2]; exact Or.inr (Or.inr (Or.inr ⟨_, rfl⟩))
  rw [if_neg h2]
  by_cases h3 : t = 9
  · rw [if_pos h3]; exact Or.inr (Or.inr (Or.inl rfl))
  rw [if_neg h3]
  by_cases h4 : t = 11
  · rw [if_pos h4]; exact Or.inr (Or.inr (Or.inr ⟨_, rfl⟩))
  rw [if_neg h4]
  split
  · exact Or.inr (Or.inl rfl)
  · exact Or.inl rfl
theorem s_new (hexec : p.tables.exec = Jvm.exec) (hb : c.code = cc) (hts : ∀ w ∈ bigW, w.before args s = true) {own : String} {n ci : Nat} (hown : s.vm.findClass own = some m.cls) (hK : gK G s) (hG : gRep G lo s σ H) (hS0 : va_S (fun q => lo ≤ q) H0 H locs) (hlo : lo ≤ H0.size) (hsz : H.size = znx σ) (hc : ci < 14)
    (hcl : (Cond.classLink own n (cNm ci)).before args s = true) (hcells : cells + 1 ≤ R.cells) (hslots : slots + (cRow ci).2.2 ≤ R.slots) (hdg : decode cc pc = .ok (.new n, 3))
    (kk : ∀ (H1 : Heap), H1.size = znx σ + 1 → gRep G lo s (zNew σ ci) H1 → va_S (fun q => lo ≤ q) H0 H1 locs → W p l e R s m args below meth c H1 locs (cells + 1) (slots + (cRow ci).2.2) Q (F0 m (pc + 3) ls (.ref (znx σ) :: rest))) : W p l e R s m args below meth c H locs cells slots Q (F0 m pc ls rest) := by
  have hKc := hK.cls hc
  have hfc := hKc.2.1
  rw [(cls_ok ci hc).2] at hfc
  refine W.newcK (n := (cRow ci).2.2) hexec hb hown hcl (hts _ (ins_ok ci hc)) (hts _ (ini_ok ci (by omega))) rfl hdg hcells hslots hfc hsz fun H' kC h1 h2 h3 h4 => ?_
  have hl : lo ≤ znx σ := by have := hS0.1; omega
  refine kk H' h3 (hG.one (a := znx σ) ?_ (fun b hb => ⟨if_neg hb, fun c' k' => ?_, fun t j => rfl, fun t j => rfl⟩) (fun q g1 g2 => h4 q (by omega))) (hS0.more (by omega) (fun q g1 => h4 q (by omega)))
  · have htg : ztg (zNew σ ci) (znx σ) = (1, ci, 0) := if_pos rfl
    have hne : ∀ z : Nat, (1 : Nat) = z → z ≠ 1 → False := fun z g1 g2 => g2 g1.symm
    unfold gAt
    rw [htg]
    refine ⟨fun _ => ⟨hc, ?_, hl⟩, fun h => (hne _ h (by decide)).elim, fun h => (hne _ h (by decide)).elim, fun h => (hne _ h (by decide)).elim, fun h => (hne _ h (by decide)).elim⟩
    refine t_OB.to (u_born (cTy ci) hts (lay_ok ci hc) hKc h1 h2 (cty_ok ci hc)) (fun k hk => ?_)
    show defaultValue (cTy ci k) = zval (zNew σ ci) ci k (znx σ)
    have e1 : zfi (zNew σ ci) ci k (znx σ) = 0 := if_pos ⟨rfl, rfl⟩
    have e2 : zfl (zNew σ ci) ci k (znx σ) = 0 := if_pos ⟨rfl, rfl⟩
    have e3 : zfr (zNew σ ci) ci k (znx σ) = none := if_pos ⟨rfl, rfl⟩
    unfold zval
    rw [e1, e2, e3]
    rcases fty_ok ci hc k hk with ⟨f1, f2⟩ | ⟨f1, f2⟩ | ⟨f1, f2⟩ | ⟨f1, f2⟩
    · rw [f1, f2]; rfl
    · rw [f1, f2]; rfl
    · rw [f1, f2]; rfl
    · rw [f1]
      show defaultValue (cTy ci k) = va_rf none
      cases hh : cTy ci k <;> rw [hh] at f2 <;> first | rfl | cases f2
  · have e1 : zfi (zNew σ ci) c' k' b = zfi σ c' k' b := if_neg (fun z => hb z.2)
    have e2 : zfl (zNew σ ci) c' k' b = zfl σ c' k' b := if_neg (fun z => hb z.2)
    have e3 : zfr (zNew σ ci) c' k' b = zfr σ c' k' b := if_neg (fun z => hb z.2)
    unfold zval
    rw [e1, e2, e3]
theorem zNewI_rep (hG : gRep G lo s σ H) (hl : lo ≤ znx σ) (hsz : H.size = znx σ) {t n : Nat} {H' : Heap} (h2 : H'[znx σ]? = some (arrV (G.2 t) n (fun _ => .int 0))) (h4 : ∀ q, q < znx σ → H'[q]? = H[q]?) : gRep G lo s (zNewI σ t n) H' := by
  refine hG.one (a := znx σ) ?_ (fun b hb => ⟨if_neg hb, fun c' k' => rfl, fun t' j => if_neg (fun z => hb z.2), fun t j => rfl⟩) (fun q g1 g2 => h4 q (by omega))
  have htg : ztg (zNewI σ t n) (znx σ) = (2, t, n) := if_pos rfl
  have hne : ∀ z : Nat, (2 : Nat) = z → z ≠ 2 → False := fun z g1 g2 => g2 g1.symm
  unfold gAt
  rw [htg]
  refine ⟨fun h => (hne _ h (by decide)).elim, fun _ => ⟨?_, hl⟩, fun h => (hne _ h (by decide)).elim, fun h => (hne _ h (by decide)).elim, fun h => (hne _ h (by decide)).elim⟩
  rw [h2]
  congr 2
  funext j
  exact congrArg Value.int (if_pos ⟨rfl, rfl⟩ : zai (zNewI σ t n) t (znx σ) j = 0).symm
theorem zNewR_rep (hG : gRep G lo s σ H) (hl : lo ≤ znx σ) (hsz : H.size = znx σ) {t n : Nat} {H' : Heap} (h2 : H'[znx σ]? = some (arrV (G.2 t) n (fun _ => .null))) (h4 : ∀ q, q < znx σ → H'[q]? = H[q]?) : gRep G lo s (zNewR σ t n) H' := by
  refine hG.one (a := znx σ) ?_ (fun b hb => ⟨if_neg hb, fun c' k' => rfl, fun t' j => rfl, fun t' j => if_neg (fun z => hb z.2)⟩) (fun q g1 g2 => h4 q (by omega))
  have htg : ztg (zNewR σ t n) (znx σ) = (3, t, n) := if_pos rfl
  have hne : ∀ z : Nat, (3 : Nat) = z → z ≠ 3 → False := fun z g1 g2 => g2 g1.symm
  unfold gAt
  rw [htg]
  refine ⟨fun h => (hne _ h (by decide)).elim, fun h => (hne _ h (by decide)).elim, fun _ => ⟨?_, hl⟩, fun h => (hne _ h (by decide)).elim, fun h => (hne _ h (by decide)).elim⟩
  rw [h2]
  congr 2
  funext j
  have e1 : zar (zNewR σ t n) t (znx σ) j = none := if_pos ⟨rfl, rfl⟩
  show Value.null = va_rf _
  rw [e1]
  rfl
theorem s_newI (hexec : p.tables.exec = Jvm.exec) (hb : c.code = cc) (hts : ∀ w ∈ bigW, w.before args s = true) {aty : ArrayType} {t : Nat} (hty : newarray.typeOf aty = siteTy t) (hK : gK G s) (hG : gRep G lo s σ H) (hS0 : va_S (fun q => lo ≤ q) H0 H locs) (hlo : lo ≤ H0.size) (hsz : H.size = znx σ) {n : Int32} (hn : ¬ n < 0) (hbytes : n.toNatClampNeg * componentBytes (siteTy t) ≤ 536870912)
    (hcells : cells + 1 ≤ R.cells) (hslots : slots + n.toNatClampNeg ≤ R.slots) (hdg : decode cc pc = .ok (.newarray aty, 2))
    (kk : ∀ (H1 : Heap), H1.size = znx σ + 1 → gRep G lo s (zNewI σ t n.toNatClampNeg) H1 → va_S (fun q => lo ≤ q) H0 H1 locs → W p l e R s m args below meth c H1 locs (cells + 1) (slots + n.toNatClampNeg) Q (F0 m (pc + 2) ls (.ref (znx σ) :: rest))) : W p l e R s m args below meth c H locs cells slots Q (F0 m pc ls (.int n :: rest)) := by
  have hl : lo ≤ znx σ := by have := hS0.1; omega
  have hdv : defaultValue (siteTy t) = .int 0 ∧ (Cond.arrayClass (newarray.typeOf aty)).before args s = true := by
    rcases siteTy_pr t with h | h | h | ⟨C, h⟩
    · rw [hty, h]; exact ⟨rfl, hts _ w_aI⟩
    · rw [hty, h]; exact ⟨rfl, hts _ w_aZ⟩
    · rw [h] at hty; cases aty <;> cases hty
    · rw [h] at hty; cases aty <;> cases hty
  have hra := (hK.2 t).2
  rw [← hty] at hra
  have hcA : s.vm.findClass ("[" ++ (newarray.typeOf aty).toString) = some (G.2 t) := by cases aty <;> exact hra
  refine va_newaK hexec hb hdv.2 (g := F0 m pc ls (.int n :: rest)) rfl hdg (N := n.toNatClampNeg) rfl hn rfl (by rw [hty]; exact hbytes) hcells hslots hsz fun H' cA h2 h3 h4 h5 h6 => ?_
  have e1 : cA = G.2 t := Option.some.inj (h6.symm.trans hcA)
  rw [e1, hty, hdv.1] at h2
  exact kk H' h3 (zNewI_rep hG hl hsz h2 h4) (hS0.more (by omega) (fun q g1 => h4 q (by omega)))
theorem s_newR (hexec : p.tables.exec = Jvm.exec) (hb : c.code = cc) {own C : String} {k t : Nat} (hown : s.vm.findClass own = some m.cls) (hcl : (Cond.classLink own k C).before args s = true) (hover : va_AO C s) (hty : siteTy t = .object C) (hK : gK G s) (hG : gRep G lo s σ H) (hS0 : va_S (fun q => lo ≤ q) H0 H locs) (hlo : lo ≤ H0.size) (hsz : H.size = znx σ) {n : Int32} (hn : ¬ n < 0) (hbytes : n.toNatClampNeg * 4 ≤ 536870912)
    (hcells : cells + 1 ≤ R.cells) (hslots : slots + n.toNatClampNeg ≤ R.slots) (hdg : decode cc pc = .ok (.anewarray k, 3))
    (kk : ∀ (H1 : Heap), H1.size = znx σ + 1 → gRep G lo s (zNewR σ t n.toNatClampNeg) H1 → va_S (fun q => lo ≤ q) H0 H1 locs → W p l e R s m args below meth c H1 locs (cells + 1) (slots + n.toNatClampNeg) Q (F0 m (pc + 3) ls (.ref (znx σ) :: rest))) : W p l e R s m args below meth c H locs cells slots Q (F0 m pc ls (.int n :: rest)) := by
  have hl : lo ≤ znx σ := by have := hS0.1; omega
  have hra := (hK.2 t).2
  rw [hty] at hra
  obtain ⟨kA, comp, k1, k2, k3, k4⟩ := hra
  refine W.anew hexec hb hown hcl (va_AO.use hover) (g := F0 m pc ls (.int n :: rest)) rfl hdg rfl hn hbytes hcells hslots fun cA kA' comp' h1 h2 h3 h5 => ?_
  have e1 : cA = G.2 t := Option.some.inj (h1.symm.trans k4)
  rw [e1, arrV_new, hsz]
  refine kk _ (by simp [hsz]) (zNewR_rep hG hl hsz (by rw [← hsz]; simp) (fun q hq => by rw [Array.getElem?_push, if_neg (by omega)])) (hS0.more (by simp) (fun q g1 => by rw [Array.getElem?_push, if_neg (by omega)]))
theorem s_newM (hexec : p.tables.exec = Jvm.exec) (hb : c.code = cc) (hts : ∀ w ∈ bigW, w.before args s = true) {own : String} (hown : s.vm.findClass own = some m.cls) {idx : Nat} (hcl : (Cond.classLink own idx "[[I").before args s = true) (hover : zAOA s) (hK : gK G s) (hG : gRep G lo s σ H) (hS0 : va_S (fun q => lo ≤ q) H0 H locs) (hlo : lo ≤ H0.size) (hsz : H.size = znx σ) {n k : Int32} (hn : ¬ n < 0) (hk : ¬ k < 0)
    (hb1 : n.toNatClampNeg * 4 ≤ 536870912) (hb2 : k.toNatClampNeg * 4 ≤ 536870912) (hb3 : k.toNatClampNeg ≤ 536870912) (hcells : cells + (1 + n.toNatClampNeg) ≤ R.cells) (hslots : slots + (n.toNatClampNeg + n.toNatClampNeg * k.toNatClampNeg) ≤ R.slots) (hdg : decode cc pc = .ok (.multianewarray idx 2, 4))
    (kk : ∀ (H1 : Heap), H1.size = znx σ + 1 + n.toNatClampNeg → gRep G lo s (zNewM σ n.toNatClampNeg k.toNatClampNeg) H1 → va_S (fun q => lo ≤ q) H0 H1 locs → W p l e R s m args below meth c H1 locs (cells + 1 + n.toNatClampNeg) (slots + n.toNatClampNeg + n.toNatClampNeg * k.toNatClampNeg) Q (F0 m (pc + 4) ls (.ref (znx σ) :: rest))) : W p l e R s m args below meth c H locs cells slots Q (F0 m pc ls (.int k :: .int n :: rest)) := by
  have hl : lo ≤ znx σ := by have := hS0.1; omega
  intro T hT Xs
  obtain ⟨vm₁, cA, comp, -, fA, fC, hO, -, X', step⟩ := Xs.multianewarray2F (ty := .int) hexec hown hcl hover (hts _ w_aI) (g := F0 m pc ls (.int k :: .int n :: rest)) rfl (by rw [hb]; exact hdg) rfl hn hk hb1 hb2 hb3 rfl rfl hcells hslots
  generalize hF : Jvm.Free.Multi.fill (T.setVm vm₁) cA comp n.toNatClampNeg k.toNatClampNeg (defaultValue .int) n.toNatClampNeg = F at X' step
  have hTh : (T.setVm vm₁).heap = H := hT
  obtain ⟨f1, f2, -, -⟩ := Jvm.Free.Multi.fill_facts (T.setVm vm₁) cA comp n.toNatClampNeg k.toNatClampNeg (defaultValue .int) n.toNatClampNeg
  rw [hF, hTh, hsz] at f1 f2
  have hold : ∀ x : Nat, x < znx σ → F.heap[x]? = H[x]? := fun x hx => by
    have := Jvm.Free.Multi.fill_old (T.setVm vm₁) cA comp n.toNatClampNeg k.toNatClampNeg (defaultValue .int) (a := x) (by rw [hTh, hsz]; exact hx) n.toNatClampNeg
    rw [hF, hTh] at this
    exact this
  have hrow : ∀ j : Nat, j < n.toNatClampNeg → F.heap[znx σ + 1 + j]? = some (arrV comp k.toNatClampNeg (fun _ => .int 0)) := fun j hj => by
    have := Jvm.Free.Multi.fill_inner (T.setVm vm₁) cA comp n.toNatClampNeg k.toNatClampNeg (defaultValue .int) n.toNatClampNeg j hj
    rw [hF, hTh, hsz] at this
    rw [this, ← arrV_new]
    rfl
  have hra := (hK.2 9).2
  have hri := (hK.2 10).2
  have e1 : cA = G.2 9 := Option.some.inj (fA.symm.trans hra)
  have e2 : comp = G.2 10 := Option.some.inj (fC.symm.trans hri)
  have hT1 : T.heap.size = znx σ := by rw [hT, hsz]
  have hGF : gRep G lo s (zNewM σ n.toNatClampNeg k.toNatClampNeg) F.heap := by
    intro b
    by_cases g1 : b = znx σ
    · subst g1
      have htg : ztg (zNewM σ n.toNatClampNeg k.toNatClampNeg) (znx σ) = (3, 9, n.toNatClampNeg) := if_pos rfl
      have hne : ∀ z : Nat, (3 : Nat) = z → z ≠ 3 → False := fun z g1 g2 => g2 g1.symm
      unfold gAt
      rw [htg]
      refine ⟨fun h => (hne _ h (by decide)).elim, fun h => (hne _ h (by decide)).elim, fun _ => ⟨?_, hl⟩, fun h => (hne _ h (by decide)).elim, fun h => (hne _ h (by decide)).elim⟩
      rw [f2, e1]
      have hout := vr_outer0 (G.2 9) n.toNatClampNeg (znx σ) n.toNatClampNeg
      rw [hout]
      congr 2
      funext j
      have e3 : zar (zNewM σ n.toNatClampNeg k.toNatClampNeg) 9 (znx σ) j = if j < n.toNatClampNeg then some (znx σ + 1 + j) else none := if_pos ⟨rfl, rfl⟩
      show _ = va_rf _
      rw [e3]
    · by_cases g2 : znx σ < b ∧ b ≤ znx σ + n.toNatClampNeg
      · have htg : ztg (zNewM σ n.toNatClampNeg k.toNatClampNeg) b = (2, 10, k.toNatClampNeg) := (if_neg g1).trans (if_pos g2)
        have hne : ∀ z : Nat, (2 : Nat) = z → z ≠ 2 → False := fun z g1 g2 => g2 g1.symm
        unfold gAt
        rw [htg]
        refine ⟨fun h => (hne _ h (by decide)).elim, fun _ => ⟨?_, by omega⟩, fun h => (hne _ h (by decide)).elim, fun h => (hne _ h (by decide)).elim, fun h => (hne _ h (by decide)).elim⟩
        have := hrow (b - (znx σ + 1)) (by omega)
        rw [show znx σ + 1 + (b - (znx σ + 1)) = b by omega] at this
        rw [this, e2]
        congr 2
        funext j
        exact congrArg Value.int (if_pos ⟨rfl, g2.1, g2.2⟩ : zai (zNewM σ n.toNatClampNeg k.toNatClampNeg) 10 b j = 0).symm
      · refine (hG b).kept ⟨(if_neg g1).trans (if_neg g2), fun c' k' => rfl, fun t j => if_neg (fun z => g2 z.2), fun t j => if_neg (fun z => g1 z.2)⟩ (fun h => hold b (by omega))
  obtain ⟨t, a1, b1⟩ := kk F.heap (by rw [f1]) hGF (hS0.more (by rw [f1]; omega) (fun q g1 => hold q (by omega))) F rfl X'
  refine ⟨t, step t ?_, b1⟩
  rw [hT1]
  exact a1
theorem s_chk (hexec : p.tables.exec = Jvm.exec) (hb : c.code = cc) {own : String} {n ci : Nat} (hown : s.vm.findClass own = some m.cls) (hcl : (Cond.classLink own n (cNm ci)).before args s = true) (hK : gK G s) (hG : gRep G lo s σ H) (ht : (ztg σ a).1 = 1 ∧ (ztg σ a).2.1 = ci) (hdg : decode cc pc = .ok (.checkcast n, 3))
    (k : W p l e R s m args below meth c H locs cells slots Q (F0 m (pc + 3) ls (.ref a :: rest))) : W p l e R s m args below meth c H locs cells slots Q (F0 m pc ls (.ref a :: rest)) := by
  obtain ⟨t1, rfl⟩ := ht
  obtain ⟨h0, ⟨cell, q1, q2, q3, q4⟩, -⟩ := hG.obj t1
  have hC := (hK.cls h0).2
  rw [(cls_ok _ h0).2] at hC
  exact va_castS hexec hb hown hcl hC ⟨cell, q1, by rw [q3]; rfl, by rw [q2]; exact hC.1⟩ hdg k
theorem s_gcl (hexec : p.tables.exec = Jvm.exec) (hb : c.code = cc) (hml : c.maxLocals = ls.size) (hts : ∀ w ∈ bigW, w.before args s = true) {own : String} {n mi : Nat} (hown : s.vm.findClass own = some m.cls) (hlink : (Cond.methodLink own n gcY).before args s = true) (hK : gK G s) (hG : gRep G lo s σ H) (hM : va_Mi "[Ljava/lang/Object;" mi s) (hD : va_Dc s) (ht : (ztg σ a).1 = 3 ∧ (ztg σ a).2.1 = 11) (hframes : 1 ≤ R.frames) (hlocals : 40 ≤ R.locals) (hw : zW rest ≤ 8) (hdg : decode cc pc = .ok (.invokevirtual n, 3))
    (k : W p l e R s m args below meth c H locs cells slots Q (F0 m (pc + 3) ls (.ref mi :: rest))) : W p l e R s m args below meth c H locs cells slots Q (F0 m pc ls (.ref a :: rest)) := by
  obtain ⟨hcell, -⟩ := (hG a).2.2.1 ht.1
  rw [ht.2] at hcell
  refine va_getC (C := "[Ljava/lang/Object;") hexec hb hml hown hlink (va_Dc.use hD) (hts _ w_gcS) (hts _ w_gcI) (hts _ w_gcN) hM ⟨_, hcell, rfl, va_nmO (hK.2 11).2 (by decide)⟩ hframes (by unfold zW at hw; omega) hdg k
theorem s_cpy (hexec : p.tables.exec = Jvm.exec) (hb : c.code = cc) (hml : c.maxLocals = ls.size) (hts : ∀ w ∈ bigW, w.before args s = true) {own : String} {index : Nat} (hown : s.vm.findClass own = some m.cls) (hlink : (Cond.methodLink own index arraycopyName).before args s = true) (hK : gK G s) (hC : zCst s) (hG : gRep G lo s σ H) (hS0 : va_S (fun q => lo ≤ q) H0 H locs) {b : Nat} {sp dp n : Int32}
    (ht : (ztg σ a).1 = 3 ∧ (ztg σ a).2.1 = 11 ∧ (ztg σ b).1 = 3 ∧ (ztg σ b).2.1 = 11) (h1 : ¬ sp < 0) (h2 : ¬ dp < 0) (h3 : ¬ n < 0) (h4 : sp.toNatClampNeg + n.toNatClampNeg ≤ (ztg σ b).2.2) (h5 : dp.toNatClampNeg + n.toNatClampNeg ≤ (ztg σ a).2.2) (hel : ∀ i, i < n.toNatClampNeg → zEl σ (zar σ 11 b (sp.toNatClampNeg + i)) = true)
    (hframes : 1 ≤ R.frames) (hlocals : 40 ≤ R.locals) (hw : zW rest ≤ 8) (hdg : decode cc pc = .ok (.invokestatic index, 3))
    (kk : ∀ (H1 : Heap) (locs1 : List Loc), H1.size = H.size → gRep G lo s (sarW σ 11 a (va_cpy (zar σ 11 b) (zar σ 11 a) sp.toNatClampNeg dp.toNatClampNeg n.toNatClampNeg)) H1 → va_S (fun q => lo ≤ q) H0 H1 locs1 → W p l e R s m args below meth c H1 locs1 cells slots Q (F0 m (pc + 3) ls rest)) : W p l e R s m args below meth c H locs cells slots Q (F0 m pc ls (.int n :: .int dp :: .ref a :: .int sp :: .ref b :: rest)) := by
  have nn : ∀ z : Int32, ¬ z < 0 → z.toInt = (z.toNatClampNeg : Int) := by
    intro z hz
    have hz0 : (0 : Int) ≤ z.toInt := by
      have := Int32.not_lt.mp hz
      simpa using Int32.le_iff_toInt_le.mp this
    show z.toInt = ((z.toInt.toNat : Nat) : Int)
    omega
  obtain ⟨ta1, ta2, tb1, tb2⟩ := ht
  obtain ⟨hc1, hlo⟩ := (hG a).2.2.1 ta1
  obtain ⟨hc0, -⟩ := (hG b).2.2.1 tb1
  rw [ta2] at hc1
  rw [tb2] at hc0
  intro T hT X
  obtain ⟨-, k0, hk0, cm0, hkk0⟩ := (hK.2 11).1 (ztg σ b).2.2 (fun j => va_rf (zar σ 11 b j))
  obtain ⟨-, k1, hk1, cm1, hkk1⟩ := (hK.2 11).1 (ztg σ a).2.2 (fun j => va_rf (zar σ 11 a j))
  obtain ⟨vm', X', step⟩ := X.arraycopy hexec hown hlink (hts _ w_acN) (hts _ w_acS) (hts _ w_acI) (src := b) (dst := a) (cs := arrV (G.2 11) (ztg σ b).2.2 (fun j => va_rf (zar σ 11 b j))) (cd := arrV (G.2 11) (ztg σ a).2.2 (fun j => va_rf (zar σ 11 a j))) (srcPos := sp) (destPos := dp) (n := n) (by rw [hT]; exact hc0) (by rw [hT]; exact hc1)
    (fun _ h => by cases h) (fun _ h => by cases h) (fun h => by cases h) (fun h => by cases h) hk0 hk1 hkk0 hkk1 rfl h1 h2 h3
    (by rw [nn sp h1, nn n h3, arrV_size]; omega)
    (by rw [nn dp h2, nn n h3, arrV_size]; omega)
    (fun vm₁ hal i hi => by
      have e : (arrV (G.2 11) (ztg σ b).2.2 (fun j => va_rf (zar σ 11 b j))).slots.getD (sp.toNatClampNeg + i) .null = va_rf (zar σ 11 b (sp.toNatClampNeg + i)) := by
        rw [Array.getD_eq_getD_getElem?, arrV_read _ _ (by omega)]
        rfl
      rw [e]
      have hy := hel i hi
      cases hz : zar σ 11 b (sp.toNatClampNeg + i) with
      | none => exact ⟨rfl, trivial⟩
      | some y =>
        rw [hz] at hy
        obtain ⟨cellV, kA, comp, C, kv, kcomp, g1, g2, g3, g4, g5, g6, g7, g8, g9⟩ := zAsg_in hK hC hG (show zAsg 11 (ztg σ y) = true from hy)
        have e5 : kA = k1 := Option.some.inj (g4.symm.trans hk1)
        have e6 : comp = cm1 := by
          rw [e5] at g5
          have := g5.symm.trans hkk1
          cases this
          rfl
        obtain ⟨kv', hkv', -⟩ := hal.2.2 _ _ g7
        obtain ⟨kE', hkE', -⟩ := hal.2.2 _ _ g8
        refine ⟨rfl, cellV, (show T.heap[y]? = some cellV by rw [hT]; exact g1), (fun q h => by rw [h] at g2; cases g2), ⟨kv', hkv'⟩, ?_, ?_⟩
        · rw [← e6]; exact ⟨kE', hkE'⟩
        · show vm₁.assignable _ _ = true
          rw [hal.assignable, ← e6]
          exact g9)
    (g := F0 m pc ls (.int n :: .int dp :: .ref a :: .int sp :: .ref b :: rest)) rfl (by rw [hml]) (rest := rest) rfl (by rw [hb]; exact hdg) hframes (by show 2 * 0 + _ + _ ≤ _; have hw9 : nativeFrameWords "java/lang/System" "arraycopy" 5 ≤ 20 := (by decide); unfold zW at hw; omega)
  have e1 : copied (arrV (G.2 11) (ztg σ b).2.2 (fun j => va_rf (zar σ 11 b j))) (arrV (G.2 11) (ztg σ a).2.2 (fun j => va_rf (zar σ 11 a j))) sp dp n = arrV (G.2 11) (ztg σ a).2.2 (fun j => va_rf (va_cpy (zar σ 11 b) (zar σ 11 a) sp.toNatClampNeg dp.toNatClampNeg n.toNatClampNeg j)) :=
    va_copied (fun z => va_rf z) (G.2 11) (G.2 11) (zar σ 11 b) (zar σ 11 a) h4
  rw [e1] at X' step
  have hl : a < H.size := (Array.getElem?_eq_some_iff.mp hc1).1
  have hl2 : a < T.heap.size := by rw [hT]; exact hl
  generalize hXX : arrV (G.2 11) (ztg σ a).2.2 (fun j => va_rf (va_cpy (zar σ 11 b) (zar σ 11 a) sp.toNatClampNeg dp.toNatClampNeg n.toNatClampNeg j)) = XX at X' step
  have hheap : ((T.setVm vm').setCell a XX).heap = H.setIfInBounds a XX := by rw [← hT]; rfl
  have oq : ∀ q : Nat, q ≠ a → (H.setIfInBounds a XX)[q]? = H[q]? := fun q hq => by simp [Array.getElem?_setIfInBounds, Ne.symm hq]
  have f1 : (H.setIfInBounds a XX)[a]? = some XX := by simp [Array.getElem?_setIfInBounds, hl]
  have hGF : gRep G lo s (sarW σ 11 a (va_cpy (zar σ 11 b) (zar σ 11 a) sp.toNatClampNeg dp.toNatClampNeg n.toNatClampNeg)) (H.setIfInBounds a XX) := by
    refine hG.one (a := a) ?_ (fun b hb => ⟨rfl, fun c' k' => rfl, fun t j => rfl, fun t j => if_neg (fun z => hb z.2)⟩) (fun q g1 g2 => oq q g1)
    have hne : ∀ z : Nat, (ztg σ a).1 = z → z ≠ 3 → False := fun z h1 h2 => h2 (h1.symm.trans ta1)
    refine ⟨fun h => (hne _ h (by decide)).elim, fun h => (hne _ h (by decide)).elim, fun _ => ⟨?_, hlo⟩, fun h => (hne _ h (by decide)).elim, fun h => (hne _ h (by decide)).elim⟩
    show (H.setIfInBounds a XX)[a]? = some (arrV (G.2 (ztg σ a).2.1) (ztg σ a).2.2 (fun j => va_rf (zar (sarW σ 11 a _) (ztg σ a).2.1 a j)))
    rw [f1, ta2, ← hXX]
    congr 2
    funext j
    exact congrArg va_rf (if_pos ⟨rfl, rfl⟩ : zar (sarW σ 11 a (va_cpy (zar σ 11 b) (zar σ 11 a) sp.toNatClampNeg dp.toNatClampNeg n.toNatClampNeg)) 11 a j = _).symm
  obtain ⟨t, a1, b1⟩ := kk _ _ (by simp) hGF ⟨by simp; exact hS0.1, fun q g1 g2 => by
      rw [oq q (fun e => g2 (by rw [e]; exact hlo))]
      exact hS0.2.1 q g1 g2, fun q hq => by
      rcases List.mem_append.mp hq with h | h
      · exact hS0.2.2 q h
      · obtain ⟨z, -, hz⟩ := List.mem_map.mp h
        rw [← hz]
        exact hlo⟩ _ hheap X'
  exact ⟨t, step t a1, b1⟩
end ZM
