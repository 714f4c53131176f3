/-! ONE INSTRUCTION: the machine over fields and the JVM do the same -/
section ZS
variable {p : Program} {l : Launch} {e : Env} {R : Room} {s : State} {m : MethodId} {args : Array Value} {below : List Frame} {meth : Method} {c : Code} {H : Heap} {locs : List Loc} {cells slots : Nat} {Q : State → Prop}
variable {cc : ByteArray} {pc : Nat} {ls : Array Slot} {rest : List Value} {G : zG} {lo : Nat} {σ σ' : zSt} {a : Nat} {H0 : Heap}
theorem gRep.obj (hG : gRep G lo s σ H) (h1 : (ztg σ a).1 = 1) : (ztg σ a).2.1 < 14 ∧ t_OB a (G.1.1 (ztg σ a).2.1) (cRow (ztg σ a).2.1).2.2 (G.1.2 (ztg σ a).2.1) H (fun k => zval σ (ztg σ a).2.1 k a) ∧ lo ≤ a := (hG a).1 h1
theorem gK.cls (hK : gK G s) {ci : Nat} (hc : ci < 14) : u_Kn s (cRow ci).1 (cRow ci).2.1 (cRow ci).2.2 (G.1.1 ci) (G.1.2 ci) := hK.1.1 ci _ (cls_ok ci hc).1
theorem s_get (hexec : p.tables.exec = Jvm.exec) (hb : c.code = cc) (hts : ∀ w ∈ bigW, w.before args s = true) {own ref : String} {n ci k : Nat} (hown : s.vm.findClass own = some m.cls) (hK : gK G s) (hG : gRep G lo s σ H) (hk : k < (cRow ci).2.2)
    (hlink : (Cond.fieldLink own n ref ((cRow ci).2.1 k).2.1 ((cRow ci).2.1 k).2.2.1).before args s = true) (hsame : ∀ x, s.fieldFound? ((cRow ci).2.1 k).1 ((cRow ci).2.1 k).2.1 ((cRow ci).2.1 k).2.2.1 = some x → s.fieldFound? ref ((cRow ci).2.1 k).2.1 ((cRow ci).2.1 k).2.2.1 = some x)
    (ht : (ztg σ a).1 = 1 ∧ (ztg σ a).2.1 = ci) (hdg : decode cc pc = .ok (.getfield n, 3))
    (kk : W p l e R s m args below meth c H locs cells slots Q (F0 m (pc + 3) ls (zval σ ci k a :: rest))) : W p l e R s m args below meth c H locs cells slots Q (F0 m pc ls (.ref a :: rest)) := by
  obtain ⟨t1, rfl⟩ := ht
  obtain ⟨h0, ⟨cell, q1, q2, q3, q4⟩, -⟩ := hG.obj t1
  obtain ⟨hS, hfc, kC, hkC, hkind⟩ := hK.cls h0
  obtain ⟨cf, kf, fi, f, hi, hsl⟩ := hS k hk
  refine W.getf hexec hb hown hlink (hsame _ hi) (u_facts hfc hkC (u_lays hts (lay_ok _ h0) hk) hi).1 q1 (by rw [q3]; exact fun h => by cases h) (v := zval σ (ztg σ a).2.1 k a) ?_ rfl rfl hdg kk
  rw [hsl, q4 k hk]
theorem z_apart (hts : ∀ w ∈ bigW, w.before args s = true) (hK : gK G s) {ci : Nat} (hc : ci < 14) : ∀ x y, x < (cRow ci).2.2 → y < (cRow ci).2.2 → x ≠ y → (G.1.2 ci) x ≠ (G.1.2 ci) y := by
  intro x y hx hy hne
  obtain ⟨hS, -⟩ := hK.cls hc
  obtain ⟨_, _, _, fa, hia, ea⟩ := hS x hx
  obtain ⟨_, _, _, fb, hib, eb⟩ := hS y hy
  rw [← ea, ← eb]
  refine u_apart (u_lays hts (lay_ok _ hc) hx) (u_lays hts (lay_ok _ hc) hy) hia hib ?_
  rw [(State.fieldFound?_type hia (cty_ok ci hc x hx)).1, (State.fieldFound?_type hib (cty_ok ci hc y hy)).1]
  exact nm_ok ci hc x hx y hy hne
theorem s_put (hexec : p.tables.exec = Jvm.exec) (hb : c.code = cc) (hts : ∀ w ∈ bigW, w.before args s = true) {own ref : String} {n ci k : Nat} (hown : s.vm.findClass own = some m.cls) (hK : gK G s) (hG : gRep G lo s σ H) (hS0 : va_S (fun q => lo ≤ q) H0 H locs) (hk : k < (cRow ci).2.2)
    (hlink : (Cond.fieldLink own n ref ((cRow ci).2.1 k).2.1 ((cRow ci).2.1 k).2.2.1).before args s = true) (hsame : ∀ x, s.fieldFound? ((cRow ci).2.1 k).1 ((cRow ci).2.1 k).2.1 ((cRow ci).2.1 k).2.2.1 = some x → s.fieldFound? ref ((cRow ci).2.1 k).2.1 ((cRow ci).2.1 k).2.2.1 = some x)
    (hfin : ((cRow ci).2.1 k).2.2.2 = false ∨ (((cRow ci).2.1 k).2.2.2 = true ∧ ((cRow ci).2.1 k).1 = own ∧ meth.name = "<init>"))
    (ht : (ztg σ a).1 = 1 ∧ (ztg σ a).2.1 = ci) {v : Value} (hn : narrow (cTy ci k) v = v) (hfit : fits (cTy ci k) v = true)
    (e1 : ztg σ' = ztg σ) (e2 : ∀ c' k' b, zval σ' c' k' b = if c' = ci ∧ k' = k ∧ b = a then v else zval σ c' k' b) (e3 : zai σ' = zai σ) (e4 : zar σ' = zar σ) (hdg : decode cc pc = .ok (.putfield n, 3))
    (kk : ∀ (H1 : Heap) (locs1 : List Loc), H1.size = H.size → gRep G lo s σ' H1 → va_S (fun q => lo ≤ q) H0 H1 locs1 → W p l e R s m args below meth c H1 locs1 cells slots Q (F0 m (pc + 3) ls rest)) : W p l e R s m args below meth c H locs cells slots Q (F0 m pc ls (v :: .ref a :: rest)) := by
  obtain ⟨t1, rfl⟩ := ht
  obtain ⟨h0, ⟨cell, q1, q2, q3, q4⟩, hlo⟩ := hG.obj t1
  have hap := z_apart hts hK h0
  obtain ⟨hS, hfc, kC, hkC, hkind⟩ := hK.cls h0
  obtain ⟨cf, kf, fi, f, hi, hsl⟩ := hS k hk
  have hst := (u_facts hfc hkC (u_lays hts (lay_ok _ h0) hk) hi).1
  have hlay := hts _ (lay_ok _ h0 _ (u_in_lay hk))
  have fin : ∀ H' : Heap, H'[a]? = some (cell.setSlot f.slot v) → H'.size = H.size → (∀ q, q ≠ a → H'[q]? = H[q]?) → gRep G lo s σ' H' ∧ va_S (fun q => lo ≤ q) H0 H' (locs ++ [⟨a, f.slot⟩]) := by
    intro H' f1 f2 f3
    refine ⟨hG.one (a := a) ?_ (fun b hb => ⟨by rw [e1], fun c' k' => by rw [e2, if_neg (fun z => hb z.2.2)], fun t j => by rw [e3], fun t j => by rw [e4]⟩) (fun q h1 h2 => f3 q h1), hS0.put f2 f3 hlo⟩
    have hne : ∀ z : Nat, (ztg σ a).1 = z → z ≠ 1 → False := fun z h1 h2 => h2 (h1.symm.trans t1)
    unfold gAt
    rw [e1]
    refine ⟨fun _ => ⟨h0, ⟨_, f1, q2, q3, fun j hj => ?_⟩, hlo⟩, fun h => (hne _ h (by decide)).elim, fun h => (hne _ h (by decide)).elim, fun h => (hne _ h (by decide)).elim, fun h => (hne _ h (by decide)).elim⟩
    rw [hsl, t_set q4 hap hk v j hj]
    show some (updV _ _ _ _) = some (zval σ' _ _ _)
    rw [e2]
    unfold updV
    by_cases hj2 : j = k
    · simp [hj2]
    · simp [hj2]
  have hsz : f.slot < cell.slots.size := by rw [hsl]; exact k2_hasslot (q4 k hk)
  rcases hfin with hfin | ⟨hfin, hdecl, hin2⟩
  · unfold u_lay at hlay
    rw [if_neg (by rw [hfin]; decide)] at hlay
    have h6 := u_store hfc hkC hkind hlay hi (cty_ok _ h0 k hk) hn hfit
    refine W.putK hexec hb (f := f) ⟨hown, hlink, ⟨_, _, _, hsame _ hi⟩, hst⟩ (by rw [q2]; exact h6) q1 q3 hsz rfl rfl hdg fun H' f1 f2 f3 => ?_
    exact kk H' _ f2 (fin H' f1 f2 f3).1 (fin H' f1 f2 f3).2
  · unfold u_lay at hlay
    rw [if_pos hfin] at hlay
    have hcf : m.cls = cf := by
      obtain ⟨_, _, c', _, _, _, -, -, hf', -, -, -, hown2, -⟩ := Cond.laysFinal_spec hlay
      have e1 : c' = cf := by have := hi.symm.trans hf'; simp at this; exact this.1.symm
      rw [hdecl] at hown2
      rw [← e1]; exact Option.some.inj (hown.symm.trans hown2)
    have h6 := u_fits hfc hkC hkind (Or.inr hlay) hi (cty_ok _ h0 k hk) hn hfit
    refine W.putFinK hexec hb hown hlink (hsame _ hi) hst hcf hin2 (by rw [q2]; exact h6) q1 q3 hsz rfl rfl hdg fun H' f1 f2 f3 => ?_
    exact kk H' _ f2 (fin H' f1 f2 f3).1 (fin H' f1 f2 f3).2
theorem arrNe {cA : ClassId} {N : Nat} {f : Nat → Value} : (arrV cA N f).vm ≠ .unknown := fun h => by cases h
theorem s_ild (hexec : p.tables.exec = Jvm.exec) (hb : c.code = cc) (hK : gK G s) (hG : gRep G lo s σ H) {i : Int32} {z : Bool} (ht : (ztg σ a).1 = 2 ∨ (ztg σ a).1 = 4) (hty : siteTy (ztg σ a).2.1 = if z then .boolean else .int) (hin : ¬ (i < 0 ∨ (ztg σ a).2.2 ≤ i.toNatClampNeg)) (hdg : decode cc pc = .ok (if z then .baload else .iaload, 1))
    (kk : W p l e R s m args below meth c H locs cells slots Q (F0 m (pc + 1) ls (.int (zai σ (ztg σ a).2.1 a i.toNatClampNeg) :: rest))) : W p l e R s m args below meth c H locs cells slots Q (F0 m pc ls (.int i :: .ref a :: rest)) := by
  have hlt : i.toNatClampNeg < (ztg σ a).2.2 := Nat.not_le.mp fun q => hin (Or.inr q)
  rcases ht with ht | ht
  · obtain ⟨hcell, -⟩ := (hG a).2.1 ht
    have ha := (hK.2 (ztg σ a).2.1).1 (ztg σ a).2.2 (fun j => .int (zai σ (ztg σ a).2.1 a j))
    rw [hty] at ha
    cases z with
    | false => exact W.iald (v := .int (zai σ (ztg σ a).2.1 a i.toNatClampNeg)) hexec hb hcell ha arrNe (by rw [arrV_size]; exact hin) (by rw [arrV_read _ _ hlt]) rfl rfl hdg kk
    | true => exact W.zald (v := .int (zai σ (ztg σ a).2.1 a i.toNatClampNeg)) hexec hb hcell ha arrNe (by rw [arrV_size]; exact hin) (by rw [arrV_read _ _ hlt]) rfl rfl hdg kk
  · obtain ⟨h0, ⟨scr, h1, h2, h3, h4, h5⟩, h6⟩ := (hG a).2.2.2.1 ht
    rw [h0] at hty
    cases z with
    | false => exact W.iald hexec hb h1 h2 h3 (by rw [h4]; exact hin) (h5 _ hlt) rfl rfl hdg kk
    | true => cases hty
theorem s_ist (hexec : p.tables.exec = Jvm.exec) (hb : c.code = cc) (hK : gK G s) (hG : gRep G lo s σ H) (hS0 : va_S (fun q => lo ≤ q) H0 H locs) {i x : Int32} {z : Bool} (ht : (ztg σ a).1 = 2) (hty : siteTy (ztg σ a).2.1 = if z then .boolean else .int) (hin : ¬ (i < 0 ∨ (ztg σ a).2.2 ≤ i.toNatClampNeg)) (hz : z = true → x = 0 ∨ x = 1) (hdg : decode cc pc = .ok (if z then .bastore else .iastore, 1))
    (kk : ∀ (H1 : Heap) (locs1 : List Loc), H1.size = H.size → gRep G lo s (sai σ (ztg σ a).2.1 a i.toNatClampNeg x) H1 → va_S (fun q => lo ≤ q) H0 H1 locs1 → W p l e R s m args below meth c H1 locs1 cells slots Q (F0 m (pc + 1) ls rest)) : W p l e R s m args below meth c H locs cells slots Q (F0 m pc ls (.int x :: .int i :: .ref a :: rest)) := by
  obtain ⟨hcell, hlo⟩ := (hG a).2.1 ht
  have ha := (hK.2 (ztg σ a).2.1).1 (ztg σ a).2.2 (fun j => .int (zai σ (ztg σ a).2.1 a j))
  rw [hty] at ha
  have fin : ∀ H' : Heap, H'[a]? = some ((arrV (G.2 (ztg σ a).2.1) (ztg σ a).2.2 (fun j => .int (zai σ (ztg σ a).2.1 a j))).setSlot i.toNatClampNeg (.int x)) → H'.size = H.size → (∀ q, q ≠ a → H'[q]? = H[q]?) → gRep G lo s (sai σ (ztg σ a).2.1 a i.toNatClampNeg x) H' ∧ va_S (fun q => lo ≤ q) H0 H' (locs ++ [⟨a, i.toNatClampNeg⟩]) := by
    intro H' f1 f2 f3
    refine ⟨hG.one (a := a) ?_ (fun b hb => ⟨rfl, fun c' k' => rfl, fun t j => if_neg (fun z => hb z.2.1), fun t j => rfl⟩) (fun q h1 h2 => f3 q h1), hS0.put f2 f3 hlo⟩
    have hne : ∀ z : Nat, (ztg σ a).1 = z → z ≠ 2 → False := fun z h1 h2 => h2 (h1.symm.trans ht)
    refine ⟨fun h => (hne _ h (by decide)).elim, fun _ => ⟨?_, hlo⟩, fun h => (hne _ h (by decide)).elim, fun h => (hne _ h (by decide)).elim, fun h => (hne _ h (by decide)).elim⟩
    rw [f1, arrV_store]
    congr 2
    funext j
    show updV _ _ _ _ = Value.int (if _ then _ else _)
    unfold updV
    by_cases hj2 : j = i.toNatClampNeg
    · rw [if_pos hj2, if_pos ⟨rfl, rfl, hj2⟩]
    · rw [if_neg hj2, if_neg (fun z => hj2 z.2.2)]
      rfl
  cases z with
  | false => exact W.iast hexec hb hcell ha arrNe (by rw [arrV_size]; exact hin) rfl rfl hdg fun H' f1 f2 f3 => kk H' _ f2 (fin H' f1 f2 f3).1 (fin H' f1 f2 f3).2
  | true =>
    have hx : narrow .boolean (.int x) = .int x := by rcases hz rfl with rfl | rfl <;> rfl
    exact W.zast hexec hb hcell ha arrNe (by rw [arrV_size]; exact hin) rfl rfl hdg fun H' f1 f2 f3 => kk H' _ f2 (fin H' (by rw [f1, hx]) f2 f3).1 (fin H' (by rw [f1, hx]) f2 f3).2
theorem s_ald (hexec : p.tables.exec = Jvm.exec) (hb : c.code = cc) (hK : gK G s) (hG : gRep G lo s σ H) {i : Int32} (ht : (ztg σ a).1 = 3) (hty : (siteTy (ztg σ a).2.1).isReference = true) (hin : ¬ (i < 0 ∨ (ztg σ a).2.2 ≤ i.toNatClampNeg)) {q : Nat} (hq : zar σ (ztg σ a).2.1 a i.toNatClampNeg = some q) (hdg : decode cc pc = .ok (.aaload, 1))
    (kk : W p l e R s m args below meth c H locs cells slots Q (F0 m (pc + 1) ls (.ref q :: rest))) : W p l e R s m args below meth c H locs cells slots Q (F0 m pc ls (.int i :: .ref a :: rest)) := by
  have hlt : i.toNatClampNeg < (ztg σ a).2.2 := Nat.not_le.mp fun q => hin (Or.inr q)
  obtain ⟨hcell, -⟩ := (hG a).2.2.1 ht
  exact W.aald (v := .ref q) hexec hb hcell ((hK.2 (ztg σ a).2.1).1 _ _) hty arrNe (by rw [arrV_size]; exact hin) (by rw [arrV_read _ _ hlt, hq]; rfl) rfl rfl hdg kk
theorem zAsg_spec {t : Nat} {g : Nat × Nat × Nat} (h : zAsg t g = true) : g.1 = 1 ∧ ∃ C, siteTy t = .object C ∧ ((C = cNm g.2.1 ∧ g.2.1 < 14) ∨ (C = "java/lang/Object" ∧ (g.2.1 = 0 ∨ g.2.1 = 3 ∨ g.2.1 = 8))) := by
  simp only [zAsg, Bool.and_eq_true, Bool.or_eq_true, beq_iff_eq] at h
  obtain ⟨h1, h2⟩ := h
  refine ⟨h1, ?_⟩
  rcases h2 with (⟨rfl | rfl, h3⟩ | ⟨rfl, h3⟩) | ⟨rfl, h3⟩
  · exact ⟨_, rfl, Or.inl ⟨by rw [h3]; rfl, by omega⟩⟩
  · exact ⟨_, rfl, Or.inl ⟨by rw [h3]; rfl, by omega⟩⟩
  · exact ⟨_, rfl, Or.inl ⟨by rw [h3]; rfl, by omega⟩⟩
  · exact ⟨_, rfl, Or.inr ⟨rfl, by omega⟩⟩
/-- an object that an array takes: its cell, its class, and that the class goes in -/
theorem zAsg_in (hK : gK G s) (hC : zCst s) (hG : gRep G lo s σ H) {t v : Nat} (h : zAsg t (ztg σ v) = true) : ∃ (cell : Cell) (kA : Class) (comp : ClassId) (C : String) (kv kcomp : Class), H[v]? = some cell ∧ cell.vm = .none ∧ siteTy t = .object C ∧ s.vm.classes[G.2 t]? = some kA ∧ kA.kind = .array comp (.object C) ∧ s.vm.findClass C = some comp ∧ s.vm.classes[cell.cls]? = some kv ∧ s.vm.classes[comp]? = some kcomp ∧ s.vm.assignable cell.cls comp = true := by
  obtain ⟨h1, C, h2, h3⟩ := zAsg_spec h
  obtain ⟨h0, ⟨cell, q1, q2, q3, q4⟩, -⟩ := hG.obj h1
  have hcl := (hK.cls h0).2
  rw [(cls_ok _ h0).2] at hcl
  have hra := (hK.2 t).2
  rw [h2] at hra
  obtain ⟨kA, comp, k1, k2, k3, -⟩ := hra
  obtain ⟨kC, hkC, hkind⟩ := hcl.2
  rcases h3 with ⟨rfl, -⟩ | ⟨rfl, h4⟩
  · have hcomp : comp = G.1.1 (ztg σ v).2.1 := Option.some.inj (k3.symm.trans hcl.1)
    exact ⟨cell, kA, comp, _, kC, kC, q1, q3, h2, k1, k2, k3, by rw [q2]; exact hkC, by rw [hcomp]; exact hkC, by rw [q2, hcomp]; exact va_assign hcl⟩
  · obtain ⟨c0, t0, f1, f2, f3⟩ := Cond.castable_spec (va_Nw.use (A := #[]) rfl (hC _ h4))
    have e1 : c0 = G.1.1 (ztg σ v).2.1 := Option.some.inj (f1.symm.trans hcl.1)
    have e2 : t0 = comp := Option.some.inj (f2.symm.trans k3)
    obtain ⟨kE, hkE, -⟩ := Vm.findClass_spec k3
    exact ⟨cell, kA, comp, _, kC, kE, q1, q3, h2, k1, k2, k3, by rw [q2]; exact hkC, hkE, by rw [q2, ← e1, ← e2]; exact f3⟩
theorem sar_rep (hG : gRep G lo s σ H) (hS0 : va_S (fun q => lo ≤ q) H0 H locs) {i : Nat} {r : Option Nat} (ht : (ztg σ a).1 = 3) {H' : Heap} (f1 : H'[a]? = some ((arrV (G.2 (ztg σ a).2.1) (ztg σ a).2.2 (fun j => va_rf (zar σ (ztg σ a).2.1 a j))).setSlot i (va_rf r))) (f2 : H'.size = H.size) (f3 : ∀ q, q ≠ a → H'[q]? = H[q]?) : gRep G lo s (sar σ (ztg σ a).2.1 a i r) H' ∧ va_S (fun q => lo ≤ q) H0 H' (locs ++ [⟨a, i⟩]) := by
  obtain ⟨hcell, hlo⟩ := (hG a).2.2.1 ht
  refine ⟨hG.one (a := a) ?_ (fun b hb => ⟨rfl, fun c' k' => rfl, fun t j => rfl, fun t j => if_neg (fun z => hb z.2.1)⟩) (fun q h1 h2 => f3 q h1), hS0.put f2 f3 hlo⟩
  have hne : ∀ z : Nat, (ztg σ a).1 = z → z ≠ 3 → False := fun z h1 h2 => h2 (h1.symm.trans ht)
  refine ⟨fun h => (hne _ h (by decide)).elim, fun h => (hne _ h (by decide)).elim, fun _ => ⟨?_, hlo⟩, fun h => (hne _ h (by decide)).elim, fun h => (hne _ h (by decide)).elim⟩
  rw [f1, arrV_store]
  congr 2
  funext j
  show updV _ _ _ _ = va_rf (if _ then _ else _)
  unfold updV
  by_cases hj2 : j = i
  · rw [if_pos hj2, if_pos ⟨rfl, rfl, hj2⟩]
  · rw [if_neg hj2, if_neg (fun z => hj2 z.2.2)]
    rfl
theorem s_ast (hexec : p.tables.exec = Jvm.exec) (hb : c.code = cc) (hK : gK G s) (hC : zCst s) (hG : gRep G lo s σ H) (hS0 : va_S (fun q => lo ≤ q) H0 H locs) {i : Int32} {v : Nat} (ht : (ztg σ a).1 = 3) (hv : zAsg (ztg σ a).2.1 (ztg σ v) = true) (hin : ¬ (i < 0 ∨ (ztg σ a).2.2 ≤ i.toNatClampNeg)) (hdg : decode cc pc = .ok (.aastore, 1))
    (kk : ∀ (H1 : Heap) (locs1 : List Loc), H1.size = H.size → gRep G lo s (sar σ (ztg σ a).2.1 a i.toNatClampNeg (some v)) H1 → va_S (fun q => lo ≤ q) H0 H1 locs1 → W p l e R s m args below meth c H1 locs1 cells slots Q (F0 m (pc + 1) ls rest)) : W p l e R s m args below meth c H locs cells slots Q (F0 m pc ls (.ref v :: .int i :: .ref a :: rest)) := by
  obtain ⟨hcell, hlo⟩ := (hG a).2.2.1 ht
  obtain ⟨cv, kA, comp, C, kv, kcomp, g1, g2, g3, g4, g5, g6, g7, g8, g9⟩ := zAsg_in hK hC hG hv
  have hlt : i.toNatClampNeg < (ztg σ a).2.2 := Nat.not_le.mp fun q => hin (Or.inr q)
  refine W.aast hexec hb hcell (fun q h => by cases h) (fun h => by cases h) g4 g5 rfl g8 ⟨fun q => hin (Or.inl q), by show _ < (arrV _ _ _).slots.size; rw [arrV_size]; exact hlt⟩ g1 (fun q h => by rw [g2] at h; cases h) g7 g9 rfl rfl hdg fun H' f1 f2 f3 => ?_
  have := sar_rep (H0 := H0) hG hS0 (r := some v) ht f1 f2 f3
  exact kk H' _ f2 this.1 this.2
theorem s_astN (hexec : p.tables.exec = Jvm.exec) (hb : c.code = cc) (hK : gK G s) (hG : gRep G lo s σ H) (hS0 : va_S (fun q => lo ≤ q) H0 H locs) {i : Int32} (ht : (ztg σ a).1 = 3) (hty : (siteTy (ztg σ a).2.1).isReference = true) (hin : ¬ (i < 0 ∨ (ztg σ a).2.2 ≤ i.toNatClampNeg)) (hdg : decode cc pc = .ok (.aastore, 1))
    (kk : ∀ (H1 : Heap) (locs1 : List Loc), H1.size = H.size → gRep G lo s (sar σ (ztg σ a).2.1 a i.toNatClampNeg none) H1 → va_S (fun q => lo ≤ q) H0 H1 locs1 → W p l e R s m args below meth c H1 locs1 cells slots Q (F0 m (pc + 1) ls rest)) : W p l e R s m args below meth c H locs cells slots Q (F0 m pc ls (.null :: .int i :: .ref a :: rest)) := by
  obtain ⟨hcell, hlo⟩ := (hG a).2.2.1 ht
  have hlt : i.toNatClampNeg < (ztg σ a).2.2 := Nat.not_le.mp fun q => hin (Or.inr q)
  obtain ⟨-, k, hk, comp, hkk⟩ := (hK.2 (ztg σ a).2.1).1 (ztg σ a).2.2 (fun j => va_rf (zar σ (ztg σ a).2.1 a j))
  intro T hT X
  have hT' : T.heap[a]? = some (arrV (G.2 (ztg σ a).2.1) (ztg σ a).2.2 (fun j => va_rf (zar σ (ztg σ a).2.1 a j))) := by rw [hT]; exact hcell
  obtain ⟨X', st⟩ := X.aastoreNullInK hexec hT' (fun q h => by cases h) (fun h => by cases h) hk hkk hty ⟨fun q => hin (Or.inl q), by rw [arrV_size]; exact hlt⟩ (g := F0 m pc ls (.null :: .int i :: .ref a :: rest)) rfl rfl (by rw [hb]; exact hdg)
  have hl : a < T.heap.size := (Array.getElem?_eq_some_iff.mp hT').1
  have := sar_rep (H0 := H0) hG hS0 (i := i.toNatClampNeg) (r := none) ht (heapAt_setCell_self _ hl) (by rw [size_setCell, hT]) (fun q hq => by rw [heapAt_setCell_ne _ (Ne.symm hq), hT])
  obtain ⟨t', a1, b1⟩ := kk _ _ (by rw [size_setCell, hT]) this.1 this.2 _ rfl X'
  exact ⟨t', st t' a1, b1⟩
theorem s_len (hexec : p.tables.exec = Jvm.exec) (hb : c.code = cc) (hK : gK G s) (hG : gRep G lo s σ H) (ht : (ztg σ a).1 = 2 ∨ (ztg σ a).1 = 3 ∨ (ztg σ a).1 = 4) (hdg : decode cc pc = .ok (.arraylength, 1))
    (kk : W p l e R s m args below meth c H locs cells slots Q (F0 m (pc + 1) ls (.int (Int32.ofNat (ztg σ a).2.2) :: rest))) : W p l e R s m args below meth c H locs cells slots Q (F0 m pc ls (.ref a :: rest)) := by
  rcases ht with ht | ht | ht
  · obtain ⟨hcell, -⟩ := (hG a).2.1 ht
    exact W.alen (n := Int32.ofNat (ztg σ a).2.2) hexec hb hcell ((hK.2 (ztg σ a).2.1).1 _ _) (by rw [arrV_size]) rfl rfl hdg kk
  · obtain ⟨hcell, -⟩ := (hG a).2.2.1 ht
    exact W.alen (n := Int32.ofNat (ztg σ a).2.2) hexec hb hcell ((hK.2 (ztg σ a).2.1).1 _ _) (by rw [arrV_size]) rfl rfl hdg kk
  · obtain ⟨h0, ⟨scr, h1, h2, h3, h4, h5⟩, h6⟩ := (hG a).2.2.2.1 ht
    exact W.alen (n := Int32.ofNat (ztg σ a).2.2) hexec hb h1 h2 (by rw [h4]) rfl rfl hdg kk
theorem s_len0 (hexec : p.tables.exec = Jvm.exec) (hb : c.code = cc) (hG : gRep G lo s σ H) (ht : (ztg σ a).1 = 5) (hdg : decode cc pc = .ok (.arraylength, 1))
    (kk : W p l e R s m args below meth c H locs cells slots Q (F0 m (pc + 1) ls (.int 0 :: rest))) : W p l e R s m args below meth c H locs cells slots Q (F0 m pc ls (.ref a :: rest)) := by
  obtain ⟨cell, h1, h2, h3, h4, h5, h6, h7⟩ := (hG a).2.2.2.2 ht
  exact W.alen (n := 0) hexec hb h1 h2 h5 rfl rfl hdg kk
end ZS
