/-! THE CLAIM OUT OF ONE WALK OF THE LAW'S BODY. Your part is whole_start (and what it stands on); all else here is the same for every law, but numbers. -/
def R_law : String := "BuildCacheLaw"
def lw_P (b : Addr) (xs : List Int32) (args : Array Value) (s : State) : Prop := args = #[.ref b] ∧ s.IntsAt b xs ∧ xs.length ≤ 2048 ∧ (Jvm.Cond.and given_1 narrow_1).before args s = true
def lw_Q (_ : Array Value) (s : State) (o : Outcome) (t : State) : Prop := o = .returned (some (.int 1)) ∧ Framed s o t [] 600000 7302250
def lw_Z (below : List Frame) (a : Array Value) (s : State) : State → Prop := fun t => ∃ o, t.status = .running ∧ Ended t below o ∧ lw_Q a s o t
/-- the law's own end, with 1 on the stack, nothing written that was there before, its room as the claim has it -/
theorem lw_ret {p : Program} {l : Launch} {e : Env} {s : State} {m : MethodId} {below : List Frame} {meth : Method} {c : Code} {b : Nat} (hx : p.tables.exec = Jvm.exec) (hb : c.code = code) (hr : meth.sig.returnType = ret) (hlocks : meth.locks = false) {pc : Nat} {H : Heap} {ls : Array Slot} (hdg : decode code pc = .ok (.ireturn, 1)) : W p l e room_1 s m #[Value.ref b] below meth c H [] 600000 7302250 (lw_Z below #[Value.ref b] s) (F0 m pc ls [.int 1]) := by
  intro T hT X
  obtain ⟨fs, hret, hrun, hended, hW, hframe⟩ := X.leave (v := some (.int 1)) (hlocks := hlocks) (fun h => by rw [hr] at h; cases h)
  have hmeth' : T.vm.method? m = some meth := X.method'
  refine ⟨T.setFrames fs, ?_, .returned (some (.int 1)), hrun, hended, rfl, ⟨_, rfl⟩, hW, hframe⟩
  jvm_step X.here [X.here.top, hx, hb, hdg, hmeth', hr, ret, narrow_b1]
  (try refine ⟨rfl, ?_⟩); (try refine ⟨rfl, ?_⟩)
  first | (intro acts; rw [hret _ acts rfl rfl rfl]) | rw [hret _ _ rfl rfl rfl]
  exact Steps.refl _
/-- what holds at the law's entry: the machine, the code, the tables' words (any of lw_tbl by 'hts w (by decide +kernel)'), the script of L ints xs at the cell b, what the Statement gives of the start (any of its parts by flat_of_before) -/
def lw_At (p : Program) (s : State) (m : MethodId) (meth : Method) (c : Code) (b L : Nat) (xs : Nat → Int32) : Prop :=
  p.tables.exec = Jvm.exec ∧ c.code = code ∧ meth.sig.returnType = ret ∧ c.maxLocals = 4 ∧ s.vm.findClass R_law = some m.cls ∧ (∀ w ∈ lw_tbl, w.before #[Value.ref b] s = true) ∧ va_X b L xs s s.heap ∧ b < s.heap.size ∧ meth.locks = false ∧ (Jvm.Cond.and given_1 narrow_1).before #[Value.ref b] s = true
set_option maxHeartbeats 4000000 in
theorem whole_start_of (hz : zLawOK) {p : Program} {e : Env} {s : State} {m : MethodId} {below : List Frame} {meth : Method} {c : Code} (l : Launch) {b L : Nat} {xs : Nat → Int32} (hL : L ≤ 2048) (C0 : lw_At p s m meth c b L xs) : W p l e room_1 s m #[Value.ref b] below meth c s.heap [] 0 0 (lw_Z below #[Value.ref b] s) (entryFrame m ([Value.ref b] : List Value).toArray 4) := by
  obtain ⟨hx, hb, hr, hml, hown, hts, hX, hbl, hlocks, hgv⟩ := id C0
  obtain ⟨G, hK⟩ := gK_start hts
  obtain ⟨ee, mi, hgS, hT0⟩ := gS_start hts hgv
  have hee : ee < s.heap.size := by obtain ⟨cell, h1, -⟩ := hT0; exact (Array.getElem?_eq_some_iff.mp h1).1
  have hne := z_apart0 hX hT0
  obtain ⟨n, u, hrun, hu, hc1, hc2⟩ := hz b ee mi s.heap.size L xs hL hbl hee hne
  have hGr : gRep G s.heap.size s (zInit b ee mi s.heap.size L xs) s.heap := by
    intro a
    by_cases e1 : a = b
    · subst e1
      have htg : ztg (zInit a ee mi s.heap.size L xs) a = (4, 12, L) := if_pos rfl
      have hn : ∀ z : Nat, (4 : Nat) = z → z ≠ 4 → False := fun z g1 g2 => g2 g1.symm
      unfold gAt
      rw [htg]
      exact ⟨fun h => (hn _ h (by decide)).elim, fun h => (hn _ h (by decide)).elim, fun h => (hn _ h (by decide)).elim, fun _ => ⟨rfl, hX, Nat.not_le.mpr hbl⟩, fun h => (hn _ h (by decide)).elim⟩
    · by_cases e2 : a = ee
      · subst e2
        have htg : ztg (zInit b a mi s.heap.size L xs) a = (5, 0, 0) := (if_neg e1).trans (if_pos rfl)
        have hn : ∀ z : Nat, (5 : Nat) = z → z ≠ 5 → False := fun z g1 g2 => g2 g1.symm
        unfold gAt
        rw [htg]
        exact ⟨fun h => (hn _ h (by decide)).elim, fun h => (hn _ h (by decide)).elim, fun h => (hn _ h (by decide)).elim, fun h => (hn _ h (by decide)).elim, fun _ => hT0⟩
      · have htg : ztg (zInit b ee mi s.heap.size L xs) a = (0, 0, 0) := (if_neg e1).trans (if_neg e2)
        have hn : ∀ z : Nat, (0 : Nat) = z → z ≠ 0 → False := fun z g1 g2 => g2 g1.symm
        unfold gAt
        rw [htg]
        exact ⟨fun h => (hn _ h (by decide)).elim, fun h => (hn _ h (by decide)).elim, fun h => (hn _ h (by decide)).elim, fun h => (hn _ h (by decide)).elim, fun h => (hn _ h (by decide)).elim⟩
  rw [lg_entry_eq]
  have hl := zLH_entry (m := 204) (vs := [.ref b]) (show 1 ≤ mL 204 by decide +kernel)
  have key := zRun_good l G s.heap.size n 204 0 _ _ _ _ hrun p e room_1 s m #[Value.ref b] below meth c s.heap [] (lw_Z below #[Value.ref b] s) _ s.heap.size 0
    ⟨hx, hb, hml, hown, fun w hw => hts w (bigW_tbl hw), fun h => absurd h (by decide +kernel), hK, hgS, Nat.le_refl _⟩ rfl hGr va_S.rf hl (by decide +kernel) (by decide +kernel) (Nat.le_refl _) (Nat.le_refl _) hc1 hc2
    (fun H1 locs1 pc1 ls1 i k1 k2 k3 k4 k5 => by
      obtain ⟨r, σ1⟩ := u
      dsimp only at hu hc1 hc2 k5 ⊢
      subst hu
      refine va_forget (fun q hq => k3.2.2 q hq) ?_
      refine W.widen (k := 600000) (n := 7302250) hc1 hc2 ?_
      have hi : i = .ireturn := by
        cases i <;> first | rfl | cases k5
      subst hi
      exact lw_ret hx hb hr hlocks k4)
  have e0 : znx (zInit b ee mi s.heap.size L xs) - s.heap.size = 0 := Nat.sub_self _
  have e1 : zsl (zInit b ee mi s.heap.size L xs) - 0 = 0 := rfl
  rw [e0, e1] at key
  exact key
