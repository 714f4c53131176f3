/-! WHAT THE MACHINE OVER FIELDS SAYS OF THE JVM's HEAP -/
theorem zip_mem {α β : Type} : ∀ {l : List α} {k : List β}, l.length = k.length → ∀ {q : α}, q ∈ l → ∃ w, (q, w) ∈ l.zip k
  | [], _, _, _, h => absurd h List.not_mem_nil
  | a :: l, [], e, _, _ => by cases e
  | a :: l, b :: k, e, q, h => by
    rcases List.mem_cons.mp h with rfl | h
    · exact ⟨b, by simp⟩
    · obtain ⟨w, hw⟩ := zip_mem (l := l) (k := k) (by simpa using e) h
      exact ⟨w, by simp [hw]⟩
theorem any_mem {α : Type} {l : List α} {p : α → Bool} (h : l.any p = true) : ∃ q ∈ l, p q = true := by simpa using h
def cTyl : List (Nat → FieldType) := [tyX0, tyX1, tyX2, tyX3, tyX4, tyX5, tyX6, tyX7, tyX8, tyX9, tyX10, tyX11, tyX12, tyJx4a65c]
def cTy (c k : Nat) : FieldType := (cTyl.getD c (fun _ => .int)) k
theorem cls_ok : ∀ c, c < 14 → classes[c]? = some (cRow c) ∧ (cRow c).1 = cNm c := by
  intro c h
  rcases (show c = 0 ∨ c = 1 ∨ c = 2 ∨ c = 3 ∨ c = 4 ∨ c = 5 ∨ c = 6 ∨ c = 7 ∨ c = 8 ∨ c = 9 ∨ c = 10 ∨ c = 11 ∨ c = 12 ∨ c = 13 by omega) with rfl | rfl | rfl | rfl | rfl | rfl | rfl | rfl | rfl | rfl | rfl | rfl | rfl | rfl <;> exact ⟨rfl, rfl⟩
theorem lay_ok : ∀ c, c < 14 → ∀ w ∈ u_ws (cRow c).1 (cRow c).2.1 (cRow c).2.2, w ∈ bigW := by
  intro c h
  rcases (show c = 0 ∨ c = 1 ∨ c = 2 ∨ c = 3 ∨ c = 4 ∨ c = 5 ∨ c = 6 ∨ c = 7 ∨ c = 8 ∨ c = 9 ∨ c = 10 ∨ c = 11 ∨ c = 12 ∨ c = 13 by omega) with rfl | rfl | rfl | rfl | rfl | rfl | rfl | rfl | rfl | rfl | rfl | rfl | rfl | rfl
  · exact lay_0
  · exact lay_1
  · exact lay_2
  · exact lay_3
  · exact lay_4
  · exact lay_5
  · exact lay_6
  · exact lay_7
  · exact lay_8
  · exact lay_9
  · exact lay_10
  · exact lay_11
  · exact lay_12
  · exact lay_13
theorem cty_ok : ∀ c, c < 14 → ∀ k, k < (cRow c).2.2 → parseFieldDescriptor ((cRow c).2.1 k).2.2.1 = some (cTy c k) := by decide +kernel
theorem nm_ok : ∀ c, c < 14 → ∀ a, a < (cRow c).2.2 → ∀ b, b < (cRow c).2.2 → a ≠ b → ((cRow c).2.1 a).2.1 ≠ ((cRow c).2.1 b).2.1 := by decide +kernel
theorem fty_ok : ∀ c, c < 14 → ∀ k, k < (cRow c).2.2 → (fTy c k = 0 ∧ cTy c k = .int) ∨ (fTy c k = 1 ∧ cTy c k = .long) ∨ (fTy c k = 3 ∧ cTy c k = .boolean) ∨ (fTy c k = 2 ∧ (cTy c k).isReference = true) := by decide +kernel
abbrev zG : Type := va_G × (Nat → ClassId)
def gAt (G : zG) (lo : Nat) (U : State) (σ : zSt) (H : Heap) (a : Nat) : Prop :=
  ((ztg σ a).1 = 1 → (ztg σ a).2.1 < 14 ∧ t_OB a (G.1.1 (ztg σ a).2.1) (cRow (ztg σ a).2.1).2.2 (G.1.2 (ztg σ a).2.1) H (fun k => zval σ (ztg σ a).2.1 k a) ∧ lo ≤ a) ∧
  ((ztg σ a).1 = 2 → H[a]? = some (arrV (G.2 (ztg σ a).2.1) (ztg σ a).2.2 (fun j => .int (zai σ (ztg σ a).2.1 a j))) ∧ lo ≤ a) ∧
  ((ztg σ a).1 = 3 → H[a]? = some (arrV (G.2 (ztg σ a).2.1) (ztg σ a).2.2 (fun j => va_rf (zar σ (ztg σ a).2.1 a j))) ∧ lo ≤ a) ∧
  ((ztg σ a).1 = 4 → siteTy (ztg σ a).2.1 = .int ∧ va_X a (ztg σ a).2.2 (zai σ (ztg σ a).2.1 a) U H ∧ ¬ lo ≤ a) ∧
  ((ztg σ a).1 = 5 → va_T (.object "java/lang/Object") a 0 (fun _ => .null) (fun q => lo ≤ q) U H)
def gRep (G : zG) (lo : Nat) (U : State) (σ : zSt) (H : Heap) : Prop := ∀ a, gAt G lo U σ H a
def gSame (σ σ' : zSt) (b : Nat) : Prop := ztg σ' b = ztg σ b ∧ (∀ c k, zval σ' c k b = zval σ c k b) ∧ (∀ t j, zai σ' t b j = zai σ t b j) ∧ (∀ t j, zar σ' t b j = zar σ t b j)
theorem gSame.rf (σ : zSt) (b : Nat) : gSame σ σ b := ⟨rfl, fun _ _ => rfl, fun _ _ => rfl, fun _ _ => rfl⟩
theorem gAt.kept {G : zG} {lo : Nat} {U : State} {σ σ' : zSt} {H H' : Heap} {b : Nat} (h : gAt G lo U σ H b) (hs : gSame σ σ' b) (hq : b < H.size → H'[b]? = H[b]?) : gAt G lo U σ' H' b := by
  obtain ⟨s1, s2, s3, s4⟩ := hs
  unfold gAt
  rw [s1]
  refine ⟨fun ht => ?_, fun ht => ?_, fun ht => ?_, fun ht => ?_, fun ht => ?_⟩
  · obtain ⟨h1, h2, h3⟩ := h.1 ht
    obtain ⟨cell, q1, q2⟩ := h2
    have hb : b < H.size := (Array.getElem?_eq_some_iff.mp q1).1
    refine ⟨h1, ⟨cell, by rw [hq hb]; exact q1, q2.1, q2.2.1, fun k hk => ?_⟩, h3⟩
    show cell.slots[_]? = some (zval σ' (ztg σ b).2.1 k b)
    rw [s2]
    exact q2.2.2 k hk
  · obtain ⟨h1, h2⟩ := h.2.1 ht
    have hb : b < H.size := (Array.getElem?_eq_some_iff.mp h1).1
    refine ⟨?_, h2⟩
    rw [hq hb, h1]
    congr 2
    funext j
    rw [s3]
  · obtain ⟨h1, h2⟩ := h.2.2.1 ht
    have hb : b < H.size := (Array.getElem?_eq_some_iff.mp h1).1
    refine ⟨?_, h2⟩
    rw [hq hb, h1]
    congr 2
    funext j
    rw [s4]
  · obtain ⟨h0, ⟨scr, h1, h2, h3, h4, h5⟩, h6⟩ := h.2.2.2.1 ht
    have hb : b < H.size := (Array.getElem?_eq_some_iff.mp h1).1
    exact ⟨h0, ⟨scr, by rw [hq hb]; exact h1, h2, h3, h4, fun j hj => by rw [s3]; exact h5 j hj⟩, h6⟩
  · obtain ⟨cell, h1, h2⟩ := h.2.2.2.2 ht
    have hb : b < H.size := (Array.getElem?_eq_some_iff.mp h1).1
    exact ⟨cell, by rw [hq hb]; exact h1, h2⟩
theorem gRep.one {G : zG} {lo : Nat} {U : State} {σ σ' : zSt} {H H' : Heap} {a : Nat} (h : gRep G lo U σ H) (ha : gAt G lo U σ' H' a) (ho : ∀ b, b ≠ a → gSame σ σ' b) (oq : ∀ q, q ≠ a → q < H.size → H'[q]? = H[q]?) : gRep G lo U σ' H' := by
  intro b
  by_cases e : b = a
  · rw [e]; exact ha
  · exact (h b).kept (ho b e) (oq b e)
theorem gAt.moved {G : zG} {lo : Nat} {u U : State} {σ : zSt} {H : Heap} {b : Nat} (hvm : u.vm.Alike U.vm) (h : gAt G lo u σ H b) : gAt G lo U σ H b :=
  ⟨h.1, h.2.1, h.2.2.1, fun ht => ⟨(h.2.2.2.1 ht).1, (h.2.2.2.1 ht).2.1.moved hvm, (h.2.2.2.1 ht).2.2⟩, fun ht => (h.2.2.2.2 ht).moved hvm⟩
theorem gRep.moved {G : zG} {lo : Nat} {u U : State} {σ : zSt} {H : Heap} (hvm : u.vm.Alike U.vm) (h : gRep G lo u σ H) : gRep G lo U σ H := fun a => (h a).moved hvm
def gK (G : zG) (U : State) : Prop := va_K G.1 classes [] U ∧ ∀ t, ArrOfT U (G.2 t) (siteTy t) ∧ va_RA U (G.2 t) (siteTy t)
theorem gK.moved {G : zG} {u U : State} (hvm : u.vm.Alike U.vm) (h : gK G u) : gK G U := ⟨h.1.moved hvm, fun t => ⟨arrOfT_moved hvm (h.2 t).1, (h.2 t).2.moved hvm⟩⟩
/-- an array class over arrays of ints, kept over the machine's own steps -/
def zAOA (U : State) : Prop := (Cond.arrayOver (.array .int)).before #[] U = true
def zNest (U : State) : Prop := ∀ q ∈ zPI, q.2.2.2.1 = 3 ∨ q.2.2.2.1 = 4 → va_Nw (.methodLinkNest (cNm q.1) q.2.1 (mY q.2.2.1) "BuildCache") U
theorem zNest.warm {s U : State} (hW : s.WarmedH U.vm) (h : zNest s) : zNest U := fun q hq hk => va_Nw.warmM hW (h q hq hk)
def zCst (U : State) : Prop := ∀ c, c = 0 ∨ c = 3 ∨ c = 8 → va_Nw (.castable (cNm c) "java/lang/Object") U
theorem zCst.warm {s U : State} (hW : s.WarmedH U.vm) (h : zCst s) : zCst U := fun c hc => va_Nw.warmC hW (h c hc)
def gS (lo e0 mi : Nat) (U : State) : Prop := va_Z "java/util/ArrayList" "DEFAULTCAPACITY_EMPTY_ELEMENTDATA" "[Ljava/lang/Object;" (.ref e0) (fun q => lo ≤ q) U U.heap ∧ va_Mi "[Ljava/lang/Object;" mi U ∧ va_Dc U ∧ zNest U ∧ zCst U ∧ (va_AO "BuildCache$Content" U ∧ va_AO "BuildCache$Key" U ∧ va_AO "java/lang/Object" U) ∧ zAOA U
theorem arrOver_moved {C : FieldType} {u U : State} (hvm : u.vm.Alike U.vm) (hC : C = .array .int) (h : (Cond.arrayOver C).before #[] u = true) : (Cond.arrayOver C).before #[] U = true := by
  subst hC
  obtain ⟨comp, c, k, h1, h2, h3, h4, h5⟩ := arrayOverA_spec h
  obtain ⟨k', hk', he⟩ := hvm.2.2 _ _ h3
  have e1 := va_idx_bare U.vm comp
  have e2 := va_idx_bare u.vm comp
  have e3 : u.vm.bare = U.vm.bare := by first | exact hvm.bare_eq | exact hvm.bare_eq.symm
  rw [e3] at e2
  have hi := (e1.symm.trans e2).trans h2
  have hkind : k'.kind = .array comp (.array .int) := by rw [he]; exact h4
  have f1 : U.vm.findClass (FieldType.array .int).toString = some comp := by rw [hvm.findClass]; exact h1
  have f2 : U.vm.findClass ("[" ++ (FieldType.array .int).toString) = some c := by rw [hvm.findClass]; exact h5
  unfold Cond.before Cond.holds
  simp only [Cond.value]
  rw [f1, Option.bind_some]
  refine (congrArg (fun o : Option Nat => (o.bind (fun c => (U.vm.classes[c]?).map fun (k : Class) => match k.kind with | .array _ ty => decide (ty = FieldType.array .int) && decide (U.vm.findClass ("[" ++ (FieldType.array .int).toString) = some c) | _ => false) == some true)) hi).trans ?_
  simp [hk', hkind, f2]
theorem gS.to {lo e0 mi : Nat} {s U : State} {H : Heap} {locs : List Loc} (h : gS lo e0 mi s) (hU : U.heap = H) (hS : va_S (fun q => lo ≤ q) s.heap H locs) (hW : s.WarmedH U.vm) : gS lo e0 mi U := by
  obtain ⟨h1, h2, h3, h4, h5, ⟨h6, h7, h8⟩, h9⟩ := h
  refine ⟨?_, h2.moved hW.alike, h3.moved hW.alike, h4.warm hW, h5.warm hW, ⟨h6.moved hW.alike, h7.moved hW.alike, h8.moved hW.alike⟩, arrOver_moved hW.alike rfl h9⟩
  rw [hU]
  exact (h1.moved hW.alike).kept (fun a g1 g2 => hS.2.1 a g1 g2)
/-- the locals -/
def zLH (ls : Array Slot) (nL : Nat) (L : List (Option Value)) : Prop := ls.size = nL ∧ lv_wf ls ∧ ∀ (i : Nat) (v : Value), L[i]? = some (some v) → ls[i]? = some (Slot.val v)
def zPr : Nat → List (Option Value) → List (Nat × Value)
  | _, [] => []
  | i, none :: t => zPr (i + 1) t
  | i, some v :: t => (i, v) :: zPr (i + 1) t
theorem zPr_mem : ∀ {L : List (Option Value)} {i j : Nat} {v : Value}, (j, v) ∈ zPr i L ↔ i ≤ j ∧ L[j - i]? = some (some v)
  | [], i, j, v => by simp [zPr]
  | none :: t, i, j, v => by
    rw [zPr, zPr_mem]
    constructor
    · rintro ⟨h1, h2⟩
      refine ⟨by omega, ?_⟩
      rw [show j - i = (j - (i + 1)) + 1 by omega, List.getElem?_cons_succ]
      exact h2
    · rintro ⟨h1, h2⟩
      by_cases e : j = i
      · subst e; simp at h2
      · refine ⟨by omega, ?_⟩
        rw [show j - i = (j - (i + 1)) + 1 by omega, List.getElem?_cons_succ] at h2
        exact h2
  | some w :: t, i, j, v => by
    rw [zPr, List.mem_cons, zPr_mem]
    constructor
    · rintro (h | ⟨h1, h2⟩)
      · cases h; simp
      · refine ⟨by omega, ?_⟩
        rw [show j - i = (j - (i + 1)) + 1 by omega, List.getElem?_cons_succ]
        exact h2
    · rintro ⟨h1, h2⟩
      by_cases e : j = i
      · subst e
        simp at h2
        subst h2
        exact Or.inl rfl
      · refine Or.inr ⟨by omega, ?_⟩
        rw [show j - i = (j - (i + 1)) + 1 by omega, List.getElem?_cons_succ] at h2
        exact h2
theorem zLH.has {ls : Array Slot} {nL : Nat} {L : List (Option Value)} (h : zLH ls nL L) : lv_has ls nL (zPr 0 L) :=
  ⟨h.1, h.2.1, fun q hq => h.2.2 q.1 q.2 (by simpa using (zPr_mem.mp (show (q.1, q.2) ∈ zPr 0 L from hq)).2)⟩
theorem zLH.at {ls : Array Slot} {nL : Nat} {L : List (Option Value)} (h : zLH ls nL L) {i : Nat} {v : Value} (hi : L[i]? = some (some v)) : ls[i]? = some (Slot.val v) := h.2.2 i v hi
theorem zNL_at {L : List (Option Value)} {k j : Nat} {w : Value} (h : zNL L k = true) (hj : j + 1 = k) (hw : L[j]? = some (some w)) : w.category ≠ 2 := by
  subst hj
  have h2 : (match L[j]? with
    | some (some v) => v.category == 1
    | _ => true) = true := h
  rw [hw] at h2
  intro e
  simp [e] at h2
theorem zLH.set1 {ls' : Array Slot} {nL k : Nat} {L : List (Option Value)} {v : Value} (hk : zNL L k = true) (h : lv_has ls' nL ((k, v) :: (zPr 0 L).filter (fun q => !(q.1 == k) && !(q.1 + 1 == k && q.2.category == 2)))) : zLH ls' nL (L.set k (some v)) := by
  refine ⟨h.1, h.2.1, fun i w hi => ?_⟩
  by_cases e : i = k
  · subst e
    have hl : i < L.length := by
      have := (List.getElem?_eq_some_iff.mp hi).1
      simpa using this
    rw [List.getElem?_set_self hl] at hi
    cases hi
    exact h.2.2 (i, v) List.mem_cons_self
  · rw [List.getElem?_set_ne (Ne.symm e)] at hi
    refine h.2.2 (i, w) (List.mem_cons_of_mem _ (List.mem_filter.mpr ⟨zPr_mem.mpr ⟨Nat.zero_le _, hi⟩, ?_⟩))
    have h1 : ¬ (i + 1 = k ∧ w.category = 2) := fun z => zNL_at hk z.1 hi z.2
    simp only [Bool.and_eq_true, Bool.not_eq_true', beq_eq_false_iff_ne, Bool.and_eq_false_iff, ne_eq]
    exact ⟨e, Classical.byContradiction fun z => h1 (by simp at z; exact z)⟩
theorem zLH.set2 {ls' : Array Slot} {nL k : Nat} {L : List (Option Value)} {v : Value} (hk : zNL L k = true) (h : lv_has ls' nL ((k, v) :: (zPr 0 L).filter (fun q => !(q.1 == k) && (!(q.1 == k + 1) && !(q.1 + 1 == k && q.2.category == 2))))) : zLH ls' nL ((L.set k (some v)).set (k + 1) none) := by
  refine ⟨h.1, h.2.1, fun i w hi => ?_⟩
  by_cases e1 : i = k + 1
  · subst e1
    have hl : k + 1 < (L.set k (some v)).length := (by
      have := (List.getElem?_eq_some_iff.mp hi).1
      simpa using this)
    rw [List.getElem?_set_self hl] at hi
    cases hi
  rw [List.getElem?_set_ne (Ne.symm e1)] at hi
  by_cases e : i = k
  · subst e
    have hl : i < L.length := by
      have := (List.getElem?_eq_some_iff.mp hi).1
      simpa using this
    rw [List.getElem?_set_self hl] at hi
    cases hi
    exact h.2.2 (i, v) List.mem_cons_self
  · rw [List.getElem?_set_ne (Ne.symm e)] at hi
    refine h.2.2 (i, w) (List.mem_cons_of_mem _ (List.mem_filter.mpr ⟨zPr_mem.mpr ⟨Nat.zero_le _, hi⟩, ?_⟩))
    have h1 : ¬ (i + 1 = k ∧ w.category = 2) := fun z => zNL_at hk z.1 hi z.2
    simp only [Bool.and_eq_true, Bool.not_eq_true', beq_eq_false_iff_ne, Bool.and_eq_false_iff, ne_eq]
    exact ⟨e, e1, Classical.byContradiction fun z => h1 (by simp at z; exact z)⟩
theorem zArgs_at : ∀ (vs : List Value) (b i : Nat) (v : Value), (zArgs vs)[i]? = some (some v) → (b + i, v) ∈ lv_args b vs
  | [], b, i, v, h => by simp [zArgs] at h
  | w :: t, b, i, v, h => by
    unfold zArgs at h
    unfold lv_args
    by_cases hc : w.category = 2
    · rw [if_pos hc] at h ⊢
      match i, h with
      | 0, h => simp at h; rw [h]; exact List.mem_cons_self
      | 1, h => simp at h
      | i + 2, h =>
        rw [List.getElem?_cons_succ, List.getElem?_cons_succ] at h
        have := zArgs_at t (b + 2) i v h
        rw [show b + (i + 2) = b + 2 + i by omega]
        exact List.mem_cons_of_mem _ this
    · rw [if_neg hc] at h ⊢
      match i, h with
      | 0, h => simp at h; rw [h]; exact List.mem_cons_self
      | i + 1, h =>
        rw [List.getElem?_cons_succ] at h
        have := zArgs_at t (b + 1) i v h
        rw [show b + (i + 1) = b + 1 + i by omega]
        exact List.mem_cons_of_mem _ this
theorem zArgs_len : ∀ (vs : List Value), (zArgs vs).length = (lg_sl vs).length
  | [] => rfl
  | w :: t => by
    have h := zArgs_len t
    unfold zArgs
    by_cases hc : w.category = 2
    · rw [if_pos hc]
      cases w <;> simp_all [lg_sl, Value.category]
    · rw [if_neg hc]
      cases w <;> simp_all [lg_sl, Value.category]
theorem zLH_entry {m : Nat} {vs : List Value} (h : (zArgs vs).length ≤ mL m) : zLH ((lg_sl vs ++ List.replicate (mL m - (lg_sl vs).length) Slot.unset).toArray) (mL m) (zL0 m vs) := by
  have h1 := lv_entry vs (n := mL m) (by rw [← zArgs_len]; exact h)
  refine ⟨h1.1, h1.2.1, fun i v hi => ?_⟩
  unfold zL0 at hi
  by_cases hl : i < (zArgs vs).length
  · rw [List.getElem?_append_left hl] at hi
    have := zArgs_at vs 0 i v hi
    rw [Nat.zero_add] at this
    exact h1.2.2 _ this
  · rw [List.getElem?_append_right (by omega)] at hi
    have := List.mem_of_getElem? hi
    rw [List.mem_replicate] at this
    cases this.2
