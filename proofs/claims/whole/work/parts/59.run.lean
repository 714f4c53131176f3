/-! PROGRAMS, PURE: what they make of bytes are bytes -/
section RU
variable {t : TreT} {a : ActT} {cv : Nat → Con} {ins : List Nat} {no n v i : Nat} {row l : List Int32} {out : Nat → Con} {x y : Int32}
theorem byte_nI (h : byteI x) : ∃ k, k < 256 ∧ x = nI k := by
  rcases pk_ix x (n := 256) (by omega) with g | g | ⟨k, hk, rfl⟩
  · exact absurd g (Int32.not_lt.mpr h.1)
  · exact absurd (Int32.le_trans g h.2) (by decide)
  · exact ⟨k, hk, rfl⟩
theorem nI_byte {k : Nat} (h : k < 256) : byteI (nI k) := ⟨nI_le (a := 0) (by omega) (by omega), nI_le (b := 255) (by omega) (by omega)⟩
theorem byte_xor (h : byteI x) (h' : byteI y) : byteI (x ^^^ y) := by
  obtain ⟨k, hk, rfl⟩ := byte_nI h
  obtain ⟨j, hj, rfl⟩ := byte_nI h'
  have e : nI k ^^^ nI j = nI (k ^^^ j) := by
    apply Int32.toBitVec_inj.mp
    rw [Int32.toBitVec_xor]
    show BitVec.ofNat 32 k ^^^ BitVec.ofNat 32 j = BitVec.ofNat 32 (k ^^^ j)
    apply BitVec.eq_of_getLsbD_eq
    intro b hb
    simp [BitVec.getLsbD_ofNat, Nat.testBit_xor, hb]
  rw [e]
  exact nI_byte (Nat.xor_lt_two_pow (n := 8) hk hj)
theorem conOk_app (h : conOk row) (h' : ∀ x ∈ l, byteI x) (hl : (row ++ l).length ≤ 64) : conOk (row ++ l) := by
  refine ⟨hl, fun x hx => ?_⟩
  rcases List.mem_append.mp hx with q | q
  · exact h.2 x q
  · exact h' x q
theorem insF_all {Q : Int32 → Prop} {N : Nat} : ∀ (j : Nat) (f : Nat → Int32) (v : Int32), (∀ i, i < N → Q (f i)) → Q v → j < N → ∀ i, i < N → Q (insF f j v i)
  | 0, f, v, hf, hv, _, i, hi => by
    show Q (up1 f 0 v i)
    unfold up1
    split
    · exact hv
    · exact hf i hi
  | j + 1, f, v, hf, hv, hj, i, hi => by
    show Q ((if v < f j then insF (up1 f (j + 1) (f j)) j v else up1 f (j + 1) v) i)
    split
    · refine insF_all j _ v (fun k hk => ?_) hv (by omega) i hi
      unfold up1
      split
      · exact hf j (by omega)
      · exact hf k hk
    · unfold up1
      split
      · exact hv
      · exact hf i hi
theorem srtF_all {Q : Int32 → Prop} {N : Nat} : ∀ (k : Nat) (f : Nat → Int32), (∀ i, i < N → Q (f i)) → k ≤ N → ∀ i, i < N → Q (srtF k f i)
  | 0, f, hf, _, i, hi => hf i hi
  | k + 1, f, hf, hk, i, hi => by
    have ih := srtF_all k f hf (by omega)
    exact insF_all k _ _ ih (ih k (by omega)) (by omega) i hi
theorem conOk_sort (h : conOk row) : conOk (sortL row) := by
  refine ⟨by simp [sortL]; exact h.1, fun x hx => ?_⟩
  unfold sortL at hx
  obtain ⟨i, hi, rfl⟩ := List.mem_map.mp hx
  rw [List.mem_range] at hi
  refine srtF_all (Q := byteI) (N := row.length) _ _ (fun j hj => ?_) (Nat.le_refl _) i hi
  rw [List.getD_eq_getElem?_getD, List.getElem?_eq_getElem hj]
  exact h.2 _ (List.getElem_mem hj)
theorem lowN_byte : ∀ k v, ∀ x ∈ lowN k v, byteI x
  | 0, _, x, hx => by simp [lowN] at hx
  | k + 1, v, x, hx => by
    unfold lowN at hx
    split at hx
    · have : x = nI (48 + v) := by simpa using hx
      rw [this]; exact nI_byte (by omega)
    · rcases List.mem_cons.mp hx with q | q
      · rw [q]; exact nI_byte (by omega)
      · exact lowN_byte k _ x q
theorem conOk_figs (v : Nat) : conOk (figsL v) := by
  refine ⟨?_, fun x hx => ?_⟩
  · unfold figsL; rw [List.length_reverse]
    have := lowN_len 10 v; omega
  · unfold figsL at hx
    exact lowN_byte 10 v x (List.mem_reverse.mp hx)
theorem conOk_mix (h : conOk row) (hv : v < 256) : conOk (mixL row (nI v)) := by
  refine ⟨by simp [mixL]; exact h.1, fun x hx => ?_⟩
  obtain ⟨y, hy, rfl⟩ := List.mem_map.mp hx
  exact byte_xor (h.2 y hy) (nI_byte hv)
theorem sum_acc : ∀ (l : List Int32) (a : Nat), (∀ x ∈ l, byteI x) → ∃ k, k ≤ a + 255 * l.length ∧ l.foldl (· + ·) (nI a) = nI k
  | [], a, _ => ⟨a, by simp, rfl⟩
  | x :: l, a, h => by
    obtain ⟨j, hj, rfl⟩ := byte_nI (h x (by simp))
    obtain ⟨k, hk, e⟩ := sum_acc l (a + j) (fun y hy => h y (List.mem_cons_of_mem _ hy))
    refine ⟨k, by simp; omega, ?_⟩
    rw [List.foldl_cons, nI_add]; exact e
theorem sum_nI (h : conOk row) : ∃ k, k < 2 ^ 31 ∧ sumL row = nI k := by
  obtain ⟨k, hk, e⟩ := sum_acc row 0 h.2
  exact ⟨k, by have := h.1; omega, e⟩
theorem sum_eq (h : conOk row) : ∃ k, k < 2 ^ 31 ∧ sumL row = nI k ∧ (sumL row).toNatClampNeg = k := by
  obtain ⟨k, h1, h2⟩ := sum_nI h
  exact ⟨k, h1, h2, by rw [h2, nI_clamp h1]⟩
theorem rowIf_0 (h : (rowIf l out).1 = 0) : l.length ≤ 64 ∧ rowIf l out = (0, l, false, out) := by
  unfold rowIf at h ⊢
  split at h
  · rename_i g; exact ⟨g, by rw [if_pos g]⟩
  · exact absurd h (by simp)
/-- what can be read: all contents are bytes -/
def cvOk (t : TreT) (cv : Nat → Con) (ins : List Nat) : Prop := ∀ p, p ∈ ins → tDir t p = false → ∀ l, cv p = some l → conOk l
theorem names_byte (hT : TInv t) {p : Nat} : ∀ x ∈ (namesW t cv p).map (fun x => 96 + x), byteI x := by
  intro x hx
  obtain ⟨y, hy, rfl⟩ := List.mem_map.mp hx
  unfold namesW at hy
  obtain ⟨k, hk, rfl⟩ := List.mem_map.mp hy
  have hk := (List.mem_filter.mp hk).1
  obtain ⟨h1, h2, h3⟩ := (mem_filesT hT).mp hk
  have : tNam t k ≤ 26 := by
    by_cases h0 : k = 0
    · rw [h0, hT.2.2.1.2.1]; omega
    · exact (hT.2.2.2.1 k (by omega) h1).2.2
  show byteI (nI 96 + nI (tNam t k))
  rw [nI_add]; exact nI_byte (by omega)
/-- a step leaves bytes in the row and in what is written -/
def stOk (no : Nat) (out : Nat → Con) (q : Nat × List Int32 × Bool × (Nat → Con)) : Prop := (q.1 = 0 → conOk q.2.1) ∧ (∀ o l, q.2.2.2 o = some l → conOk l) ∧ (∀ o, no ≤ o → out o = none → q.2.2.2 o = none) ∧ q.1 < 6
theorem stepW_ok (hT : TInv t) (hcv : cvOk t cv ins) (hin : ∀ p ∈ ins, p < tN t) (hv : v < 256) (hr : conOk row) (ho : ∀ o l, out o = some l → conOk l) : stOk no out (stepW t cv ins no n v row out) := by
  have keep : ∀ (c : Nat) (l : List Int32) (b : Bool), c < 6 → (c = 0 → conOk l) → stOk no out (c, l, b, out) := fun c l b hc h => ⟨h, ho, fun _ _ h => h, hc⟩
  have rif : ∀ l, (∀ x ∈ l, byteI x) → stOk no out (rowIf (row ++ l) out) := by
    intro l hl
    unfold rowIf
    by_cases g : (row ++ l).length ≤ 64
    · rw [if_pos g]; exact keep 0 _ _ (by omega) (fun _ => conOk_app hr hl g)
    · rw [if_neg g]; exact keep 2 _ _ (by omega) (fun h => absurd h (by decide))
  have getin : v < ins.length → ins.getD v 0 ∈ ins := by
    intro h
    rw [List.getD_eq_getElem?_getD, List.getElem?_eq_getElem h]
    exact List.getElem_mem h
  unfold stepW
  by_cases c0 : (n = 0 ∨ n = 2 ∨ n = 9) ∧ ins.length ≤ v
  · rw [if_pos c0]; exact keep 3 _ _ (by omega) (fun h => absurd h (by decide))
  rw [if_neg c0]
  by_cases c1 : n = 3 ∧ no ≤ v
  · rw [if_pos c1]; exact keep 3 _ _ (by omega) (fun h => absurd h (by decide))
  rw [if_neg c1]
  by_cases c2 : n = 0
  · rw [if_pos c2]
    have hvl : v < ins.length := by
      rcases Nat.lt_or_ge v ins.length with q | q
      · exact q
      · exact absurd ⟨Or.inl c2, q⟩ c0
    by_cases d : tDir t (ins.getD v 0) = true
    · rw [if_pos d]; exact keep 4 _ _ (by omega) (fun h => absurd h (by decide))
    · rw [if_neg d]
      cases hl : cv (ins.getD v 0) with
      | none => exact keep 1 _ _ (by omega) (fun h => absurd h (by decide))
      | some l => exact rif l (hcv _ (getin hvl) (by simpa using d) l hl).2
  rw [if_neg c2]
  by_cases c3 : n = 1
  · rw [if_pos c3]; exact rif [nI v] (fun x hx => by rw [List.mem_singleton.mp hx]; exact nI_byte hv)
  rw [if_neg c3]
  by_cases c4 : n = 2
  · rw [if_pos c4]
    by_cases d : tDir t (ins.getD v 0) = true
    · rw [if_pos d]; exact rif _ (names_byte hT)
    · rw [if_neg d]; exact keep 4 _ _ (by omega) (fun h => absurd h (by decide))
  rw [if_neg c4]
  by_cases c5 : n = 3
  · rw [if_pos c5]
    refine ⟨fun _ => ⟨by simp, fun x hx => by simp at hx⟩, fun o l h => ?_, fun o h1 h2 => ?_, by show 0 < 6; omega⟩
    · have h : fup out v (some row) o = some l := h
      unfold fup at h
      split at h
      · cases h; exact hr
      · exact ho o l h
    · show fup out v (some row) o = none
      rw [fup_ne]
      · exact h2
      · intro q; subst q; exact c1 ⟨c5, h1⟩
  rw [if_neg c5]
  by_cases c6 : n = 4
  · rw [if_pos c6]; exact keep 0 _ _ (by omega) (fun _ => ⟨by rw [List.length_reverse]; exact hr.1, fun x hx => hr.2 x (List.mem_reverse.mp hx)⟩)
  rw [if_neg c6]
  by_cases c7 : n = 5
  · rw [if_pos c7]; exact keep 0 _ _ (by omega) (fun _ => conOk_sort hr)
  rw [if_neg c7]
  by_cases c8 : n = 6
  · rw [if_pos c8]; exact keep 0 _ _ (by omega) (fun _ => conOk_figs _)
  rw [if_neg c8]
  by_cases c9 : n = 7
  · rw [if_pos c9]; exact keep 0 _ _ (by omega) (fun _ => conOk_figs _)
  rw [if_neg c9]
  by_cases c10 : n = 8
  · rw [if_pos c10]; exact keep 0 _ _ (by omega) (fun _ => ⟨by rw [List.length_take]; have := hr.1; omega, fun x hx => hr.2 x (List.mem_of_mem_take hx)⟩)
  rw [if_neg c10]
  by_cases c11 : n = 9
  · rw [if_pos c11]
    by_cases d : tDir t (ins.getD v 0) = true
    · rw [if_pos d]; exact keep 4 _ _ (by omega) (fun h => absurd h (by decide))
    · rw [if_neg d]; exact keep 0 _ _ (by omega) (fun _ => hr)
  rw [if_neg c11]
  by_cases c12 : n = 10
  · rw [if_pos c12]; exact keep 0 _ _ (by omega) (fun _ => ⟨Nat.le_trans (onceL_len row) hr.1, fun x hx => hr.2 x (onceL_sub row x hx)⟩)
  rw [if_neg c12]
  by_cases c13 : n = 11
  · rw [if_pos c13]; exact keep 5 _ _ (by omega) (fun h => absurd h (by decide))
  rw [if_neg c13]
  by_cases c14 : n = 12
  · rw [if_pos c14]; exact keep 0 _ _ (by omega) (fun _ => conOk_mix hr hv)
  rw [if_neg c14]
  exact rif row hr.2
def rnOk (no : Nat) (q : Nat × (Nat → Con)) : Prop := (∀ o l, q.2 o = some l → conOk l) ∧ (∀ o, no ≤ o → q.2 o = none) ∧ q.1 < 6
theorem runW_ok (hT : TInv t) (hcv : cvOk t cv ins) (hin : ∀ p ∈ ins, p < tN t) : ∀ (st : List (Nat × Nat)) (row : List Int32) (ps : Bool) (out : Nat → Con), (∀ q ∈ st, q.2 < 256) → conOk row → (∀ o l, out o = some l → conOk l) → (∀ o, no ≤ o → out o = none) → rnOk no (runW t cv ins no st row ps out)
  | [], _, _, _, _, _, ho, hn => ⟨ho, hn, by show 0 < 6; omega⟩
  | s :: st, row, ps, out, hs, hr, ho, hn => by
    have ih := fun row ps out => runW_ok hT hcv hin st row ps out (fun q hq => hs q (List.mem_cons_of_mem _ hq))
    have hk := stepW_ok (no := no) (n := s.1) hT hcv hin (hs s (by simp)) hr ho
    unfold runW
    by_cases h : ps = true
    · rw [if_pos h]; exact ih row false out hr ho hn
    · rw [if_neg h]
      by_cases h0 : (stepW t cv ins no s.1 s.2 row out).1 = 0
      · rw [if_pos h0]
        exact ih _ _ _ (hk.1 h0) hk.2.1 (fun o h1 => hk.2.2.1 o h1 (hn o h1))
      · rw [if_neg h0]
        exact ⟨fun o l h => (by cases h), fun o h => rfl, hk.2.2.2⟩
end RU
