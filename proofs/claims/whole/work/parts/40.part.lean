section KE
variable {σ : zSt} {P : Option Value → zSt → Prop} {q k s a : Nat} {l : List Int32} {fs : List Nat}
/-- a path as a key has it: its files (a directory's) and their contents in the space -/
def PIn (σ : zSt) (s q : Nat) (fs : List Nat) (cv : Nat → Option (List Int32)) : Prop := zIs σ q 8 ∧ LVal σ (q + 2) fs ∧ (∀ f ∈ fs, zIs σ f 8 ∧ Cnt σ (f + 3 + 2 * s) (cv f)) ∧ Cnt σ (q + 3 + 2 * s) (cv q) ∧ fs.length ≤ 26
def partL (σ : zSt) (q : Nat) (fs : List Nat) (cv : Nat → Option (List Int32)) : List Int32 := if zfi σ 8 3 q = 0 then contL (cv q) else listL (namesOf (zfi σ 8 2) cv fs)
theorem contL_len {w : Option (List Int32)} (h : ∀ l, w = some l → l.length ≤ 64) : (contL w).length ≤ 65 := by
  cases w with
  | none => simp [contL]
  | some l => have := h l rfl; simp [contL]; omega
theorem Cnt_len {c : Nat} {w : Option (List Int32)} (h : Cnt σ c w) : ∀ l, w = some l → l.length ≤ 64 := by
  intro l hl; subst hl; exact h.2.2.1
theorem partL_len {cv : Nat → Option (List Int32)} (h : PIn σ s q fs cv) : (partL σ q fs cv).length ≤ 65 := by
  unfold partL
  split
  · exact contL_len (Cnt_len h.2.2.2.1)
  · have := List.length_filter_le (fun f => (cv f).isSome) fs
    have := h.2.2.2.2
    simp [listL, namesOf]; omega
theorem putPart_ok (hC : CShape σ) (h : Ky σ k l) {cv : Nat → Option (List Int32)} (hp : PIn σ s q fs cv) (hs : s < 2) (hl : l.length + 65 ≤ 425) (hP : ∀ τ, toK σ τ k (l ++ partL σ q fs cv) → P none τ) : wpM 43 [.ref k, .ref q, .int (nI s)] σ P := by
  obtain ⟨hz, hv, hf, hc, h26⟩ := hp
  unfold partL at hP
  by_cases g : zfi σ 8 3 q = 0
  · refine b43.mpr ⟨hz, ifp g ((b43_16 hC).mpr ⟨hz, nI_in hs (by omega), h.1, ?_⟩)⟩
    rw [nI_clamp (by omega), show q + 1 + 2 + 2 * s = q + 3 + 2 * s by omega]
    rw [if_pos g] at hP
    exact putContent_ok hC h hc (by have := contL_len (Cnt_len hc); omega) (fun τ ht => b43_26.mpr (hP τ ht))
  · refine b43.mpr ⟨hz, ifn g (b43_7.mpr ⟨h.1, ?_⟩)⟩
    rw [if_neg g] at hP
    refine putListed_ok hC h hz hv hs hf ?_ (fun τ ht => b43_13.mpr (b43_26.mpr (hP τ ht)))
    have := List.length_filter_le (fun f => (cv f).isSome) fs
    omega
/-- an action as its key is read: its inputs with what they are, how many outputs, its steps -/
def AIn (σ : zSt) (s a : Nat) (ins outs : List Nat) (st : List (Int32 × Int32)) (fl : Nat → List Nat) (cv : Nat → Option (List Int32)) : Prop :=
  zIs σ a 0 ∧ LVal σ (a + 1) ins ∧ LVal σ (a + 2) outs ∧ ins.length ≤ 6 ∧ outs.length ≤ 3 ∧ zfi σ 0 5 a = nI st.length ∧ st.length ≤ 16 ∧ (∀ i, i < st.length → st[i]? = some (zai σ 4 (a + 3) i, zai σ 5 (a + 4) i)) ∧ ∀ q ∈ ins, PIn σ s q (fl q) cv
def headL (ins outs : List Nat) (st : List (Int32 × Int32)) : List Int32 := nI outs.length :: nI st.length :: (st.flatMap (fun p => [p.1, p.2]) ++ [nI ins.length])
def partsL (σ : zSt) (ins : List Nat) (fl : Nat → List Nat) (cv : Nat → Option (List Int32)) : List (List Int32) := ins.map (fun q => partL σ q (fl q) cv)
/-- a whole key and its parts have been made -/
def toKP (σ τ : zSt) (k : Nat) (hd : List Int32) (ps : List (List Int32)) : Prop := ∃ n f m h e, τ = setKp (setKf σ k n f) k m h e ∧ KeyF n f (hd ++ ps.flatten) ∧ KeyP m h e hd ps
theorem toKP_kyP {τ : zSt} {hd : List Int32} {ps : List (List Int32)} (h : toKP σ τ k hd ps) (hz : zIs σ k 5) : KyP τ k hd ps := by
  obtain ⟨n, f, m, h, e, rfl, g, g'⟩ := h
  refine ⟨toKK_ky (σ := σ) ⟨n, f, m, h, e, rfl, g⟩ hz, ?_⟩
  rw [Kp_m, Kp_h]
  have e2 : zai (setKp (setKf σ k n f) k m h e) 3 (k + 2) = e := by funext i; exact Kp_ai
  rw [e2]; exact g'
end KE
