theorem ifp {c : Prop} [Decidable c] {A B : Prop} (h : c) (a : A) : if c then A else B := by rw [if_pos h]; exact a
theorem ifn {c : Prop} [Decidable c] {A B : Prop} (h : ¬ c) (b : B) : if c then A else B := by rw [if_neg h]; exact b
def up1 (f : Nat → Int32) (i : Nat) (v : Int32) : Nat → Int32 := fun j => if j = i then v else f j
def setC (σ : zSt) (c : Nat) (n : Int32) (f : Nat → Int32) : zSt := zmk (ztg σ) (up3 (zfi σ) 2 1 c n) (zfl σ) (zfr σ) (fun t a i => if t = 1 ∧ a = c + 1 then f i else zai σ t a i) (zar σ) (znx σ) (zsl σ) (ze0 σ) (zmi σ)
section SC
variable {σ : zSt} {c d i k : Nat} {n v n' : Int32} {f f' : Nat → Int32}
theorem C_fi : zfi (setC σ c n f) 2 1 c = n := if_pos ⟨rfl, rfl, rfl⟩
theorem C_fi' (h : d ≠ c) : zfi (setC σ c n f) 2 1 d = zfi σ 2 1 d := if_neg fun q => h q.2.2
theorem C_ai : zai (setC σ c n f) 1 (c + 1) i = f i := if_pos ⟨rfl, rfl⟩
theorem C_ai' (h : d ≠ c) : zai (setC σ c n f) 1 (d + 1) i = zai σ 1 (d + 1) i := if_neg fun q => h (Nat.succ.inj q.2)
theorem C_sfi : sfi (setC σ c n f) 2 1 c v = setC σ c v f := by
  unfold sfi setC
  congr 1
  funext x y z
  show (if _ then _ else (if _ then _ else _)) = (if _ then _ else _)
  by_cases h : x = 2 ∧ y = 1 ∧ z = c
  · rw [if_pos h, if_pos h]
  · rw [if_neg h, if_neg h, if_neg h]
theorem C_sai : sai (setC σ c n f) 1 (c + 1) i v = setC σ c n (up1 f i v) := by
  unfold sai setC
  congr 1
  funext x y z
  show (if _ then _ else (if _ then _ else _)) = (if _ then _ else _)
  unfold up1
  by_cases h : x = 1 ∧ y = c + 1
  · by_cases h2 : z = i
    · rw [if_pos ⟨h.1, h.2, h2⟩, if_pos h, if_pos h2]
    · rw [if_neg fun q => h2 q.2.2, if_pos h, if_pos h, if_neg h2]
  · rw [if_neg fun q => h ⟨q.1, q.2.1⟩, if_neg h, if_neg h]
theorem C_self : setC σ c (zfi σ 2 1 c) (zai σ 1 (c + 1)) = σ := by
  have e1 : up3 (zfi σ) 2 1 c (zfi σ 2 1 c) = zfi σ := by
    funext x y z
    unfold up3
    by_cases h : x = 2 ∧ y = 1 ∧ z = c
    · rw [if_pos h, h.1, h.2.1, h.2.2]
    · rw [if_neg h]
  have e2 : (fun t a i => if t = 1 ∧ a = c + 1 then zai σ 1 (c + 1) i else zai σ t a i) = zai σ := by
    funext x y z
    by_cases h : x = 1 ∧ y = c + 1
    · rw [if_pos h, h.1, h.2]
    · rw [if_neg h]
  unfold setC
  rw [e1, e2]
  rfl
theorem C_C : setC (setC σ c n f) c n' f' = setC σ c n' f' := by
  unfold setC
  congr 1
  · funext x y z
    show (if _ then _ else (if _ then _ else _)) = (if _ then _ else _)
    by_cases h : x = 2 ∧ y = 1 ∧ z = c
    · rw [if_pos h, if_pos h]
    · rw [if_neg h, if_neg h, if_neg h]
  · funext x y z
    show (if _ then _ else (if _ then _ else _)) = (if _ then _ else _)
    by_cases h : x = 1 ∧ y = c + 1
    · rw [if_pos h, if_pos h]
    · rw [if_neg h, if_neg h, if_neg h]
end SC
/-- what a Content holds: nothing, or at most 64 numbers -/
def CntV (n : Int32) (f : Nat → Int32) : Option (List Int32) → Prop
  | none => n = -1
  | some l => n = nI l.length ∧ l.length ≤ 64 ∧ ∀ i, i < l.length → l[i]? = some (f i)
def Cnt (σ : zSt) (c : Nat) (v : Option (List Int32)) : Prop := zIs σ c 2 ∧ CntV (zfi σ 2 1 c) (zai σ 1 (c + 1)) v
def toC (σ σ' : zSt) (c : Nat) (v : Option (List Int32)) : Prop := ∃ n f, σ' = setC σ c n f ∧ CntV n f v
theorem toC_cnt {σ σ' : zSt} {c : Nat} {v u : Option (List Int32)} (h0 : Cnt σ c u) (h : toC σ σ' c v) : Cnt σ' c v := by
  obtain ⟨n, f, rfl, h⟩ := h
  refine ⟨h0.1, ?_⟩
  rw [C_fi]
  have e : zai (setC σ c n f) 1 (c + 1) = f := by funext i; exact C_ai
  rw [e]; exact h
theorem toC_trans {σ σ' σ'' : zSt} {c : Nat} {v u : Option (List Int32)} (h : toC σ σ' c u) (h' : toC σ' σ'' c v) : toC σ σ'' c v := by
  obtain ⟨n, f, rfl, h⟩ := h
  obtain ⟨n', f', rfl, h'⟩ := h'
  exact ⟨n', f', C_C, h'⟩
theorem cs_toC {σ σ' : zSt} {c : Nat} {v : Option (List Int32)} (hC : CShape σ) (h : toC σ σ' c v) : CShape σ' := by
  obtain ⟨n, f, rfl, h⟩ := h
  exact hC
section CM
variable {σ : zSt} {P : Option Value → zSt → Prop} {c d : Nat} {v : Int32}
theorem append_ok (hC : CShape σ) {l : List Int32} (h : Cnt σ c (some l)) (hl : l.length < 64) (hP : ∀ σ', toC σ σ' c (some (l ++ [v])) → P (some (.int 1)) σ') : wpM 16 [.ref c, .int v] σ P := by
  obtain ⟨hz, hn, hk, ha⟩ := h
  refine b16.mpr ⟨hz, ?_⟩
  rw [hn, if_neg (nI_pos (by omega))]
  refine b16_7.mpr ⟨hz, ?_⟩
  rw [hn, if_pos (show nI l.length < 64 from nI_lt (b := 64) hl (by omega))]
  refine (b16_18 hC).mpr ⟨hz, ?_, Or.inr rfl, hP _ ?_⟩
  · rw [hn]; exact nI_in hl (by omega)
  · refine ⟨nI (l.length + 1), up1 (zai σ 1 (c + 1)) l.length v, ?_, ?_, ?_, ?_⟩
    · rw [hn, nI_clamp (by omega), nI_1]
      conv => lhs; rw [← C_self (σ := σ) (c := c)]
      rw [C_sai, C_sfi]
    · simp
    · simp; omega
    · intro i hi
      unfold up1
      grind
theorem append_full {l : List Int32} (h : Cnt σ c (some l)) (hl : l.length = 64) (hP : P (some (.int 0)) σ) : wpM 16 [.ref c, .int v] σ P := by
  obtain ⟨hz, hn, hk, ha⟩ := h
  refine b16.mpr ⟨hz, ?_⟩
  rw [hn, if_neg (nI_pos (by omega))]
  refine b16_7.mpr ⟨hz, ?_⟩
  rw [hn, if_neg (show ¬ nI l.length < 64 from nI_nlt (b := 64) (by omega) (by omega))]
  exact b16_16.mpr ⟨Or.inl rfl, hP⟩
theorem become_loop (hC : CShape σ) {l : List Int32} (hd : Cnt σ d (some l)) (hcd : c ≠ d) (hz : zIs σ c 2) (hP : ∀ σ', toC σ σ' c (some l) → P none σ') : ∀ j k f, k + j = l.length → (∀ i, i < k → l[i]? = some (f i)) → wp 18 10 [some (.ref c), some (.ref d), some (.int (nI k))] [] (setC σ c (nI l.length) f) P := by
  obtain ⟨hz2, hn, hk, ha⟩ := hd
  intro j
  induction j with
  | zero =>
    intro k f e hf
    refine b18_10.mpr ⟨hz, ?_⟩
    rw [C_fi, if_pos (nI_le (by omega) (by omega))]
    refine b18_36.mpr (hP _ ⟨_, _, rfl, rfl, hk, ?_⟩)
    intro i hi; exact hf i (by omega)
  | succ j ih =>
    intro k f e hf
    refine b18_10.mpr ⟨hz, ?_⟩
    rw [C_fi, if_neg (nI_ge (by omega) (by omega))]
    refine (b18_18 (σ := setC σ c (nI l.length) f) hC).mpr ⟨hz, hz2, nI_in (by omega) (by omega), nI_in (by omega) (by omega), ?_⟩
    rw [nI_clamp (by omega), nI_1, C_sai, C_ai' (fun q => hcd q.symm)]
    refine ih (k + 1) _ (by omega) ?_
    intro i hi
    unfold up1
    by_cases q : i = k
    · rw [if_pos q, q]; exact ha k (by omega)
    · rw [if_neg q]; exact hf i (by omega)
theorem become_ok (hC : CShape σ) {w : Option (List Int32)} (hd : Cnt σ d w) (hcd : c ≠ d) (hz : zIs σ c 2) (hP : ∀ σ', toC σ σ' c w → P none σ') : wpM 18 [.ref c, .ref d] σ P := by
  refine b18.mpr ⟨hd.1, hz, ?_⟩
  have e : sfi σ 2 1 c (zfi σ 2 1 d) = setC σ c (zfi σ 2 1 d) (zai σ 1 (c + 1)) := by
    conv => lhs; rw [← C_self (σ := σ) (c := c)]
    rw [C_sfi]
    rw [C_fi' (fun q => hcd q.symm)]
  rw [e]
  cases w with
  | some l => rw [hd.2.1]; exact become_loop hC hd hcd hz hP _ 0 _ (Nat.zero_add _) (fun i hi => absurd hi (Nat.not_lt_zero i))
  | none =>
    have e : zfi σ 2 1 d = -1 := hd.2
    rw [e]
    refine b18_10.mpr ⟨hz, ?_⟩
    rw [C_fi, if_pos (by decide)]
    exact b18_36.mpr (hP _ ⟨_, _, rfl, rfl⟩)
end CM

def sumL (l : List Int32) : Int32 := l.foldl (· + ·) 0
def mixL (l : List Int32) (v : Int32) : List Int32 := l.map (· ^^^ v)
def onceL (l : List Int32) : List Int32 := l.foldl (fun acc x => if x ∈ acc then acc else acc ++ [x]) []
def insF : (Nat → Int32) → Nat → Int32 → Nat → Int32
  | f, 0, v => up1 f 0 v
  | f, j + 1, v => if v < f j then insF (up1 f (j + 1) (f j)) j v else up1 f (j + 1) v
def srtF : Nat → (Nat → Int32) → Nat → Int32
  | 0, f => f
  | k + 1, f => insF (srtF k f) k (srtF k f k)
def sortL (l : List Int32) : List Int32 := (List.range l.length).map (srtF l.length (fun i => l.getD i 0))
theorem srtF_1 (f : Nat → Int32) : srtF 1 f = f := by
  funext i
  show up1 f 0 (f 0) i = f i
  unfold up1
  split
  · rename_i h; rw [h]
  · rfl
theorem insF_congr {N : Nat} : ∀ (j : Nat) (f g : Nat → Int32) (v : Int32), j < N → (∀ i, i < N → f i = g i) → ∀ i, i < N → insF f j v i = insF g j v i := by
  intro j
  induction j with
  | zero => intro f g v _ h i hi; show up1 f 0 v i = up1 g 0 v i; unfold up1; rw [h i hi]
  | succ j ih =>
    intro f g v hj h i hi
    show (if v < f j then insF (up1 f (j + 1) (f j)) j v else up1 f (j + 1) v) i = (if v < g j then insF (up1 g (j + 1) (g j)) j v else up1 g (j + 1) v) i
    rw [h j (by omega)]
    split
    · refine ih _ _ _ (by omega) (fun i hi => ?_) i hi
      unfold up1; rw [h i hi]
    · unfold up1; rw [h i hi]
theorem srtF_congr {N : Nat} : ∀ (k : Nat) (f g : Nat → Int32), k ≤ N → (∀ i, i < N → f i = g i) → ∀ i, i < N → srtF k f i = srtF k g i := by
  intro k
  induction k with
  | zero => intro f g _ h; exact h
  | succ k ih =>
    intro f g hk h i hi
    show insF (srtF k f) k (srtF k f k) i = insF (srtF k g) k (srtF k g k) i
    have e := ih f g (by omega) h
    rw [e k (by omega)]
    exact insF_congr k _ _ _ (by omega) e i hi
theorem snocRec {α : Type} {Q : List α → Prop} (h0 : Q []) (h1 : ∀ l x, Q l → Q (l ++ [x])) (l : List α) : Q l := by
  have : ∀ r : List α, Q r.reverse := by
    intro r
    induction r with
    | nil => exact h0
    | cons x r ih => rw [List.reverse_cons]; exact h1 _ _ ih
  have := this l.reverse
  rwa [List.reverse_reverse] at this
theorem onceL_snoc (l : List Int32) (x : Int32) : onceL (l ++ [x]) = if x ∈ onceL l then onceL l else onceL l ++ [x] := by
  unfold onceL; rw [List.foldl_append]; rfl
theorem onceL_len (l : List Int32) : (onceL l).length ≤ l.length := by
  refine snocRec (Q := fun l => (onceL l).length ≤ l.length) (Nat.le_refl _) (fun l x ih => ?_) l
  ·
    rw [onceL_snoc]
    split
    · simp; omega
    · simp; omega
theorem onceL_sub (l : List Int32) : ∀ x ∈ onceL l, x ∈ l := by
  refine snocRec (Q := fun l => ∀ x ∈ onceL l, x ∈ l) (fun x h => h) (fun l x ih => ?_) l
  ·
    rw [onceL_snoc]
    intro y hy
    split at hy
    · exact List.mem_append_left _ (ih y hy)
    · rcases List.mem_append.mp hy with h | h
      · exact List.mem_append_left _ (ih y h)
      · exact List.mem_append_right _ h
def lowN : Nat → Nat → List Int32
  | 0, _ => []
  | k + 1, v => if v < 10 then [nI (48 + v)] else nI (48 + v % 10) :: lowN k (v / 10)
def figsL (v : Nat) : List Int32 := (lowN 10 v).reverse
theorem take_snoc {l : List Int32} {k : Nat} {v : Int32} (h : l[k]? = some v) : l.take (k + 1) = l.take k ++ [v] := by
  rw [List.take_add_one, h]; rfl
theorem sumL_snoc (l : List Int32) (x : Int32) : sumL (l ++ [x]) = sumL l + x := by
  unfold sumL; rw [List.foldl_append]; rfl
