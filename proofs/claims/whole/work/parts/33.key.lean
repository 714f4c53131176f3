/-! KEYS -/
def setKf (σ : zSt) (k : Nat) (n : Int32) (f : Nat → Int32) : zSt := zmk (ztg σ) (up3 (zfi σ) 5 2 k n) (zfl σ) (zfr σ) (fun t a i => if t = 2 ∧ a = k + 1 then f i else zai σ t a i) (zar σ) (znx σ) (zsl σ) (ze0 σ) (zmi σ)
def setKp (σ : zSt) (k : Nat) (m h : Int32) (e : Nat → Int32) : zSt := zmk (ztg σ) (up3 (up3 (zfi σ) 5 3 k m) 5 4 k h) (zfl σ) (zfr σ) (fun t a i => if t = 3 ∧ a = k + 2 then e i else zai σ t a i) (zar σ) (znx σ) (zsl σ) (ze0 σ) (zmi σ)
section SK
variable {σ : zSt} {c d i k : Nat} {n v n' m h m' h' : Int32} {f f' e e' : Nat → Int32}
theorem Kf_fi : zfi (setKf σ c n f) 5 2 c = n := if_pos ⟨rfl, rfl, rfl⟩
theorem Kf_fi' (h : d ≠ c) : zfi (setKf σ c n f) 5 2 d = zfi σ 5 2 d := if_neg fun q => h q.2.2
theorem Kf_ai : zai (setKf σ c n f) 2 (c + 1) i = f i := if_pos ⟨rfl, rfl⟩
theorem Kf_ai' (h : d ≠ c) : zai (setKf σ c n f) 2 (d + 1) i = zai σ 2 (d + 1) i := if_neg fun q => h (Nat.succ.inj q.2)
theorem Kf_sfi : sfi (setKf σ c n f) 5 2 c v = setKf σ c v f := by
  unfold sfi setKf
  congr 1
  funext x y z
  show (if _ then _ else (if _ then _ else _)) = (if _ then _ else _)
  by_cases h : x = 5 ∧ y = 2 ∧ z = c
  · rw [if_pos h, if_pos h]
  · rw [if_neg h, if_neg h, if_neg h]
theorem Kf_sai : sai (setKf σ c n f) 2 (c + 1) i v = setKf σ c n (up1 f i v) := by
  unfold sai setKf
  congr 1
  funext x y z
  show (if _ then _ else (if _ then _ else _)) = (if _ then _ else _)
  unfold up1
  by_cases h : x = 2 ∧ y = c + 1
  · by_cases h2 : z = i
    · rw [if_pos ⟨h.1, h.2, h2⟩, if_pos h, if_pos h2]
    · rw [if_neg fun q => h2 q.2.2, if_pos h, if_pos h, if_neg h2]
  · rw [if_neg fun q => h ⟨q.1, q.2.1⟩, if_neg h, if_neg h]
theorem Kf_self : setKf σ c (zfi σ 5 2 c) (zai σ 2 (c + 1)) = σ := by
  have e1 : up3 (zfi σ) 5 2 c (zfi σ 5 2 c) = zfi σ := by
    funext x y z
    unfold up3
    by_cases h : x = 5 ∧ y = 2 ∧ z = c
    · rw [if_pos h, h.1, h.2.1, h.2.2]
    · rw [if_neg h]
  have e2 : (fun t a i => if t = 2 ∧ a = c + 1 then zai σ 2 (c + 1) i else zai σ t a i) = zai σ := by
    funext x y z
    by_cases h : x = 2 ∧ y = c + 1
    · rw [if_pos h, h.1, h.2]
    · rw [if_neg h]
  unfold setKf
  rw [e1, e2]
  rfl
theorem Kf_Kf : setKf (setKf σ c n f) c n' f' = setKf σ c n' f' := by
  unfold setKf
  congr 1
  · funext x y z
    show (if _ then _ else (if _ then _ else _)) = (if _ then _ else _)
    by_cases h : x = 5 ∧ y = 2 ∧ z = c
    · rw [if_pos h, if_pos h]
    · rw [if_neg h, if_neg h, if_neg h]
  · funext x y z
    show (if _ then _ else (if _ then _ else _)) = (if _ then _ else _)
    by_cases h : x = 2 ∧ y = c + 1
    · rw [if_pos h, if_pos h]
    · rw [if_neg h, if_neg h, if_neg h]
end SK
def KeyF (n : Int32) (f : Nat → Int32) (l : List Int32) : Prop := n = nI l.length ∧ l.length ≤ 425 ∧ ∀ i, i < l.length → l[i]? = some (f i)
def Ky (σ : zSt) (k : Nat) (l : List Int32) : Prop := zIs σ k 5 ∧ KeyF (zfi σ 5 2 k) (zai σ 2 (k + 1)) l
def toK (σ σ' : zSt) (k : Nat) (l : List Int32) : Prop := ∃ n f, σ' = setKf σ k n f ∧ KeyF n f l
theorem toK_ky {σ σ' : zSt} {k : Nat} {l : List Int32} (h : toK σ σ' k l) (hz : zIs σ k 5) : Ky σ' k l := by
  obtain ⟨n, f, rfl, h⟩ := h
  refine ⟨hz, ?_⟩
  rw [Kf_fi]
  have e : zai (setKf σ k n f) 2 (k + 1) = f := by funext i; exact Kf_ai
  rw [e]; exact h
theorem toK_trans {σ σ' σ'' : zSt} {k : Nat} {u v : List Int32} (h : toK σ σ' k u) (h' : toK σ' σ'' k v) : toK σ σ'' k v := by
  obtain ⟨n, f, rfl, h⟩ := h
  obtain ⟨n', f', rfl, h'⟩ := h'
  exact ⟨n', f', Kf_Kf, h'⟩
theorem toK_self {σ : zSt} {k : Nat} {l : List Int32} (h : Ky σ k l) : toK σ σ k l := ⟨_, _, Kf_self.symm, h.2⟩
theorem cs_toK {σ σ' : zSt} {k : Nat} {l : List Int32} (hC : CShape σ) (h : toK σ σ' k l) : CShape σ' := by
  obtain ⟨n, f, rfl, h⟩ := h
  exact hC
theorem toK_is {σ τ : zSt} {l : List Int32} {a k c : Nat} (h : toK σ τ c l) (hz : zIs σ a k) : zIs τ a k := by
  obtain ⟨n, f, rfl, h⟩ := h; exact hz
def signL (l : List Int32) : Int64 := l.foldl (fun h x => (h ^^^ x.toInt64) * 1099511628211) 1469598103934665603
theorem signL_snoc (l : List Int32) (x : Int32) : signL (l ++ [x]) = (signL l ^^^ x.toInt64) * 1099511628211 := by
  unfold signL; rw [List.foldl_append]; rfl
def fdiff : List Int32 → List Int32 → Nat
  | a :: as, b :: bs => if a = b then fdiff as bs + 1 else 0
  | _, _ => 0
theorem fdiff_le : ∀ (l k : List Int32), fdiff l k ≤ l.length ∧ fdiff l k ≤ k.length
  | [], _ => ⟨Nat.zero_le _, Nat.zero_le _⟩
  | _ :: _, [] => ⟨Nat.zero_le _, Nat.zero_le _⟩
  | a :: as, b :: bs => by
    unfold fdiff; split
    · have := fdiff_le as bs; simp; omega
    · simp
theorem fdiff_lt : ∀ (l k : List Int32) (i : Nat), i < fdiff l k → l[i]? = k[i]?
  | [], _, i, h => absurd h (Nat.not_lt_zero i)
  | _ :: _, [], i, h => absurd h (Nat.not_lt_zero i)
  | a :: as, b :: bs, i, h => by
    unfold fdiff at h; split at h
    · rename_i e
      cases i with
      | zero => rw [e]; rfl
      | succ i => exact fdiff_lt as bs i (by omega)
    · exact absurd h (Nat.not_lt_zero i)
theorem fdiff_at : ∀ (l k : List Int32), fdiff l k < l.length → fdiff l k < k.length → l[fdiff l k]? ≠ k[fdiff l k]?
  | [], _, h, _ => absurd h (Nat.not_lt_zero _)
  | _ :: _, [], _, h => absurd h (Nat.not_lt_zero _)
  | a :: as, b :: bs, h, h' => by
    unfold fdiff at h h' ⊢; split at h
    · rename_i e
      rw [if_pos e] at h' ⊢
      have := fdiff_at as bs (by simp at h; omega) (by simp at h'; omega)
      simpa using this
    · rename_i e
      rw [if_neg e]
      simpa using e
section KM
variable {σ : zSt} {P : Option Value → zSt → Prop} {c d k : Nat} {v : Int32} {l u : List Int32}
theorem put_ok (hC : CShape σ) (h : Ky σ k l) (hl : l.length < 425) (hP : ∀ τ, toK σ τ k (l ++ [v]) → P none τ) : wpM 46 [.ref k, .int v] σ P := by
  obtain ⟨hz, hn, hk, ha⟩ := h
  refine b46.mpr ⟨hz, ifp (by rw [hn]; exact nI_lt (b := 425) hl (by omega)) ?_⟩
  refine (b46_11 hC).mpr ⟨hz, ?_, hP _ ⟨nI (l.length + 1), up1 (zai σ 2 (k + 1)) l.length v, ?_, ?_, ?_, ?_⟩⟩
  · rw [hn]; exact nI_in hl (by omega)
  · rw [hn, nI_clamp (by omega), nI_1]
    conv => lhs; rw [← Kf_self (σ := σ) (c := k)]
    rw [Kf_sai, Kf_sfi]
  · simp
  · simp; omega
  · intro i hi
    unfold up1
    grind
def contL : Option (List Int32) → List Int32
  | none => [-1]
  | some l => nI l.length :: l
theorem putContent_ok (hC : CShape σ) (h : Ky σ k l) {w : Option (List Int32)} (hc : Cnt σ c w) (hl : l.length + (contL w).length ≤ 425) (hP : ∀ τ, toK σ τ k (l ++ contL w) → P none τ) : wpM 45 [.ref k, .ref c] σ P := by
  have hc0 := hc
  obtain ⟨hz, hn⟩ := hc
  refine b45.mpr ⟨hz, h.1, ?_⟩
  have hl1 : l.length < 425 := by cases w <;> simp [contL] at hl <;> omega
  refine put_ok hC h hl1 (fun τ ht => b45_8.mpr ?_)
  have fi : ∀ τ x, toK σ τ k x → zfi τ 2 1 c = zfi σ 2 1 c := by rintro τ x ⟨n, f, rfl, _⟩; rfl
  have ai : ∀ τ x, toK σ τ k x → zai τ 1 (c + 1) = zai σ 1 (c + 1) := by rintro τ x ⟨n, f, rfl, _⟩; rfl
  cases w with
  | none =>
    have e : zfi σ 2 1 c = -1 := hn
    rw [e] at ht
    refine b45_10.mpr ⟨toK_is ht hz, ifp (by rw [fi _ _ ht, e]; decide) (b45_34.mpr (hP _ ht))⟩
  | some s =>
    obtain ⟨hn, hs, ha⟩ := hn
    rw [hn] at ht
    simp only [contL, List.length_cons] at hl
    have key : ∀ j i τ, i + j = s.length → toK σ τ k (l ++ [nI s.length] ++ s.take i) → wp 45 10 [some (.ref k), some (.ref c), some (.int (nI i))] [] τ P := by
      intro j
      induction j with
      | zero =>
        intro i τ e ht
        refine b45_10.mpr ⟨toK_is ht hz, ifp (by rw [fi _ _ ht, hn]; exact nI_le (by omega) (by omega)) (b45_34.mpr (hP _ ?_))⟩
        rw [List.take_of_length_le (by omega), List.append_assoc] at ht
        exact ht
      | succ j ih =>
        intro i τ e ht
        refine b45_10.mpr ⟨toK_is ht hz, ifn (by rw [fi _ _ ht, hn]; exact nI_ge (by omega) (by omega)) ?_⟩
        refine (b45_18 (cs_toK hC ht)).mpr ⟨toK_is ht hz, nI_in (by omega) (by omega), toK_is ht h.1, ?_⟩
        rw [nI_clamp (by omega), ai _ _ ht]
        refine put_ok (cs_toK hC ht) (toK_ky ht h.1) (by simp; omega) (fun τ' h' => b45_28.mpr ?_)
        rw [nI_1]
        refine ih (i + 1) τ' (by omega) ?_
        rw [take_snoc (ha i (by omega)), ← List.append_assoc]
        exact toK_trans ht h'
    exact key _ 0 τ (Nat.zero_add _) (by rw [List.take_zero, List.append_nil]; exact ht)
theorem sign_ok (hC : CShape σ) (h : Ky σ k l) (hP : P (some (.long (signL l))) σ) : wpM 48 [.ref k] σ P := by
  obtain ⟨hz, hn, hk, ha⟩ := h
  refine b48.mpr ?_
  have key : ∀ j i, i + j = l.length → wp 48 6 [some (.ref k), some (.long (signL (l.take i))), none, some (.int (nI i))] [] σ P := by
    intro j
    induction j with
    | zero =>
      intro i e
      refine b48_6.mpr ⟨hz, ifp (by rw [hn]; exact nI_le (by omega) (by omega)) (b48_34.mpr ?_)⟩
      rw [List.take_of_length_le (by omega)]; exact hP
    | succ j ih =>
      intro i e
      refine b48_6.mpr ⟨hz, ifn (by rw [hn]; exact nI_ge (by omega) (by omega)) ?_⟩
      refine (b48_14 hC).mpr ⟨hz, nI_in (by omega) (by omega), ?_⟩
      rw [nI_clamp (by omega), nI_1, ← signL_snoc, ← take_snoc (ha i (by omega))]
      exact ih (i + 1) (by omega)
  exact key _ 0 (Nat.zero_add _)
theorem firstOther_ok (hC : CShape σ) (h : Ky σ k l) (h' : Ky σ d u) (hP : P (some (.int (nI (fdiff l u)))) σ) : wpM 50 [.ref k, .ref d] σ P := by
  obtain ⟨hz, hn, hk, ha⟩ := h
  obtain ⟨hz', hn', hk', ha'⟩ := h'
  have hle := fdiff_le l u
  refine b50.mpr ?_
  have key : ∀ j i, i + j = fdiff l u → wp 50 2 [some (.ref k), some (.ref d), some (.int (nI i))] [] σ P := by
    intro j
    induction j with
    | zero =>
      intro i e
      have e : i = fdiff l u := by omega
      subst e
      by_cases g1 : l.length ≤ fdiff l u
      · exact b50_2.mpr ⟨hz, ifp (by rw [hn]; exact nI_le g1 (by omega)) (b50_39.mpr hP)⟩
      refine b50_2.mpr ⟨hz, ifn (by rw [hn]; exact nI_ge (by omega) (by omega)) ?_⟩
      by_cases g2 : u.length ≤ fdiff l u
      · exact b50_10.mpr ⟨hz', ifp (by rw [hn']; exact nI_le g2 (by omega)) (b50_39.mpr hP)⟩
      refine b50_10.mpr ⟨hz', ifn (by rw [hn']; exact nI_ge (by omega) (by omega)) ?_⟩
      refine (b50_18 hC).mpr ⟨hz, nI_in (by omega) (by omega), hz', nI_in (by omega) (by omega), ifp ?_ (b50_39.mpr hP)⟩
      rw [nI_clamp (by omega)]
      intro q
      have := fdiff_at l u (by omega) (by omega)
      rw [ha _ (by omega), ha' _ (by omega), q] at this
      exact this rfl
    | succ j ih =>
      intro i e
      refine b50_2.mpr ⟨hz, ifn (by rw [hn]; exact nI_ge (by omega) (by omega)) ?_⟩
      refine b50_10.mpr ⟨hz', ifn (by rw [hn']; exact nI_ge (by omega) (by omega)) ?_⟩
      refine (b50_18 hC).mpr ⟨hz, nI_in (by omega) (by omega), hz', nI_in (by omega) (by omega), ifn ?_ (b50_33.mpr ?_)⟩
      · rw [nI_clamp (by omega)]
        have := fdiff_lt l u i (by omega)
        rw [ha _ (by omega), ha' _ (by omega)] at this
        exact fun q => q (Option.some.inj this)
      · rw [nI_1]; exact ih (i + 1) (by omega)
  exact key _ 0 (Nat.zero_add _)
theorem keySame_ok (hC : CShape σ) (h : Ky σ k l) (h' : Ky σ d u) (hP : P (some (.int (if l = u then 1 else 0))) σ) : wpM 49 [.ref k, .ref d] σ P := by
  have hn := h.2.1
  have hn' := h'.2.1
  have hk := h.2.2.1
  have hk' := h'.2.2.1
  have hle := fdiff_le l u
  by_cases g : l.length = u.length
  · refine b49.mpr ⟨h.1, h'.1, ifn (fun q => q (by rw [hn, hn', g])) (b49_11.mpr ⟨h.1, ?_⟩)⟩
    refine firstOther_ok hC h h' (b49_16.mpr ⟨h.1, ?_⟩)
    by_cases w : fdiff l u = l.length
    · refine ifn (fun q => q (by rw [hn, w])) (b49_23.mpr (b49_28.mpr ⟨Or.inr rfl, ?_⟩))
      rw [if_pos] at hP
      · exact hP
      · apply List.ext_getElem?
        intro i
        by_cases q : i < l.length
        · exact fdiff_lt l u i (by omega)
        · rw [List.getElem?_eq_none (by omega), List.getElem?_eq_none (by omega)]
    · refine ifp (by rw [hn]; exact fun q => w ((nI_eq (by omega) (by omega)).mp q)) (b49_27.mpr (b49_28.mpr ⟨Or.inl rfl, ?_⟩))
      rw [if_neg] at hP
      · exact hP
      · intro q
        have := fdiff_at l u (by omega) (by omega)
        rw [q] at this; exact this rfl
  · refine b49.mpr ⟨h.1, h'.1, ifp (by rw [hn, hn']; exact fun q => g ((nI_eq (by omega) (by omega)).mp q)) (b49_27.mpr (b49_28.mpr ⟨Or.inl rfl, ?_⟩))⟩
    rw [if_neg] at hP
    · exact hP
    · intro q; exact g (by rw [q])
end KM
