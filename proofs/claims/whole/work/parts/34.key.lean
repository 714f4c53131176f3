section SP
variable {σ : zSt} {c d i k : Nat} {n v n' m h m' h' : Int32} {f f' e e' : Nat → Int32}
theorem Kp_m : zfi (setKp σ c m h e) 5 3 c = m := by
  show up3 (zfi σ) 5 3 c m 5 3 c = m
  exact if_pos ⟨rfl, rfl, rfl⟩
theorem Kp_h : zfi (setKp σ c m h e) 5 4 c = h := if_pos ⟨rfl, rfl, rfl⟩
theorem Kp_ai : zai (setKp σ c m h e) 3 (c + 2) i = e i := if_pos ⟨rfl, rfl⟩
theorem Kp_ai' (w : d ≠ c) : zai (setKp σ c m h e) 3 (d + 2) i = zai σ 3 (d + 2) i := if_neg fun q => w (by omega)
theorem Kp_sm : sfi (setKp σ c m h e) 5 3 c v = setKp σ c v h e := by
  unfold sfi setKp
  congr 1
  funext x y z
  show (if _ then _ else (if _ then _ else (if _ then _ else _))) = (if _ then _ else (if _ then _ else _))
  by_cases q : x = 5 ∧ y = 3 ∧ z = c
  · rw [if_pos q, if_neg (show ¬ (x = 5 ∧ y = 4 ∧ z = c) by omega), if_pos q]
  · rw [if_neg q, if_neg q]
    by_cases r : x = 5 ∧ y = 4 ∧ z = c
    · rw [if_pos r, if_pos r]
    · rw [if_neg r, if_neg r, if_neg q]
theorem Kp_sh : sfi (setKp σ c m h e) 5 4 c v = setKp σ c m v e := by
  unfold sfi setKp
  congr 1
  funext x y z
  show (if _ then _ else (if _ then _ else (if _ then _ else _))) = (if _ then _ else (if _ then _ else _))
  by_cases r : x = 5 ∧ y = 4 ∧ z = c
  · rw [if_pos r, if_pos r]
  · rw [if_neg r, if_neg r, if_neg r]
theorem Kp_sai : sai (setKp σ c m h e) 3 (c + 2) i v = setKp σ c m h (up1 e i v) := by
  unfold sai setKp
  congr 1
  funext x y z
  show (if _ then _ else (if _ then _ else _)) = (if _ then _ else _)
  unfold up1
  by_cases h : x = 3 ∧ y = c + 2
  · by_cases h2 : z = i
    · rw [if_pos ⟨h.1, h.2, h2⟩, if_pos h, if_pos h2]
    · rw [if_neg fun q => h2 q.2.2, if_pos h, if_pos h, if_neg h2]
  · rw [if_neg fun q => h ⟨q.1, q.2.1⟩, if_neg h, if_neg h]
theorem Kp_self : setKp σ c (zfi σ 5 3 c) (zfi σ 5 4 c) (zai σ 3 (c + 2)) = σ := by
  have e1 : up3 (up3 (zfi σ) 5 3 c (zfi σ 5 3 c)) 5 4 c (zfi σ 5 4 c) = zfi σ := by
    funext x y z
    show (if _ then _ else (if _ then _ else _)) = _
    by_cases h : x = 5 ∧ y = 4 ∧ z = c
    · rw [if_pos h, h.1, h.2.1, h.2.2]
    · rw [if_neg h]
      by_cases h : x = 5 ∧ y = 3 ∧ z = c
      · rw [if_pos h, h.1, h.2.1, h.2.2]
      · rw [if_neg h]
  have e2 : (fun t a i => if t = 3 ∧ a = c + 2 then zai σ 3 (c + 2) i else zai σ t a i) = zai σ := by
    funext x y z
    by_cases h : x = 3 ∧ y = c + 2
    · rw [if_pos h, h.1, h.2]
    · rw [if_neg h]
  unfold setKp
  rw [e1, e2]
  rfl
theorem Kp_Kp : setKp (setKp σ c m h e) c m' h' e' = setKp σ c m' h' e' := by
  unfold setKp
  congr 1
  · funext x y z
    show (if _ then _ else (if _ then _ else (if _ then _ else (if _ then _ else _)))) = (if _ then _ else (if _ then _ else _))
    by_cases h : x = 5 ∧ y = 4 ∧ z = c
    · rw [if_pos h, if_pos h]
    · rw [if_neg h, if_neg h]
      by_cases h3 : x = 5 ∧ y = 3 ∧ z = c
      · rw [if_pos h3, if_pos h3, if_neg h]
      · rw [if_neg h3, if_neg h3, if_neg h, if_neg h3]
  · funext x y z
    show (if _ then _ else (if _ then _ else _)) = (if _ then _ else _)
    by_cases h : x = 3 ∧ y = c + 2
    · rw [if_pos h, if_pos h]
    · rw [if_neg h, if_neg h, if_neg h]
end SP
/-- where the parts end -/
def endN (hd : List Int32) (ps : List (List Int32)) (i : Nat) : Nat := (hd ++ (ps.take (i + 1)).flatten).length
def KeyP (m h : Int32) (e : Nat → Int32) (hd : List Int32) (ps : List (List Int32)) : Prop := m = nI ps.length ∧ h = nI hd.length ∧ ps.length ≤ 6 ∧ ∀ i, i < ps.length → e i = nI (endN hd ps i)
def KyP (σ : zSt) (k : Nat) (hd : List Int32) (ps : List (List Int32)) : Prop := Ky σ k (hd ++ ps.flatten) ∧ KeyP (zfi σ 5 3 k) (zfi σ 5 4 k) (zai σ 3 (k + 2)) hd ps
/-- a key's numbers and its parts changed -/
def toKK (σ τ : zSt) (k : Nat) (l : List Int32) : Prop := ∃ n f m h e, τ = setKp (setKf σ k n f) k m h e ∧ KeyF n f l
theorem toKK_ky {σ τ : zSt} {k : Nat} {l : List Int32} (h : toKK σ τ k l) (hz : zIs σ k 5) : Ky τ k l := by
  obtain ⟨n, f, m, h, e, rfl, g⟩ := h
  exact toK_ky (σ := σ) (σ' := setKf σ k n f) ⟨n, f, rfl, g⟩ hz
theorem cs_toKK {σ τ : zSt} {k : Nat} {l : List Int32} (hC : CShape σ) (h : toKK σ τ k l) : CShape τ := by
  obtain ⟨n, f, m, h, e, rfl, g⟩ := h
  exact hC
theorem toKK_is {σ τ : zSt} {l : List Int32} {a k c : Nat} (h : toKK σ τ c l) (hz : zIs σ a k) : zIs τ a k := by
  obtain ⟨n, f, m, h, e, rfl, g⟩ := h; exact hz
theorem endN_le {hd : List Int32} {ps : List (List Int32)} {i : Nat} : endN hd ps i ≤ (hd ++ ps.flatten).length := by
  unfold endN
  rw [List.length_append, List.length_append]
  have : ps.flatten = (ps.take (i + 1)).flatten ++ (ps.drop (i + 1)).flatten := by rw [← List.flatten_append, List.take_append_drop]
  rw [this, List.length_append]; omega
section KN
variable {σ : zSt} {P : Option Value → zSt → Prop} {c d k : Nat} {v : Int32} {l u hd : List Int32} {ps : List (List Int32)}
theorem keyBecome_ok (hC : CShape σ) (hz : zIs σ k 5) (h' : KyP σ d hd ps) (hkd : k ≠ d) (hP : ∀ τ, toKK σ τ k (hd ++ ps.flatten) → P none τ) : wpM 47 [.ref k, .ref d] σ P := by
  obtain ⟨⟨hz', hn, hk, ha⟩, -⟩ := h'
  refine b47.mpr ⟨hz', hz, ?_⟩
  have e0 : sfi σ 5 2 k (zfi σ 5 2 d) = setKf σ k (nI (hd ++ ps.flatten).length) (zai σ 2 (k + 1)) := by
    rw [hn]
    conv => lhs; rw [← Kf_self (σ := σ) (c := k)]
    rw [Kf_sfi]
  rw [e0]
  have key1 : ∀ j i f, i + j = (hd ++ ps.flatten).length → (∀ q, q < i → (hd ++ ps.flatten)[q]? = some (f q)) → wp 47 10 [some (.ref k), some (.ref d), some (.int (nI i))] [] (setKf σ k (nI (hd ++ ps.flatten).length) f) P := by
    intro j
    induction j with
    | zero =>
      intro i f e hf
      refine b47_10.mpr ⟨hz, ifp ?_ (b47_36.mpr (hP _ ⟨_, f, _, _, _, Kp_self.symm, rfl, hk, fun q hq => hf q (by omega)⟩))⟩
      rw [Kf_fi]; exact nI_le (by omega) (by omega)
    | succ j ih =>
      intro i f e hf
      refine b47_10.mpr ⟨hz, ifn (by rw [Kf_fi]; exact nI_ge (by omega) (by omega)) ?_⟩
      refine (b47_18 (σ := setKf σ k (nI (hd ++ ps.flatten).length) f) hC).mpr ⟨hz, hz', nI_in (by omega) (by omega), nI_in (by omega) (by omega), ?_⟩
      have e2 : zai (setKf σ k (nI (hd ++ ps.flatten).length) f) 2 (d + 1) i = zai σ 2 (d + 1) i := Kf_ai' (fun q => hkd q.symm)
      rw [nI_clamp (by omega), nI_1, Kf_sai, e2]
      refine ih (i + 1) _ (by omega) (fun q hq => ?_)
      unfold up1
      by_cases w : q = i
      · rw [if_pos w, w]; exact ha i (by omega)
      · rw [if_neg w]; exact hf q (by omega)
  exact key1 _ 0 _ (Nat.zero_add _) (fun q h => absurd h (Nat.not_lt_zero q))
/-- what has changed since a former key -/
theorem changeSince_ok (hC : CShape σ) (h : KyP σ k hd ps) (h' : Ky σ d u)
    (h0 : u.length = 0 → P (some (.int (-1))) σ) (h1 : u.length ≠ 0 → hd ++ ps.flatten = u → P (some (.int 0)) σ)
    (h2 : u.length ≠ 0 → hd ++ ps.flatten ≠ u → fdiff (hd ++ ps.flatten) u < hd.length → P (some (.int 1)) σ)
    (h3 : u.length ≠ 0 → hd ++ ps.flatten ≠ u → hd.length ≤ fdiff (hd ++ ps.flatten) u → ∀ j, j ≤ ps.length - 1 → (∀ i, i < j → endN hd ps i ≤ fdiff (hd ++ ps.flatten) u) → (j < ps.length - 1 → fdiff (hd ++ ps.flatten) u < endN hd ps j) → P (some (.int (nI (10 + j)))) σ) : wpM 51 [.ref k, .ref d] σ P := by
  obtain ⟨hK, hm, hh, h6, he⟩ := h
  have hle := fdiff_le (hd ++ ps.flatten) u
  have hk := hK.2.2.1
  have hk' := h'.2.2.1
  by_cases g0 : u.length = 0
  · refine b51.mpr ⟨h'.1, ifn (fun q => q ?_) (b51_7.mpr (h0 g0))⟩
    rw [h'.2.1, g0]; rfl
  refine b51.mpr ⟨h'.1, ifp ?_ (b51_9.mpr ⟨hK.1, ?_⟩)⟩
  · rw [h'.2.1]; exact fun q => g0 ((nI_eq (b := 0) (by omega) (by omega)).mp q)
  refine keySame_ok hC hK h' ?_
  by_cases g1 : hd ++ ps.flatten = u
  · rw [if_pos g1]
    exact b51_14.mpr (ifn (by decide) (b51_17.mpr (h1 g0 g1)))
  rw [if_neg g1]
  refine b51_14.mpr (ifp rfl (b51_19.mpr ⟨hK.1, ?_⟩))
  refine firstOther_ok hC hK h' (b51_24.mpr ⟨hK.1, ?_⟩)
  by_cases g2 : fdiff (hd ++ ps.flatten) u < hd.length
  · exact ifn (by rw [hh]; exact nI_ge g2 (by simp at hk; omega)) (b51_33.mpr (h2 g0 g1 g2))
  refine ifp (by rw [hh]; exact nI_le (by omega) (by omega)) (b51_35.mpr ?_)
  have key : ∀ r j, j + r = ps.length - 1 → (∀ i, i < j → endN hd ps i ≤ fdiff (hd ++ ps.flatten) u) → wp 51 37 [some (.ref k), some (.ref d), some (.int (nI (fdiff (hd ++ ps.flatten) u))), some (.int (nI j))] [] σ P := by
    intro r
    induction r with
    | zero =>
      intro j e hj
      refine b51_37.mpr ⟨hK.1, ifp ?_ (b51_63.mpr ?_)⟩
      · rw [hm]
        by_cases w : ps.length = 0
        · rw [w, show j = 0 by omega]; decide
        · rw [show nI ps.length - 1 = nI (ps.length - 1) from pk_sub (b := 1) (by omega)]
          exact nI_le (by omega) (by omega)
      · have := h3 g0 g1 (by omega) j (by omega) hj (fun q => absurd q (by omega))
        rw [← nI_add] at this; exact this
    | succ r ih =>
      intro j e hj
      refine b51_37.mpr ⟨hK.1, ifn ?_ ?_⟩
      · rw [hm, show nI ps.length - 1 = nI (ps.length - 1) from pk_sub (b := 1) (by omega)]
        exact nI_ge (by omega) (by omega)
      refine (b51_47 hC).mpr ⟨hK.1, nI_in (by omega) (by omega), ?_⟩
      have hen := endN_le (hd := hd) (ps := ps) (i := j)
      rw [nI_clamp (by omega), he j (by omega)]
      by_cases w : fdiff (hd ++ ps.flatten) u < endN hd ps j
      · refine ifp (nI_lt w (by omega)) (b51_63.mpr ?_)
        have := h3 g0 g1 (by omega) j (by omega) hj (fun _ => w)
        rw [← nI_add] at this; exact this
      · refine ifn (nI_nlt (by omega) (by omega)) (b51_57.mpr ?_)
        rw [nI_1]
        refine ih (j + 1) (by omega) (fun i hi => ?_)
        by_cases q : i = j
        · rw [q]; omega
        · exact hj i (by omega)
  exact key _ 0 (Nat.zero_add _) (fun i h => absurd h (Nat.not_lt_zero i))
end KN
