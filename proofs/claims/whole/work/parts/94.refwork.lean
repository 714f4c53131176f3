/-! THE REFERENCE: a program's row */ -/
/-- the row lies ready, nothing has failed -/
def WkR (sc : ScT) (ar : ArT) (l : List Int32) : Prop := l.length ≤ 64 ∧ sc 48 = nI l.length ∧ RRow ar 67 0 l ∧ sc 49 = 0
/-- k numbers have been put behind a row, or there was no room -/
def AddP (sc : ScT) (ar : ArT) (l : List Int32) : Prop := (l.length ≤ 64 ∧ sc 48 = nI l.length ∧ RRow ar 67 0 l ∧ sc 49 = 0) ∨ (64 < l.length ∧ sc 48 = 64 ∧ sc 49 = 2)
def arW (ar : ArT) (f : Nat → Int32) : ArT := fun u j => if u = 67 then f j else ar u j
def hiN : Nat → Nat → List Int32
  | 0, v => [nI (48 + v % 10)]
  | m + 1, v => nI (48 + v / 10 ^ (m + 1) % 10) :: hiN m v
theorem hiN_snoc : ∀ m v, hiN (m + 1) v = hiN m (v / 10) ++ [nI (48 + v % 10)]
  | 0, v => by show [nI (48 + v / 10 ^ 1 % 10), nI (48 + v % 10)] = [nI (48 + v / 10 % 10)] ++ [nI (48 + v % 10)]; rw [Nat.pow_one]; rfl
  | m + 1, v => by
    show nI (48 + v / 10 ^ (m + 1 + 1) % 10) :: hiN (m + 1) v = (nI (48 + v / 10 / 10 ^ (m + 1) % 10) :: hiN m (v / 10)) ++ [nI (48 + v % 10)]
    rw [hiN_snoc m v, Nat.div_div_eq_div_mul, show 10 * 10 ^ (m + 1) = 10 ^ (m + 1 + 1) by rw [Nat.pow_succ 10 (m + 1), Nat.mul_comm]]
    rfl
theorem lowN_hiN : ∀ m k v, m < k → v / 10 ^ m ≤ 9 → (m = 0 ∨ 9 < v / 10 ^ (m - 1)) → (lowN k v).reverse = hiN m v
  | 0, k + 1, v, _, h1, _ => by
    have h1 : v ≤ 9 := by simpa using h1
    unfold lowN
    rw [if_pos (by omega)]
    show [nI (48 + v)] = [nI (48 + v % 10)]
    rw [show v % 10 = v by omega]
  | m + 1, k + 1, v, hk, h1, h2 => by
    have h2 : 9 < v / 10 ^ m := by rcases h2 with h | h; exact absurd h (by omega); exact h
    have hv : 10 ≤ v := by
      have := Nat.div_le_self v (10 ^ m)
      omega
    unfold lowN
    rw [if_neg (by omega), List.reverse_cons, hiN_snoc]
    congr 1
    refine lowN_hiN m k (v / 10) (by omega) ?_ ?_
    · rw [Nat.div_div_eq_div_mul, show 10 * 10 ^ m = 10 ^ (m + 1) by rw [Nat.pow_succ 10 m, Nat.mul_comm]]; exact h1
    · cases m with
      | zero => exact Or.inl rfl
      | succ m =>
        right
        show 9 < v / 10 / 10 ^ m
        rw [Nat.div_div_eq_div_mul, show 10 * 10 ^ m = 10 ^ (m + 1) by rw [Nat.pow_succ 10 m, Nat.mul_comm]]; exact h2
theorem hiN_len : ∀ m v, (hiN m v).length = m + 1
  | 0, _ => rfl
  | m + 1, v => by show (hiN m v).length + 1 = _; rw [hiN_len m v]
section RW1
variable {σ : zSt} {o : Nat} {sc sc' : ScT} {ar ar' : ArT} {P : Option Value → zSt → Prop} {x y v : Int32} {p s i j q m n a b k : Nat} {w : WT} {T : TreT} {A : ActT} {l l2 : List Int32} {cv : Nat → Con} {S : List Nat} {f g : Nat → Int32}
theorem arW_67 : arW ar f 67 i = f i := if_pos rfl
theorem arW_ne (h : n ≠ 67) : arW ar f n i = ar n i := if_neg h
theorem arW_up : upA (arW ar f) 67 i v = arW ar (up1 f i v) := by
  funext u j
  unfold upA arW up1
  by_cases h : u = 67
  · by_cases h2 : j = i
    · rw [if_pos ⟨h, h2⟩, if_pos h, if_pos h2]
    · rw [if_neg (fun r => h2 r.2), if_pos h, if_pos h, if_neg h2]
  · rw [if_neg (fun r => h r.1), if_neg h, if_neg h]
theorem arW_self : arW ar (ar 67) = ar := by
  funext u j
  unfold arW
  by_cases h : u = 67
  · rw [if_pos h, h]
  · rw [if_neg h]
theorem Ag_W {Q : List Nat} (h : 47 ∈ Q) : Ag sc ar sc (arW ar f) Q := ⟨fun _ _ => rfl, fun u j hu => if_neg (fun r => hu (by rw [r]; exact h))⟩
theorem WkR.row (h : WkR sc ar l) : ∀ i, i < l.length → l[i]? = some (ar 67 i) := fun i hi => by have := h.2.2.1 i hi; rw [Nat.zero_add] at this; exact this
theorem WkR_of (h1 : l.length ≤ 64) (h2 : sc 48 = nI l.length) (h3 : sc 49 = 0) (h4 : ∀ i, i < l.length → l[i]? = some (f i)) : WkR sc (arW ar f) l := ⟨h1, h2, fun i hi => by rw [Nat.zero_add, arW_67]; exact h4 i hi, h3⟩
theorem WkR.add (h : WkR sc ar l) : AddP sc ar l := Or.inl h
theorem r_add (hR : RShape σ o) (h : AddP sc ar l) (hP : ∀ sc' ar', AddP sc' ar' (l ++ [x]) → (∀ i, i < l.length → i < 64 → ar' 67 i = ar 67 i) → Ag sc ar sc' ar' [47, 48, 49] → P none (rOv σ o sc' ar')) : wpM 150 [.ref o, .int x] (rOv σ o sc ar) P := by
  refine (b150 hR).mpr ?_
  rcases h with ⟨h1, h2, h3, h4⟩ | ⟨h1, h2, h3⟩
  · rw [h2]
    by_cases c : l.length = 64
    · refine ifn (fun r => r (by rw [c]; rfl)) ((b150_9 hR).mpr ((b150_37 hR).mpr (hP _ _ (Or.inr ⟨by rw [List.length_append, c]; simp, ?_, upS_same⟩) (fun _ _ _ => rfl) (Ag_sc (by decide)))))
      rw [upS_ne (by omega), h2, c]; rfl
    · refine ifp (fun r => c ((nI_eq (b := 64) (by omega) (by omega)).mp r)) ((b150_17 hR).mpr ?_)
      rw [h2, nI_clamp (by omega), nI_1]
      refine ⟨nI_in (N := 64) (by omega) (by omega), (b150_37 hR).mpr (hP _ _ (Or.inl ⟨by rw [List.length_append]; simp; omega, by rw [upS_same, List.length_append]; rfl, ?_, by rw [upS_ne (by omega)]; exact h4⟩) (fun i hi _ => upA_ne (fun r => by omega)) ((Ag_ar (by decide)).tr (Ag_sc (by decide))))⟩
      have g := RRow_put (v := x) h3
      rw [Nat.zero_add] at g
      exact g
  · rw [h2]
    exact ifn (fun r => r rfl) ((b150_9 hR).mpr ((b150_37 hR).mpr (hP _ _ (Or.inr ⟨by rw [List.length_append]; omega, by rw [upS_ne (by omega)]; exact h2, upS_same⟩) (fun _ _ _ => rfl) (Ag_sc (by decide)))))
theorem r_turn (hR : RShape σ o) (h : WkR sc ar l) (hP : ∀ ar', WkR sc ar' l.reverse → Ag sc ar sc ar' [47] → P none (rOv σ o sc ar')) : wpM 155 [.ref o] (rOv σ o sc ar) P := by
  have ha := h.row
  obtain ⟨hk, hn, hr, h49⟩ := h
  refine (b155 hR).mpr ?_
  have hdiv : nI l.length / 2 = nI (l.length / 2) := pk_div (by omega) (d := 2) (by omega) (by omega)
  have key : ∀ j i u f, i + j = l.length / 2 → (∀ q, q < l.length → (if q < i ∨ l.length - i ≤ q then l[l.length - 1 - q]? else l[q]?) = some (f q)) → wp 155 2 [some (.ref o), some (.int (nI i)), u] [] (rOv σ o sc (arW ar f)) P := by
    intro j
    induction j with
    | zero =>
      intro i u f e hf
      refine (b155_2 hR).mpr ⟨by decide, ifp ?_ ((b155_58 hR).mpr (hP _ (WkR_of ?_ ?_ h49 ?_) (Ag_W (by decide))))⟩
      · rw [hn, hdiv]; exact nI_le (by omega) (by omega)
      · simp; omega
      · rw [List.length_reverse]; exact hn
      · intro q hq
        rw [List.length_reverse] at hq
        have := hf q hq
        rw [List.getElem?_reverse hq]
        split at this
        · exact this
        · rw [show l.length - 1 - q = q by omega]; exact this
    | succ j ih =>
      intro i u f e hf
      refine (b155_2 hR).mpr ⟨by decide, ifn ?_ ?_⟩
      · rw [hn, hdiv]; exact nI_ge (by omega) (by omega)
      have h3 : nI l.length - 1 - nI i = nI (l.length - 1 - i) := by
        rw [show nI l.length - 1 = nI (l.length - 1) from pk_sub (b := 1) (by omega), pk_sub (by omega)]
      refine (b155_12 hR).mpr ?_
      rw [hn, h3, nI_clamp (show i < 2 ^ 31 by omega), nI_clamp (show l.length - 1 - i < 2 ^ 31 by omega)]
      refine ⟨nI_in (N := 64) (by omega) (by omega), nI_in (N := 64) (by omega) (by omega), nI_in (N := 64) (by omega) (by omega), nI_in (N := 64) (by omega) (by omega), ?_⟩
      rw [arW_67, arW_67, arW_up, arW_up, nI_1]
      refine ih (i + 1) _ _ (by omega) ?_
      intro q hq
      have a := hf i (by omega)
      have b := hf (l.length - 1 - i) (by omega)
      rw [if_neg (by omega)] at a b
      unfold up1
      by_cases g1 : q = l.length - 1 - i
      · rw [if_pos g1, if_pos (by omega), ← a, show l.length - 1 - q = i by omega]
      · rw [if_neg g1]
        by_cases g2 : q = i
        · rw [if_pos g2, if_pos (by omega), ← b, show l.length - 1 - q = l.length - 1 - i by omega]
        · rw [if_neg g2, ← hf q hq]
          by_cases g3 : q < i ∨ l.length - i ≤ q
          · rw [if_pos g3, if_pos (by omega)]
          · rw [if_neg g3, if_neg (by omega)]
  have := key _ 0 none (ar 67) (Nat.zero_add _) (fun q hq => by rw [if_neg (by omega)]; exact ha q hq)
  rw [arW_self] at this
  exact this
theorem r_sort (hR : RShape σ o) (h : WkR sc ar l) (hP : ∀ ar', WkR sc ar' (sortL l) → Ag sc ar sc ar' [47] → P none (rOv σ o sc ar')) : wpM 156 [.ref o] (rOv σ o sc ar) P := by
  have ha := h.row
  obtain ⟨hk, hn, hr, h49⟩ := h
  refine (b156 hR).mpr ?_
  have fin : ∀ u w1 w2 f, (∀ i, i < l.length → f i = srtF l.length (fun i => l.getD i 0) i) → wp 156 68 [some (.ref o), some (.int u), w1, w2] [] (rOv σ o sc (arW ar f)) P := by
    intro u w1 w2 f hf
    refine (b156_68 hR).mpr (hP _ (WkR_of ?_ ?_ h49 ?_) (Ag_W (by decide)))
    · simp [sortL]; omega
    · rw [hn]; simp [sortL]
    · intro i hi
      simp only [sortL, List.length_map, List.length_range] at hi
      rw [hf i hi]; exact ofF_get hi
  have inner : ∀ j v k g, j ≤ k → k < l.length → (∀ g', (∀ i, i < l.length → g' i = insF g j v i) → ∀ x3, wp 156 2 [some (.ref o), some (.int (nI (k + 1))), some (.int v), some (.int x3)] [] (rOv σ o sc (arW ar g')) P) → wp 156 19 [some (.ref o), some (.int (nI k)), some (.int v), some (.int (nI j))] [] (rOv σ o sc (arW ar g)) P := by
    intro j
    induction j with
    | zero =>
      intro v k g hj hkl hQ
      refine (b156_19 hR).mpr (ifp (Int32.le_refl _) ?_)
      refine (b156_55 hR).mpr ⟨nI_in (N := 64) (by omega) (by omega), ?_⟩
      rw [nI_clamp (by omega), nI_1, arW_up]
      exact hQ _ (fun i _ => rfl) _
    | succ j ih =>
      intro v k g hj hkl hQ
      have e1 : nI (j + 1) - 1 = nI j := nI_pred j
      refine (b156_19 hR).mpr (ifn (show ¬ nI (j + 1) ≤ nI 0 from nI_ge (by omega) (by omega)) ?_)
      refine (b156_23 hR).mpr ?_
      rw [e1, nI_clamp (by omega), arW_67]
      refine ⟨nI_in (N := 64) (by omega) (by omega), ?_⟩
      by_cases w : v < g j
      · refine ifn (by rw [Int32.not_le]; exact w) ?_
        refine (b156_35 hR).mpr ?_
        rw [e1, nI_clamp (show j < 2 ^ 31 by omega), nI_clamp (show j + 1 < 2 ^ 31 by omega), arW_67, arW_up, pk_m1]
        refine ⟨nI_in (N := 64) (by omega) (by omega), nI_in (N := 64) (by omega) (by omega), ?_⟩
        refine ih _ _ _ (by omega) hkl (fun g' hg => hQ g' (fun i hi => ?_))
        rw [hg i hi]
        show _ = (if v < g j then insF (up1 g (j + 1) (g j)) j v else up1 g (j + 1) v) i
        rw [if_pos w]
      · refine ifp (by rw [← Int32.not_lt]; exact w) ?_
        refine (b156_55 hR).mpr ⟨nI_in (N := 64) (by omega) (by omega), ?_⟩
        rw [nI_clamp (by omega), nI_1, arW_up]
        refine hQ _ (fun i _ => ?_) _
        show _ = (if v < g j then insF (up1 g (j + 1) (g j)) j v else up1 g (j + 1) v) i
        rw [if_neg w]
  have key : ∀ j k w1 w2 f, k + j = l.length → 1 ≤ k → (∀ i, i < l.length → f i = srtF k (fun i => l.getD i 0) i) → wp 156 2 [some (.ref o), some (.int (nI k)), w1, w2] [] (rOv σ o sc (arW ar f)) P := by
    intro j
    induction j with
    | zero =>
      intro k w1 w2 f e h1 hf
      refine (b156_2 hR).mpr (ifp ?_ (fin _ w1 w2 f ?_))
      · rw [hn]; exact nI_le (by omega) (by omega)
      · intro i hi; rw [hf i hi, show k = l.length by omega]
    | succ j ih =>
      intro k w1 w2 f e h1 hf
      refine (b156_2 hR).mpr (ifn ?_ ?_)
      · rw [hn]; exact nI_ge (by omega) (by omega)
      refine (b156_10 hR).mpr ⟨nI_in (N := 64) (by omega) (by omega), ?_⟩
      rw [nI_clamp (by omega), arW_67]
      refine inner k (f k) k f (Nat.le_refl _) (by omega) (fun g' hg x3 => ?_)
      refine ih (k + 1) _ _ g' (by omega) (by omega) (fun i hi => ?_)
      rw [hg i hi]
      show _ = insF (srtF k _) k (srtF k _ k) i
      rw [hf k (by omega)]
      exact insF_congr k _ _ _ (by omega) hf i hi
  have hg : ∀ i, i < l.length → ar 67 i = l.getD i 0 := by
    intro i hi
    rw [List.getD_eq_getElem?_getD, ha i hi]; rfl
  by_cases h : l.length = 0
  · have := (b156_2 (P := P) (σ := σ) (o := o) (sc := sc) (ar := arW ar (ar 67)) (x1 := 1) (u2 := none) (u3 := none) hR).mpr (ifp (by rw [hn]; exact nI_le (b := 1) (by omega) (by omega)) (fin _ none none _ (fun i hi => absurd hi (by omega))))
    rw [arW_self] at this
    exact this
  · have := key (l.length - 1) 1 none none (ar 67) (by omega) (Nat.le_refl 1) (by intro i hi; rw [srtF_1]; exact hg i hi)
    rw [arW_self] at this
    exact this
theorem r_sum (hR : RShape σ o) (h : WkR sc ar l) (hP : P (some (.int (sumL l))) (rOv σ o sc ar)) : wpM 159 [.ref o] (rOv σ o sc ar) P := by
  have ha := h.row
  obtain ⟨hk, hn, hr, h49⟩ := h
  refine (b159 hR).mpr ?_
  have key : ∀ j i, i + j = l.length → wp 159 4 [some (.ref o), some (.int (sumL (l.take i))), some (.int (nI i))] [] (rOv σ o sc ar) P := by
    intro j
    induction j with
    | zero =>
      intro i e
      refine (b159_4 hR).mpr (ifp (by rw [hn]; exact nI_le (by omega) (by omega)) ((b159_27 hR).mpr ?_))
      rw [List.take_of_length_le (by omega)]; exact hP
    | succ j ih =>
      intro i e
      refine (b159_4 hR).mpr (ifn (by rw [hn]; exact nI_ge (by omega) (by omega)) ?_)
      refine (b159_12 hR).mpr ⟨nI_in (N := 64) (by omega) (by omega), ?_⟩
      rw [nI_clamp (by omega), nI_1, ← sumL_snoc, ← take_snoc (ha i (by omega))]
      exact ih (i + 1) (by omega)
  exact key _ 0 (Nat.zero_add _)
theorem r_mixWith (hR : RShape σ o) (h : WkR sc ar l) (hP : ∀ ar', WkR sc ar' (mixL l v) → Ag sc ar sc ar' [47] → P none (rOv σ o sc ar')) : wpM 160 [.ref o, .int v] (rOv σ o sc ar) P := by
  have ha := h.row
  obtain ⟨hk, hn, hr, h49⟩ := h
  refine (b160 hR).mpr ?_
  have key : ∀ j i f, i + j = l.length → (∀ q, q < l.length → (if q < i then (mixL l v)[q]? else l[q]?) = some (f q)) → wp 160 2 [some (.ref o), some (.int v), some (.int (nI i))] [] (rOv σ o sc (arW ar f)) P := by
    intro j
    induction j with
    | zero =>
      intro i f e hf
      refine (b160_2 hR).mpr (ifp ?_ ((b160_30 hR).mpr (hP _ (WkR_of ?_ ?_ h49 ?_) (Ag_W (by decide)))))
      · rw [hn]; exact nI_le (by omega) (by omega)
      · simp [mixL]; omega
      · rw [hn]; simp [mixL]
      · intro q hq
        simp only [mixL, List.length_map] at hq
        have := hf q hq
        rw [if_pos (by omega)] at this; exact this
    | succ j ih =>
      intro i f e hf
      refine (b160_2 hR).mpr (ifn ?_ ?_)
      · rw [hn]; exact nI_ge (by omega) (by omega)
      refine (b160_10 hR).mpr ⟨nI_in (N := 64) (by omega) (by omega), nI_in (N := 64) (by omega) (by omega), ?_⟩
      rw [nI_clamp (by omega), nI_1, arW_67, arW_up]
      refine ih (i + 1) _ (by omega) (fun q hq => ?_)
      unfold up1
      by_cases g : q = i
      · rw [if_pos g, if_pos (by omega), g, mixL, List.getElem?_map]
        have := hf i (by omega)
        rw [if_neg (by omega)] at this
        rw [this]; rfl
      · rw [if_neg g, ← hf q hq]
        by_cases g3 : q < i
        · rw [if_pos g3, if_pos (by omega)]
        · rw [if_neg g3, if_neg (by omega)]
  have := key _ 0 (ar 67) (Nat.zero_add _) (fun q hq => by rw [if_neg (by omega)]; exact ha q hq)
  rw [arW_self] at this
  exact this
theorem r_once (hR : RShape σ o) (h : WkR sc ar l) (hP : ∀ sc' ar', WkR sc' ar' (onceL l) → Ag sc ar sc' ar' [47, 48] → P none (rOv σ o sc' ar')) : wpM 157 [.ref o] (rOv σ o sc ar) P := by
  have ha := h.row
  obtain ⟨hk, hn, hr, h49⟩ := h
  refine (b157 hR).mpr ?_
  have key : ∀ j i f u3 u4, i + j = l.length → (∀ q, q < l.length → i ≤ q → l[q]? = some (f q)) → (∀ q, q < (onceL (l.take i)).length → (onceL (l.take i))[q]? = some (f q)) → wp 157 4 [some (.ref o), some (.int (nI (onceL (l.take i)).length)), some (.int (nI i)), u3, u4] [] (rOv σ o sc (arW ar f)) P := by
    intro j
    induction j with
    | zero =>
      intro i f u3 u4 e hf hg
      rw [List.take_of_length_le (by omega)] at hg ⊢
      refine (b157_4 hR).mpr (ifp (by rw [hn]; exact nI_le (by omega) (by omega)) ((b157_85 hR).mpr ?_))
      have := onceL_len l
      exact hP _ _ (WkR_of (by omega) upS_same (by rw [upS_ne (by omega)]; exact h49) hg) ((Ag_W (by decide)).tr (Ag_sc (by decide)))
    | succ j ih =>
      intro i f u3 u4 e hf hg
      have hle : (onceL (l.take i)).length ≤ i := by
        have := onceL_len (l.take i)
        rw [List.length_take] at this; omega
      refine (b157_4 hR).mpr (ifn (by rw [hn]; exact nI_ge (by omega) (by omega)) ((b157_12 hR).mpr ?_))
      have hs : onceL (l.take (i + 1)) = if f i ∈ onceL (l.take i) then onceL (l.take i) else onceL (l.take i) ++ [f i] := by
        rw [take_snoc (hf i (by omega) (Nat.le_refl i)), onceL_snoc]
      generalize hL : onceL (l.take i) = L at *
      have scan : ∀ e' q, q + e' = L.length → wp 157 17 [some (.ref o), some (.int (nI L.length)), some (.int (nI i)), some (.int (b2I (decide (f i ∈ L.take q)))), some (.int (nI q))] [] (rOv σ o sc (arW ar f)) P := by
        intro e'
        induction e' with
        | zero =>
          intro q hq
          refine (b157_17 hR).mpr (ifp (nI_le (by omega) (by omega)) ((b157_55 hR).mpr ?_))
          rw [nI_clamp (show i < 2 ^ 31 by omega), nI_clamp (show L.length < 2 ^ 31 by omega), arW_67, arW_up, List.take_of_length_le (by omega)]
          refine ⟨nI_in (N := 64) (by omega) (by omega), nI_in (N := 64) (by omega) (by omega), ?_⟩
          by_cases c : f i ∈ L
          · rw [if_pos c] at hs
            refine ifn (fun r => b2I_ne.mpr (decide_eq_true c) r) ((b157_72 hR).mpr ((b157_77 hR).mpr ?_))
            rw [nI_1, show ∀ z : Int32, z + 0 = z from fun z => Int32.add_zero z]
            have st := ih (i + 1) (up1 f L.length (f i)) (some (.int (b2I (decide (f i ∈ L))))) (some (.int (nI q))) (by omega)
            rw [hs] at st
            refine st (fun q h1 h2 => ?_) (fun q h1 => ?_)
            · unfold up1; rw [if_neg (by omega)]; exact hf q h1 (by omega)
            · unfold up1; rw [if_neg (by omega)]; exact hg q h1
          · rw [if_neg c] at hs
            refine ifp (b2I_0.mpr (decide_eq_false c)) ((b157_76 hR).mpr ((b157_77 hR).mpr ?_))
            rw [nI_1, nI_1]
            have st := ih (i + 1) (up1 f L.length (f i)) (some (.int (b2I (decide (f i ∈ L))))) (some (.int (nI q))) (by omega)
            rw [hs, List.length_append, List.length_singleton] at st
            refine st (fun q h1 h2 => ?_) (fun q h1 => ?_)
            · unfold up1; rw [if_neg (by omega)]; exact hf q h1 (by omega)
            · unfold up1
              by_cases w : q = L.length
              · rw [if_pos w, w]; simp
              · rw [if_neg w, List.getElem?_append_left (by omega)]; exact hg q (by omega)
        | succ e' ih' =>
          intro q hq
          have hql : q < L.length := by omega
          have st := ih' (q + 1) (by omega)
          refine (b157_17 hR).mpr (ifn (nI_ge (by omega) (by omega)) ((b157_23 hR).mpr ?_))
          have mem : f i ∈ L.take (q + 1) ↔ f i ∈ L.take q ∨ f i = f q := by
            rw [take_snoc (hg q hql), List.mem_append, List.mem_singleton]
          by_cases c : f i ∈ L.take q
          · refine ifp (b2I_ne.mpr (decide_eq_true c)) ((b157_43 hR).mpr ((b157_48 hR).mpr ?_))
            rw [nI_1]
            rw [decide_eq_true (mem.mpr (Or.inl c))] at st
            exact st
          · refine ifn (fun r => c (decide_eq_true_iff.mp (b2I_ne.mp r))) ((b157_27 hR).mpr ?_)
            rw [nI_clamp (show q < 2 ^ 31 by omega), nI_clamp (show i < 2 ^ 31 by omega), arW_67, arW_67]
            refine ⟨nI_in (N := 64) (by omega) (by omega), nI_in (N := 64) (by omega) (by omega), ?_⟩
            by_cases d : f q = f i
            · refine ifn (fun r => r d) ((b157_43 hR).mpr ((b157_48 hR).mpr ?_))
              rw [nI_1]
              rw [decide_eq_true (mem.mpr (Or.inr d.symm))] at st
              exact st
            · refine ifp d ((b157_47 hR).mpr ((b157_48 hR).mpr ?_))
              rw [nI_1]
              rw [decide_eq_false (fun r => by rcases mem.mp r with r | r; exact c r; exact d r.symm)] at st
              exact st
      have := scan _ 0 (Nat.zero_add _)
      rw [List.take_zero, decide_eq_false (by simp)] at this
      exact this
  have := key _ 0 (ar 67) none none (Nat.zero_add _) (fun q h _ => ha q h) (fun q h => absurd h (Nat.not_lt_zero q))
  rw [arW_self] at this
  exact this
/-- the row twice -/
theorem r_twice (hR : RShape σ o) (h : WkR sc ar l) (hP : ∀ sc' ar', AddP sc' ar' (l ++ l) → Ag sc ar sc' ar' [47, 48, 49] → P none (rOv σ o sc' ar')) : wpM 158 [.ref o] (rOv σ o sc ar) P := by
  have ha := h.row
  have hadd := h.add
  obtain ⟨hk, hn, hr, h49⟩ := h
  refine (b158 hR).mpr ?_
  rw [hn]
  have key : ∀ e k sc' ar', k + e = l.length → AddP sc' ar' (l ++ l.take k) → (∀ i, i < l.length → ar' 67 i = ar 67 i) → Ag sc ar sc' ar' [47, 48, 49] → wp 158 7 [some (.ref o), some (.int (nI l.length)), some (.int (nI k))] [] (rOv σ o sc' ar') P := by
    intro e
    induction e with
    | zero =>
      intro k sc' ar' hk' hA hs hg
      rw [List.take_of_length_le (by omega)] at hA
      exact (b158_7 hR).mpr (ifp (nI_le (by omega) (by omega)) ((b158_28 hR).mpr (hP _ _ hA hg)))
    | succ e ih =>
      intro k sc' ar' hk' hA hs hg
      refine (b158_7 hR).mpr (ifn (nI_ge (by omega) (by omega)) ((b158_12 hR).mpr ⟨nI_in (N := 64) (by omega) (by omega), ?_⟩))
      rw [nI_clamp (by omega), hs k (by omega)]
      refine r_add hR hA (fun sc2 ar2 hA2 hs2 hg2 => (b158_22 hR).mpr ?_)
      rw [nI_1]
      refine ih (k + 1) sc2 ar2 (by omega) ?_ (fun i hi => ?_) (hg.tr hg2)
      · rw [take_snoc (ha k (by omega)), ← List.append_assoc]; exact hA2
      · rw [hs2 i (by rw [List.length_append]; omega) (by omega)]; exact hs i hi
  exact key _ 0 sc ar (Nat.zero_add _) (by simpa using hadd) (fun _ _ => rfl) Ag.rf
/-- the figures of a number -/
theorem r_figures (hR : RShape σ o) {v : Nat} (hv : v < 100000) (h49 : sc 49 = 0) (hP : ∀ sc' ar', WkR sc' ar' (figsL v) → Ag sc ar sc' ar' [47, 48, 49] → P none (rOv σ o sc' ar')) : wpM 151 [.ref o, .int (nI v)] (rOv σ o sc ar) P := by
  refine (b151 hR).mpr ?_
  have p10 : ∀ j, j ≤ 5 → 10 ^ j ≤ 100000 := by
    intro j hj
    exact Nat.pow_le_pow_right (by omega) hj
  have pos : ∀ j, 0 < 10 ^ j := fun j => Nat.pow_pos (by omega)
  have out : ∀ m acc sc' ar' x2, m ≤ 5 → acc ++ hiN m v = figsL v → acc.length + m + 1 ≤ 64 → AddP sc' ar' acc → Ag sc ar sc' ar' [47, 48, 49] → wp 151 25 [some (.ref o), some (.int (nI v)), some (.int x2), some (.int (nI (10 ^ m)))] [] (rOv σ o sc' ar') P := by
    intro m
    induction m with
    | zero =>
      intro acc sc' ar' x2 _ he hl hA hg
      refine (b151_25 hR).mpr (ifn (by decide) ((b151_29 hR).mpr ⟨by decide, by decide, ?_⟩))
      have e1 : (48 : Int32) + (nI v / nI (10 ^ 0) - nI v / nI (10 ^ 0) / 10 * 10) = nI (48 + v % 10) := by
        rw [pk_div (d := 10 ^ 0) (by omega) (by omega) (by omega), Nat.pow_zero, Nat.div_one, show nI v - nI v / 10 * 10 = nI (v % 10) from pk_rem (d := 10) (by omega) (by omega) (by omega)]
        exact nI_add 48 _
      rw [e1]
      refine r_add hR hA (fun sc2 ar2 hA2 _ hg2 => (b151_42 hR).mpr ⟨by decide, (b151_25 hR).mpr (ifp (by decide) ((b151_50 hR).mpr (hP _ _ ?_ (hg.tr hg2))))⟩)
      rw [show acc ++ [nI (48 + v % 10)] = figsL v from he] at hA2
      rcases hA2 with g | ⟨g, _⟩
      · exact g
      · rw [← he, List.length_append, hiN_len] at g; omega
    | succ m ih =>
      intro acc sc' ar' x2 hm he hl hA hg
      have hp := p10 (m + 1) hm
      have h0 := pos (m + 1)
      refine (b151_25 hR).mpr (ifn (show ¬ nI (10 ^ (m + 1)) ≤ nI 0 from nI_ge h0 (by omega)) ((b151_29 hR).mpr ⟨nI_ne0 h0 (by omega), by decide, ?_⟩))
      have hd : v / 10 ^ (m + 1) < 2 ^ 31 := by have := Nat.div_le_self v (10 ^ (m + 1)); omega
      have e1 : (48 : Int32) + (nI v / nI (10 ^ (m + 1)) - nI v / nI (10 ^ (m + 1)) / 10 * 10) = nI (48 + v / 10 ^ (m + 1) % 10) := by
        rw [pk_div (d := 10 ^ (m + 1)) (by omega) h0 (by omega), show nI (v / 10 ^ (m + 1)) - nI (v / 10 ^ (m + 1)) / 10 * 10 = nI (v / 10 ^ (m + 1) % 10) from pk_rem (d := 10) hd (by omega) (by omega)]
        exact nI_add 48 _
      rw [e1]
      refine r_add hR hA (fun sc2 ar2 hA2 _ hg2 => (b151_42 hR).mpr ⟨by decide, ?_⟩)
      have e2 : nI (10 ^ (m + 1)) / 10 = nI (10 ^ m) := by
        rw [show nI (10 ^ (m + 1)) / 10 = nI (10 ^ (m + 1) / 10) from pk_div (d := 10) (by omega) (by omega) (by omega), Nat.pow_succ, Nat.mul_div_cancel _ (by omega)]
      rw [e2]
      refine ih (acc ++ [nI (48 + v / 10 ^ (m + 1) % 10)]) sc2 ar2 x2 (by omega) ?_ (by simp; omega) hA2 (hg.tr hg2)
      rw [List.append_assoc]; exact he
  have unit : ∀ e j u3, j + e = 5 → (j = 0 ∨ 9 < v / 10 ^ (j - 1)) → wp 151 7 [some (.ref o), some (.int (nI v)), some (.int (nI (10 ^ j))), u3] [] (rOv σ o (upS sc 48 0) ar) P := by
    intro e
    induction e with
    | zero =>
      intro j u3 hj h9
      have hj : j = 5 := by omega
      subst hj
      refine (b151_7 hR).mpr ⟨by decide, ifp ?_ ((b151_23 hR).mpr (out 5 [] _ _ _ (by omega) ?_ (by simp) (Or.inl ⟨by simp, upS_same, RRow_nil, by rw [upS_ne (by omega)]; exact h49⟩) (Ag_sc (by decide))))⟩
      · rw [pk_div (d := 10 ^ 5) (by omega) (by omega) (by omega)]; exact nI_le (b := 9) (by omega) (by omega)
      · exact (lowN_hiN 5 10 v (by omega) (by omega) h9).symm
    | succ e ih =>
      intro j u3 hj h9
      have hp := p10 j (by omega)
      have h0 := pos j
      refine (b151_7 hR).mpr ⟨nI_ne0 h0 (by omega), ?_⟩
      rw [pk_div (d := 10 ^ j) (by omega) h0 (by omega)]
      have hd : v / 10 ^ j < 2 ^ 31 := by have := Nat.div_le_self v (10 ^ j); omega
      by_cases c : v / 10 ^ j ≤ 9
      · refine ifp (nI_le (b := 9) c (by omega)) ((b151_23 hR).mpr (out j [] _ _ _ (by omega) ?_ (by simp; omega) (Or.inl ⟨by simp, upS_same, RRow_nil, by rw [upS_ne (by omega)]; exact h49⟩) (Ag_sc (by decide))))
        exact (lowN_hiN j 10 v (by omega) c h9).symm
      · refine ifn (nI_ge (a := 9) (by omega) hd) ((b151_15 hR).mpr ?_)
        have e2 : nI (10 ^ j) * 10 = nI (10 ^ (j + 1)) := by rw [Nat.pow_succ]; exact nI_mul _ 10
        rw [e2]
        exact ih (j + 1) u3 (by omega) (Or.inr (by rw [Nat.add_sub_cancel]; omega))
  exact unit 5 0 none rfl (Or.inl rfl)
end RW1
