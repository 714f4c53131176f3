/-! LISTS -/
/-- a list's fields (of all lists), the lists' arrays, and what is new, changed -/
def upLs (σ : zSt) (tg : Nat → Nat × Nat × Nat) (F1 : Nat → Nat → Int32) (F2 : Nat → Nat → Option Nat) (A : Nat → Nat → Option Nat) (nx sl : Nat) : zSt :=
  zmk tg (fun c k a => if c = 13 then F1 k a else zfi σ c k a) (zfl σ) (fun c k a => if c = 13 then F2 k a else zfr σ c k a) (zai σ) (fun t a i => if t = 11 then A a i else zar σ t a i) nx sl (ze0 σ) (zmi σ)
def Fresh (σ : zSt) : Prop := ∀ a, znx σ ≤ a → (ztg σ a).1 = 0
def LDis (σ : zSt) : Prop := (∀ l d, zIs σ l 13 → zfr σ 13 1 l = some d → (ztg σ d).1 ≠ 0) ∧ ∀ l l' d, zIs σ l 13 → zIs σ l' 13 → zfr σ 13 1 l = some d → zfr σ 13 1 l' = some d → (ztg σ d).1 = 3 → l = l'
def EOk (σ : zSt) : Prop := ∀ d i, zEl σ (zar σ 11 d i) = true
/-- what holds of the heap all the time -/
def HI (σ : zSt) : Prop := CShape σ ∧ Fresh σ ∧ LDis σ ∧ EOk σ ∧ ztg σ (ze0 σ) = (5, 0, 0)
def capOf (σ : zSt) (l : Nat) : Nat := (ztg σ (zrf σ 13 1 l)).2.2
def LVal (σ : zSt) (l : Nat) (xs : List Nat) : Prop := zIs σ l 13 ∧ ∃ d, zfr σ 13 1 l = some d ∧ zfi σ 13 2 l = nI xs.length ∧ ((d = ze0 σ ∧ ztg σ d = (5, 0, 0) ∧ xs = []) ∨ ∃ cap, ztg σ d = (3, 11, cap) ∧ xs.length ≤ cap ∧ 10 ≤ cap ∧ cap ≤ 1000000) ∧ ∀ i, i < xs.length → zar σ 11 d i = xs[i]?
/-- only lists have changed -/
def LsO (σ τ : zSt) : Prop := (∃ tg F1 F2 A nx sl, τ = upLs σ tg F1 F2 A nx sl) ∧ (∀ a, (ztg σ a).1 ≠ 0 → ztg τ a = ztg σ a) ∧ (∀ a, ztg τ a = ztg σ a ∨ ∃ cap, ztg τ a = (3, 11, cap)) ∧ znx σ ≤ znx τ
/-- one list has got another value -/
def LPost (σ τ : zSt) (l : Nat) (xs : List Nat) : Prop := LsO σ τ ∧ HI τ ∧ LVal τ l xs ∧ (∀ l' ys, l' ≠ l → LVal σ l' ys → LVal τ l' ys ∧ capOf τ l' = capOf σ l') ∧ znx τ + capOf σ l ≤ znx σ + capOf τ l ∧ zsl τ + 4 * capOf σ l ≤ zsl σ + 4 * capOf τ l ∧ capOf σ l ≤ capOf τ l ∧ capOf τ l ≤ max (capOf σ l) (2 * xs.length + 10)
section LS
variable {σ τ υ : zSt} {P : Option Value → zSt → Prop} {c d l a k : Nat} {v : Int32} {xs : List Nat}
theorem upLs_upLs {tg tg' F1 F1' F2 F2' A A' nx nx' sl sl'} : upLs (upLs σ tg F1 F2 A nx sl) tg' F1' F2' A' nx' sl' = upLs σ tg' F1' F2' A' nx' sl' := by
  unfold upLs
  congr 1
  · funext x y z
    show (if _ then _ else (if _ then _ else _)) = (if _ then _ else _)
    by_cases h : x = 13
    · rw [if_pos h, if_pos h]
    · rw [if_neg h, if_neg h, if_neg h]
  · funext x y z
    show (if _ then _ else (if _ then _ else _)) = (if _ then _ else _)
    by_cases h : x = 13
    · rw [if_pos h, if_pos h]
    · rw [if_neg h, if_neg h, if_neg h]
  · funext x y z
    show (if _ then _ else (if _ then _ else _)) = (if _ then _ else _)
    by_cases h : x = 11
    · rw [if_pos h, if_pos h]
    · rw [if_neg h, if_neg h, if_neg h]
theorem upLs_self : upLs σ (ztg σ) (zfi σ 13) (zfr σ 13) (zar σ 11) (znx σ) (zsl σ) = σ := by
  have e1 : (fun c k a => if c = 13 then zfi σ 13 k a else zfi σ c k a) = zfi σ := by
    funext x y z
    by_cases h : x = 13
    · rw [if_pos h, h]
    · rw [if_neg h]
  have e2 : (fun c k a => if c = 13 then zfr σ 13 k a else zfr σ c k a) = zfr σ := by
    funext x y z
    by_cases h : x = 13
    · rw [if_pos h, h]
    · rw [if_neg h]
  have e3 : (fun t a i => if t = 11 then zar σ 11 a i else zar σ t a i) = zar σ := by
    funext x y z
    by_cases h : x = 11
    · rw [if_pos h, h]
    · rw [if_neg h]
  unfold upLs
  rw [e1, e2, e3]
  rfl
theorem LsO_refl : LsO σ σ := ⟨⟨_, _, _, _, _, _, upLs_self.symm⟩, fun _ _ => rfl, fun _ => Or.inl rfl, Nat.le_refl _⟩
theorem LsO_trans (h : LsO σ τ) (h' : LsO τ υ) : LsO σ υ := by
  obtain ⟨⟨tg, F1, F2, A, nx, sl, rfl⟩, h2, h3, h4⟩ := h
  obtain ⟨⟨tg', F1', F2', A', nx', sl', rfl⟩, h2', h3', h4'⟩ := h'
  refine ⟨⟨_, _, _, _, _, _, upLs_upLs⟩, fun a h => ?_, fun a => ?_, Nat.le_trans h4 h4'⟩
  · have e := h2 a h
    rw [← e]; exact h2' a (by rw [e]; exact h)
  · rcases h3' a with q | q
    · rcases h3 a with r | r
      · exact Or.inl (q.trans r)
      · obtain ⟨cap, r⟩ := r
        exact Or.inr ⟨cap, q.trans r⟩
    · exact Or.inr q
theorem LsO_is (h : LsO σ τ) : zIs τ a k ↔ zIs σ a k := by
  obtain ⟨_, h2, h3, _⟩ := h
  unfold zIs
  constructor
  · intro q
    rcases h3 a with r | ⟨cap, r⟩
    · rw [← r]; exact q
    · rw [r] at q; exact absurd q.1 (by simp)
  · intro q
    rw [h2 a (by rw [q.1]; simp)]; exact q
theorem LsO_cs (h : LsO σ τ) (hC : CShape σ) : CShape τ := by
  have hi := fun a k => LsO_is (a := a) (k := k) h
  obtain ⟨⟨tg, F1, F2, A, nx, sl, rfl⟩, h2, h3, h4⟩ := h
  refine ⟨fun e he a hz => ?_, fun e he b hb i hi => ?_⟩
  · have g := hC.1 e he a ((hi a e.1).mp hz)
    have hne : e.1 ≠ 13 := by
      have : ∀ e ∈ layL, e.1 ≠ 13 := by decide
      exact this e he
    have hnz : e.2.2.2.1 ≠ 0 := by
      have : ∀ e ∈ layL, e.2.2.2.1 ≠ 0 := by decide
      exact this e he
    refine ⟨?_, ?_⟩
    · show (if e.1 = 13 then _ else _) = _
      rw [if_neg hne]; exact g.1
    · rw [h2 _ (by rw [g.2]; exact hnz)]; exact g.2
  · have hne : e.1 ≠ 11 := by
      have : ∀ e ∈ layA, e.1 ≠ 11 := by decide
      exact this e he
    have hnz : e.2.2.2.2.1 ≠ 0 := by
      have : ∀ e ∈ layA, e.2.2.2.2.1 ≠ 0 := by decide
      exact this e he
    have hb' : ztg σ b = (3, e.1, e.2.1) := by
      rcases h3 b with r | ⟨cap, r⟩
      · rw [← r]; exact hb
      · rw [r] at hb; exact absurd (congrArg (fun q => q.2.1) hb).symm hne
    have g := hC.2 e he b hb' i hi
    refine ⟨?_, ?_⟩
    · show (if e.1 = 11 then _ else _) = _
      rw [if_neg hne]; exact g.1
    · rw [h2 _ (by rw [g.2]; exact hnz)]; exact g.2
theorem checkIndex_ok {i n : Nat} (h : i < n) (hn : n < 2 ^ 31) (hP : P (some (.int (nI i))) σ) : wpM 200 [.int (nI i), .int (nI n)] σ P := by
  refine b200.mpr (b203.mpr (ifn (nI_pos (by omega)) (b203_4.mpr (ifp (nI_lt h hn) (b203_16.mpr ?_)))))
  exact b200_6.mpr hP
theorem size_ok (h : LVal σ l xs) (hP : P (some (.int (nI xs.length))) σ) : wpM 187 [.ref l] σ P := by
  obtain ⟨hz, d, hd, hn, _⟩ := h
  refine b187.mpr ⟨hz, ?_⟩
  rw [hn]; exact hP
theorem isEmpty_ok (h : LVal σ l xs) (hx : xs.length < 2 ^ 31) (hP : P (some (.int (if xs = [] then 1 else 0))) σ) : wpM 188 [.ref l] σ P := by
  obtain ⟨hz, d, hd, hn, _⟩ := h
  cases xs with
  | nil => exact b188.mpr ⟨hz, ifn (fun q => q (by rw [hn]; rfl)) (b188_7.mpr (b188_12.mpr ⟨Or.inr rfl, hP⟩))⟩
  | cons x xs =>
    refine b188.mpr ⟨hz, ifp ?_ (b188_11.mpr (b188_12.mpr ⟨Or.inl rfl, hP⟩))⟩
    rw [hn]; exact nI_ne0 (by simp) hx
theorem LVal_len (h : LVal σ l xs) : xs.length ≤ 1000000 := by
  obtain ⟨hz, d, hd, hn, hc, he⟩ := h
  rcases hc with ⟨_, _, h⟩ | ⟨cap, _, h1, h2⟩
  · rw [h]; simp
  · omega
theorem get_ok (h : LVal σ l xs) {i : Nat} (hi : i < xs.length) (hP : P (some (.ref xs[i])) σ) : wpM 190 [.ref l, .int (nI i)] σ P := by
  have hlen := LVal_len h
  obtain ⟨hz, d, hd, hn, hc, he⟩ := h
  refine b190.mpr ⟨hz, ?_⟩
  rw [hn]
  refine checkIndex_ok hi (by omega) (b190_8.mpr ⟨hz, ?_⟩)
  have e : zrf σ 13 1 l = d := by unfold zrf; rw [hd]; rfl
  rcases hc with ⟨_, _, hq⟩ | ⟨cap, ht, h1, h2⟩
  · rw [hq] at hi; exact absurd hi (Nat.not_lt_zero i)
  refine b189.mpr ?_
  rw [hd, e, ht]
  have hv : zar σ 11 d i = some xs[i] := by rw [he i hi]; exact List.getElem?_eq_getElem hi
  refine ⟨hz, rfl, ⟨rfl, rfl, ?_, ?_⟩, ?_⟩
  · exact nI_in (N := cap) (by omega) (by omega)
  · rw [nI_clamp (by omega)]; dsimp only; rw [hv]; rfl
  · rw [nI_clamp (by omega)]
    refine b190_14.mpr ?_
    unfold zrq; dsimp only; rw [hv]; exact hP
end LS
def setL (σ : zSt) (l d : Nat) (m n : Int32) (f : Nat → Option Nat) : zSt := zmk (ztg σ) (fun c k a => if c = 13 ∧ a = l then (if k = 0 then m else if k = 2 then n else zfi σ c k a) else zfi σ c k a) (zfl σ) (zfr σ) (zai σ) (fun t a i => if t = 11 ∧ a = d then f i else zar σ t a i) (znx σ) (zsl σ) (ze0 σ) (zmi σ)
section LL
variable {σ τ υ : zSt} {P : Option Value → zSt → Prop} {c d l a k i cap : Nat} {v m n : Int32} {xs ys : List Nat} {f g : Nat → Option Nat}
theorem L_n : zfi (setL σ l d m n f) 13 2 l = n := by
  show (if _ then (if _ then _ else (if _ then _ else _)) else _) = _
  rw [if_pos ⟨rfl, rfl⟩]; rfl
theorem L_m : zfi (setL σ l d m n f) 13 0 l = m := by
  show (if _ then (if _ then _ else (if _ then _ else _)) else _) = _
  rw [if_pos ⟨rfl, rfl⟩]; rfl
theorem L_n' (h : a ≠ l) : zfi (setL σ l d m n f) 13 k a = zfi σ 13 k a := if_neg fun q => h q.2
theorem L_a : zar (setL σ l d m n f) 11 d i = f i := if_pos ⟨rfl, rfl⟩
theorem L_a' (h : a ≠ d) : zar (setL σ l d m n f) 11 a i = zar σ 11 a i := if_neg fun q => h q.2
theorem L_A : zar (setL σ l d m n f) 11 d = f := by funext i; exact L_a
theorem L_sn : sfi (setL σ l d m n f) 13 2 l v = setL σ l d m v f := by
  unfold sfi setL
  congr 1
  funext x y z
  show (if _ then _ else (if _ then (if _ then _ else (if _ then _ else _)) else _)) = (if _ then (if _ then _ else (if _ then _ else _)) else _)
  by_cases h : x = 13 ∧ z = l
  · by_cases h2 : y = 2
    · rw [if_pos ⟨h.1, h2, h.2⟩, if_pos h, if_neg (show ¬ y = 0 by omega), if_pos h2]
    · rw [if_neg (fun q => h2 q.2.1), if_pos h, if_pos h, if_neg h2]
      by_cases h0 : y = 0
      · rw [if_pos h0, if_pos h0]
      · rw [if_neg h0, if_neg h0, if_neg h2]
  · rw [if_neg (fun q => h ⟨q.1, q.2.2⟩), if_neg h, if_neg h]
theorem L_sm : sfi (setL σ l d m n f) 13 0 l v = setL σ l d v n f := by
  unfold sfi setL
  congr 1
  funext x y z
  show (if _ then _ else (if _ then (if _ then _ else (if _ then _ else _)) else _)) = (if _ then (if _ then _ else (if _ then _ else _)) else _)
  by_cases h : x = 13 ∧ z = l
  · by_cases h2 : y = 0
    · rw [if_pos ⟨h.1, h2, h.2⟩, if_pos h, if_pos h2]
    · rw [if_neg (fun q => h2 q.2.1), if_pos h, if_pos h, if_neg h2, if_neg h2]
  · rw [if_neg (fun q => h ⟨q.1, q.2.2⟩), if_neg h, if_neg h]
theorem L_sa {w : Option Nat} : sar (setL σ l d m n f) 11 d i w = setL σ l d m n (fun j => if j = i then w else f j) := by
  unfold sar setL
  congr 1
  funext x y z
  show (if _ then _ else (if _ then _ else _)) = (if _ then (if _ then _ else _) else _)
  by_cases h : x = 11 ∧ y = d
  · by_cases h2 : z = i
    · rw [if_pos ⟨h.1, h.2, h2⟩, if_pos h, if_pos h2]
    · rw [if_neg fun q => h2 q.2.2, if_pos h, if_pos h, if_neg h2]
  · rw [if_neg fun q => h ⟨q.1, q.2.1⟩, if_neg h, if_neg h]
theorem L_sw : sarW (setL σ l d m n f) 11 d g = setL σ l d m n g := by
  unfold sarW setL
  congr 1
  funext x y z
  show (if _ then _ else (if _ then _ else _)) = (if _ then _ else _)
  by_cases h : x = 11 ∧ y = d
  · rw [if_pos h, if_pos h]
  · rw [if_neg h, if_neg h, if_neg h]
theorem L_self : setL σ l d (zfi σ 13 0 l) (zfi σ 13 2 l) (zar σ 11 d) = σ := by
  have e1 : (fun c k a => if c = 13 ∧ a = l then (if k = 0 then zfi σ 13 0 l else if k = 2 then zfi σ 13 2 l else zfi σ c k a) else zfi σ c k a) = zfi σ := by
    funext x y z
    by_cases h : x = 13 ∧ z = l
    · rw [if_pos h]
      by_cases h0 : y = 0
      · rw [if_pos h0, h.1, h0, h.2]
      · rw [if_neg h0]
        by_cases h2 : y = 2
        · rw [if_pos h2, h.1, h2, h.2]
        · rw [if_neg h2]
    · rw [if_neg h]
  have e2 : (fun t a i => if t = 11 ∧ a = d then zar σ 11 d i else zar σ t a i) = zar σ := by
    funext x y z
    by_cases h : x = 11 ∧ y = d
    · rw [if_pos h, h.1, h.2]
    · rw [if_neg h]
  unfold setL
  rw [e1, e2]
  rfl
theorem L_LsO : LsO σ (setL σ l d m n f) := by
  refine ⟨⟨ztg σ, fun k a => zfi (setL σ l d m n f) 13 k a, zfr σ 13, fun a i => zar (setL σ l d m n f) 11 a i, znx σ, zsl σ, ?_⟩, fun _ _ => rfl, fun _ => Or.inl rfl, Nat.le_refl _⟩
  have e1 : (fun c k a => if c = 13 then zfi (setL σ l d m n f) 13 k a else zfi σ c k a) = zfi (setL σ l d m n f) := by
    funext x y z
    by_cases h : x = 13
    · rw [if_pos h, h]
    · rw [if_neg h]
      exact (if_neg (fun q => h q.1)).symm
  have e2 : (fun c k a => if c = 13 then zfr σ 13 k a else zfr σ c k a) = zfr σ := by
    funext x y z
    by_cases h : x = 13
    · rw [if_pos h, h]
    · rw [if_neg h]
  have e3 : (fun t a i => if t = 11 then zar (setL σ l d m n f) 11 a i else zar σ t a i) = zar (setL σ l d m n f) := by
    funext x y z
    by_cases h : x = 11
    · rw [if_pos h, h]
    · rw [if_neg h]
      exact (if_neg (fun q => h q.1)).symm
  unfold upLs
  rw [e1, e2, e3]
  rfl
/-- a list whose array stays, with other elements -/
theorem L_post (hH : HI σ) (hz : zIs σ l 13) (hd : zfr σ 13 1 l = some d) (ht : ztg σ d = (3, 11, cap)) (hc : ys.length ≤ cap) (hc2 : 10 ≤ cap ∧ cap ≤ 1000000) (hf : ∀ i, i < ys.length → f i = ys[i]?) (hE : ∀ i, zEl σ (f i) = true) : LPost σ (setL σ l d m (nI ys.length) f) l ys := by
  obtain ⟨hC, hF, hL, hEO, h0⟩ := hH
  refine ⟨L_LsO, ⟨LsO_cs L_LsO hC, hF, hL, ?_, h0⟩, ⟨hz, d, hd, L_n, Or.inr ⟨cap, ht, hc, hc2⟩, fun i hi => ?_⟩, ?_, Nat.le_refl _, Nat.le_refl _, Nat.le_refl _, Nat.le_max_left _ _⟩
  · intro e i
    show zEl σ (if _ then _ else _) = true
    split
    · exact hE i
    · exact hEO e i
  · rw [L_a]; exact hf i hi
  · rintro l' zs hne ⟨hz', d', hd', hn', hc', he'⟩
    refine ⟨⟨hz', d', hd', ?_, hc', fun i hi => ?_⟩, rfl⟩
    · rw [L_n' hne]; exact hn'
    · rw [L_a']
      · exact he' i hi
      · intro q
        subst q
        exact hne (hL.2 l' l d' hz' hz hd' hd (by rw [ht]))
end LL
section LG
variable {σ τ υ : zSt} {P : Option Value → zSt → Prop} {c d l a k i cap N : Nat} {v m n : Int32} {xs ys : List Nat} {f g : Nat → Option Nat}
theorem LPost_trans (h : LPost σ τ l xs) (h' : LPost τ υ l ys) (hl : xs.length ≤ ys.length) : LPost σ υ l ys := by
  obtain ⟨a1, a2, a3, a4, a5, a6, a7, a8⟩ := h
  obtain ⟨b1, b2, b3, b4, b5, b6, b7, b8⟩ := h'
  refine ⟨LsO_trans a1 b1, b2, b3, fun l' zs hne hv => ?_, by omega, by omega, by omega, by omega⟩
  obtain ⟨c1, c2⟩ := a4 l' zs hne hv
  obtain ⟨d1, d2⟩ := b4 l' zs hne c1
  exact ⟨d1, d2.trans c2⟩
theorem sarW_self {t : Nat} : sarW σ t a (zar σ t a) = σ := by
  have e2 : (fun t' a' i => if t' = t ∧ a' = a then zar σ t a i else zar σ t' a' i) = zar σ := by
    funext x y z
    by_cases h : x = t ∧ y = a
    · rw [if_pos h, h.1, h.2]
    · rw [if_neg h]
  unfold sarW
  rw [e2]
  rfl
theorem tag_lt (hF : Fresh σ) (h : (ztg σ a).1 ≠ 0) : a < znx σ := by
  rcases Nat.lt_or_ge a (znx σ) with q | q
  · exact q
  · exact absurd (hF a q) h
theorem zAsg_nz {t : Nat} {q : Nat × Nat × Nat} (h : zAsg t q = true) : q.1 ≠ 0 := by
  unfold zAsg at h
  intro e
  rw [e] at h
  exact absurd h (by simp)
/-- a list with a new array -/
theorem G_post (hH : HI σ) (hv : LVal σ l xs) (hN : 10 ≤ N ∧ N ≤ 1000000) (hx : xs.length ≤ N) (hg : ∀ i, i < xs.length → g i = xs[i]?) (hE : ∀ i, zEl σ (g i) = true) (h1 : 1 + capOf σ l ≤ N) (h2 : N + 4 * capOf σ l ≤ 4 * N) (h3 : N ≤ max (capOf σ l) (2 * xs.length + 10)) :
    LPost σ (sfr (sarW (zNewR σ 11 N) 11 (znx σ) g) 13 1 l (some (znx σ))) l xs ∧ zfr (sfr (sarW (zNewR σ 11 N) 11 (znx σ) g) 13 1 l (some (znx σ))) 13 1 l = some (znx σ) ∧ ztg (sfr (sarW (zNewR σ 11 N) 11 (znx σ) g) 13 1 l (some (znx σ))) (znx σ) = (3, 11, N) := by
  obtain ⟨hC, hF, hL, hEO, h0⟩ := hH
  have tgs : ztg (sfr (sarW (zNewR σ 11 N) 11 (znx σ) g) 13 1 l (some (znx σ))) = upT (ztg σ) (znx σ) (3, 11, N) := rfl
  have tn : ∀ a, (ztg σ a).1 ≠ 0 → upT (ztg σ) (znx σ) (3, 11, N) a = ztg σ a := fun a h => if_neg (Nat.ne_of_lt (tag_lt hF h))
  have ht : upT (ztg σ) (znx σ) (3, 11, N) (znx σ) = (3, 11, N) := if_pos rfl
  have hfr : zfr (sfr (sarW (zNewR σ 11 N) 11 (znx σ) g) 13 1 l (some (znx σ))) 13 1 l = some (znx σ) := if_pos ⟨rfl, rfl, rfl⟩
  have hfr' : ∀ a, a ≠ l → zfr (sfr (sarW (zNewR σ 11 N) 11 (znx σ) g) 13 1 l (some (znx σ))) 13 1 a = zfr σ 13 1 a := fun a h => if_neg fun q => h q.2.2
  have har : ∀ i, zar (sfr (sarW (zNewR σ 11 N) 11 (znx σ) g) 13 1 l (some (znx σ))) 11 (znx σ) i = g i := fun i => if_pos ⟨rfl, rfl⟩
  have har' : ∀ a i, a ≠ znx σ → zar (sfr (sarW (zNewR σ 11 N) 11 (znx σ) g) 13 1 l (some (znx σ))) 11 a i = zar σ 11 a i := by
    intro a i h
    show (if _ then _ else (if _ then _ else _)) = _
    rw [if_neg fun q => h q.2, if_neg fun q => h q.2]
  have zel : ∀ o, zEl σ o = true → zEl (sfr (sarW (zNewR σ 11 N) 11 (znx σ) g) 13 1 l (some (znx σ))) o = true := by
    intro o ho
    cases o with
    | none => rfl
    | some q =>
      have ho : zAsg 11 (ztg σ q) = true := ho
      show zAsg 11 (upT (ztg σ) (znx σ) (3, 11, N) q) = true
      rw [tn q (zAsg_nz ho)]; exact ho
  have hlo : LsO σ (sfr (sarW (zNewR σ 11 N) 11 (znx σ) g) 13 1 l (some (znx σ))) := by
    refine ⟨⟨upT (ztg σ) (znx σ) (3, 11, N), zfi σ 13, zfr (sfr (sarW (zNewR σ 11 N) 11 (znx σ) g) 13 1 l (some (znx σ))) 13, zar (sfr (sarW (zNewR σ 11 N) 11 (znx σ) g) 13 1 l (some (znx σ))) 11, znx σ + 1, zsl σ + N, ?_⟩, fun a h => tn a h, fun a => ?_, Nat.le_succ _⟩
    · have e1 : (fun c k a => if c = 13 then zfi σ 13 k a else zfi σ c k a) = zfi σ := by
        funext x y z
        by_cases h : x = 13
        · rw [if_pos h, h]
        · rw [if_neg h]
      have e2 : (fun c k a => if c = 13 then zfr (sfr (sarW (zNewR σ 11 N) 11 (znx σ) g) 13 1 l (some (znx σ))) 13 k a else zfr σ c k a) = zfr (sfr (sarW (zNewR σ 11 N) 11 (znx σ) g) 13 1 l (some (znx σ))) := by
        funext x y z
        by_cases h : x = 13
        · rw [if_pos h, h]
        · rw [if_neg h]; exact (if_neg (fun q => h q.1)).symm
      have e3 : (fun t a i => if t = 11 then zar (sfr (sarW (zNewR σ 11 N) 11 (znx σ) g) 13 1 l (some (znx σ))) 11 a i else zar σ t a i) = zar (sfr (sarW (zNewR σ 11 N) 11 (znx σ) g) 13 1 l (some (znx σ))) := by
        funext x y z
        by_cases h : x = 11
        · rw [if_pos h, h]
        · rw [if_neg h]
          show _ = (if _ then _ else (if _ then _ else _))
          rw [if_neg (fun q => h q.1), if_neg (fun q => h q.1)]
      unfold upLs
      rw [e1, e2, e3]
      rfl
    · show upT _ _ _ a = _ ∨ _
      by_cases h : a = znx σ
      · right; exact ⟨N, by rw [h]; exact ht⟩
      · left; exact if_neg h
  obtain ⟨hz, d, hd, hn, hc, he⟩ := hv
  have hlt : ∀ a k, zIs σ a k → a < znx σ := fun a k h => tag_lt hF (by rw [h.1]; simp)
  have hcap : capOf (sfr (sarW (zNewR σ 11 N) 11 (znx σ) g) 13 1 l (some (znx σ))) l = N := by
    unfold capOf zrf
    rw [hfr]
    exact congrArg (fun q => q.2.2) ht
  refine ⟨⟨hlo, ⟨LsO_cs hlo hC, ?_, ?_, ?_, ?_⟩, ⟨(LsO_is hlo).mpr hz, znx σ, hfr, hn, Or.inr ⟨N, ht, hx, hN.1, hN.2⟩, fun i hi => (har i).trans (hg i hi)⟩, ?_, ?_, ?_, ?_, ?_⟩, hfr, ht⟩
  · intro a ha
    show (upT (ztg σ) (znx σ) (3, 11, N) a).1 = 0
    have ha : znx σ + 1 ≤ a := ha
    unfold upT
    rw [if_neg (by omega)]
    exact hF a (by omega)
  · refine ⟨fun l1 e q1 r1 => ?_, fun l1 l2 e q1 q2 r1 r2 r3 => ?_⟩
    · replace q1 := (LsO_is hlo).mp q1
      by_cases g1 : l1 = l
      · rw [g1, hfr] at r1
        rw [← Option.some.inj r1]
        show (upT (ztg σ) (znx σ) (3, 11, N) (znx σ)).1 ≠ 0
        rw [ht]; simp
      · rw [hfr' l1 g1] at r1
        have := hL.1 l1 e q1 r1
        show (upT (ztg σ) (znx σ) (3, 11, N) e).1 ≠ 0
        rw [tn e this]; exact this
    · replace q1 := (LsO_is hlo).mp q1
      replace q2 := (LsO_is hlo).mp q2
      have old : ∀ l', zIs σ l' 13 → zfr σ 13 1 l' = some (znx σ) → False := fun l' z1 z2 => hL.1 l' _ z1 z2 (hF _ (Nat.le_refl _))
      by_cases g1 : l1 = l
      · by_cases g2 : l2 = l
        · rw [g1, g2]
        · subst g1
          rw [hfr] at r1
          rw [hfr' l2 g2, ← Option.some.inj r1] at r2
          exact absurd r2 (fun r => old l2 q2 r)
      · by_cases g2 : l2 = l
        · subst g2
          rw [hfr] at r2
          rw [hfr' l1 g1, ← Option.some.inj r2] at r1
          exact absurd r1 (fun r => old l1 q1 r)
        · rw [hfr' l1 g1] at r1
          rw [hfr' l2 g2] at r2
          refine hL.2 l1 l2 e q1 q2 r1 r2 ?_
          have r3 : (upT (ztg σ) (znx σ) (3, 11, N) e).1 = 3 := r3
          rw [tn e (hL.1 l1 e q1 r1)] at r3
          exact r3
  · intro e i
    refine zel _ ?_
    by_cases h : e = znx σ
    · rw [h, har]; exact hE i
    · rw [har' e i h]; exact hEO e i
  · show upT (ztg σ) (znx σ) (3, 11, N) (ze0 σ) = _
    rw [tn _ (by rw [h0]; simp)]; exact h0
  · rintro l' zs hne ⟨hz', d', hd', hn', hc', he'⟩
    have hnz := hL.1 l' d' hz' hd'
    have hd1 : d' ≠ znx σ := Nat.ne_of_lt (tag_lt hF hnz)
    refine ⟨⟨(LsO_is hlo).mpr hz', d', (hfr' l' hne).trans hd', hn', ?_, fun i hi => (har' d' i hd1).trans (he' i hi)⟩, ?_⟩
    · rcases hc' with ⟨c1, c2, c3⟩ | ⟨cap', c1, c2⟩
      · exact Or.inl ⟨c1, (tn d' hnz).trans c2, c3⟩
      · exact Or.inr ⟨cap', (tn d' hnz).trans c1, c2⟩
    · unfold capOf zrf
      rw [hfr' l' hne, hd']
      exact congrArg (fun q => q.2.2) (tn d' hnz)
  · rw [hcap]; show znx σ + 1 + _ ≤ _; omega
  · rw [hcap]; show zsl σ + N + _ ≤ _; omega
  · rw [hcap]; omega
  · rw [hcap]; exact h3
end LG
section LA
variable {σ τ υ : zSt} {P : Option Value → zSt → Prop} {c d l a k i cap N : Nat} {v m n : Int32} {xs ys : List Nat} {f g : Nat → Option Nat}
theorem newLength_ok {c : Nat} (hc : 10 ≤ c) (hc2 : c ≤ 1000000) (hP : P (some (.int (nI (c + c / 2)))) σ) : wpM 201 [.int (nI c), .int 1, .int (nI c >>> (1 &&& 31))] σ P := by
  have e1 : nI c >>> ((1 : Int32) &&& 31) = nI (c / 2) := pk_shrN (k := 1) (by omega) _ (by decide)
  have e2 : (if (1 : Int32) < nI (c / 2) then nI (c / 2) else 1) = nI (c / 2) := if_pos (nI_lt (a := 1) (by omega) (by omega))
  refine b201.mpr ?_
  rw [e1, e2, nI_add]
  refine ifn (nI_nle (by omega) (by omega)) (b201_13.mpr (ifn (nI_nlt (b := c + c / 2) (a := 2147483639) (by omega) (by omega)) (b201_19.mpr hP)))
theorem copyOf_ok (hF : Fresh σ) (hE : EOk σ) (ht : ztg σ d = (3, 11, cap)) (hN : cap ≤ N) (hN2 : N ≤ 1000000) (hP : ∀ g, (∀ i, i < cap → g i = zar σ 11 d i) → (∀ i, zEl σ (g i) = true) → P (some (.ref (znx σ))) (sarW (zNewR σ 11 N) 11 (znx σ) g)) : wpM 198 [.ref d, .int (nI N)] σ P := by
  have hlt : d < znx σ := tag_lt hF (by rw [ht]; simp)
  refine b198.mpr ⟨by rw [ht]; exact ⟨rfl, rfl⟩, b199.mpr (ifn (fun q => q rfl) (b199_6.mpr ?_))⟩
  rw [nI_clamp (by omega)]
  refine ⟨⟨nI_pos (by omega), by omega⟩, b199_10.mpr (b199_24.mpr ?_)⟩
  have t1 : ztg (zNewR σ 11 N) d = (3, 11, cap) := (if_neg (by omega)).trans ht
  have t2 : ztg (zNewR σ 11 N) (znx σ) = (3, 11, N) := if_pos rfl
  have ln : zln (zNewR σ 11 N) d = nI cap := by
    unfold zln; rw [t1]; rfl
  have mn : (if nI N < nI cap then nI N else nI cap) = nI cap := if_neg (nI_nlt hN (by omega))
  rw [ln, mn, t1]
  refine ⟨Or.inr (Or.inl rfl), ?_, b198_9.mpr ?_⟩
  · unfold zCpyOk
    rw [t1, t2, nI_clamp (by omega)]
    refine ⟨⟨rfl, rfl, rfl, rfl⟩, ⟨by decide, by decide, nI_pos (by omega)⟩, ?_, ?_, fun i hi => ?_⟩
    · show (0 : Int32).toNatClampNeg + cap ≤ cap
      rw [show (0 : Int32).toNatClampNeg = 0 from rfl]; omega
    · show (0 : Int32).toNatClampNeg + cap ≤ N
      rw [show (0 : Int32).toNatClampNeg = 0 from rfl]; omega
    · have e : zar (zNewR σ 11 N) 11 d ((0 : Int32).toNatClampNeg + i) = zar σ 11 d ((0 : Int32).toNatClampNeg + i) := if_neg (fun q => by omega)
      rw [e]
      have := hE d ((0 : Int32).toNatClampNeg + i)
      cases hq : zar σ 11 d ((0 : Int32).toNatClampNeg + i) with
      | none => rfl
      | some q =>
        rw [hq] at this
        show zAsg 11 (ztg (zNewR σ 11 N) q) = true
        have hl : q < znx σ := tag_lt hF (zAsg_nz this)
        rw [show ztg (zNewR σ 11 N) q = ztg σ q from if_neg (by omega)]
        exact this
  · rw [nI_clamp (by omega), show (0 : Int32).toNatClampNeg = 0 from rfl]
    refine hP _ (fun i hi => ?_) (fun i => ?_)
    · show (if _ then _ else _) = _
      rw [if_pos ⟨Nat.zero_le _, by omega⟩]
      have e : ∀ j, zar (zNewR σ 11 N) 11 d j = zar σ 11 d j := fun j => if_neg (fun q => by omega)
      rw [e]; congr 1; omega
    · show zEl σ (if _ then _ else _) = true
      split
      · have e : ∀ j, zar (zNewR σ 11 N) 11 d j = zar σ 11 d j := fun j => if_neg (fun q => by omega)
        rw [e]; exact hE _ _
      · have e : ∀ j, zar (zNewR σ 11 N) 11 (znx σ) j = none := fun j => if_pos ⟨rfl, rfl⟩
        rw [e]; rfl
/-- a full list grows -/
theorem grow_ok (hH : HI σ) (hv : LVal σ l xs) (hfull : ∀ cap, ztg σ (zrf σ 13 1 l) = (3, 11, cap) → xs.length = cap) (hx : xs.length ≤ 500000) (hP : ∀ τ d cap, LPost σ τ l xs → zfr τ 13 1 l = some d → ztg τ d = (3, 11, cap) → xs.length < cap → P (some (.ref d)) τ) : wpM 186 [.ref l] σ P := by
  have hH0 := hH
  have hv0 := hv
  obtain ⟨hC, hF, hL, hEO, h0⟩ := hH
  obtain ⟨hz, d, hd, hn, hc, he⟩ := hv
  have ed : zrf σ 13 1 l = d := by unfold zrf; rw [hd]; rfl
  rw [ed] at hfull
  refine b186.mpr ⟨hz, ?_⟩
  rw [hn, nI_1]
  rcases hc with ⟨c1, c2, c3⟩ | ⟨cap, ht, h1, h2, h3⟩
  · have ln : zln σ d = 0 := by unfold zln; rw [c2]; rfl
    refine b185.mpr ⟨hz, by rw [hd]; rfl, by rw [ed, c2]; exact Or.inr (Or.inr (Or.inr rfl)), ?_⟩
    rw [ed, ln]
    refine ifn (by decide) (b185_10.mpr ⟨hz, by rw [hd]; rfl, ifp (by rw [ed]; exact c1) (b185_45.mpr ?_)⟩)
    rw [c3, show (if (10 : Int32) < nI ([] : List Nat).length.succ then nI ([] : List Nat).length.succ else 10) = nI 10 from by decide, nI_clamp (by omega)]
    refine ⟨⟨by decide, by omega⟩, b185_55.mpr ⟨?_, b186_10.mpr ?_⟩⟩
    · have hlt : l < znx σ := tag_lt hF (by rw [hz.1]; simp)
      unfold zIs
      rw [show ztg (zNewR σ 11 10) l = ztg σ l from if_neg (by omega)]; exact hz
    · have cp : capOf σ l = 0 := by unfold capOf; rw [ed, c2]
      have := G_post hH0 hv0 (N := 10) (g := fun _ => none) (by omega) (by rw [c3]; simp) (fun i hi => by rw [c3] at hi; exact absurd hi (Nat.not_lt_zero i)) (fun _ => rfl) (by omega) (by omega) (by omega)
      have e : sarW (zNewR σ 11 10) 11 (znx σ) (fun _ => none) = zNewR σ 11 10 := by
        conv => rhs; rw [← sarW_self (σ := zNewR σ 11 10) (a := znx σ) (t := 11)]
        congr 1
        funext j
        exact (if_pos ⟨rfl, rfl⟩ : zar (zNewR σ 11 10) 11 (znx σ) j = none).symm
      rw [e] at this
      exact hP _ _ 10 this.1 this.2.1 this.2.2 (by rw [c3]; simp)
  · have hcap := hfull cap ht
    have ln : zln σ d = nI cap := by unfold zln; rw [ht]; rfl
    refine b185.mpr ⟨hz, by rw [hd]; rfl, by rw [ed, ht]; exact Or.inr (Or.inl rfl), ?_⟩
    rw [ed, ln]
    refine ifp (nI_lt (a := 0) (by omega) (by omega)) (b185_20.mpr ?_)
    rw [show nI (xs.length + 1) - nI cap = 1 by rw [pk_sub (by omega), hcap, Nat.add_sub_cancel_left]; rfl]
    refine newLength_ok h2 h3 (b185_30.mpr ⟨hz, by rw [hd]; rfl, ?_⟩)
    rw [ed]
    refine copyOf_ok hF hEO ht (by omega) (by omega) (fun g hg hE => b185_40.mpr ⟨?_, b186_10.mpr ?_⟩)
    · have hlt : l < znx σ := tag_lt hF (by rw [hz.1]; simp)
      unfold zIs
      rw [show ztg (sarW (zNewR σ 11 (cap + cap / 2)) 11 (znx σ) g) l = ztg σ l from if_neg (by omega)]; exact hz
    · have cp : capOf σ l = cap := by unfold capOf; rw [ed, ht]
      have := G_post hH0 hv0 (N := cap + cap / 2) (g := g) (by omega) (by omega) (fun i hi => by rw [hg i (by omega)]; exact he i hi) hE (by omega) (by omega) (by omega)
      exact hP _ _ _ this.1 this.2.1 this.2.2 (by omega)
end LA
section LB
variable {σ τ υ : zSt} {P : Option Value → zSt → Prop} {c d l a k i cap N : Nat} {v m n : Int32} {xs ys : List Nat} {f g : Nat → Option Nat}
theorem HI_m (h : HI σ) : HI (sfi σ 13 0 l v) := h
theorem LPost_tag (h : LPost σ τ l xs) (h0 : (ztg σ a).1 ≠ 0) : ztg τ a = ztg σ a := h.1.2.1 a h0
/-- what stands at the end of the list, put there -/
theorem put_end (hH : HI σ) (hz : zIs σ l 13) (hd : zfr σ 13 1 l = some d) (ht : ztg σ d = (3, 11, cap)) (h10 : 10 ≤ cap ∧ cap ≤ 1000000) (hl : xs.length < cap) (he : ∀ i, i < xs.length → zar σ 11 d i = xs[i]?) (ha : zAsg 11 (ztg σ a) = true) (hP : ∀ τ, LPost σ τ l (xs ++ [a]) → P none τ) : wp 191 11 [some (.ref l), some (.ref a), some (.ref d), some (.int (nI xs.length))] [] σ P := by
  refine b191_11.mpr ?_
  rw [ht, nI_clamp (by omega), nI_1]
  refine ⟨⟨rfl, ha, nI_in (N := cap) hl (by omega)⟩, hz, ?_⟩
  conv => arg 2; rw [← L_self (σ := σ) (l := l) (d := d)]
  dsimp only
  rw [L_sa, L_sn]
  have hlen : (xs ++ [a]).length = xs.length + 1 := by simp
  rw [← hlen]
  refine hP _ (L_post hH hz hd ht (by omega) h10 (fun i hi => ?_) (fun i => ?_))
  · by_cases q : i = xs.length
    · rw [if_pos q, q]; simp
    · rw [if_neg q, List.getElem?_append_left (by omega)]; exact he i (by omega)
  · show zEl σ (if _ then _ else _) = true
    split
    · exact ha
    · exact hH.2.2.2.1 _ _
theorem M_post (hH : HI σ) (hv : LVal σ l xs) : LPost σ (sfi σ 13 0 l v) l xs := by
  have hlo : LsO σ (sfi σ 13 0 l v) := by
    have e : sfi σ 13 0 l v = setL σ l 0 v (zfi σ 13 2 l) (zar σ 11 0) := by
      conv => lhs; rw [← L_self (σ := σ) (l := l) (d := 0)]
      rw [L_sm]
    rw [e]; exact L_LsO
  refine ⟨hlo, hH, hv, fun l' zs _ h => ⟨h, rfl⟩, Nat.le_refl _, Nat.le_refl _, Nat.le_refl _, Nat.le_max_left _ _⟩
theorem add_ok (hH : HI σ) (hv : LVal σ l xs) (hx : xs.length ≤ 500000) (ha : zAsg 11 (ztg σ a) = true) (hP : ∀ τ, LPost σ τ l (xs ++ [a]) → P (some (.int 1)) τ) : wpM 192 [.ref l, .ref a] σ P := by
  have hM : LPost σ (sfi σ 13 0 l (zfi σ 13 0 l + 1)) l xs := M_post hH hv
  have hH' : HI (sfi σ 13 0 l (zfi σ 13 0 l + 1)) := hH
  have hv' : LVal (sfi σ 13 0 l (zfi σ 13 0 l + 1)) l xs := hv
  obtain ⟨hz, d, hd, hn, hc, he⟩ := hv
  have ed : zrf σ 13 1 l = d := by unfold zrf; rw [hd]; rfl
  have hle : xs.length ≤ (xs ++ [a]).length := by simp
  refine b192.mpr ⟨hz, by rw [hd]; rfl, ?_⟩
  rw [ed, hn]
  have fin : ∀ τ, LPost (sfi σ 13 0 l (zfi σ 13 0 l + 1)) τ l (xs ++ [a]) → wp 192 23 [some (.ref l), some (.ref a)] ((none : Option Value).toList ++ []) τ P := fun τ h => b192_23.mpr ⟨Or.inr rfl, hP τ (LPost_trans hM h hle)⟩
  have gr : (∀ cap, ztg σ d = (3, 11, cap) → xs.length = cap) → wp 191 6 [some (.ref l), some (.ref a), some (.ref d), some (.int (nI xs.length))] [] (sfi σ 13 0 l (zfi σ 13 0 l + 1)) (fun r τ => wp 192 23 [some (.ref l), some (.ref a)] (r.toList ++ []) τ P) := by
    intro hf
    refine b191_6.mpr ⟨hz, grow_ok hH' hv' (fun cap hq => hf cap (by rw [← ed]; exact hq)) hx (fun τ d' cap' h1 h2 h3 h4 => b191_10.mpr ?_)⟩
    obtain ⟨q1, e, q2, q3, q4, q5⟩ := h1.2.2.1
    rw [h2] at q2
    have := Option.some.inj q2
    subst this
    rcases q4 with ⟨_, r, _⟩ | ⟨cap'', r1, r2, r3⟩
    · rw [h3] at r; exact absurd (congrArg (fun q => q.1) r) (by simp)
    have hcc : cap' = cap'' := by rw [h3] at r1; exact congrArg (fun q => q.2.2) r1
    subst hcc
    refine put_end h1.2.1 q1 h2 h3 r3 h4 q5 ?_ (fun υ hu => fin υ (LPost_trans h1 hu hle))
    rw [LPost_tag h1 (zAsg_nz ha)]; exact ha
  rcases hc with ⟨c1, c2, c3⟩ | ⟨cap, ht, h1, h2, h3⟩
  · have ln : zln (sfi σ 13 0 l (zfi σ 13 0 l + 1)) d = 0 := by show zln σ d = 0; unfold zln; rw [c2]; rfl
    refine b191.mpr ⟨Or.inr (Or.inr (Or.inr (by show (ztg σ d).1 = 5; rw [c2]))), ifn (fun q => q ?_) (gr (fun cap h => ?_))⟩
    · rw [ln, c3]; rfl
    · rw [c2] at h; exact absurd (congrArg (fun q => q.1) h) (by simp)
  · have ln : zln (sfi σ 13 0 l (zfi σ 13 0 l + 1)) d = nI cap := by show zln σ d = _; unfold zln; rw [ht]; rfl
    by_cases g : xs.length = cap
    · refine b191.mpr ⟨Or.inr (Or.inl (by show (ztg σ d).1 = 3; rw [ht])), ifn (fun q => q (by rw [ln, g])) (gr (fun cap' h => ?_))⟩
      rw [ht] at h; rw [g]; exact congrArg (fun q => q.2.2) h
    · refine b191.mpr ⟨Or.inr (Or.inl (by show (ztg σ d).1 = 3; rw [ht])), ifp (by rw [ln]; exact fun q => g ((nI_eq (by omega) (by omega)).mp q)) ?_⟩
      exact put_end (σ := sfi σ 13 0 l (zfi σ 13 0 l + 1)) hH' hz hd ht ⟨h2, h3⟩ (by omega) he ha fin
end LB
section LR
variable {σ τ υ : zSt} {P : Option Value → zSt → Prop} {c d l a k i cap N : Nat} {v m n : Int32} {xs ys : List Nat} {f g : Nat → Option Nat}
theorem removeAt_ok (hH : HI σ) (hv : LVal σ l xs) (hi : i < xs.length) (hP : ∀ τ, LPost σ τ l (xs.eraseIdx i) → P (some (.ref xs[i])) τ) : wpM 194 [.ref l, .int (nI i)] σ P := by
  have hlen := LVal_len hv
  obtain ⟨hz, d, hd, hn, hc, he⟩ := hv
  have ed : zrf σ 13 1 l = d := by unfold zrf; rw [hd]; rfl
  refine b194.mpr ⟨hz, ?_⟩
  rw [hn]
  refine checkIndex_ok hi (by omega) (b194_8.mpr ⟨hz, by rw [hd]; rfl, ?_⟩)
  rcases hc with ⟨_, _, hq⟩ | ⟨cap, ht, h1, h2, h3⟩
  · rw [hq] at hi; exact absurd hi (Nat.not_lt_zero i)
  rw [ed, ht]
  have hv : zar σ 11 d i = some xs[i] := by rw [he i hi]; exact List.getElem?_eq_getElem hi
  refine ⟨⟨rfl, rfl, nI_in (N := cap) (by omega) (by omega), by rw [nI_clamp (by omega)]; dsimp only; rw [hv]; rfl⟩, ?_⟩
  rw [show (nI i).toNatClampNeg = i from nI_clamp (by omega)]
  show wpM 195 _ σ (fun r τ => wp 194 24 [some (.ref l), some (.int (nI i)), some (.ref d), some (.ref (zrq σ 11 d i))] (r.toList ++ []) τ P)
  have hl' : (xs.eraseIdx i).length = xs.length - 1 := by rw [List.length_eraseIdx_of_lt hi]
  have fin : ∀ w f, (∀ j, j < xs.length - 1 → f j = (xs.eraseIdx i)[j]?) → (∀ j, zEl σ (f j) = true) → wp 195 34 [some (.ref l), some (.ref d), some (.int (nI i)), some (.int (nI (xs.length - 1)))] [] (setL σ l d w (nI xs.length) f) (fun r τ => wp 194 24 [some (.ref l), some (.int (nI i)), some (.ref d), some (.ref (zrq σ 11 d i))] (r.toList ++ []) τ P) := by
    intro w f hf hE
    refine b195_34.mpr ⟨hz, ?_⟩
    have e : ztg (sfi (setL σ l d w (nI xs.length) f) 13 2 l (nI (xs.length - 1))) d = (3, 11, cap) := ht
    rw [e, nI_clamp (by omega)]
    refine ⟨⟨rfl, rfl, nI_in (N := cap) (by omega) (by omega)⟩, b194_24.mpr ?_⟩
    have e2 : zrq σ 11 d i = xs[i] := by unfold zrq; rw [hv]; rfl
    dsimp only
    rw [e2, L_sn, L_sa, ← hl']
    refine hP _ (L_post hH hz hd ht (by omega) ⟨h2, h3⟩ (fun j hj => ?_) (fun j => ?_))
    · rw [if_neg (by omega)]; exact hf j (by omega)
    · show zEl σ (if _ then _ else _) = true
      split
      · rfl
      · exact hE j
  have em : nI xs.length - 1 = nI (xs.length - 1) := pk_sub (b := 1) (by omega)
  have e0 : sfi σ 13 0 l (zfi σ 13 0 l + 1) = setL σ l d (zfi σ 13 0 l + 1) (nI xs.length) (zar σ 11 d) := by
    conv => lhs; rw [← L_self (σ := σ) (l := l) (d := d)]
    rw [L_sm, hn, L_m]
  refine b195.mpr ⟨hz, ?_⟩
  rw [hn, em, e0]
  by_cases g : xs.length - 1 ≤ i
  · refine ifp (nI_le g (by omega)) (fin _ _ (fun j hj => ?_) (hH.2.2.2.1 d))
    rw [List.getElem?_eraseIdx, if_pos (by omega)]; exact he j (by omega)
  · refine ifn (nI_ge (by omega) (by omega)) (b195_22.mpr ?_)
    rw [nI_1, pk_sub (by omega), nI_clamp (show i < 2 ^ 31 by omega), nI_clamp (show i + 1 < 2 ^ 31 by omega), nI_clamp (show xs.length - 1 - i < 2 ^ 31 by omega), L_sw, L_A]
    refine ⟨?_, fin _ _ (fun j hj => ?_) (fun j => ?_)⟩
    · unfold zCpyOk
      have e : ztg (setL σ l d (zfi σ 13 0 l + 1) (nI xs.length) (zar σ 11 d)) d = (3, 11, cap) := ht
      rw [e, nI_clamp (show i < 2 ^ 31 by omega), nI_clamp (show i + 1 < 2 ^ 31 by omega), nI_clamp (show xs.length - 1 - i < 2 ^ 31 by omega)]
      refine ⟨⟨rfl, rfl, rfl, rfl⟩, ⟨nI_pos (by omega), nI_pos (by omega), nI_pos (by omega)⟩, ?_, ?_, fun j hj => ?_⟩
      · show i + 1 + (xs.length - 1 - i) ≤ cap; omega
      · show i + (xs.length - 1 - i) ≤ cap; omega
      · rw [L_a]; exact hH.2.2.2.1 d _
    · show (if _ then _ else _) = _
      rw [List.getElem?_eraseIdx]
      by_cases w : j < i
      · rw [if_neg (by omega), if_pos w]; exact he j (by omega)
      · rw [if_pos ⟨by omega, by omega⟩, if_neg w, show i + 1 + (j - i) = j + 1 by omega]; exact he (j + 1) (by omega)
    · show zEl σ (if _ then _ else _) = true
      split
      · exact hH.2.2.2.1 d _
      · exact hH.2.2.2.1 d _
theorem clear_ok (hH : HI σ) (hv : LVal σ l xs) (hP : ∀ τ, LPost σ τ l [] → P none τ) : wpM 196 [.ref l] σ P := by
  have hlen := LVal_len hv
  have hv0 := hv
  obtain ⟨hz, d, hd, hn, hc, he⟩ := hv
  have ed : zrf σ 13 1 l = d := by unfold zrf; rw [hd]; rfl
  refine b196.mpr ⟨hz, by rw [hd]; rfl, ?_⟩
  rw [ed, hn]
  have e0 : sfi (sfi σ 13 0 l (zfi σ 13 0 l + 1)) 13 2 l 0 = setL σ l d (zfi σ 13 0 l + 1) 0 (zar σ 11 d) := by
    conv => lhs; rw [← L_self (σ := σ) (l := l) (d := d)]
    rw [L_sm, L_sn, L_m]
  rcases hc with ⟨c1, c2, c3⟩ | ⟨cap, ht, h1, h2, h3⟩
  · subst c3
    refine b196_27.mpr (ifp (nI_le (a := 0) (b := 0) (by omega) (by omega)) (b196_42.mpr (hP _ ?_)))
    have e1 : sfi (sfi σ 13 0 l (zfi σ 13 0 l + 1)) 13 2 l 0 = sfi σ 13 0 l (zfi σ 13 0 l + 1) := by
      rw [e0]
      conv => rhs; rw [← L_self (σ := σ) (l := l) (d := d)]
      rw [L_sm, hn, L_m]; rfl
    rw [e1]
    exact M_post hH hv0
  · rw [e0]
    have key : ∀ r j f, j + r = xs.length → (∀ q, zEl σ (f q) = true) → wp 196 27 [some (.ref l), some (.ref d), some (.int (nI xs.length)), some (.int (nI j))] [] (setL σ l d (zfi σ 13 0 l + 1) 0 f) P := by
      intro r
      induction r with
      | zero =>
        intro j f e hE
        refine b196_27.mpr (ifp (nI_le (by omega) (by omega)) (b196_42.mpr (hP _ ?_)))
        exact L_post (ys := []) hH hz hd ht (Nat.zero_le _) ⟨h2, h3⟩ (fun q hq => absurd hq (Nat.not_lt_zero q)) hE
      | succ r ih =>
        intro j f e hE
        refine b196_27.mpr (ifn (nI_ge (by omega) (by omega)) (b196_32.mpr ?_))
        have e : ztg (setL σ l d (zfi σ 13 0 l + 1) 0 f) d = (3, 11, cap) := ht
        rw [e, nI_clamp (by omega), nI_1]
        refine ⟨⟨rfl, rfl, nI_in (N := cap) (by omega) (by omega)⟩, ?_⟩
        dsimp only
        rw [L_sa]
        refine ih (j + 1) _ (by omega) (fun q => ?_)
        show zEl σ (if _ then _ else _) = true
        split
        · rfl
        · exact hE q
    exact key _ 0 _ (Nat.zero_add _) (hH.2.2.2.1 d)
end LR
section LI
variable {σ τ υ : zSt} {P : Option Value → zSt → Prop} {c d l a k i cap N : Nat} {v m n : Int32} {xs ys : List Nat} {f g : Nat → Option Nat}
theorem ins_len (h : i ≤ xs.length) : (xs.insertIdx i a).length = xs.length + 1 := List.length_insertIdx_of_le_length h a
theorem put_at (hH : HI σ) (hz : zIs σ l 13) (hd : zfr σ 13 1 l = some d) (ht : ztg σ d = (3, 11, cap)) (h10 : 10 ≤ cap ∧ cap ≤ 1000000) (hl : xs.length < cap) (hi : i ≤ xs.length) (he : ∀ i, i < xs.length → zar σ 11 d i = xs[i]?) (ha : zAsg 11 (ztg σ a) = true) (hP : ∀ τ, LPost σ τ l (xs.insertIdx i a) → P none τ) : wp 193 38 [some (.ref l), some (.int (nI i)), some (.ref a), some (.int (nI xs.length)), some (.ref d)] [] σ P := by
  refine b193_38.mpr ?_
  rw [nI_1, nI_1, pk_sub hi, nI_clamp (show i < 2 ^ 31 by omega), nI_clamp (show i + 1 < 2 ^ 31 by omega), nI_clamp (show xs.length - i < 2 ^ 31 by omega)]
  have e : ztg (sarW σ 11 d (va_cpy (zar σ 11 d) (zar σ 11 d) i (i + 1) (xs.length - i))) d = (3, 11, cap) := ht
  rw [e]
  refine ⟨?_, ⟨rfl, ha, nI_in (N := cap) (by omega) (by omega)⟩, hz, ?_⟩
  · unfold zCpyOk
    rw [ht, nI_clamp (show i < 2 ^ 31 by omega), nI_clamp (show i + 1 < 2 ^ 31 by omega), nI_clamp (show xs.length - i < 2 ^ 31 by omega)]
    refine ⟨⟨rfl, rfl, rfl, rfl⟩, ⟨nI_pos (by omega), nI_pos (by omega), nI_pos (by omega)⟩, ?_, ?_, fun j hj => hH.2.2.2.1 d _⟩
    · show i + (xs.length - i) ≤ cap; omega
    · show i + 1 + (xs.length - i) ≤ cap; omega
  · have e2 : sfi (sar (sarW σ 11 d (va_cpy (zar σ 11 d) (zar σ 11 d) i (i + 1) (xs.length - i))) 11 d i (some a)) 13 2 l (nI (xs.length + 1)) = setL σ l d (zfi σ 13 0 l) (nI (xs.insertIdx i a).length) (fun j => if j = i then some a else va_cpy (zar σ 11 d) (zar σ 11 d) i (i + 1) (xs.length - i) j) := by
      rw [ins_len hi]
      conv => lhs; arg 1; arg 1; rw [← L_self (σ := σ) (l := l) (d := d)]
      rw [L_sw, L_sa, L_sn, L_A]
    dsimp only
    rw [e2]
    have hil := ins_len (a := a) hi
    refine hP _ (L_post hH hz hd ht (by omega) h10 (fun j hj => ?_) (fun j => ?_))
    · rw [List.getElem?_insertIdx]
      unfold va_cpy
      by_cases w : j = i
      · rw [if_pos w, if_neg (by omega), if_pos w, if_pos (by omega)]
      · rw [if_neg w]
        by_cases w2 : j < i
        · rw [if_neg (by omega), if_pos w2]; exact he j (by omega)
        · rw [if_pos ⟨by omega, by omega⟩, if_neg w2, if_neg w, show i + (j - (i + 1)) = j - 1 by omega]; exact he (j - 1) (by omega)
    · show zEl σ (if _ then _ else (if _ then _ else _)) = true
      split
      · exact ha
      · split
        · exact hH.2.2.2.1 _ _
        · exact hH.2.2.2.1 _ _
theorem addAt_ok (hH : HI σ) (hv : LVal σ l xs) (hx : xs.length ≤ 500000) (hi : i ≤ xs.length) (ha : zAsg 11 (ztg σ a) = true) (hP : ∀ τ, LPost σ τ l (xs.insertIdx i a) → P none τ) : wpM 193 [.ref l, .int (nI i), .ref a] σ P := by
  have hM : LPost σ (sfi σ 13 0 l (zfi σ 13 0 l + 1)) l xs := M_post hH hv
  have hH' : HI (sfi σ 13 0 l (zfi σ 13 0 l + 1)) := hH
  have hv' : LVal (sfi σ 13 0 l (zfi σ 13 0 l + 1)) l xs := hv
  obtain ⟨hz, d, hd, hn, hc, he⟩ := hv
  have ed : zrf σ 13 1 l = d := by unfold zrf; rw [hd]; rfl
  have hle : xs.length ≤ (xs.insertIdx i a).length := by rw [ins_len hi]; omega
  refine b193.mpr ⟨hz, b197.mpr ⟨hz, ?_⟩⟩
  rw [hn]
  refine ifn (nI_nlt hi (by omega)) (b197_8.mpr (ifp (nI_pos' (by omega)) (b197_25.mpr (b193_5.mpr ⟨hz, by rw [hd]; rfl, ?_⟩))))
  rw [ed, hn]
  have fin : ∀ τ, LPost (sfi σ 13 0 l (zfi σ 13 0 l + 1)) τ l (xs.insertIdx i a) → P none τ := fun τ h => hP τ (LPost_trans hM h hle)
  have gr : (∀ cap, ztg σ d = (3, 11, cap) → xs.length = cap) → wp 193 32 [some (.ref l), some (.int (nI i)), some (.ref a), some (.int (nI xs.length)), some (.ref d)] [] (sfi σ 13 0 l (zfi σ 13 0 l + 1)) P := by
    intro hf
    refine b193_32.mpr ⟨hz, grow_ok hH' hv' (fun cap hq => hf cap (by rw [← ed]; exact hq)) hx (fun τ d' cap' h1 h2 h3 h4 => b193_36.mpr ?_)⟩
    obtain ⟨q1, e, q2, q3, q4, q5⟩ := h1.2.2.1
    rw [h2] at q2
    have := Option.some.inj q2
    subst this
    rcases q4 with ⟨_, r, _⟩ | ⟨cap'', r1, r2, r3⟩
    · rw [h3] at r; exact absurd (congrArg (fun q => q.1) r) (by simp)
    have hcc : cap' = cap'' := by rw [h3] at r1; exact congrArg (fun q => q.2.2) r1
    subst hcc
    refine put_at h1.2.1 q1 h2 h3 r3 h4 hi q5 ?_ (fun υ hu => fin υ (LPost_trans h1 hu hle))
    rw [LPost_tag h1 (zAsg_nz ha)]; exact ha
  rcases hc with ⟨c1, c2, c3⟩ | ⟨cap, ht, h1, h2, h3⟩
  · have ln : zln (sfi σ 13 0 l (zfi σ 13 0 l + 1)) d = 0 := by show zln σ d = 0; unfold zln; rw [c2]; rfl
    refine ⟨Or.inr (Or.inr (Or.inr (by show (ztg σ d).1 = 5; rw [c2]))), ifn (fun q => q ?_) (gr (fun cap h => ?_))⟩
    · rw [ln, c3]; rfl
    · rw [c2] at h; exact absurd (congrArg (fun q => q.1) h) (by simp)
  · have ln : zln (sfi σ 13 0 l (zfi σ 13 0 l + 1)) d = nI cap := by show zln σ d = _; unfold zln; rw [ht]; rfl
    by_cases g : xs.length = cap
    · refine ⟨Or.inr (Or.inl (by show (ztg σ d).1 = 3; rw [ht])), ifn (fun q => q (by rw [ln, g])) (gr (fun cap' h => ?_))⟩
      rw [ht] at h; rw [g]; exact congrArg (fun q => q.2.2) h
    · refine ⟨Or.inr (Or.inl (by show (ztg σ d).1 = 3; rw [ht])), ifp (by rw [ln]; exact fun q => g ((nI_eq (by omega) (by omega)).mp q)) ?_⟩
      exact put_at (σ := sfi σ 13 0 l (zfi σ 13 0 l + 1)) hH' hz hd ht ⟨h2, h3⟩ (by omega) hi he ha fin
end LI
