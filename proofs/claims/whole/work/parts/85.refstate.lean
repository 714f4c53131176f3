/-! THE REFERENCE holds a state -/
abbrev ScT : Type := Nat → Int32
abbrev ArT : Type := Nat → Nat → Int32
/-- what stays: fields outside S -/
def Ag (sc : ScT) (ar : ArT) (sc' : ScT) (ar' : ArT) (S : List Nat) : Prop := (∀ k, k ∉ S → sc' k = sc k) ∧ ∀ t i, t - 20 ∉ S → ar' t i = ar t i
def RRow (ar : ArT) (t off : Nat) (l : List Int32) : Prop := ∀ i, i < l.length → l[i]? = some (ar t (off + i))
/-- a content: its length in tl, its bytes in tb -/
def RCc (ar : ArT) (tl tb f : Nat) (c : Con) : Prop := ar tl f = lenI c ∧ ∀ l, c = some l → RRow ar tb (64 * f) l
def RTree (sc : ScT) (ar : ArT) (t : TreT) : Prop := sc 0 = nI (tN t) ∧ ∀ p, p < tN t → ar 21 p = optI (tPar t p) ∧ ar 22 p = nI (tNam t p) ∧ ar 23 p = b2I (tDir t p) ∧ ar 24 p = optI (tMk t p)
def RConS (ar : ArT) (s n : Nat) (cv : Nat → Con) : Prop := ∀ p, 1 ≤ p → p < n → RCc ar 25 26 (60 * s + p) (cv p)
def RTape (sc : ScT) (ar : ArT) (l : List Int32) : Prop := sc 8 = nI l.length ∧ RRow ar 27 0 l
def RActI (ar : ArT) (i : Nat) (ins outs : List Nat) (st : List (Nat × Nat)) : Prop := (ar 31 i = nI ins.length ∧ RRow ar 30 (6 * i) (ins.map nI)) ∧ (ar 33 i = nI outs.length ∧ RRow ar 32 (3 * i) (outs.map nI)) ∧ ar 36 i = nI st.length ∧ RRow ar 34 (16 * i) (st.map fun p => nI p.1) ∧ RRow ar 35 (16 * i) (st.map fun p => nI p.2)
def RAct (sc : ScT) (ar : ArT) (a : ActT) : Prop := sc 9 = nI (aN a) ∧ ∀ i, i < aN a → RActI ar i (aIns a i) (aOut a i) (aSt a i)
/-- where the parts of a key end -/
def stK (k : KeyT) (j : Nat) : Nat := k.1.length + ((k.2.take j).map List.length).sum
def RSt (ar : ArT) (t off : Nat) (k : KeyT) : Prop := ∀ j, j ≤ k.2.length → ar t (off + j) = nI (stK k j)
def RWasI (ar : ArT) (l : Nat) (k : Option KeyT) : Prop := ar 37 l = b2I k.isSome ∧ ∀ u, k = some u → RRow ar 38 (425 * l) (flatK u) ∧ RSt ar 39 (7 * l) u
def RWas (ar : ArT) (n : Nat) (was : Nat → Nat → Option KeyT) : Prop := ∀ s i, s < 2 → i < n → RWasI ar (40 * s + i) (was s i)
def REnt (ar : ArT) (e : Nat) (E : EntT) : Prop := (ar 45 e = nI (eKey E).length ∧ RRow ar 44 (425 * e) (eKey E)) ∧ (ar 46 e = nI (eSize E) ∧ ar 47 e = nI (eFail E) ∧ ar 48 e = eFnd E ∧ ar 49 e = nI (eN E)) ∧ ∀ q, q < 3 → RCc ar 50 51 (3 * e + q) (eOut E q)
def RCac (sc : ScT) (ar : ArT) (K : CacT) : Prop := ∃ pe : List (Nat × EntT), K.2.1 = pe.map (·.2) ∧ (pe.map (·.1)).Nodup ∧ (∀ p ∈ pe, p.1 < 101 ∧ REnt ar p.1 p.2) ∧ sc 20 = nI K.1 ∧ sc 21 = nI pe.length ∧ sc 39 = K.2.2 ∧ RRow ar 42 0 (pe.map fun p => nI p.1) ∧ ∀ e, e < 101 → ar 43 e = b2I (decide (e ∈ pe.map (·.1)))
def RLog (sc : ScT) (ar : ArT) (L : LogT) : Prop := sc 32 = nI L.1.length ∧ (sc 37 = L.2.1 ∧ sc 38 = L.2.2.1 ∧ sc 40 = L.2.2.2) ∧ ∀ i, i < L.1.length → L.1[i]? = some (ar 53 i, ar 54 i, ar 55 i, ar 56 i)
def RefR (sc : ScT) (ar : ArT) (w : WT) : Prop := RTree sc ar (wT w) ∧ (RConS ar 0 (tN (wT w)) (wC w 0) ∧ RConS ar 1 (tN (wT w)) (wC w 1)) ∧ RTape sc ar (wP w) ∧ RAct sc ar (wA w) ∧ RWas ar (aN (wA w)) (wW w) ∧ RCac sc ar (wK w) ∧ RLog sc ar (wL w)
section RD
variable {sc sc' sc2 : ScT} {ar ar' ar2 : ArT} {S S' : List Nat} {t u off i j k n m l e s p D ts td : Nat} {x v : Int32} {L : List Int32} {c : Con} {T : TreT} {A : ActT} {K : CacT} {G : LogT} {w : WT} {cv : Nat → Con} {was : Nat → Nat → Option KeyT} {ke : KeyT} {E : EntT}
theorem Ag.rf : Ag sc ar sc ar S := ⟨fun _ _ => rfl, fun _ _ _ => rfl⟩
theorem Ag.tr (h : Ag sc ar sc' ar' S) (h' : Ag sc' ar' sc2 ar2 S) : Ag sc ar sc2 ar2 S := ⟨fun k hk => (h'.1 k hk).trans (h.1 k hk), fun t i ht => (h'.2 t i ht).trans (h.2 t i ht)⟩
theorem Ag.mono (h : Ag sc ar sc' ar' S) (hs : ∀ k ∈ S, k ∈ S') : Ag sc ar sc' ar' S' := ⟨fun k hk => h.1 k (fun r => hk (hs k r)), fun t i ht => h.2 t i (fun r => ht (hs _ r))⟩
theorem Ag_sc (hk : k ∈ S) : Ag sc ar (upS sc k v) ar S := ⟨fun j hj => if_neg (fun r => hj (by rw [r]; exact hk)), fun _ _ _ => rfl⟩
theorem Ag_ar (ht : t - 20 ∈ S) : Ag sc ar sc (upA ar t i v) S := ⟨fun _ _ => rfl, fun u j hu => if_neg (fun r => hu (by rw [r.1]; exact ht))⟩
theorem upA_same : upA ar t i v t i = v := if_pos ⟨rfl, rfl⟩
theorem upA_ne (h : ¬ (u = t ∧ j = i)) : upA ar t i v u j = ar u j := if_neg h
theorem RRow_ag (h : RRow ar t off L) (hA : ∀ i, ar' t i = ar t i) : RRow ar' t off L := fun i hi => by rw [hA]; exact h i hi
theorem RRow_eq (h : RRow ar t off L) (hA : ∀ i, i < L.length → ar' t (off + i) = ar t (off + i)) : RRow ar' t off L := fun i hi => by rw [hA i hi]; exact h i hi
theorem RRow_get (h : RRow ar t off L) (hi : i < L.length) : ar t (off + i) = L[i] := by
  have := h i hi
  rw [List.getElem?_eq_getElem hi] at this
  exact (Option.some.inj this).symm
theorem RRow_nil : RRow ar t off [] := fun i hi => absurd hi (Nat.not_lt_zero i)
theorem RRow_app {L2 : List Int32} (h : RRow ar t off L) (h2 : RRow ar t (off + L.length) L2) : RRow ar t off (L ++ L2) := by
  intro i hi
  by_cases c : i < L.length
  · rw [List.getElem?_append_left c]; exact h i c
  · have hi' : i < L.length + L2.length := by simpa using hi
    rw [List.getElem?_append_right (by omega)]
    have := h2 (i - L.length) (by omega)
    rw [show off + L.length + (i - L.length) = off + i by omega] at this
    exact this
theorem RRow_app1 {L2 : List Int32} (h : RRow ar t off (L ++ L2)) : RRow ar t off L ∧ RRow ar t (off + L.length) L2 := by
  refine ⟨fun i hi => ?_, fun i hi => ?_⟩
  · have := h i (by rw [List.length_append]; omega)
    rw [List.getElem?_append_left hi] at this; exact this
  · have := h (L.length + i) (by rw [List.length_append]; omega)
    rw [List.getElem?_append_right (by omega), show L.length + i - L.length = i by omega, ← Nat.add_assoc] at this; exact this
theorem RRow_put (h : RRow ar t off L) : RRow (upA ar t (off + L.length) v) t off (L ++ [v]) := by
  refine RRow_app (RRow_eq h (fun i hi => upA_ne (fun r => by omega))) (fun i hi => ?_)
  have : i = 0 := by simp at hi; omega
  subst this
  rw [Nat.add_zero, upA_same]; rfl
theorem RRow_ext (h : RRow ar t off L) {L2 : List Int32} (h2 : RRow ar t off L2) (hl : L.length = L2.length) : L = L2 := by
  apply List.ext_getElem? 
  intro i
  by_cases hi : i < L.length
  · rw [h i hi, h2 i (by omega)]
  · rw [List.getElem?_eq_none (by omega), List.getElem?_eq_none (by omega)]
theorem RCc_ag (h : RCc ar t u l c) (h1 : ∀ i, ar' t i = ar t i) (h2 : ∀ i, ar' u i = ar u i) : RCc ar' t u l c := ⟨by rw [h1]; exact h.1, fun l hl => RRow_ag (h.2 l hl) h2⟩
theorem RTree_ag (h : RTree sc ar T) (hA : Ag sc ar sc' ar' S) (hS : ∀ k ∈ [0, 1, 2, 3, 4], k ∉ S) : RTree sc' ar' T := by
  refine ⟨by rw [hA.1 0 (hS 0 (by decide))]; exact h.1, fun p hp => ?_⟩
  obtain ⟨h1, h2, h3, h4⟩ := h.2 p hp
  exact ⟨by rw [hA.2 21 p (hS 1 (by decide))]; exact h1, by rw [hA.2 22 p (hS 2 (by decide))]; exact h2, by rw [hA.2 23 p (hS 3 (by decide))]; exact h3, by rw [hA.2 24 p (hS 4 (by decide))]; exact h4⟩
theorem RConS_ag (h : RConS ar s n cv) (hA : Ag sc ar sc' ar' S) (hS : ∀ k ∈ [5, 6], k ∉ S) : RConS ar' s n cv := fun p h1 h2 => RCc_ag (h p h1 h2) (fun i => hA.2 25 i (hS 5 (by decide))) (fun i => hA.2 26 i (hS 6 (by decide)))
theorem RTape_ag (h : RTape sc ar L) (hA : Ag sc ar sc' ar' S) (hS : ∀ k ∈ [7, 8], k ∉ S) : RTape sc' ar' L := ⟨by rw [hA.1 8 (hS 8 (by decide))]; exact h.1, RRow_ag h.2 (fun i => hA.2 27 i (hS 7 (by decide)))⟩
theorem RActI_ag {ins outs : List Nat} {st : List (Nat × Nat)} (h : RActI ar i ins outs st) (hA : Ag sc ar sc' ar' S) (hS : ∀ k ∈ [10, 11, 12, 13, 14, 15, 16], k ∉ S) : RActI ar' i ins outs st := by
  obtain ⟨⟨a1, a2⟩, ⟨b1, b2⟩, c1, c2, c3⟩ := h
  exact ⟨⟨by rw [hA.2 31 _ (hS 11 (by decide))]; exact a1, RRow_ag a2 (fun i => hA.2 30 i (hS 10 (by decide)))⟩, ⟨by rw [hA.2 33 _ (hS 13 (by decide))]; exact b1, RRow_ag b2 (fun i => hA.2 32 i (hS 12 (by decide)))⟩, by rw [hA.2 36 _ (hS 16 (by decide))]; exact c1, RRow_ag c2 (fun i => hA.2 34 i (hS 14 (by decide))), RRow_ag c3 (fun i => hA.2 35 i (hS 15 (by decide)))⟩
theorem RAct_ag (h : RAct sc ar A) (hA : Ag sc ar sc' ar' S) (hS : ∀ k ∈ [9, 10, 11, 12, 13, 14, 15, 16], k ∉ S) : RAct sc' ar' A := ⟨by rw [hA.1 9 (hS 9 (by decide))]; exact h.1, fun i hi => RActI_ag (h.2 i hi) hA (fun k hk => hS k (List.mem_cons_of_mem _ hk))⟩
theorem RWas_ag (h : RWas ar n was) (hA : Ag sc ar sc' ar' S) (hS : ∀ k ∈ [17, 18, 19], k ∉ S) : RWas ar' n was := by
  intro s i hs hi
  obtain ⟨h1, h2⟩ := h s i hs hi
  refine ⟨by rw [hA.2 37 _ (hS 17 (by decide))]; exact h1, fun u hu => ⟨RRow_ag (h2 u hu).1 (fun i => hA.2 38 i (hS 18 (by decide))), fun j hj => ?_⟩⟩
  rw [hA.2 39 _ (hS 19 (by decide))]; exact (h2 u hu).2 j hj
theorem REnt_ag (h : REnt ar e E) (hA : Ag sc ar sc' ar' S) (hS : ∀ k ∈ [24, 25, 26, 27, 28, 29, 30, 31], k ∉ S) : REnt ar' e E := by
  obtain ⟨⟨a1, a2⟩, ⟨b1, b2, b3, b4⟩, c⟩ := h
  exact ⟨⟨by rw [hA.2 45 _ (hS 25 (by decide))]; exact a1, RRow_ag a2 (fun i => hA.2 44 i (hS 24 (by decide)))⟩, ⟨by rw [hA.2 46 _ (hS 26 (by decide))]; exact b1, by rw [hA.2 47 _ (hS 27 (by decide))]; exact b2, by rw [hA.2 48 _ (hS 28 (by decide))]; exact b3, by rw [hA.2 49 _ (hS 29 (by decide))]; exact b4⟩, fun q hq => RCc_ag (c q hq) (fun i => hA.2 50 i (hS 30 (by decide))) (fun i => hA.2 51 i (hS 31 (by decide)))⟩
theorem RCac_ag (h : RCac sc ar K) (hA : Ag sc ar sc' ar' S) (hS : ∀ k ∈ [20, 21, 22, 23, 24, 25, 26, 27, 28, 29, 30, 31, 39], k ∉ S) : RCac sc' ar' K := by
  obtain ⟨pe, h1, h2, h3, h4, h5, h6, h7, h8⟩ := h
  refine ⟨pe, h1, h2, fun p hp => ⟨(h3 p hp).1, REnt_ag (h3 p hp).2 hA (fun k hk => hS k ?_)⟩, by rw [hA.1 20 (hS 20 (by decide))]; exact h4, by rw [hA.1 21 (hS 21 (by decide))]; exact h5, by rw [hA.1 39 (hS 39 (by decide))]; exact h6, RRow_ag h7 (fun i => hA.2 42 i (hS 22 (by decide))), fun e he => by rw [hA.2 43 e (hS 23 (by decide))]; exact h8 e he⟩
  have key : ∀ k ∈ [24, 25, 26, 27, 28, 29, 30, 31], k ∈ [20, 21, 22, 23, 24, 25, 26, 27, 28, 29, 30, 31, 39] := by decide
  exact key k hk
theorem RLog_ag (h : RLog sc ar G) (hA : Ag sc ar sc' ar' S) (hS : ∀ k ∈ [32, 33, 34, 35, 36, 37, 38, 40], k ∉ S) : RLog sc' ar' G := by
  obtain ⟨h1, ⟨h2, h3, h4⟩, h5⟩ := h
  refine ⟨by rw [hA.1 32 (hS 32 (by decide))]; exact h1, ⟨by rw [hA.1 37 (hS 37 (by decide))]; exact h2, by rw [hA.1 38 (hS 38 (by decide))]; exact h3, by rw [hA.1 40 (hS 40 (by decide))]; exact h4⟩, fun i hi => ?_⟩
  rw [hA.2 53 i (hS 33 (by decide)), hA.2 54 i (hS 34 (by decide)), hA.2 55 i (hS 35 (by decide)), hA.2 56 i (hS 36 (by decide))]; exact h5 i hi
/-- scratch fields alone -/
theorem RefR_ag (h : RefR sc ar w) (hA : Ag sc ar sc' ar' S) (hS : ∀ k ∈ S, 41 ≤ k) : RefR sc' ar' w := by
  obtain ⟨h1, ⟨h2, h2'⟩, h3, h4, h5, h6, h7⟩ := h
  have n : ∀ L : List Nat, (∀ k ∈ L, k < 41) → ∀ k ∈ L, k ∉ S := fun L hL k hk r => by have := hL k hk; have := hS k r; omega
  exact ⟨RTree_ag h1 hA (n _ (by decide)), ⟨RConS_ag h2 hA (n _ (by decide)), RConS_ag h2' hA (n _ (by decide))⟩, RTape_ag h3 hA (n _ (by decide)), RAct_ag h4 hA (n _ (by decide)), RWas_ag h5 hA (n _ (by decide)), RCac_ag h6 hA (n _ (by decide)), RLog_ag h7 hA (n _ (by decide))⟩
/-- indices -/
theorem nI_mul (a b : Nat) : nI a * nI b = nI (a * b) := (Int32.ofNat_mul a b).symm
theorem ixm (k s p : Nat) : nI k * nI s + nI p = nI (k * s + p) := by rw [nI_mul, nI_add]
theorem i60 : 60 * nI s + nI p = nI (60 * s + p) := ixm 60 s p
theorem i64 : 64 * nI s + nI p = nI (64 * s + p) := ixm 64 s p
theorem i6 : 6 * nI s + nI p = nI (6 * s + p) := ixm 6 s p
theorem i3 : 3 * nI s + nI p = nI (3 * s + p) := ixm 3 s p
theorem i16 : 16 * nI s + nI p = nI (16 * s + p) := ixm 16 s p
theorem i7 : 7 * nI s + nI p = nI (7 * s + p) := ixm 7 s p
theorem i40 : 40 * nI s + nI p = nI (40 * s + p) := ixm 40 s p
theorem i425 : 425 * nI s + nI p = nI (425 * s + p) := ixm 425 s p
theorem i192 : 192 * nI s + nI p = nI (192 * s + p) := ixm 192 s p
/-- cells copied from one row into another -/
def cpA (ar : ArT) (td D ts S n : Nat) : ArT := fun u j => if u = td ∧ D ≤ j ∧ j < D + n then ar ts (S + (j - D)) else ar u j
theorem cpA_0 {S : Nat} : cpA ar td D ts S 0 = ar := by
  funext u j
  exact if_neg (fun r => by omega)
theorem cpA_ne {S : Nat} (h : u ≠ td) : cpA ar td D ts S n u j = ar u j := if_neg (fun r => h r.1)
theorem cpA_out {S : Nat} (h : j < D ∨ D + n ≤ j) : cpA ar td D ts S n u j = ar u j := if_neg (fun r => by omega)
theorem cpA_step {S : Nat} (h : ts ≠ td ∨ S + n < D ∨ D + n ≤ S + n) : upA (cpA ar td D ts S n) td (D + n) (cpA ar td D ts S n ts (S + n)) = cpA ar td D ts S (n + 1) := by
  have e : cpA ar td D ts S n ts (S + n) = ar ts (S + n) := by
    rcases h with h | h
    · exact cpA_ne h
    · exact if_neg (fun r => by omega)
  rw [e]
  funext u j
  unfold upA cpA
  by_cases c : u = td ∧ j = D + n
  · rw [if_pos c, if_pos ⟨c.1, by omega, by omega⟩, show S + (j - D) = S + n by omega]
  · rw [if_neg c]
    by_cases c2 : u = td ∧ D ≤ j ∧ j < D + n
    · rw [if_pos c2, if_pos ⟨c2.1, c2.2.1, by omega⟩]
    · rw [if_neg c2, if_neg (fun r => by
        by_cases q : j = D + n
        · exact c ⟨r.1, q⟩
        · exact c2 ⟨r.1, r.2.1, by omega⟩)]
theorem cpA_row {S : Nat} (h : RRow ar ts S L) : RRow (cpA ar td D ts S L.length) td D L := by
  intro i hi
  rw [h i hi]
  have : cpA ar td D ts S L.length td (D + i) = ar ts (S + (D + i - D)) := if_pos ⟨rfl, by omega, by omega⟩
  rw [this, show D + i - D = i by omega]
theorem Ag_cp {S : Nat} {Q : List Nat} (ht : td - 20 ∈ Q) : Ag sc ar sc (cpA ar td D ts S n) Q := ⟨fun _ _ => rfl, fun u j hu => if_neg (fun r => hu (by rw [r.1]; exact ht))⟩
theorem lt_pred {n : Nat} (hn : n < 2 ^ 31) (h : x < 0 ∨ nI n ≤ x) : x < 0 ∨ nI n - 1 < x := by
  rcases h with h | h
  · exact Or.inl h
  · right
    cases n with
    | zero => exact Int32.lt_of_lt_of_le (by decide) h
    | succ m => rw [nI_pred]; exact Int32.lt_of_lt_of_le (nI_lt (Nat.lt_succ_self m) hn) h
end RD
section RM
variable {σ : zSt} {o : Nat} {sc : ScT} {ar : ArT} {P : Option Value → zSt → Prop} {T : TreT} {A : ActT} {x x0 x1 x2 : Int32} {p s i n : Nat} {w : WT}
theorem rin_yes (hR : RShape σ o) (h1 : x1 ≤ x0) (h2 : x0 ≤ x2) (hP : P (some (.int 1)) (rOv σ o sc ar)) : wpM 113 [.int x0, .int x1, .int x2] (rOv σ o sc ar) P :=
  (b113 hR).mpr (ifn (Int32.not_lt.mpr h1) ((b113_5 hR).mpr (ifn (Int32.not_lt.mpr h2) ((b113_10 hR).mpr ((b113_15 hR).mpr ⟨Or.inr rfl, hP⟩)))))
theorem rin_no (hR : RShape σ o) (h : x0 < x1 ∨ x2 < x0) (hP : P (some (.int 0)) (rOv σ o sc ar)) : wpM 113 [.int x0, .int x1, .int x2] (rOv σ o sc ar) P := by
  refine (b113 hR).mpr ?_
  have e := (b113_14 (P := P) (σ := σ) (o := o) (sc := sc) (ar := ar) (x0 := x0) (x1 := x1) (x2 := x2) hR).mpr ((b113_15 hR).mpr ⟨Or.inl rfl, hP⟩)
  by_cases c : x0 < x1
  · exact ifp c e
  · rcases h with h | h
    · exact absurd h c
    · exact ifn c ((b113_5 hR).mpr (ifp h e))
theorem rin_n_yes (hR : RShape σ o) {m : Nat} (h : i ≤ m) (hm : m < 2 ^ 31) (hx : x2 = nI m) (hP : P (some (.int 1)) (rOv σ o sc ar)) : wpM 113 [.int (nI i), .int 0, .int x2] (rOv σ o sc ar) P := by
  subst hx
  exact rin_yes hR (nI_pos' (by omega)) (nI_le h hm) hP
theorem rispath_yes (hR : RShape σ o) (hT : RTree sc ar T) (hn : tN T ≤ 60) (hp : p < tN T) (hP : P (some (.int 1)) (rOv σ o sc ar)) : wpM 114 [.ref o, .int (nI p)] (rOv σ o sc ar) P := by
  refine (b114 hR).mpr (rin_n_yes hR (m := tN T - 1) (by omega) (by omega) ?_ ((b114_11 hR).mpr ⟨Or.inr rfl, hP⟩))
  rw [hT.1]
  obtain ⟨m, hm⟩ : ∃ m, tN T = m + 1 := ⟨tN T - 1, by omega⟩
  rw [hm, nI_pred]; rfl
theorem rispath_no (hR : RShape σ o) (hT : RTree sc ar T) (hn : tN T ≤ 60) (hx : x < 0 ∨ nI (tN T) ≤ x) (hP : P (some (.int 0)) (rOv σ o sc ar)) : wpM 114 [.ref o, .int x] (rOv σ o sc ar) P := by
  refine (b114 hR).mpr (rin_no hR ?_ ((b114_11 hR).mpr ⟨Or.inl rfl, hP⟩))
  rw [hT.1]; exact lt_pred (by omega) hx
theorem risact_yes (hR : RShape σ o) (hA : RAct sc ar A) (hn : aN A ≤ 40) (hp : i < aN A) (hP : P (some (.int 1)) (rOv σ o sc ar)) : wpM 115 [.ref o, .int (nI i)] (rOv σ o sc ar) P := by
  refine (b115 hR).mpr (rin_n_yes hR (m := aN A - 1) (by omega) (by omega) ?_ ((b115_11 hR).mpr ⟨Or.inr rfl, hP⟩))
  rw [hA.1]
  obtain ⟨m, hm⟩ : ∃ m, aN A = m + 1 := ⟨aN A - 1, by omega⟩
  rw [hm, nI_pred]; rfl
theorem risact_no (hR : RShape σ o) (hA : RAct sc ar A) (hn : aN A ≤ 40) (hx : x < 0 ∨ nI (aN A) ≤ x) (hP : P (some (.int 0)) (rOv σ o sc ar)) : wpM 115 [.ref o, .int x] (rOv σ o sc ar) P := by
  refine (b115 hR).mpr (rin_no hR ?_ ((b115_11 hR).mpr ⟨Or.inl rfl, hP⟩))
  rw [hA.1]; exact lt_pred (by omega) hx
/-- a space, 0 or 1 -/
theorem rspace_no (hR : RShape σ o) (hx : x < 0 ∨ nI 2 ≤ x) (hP : P (some (.int 0)) (rOv σ o sc ar)) : wpM 113 [.int x, .int 0, .int 1] (rOv σ o sc ar) P := by
  refine rin_no hR ?_ hP
  rcases hx with h | h
  · exact Or.inl h
  · exact Or.inr (Int32.lt_of_lt_of_le (by decide) h)
theorem rspace_yes (hR : RShape σ o) (hs : s < 2) (hP : P (some (.int 1)) (rOv σ o sc ar)) : wpM 113 [.int (nI s), .int 0, .int 1] (rOv σ o sc ar) P := rin_n_yes hR (m := 1) (by omega) (by omega) rfl hP
/-- no file of a space -/
theorem rbad_ok (hR : RShape σ o) (hT : RTree sc ar (wT w)) (hn : tN (wT w) ≤ 60) (hno : fileW w x1 x2 = none → P (some (.int 1)) (rOv σ o sc ar)) (hyes : ∀ s p, fileW w x1 x2 = some (s, p) → x1 = nI s → x2 = nI p → s < 2 → p < tN (wT w) → P (some (.int 0)) (rOv σ o sc ar)) : wpM 119 [.ref o, .int x1, .int x2] (rOv σ o sc ar) P := by
  have bad : fileW w x1 x2 = none → wp 119 17 [some (.ref o), some (.int x1), some (.int x2)] [] (rOv σ o sc ar) P := fun h => (b119_17 hR).mpr ((b119_22 hR).mpr ⟨Or.inr rfl, hno h⟩)
  refine (b119 hR).mpr ?_
  rcases ixN_cases x1 (n := 2) (by omega) with ⟨e1, h1⟩ | ⟨s, hs, rfl, e1⟩
  · exact rspace_no hR h1 ((b119_6 hR).mpr (ifp rfl (bad (by unfold fileW; rw [e1]))))
  · refine rspace_yes hR hs ((b119_6 hR).mpr (ifn (by decide) ((b119_9 hR).mpr ?_)))
    rcases ixN_cases x2 (n := tN (wT w)) (by omega) with ⟨e2, h2⟩ | ⟨p, hp, rfl, e2⟩
    · exact rispath_no hR hT hn h2 ((b119_14 hR).mpr (ifn (fun r => r rfl) (bad (by unfold fileW; rw [e1, e2]))))
    · exact rispath_yes hR hT hn hp ((b119_14 hR).mpr (ifp (by decide) ((b119_21 hR).mpr ((b119_22 hR).mpr ⟨Or.inl rfl, hyes s p (by unfold fileW; rw [e1, e2]) rfl rfl hs hp⟩))))
theorem b2I_ne {b : Bool} : (¬ b2I b = 0) ↔ b = true := by cases b <;> decide
theorem b2I_e0 {b : Bool} : b2I b = 0 ↔ b = false := by cases b <;> decide
/-- whether a path is a source -/
theorem rsrc_ok (hR : RShape σ o) (hT : RTree sc ar (wT w)) (hn : tN (wT w) ≤ 60) (hm : ∀ k, tMk (wT w) p = some k → k < 2 ^ 31) (hp : p < tN (wT w)) (hP : P (some (.int (b2I (srcW w p)))) (rOv σ o sc ar)) : wpM 120 [.ref o, .int (nI p)] (rOv σ o sc ar) P := by
  obtain ⟨h1, h2, h3, h4⟩ := hT.2 p hp
  refine (b120 hR).mpr ⟨nI_in (N := 60) (by omega) (by omega), ?_⟩
  rw [nI_clamp (by omega), h3]
  by_cases c : tDir (wT w) p = true
  · have e : srcW w p = false := by unfold srcW; rw [c]; rfl
    rw [e] at hP
    exact ifp (b2I_ne.mpr c) ((b120_23 hR).mpr ((b120_24 hR).mpr ⟨Or.inl rfl, hP⟩))
  · have c' : tDir (wT w) p = false := by simpa using c
    refine ifn (fun r => c (b2I_ne.mp r)) ((b120_9 hR).mpr ⟨nI_in (N := 60) (by omega) (by omega), ?_⟩)
    rw [nI_clamp (by omega), h4]
    by_cases d : tMk (wT w) p = none
    · have e : srcW w p = true := by unfold srcW; rw [c', d]; rfl
      rw [e] at hP
      exact ifn (fun r => r ((optI_m1 hm).mpr d)) ((b120_19 hR).mpr ((b120_24 hR).mpr ⟨Or.inr rfl, hP⟩))
    · have e : srcW w p = false := by
        unfold srcW; rw [c']
        simp [d]
      rw [e] at hP
      exact ifp (fun r => d ((optI_m1 hm).mp r)) ((b120_23 hR).mpr ((b120_24 hR).mpr ⟨Or.inl rfl, hP⟩))
end RM
