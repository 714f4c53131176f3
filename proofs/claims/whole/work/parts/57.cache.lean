/-! THE CLASS'S CACHE: outcomes, the row of entries -/
section CC
variable {σ τ υ : zSt} {P : Option Value → zSt → Prop} {X N M n : Nat} {ea sa : List Nat} {es : List EntT} {pe : List (Nat × EntT)} {x y : Int32} {i k o f q : Nat} {l : List Int32} {out : Nat → Con} {Cs Ks Ls : Nat → Prop} {Fs : Nat → Nat → Nat → Prop}
def sumC (out : Nat → Con) : Nat → Nat
  | 0 => 16
  | k + 1 => sumC out k + lenC (out k)
theorem sumC_ge (h : ∀ k, n ≤ k → out k = none) : ∀ d, sumC out (n + d) = sumC out n
  | 0 => rfl
  | d + 1 => by
    show sumC out (n + d) + lenC (out (n + d)) = _
    rw [h _ (by omega), sumC_ge h d]; rfl
theorem lenI_max {c : Con} (h : ∀ l, c = some l → l.length ≤ 64) : (if 0 < lenI c then lenI c else 0) = nI (lenC c) := by
  cases c with
  | none => rfl
  | some l =>
    have := h l rfl
    show (if 0 < nI l.length then nI l.length else 0) = nI l.length
    by_cases g : l.length = 0
    · rw [g]; rfl
    · exact if_pos (show nI 0 < nI l.length from nI_lt (by omega) (by omega))
theorem lenC_le {c : Con} (h : ∀ l, c = some l → l.length ≤ 64) : lenC c ≤ 64 := by
  cases c with
  | none => exact Nat.zero_le _
  | some l => exact h l rfl
theorem osize_ok (hC : CShape σ) (hO : OutI σ o n f out) (hn : n ≤ 3) (hz : ∀ k, n ≤ k → out k = none) (hl : ∀ k l, out k = some l → l.length ≤ 64) (hP : P (some (.int (nI (16 + lenC (out 0) + lenC (out 1) + lenC (out 2))))) σ) : wpM 59 [.ref o] σ P := by
  obtain ⟨g0, g1, g2, g3⟩ := hO
  have e3 : sumC out n = 16 + lenC (out 0) + lenC (out 1) + lenC (out 2) := by
    have := sumC_ge (n := n) hz (3 - n)
    rw [show n + (3 - n) = 3 by omega] at this
    rw [← this]; rfl
  refine b59.mpr ?_
  have key : ∀ d j, j + d = n → wp 59 5 [some (.ref o), some (.int (nI (sumC out j))), some (.int (nI j))] [] σ P := by
    intro d
    induction d with
    | zero =>
      intro j e
      refine b59_5.mpr ⟨g0, ifp (by rw [g1]; exact nI_le (by omega) (by omega)) (b59_35.mpr ?_)⟩
      rw [show j = n by omega, e3]; exact hP
    | succ d ih =>
      intro j e
      refine b59_5.mpr ⟨g0, ifn (by rw [g1]; exact nI_ge (by omega) (by omega)) ((b59_13 hC).mpr ⟨g0, nI_in (by omega) (by omega), ?_⟩)⟩
      rw [nI_clamp (by omega), show o + 1 + 1 + 2 * j = o + 2 + 2 * j by omega, lenI_cnt (g3 j (by omega)), lenI_max (hl j), nI_add, nI_1]
      exact ih (j + 1) (by omega)
  exact key n 0 (Nat.zero_add _)
theorem eSize_le {e : EntT} (h : entOk e) : eSize e ≤ 208 := by
  obtain ⟨h1, h2, _⟩ := h
  have := lenC_le (c := eOut e 0) (fun l hl => (h2 0 l hl).1)
  have := lenC_le (c := eOut e 1) (fun l hl => (h2 1 l hl).1)
  have := lenC_le (c := eOut e 2) (fun l hl => (h2 2 l hl).1)
  unfold eSize; omega
theorem sizesW_le : ∀ {es : List EntT}, (∀ e ∈ es, entOk e) → sizesW es ≤ 208 * es.length
  | [], _ => by simp [sizesW]
  | e :: es, h => by
    have h1 := eSize_le (h e (by simp))
    have h2 := sizesW_le (es := es) (fun x hx => h x (List.mem_cons_of_mem _ hx))
    show eSize e + sizesW es ≤ _
    simp; omega
theorem sizesW_app (a b : List EntT) : sizesW (a ++ b) = sizesW a + sizesW b := by
  unfold sizesW; rw [List.map_append, List.sum_append]
theorem esize_ok (hC : CShape σ) {e : EntT} (h : EntI σ q e) (he : entOk e) (hP : P (some (.int (nI (eSize e)))) σ) : wpM 59 [.ref (q + 4)] σ P :=
  osize_ok hC h.2.2.1 he.2.2.2.1 he.2.2.2.2 (fun k l hl => (he.2.1 k l hl).1) hP
theorem RmN_18 (h : LPost σ τ (X + 16) ea) (hs : LVal σ (X + 17) sa) (hl : ea.length ≤ 400) (hR : RmN σ X n N M) : RmN τ X n N M := by
  have c := (Fr_L h).cap (show ¬ X + 17 = X + 16 by omega) hs
  obtain ⟨a1, a2, a3, a4, a5, a6, a7, a8⟩ := h
  unfold RmN at *
  rw [c]
  omega
theorem RmN_19 (h : LPost σ τ (X + 17) sa) (hs : LVal σ (X + 16) ea) (hl : sa.length ≤ 400) (hR : RmN σ X n N M) : RmN τ X n N M := by
  have c := (Fr_L h).cap (show ¬ X + 16 = X + 17 by omega) hs
  obtain ⟨a1, a2, a3, a4, a5, a6, a7, a8⟩ := h
  unfold RmN at *
  rw [c]
  omega
theorem RmN_na (hR : RmN σ X n N M) (h1 : capOf τ (X + 16) = capOf σ (X + 16)) (h2 : capOf τ (X + 17) = capOf σ (X + 17)) (h3 : NA σ τ) : RmN τ X n N M := by
  unfold RmN at *; rw [h1, h2, h3.1, h3.2]; exact hR
theorem find_ok (hC : CShape σ) (hX : zIs σ (X + 15) 1) (hv : LVal σ (X + 16) (pe.map (·.1))) (hr : ∀ p ∈ pe, EntI σ p.1 p.2) (hk : Ky σ k l) (hP : P (some (.int (optI (findW (pe.map (·.2)) l)))) σ) : wpM 8 [.ref (X + 15), .ref k] σ P := by
  have hlen := LVal_len hv
  rw [List.length_map] at hlen
  refine b8.mpr ⟨hk.1, sign_ok hC hk (b8_4.mpr ?_)⟩
  have key : ∀ d j, j + d = pe.length → (∀ i (h : i < pe.length), i < j → eKey pe[i].2 ≠ l) → wp 8 8 [some (.ref (X + 15)), some (.ref k), some (.long (signL l)), none, some (.int (nI j))] [] σ P := by
    intro d
    induction d with
    | zero =>
      intro j e hn
      refine (b8_8 hC).mpr ⟨hX, size_ok hv (b8_17.mpr (ifp (by rw [List.length_map]; exact nI_le (by omega) (by omega)) (b8_71.mpr ?_)))⟩
      have : findW (pe.map (·.2)) l = none := by
        unfold findW
        rw [List.findIdx?_eq_none_iff]
        intro x hx
        obtain ⟨p, hp, rfl⟩ := List.mem_map.mp hx
        obtain ⟨i, hi, rfl⟩ := List.mem_iff_getElem.mp hp
        exact decide_eq_false (hn i hi (by omega))
      rw [this] at hP; exact hP
    | succ d ih =>
      intro j e hn
      have hj : j < pe.length := by omega
      have hj' : j < (pe.map (·.1)).length := by rw [List.length_map]; exact hj
      have nxt : eKey pe[j].2 ≠ l → wp 8 65 [some (.ref (X + 15)), some (.ref k), some (.long (signL l)), none, some (.int (nI j))] [] σ P := by
        intro hne
        refine b8_65.mpr ?_
        rw [nI_1]
        refine ih (j + 1) (by omega) (fun i h hi => ?_)
        by_cases q : i = j
        · subst q; exact hne
        · exact hn i h (by omega)
      obtain ⟨g0, g1, g2, g3, g4⟩ := hr _ (List.getElem_mem hj)
      refine (b8_8 hC).mpr ⟨hX, size_ok hv (b8_17.mpr (ifn (by rw [List.length_map]; exact nI_ge hj (by omega)) ((b8_20 hC).mpr ⟨hX, get_ok hv hj' (b8_29.mpr ?_)⟩)))⟩
      rw [List.getElem_map]
      refine ⟨g0, ?_⟩
      rw [g3]
      by_cases hs : signL (eKey pe[j].2) = signL l
      · refine ifn (fun q => q (lcmp0.mpr hs)) ((b8_40 hC).mpr ⟨hX, get_ok hv hj' ((b8_49 hC).mpr ?_)⟩)
        rw [List.getElem_map]
        refine ⟨g0, keySame_ok hC g1 hk (b8_59.mpr ?_)⟩
        by_cases hk2 : eKey pe[j].2 = l
        · rw [if_pos hk2]
          refine ifn (by decide) (b8_62.mpr ?_)
          have : findW (pe.map (·.2)) l = some j := by
            unfold findW
            rw [List.findIdx?_eq_some_iff_getElem]
            refine ⟨by rw [List.length_map]; exact hj, ?_, fun i hi => ?_⟩
            · rw [List.getElem_map]; exact decide_eq_true hk2
            · rw [List.getElem_map]
              exact fun q => hn i (by omega) hi (of_decide_eq_true q)
          rw [this] at hP; exact hP
        · rw [if_neg hk2]
          exact ifp rfl (nxt hk2)
      · exact ifp (fun q => hs (lcmp0.mp q)) (nxt (fun q => hs (by rw [q])))
  exact key _ 0 (Nat.zero_add _) (fun i _ h => absurd h (Nat.not_lt_zero i))
theorem nod_map (hnd : (pe.map (·.1)).Nodup) (hi : i < pe.length) (hk : k < pe.length) (e : pe[i].1 = pe[k].1) : i = k := by
  have := (List.getElem_inj (i := i) (j := k) (h₀ := by rw [List.length_map]; exact hi) (h₁ := by rw [List.length_map]; exact hk) hnd).mp (by rw [List.getElem_map, List.getElem_map]; exact e)
  exact this
theorem map_erase {α β : Type} (f : α → β) : ∀ (l : List α) (i : Nat), (l.eraseIdx i).map f = (l.map f).eraseIdx i
  | [], _ => rfl
  | _ :: _, 0 => rfl
  | x :: l, i + 1 => by
    show f x :: (l.eraseIdx i).map f = f x :: (l.map f).eraseIdx i
    rw [map_erase f l i]
theorem mem_erase {p : Nat × EntT} (h : p ∈ pe.eraseIdx i) : ∃ k, ∃ hk : k < pe.length, k ≠ i ∧ p = pe[k] := by
  rw [List.mem_eraseIdx_iff_getElem] at h
  obtain ⟨k, hk, h1, h2⟩ := h
  exact ⟨k, hk, h1, h2.symm⟩
theorem zAsg3 (h : zIs σ q 3) : zAsg 11 (ztg σ q) = true := by unfold zAsg; rw [h.1, h.2]; rfl
theorem use_ok (hH : HI σ) (hX : zIs σ (X + 15) 1) (hv : LVal σ (X + 16) (pe.map (·.1))) (hs : LVal σ (X + 17) sa) (hr : ∀ p ∈ pe, EntI σ p.1 p.2) (hnd : (pe.map (·.1)).Nodup) (h400 : pe.length ≤ 400) (hi : i < pe.length) (hR : RmN σ X n N M)
    (hP : ∀ τ, HI τ → LVal τ (X + 16) ((pe.eraseIdx i ++ [(pe[i].1, useE pe[i].2)]).map (·.1)) → (∀ p ∈ pe.eraseIdx i ++ [(pe[i].1, useE pe[i].2)], EntI τ p.1 p.2) → Fr σ τ no1 no1 (fun l => l = X + 16) (fun c _ _ => c = 3) → RmN τ X n N M → P (some (.ref pe[i].1)) τ) : wpM 9 [.ref (X + 15), .int (nI i)] σ P := by
  have hC := hH.1
  have hi' : i < (pe.map (·.1)).length := by rw [List.length_map]; exact hi
  obtain ⟨g0, g1, g2, g3, g4⟩ := hr _ (List.getElem_mem hi)
  refine (b9 hC).mpr ⟨hX, removeAt_ok hH hv hi' (fun τ1 h1 => ?_)⟩
  have hF1 := Fr_L h1
  have hC1 := h1.2.1.1
  have R1 := RmN_18 h1 hs (by rw [List.length_eraseIdx]; split <;> simp <;> omega) hR
  refine (b9_8 hC1).mpr ?_
  rw [List.getElem_map]
  refine ⟨hF1.is g0, hF1.is hX, add_ok h1.2.1 h1.2.2.1 (by rw [List.length_eraseIdx]; split <;> simp <;> omega) (zAsg3 (hF1.is g0)) (fun τ2 h2 => b9_20.mpr ?_)⟩
  have hF2 := Fr_L h2
  have hC2 := h2.2.1.1
  have hF12 := hF1.trans hF2 hC1
  have R2 := RmN_18 h2 (hF1.lst (show ¬ X + 17 = X + 16 by omega) hs) (by rw [List.length_append, List.length_eraseIdx]; split <;> simp <;> omega) R1
  have hE2 : ∀ p ∈ pe, EntI τ2 p.1 p.2 := fun p hp => EntI_fr (hr p hp) hF12 hC (fun _ _ => id) (fun _ => id) id (fun _ => id)
  refine ⟨hF12.is g0, ?_⟩
  have hf : zfi τ2 3 3 pe[i].1 = eFnd pe[i].2 := (hE2 _ (List.getElem_mem hi)).2.2.2.2
  rw [hf]
  have hF3 : Fr τ2 (sfi τ2 3 3 pe[i].1 (eFnd pe[i].2 + 1)) no1 no1 no1 (fun c' k' a' => c' = 3 ∧ k' = 3 ∧ a' = pe[i].1) := Fr_fi (by decide) (by decide) (by decide) (by decide)
  have hl : LVal τ2 (X + 16) ((pe.eraseIdx i ++ [(pe[i].1, useE pe[i].2)]).map (·.1)) := by
    have := h2.2.2.1
    rw [List.map_append, map_erase]
    exact this
  refine hP _ h2.2.1 (hF3.lst id hl) (fun p hp => ?_) ((hF12.mono (fun _ => id) (fun _ => id) (fun _ => id) (fun _ _ _ => False.elim)).trans (hF3.mono (fun _ => id) (fun _ => id) (fun _ => False.elim) (fun _ _ _ q => q.1)) hC2) R2
  rcases List.mem_append.mp hp with hp | hp
  · obtain ⟨k, hk, hne, rfl⟩ := mem_erase hp
    exact EntI_fr (hE2 _ (List.getElem_mem hk)) hF3 hC2 (fun _ _ => id) (fun _ q => absurd q.1 (by decide)) id (fun _ q => hne (nod_map hnd hk hi q.2.2))
  · have : p = (pe[i].1, useE pe[i].2) := by simpa using hp
    subst this
    obtain ⟨m0, m1, m2, m3, m4⟩ := hE2 _ (List.getElem_mem hi)
    exact ⟨m0, m1, m2, m3, if_pos ⟨rfl, rfl, rfl⟩⟩
theorem trimW_drop (cap : Nat) : ∀ es : List EntT, (trimW cap es).1 = es.drop (trimW cap es).2 ∧ (trimW cap es).2 ≤ es.length
  | [] => ⟨rfl, Nat.le_refl _⟩
  | e :: es => by
    have ih := trimW_drop cap es
    have ee : trimW cap (e :: es) = if 100 < (e :: es).length ∨ cap < sizesW (e :: es) then ((trimW cap es).1, (trimW cap es).2 + 1) else (e :: es, 0) := rfl
    rw [ee]
    split
    · refine ⟨?_, ?_⟩
      · show (trimW cap es).1 = (e :: es).drop ((trimW cap es).2 + 1)
        rw [List.drop_succ_cons]; exact ih.1
      · show (trimW cap es).2 + 1 ≤ _
        simp; exact ih.2
    · exact ⟨rfl, Nat.zero_le _⟩
def cLs (X : Nat) : Nat → Prop := fun l => l = X + 16 ∨ l = X + 17
def cF1 : Nat → Nat → Nat → Prop := fun c _ _ => c = 1
theorem evict_ok (hH : HI σ) (hX : zIs σ (X + 15) 1) (hv : LVal σ (X + 16) (pe.map (·.1))) (hs : LVal σ (X + 17) sa) (hr : ∀ p ∈ pe, EntI σ p.1 p.2) (ho : ∀ p ∈ pe, entOk p.2) (h101 : pe.length + sa.length ≤ 101) (hR : RmN σ X n N M) {cap : Nat} {ev : Int32} (hc : cap ≤ 4000) (h2 : zfi σ 1 2 (X + 15) = nI cap) (h3 : zfi σ 1 3 (X + 15) = nI (sizesW (pe.map (·.2)))) (h4 : zfi σ 1 4 (X + 15) = ev)
    (hP : ∀ τ K, K = (trimW cap (pe.map (·.2))).2 → HI τ → LVal τ (X + 16) ((pe.drop K).map (·.1)) → LVal τ (X + 17) (sa ++ (pe.take K).map (·.1)) → zfi τ 1 2 (X + 15) = nI cap → zfi τ 1 3 (X + 15) = nI (sizesW ((pe.drop K).map (·.2))) → zfi τ 1 4 (X + 15) = ev + nI K → Fr σ τ no1 no1 (cLs X) cF1 → RmN τ X n N M → P (some (.int (nI K))) τ) : wpM 12 [.ref (X + 15)] σ P := by
  have szl : ∀ j, sizesW ((pe.drop j).map (·.2)) ≤ 208 * 101 := by
    intro j
    have := sizesW_le (es := (pe.drop j).map (·.2)) (fun e he => by
      obtain ⟨p, hp, rfl⟩ := List.mem_map.mp he
      exact ho p (List.mem_of_mem_drop hp))
    rw [List.length_map, List.length_drop] at this
    omega
  have hH0 := hH
  refine b12.mpr ?_
  have key : ∀ d j τ u2, j + d = pe.length → j + (trimW cap ((pe.drop j).map (·.2))).2 = (trimW cap (pe.map (·.2))).2 → HI τ → LVal τ (X + 16) ((pe.drop j).map (·.1)) → LVal τ (X + 17) (sa ++ (pe.take j).map (·.1)) → zfi τ 1 2 (X + 15) = nI cap → zfi τ 1 3 (X + 15) = nI (sizesW ((pe.drop j).map (·.2))) → zfi τ 1 4 (X + 15) = ev → Fr σ τ no1 no1 (cLs X) cF1 → RmN τ X n N M → wp 12 2 [some (.ref (X + 15)), some (.int (nI j)), u2] [] τ P := by
    intro d
    induction d with
    | zero =>
      intro j τ u2 e hK hH hv hs h2 h3 h4 hF hR
      have hC := hH.1
      have hd : pe.drop j = [] := List.drop_eq_nil_of_le (by omega)
      have hK' : j = (trimW cap (pe.map (·.2))).2 := by rw [← hK, hd]; rfl
      refine (b12_2 hC).mpr ⟨hF.is hX, isEmpty_ok hv (by simp; omega) (b12_9.mpr ?_)⟩
      rw [show (if (pe.drop j).map (·.1) = [] then (1 : Int32) else 0) = 1 from if_pos (by rw [hd]; rfl)]
      have hF3 : Fr τ (sfi τ 1 4 (X + 15) (zfi τ 1 4 (X + 15) + nI j)) no1 no1 no1 (fun c' k' a' => c' = 1 ∧ k' = 4 ∧ a' = X + 15) := Fr_fi (by decide) (by decide) (by decide) (by decide)
      refine ifp (by decide) (b12_78.mpr ⟨hF.is hX, hP _ j hK' hH (hF3.lst id hv) (hF3.lst id hs) h2 h3 ?_ (hF.trans (hF3.mono (fun _ => id) (fun _ => id) (fun _ => False.elim) (fun _ _ _ q => q.1)) hC) hR⟩)
      rw [← h4]; exact if_pos ⟨rfl, rfl, rfl⟩
    | succ d ih =>
      intro j τ u2 e hK hH hv hs h2 h3 h4 hF hR
      have hC := hH.1
      have hj : j < pe.length := by omega
      have hd : pe.drop j = pe[j] :: pe.drop (j + 1) := List.drop_eq_getElem_cons hj
      have hX' := hF.is hX
      have eT : trimW cap ((pe.drop j).map (·.2)) = if 100 < ((pe.drop j).map (·.2)).length ∨ cap < sizesW ((pe.drop j).map (·.2)) then ((trimW cap ((pe.drop (j + 1)).map (·.2))).1, (trimW cap ((pe.drop (j + 1)).map (·.2))).2 + 1) else ((pe.drop j).map (·.2), 0) := by
        rw [hd]; rfl
      have fin : ∀ u2, ¬ (100 < ((pe.drop j).map (·.2)).length ∨ cap < sizesW ((pe.drop j).map (·.2))) → wp 12 78 [some (.ref (X + 15)), some (.int (nI j)), u2] [] τ P := by
        intro u2 hn
        have hK' : j = (trimW cap (pe.map (·.2))).2 := by rw [← hK, eT, if_neg hn]; rfl
        have hF3 : Fr τ (sfi τ 1 4 (X + 15) (zfi τ 1 4 (X + 15) + nI j)) no1 no1 no1 (fun c' k' a' => c' = 1 ∧ k' = 4 ∧ a' = X + 15) := Fr_fi (by decide) (by decide) (by decide) (by decide)
        refine b12_78.mpr ⟨hX', hP _ j hK' hH (hF3.lst id hv) (hF3.lst id hs) h2 h3 ?_ (hF.trans (hF3.mono (fun _ => id) (fun _ => id) (fun _ => False.elim) (fun _ _ _ q => q.1)) hC) hR⟩
        rw [← h4]; exact if_pos ⟨rfl, rfl, rfl⟩
      have go : ∀ u2, (100 < ((pe.drop j).map (·.2)).length ∨ cap < sizesW ((pe.drop j).map (·.2))) → wp 12 35 [some (.ref (X + 15)), some (.int (nI j)), u2] [] τ P := by
        intro u2 hc2
        have hlen : 0 < ((pe.drop j).map (·.1)).length := by simp; omega
        refine (b12_35 hC).mpr ⟨hX', removeAt_ok (i := 0) hH hv hlen (fun τ1 h1 => ?_)⟩
        have hF1 := Fr_L h1
        have hC1 := h1.2.1.1
        have e0 : ((pe.drop j).map (·.1))[0] = pe[j].1 := by simp
        have e1 : ((pe.drop j).map (·.1)).eraseIdx 0 = (pe.drop (j + 1)).map (·.1) := by rw [hd]; rfl
        rw [e1] at h1
        rw [e0]
        have R1 := RmN_18 h1 hs (by simp; omega) hR
        have hEj : EntI τ pe[j].1 pe[j].2 := EntI_fr (hr _ (List.getElem_mem hj)) hF hH0.1 (fun _ _ => id) (fun _ (q : 7 = 1) => absurd q (by decide)) id (fun _ (q : 3 = 1) => absurd q (by decide))
        have hEj1 : EntI τ1 pe[j].1 pe[j].2 := EntI_fr hEj hF1 hC (fun _ _ => id) (fun _ => id) id (fun _ => id)
        refine (b12_43 hC1).mpr ⟨hEj1.1, hF1.is hX', esize_ok hC1 hEj1 (ho _ (List.getElem_mem hj)) ((b12_59 hC1).mpr ⟨hF1.is hX', hF1.is hX', ?_⟩)⟩
        have f3 : zfi τ1 1 3 (X + 15) = nI (sizesW ((pe.drop j).map (·.2))) := by rw [hF1.fi rfl hX' id]; exact h3
        have esz : sizesW ((pe.drop j).map (·.2)) = eSize pe[j].2 + sizesW ((pe.drop (j + 1)).map (·.2)) := by rw [hd]; rfl
        rw [f3, pk_sub (by omega), show sizesW ((pe.drop j).map (·.2)) - eSize pe[j].2 = sizesW ((pe.drop (j + 1)).map (·.2)) by omega]
        have hF2 : Fr τ1 (sfi τ1 1 3 (X + 15) (nI (sizesW ((pe.drop (j + 1)).map (·.2))))) no1 no1 no1 (fun c' k' a' => c' = 1 ∧ k' = 3 ∧ a' = X + 15) := Fr_fi (by decide) (by decide) (by decide) (by decide)
        have hs1 := hF1.lst (show ¬ X + 17 = X + 16 by omega) hs
        refine add_ok (σ := sfi τ1 1 3 (X + 15) (nI (sizesW ((pe.drop (j + 1)).map (·.2))))) (P := fun r τ => wp 12 71 [some (.ref (X + 15)), some (.int (nI j)), some (.ref pe[j].1)] (r.toList ++ []) τ P) h1.2.1 (hF2.lst id hs1) (by simp; omega) (zAsg3 hEj1.1) (fun τ3 h3' => b12_71.mpr ?_)
        have hF3 := Fr_L h3'
        have hC3 := h3'.2.1.1
        have e2 : sa ++ (pe.take j).map (·.1) ++ [pe[j].1] = sa ++ (pe.take (j + 1)).map (·.1) := by
          rw [List.take_add_one, List.getElem?_eq_getElem hj, List.map_append, ← List.append_assoc]; rfl
        rw [e2] at h3'
        have R3 := RmN_19 h3' (hF2.lst id h1.2.2.1) (by simp; omega) (show RmN (sfi τ1 1 3 (X + 15) (nI (sizesW ((pe.drop (j + 1)).map (·.2))))) X n N M from R1)
        rw [nI_1]
        have hXX : zIs (sfi τ1 1 3 (X + 15) (nI (sizesW ((pe.drop (j + 1)).map (·.2))))) (X + 15) 1 := hF1.is hX'
        refine ih (j + 1) τ3 _ (by omega) (by rw [← hK, eT, if_pos hc2]; show j + 1 + _ = j + (_ + 1); omega) h3'.2.1 (hF3.lst (show ¬ X + 16 = X + 17 by omega) (hF2.lst id h1.2.2.1)) h3'.2.2.1 ?_ ?_ ?_ ?_ R3
        · rw [hF3.fi rfl hXX id, ← h2, ← hF1.fi rfl hX' id]; rfl
        · rw [hF3.fi rfl hXX id]; exact if_pos ⟨rfl, rfl, rfl⟩
        · rw [hF3.fi rfl hXX id, ← h4, ← hF1.fi rfl hX' id]; rfl
        · exact ((hF.trans (hF1.mono (fun _ => id) (fun _ => id) (fun _ => Or.inl) (fun _ _ _ => False.elim)) hC).trans (hF2.mono (fun _ => id) (fun _ => id) (fun _ => False.elim) (fun _ _ _ q => q.1)) hC1).trans (hF3.mono (fun _ => id) (fun _ => id) (fun _ => Or.inr) (fun _ _ _ => False.elim)) hC1
      have sl := szl j
      refine (b12_2 hC).mpr ⟨hX', isEmpty_ok hv (by simp; omega) (b12_9.mpr ?_)⟩
      rw [show (if (pe.drop j).map (·.1) = [] then (1 : Int32) else 0) = 0 from if_neg (by rw [hd]; exact List.cons_ne_nil _ _)]
      refine ifn (fun q => q rfl) (b12_12.mpr ⟨hX', ?_⟩)
      rw [h2, h3]
      by_cases c1 : cap < sizesW ((pe.drop j).map (·.2))
      · exact ifp (nI_lt c1 (by omega)) (go _ (Or.inr c1))
      · refine ifn (nI_nlt (by omega) (by omega)) ((b12_23 hC).mpr ⟨hX', size_ok hv (b12_30.mpr ?_)⟩)
        rw [List.length_map]
        by_cases c2 : 100 < (pe.drop j).length
        · exact ifn (show ¬ nI (pe.drop j).length ≤ nI 100 from nI_ge c2 (by rw [List.length_drop]; omega)) (go _ (Or.inl (by rw [List.length_map]; exact c2)))
        · refine ifp (show nI (pe.drop j).length ≤ nI 100 from nI_le (by omega) (by omega)) (fin _ ?_)
          rw [List.length_map]
          rintro (q | q)
          · exact c2 q
          · exact c1 q
  exact key _ 0 σ none (Nat.zero_add _) (by rw [List.drop_zero, Nat.zero_add]) hH hv (by simpa using hs) h2 h3 h4 Fr.refl hR
end CC
