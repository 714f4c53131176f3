/-! THE REFERENCE: what lies ready is laid; the row of entries -/
section RCA
variable {σ : zSt} {o : Nat} {sc sc' : ScT} {ar ar' : ArT} {P : Option Value → zSt → Prop} {x y ev : Int32} {p s i j q m n a b k f g t1 t2 b1 b2 cap no : Nat} {w : WT} {T : TreT} {A : ActT} {l key : List Int32} {L : List Nat} {c : Con} {cv out : Nat → Con} {S : List Nat} {es : List EntT} {pe : List (Nat × EntT)} {K : CacT}
/-- a content of one row comes into another: the length, and n bytes of it -/
def cpC (ar : ArT) (t2 b2 g t1 b1 f n : Nat) : ArT := cpA (upA ar t2 g (ar t1 f)) b2 (64 * g) b1 (64 * f) n
theorem cpC_0 : cpC ar t2 b2 g t1 b1 f 0 = upA ar t2 g (ar t1 f) := cpA_0
theorem cpC_len (h : RCc ar t1 b1 f c) (d1 : t1 ≠ t2) (d2 : t1 ≠ b2) : cpC ar t2 b2 g t1 b1 f n t1 f = lenI c := by
  unfold cpC; rw [cpA_ne d2, upA_ne (fun r => d1 r.1)]; exact h.1
theorem cpC_ok (h : RCc ar t1 b1 f c) (hl : ∀ l, c = some l → l.length ≤ 64) (d1 : t2 ≠ b2) (d2 : b1 ≠ t2) (hn : n = lenC c) : RCc (cpC ar t2 b2 g t1 b1 f n) t2 b2 g c ∧ FrC ar (cpC ar t2 b2 g t1 b1 f n) t2 b2 g := by
  subst hn
  refine ⟨⟨?_, fun l hl' => ?_⟩, fun h hh => ⟨?_, fun i hi => ?_⟩⟩
  · unfold cpC; rw [cpA_ne d1, upA_same]; exact h.1
  · subst hl'
    exact cpA_row (RRow_ag (h.2 l rfl) (fun i => upA_ne (fun r => d2 r.1)))
  · unfold cpC; rw [cpA_ne d1, upA_ne (fun r => hh r.2)]
  · have := lenC_le hl
    unfold cpC; rw [cpA_out (by omega), upA_ne (fun r => d1 r.1.symm)]
theorem cpC_step (d : b1 ≠ b2) : upA (cpC ar t2 b2 g t1 b1 f n) b2 (64 * g + n) (cpC ar t2 b2 g t1 b1 f n b1 (64 * f + n)) = cpC ar t2 b2 g t1 b1 f (n + 1) := cpA_step (Or.inl d)
theorem Ag_cpC {Q : List Nat} (h1 : t2 - 20 ∈ Q) (h2 : b2 - 20 ∈ Q) : Ag sc ar sc (cpC ar t2 b2 g t1 b1 f n) Q := (Ag_ar h1).tr (Ag_cp h2)
theorem lenI_leC (h : lenC c ≤ 64) : lenI c ≤ nI (lenC c) := by
  cases c with
  | none => exact (by decide : (-1 : Int32) ≤ nI 0)
  | some l => exact Int32.le_refl _
theorem lenI_nle (h : k < lenC c) (h2 : lenC c ≤ 64) : ¬ lenI c ≤ nI k := by
  cases c with
  | none => exact absurd h (Nat.not_lt_zero k)
  | some l => exact nI_ge h (Nat.lt_of_le_of_lt h2 (by omega))
theorem r_lay (hR : RShape σ o) (hA : RAct sc ar A) (hAI : AInv T A) (h60 : tN T ≤ 60) (ha : a < aN A) (hs : s < 3) (hC : RConS ar s (tN T) cv) (hcv : ∀ p, p < tN T → ∀ l, cv p = some l → l.length ≤ 64) (hcm : RCame ar out) (hol : ∀ q l, out q = some l → l.length ≤ 64) (hP : ∀ ar', RConS ar' s (tN T) (layO cv (aOut A a) out 0) → (∀ s' cv', s' ≠ s → s' < 3 → (∀ p, p < tN T → ∀ l, cv' p = some l → l.length ≤ 64) → RConS ar s' (tN T) cv' → RConS ar' s' (tN T) cv') → Ag sc ar sc ar' [5, 6] → P none (rOv σ o sc ar')) : wpM 163 [.ref o, .int (nI s), .int (nI a)] (rOv σ o sc ar) P := by
  have h40 := hAI.1
  obtain ⟨b1, b2, b3, b4, b5, b6, b7, b8⟩ := hAI.2.1 a ha
  refine (b163 hR).mpr ?_
  have key : ∀ e k cv1 ar1 u4 u5, k + e = (aOut A a).length → RConS ar1 s (tN T) cv1 → (∀ p, p < tN T → ∀ l, cv1 p = some l → l.length ≤ 64) → (∀ s' cv', s' ≠ s → s' < 3 → (∀ p, p < tN T → ∀ l, cv' p = some l → l.length ≤ 64) → RConS ar s' (tN T) cv' → RConS ar1 s' (tN T) cv') → Ag sc ar sc ar1 [5, 6] → layO cv1 ((aOut A a).drop k) out k = layO cv (aOut A a) out 0 → wp 163 2 [some (.ref o), some (.int (nI s)), some (.int (nI a)), some (.int (nI k)), u4, u5] [] (rOv σ o sc ar1) P := by
    intro e
    induction e with
    | zero =>
      intro k cv1 ar1 u4 u5 hk hc1 hl1 hoth hg hlay
      refine (b163_2 hR).mpr ⟨nI_in (N := 40) (by omega) (by omega), ?_⟩
      rw [nI_clamp (by omega), hg.2 33 _ (by decide), (hA.2 a ha).2.1.1]
      refine ifp (nI_le (by omega) (by omega)) ((b163_93 hR).mpr (hP _ ?_ hoth hg))
      rw [List.drop_eq_nil_of_le (by omega)] at hlay
      rw [← hlay]; exact hc1
    | succ e ih =>
      intro k cv1 ar1 u4 u5 hk hc1 hl1 hoth hg hlay
      have hkl : k < (aOut A a).length := by omega
      refine (b163_2 hR).mpr ⟨nI_in (N := 40) (by omega) (by omega), ?_⟩
      rw [nI_clamp (by omega), hg.2 33 _ (by decide), (hA.2 a ha).2.1.1]
      refine ifn (nI_ge (by omega) (by omega)) ((b163_12 hR).mpr ?_)
      have e2 := RRow_get (hA.2 a ha).2.1.2 (show k < _ by rw [List.length_map]; exact hkl)
      rw [List.getElem_map] at e2
      have hp := b6 _ (List.getElem_mem hkl)
      rw [List.drop_eq_getElem_cons hkl] at hlay
      generalize (aOut A a)[k] = p at e2 hp hlay
      have hp := hp.1
      rw [i3, nI_clamp (n := 3 * a + k) (by omega), hg.2 32 _ (by decide), e2, i60, nI_clamp (n := 60 * s + p) (by omega), nI_clamp (n := k) (by omega)]
      refine ⟨nI_in (N := 120) (by omega) (by omega), nI_in (N := 3) (by omega) (by omega), nI_in (N := 180) (by omega) (by omega), ?_⟩
      have hck : RCc ar1 70 71 k (out k) := RCc_ag (hcm k (by omega)) (fun i => hg.2 70 i (by decide)) (fun i => hg.2 71 i (by decide))
      have h64 := lenC_le (hol k)
      have inner : ∀ e2 j, j + e2 = lenC (out k) → wp 163 45 [some (.ref o), some (.int (nI s)), some (.int (nI a)), some (.int (nI k)), some (.int (nI (60 * s + p))), some (.int (nI j))] [] (rOv σ o sc (cpC ar1 25 26 (60 * s + p) 70 71 k j)) P := by
        intro e2
        induction e2 with
        | zero =>
          intro j hj
          refine (b163_45 hR).mpr ⟨nI_in (N := 3) (by omega) (by omega), ?_⟩
          rw [nI_clamp (by omega), cpC_len hck (by decide) (by decide), show j = lenC (out k) by omega]
          refine ifp (lenI_leC h64) ((b163_87 hR).mpr ?_)
          rw [nI_1]
          obtain ⟨q1, q2⟩ := cpC_ok (t2 := 25) (b2 := 26) (g := 60 * s + p) hck (hol k) (by decide) (by decide) (rfl : lenC (out k) = lenC (out k))
          refine ih (k + 1) (fup cv1 p (out k)) _ _ _ (by omega) (RConS_set hc1 h60 hl1 q2 q1) (fun r hr l hl => ?_) (fun s' cv' hne hs3 hl' hc' => RConS_fr (hoth s' cv' hne hs3 hl' hc') hl' q2 (fun r _ _ => by omega)) (hg.tr (Ag_cpC (by decide) (by decide))) hlay
          by_cases c : r = p
          · rw [c, fup_same] at hl; exact hol k l hl
          · rw [fup_ne c] at hl; exact hl1 r hr l hl
        | succ e2 ih2 =>
          intro j hj
          refine (b163_45 hR).mpr ⟨nI_in (N := 3) (by omega) (by omega), ?_⟩
          rw [nI_clamp (by omega), cpC_len hck (by decide) (by decide)]
          refine ifn (lenI_nle (by omega) h64) ((b163_56 hR).mpr ?_)
          rw [i64, i64, nI_clamp (n := 64 * (60 * s + p) + j) (by omega), nI_clamp (n := 64 * k + j) (by omega), cpC_step (by decide), nI_1]
          exact ⟨nI_in (N := 192) (by omega) (by omega), nI_in (N := 11520) (by omega) (by omega), ih2 (j + 1) (by omega)⟩
      have := inner _ 0 (Nat.zero_add _)
      rw [cpC_0] at this
      exact this
  exact key _ 0 cv ar none none (Nat.zero_add _) hC hcv (fun _ _ _ _ _ h => h) Ag.rf rfl
theorem RRow_map (h : RRow ar 42 0 (pe.map fun p => nI p.1)) (hk : k < pe.length) : ar 42 k = nI pe[k].1 := by
  have := RRow_get h (show k < _ by rw [List.length_map]; exact hk)
  rw [Nat.zero_add, List.getElem_map] at this; exact this
theorem r_sizes (hR : RShape σ o) (h : RCac sc ar K) (hl : K.2.1.length ≤ 101) (hP : P (some (.int (nI (sizesW K.2.1)))) (rOv σ o sc ar)) : wpM 164 [.ref o] (rOv σ o sc ar) P := by
  obtain ⟨pe, h1, h2, h3, h4, h5, h6, h7, h8⟩ := h
  have hpl : pe.length ≤ 101 := by rw [h1, List.length_map] at hl; exact hl
  refine (b164 hR).mpr ?_
  have key : ∀ e k, k + e = pe.length → wp 164 4 [some (.ref o), some (.int (nI (sizesW ((pe.map (·.2)).take k)))), some (.int (nI k))] [] (rOv σ o sc ar) P := by
    intro e
    induction e with
    | zero =>
      intro k hk
      refine (b164_4 hR).mpr (ifp (by rw [h5]; exact nI_le (by omega) (by omega)) ((b164_32 hR).mpr ?_))
      rw [List.take_of_length_le (by rw [List.length_map]; omega), ← h1]; exact hP
    | succ e ih =>
      intro k hk
      have hkl : k < pe.length := by omega
      have hm := h3 _ (List.getElem_mem hkl)
      refine (b164_4 hR).mpr (ifn (by rw [h5]; exact nI_ge (by omega) (by omega)) ((b164_12 hR).mpr ?_))
      rw [nI_clamp (n := k) (by omega), RRow_map h7 hkl, nI_clamp (by omega), hm.2.2.1.1, nI_add, nI_1]
      refine ⟨nI_in (N := 101) (by omega) (by omega), nI_in (N := 101) (by omega) (by omega), ?_⟩
      have e3 : sizesW ((pe.map (·.2)).take k) + eSize pe[k].2 = sizesW ((pe.map (·.2)).take (k + 1)) := by
        rw [List.take_add_one, sizesW_app, List.getElem?_eq_getElem (by rw [List.length_map]; exact hkl), List.getElem_map]
        simp [sizesW]
      rw [e3]
      exact ih (k + 1) (by omega)
  exact key _ 0 (Nat.zero_add _)
theorem r_takeOut (hR : RShape σ o) (h : RRow ar 42 0 l) (hn : sc 21 = nI l.length) (hi : i < l.length) (hl : l.length ≤ 101) (hP : ∀ sc' ar', sc' 21 = nI (l.length - 1) → RRow ar' 42 0 (l.eraseIdx i) → Ag sc ar sc' ar' [21, 22] → P none (rOv σ o sc' ar')) : wpM 165 [.ref o, .int (nI i)] (rOv σ o sc ar) P := by
  have hn1 : sc 21 - 1 = nI (l.length - 1) := by rw [hn]; exact pk_sub (b := 1) (by omega)
  refine (b165 hR).mpr ?_
  rw [hn1]
  have key : ∀ e k ar1, k + e = l.length - 1 → i ≤ k → (∀ j, j < l.length → ar1 42 j = if i ≤ j ∧ j < k then l.getD (j + 1) 0 else l.getD j 0) → Ag sc ar (upS sc 21 (nI (l.length - 1))) ar1 [21, 22] → wp 165 12 [some (.ref o), some (.int (nI i)), some (.int (nI k))] [] (rOv σ o (upS sc 21 (nI (l.length - 1))) ar1) P := by
    intro e
    induction e with
    | zero =>
      intro k ar1 hk hik hv hg
      refine (b165_12 hR).mpr (ifp (by rw [upS_same]; exact nI_le (by omega) (by omega)) ((b165_40 hR).mpr (hP _ _ upS_same (fun j hj => ?_) hg)))
      rw [List.length_eraseIdx_of_lt hi] at hj
      rw [Nat.zero_add, hv j (by omega), List.getElem?_eraseIdx]
      by_cases c : j < i
      · rw [if_pos c, if_neg (by omega), List.getD_eq_getElem?_getD, List.getElem?_eq_getElem (by omega)]; rfl
      · rw [if_neg c, if_pos (by omega), List.getD_eq_getElem?_getD, List.getElem?_eq_getElem (by omega)]; rfl
    | succ e ih =>
      intro k ar1 hk hik hv hg
      refine (b165_12 hR).mpr (ifn (by rw [upS_same]; exact nI_ge (by omega) (by omega)) ((b165_20 hR).mpr ?_))
      rw [nI_1, nI_clamp (by omega), nI_clamp (by omega)]
      refine ⟨nI_in (N := 101) (by omega) (by omega), nI_in (N := 101) (by omega) (by omega), ih (k + 1) _ (by omega) (by omega) (fun j hj => ?_) (hg.tr (Ag_ar (by decide)))⟩
      by_cases c : j = k
      · rw [c, upA_same, hv (k + 1) (by omega), if_neg (by omega), if_pos (by omega)]
      · rw [upA_ne (fun r => c r.2), hv j hj]
        by_cases d : i ≤ j ∧ j < k
        · rw [if_pos d, if_pos (by omega)]
        · rw [if_neg d, if_neg (by omega)]
  refine key (l.length - 1 - i) i ar (by omega) (Nat.le_refl i) (fun j hj => ?_) (Ag_sc (by decide))
  have := RRow_get h hj
  rw [Nat.zero_add] at this
  rw [if_neg (by omega), List.getD_eq_getElem?_getD, List.getElem?_eq_getElem hj, this]; rfl
end RCA
