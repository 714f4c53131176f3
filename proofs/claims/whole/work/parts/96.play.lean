/-! THE REFERENCE: a program is played -/
section RPL
variable {σ : zSt} {o : Nat} {sc sc' : ScT} {ar ar' : ArT} {P : Option Value → zSt → Prop} {x y : Int32} {p s i j q m n a b k v no : Nat} {w : WT} {T : TreT} {A : ActT} {l l2 row : List Int32} {cv out : Nat → Con} {S ins : List Nat}
def conAll (T : TreT) (cv : Nat → Con) : Prop := ∀ p, p < tN T → ∀ l, cv p = some l → conOk l
theorem conAll.len (h : conAll T cv) : ∀ p, p < tN T → ∀ l, cv p = some l → l.length ≤ 64 := fun p hp l hl => (h p hp l hl).1
theorem RCame_none : (∀ q, q < 3 → ar 70 q = -1) → RCame ar (fun _ => none) := fun h q hq => ⟨h q hq, fun l hl => by cases hl⟩
theorem rif_o (L : List Int32) : (rowIf L out).2.2.1 = false ∧ (rowIf L out).2.2.2 = out := by
  unfold rowIf; split <;> exact ⟨rfl, rfl⟩
def rdW (T : TreT) (cv : Nat → Con) (p : Nat) (row : List Int32) (out : Nat → Con) : Nat × List Int32 × Bool × (Nat → Con) := if tDir T p = true then (4, row, false, out) else match cv p with
    | none => (1, row, false, out)
    | some l => rowIf (row ++ l) out
theorem rdW_o : (rdW T cv p row out).2.2.1 = false ∧ (rdW T cv p row out).2.2.2 = out := by
  unfold rdW
  split
  · exact ⟨rfl, rfl⟩
  · split
    · exact ⟨rfl, rfl⟩
    · exact rif_o _
def lsW (T : TreT) (cv : Nat → Con) (p : Nat) (row : List Int32) (out : Nat → Con) : Nat × List Int32 × Bool × (Nat → Con) := if tDir T p = true then rowIf (row ++ (namesW T cv p).map fun x => 96 + x) out else (4, row, false, out)
theorem lsW_o : (lsW T cv p row out).2.2.1 = false ∧ (lsW T cv p row out).2.2.2 = out := by
  unfold lsW
  split
  · exact rif_o _
  · exact ⟨rfl, rfl⟩
theorem sw_3 (h : (n = 0 ∨ n = 2 ∨ n = 9) ∧ ins.length ≤ v) : stepW T cv ins no n v row out = (3, row, false, out) := by unfold stepW; rw [if_pos h]
theorem sw_3o (h : no ≤ v) : stepW T cv ins no 3 v row out = (3, row, false, out) := by unfold stepW; rw [if_neg (by omega), if_pos ⟨rfl, h⟩]
theorem sw_rd (h : v < ins.length) : stepW T cv ins no 0 v row out = rdW T cv ins[v] row out := by
  unfold stepW; rw [if_neg (by omega), if_neg (by omega), if_pos rfl, getD_get h]; rfl
theorem sw_ls (h : v < ins.length) : stepW T cv ins no 2 v row out = lsW T cv ins[v] row out := by
  unfold stepW; rw [if_neg (by omega), if_neg (by omega), if_neg (by omega), if_neg (by omega), if_pos rfl, getD_get h]; rfl
theorem sw_wr (h : v < no) : stepW T cv ins no 3 v row out = (0, [], false, fup out v (some row)) := by
  unfold stepW; rw [if_neg (by omega), if_neg (by omega), if_neg (by omega), if_neg (by omega), if_neg (by omega), if_pos rfl]
theorem sw_sk (h : v < ins.length) : stepW T cv ins no 9 v row out = if tDir T ins[v] = true then (4, row, false, out) else (0, row, (cv ins[v]).isSome, out) := by
  unfold stepW; rw [if_neg (by omega), if_neg (by omega), if_neg (by omega), if_neg (by omega), if_neg (by omega), if_neg (by omega), if_neg (by omega), if_neg (by omega), if_neg (by omega), if_neg (by omega), if_neg (by omega), if_pos rfl, getD_get h]
theorem r_play (hR : RShape σ o) (hT : RTree sc ar T) (hTI : TInv T) (hA : RAct sc ar A) (hAI : AInv T A) (hs : s < 3) (hC : RConS ar s (tN T) cv) (hcv : conAll T cv) (ha : a < aN A) (hP : ∀ sc' ar', sc' 49 = nI (comesW T cv A a).1 → RCame ar' (comesW T cv A a).2 → Ag sc ar sc' ar' [45, 46, 47, 48, 49, 50, 51] → P none (rOv σ o sc' ar')) : wpM 162 [.ref o, .int (nI s), .int (nI a)] (rOv σ o sc ar) P := by
  have h40 := hAI.1
  have h60 := hTI.2.1
  obtain ⟨b1, b2, b3, b4, b5, b6, b7, b8⟩ := hAI.2.1 a ha
  have hcvO : cvOk T cv (aIns A a) := fun p hp _ l hl => hcv p (b2 p hp) l hl
  -- the end
  have last : ∀ e k u4 u5 u6 u7 sc' ar', k + e = 3 → Ag sc ar sc' ar' [45, 46, 47, 48, 49, 50, 51] → ∀ f, f < 6 → f ≠ 0 → sc' 49 = nI f → (comesW T cv A a) = (f, fun _ => none) → (∀ q, q < k → ar' 70 q = -1) → wp 162 295 [some (.ref o), some (.int (nI s)), some (.int (nI a)), some (.int (nI k)), u4, u5, u6, u7] [] (rOv σ o sc' ar') P := by
    intro e
    induction e with
    | zero =>
      intro k u4 u5 u6 u7 sc' ar' hk hg f hf6 hf0 h49 hc hl
      refine (b162_295 hR).mpr (ifp (nI_le (a := 3) (by omega) (by omega)) ((b162_320 hR).mpr (hP _ _ ?_ ?_ hg)))
      · rw [hc]; exact h49
      · rw [hc]; exact RCame_none (fun q hq => hl q (by omega))
    | succ e ih =>
      intro k u4 u5 u6 u7 sc' ar' hk hg f hf6 hf0 h49 hc hl
      refine (b162_295 hR).mpr (ifn (nI_ge (b := 3) (by omega) (by omega)) ((b162_300 hR).mpr (ifn ?_ ((b162_307 hR).mpr ?_))))
      · rw [h49]; exact nI_nle (by omega) (by omega)
      · rw [nI_clamp (by omega), nI_1]
        refine ⟨nI_in (N := 3) (by omega) (by omega), ih (k + 1) _ _ _ _ _ _ (by omega) (hg.tr (Ag_ar (by decide))) f hf6 hf0 h49 hc (fun q hq => ?_)⟩
        by_cases c : q = k
        · rw [c, upA_same]
        · rw [upA_ne (fun r => c r.2)]; exact hl q (by omega)
  have fin : ∀ k u4 u5 u6 u7 sc' ar' f out, Ag sc ar sc' ar' [45, 46, 47, 48, 49, 50, 51] → f < 6 → sc' 49 = nI f → (f = 0 → comesW T cv A a = (0, out) ∧ RCame ar' out) → (f ≠ 0 → comesW T cv A a = (f, fun _ => none)) → wp 162 293 [some (.ref o), some (.int (nI s)), some (.int (nI a)), some (.int k), u4, u5, u6, u7] [] (rOv σ o sc' ar') P := by
    intro k u4 u5 u6 u7 sc' ar' f out hg hf6 h49 h0 h1
    refine (b162_293 hR).mpr ?_
    by_cases c : f = 0
    · obtain ⟨e1, e2⟩ := h0 c
      subst c
      refine (b162_295 hR).mpr (ifn (by decide) ((b162_300 hR).mpr (ifp ?_ ((b162_320 hR).mpr (hP _ _ ?_ ?_ hg)))))
      · rw [h49]; decide
      · rw [e1]; exact h49
      · rw [e1]; exact e2
    · exact last 3 0 _ _ _ _ _ _ rfl hg f hf6 c h49 (h1 c) (fun q hq => absurd hq (Nat.not_lt_zero q))
  have ns : ∀ {sc' : ScT} {ar' : ArT}, Ag sc ar sc' ar' [45, 46, 47, 48, 49, 50, 51] → ar' 36 a = nI (aSt A a).length := fun hg => by
    rw [hg.2 36 _ (by decide)]; exact (hA.2 a ha).2.2.1
  have failw : ∀ k u4 u5 u6 u7 sc' ar' f, k < 100 → Ag sc ar sc' ar' [45, 46, 47, 48, 49, 50, 51] → f < 6 → f ≠ 0 → sc' 49 = nI f → comesW T cv A a = (f, fun _ => none) → wp 162 32 [some (.ref o), some (.int (nI s)), some (.int (nI a)), some (.int (nI k)), u4, u5, u6, u7] [] (rOv σ o sc' ar') P := by
    intro k u4 u5 u6 u7 sc' ar' f hk hg hf6 hf0 h49 hc
    have h293 := fin (nI k) u4 u5 u6 u7 sc' ar' f (fun _ => none) hg hf6 h49 (fun r => absurd r hf0) (fun _ => hc)
    refine (b162_32 hR).mpr ⟨nI_in (N := 40) (by omega) (by omega), ?_⟩
    by_cases c : ar' 36 (nI a).toNatClampNeg ≤ nI k
    · exact ifp c h293
    · refine ifn c ((b162_42 hR).mpr (ifp ?_ h293))
      rw [h49]; exact nI_ne0 (by omega) (by omega)
  have key : ∀ e k row out u4 u5 u6 u7 sc' ar', (aSt A a).length ≤ k + e → k ≤ (aSt A a).length + 1 → Ag sc ar sc' ar' [45, 46, 47, 48, 49, 50, 51] → RCame ar' out → (∀ q l, out q = some l → conOk l) → conOk row → WkR sc' ar' row → runW T cv (aIns A a) (aOut A a).length ((aSt A a).drop k) row false out = comesW T cv A a → wp 162 32 [some (.ref o), some (.int (nI s)), some (.int (nI a)), some (.int (nI k)), u4, u5, u6, u7] [] (rOv σ o sc' ar') P := by
    intro e
    induction e with
    | zero =>
      intro k row out u4 u5 u6 u7 sc' ar' hk1 hk2 hg hcm hoo hro hw hrun
      refine (b162_32 hR).mpr ⟨nI_in (N := 40) (by omega) (by omega), ?_⟩
      rw [nI_clamp (by omega), ns hg]
      refine ifp (nI_le (by omega) (by omega)) (fin _ _ _ _ _ _ _ 0 out hg (by omega) hw.2.2.2 (fun _ => ⟨?_, hcm⟩) (fun r => absurd rfl r))
      rw [← hrun, List.drop_eq_nil_of_le (by omega)]; rfl
    | succ e ih =>
      intro k row out u4 u5 u6 u7 sc' ar' hk1 hk2 hg hcm hoo hro hw hrun
      by_cases hkl : k < (aSt A a).length
      rotate_left
      · exact ih k row out u4 u5 u6 u7 sc' ar' (by omega) hk2 hg hcm hoo hro hw hrun
      refine (b162_32 hR).mpr ⟨nI_in (N := 40) (by omega) (by omega), ?_⟩
      rw [nI_clamp (by omega), ns hg]
      refine ifn (nI_ge (by omega) (by omega)) ((b162_42 hR).mpr (ifn (fun r => r hw.2.2.2) ((b162_49 hR).mpr ?_)))
      obtain ⟨⟨a1, a2⟩, ⟨a3, a4⟩, a5, a6, a7⟩ := RActI_ag (hA.2 a ha) hg (by decide)
      obtain ⟨hn14, hv256⟩ := b8 _ (List.getElem_mem hkl)
      have e6 := RRow_get a6 (by rw [List.length_map]; exact hkl)
      have e7 := RRow_get a7 (by rw [List.length_map]; exact hkl)
      rw [List.getElem_map] at e6 e7
      rw [i16, nI_clamp (by omega), e6, e7]
      refine ⟨nI_in (N := 640) (by omega) (by omega), nI_in (N := 640) (by omega) (by omega), ?_⟩
      have hdrop : (aSt A a).drop k = (aSt A a)[k] :: (aSt A a).drop (k + 1) := List.drop_eq_getElem_cons hkl
      generalize (aSt A a)[k] = st at hn14 hv256 hdrop ⊢
      obtain ⟨n, v⟩ := st
      dsimp only at hn14 hv256 ⊢
      have hso := stepW_ok (no := (aOut A a).length) (n := n) (v := v) hTI hcvO b2 hv256 hro hoo
      rw [hdrop] at hrun
      have hrun' : (if (stepW T cv (aIns A a) (aOut A a).length n v row out).1 = 0 then runW T cv (aIns A a) (aOut A a).length ((aSt A a).drop (k + 1)) (stepW T cv (aIns A a) (aOut A a).length n v row out).2.1 (stepW T cv (aIns A a) (aOut A a).length n v row out).2.2.1 (stepW T cv (aIns A a) (aOut A a).length n v row out).2.2.2 else ((stepW T cv (aIns A a) (aOut A a).length n v row out).1, fun _ => none)) = comesW T cv A a := hrun
      clear hrun
      -- behind a step
      have aft : ∀ r sc4 ar4 k' x4 x5 x6 u7, stepW T cv (aIns A a) (aOut A a).length n v row out = r → Ag sc ar sc4 ar4 [45, 46, 47, 48, 49, 50, 51] → StR sc4 ar4 r → RCame ar4 r.2.2.2 → (r.1 = 0 → k' = if r.2.2.1 = true then k + 1 else k) → k' ≤ k + 1 → wp 162 287 [some (.ref o), some (.int (nI s)), some (.int (nI a)), some (.int (nI k')), some (.int x4), some (.int x5), some (.int x6), u7] [] (rOv σ o sc4 ar4) P := by
        intro r sc4 ar4 k' x4 x5 x6 u7 hr hg4 hst hcm4 hk' hk1'
        rw [hr] at hrun' hso
        refine (b162_287 hR).mpr ?_
        rw [nI_1]
        by_cases c : r.1 = 0
        · rw [if_pos c] at hrun'
          have hk'' := hk' c
          by_cases cs : r.2.2.1 = true
          · rw [if_pos cs] at hk''
            subst hk''
            rw [cs] at hrun'
            have e2 : runW T cv (aIns A a) (aOut A a).length ((aSt A a).drop (k + 1)) r.2.1 true r.2.2.2 = runW T cv (aIns A a) (aOut A a).length ((aSt A a).drop (k + 1 + 1)) r.2.1 false r.2.2.2 := by
              by_cases g : k + 1 < (aSt A a).length
              · rw [List.drop_eq_getElem_cons g]; exact if_pos rfl
              · rw [List.drop_eq_nil_of_le (by omega), List.drop_eq_nil_of_le (by omega)]; rfl
            rw [e2] at hrun'
            exact ih (k + 1 + 1) r.2.1 r.2.2.2 _ _ _ _ _ _ (by omega) (by omega) hg4 hcm4 hso.2.1 (hso.1 c) (hst.1 c) hrun'
          · rw [if_neg cs] at hk''
            subst hk''
            rw [show r.2.2.1 = false by simpa using cs] at hrun'
            exact ih (k' + 1) r.2.1 r.2.2.2 _ _ _ _ _ _ (by omega) (by omega) hg4 hcm4 hso.2.1 (hso.1 c) (hst.1 c) hrun'
        · rw [if_neg c] at hrun'
          exact failw (k' + 1) _ _ _ _ _ _ r.1 (by omega) hg4 hso.2.2.2 c (hst.2 c) hrun'.symm
      have f3 : ∀ x4 x5 x6 u7, stepW T cv (aIns A a) (aOut A a).length n v row out = (3, row, false, out) → wp 162 133 [some (.ref o), some (.int (nI s)), some (.int (nI a)), some (.int (nI k)), some (.int x4), some (.int x5), some (.int x6), u7] [] (rOv σ o sc' ar') P := fun x4 x5 x6 u7 h => (b162_133 hR).mpr (aft _ _ _ k _ _ _ _ h (hg.tr (Ag_sc (by decide))) (StR_fail (by omega) upS_same) hcm (fun r => absurd r (by simp)) (by omega))
      have hT' := RTree_ag hT hg (by decide)
      have hC' := RConS_ag hC hg (by decide)
      have inp : ∀ (h : v < (aIns A a).length), ar' 30 (6 * a + v) = nI (aIns A a)[v] := fun h => by rw [RRow_get a2 (by rw [List.length_map]; exact h), List.getElem_map]
      have ask : (n = 0 ∨ n = 2 ∨ n = 9) → (v < (aIns A a).length → wp 162 172 [some (.ref o), some (.int (nI s)), some (.int (nI a)), some (.int (nI k)), some (.int (nI n)), some (.int (nI v)), some (.int 1), u7] [] (rOv σ o sc' ar') P) → wp 162 93 [some (.ref o), some (.int (nI s)), some (.int (nI a)), some (.int (nI k)), some (.int (nI n)), some (.int (nI v)), u6, u7] [] (rOv σ o sc' ar') P := by
        intro hn h
        have n3 : ¬ nI n = 3 := fun r => by have := (nI_eq (b := 3) (by omega) (by omega)).mp r; omega
        refine (b162_93 hR).mpr ((b162_98 hR).mpr (ifn (by decide) ((b162_105 hR).mpr ⟨nI_in (N := 40) (by omega) (by omega), ?_⟩)))
        rw [nI_clamp (by omega), a1]
        by_cases c : (aIns A a).length ≤ v
        · exact ifp (nI_le c (by omega)) (f3 _ _ _ _ (sw_3 ⟨hn, c⟩))
        · exact ifn (nI_ge (by omega) (by omega)) ((b162_116 hR).mpr (ifp n3 ((b162_141 hR).mpr (ifp n3 ((b162_156 hR).mpr (ifp (by decide) (h (by omega))))))))
      by_cases c0 : n = 0
      · subst c0
        refine ifp (by decide) (ask (Or.inl rfl) (fun hv => (b162_172 hR).mpr (ifn (by decide) ((b162_177 hR).mpr ?_))))
        rw [i6, nI_clamp (by omega), inp hv]
        refine ⟨nI_in (N := 240) (by omega) (by omega), r_read (out := out) hR hw hT' hTI hs hC' hcv.len (b2 _ (List.getElem_mem hv)) (fun sc4 ar4 h4 g4 => (b162_194 hR).mpr (aft (rdW T cv (aIns A a)[v] row out) sc4 ar4 k _ _ _ _ (sw_rd hv) (hg.tr (g4.mono (by decide))) h4 ?_ (fun _ => ?_) (by omega)))⟩
        · rw [rdW_o.2]; exact RCame_ag hcm g4 (by decide)
        · rw [rdW_o.1]; rfl
      refine ifn (fun r => c0 ((nI_eq (b := 0) (by omega) (by omega)).mp r)) ((b162_80 hR).mpr ?_)
      by_cases c2 : n = 2
      · subst c2
        refine ifp (by decide) (ask (Or.inr (Or.inl rfl)) (fun hv => (b162_172 hR).mpr (ifp (by decide) ((b162_197 hR).mpr (ifn (by decide) ((b162_203 hR).mpr ?_))))))
        rw [i6, nI_clamp (by omega), inp hv]
        refine ⟨nI_in (N := 240) (by omega) (by omega), r_listIn (out := out) hR hw hT' hTI hs hC' hcv.len (b2 _ (List.getElem_mem hv)) (fun sc4 ar4 h4 g4 => (b162_220 hR).mpr (aft (lsW T cv (aIns A a)[v] row out) sc4 ar4 k _ _ _ _ (sw_ls hv) (hg.tr (g4.mono (by decide))) h4 ?_ (fun _ => ?_) (by omega)))⟩
        · rw [lsW_o.2]; exact RCame_ag hcm g4 (by decide)
        · rw [lsW_o.1]; rfl
      refine ifn (fun r => c2 ((nI_eq (b := 2) (by omega) (by omega)).mp r)) ((b162_86 hR).mpr ?_)
      by_cases c9 : n = 9
      · subst c9
        refine ifn (by decide) (ask (Or.inr (Or.inr rfl)) (fun hv => (b162_172 hR).mpr (ifp (by decide) ((b162_197 hR).mpr (ifp (by decide) ((b162_223 hR).mpr ?_))))))
        have hp := b2 _ (List.getElem_mem hv)
        have hsk := sw_sk (T := T) (cv := cv) (no := (aOut A a).length) (row := row) (out := out) hv
        have hd := (hT'.2 _ hp).2.2.1
        rw [i6, nI_clamp (n := 6 * a + v) (by omega), inp hv]
        generalize (aIns A a)[v] = p at hp hsk hd ⊢
        rw [nI_clamp (by omega), hd]
        refine ⟨nI_in (N := 240) (by omega) (by omega), nI_in (N := 60) (by omega) (by omega), ?_⟩
        by_cases d : tDir T p = true
        · rw [if_pos d] at hsk
          refine ifn (fun r => b2I_ne.mpr d r) ((b162_248 hR).mpr ((b162_253 hR).mpr ?_))
          rw [upS_same]
          refine ifp (by decide) ((b162_284 hR).mpr ((b162_285 hR).mpr ?_))
          rw [Int32.add_zero]
          exact aft _ _ _ k _ _ _ _ hsk (hg.tr (Ag_sc (by decide))) (StR_fail (by omega) upS_same) hcm (fun r => absurd r (by simp)) (by omega)
        · rw [if_neg d] at hsk
          have p1 : 1 ≤ p := by
            by_cases e : p = 0
            · rw [e] at d; exact absurd hTI.2.2.1.2.2.1 d
            · omega
          have cc := hC' p p1 hp
          have hw' : WkR (upS sc' 49 0) ar' row := ⟨hw.1, by rw [upS_ne (by omega)]; exact hw.2.1, hw.2.2.1, upS_same⟩
          refine ifp (b2I_0.mpr (by simpa using d)) ((b162_252 hR).mpr ((b162_253 hR).mpr ?_))
          rw [upS_same]
          refine ifn (by decide) ((b162_264 hR).mpr ?_)
          rw [i60, nI_clamp (by omega), cc.1]
          refine ⟨nI_in (N := 180) (by omega) (by omega), ?_⟩
          cases hcp : cv p with
          | none =>
            rw [hcp] at hsk
            refine ifp rfl ((b162_284 hR).mpr ((b162_285 hR).mpr ?_))
            rw [Int32.add_zero]
            exact aft _ _ _ k _ _ _ _ hsk (hg.tr (Ag_sc (by decide))) (StR_ok hw') hcm (fun _ => rfl) (by omega)
          | some l =>
            rw [hcp] at hsk
            have l64 := hcv.len p hp l hcp
            refine ifn (fun r => absurd (show nI l.length = -1 from r) (nI_m1 (by omega))) ((b162_280 hR).mpr ((b162_285 hR).mpr ?_))
            rw [nI_1]
            exact aft _ _ _ (k + 1) _ _ _ _ hsk (hg.tr (Ag_sc (by decide))) (StR_ok hw') hcm (fun _ => rfl) (by omega)
      refine ifp (fun r => c9 ((nI_eq (b := 9) (by omega) (by omega)).mp r)) ((b162_97 hR).mpr ((b162_98 hR).mpr (ifp rfl ((b162_116 hR).mpr ?_))))
      by_cases c3 : n = 3
      · subst c3
        refine ifn (by decide) ((b162_122 hR).mpr ⟨nI_in (N := 40) (by omega) (by omega), ?_⟩)
        rw [nI_clamp (by omega), a3]
        by_cases c : v < (aOut A a).length
        · refine ifp (nI_lt c (by omega)) ((b162_141 hR).mpr (ifn (by decide) ((b162_147 hR).mpr ?_)))
          exact r_writeOut hR hw (by omega) hcm (fun q l h => (hoo q l h).1) (fun sc4 ar4 h4 hc4 g4 => (b162_153 hR).mpr (aft _ _ _ k _ _ _ _ (sw_wr c) (hg.tr (g4.mono (by decide))) (StR_ok h4) hc4 (fun _ => rfl) (by omega)))
        · exact ifn (nI_nlt (by omega) (by omega)) (f3 _ _ _ _ (sw_3o (by omega)))
      have n3 : ¬ nI n = 3 := fun r => c3 ((nI_eq (b := 3) (by omega) (by omega)).mp r)
      refine ifp n3 ((b162_141 hR).mpr (ifp n3 ((b162_156 hR).mpr (ifn (by decide) ((b162_161 hR).mpr ?_)))))
      refine r_alone (T := T) (cv := cv) (ins := aIns A a) (no := (aOut A a).length) (out := out) hR hw hro hn14 c0 c2 c3 c9 hv256 (fun sc4 ar4 h4 hs4 ho4 g4 => (b162_169 hR).mpr (aft _ _ _ k _ _ _ _ rfl (hg.tr (g4.mono (by decide))) h4 ?_ (fun _ => ?_) (by omega)))
      · rw [ho4]; exact RCame_ag hcm g4 (by decide)
      · rw [hs4]; rfl
  have start : ∀ e k sc' ar', k + e = 3 → Ag sc ar sc' ar' [45, 46, 47, 48, 49, 50, 51] → sc' 48 = 0 ∧ sc' 49 = 0 → (∀ q, q < k → ar' 70 q = -1) → wp 162 12 [some (.ref o), some (.int (nI s)), some (.int (nI a)), some (.int (nI k)), none, none, none, none] [] (rOv σ o sc' ar') P := by
    intro e
    induction e with
    | zero =>
      intro k sc' ar' hk hg h0 hl
      refine (b162_12 hR).mpr (ifp (nI_le (a := 3) (by omega) (by omega)) ((b162_30 hR).mpr ?_))
      exact key _ 0 [] (fun _ => none) _ _ _ _ _ _ (Nat.le_of_eq (Nat.zero_add _).symm) (by omega) hg (RCame_none (fun q hq => hl q (by omega))) (fun q l h => by cases h) ⟨by simp, fun x h => absurd h List.not_mem_nil⟩ ⟨by simp, h0.1, RRow_nil, h0.2⟩ rfl
    | succ e ih =>
      intro k sc' ar' hk hg h0 hl
      refine (b162_12 hR).mpr (ifn (nI_ge (b := 3) (by omega) (by omega)) ((b162_17 hR).mpr ?_))
      rw [nI_clamp (by omega), nI_1]
      refine ⟨nI_in (N := 3) (by omega) (by omega), ih (k + 1) _ _ (by omega) (hg.tr (Ag_ar (by decide))) h0 (fun q hq => ?_)⟩
      by_cases c : q = k
      · rw [c, upA_same]
      · rw [upA_ne (fun r => c r.2)]; exact hl q (by omega)
  exact (b162 hR).mpr (start 3 0 _ _ rfl ((Ag_sc (by decide)).tr (Ag_sc (by decide))) ⟨by rw [upS_ne (by omega), upS_same], upS_same⟩ (fun q hq => absurd hq (Nat.not_lt_zero q)))
end RPL
