/-! THE CLASS: steps, the log, uses, keys and what has changed -/
section CK
variable {σ τ υ : zSt} {P : Option Value → zSt → Prop} {X N M : Nat} {pa aa ea sa : List Nat} {z : Nat → Con} {w : WT} {t : TreT} {a : ActT} {x y n : Int32} {p s i : Nat} {Cs Ks Ls : Nat → Prop} {Fs : Nat → Nat → Nat → Prop}
theorem AInv.n31 (h : AInv t a) : aN a < 2 ^ 31 := by have := h.1; omega
theorem act_len (h : CAct σ X pa aa t a) (hi : i < aN a) : i < aa.length := by rw [h.2.1]; exact hi
theorem act_is (h : CAct σ X pa aa t a) : ∀ q ∈ aa, zIs σ q 0 := by
  intro q hq
  obtain ⟨i, hi, rfl⟩ := List.mem_iff_getElem.mp hq
  rw [pA_elem hi]
  exact (h.2.2.2 i (by rw [← h.2.1]; exact hi)).1
theorem ahas_no (hC : CShape σ) (hX : zIs σ X 11) (h : CAct σ X pa aa t a) (ha : aN a < 2 ^ 31) (hx : x < 0 ∨ nI (aN a) ≤ x) (hP : P (some (.int 0)) σ) : wpM 32 [.ref (X + 13), .int x] σ P := by
  refine ghas_ok hC (x_graph hC hX) h.1 (fun i hi e => ?_) (fun _ => hP)
  rw [h.2.1] at hi
  subst e
  rcases hx with g | g
  · exact absurd g (nI_pos (by omega))
  · exact absurd g (nI_ge hi ha)
theorem ahas_yes (hC : CShape σ) (hX : zIs σ X 11) (h : CAct σ X pa aa t a) (hi : i < aN a) (hP : P (some (.int 1)) σ) : wpM 32 [.ref (X + 13), .int (nI i)] σ P := by
  refine ghas_ok hC (x_graph hC hX) h.1 (fun _ _ _ => hP) (fun q => absurd rfl (q i (by rw [h.2.1]; exact hi)))
theorem aat_ok (hC : CShape σ) (hX : zIs σ X 11) (h : CAct σ X pa aa t a) (hi : i < aN a) (hP : P (some (.ref (pA aa i))) σ) : wpM 33 [.ref (X + 13), .int (nI i)] σ P := by
  refine gat_ok hC (x_graph hC hX) h.1 (act_is h) (act_len h hi) ?_
  rw [pA_elem (act_len h hi)]; exact hP
theorem usesT_bit {q : Nat} (h : ActI σ pa t a i q) {b : Nat} : mb (zfl σ 0 6 q) b = true ↔ b < aN a ∧ usesT t a i b = true := h.2.2.2.2.2 b
theorem done_ok (hG : ClsG σ X pa aa ea sa z w) (hI : WInv w) (hP : P (some (.int (sDone w x n))) σ) : wpM 98 [.ref X, .int x, .int n] σ P := by
  have hC := hG.C
  obtain ⟨hH, hX, hT, hCC, hTp, hA, hW, hK, hLg⟩ := hG
  have h40 := hI.2.2.2.2.2.2
  obtain ⟨hz, hl, h40', hr, hf, hb, he⟩ := hLg
  unfold sDone at hP
  rcases ixN_cases x (n := (wL w).1.length) (by omega) with ⟨e, hx⟩ | ⟨i, hi, rfl, e⟩
  · rw [e] at hP
    by_cases hn : x < 0
    · exact b98.mpr (ifp hn (b98_24.mpr hP))
    · refine b98.mpr (ifn hn ((b98_4 hC).mpr ⟨hX.1, ifp ?_ (b98_24.mpr hP)⟩))
      rw [hl]
      rcases hx with g | g
      · exact absurd g hn
      · exact g
  · rw [e] at hP
    dsimp only at hP
    refine b98.mpr (ifn (nI_pos (by omega)) ((b98_4 hC).mpr ⟨hX.1, ifn (by rw [hl]; exact nI_ge hi (by omega)) (b98_15.mpr ?_)⟩))
    have row := he i hi
    have e0 : (wL w).1.getD i (0, 0, 0, 0) = (zai σ 10 (X + 21 + 2) i, zai σ 10 (X + 21 + 3) i, zai σ 10 (X + 21 + 4) i, zai σ 10 (X + 21 + 5) i) := by
      rw [List.getD_eq_getElem?_getD, row]; rfl
    rw [e0] at hP
    rcases ixN_cases n (n := 4) (by omega) with ⟨-, hx⟩ | ⟨k, hk, rfl, -⟩
    · have n0 : ¬ n = 0 := fun q => by subst q; rcases hx with g | g <;> exact absurd g (by decide)
      have n1 : ¬ n = 1 := fun q => by subst q; rcases hx with g | g <;> exact absurd g (by decide)
      have n2 : ¬ n = 2 := fun q => by subst q; rcases hx with g | g <;> exact absurd g (by decide)
      have n3 : ¬ n = 3 := fun q => by subst q; rcases hx with g | g <;> exact absurd g (by decide)
      rw [if_neg n0, if_neg n1, if_neg n2, if_neg n3] at hP
      by_cases hn : n < 0
      · exact ifp hn (b98_24.mpr hP)
      · refine ifn hn (b98_19.mpr (ifn ?_ (b98_24.mpr hP)))
        rcases hx with g | g
        · exact absurd g hn
        · exact Int32.not_lt.mpr g
    · refine ifn (nI_pos (by omega)) (b98_19.mpr (ifp (nI_lt (b := 4) hk (by omega)) ((b98_27 hC).mpr ⟨hX.1, nI_in hk (by omega), nI_in (by omega) (by omega), ?_⟩)))
      rw [nI_clamp (by omega), nI_clamp (by omega)]
      match k, hk with
      | 0, _ => exact hP
      | 1, _ => exact hP
      | 2, _ => exact hP
      | 3, _ => exact hP
theorem uses_ok (hG : ClsG σ X pa aa ea sa z w) (hI : WInv w) (hP : P (some (.int (sUses w x y))) σ) : wpM 96 [.ref X, .int x, .int y] σ P := by
  have hC := hG.C
  obtain ⟨hH, hX, hT, hCC, hTp, hA, hW, hK, hLg⟩ := hG
  have h31 := hI.2.1.n31
  have h40 := hI.2.1.1
  unfold sUses at hP
  refine (b96 hC).mpr ⟨hX.1, ?_⟩
  rcases ixN_cases x h31 with ⟨e, hx⟩ | ⟨i, hi, rfl, e⟩
  · rw [e] at hP
    exact ahas_no hC hX.1 hA h31 hx (b96_8.mpr (ifp rfl (b96_22.mpr hP)))
  · refine ahas_yes hC hX.1 hA hi (b96_8.mpr (ifn (by decide) ((b96_11 hC).mpr ⟨hX.1, ?_⟩)))
    rcases ixN_cases y h31 with ⟨e', hy⟩ | ⟨j, hj, rfl, e'⟩
    · rw [e, e'] at hP
      exact ahas_no hC hX.1 hA h31 hy (b96_19.mpr (ifn (fun q => q rfl) (b96_22.mpr hP)))
    · rw [e, e'] at hP
      dsimp only at hP
      refine ahas_yes hC hX.1 hA hj (b96_19.mpr (ifp (by decide) ((b96_25 hC).mpr ⟨hX.1, aat_ok hC hX.1 hA hi (b96_33.mpr ⟨(hA.2.2.2 i hi).1, bit_ok (by omega) (b96_40.mpr ?_)⟩)⟩)))
      have hb := usesT_bit (hA.2.2.2 i hi) (b := j)
      by_cases hu : usesT (wT w) (wA w) i j = true
      · rw [if_pos hu] at hP
        refine ifn (fun q => ?_) (b96_46.mpr (b96_51.mpr hP))
        rw [lcmp0, and_bit (by omega)] at q
        rw [hb.mpr ⟨hj, hu⟩] at q; cases q
      · rw [if_neg hu] at hP
        refine ifp ?_ (b96_50.mpr (b96_51.mpr hP))
        rw [lcmp0, and_bit (by omega)]
        cases h : mb (zfl σ 0 6 (pA aa i)) j with
        | false => rfl
        | true => exact absurd (hb.mp h).2 hu
/-- a path's number, an address's content in a space -/
def pn (σ : zSt) (q : Nat) : Nat := (zfi σ 8 0 q).toNatClampNeg
theorem pn_ok (hT : CTree σ X pa t) (h60 : tN t ≤ 60) (hp : p < tN t) : pn σ (pA pa p) = p := by
  unfold pn; rw [(hT.2.2 p hp).2.1, nI_clamp (by omega)]
theorem PIn_of (hT : CTree σ X pa t) (hI : TInv t) {c : Nat → Nat → Con} (hcc : CCon σ pa (tN t) c) (hs : s < 2) (hp : p < tN t) : PIn σ s (pA pa p) ((filesT t p).map (pA pa)) (fun q => c s (pn σ q)) := by
  have h60 := hI.2.1
  refine ⟨(hT.2.2 p hp).1, (hT.2.2 p hp).2.2.2.2.2.2, fun f hf => ?_, ?_, by rw [List.length_map]; exact filesT_len hI⟩
  · obtain ⟨k, hk, rfl⟩ := List.mem_map.mp hf
    have hk' := ((mem_filesT hI).mp hk).1
    refine ⟨(hT.2.2 k hk').1, ?_⟩
    dsimp only
    rw [pn_ok hT h60 hk']; exact hcc s k hs hk'
  · dsimp only; rw [pn_ok hT h60 hp]; exact hcc s p hs hp
theorem partL_of (hT : CTree σ X pa t) (hI : TInv t) {c : Nat → Nat → Con} (hp : p < tN t) : partL σ (pA pa p) ((filesT t p).map (pA pa)) (fun q => c s (pn σ q)) = partW t (c s) p := by
  have h60 := hI.2.1
  unfold partL partW
  dsimp only
  rw [(hT.2.2 p hp).2.2.2.2.1, pn_ok hT h60 hp]
  cases hd : tDir t p with
  | false => rw [if_pos (show b2I false = 0 from rfl), if_neg (by decide)]
  | true =>
    rw [if_neg (show ¬ b2I true = 0 by decide), if_pos rfl]
    congr 1
    unfold namesOf namesW
    rw [List.filter_map, List.map_map]
    have e1 : ((filesT t p).filter ((fun f => (c s (pn σ f)).isSome) ∘ pA pa)) = (filesT t p).filter (fun k => (c s k).isSome) := by
      apply List.filter_congr
      intro k hk
      show (c s (pn σ (pA pa k))).isSome = _
      rw [pn_ok hT h60 ((mem_filesT hI).mp hk).1]
    rw [e1]
    apply List.map_congr_left
    intro k hk
    exact (hT.2.2 k ((mem_filesT hI).mp (List.mem_filter.mp hk).1).1).2.2.2.1
theorem desc_ok (hG : ClsG σ X pa aa ea sa z w) (hI : WInv w) {k : Nat} (hk : zIs σ k 5) (hs : s < 2) (hi : i < aN (wA w)) (hP : ∀ τ, toKP σ τ k (keyW (wT w) (wC w s) (wA w) i).1 (keyW (wT w) (wC w s) (wA w) i).2 → P none τ) : wpM 42 [.ref k, .ref (pA aa i), .int (nI s)] σ P := by
  have hC := hG.C
  obtain ⟨hH, hX, hT, hCC, hTp, hA, hW, hK, hLg⟩ := hG
  obtain ⟨g0, g1, g2, g3, g4, g5⟩ := hA.2.2.2 i hi
  obtain ⟨b1, b2, b3, b4, b5, b6, b7, b8⟩ := hI.2.1.2.1 i hi
  have ec : con3 (wC w) z s = wC w s := by funext p; unfold con3; rw [if_neg (by omega)]
  have hAI : AIn σ s (pA aa i) ((aIns (wA w) i).map (pA pa)) ((aOut (wA w) i).map (pA pa)) (stI (aSt (wA w) i)) (fun q => (filesT (wT w) (pn σ q)).map (pA pa)) (fun q => con3 (wC w) z s (pn σ q)) := by
    refine ⟨g0, g1, g2, by rw [List.length_map]; exact b1, by rw [List.length_map]; exact b4, by simp [stI]; exact g3, by simp [stI]; exact b7, fun j hj => g4 j (by simpa [stI] using hj), fun q hq => ?_⟩
    obtain ⟨p, hp, rfl⟩ := List.mem_map.mp hq
    dsimp only
    rw [pn_ok hT hI.1.2.1 (b2 p hp)]
    exact PIn_of hT hI.1 hCC (by omega) (b2 p hp)
  refine describe_ok hC hk hAI (by omega) (fun τ h => hP τ ?_)
  have e1 : headL ((aIns (wA w) i).map (pA pa)) ((aOut (wA w) i).map (pA pa)) (stI (aSt (wA w) i)) = (keyW (wT w) (wC w s) (wA w) i).1 := by
    simp [keyW, headL]
  have e2 : partsL σ ((aIns (wA w) i).map (pA pa)) (fun q => (filesT (wT w) (pn σ q)).map (pA pa)) (fun q => con3 (wC w) z s (pn σ q)) = (keyW (wT w) (wC w s) (wA w) i).2 := by
    unfold partsL keyW
    rw [List.map_map]
    apply List.map_congr_left
    intro p hp
    show partL σ (pA pa p) ((filesT (wT w) (pn σ (pA pa p))).map (pA pa)) _ = partW (wT w) (wC w s) p
    rw [pn_ok hT hI.1.2.1 (b2 p hp), partL_of hT hI.1 (b2 p hp), ec]
  rw [e1, e2] at h
  exact h
/-- the present key, whatever it becomes -/
theorem Cls_key (h : ClsG σ X pa aa ea sa z w) {hd : List Int32} {ps : List (List Int32)} (ht : toKP σ τ (X + 27) hd ps) : ClsG τ X pa aa ea sa z w ∧ NA σ τ ∧ RF σ τ ∧ Fr σ τ no1 (fun x => x = X + 27) no1 no3 := by
  have hF := Fr_KP ht
  have hC := h.C
  have he := fun q (hq : q ∈ ea) => ent_ok h hq
  obtain ⟨hH, hX, hT, hCC, hTp, hA, hW, hK, hLg⟩ := h
  refine ⟨⟨HI_KP ht hH, XOk_fr hX hF, CTree_fr hT hF id (fun _ _ => id) (fun _ _ _ => id), CCon_fr hCC hF hC (fun s p hs hp => id), hF.cnt hC id hTp, CAct_fr hA hF hC id (fun _ _ => ⟨id, id⟩) (fun _ _ _ => ⟨id, id, id⟩), CWas_fr hW hF hC (fun s i hs hi q => ak_X hC (hA.2.2.2 i hi).1 hX hs q), CCac_fr hK hF hC (x_cache hC hX.1) id id (fun _ => id) (fun i hi => ⟨fun k hk => id, fun _ => id, fun q => (en_X hC (he i hi).1 hX).2 q, fun _ => id⟩), hF.log hC id hLg⟩, NA_KP ht, hF.rf (fun _ _ _ q => q.elim), hF⟩
theorem CInv.len {c : Nat → Nat → Con} (h : CInv t c) (hs : s < 2) : ∀ p, p < tN t → ∀ l, c s p = some l → l.length ≤ 64 := fun p hp l hl => ((h s p hs hp).1 l hl).1
theorem key_ok (h : Cls σ X w N M) (hI : WInv w) (hP : ∀ τ, Cls τ X w N M → RF σ τ → P (some (.long (sKey w x y))) τ) : wpM 100 [.ref X, .int x, .int y] σ P := by
  obtain ⟨pa, aa, ea, sa, z, hG, hR⟩ := h
  have hC := hG.C
  have hG' := hG
  obtain ⟨hH, hX, hT, hCC, hTp, hA, hW, hK, hLg⟩ := hG'
  have h31 := hI.2.1.n31
  unfold sKey at hP
  have h00 := hP σ ⟨pa, aa, ea, sa, z, hG, hR⟩ RF.rf
  refine b100.mpr ?_
  rcases ixN_cases x (n := 2) (by omega) with ⟨e, hx⟩ | ⟨s, hs, rfl, e⟩
  · rw [e] at h00
    refine isSpace_ok ?_
    rw [if_neg]
    · exact b100_4.mpr (ifp rfl (b100_18.mpr h00))
    · rintro ⟨q1, q2⟩
      rcases hx with g | g
      · exact absurd q1 (Int32.not_le.mpr g)
      · exact absurd (show x < nI 2 from q2) (Int32.not_lt.mpr g)
  · refine isSpace_ok ?_
    rw [if_pos ⟨nI_le (a := 0) (by omega) (by omega), nI_lt (b := 2) hs (by omega)⟩]
    refine b100_4.mpr (ifn (by decide) ((b100_7 hC).mpr ⟨hX.1, ?_⟩))
    rcases ixN_cases y h31 with ⟨e', hy⟩ | ⟨i, hi, rfl, e'⟩
    · rw [e, e'] at h00
      exact ahas_no hC hX.1 hA h31 hy (b100_15.mpr (ifn (fun q => q rfl) (b100_18.mpr h00)))
    · refine ahas_yes hC hX.1 hA hi (b100_15.mpr (ifp (by decide) ((b100_20 hC).mpr ⟨hX.1, aat_ok hC hX.1 hA hi (b100_32.mpr ⟨x_key hC hX.1, desc_ok hG hI (x_key hC hX.1) hs hi (fun τ ht => ?_)⟩)⟩)))
      obtain ⟨hG1, hN1, hF1, hf1⟩ := Cls_key hG ht
      have hK1 := toKP_kyP ht (x_key hC hX.1)
      refine (b100_36 hG1.C).mpr ⟨hG1.2.1.1, sign_ok hG1.C hK1.1 (b100_43.mpr ?_)⟩
      have := hP τ ⟨pa, aa, ea, sa, z, hG1, Rm_fr hR hf1 hK hN1⟩ hF1
      rw [e, e'] at this
      exact this
theorem chg_ok (hC : CShape σ) {k d : Nat} {now : KeyT} {old : Option KeyT} (h : KyP σ k now.1 now.2) (h' : Ky σ d (wasL old)) (hn : keyOk now) (ho : ∀ u, old = some u → keyOk u) (hP : P (some (.int (chgW now old))) σ) : wpM 51 [.ref k, .ref d] σ P := by
  have hpos : ∀ u, old = some u → (wasL old).length ≠ 0 := by
    intro u e
    subst e
    obtain ⟨⟨ins, outs, st, e1, _⟩, _⟩ := ho u rfl
    have := headL_len ins outs st
    show (flatK u).length ≠ 0
    unfold flatK
    rw [List.length_append, e1]; omega
  refine changeSince_ok hC h h' (fun h0 => ?_) (fun h0 e => ?_) (fun h0 e g => ?_) (fun h0 e g j hj h1 h2 => ?_)
  · cases old with
    | none => exact hP
    | some u => exact absurd h0 (hpos u rfl)
  all_goals
    cases old with
    | none => exact absurd rfl h0
    | some u => ?_
  · rw [chg_0 hn (ho u rfl) e] at hP; exact hP
  · rw [chg_1 e g] at hP; exact hP
  · rw [chg_j hn (ho u rfl) e g hj h1 h2] at hP; exact hP
theorem changed_ok (h : Cls σ X w N M) (hI : WInv w) (hP : ∀ τ, Cls τ X w N M → RF σ τ → P (some (.int (sChanged w x y))) τ) : wpM 99 [.ref X, .int x, .int y] σ P := by
  obtain ⟨pa, aa, ea, sa, z, hG, hR⟩ := h
  have hC := hG.C
  have hG' := hG
  obtain ⟨hH, hX, hT, hCC, hTp, hA, hW, hK, hLg⟩ := hG'
  have h31 := hI.2.1.n31
  unfold sChanged at hP
  have h00 := hP σ ⟨pa, aa, ea, sa, z, hG, hR⟩ RF.rf
  refine b99.mpr ?_
  rcases ixN_cases x (n := 2) (by omega) with ⟨e, hx⟩ | ⟨s, hs, rfl, e⟩
  · rw [e] at h00
    refine isSpace_ok ?_
    rw [if_neg]
    · exact b99_4.mpr (ifp rfl (b99_18.mpr h00))
    · rintro ⟨q1, q2⟩
      rcases hx with g | g
      · exact absurd q1 (Int32.not_le.mpr g)
      · exact absurd (show x < nI 2 from q2) (Int32.not_lt.mpr g)
  · refine isSpace_ok ?_
    rw [if_pos ⟨nI_le (a := 0) (by omega) (by omega), nI_lt (b := 2) hs (by omega)⟩]
    refine b99_4.mpr (ifn (by decide) ((b99_7 hC).mpr ⟨hX.1, ?_⟩))
    rcases ixN_cases y h31 with ⟨e', hy⟩ | ⟨i, hi, rfl, e'⟩
    · rw [e, e'] at h00
      exact ahas_no hC hX.1 hA h31 hy (b99_15.mpr (ifn (fun q => q rfl) (b99_18.mpr h00)))
    · refine ahas_yes hC hX.1 hA hi (b99_15.mpr (ifp (by decide) ((b99_21 hC).mpr ⟨hX.1, aat_ok hC hX.1 hA hi (b99_33.mpr ⟨x_key hC hX.1, desc_ok hG hI (x_key hC hX.1) hs hi (fun τ ht => ?_)⟩)⟩)))
      obtain ⟨hG1, hN1, hF1, hf1⟩ := Cls_key hG ht
      have hK1 := toKP_kyP ht (x_key hC hX.1)
      have hC1 := hG1.C
      obtain ⟨hH1, hX1, hT1, hCC1, hTp1, hA1, hW1, hKK1, hLg1⟩ := hG1
      refine (b99_37 hC1).mpr ⟨hX1.1, aat_ok hC1 hX1.1 hA1 hi ((b99_49 hC1).mpr ⟨(hA1.2.2.2 i hi).1, nI_in hs (by omega), x_key hC1 hX1.1, ?_⟩)⟩
      rw [nI_clamp (by omega), show pA aa i + 5 + 1 + 3 * s = pA aa i + 6 + 3 * s by omega]
      refine chg_ok hC1 hK1 (hW1 s i hs hi) (keyW_ok hI.1 hI.2.1 hi (hI.2.2.1.len hs)) (fun u hu => hI.2.2.2.2.1 s i u hs hi hu) (b99_57.mpr ?_)
      have := hP τ ⟨pa, aa, ea, sa, z, ⟨hH1, hX1, hT1, hCC1, hTp1, hA1, hW1, hKK1, hLg1⟩, Rm_fr hR hf1 hK hN1⟩ hF1
      rw [e, e'] at this
      exact this
end CK
