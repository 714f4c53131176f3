/-! THE CLASS'S FILES: what is asked -/
section IX
variable {n i : Nat} {x : Int32}
theorem ixN_some (h : i < n) (hn : n < 2 ^ 31) : ixN n (nI i) = some i := by
  unfold ixN
  rw [nI_clamp (by omega), if_pos ⟨nI_le (a := 0) (by omega) (by omega), h⟩]
theorem ixN_cases (x : Int32) (hn : n < 2 ^ 31) : (ixN n x = none ∧ (x < 0 ∨ nI n ≤ x)) ∨ ∃ i, i < n ∧ x = nI i ∧ ixN n x = some i := by
  rcases pk_ix x hn with h | h | ⟨i, hi, rfl⟩
  · left
    refine ⟨?_, Or.inl h⟩
    unfold ixN
    rw [if_neg]
    rintro ⟨g, _⟩
    exact absurd g (Int32.not_le.mpr h)
  · left
    refine ⟨?_, Or.inr h⟩
    unfold ixN
    rw [if_neg]
    rintro ⟨g, g'⟩
    have e : x = nI x.toNatClampNeg := by
      apply Int32.toInt_inj.mp
      have h0 : (0 : Int32).toInt ≤ x.toInt := Int32.le_iff_toInt_le.mp g
      have e0 : (0 : Int32).toInt = 0 := rfl
      rw [nI_toInt (by have := x.toInt_lt; unfold Int32.toNatClampNeg; omega)]
      unfold Int32.toNatClampNeg
      omega
    rw [e] at h
    exact nI_ge g' (by omega) h
  · right
    exact ⟨i, hi, rfl, ixN_some hi hn⟩
theorem ixN_lt {j : Nat} (h : ixN n x = some j) : j < n := by
  unfold ixN at h
  split at h
  · rename_i g; cases h; exact g.2
  · cases h
end IX
theorem optI_eq {a b : Option Nat} (ha : ∀ k, a = some k → k < 2 ^ 31) (hb : ∀ k, b = some k → k < 2 ^ 31) : optI a = optI b ↔ a = b := by
  cases a with
  | none => cases b with
    | none => simp
    | some k => exact ⟨fun q => absurd q.symm (nI_m1 (hb k rfl)), fun q => by cases q⟩
  | some j => cases b with
    | none => exact ⟨fun q => absurd q (nI_m1 (ha j rfl)), fun q => by cases q⟩
    | some k =>
      refine ⟨fun q => ?_, fun q => by rw [q]⟩
      rw [(nI_eq (ha j rfl) (hb k rfl)).mp q]
theorem optI_m1 {a : Option Nat} (ha : ∀ k, a = some k → k < 2 ^ 31) : optI a = -1 ↔ a = none := optI_eq (b := none) ha (fun k q => by cases q)
theorem b2I_0 {b : Bool} : b2I b = 0 ↔ b = false := by cases b <;> decide
theorem lenI_cnt {σ : zSt} {c : Nat} {v : Con} (h : Cnt σ c v) : zfi σ 2 1 c = lenI v := by
  cases v with
  | none => exact h.2
  | some l => exact h.2.1
section CF
variable {σ τ : zSt} {P : Option Value → zSt → Prop} {X : Nat} {pa aa ea sa : List Nat} {z : Nat → Con} {w : WT} {t : TreT} {x y n : Int32} {p s : Nat}
theorem TInv.n31 (h : TInv t) : tN t < 2 ^ 31 := by have := h.2.1; omega
theorem TInv.mk31 {a : ActT} (h : TInv t) (h' : AInv t a) {p : Nat} (hp : p < tN t) : ∀ k, tMk t p = some k → k < 2 ^ 31 := by
  intro k hk
  have := (h'.2.2.1 p k hp hk).1
  have := h'.1
  omega
theorem tsize_ok (hC : CShape σ) (hX : zIs σ X 11) (h : CTree σ X pa t) (hP : P (some (.int (nI (tN t)))) σ) : wpM 75 [.ref (X + 1)] σ P :=
  (b75 hC).mpr ⟨x_tree hC hX, size_ok h.1 (b75_7.mpr (by rw [h.2.1]; exact hP))⟩
theorem thas_no (hC : CShape σ) (hX : zIs σ X 11) (h : CTree σ X pa t) (hx : x < 0 ∨ nI (tN t) ≤ x) (hP : P (some (.int 0)) σ) : wpM 76 [.ref (X + 1), .int x] σ P := by
  by_cases hn : x < 0
  · exact b76.mpr (ifp hn (b76_19.mpr (b76_20.mpr ⟨Or.inl rfl, hP⟩)))
  · have h2 : nI (tN t) ≤ x := by rcases hx with g | g; exact absurd g hn; exact g
    exact b76.mpr (ifn hn ((b76_4 hC).mpr ⟨x_tree hC hX, size_ok h.1 (b76_12.mpr (ifp (by rw [h.2.1]; exact h2) (b76_19.mpr (b76_20.mpr ⟨Or.inl rfl, hP⟩))))⟩))
theorem thas_yes (hC : CShape σ) (hX : zIs σ X 11) (h : CTree σ X pa t) (h60 : tN t < 2 ^ 31) (hp : p < tN t) (hP : P (some (.int 1)) σ) : wpM 76 [.ref (X + 1), .int (nI p)] σ P :=
  b76.mpr (ifn (nI_pos (by omega)) ((b76_4 hC).mpr ⟨x_tree hC hX, size_ok h.1 (b76_12.mpr (ifn (by rw [h.2.1]; exact nI_ge hp h60) (b76_15.mpr (b76_20.mpr ⟨Or.inr rfl, hP⟩))))⟩))
theorem tat_ok (hC : CShape σ) (hX : zIs σ X 11) (h : CTree σ X pa t) (hp : p < tN t) (hP : P (some (.ref (pA pa p))) σ) : wpM 77 [.ref (X + 1), .int (nI p)] σ P := by
  have hp' : p < pa.length := by rw [h.2.1]; exact hp
  refine (b77 hC).mpr ⟨x_tree hC hX, get_ok h.1 hp' (b77_8.mpr ?_)⟩
  rw [pA_elem hp']
  exact ⟨(h.2.2 p hp).1, hP⟩
theorem of_ok (hG : ClsG σ X pa aa ea sa z w) (hI : WInv w) (hP : P (some (.int (sOf w x n))) σ) : wpM 83 [.ref X, .int x, .int n] σ P := by
  obtain ⟨⟨hC, hF, hL, hE, h0⟩, hX, hT, hCC, hTp, hA, hW, hK, hLg⟩ := hG
  have h31 := hI.1.n31
  unfold sOf at hP
  refine (b83 hC).mpr ⟨hX.1, ?_⟩
  rcases ixN_cases x h31 with ⟨e, hx⟩ | ⟨p, hp, rfl, e⟩
  · rw [e] at hP
    exact thas_no hC hX.1 hT hx (b83_8.mpr (ifn (fun q => q rfl) (b83_11.mpr hP)))
  · rw [e] at hP
    dsimp only at hP
    obtain ⟨g0, g1, g2, g3, g4, g5, g6⟩ := hT.2.2 p hp
    refine thas_yes hC hX.1 hT h31 hp (b83_8.mpr (ifp (by decide) ((b83_14 hC).mpr ⟨hX.1, tat_ok hC hX.1 hT hp (b83_22.mpr ?_)⟩)))
    by_cases c0 : n = 0
    · rw [if_pos c0] at hP ⊢
      exact b83_56.mpr ⟨g0, by rw [g2]; exact hP⟩
    rw [if_neg c0] at hP ⊢
    by_cases c1 : n = 1
    · rw [if_pos c1] at hP ⊢
      exact b83_61.mpr ⟨g0, by rw [g3]; exact hP⟩
    rw [if_neg c1] at hP ⊢
    by_cases c2 : n = 2
    · rw [if_pos c2] at hP ⊢
      refine b83_66.mpr ⟨g0, ?_⟩
      rw [g4]
      cases hd : tDir (wT w) p with
      | false =>
        rw [hd, if_neg (by decide)] at hP
        exact ifp rfl (b83_77.mpr (b83_78.mpr hP))
      | true =>
        rw [hd, if_pos rfl] at hP
        exact ifn (by decide) (b83_73.mpr (b83_78.mpr hP))
    rw [if_neg c2] at hP ⊢
    by_cases c3 : n = 3
    · rw [if_pos c3] at hP ⊢
      exact b83_79.mpr ⟨g0, by rw [g5]; exact hP⟩
    rw [if_neg c3] at hP ⊢
    exact b83_84.mpr hP
/-- what is refused where a file is asked for -/
theorem refF_ok (hG : ClsG σ X pa aa ea sa z w) (hI : WInv w) (h0 : fileW w x y = none → P (some (.int (-2))) σ) (h1 : ∀ s p, fileW w x y = some (s, p) → x = nI s → y = nI p → s < 2 → p < tN (wT w) → P (some (.int (if tDir (wT w) p = true then -3 else 0))) σ) : wpM 109 [.ref X, .int x, .int y] σ P := by
  obtain ⟨⟨hC, hF, hL, hE, h00⟩, hX, hT, hCC, hTp, hA, hW, hK, hLg⟩ := hG
  have h31 := hI.1.n31
  refine b109.mpr ?_
  rcases ixN_cases x (n := 2) (by omega) with ⟨e, hx⟩ | ⟨s, hs, rfl, e⟩
  · refine isSpace_ok ?_
    rw [if_neg]
    · refine b109_4.mpr (ifp rfl (b109_18.mpr (h0 ?_)))
      unfold fileW; rw [e]
    · rintro ⟨q1, q2⟩
      rcases hx with g | g
      · exact absurd q1 (Int32.not_le.mpr g)
      · exact absurd (show x < nI 2 from q2) (Int32.not_lt.mpr g)
  · refine isSpace_ok ?_
    rw [if_pos ⟨nI_le (a := 0) (by omega) (by omega), nI_lt (b := 2) hs (by omega)⟩]
    refine b109_4.mpr (ifn (by decide) ((b109_7 hC).mpr ⟨hX.1, ?_⟩))
    rcases ixN_cases y h31 with ⟨e', hy⟩ | ⟨p, hp, rfl, e'⟩
    · refine thas_no hC hX.1 hT hy (b109_15.mpr (ifn (fun q => q rfl) (b109_18.mpr (h0 ?_))))
      unfold fileW; rw [e, e']
    · refine thas_yes hC hX.1 hT h31 hp (b109_15.mpr (ifp (by decide) ((b109_21 hC).mpr ⟨hX.1, tat_ok hC hX.1 hT hp (b109_29.mpr ?_)⟩)))
      obtain ⟨g0, g1, g2, g3, g4, g5, g6⟩ := hT.2.2 p hp
      refine ⟨g0, ?_⟩
      have := h1 s p (by unfold fileW; rw [e, e']) rfl rfl hs hp
      rw [g4]
      cases hd : tDir (wT w) p with
      | false =>
        rw [hd, if_neg (by decide)] at this
        exact ifp rfl (b109_40.mpr (b109_41.mpr this))
      | true =>
        rw [hd, if_pos rfl] at this
        exact ifn (by decide) (b109_35.mpr (b109_41.mpr this))
theorem refS_ok (hG : ClsG σ X pa aa ea sa z w) (hI : WInv w) (h0 : fileW w x y = none → P (some (.int (-2))) σ) (h1 : ∀ s p, fileW w x y = some (s, p) → x = nI s → y = nI p → s < 2 → p < tN (wT w) → P (some (.int (if srcW w p = true then 0 else -3))) σ) : wpM 110 [.ref X, .int x, .int y] σ P := by
  have hG' := hG
  obtain ⟨⟨hC, hF, hL, hE, h00⟩, hX, hT, hCC, hTp, hA, hW, hK, hLg⟩ := hG'
  refine b110.mpr ⟨hX.1, refF_ok hG hI (fun e => b110_6.mpr (ifn (by decide) (b110_11.mpr (h0 e)))) (fun s p e ex ey hs hp => b110_6.mpr ?_)⟩
  have := h1 s p e ex ey hs hp
  subst ex ey
  cases hd : tDir (wT w) p with
  | true =>
    rw [if_pos rfl]
    unfold srcW at this
    rw [hd, if_neg (by simp)] at this
    exact ifn (by decide) (b110_11.mpr this)
  | false =>
    rw [show (if false = true then (-3 : Int32) else 0) = 0 from rfl]
    refine ifp rfl ((b110_13 hC).mpr ⟨hX.1, tat_ok hC hX.1 hT hp (b110_21.mpr ?_)⟩)
    obtain ⟨g0, g1, g2, g3, g4, g5, g6⟩ := hT.2.2 p hp
    refine ⟨g0, ?_⟩
    rw [g5]
    unfold srcW at this
    rw [hd] at this
    by_cases hm : tMk (wT w) p = none
    · rw [if_pos (by simp [hm])] at this
      exact ifp (by rw [hm]; rfl) (b110_33.mpr (b110_34.mpr this))
    · rw [if_neg (by simp [hm])] at this
      exact ifn (fun q => hm ((optI_m1 (hI.1.mk31 hI.2.1 hp)).mp q)) (b110_28.mpr (b110_34.mpr this))
theorem length_ok (hG : ClsG σ X pa aa ea sa z w) (hI : WInv w) (hP : P (some (.int (sLength w x y))) σ) : wpM 88 [.ref X, .int x, .int y] σ P := by
  have hG' := hG
  obtain ⟨⟨hC, hF, hL, hE, h00⟩, hX, hT, hCC, hTp, hA, hW, hK, hLg⟩ := hG'
  unfold sLength at hP
  refine b88.mpr ⟨hX.1, refF_ok hG hI (fun e => b88_6.mpr (ifn (by decide) (b88_11.mpr ?_))) (fun s p e ex ey hs hp => b88_6.mpr ?_)⟩
  · rw [e] at hP; exact hP
  · rw [e] at hP
    dsimp only at hP
    subst ex ey
    by_cases hd : tDir (wT w) p = true
    · rw [if_pos hd] at hP ⊢
      exact ifn (by decide) (b88_11.mpr hP)
    · rw [if_neg hd] at hP ⊢
      refine ifp rfl ((b88_13 hC).mpr ⟨hX.1, tat_ok hC hX.1 hT hp ((b88_21 hC).mpr ⟨(hT.2.2 p hp).1, nI_in (by omega) (by omega), ?_⟩)⟩)
      have := hCC s p (by omega) hp
      rw [nI_clamp (by omega), show pA pa p + 1 + 2 + 2 * s = pA pa p + 3 + 2 * s by omega, lenI_cnt this]
      unfold con3; rw [if_neg (by omega)]; exact hP
theorem byteAt_ok (hG : ClsG σ X pa aa ea sa z w) (hI : WInv w) (hP : P (some (.int (sByteAt w x y n))) σ) : wpM 89 [.ref X, .int x, .int y, .int n] σ P := by
  have hG' := hG
  obtain ⟨⟨hC, hF, hL, hE, h00⟩, hX, hT, hCC, hTp, hA, hW, hK, hLg⟩ := hG'
  unfold sByteAt at hP
  refine b89.mpr ⟨hX.1, refF_ok hG hI (fun e => b89_6.mpr (ifn (by decide) (b89_13.mpr ?_))) (fun s p e ex ey hs hp => b89_6.mpr ?_)⟩
  · rw [e] at hP; exact hP
  · rw [e] at hP
    dsimp only at hP
    subst ex ey
    by_cases hd : tDir (wT w) p = true
    · rw [if_pos hd] at hP ⊢
      exact ifn (by decide) (b89_13.mpr hP)
    · rw [if_neg hd] at hP ⊢
      have hc := hCC s p (by omega) hp
      unfold con3 at hc
      rw [if_neg (by omega)] at hc
      refine ifp rfl ((b89_16 hC).mpr ⟨hX.1, tat_ok hC hX.1 hT hp ((b89_24 hC).mpr ⟨(hT.2.2 p hp).1, nI_in (by omega) (by omega), ?_⟩)⟩)
      rw [nI_clamp (by omega), show pA pa p + 1 + 2 + 2 * s = pA pa p + 3 + 2 * s by omega]
      cases hv : wC w s p with
      | none =>
        rw [hv] at hP hc
        by_cases hn : n < 0
        · exact ifp hn (b89_44.mpr hP)
        · refine ifn hn (b89_35.mpr ⟨hc.1, ifn ?_ (b89_44.mpr hP)⟩)
          have e2 : zfi σ 2 1 (pA pa p + 3 + 2 * s) = -1 := hc.2
          rw [e2]
          intro q
          exact hn (Int32.lt_trans q (by decide))
      | some l =>
        rw [hv] at hP hc
        dsimp only at hP
        obtain ⟨hz, hl, h64, ha⟩ := hc
        rcases ixN_cases n (n := l.length) (by omega) with ⟨e', hx⟩ | ⟨i, hi, rfl, e'⟩
        · rw [e'] at hP
          dsimp only at hP
          by_cases hn : n < 0
          · exact ifp hn (b89_44.mpr hP)
          · refine ifn hn (b89_35.mpr ⟨hz, ifn ?_ (b89_44.mpr hP)⟩)
            rw [hl, Int32.not_lt]
            rcases hx with g | g
            · exact absurd g hn
            · exact g
        · rw [e'] at hP
          dsimp only at hP
          refine ifn (nI_pos (by omega)) (b89_35.mpr ⟨hz, ifp (by rw [hl]; exact nI_lt hi (by omega)) ((b89_47 hC).mpr ⟨hz, nI_in (by omega) (by omega), ?_⟩)⟩)
          rw [nI_clamp (by omega)]
          rw [List.getD_eq_getElem?_getD, ha i hi] at hP
          exact hP
end CF
