/-! THE CLASS BUILDS -/
section BD
variable {σ τ υ : zSt} {P : Option Value → zSt → Prop} {X N M i s k n : Nat} {pa aa ea sa : List Nat} {z : Nat → Con} {w : WT} {t : TreT} {a : ActT} {x y : Int32} {op : Nat → Bool} {b : BldT}
theorem mb_ge {x : Int64} {b : Nat} (h : 64 ≤ b) : mb x b = false := by
  unfold mb; exact BitVec.getLsbD_of_ge _ _ h
theorem mb_clr {m : Int64} {k b : Nat} (hk : k < 40) : mb (m &&& (bitK k ^^^ (-1))) b = (mb m b && !decide (b = k)) := by
  by_cases hb : b < 64
  · rw [mb_and]
    have e : mb (bitK k ^^^ (-1)) b = !decide (b = k) := by
      have h1 : mb (bitK k ^^^ (-1)) b = (mb (bitK k) b ^^ mb (-1) b) := by
        unfold mb; rw [Int64.toBitVec_xor, BitVec.getLsbD_xor]
      have h2 : mb (-1) b = true := by
        have : ∀ b, b < 64 → mb (-1) b = true := by decide
        exact this b hb
      rw [h1, h2, mb_bit hk, Bool.xor_true]
    rw [e]
  · rw [mb_ge (by omega), mb_ge (by omega)]; rfl
def condW (t : TreT) (a : ActT) (op : Nat → Bool) (i : Nat) : Prop := op i = true ∧ ∀ j, j < aN a → op j = true → usesT t a i j = false
theorem cond_iff : (op i && (List.range (aN a)).all fun j => !(op j && usesT t a i j)) = true ↔ condW t a op i := by
  unfold condW
  rw [Bool.and_eq_true, List.all_eq_true]
  constructor
  · rintro ⟨h1, h2⟩
    refine ⟨h1, fun j hj hop => ?_⟩
    have := h2 j (List.mem_range.mpr hj)
    rw [hop] at this
    simpa using this
  · rintro ⟨h1, h2⟩
    refine ⟨h1, fun j hj => ?_⟩
    rw [List.mem_range] at hj
    cases hop : op j with
    | false => rfl
    | true => rw [h2 j hj hop]; rfl
theorem next_some (hi : i < aN a) (h : condW t a op i) (hl : ∀ j, j < i → ¬ condW t a op j) : nextW t a op = some i := by
  unfold nextW
  rw [List.find?_range_eq_some]
  exact ⟨cond_iff.mpr h, List.mem_range.mpr hi, fun j hj => by
    have := hl j hj
    rw [← cond_iff] at this
    rw [Bool.eq_false_iff.mpr this]; rfl⟩
theorem next_none (hl : ∀ j, j < aN a → ¬ condW t a op j) : nextW t a op = none := by
  unfold nextW
  rw [List.find?_eq_none]
  intro j hj
  rw [List.mem_range] at hj
  rw [cond_iff]; exact hl j hj
theorem next_lt (h : nextW t a op = some i) : i < aN a ∧ condW t a op i := by
  unfold nextW at h
  have h1 := List.find?_some h
  have h2 := List.mem_of_find?_eq_some h
  exact ⟨List.mem_range.mp h2, cond_iff.mp h1⟩
theorem mask_next (hC : CShape σ) (hX : zIs σ X 11) (hA : CAct σ X pa aa t a) (h40 : aN a ≤ 40) {m : Int64} (hm : ∀ k, mb m k = true ↔ k < aN a ∧ op k = true) (hP : P (some (.int (optI (nextW t a op)))) σ) : wpM 40 [.ref (X + 13), .long m] σ P := by
  have key : ∀ j, j < aN a → mb m j = true → (∃ b, mb (zfl σ 0 6 (pA aa j)) b = true ∧ mb m b = true) → ¬ condW t a op j := by
    rintro j hj hmj ⟨b, h1, h2⟩ hc
    obtain ⟨u1, u2⟩ := (usesT_bit (hA.2.2.2 j hj)).mp h1
    have := hc.2 b u1 ((hm b).mp h2).2
    rw [u2] at this; cases this
  refine leastReady_ok hC (x_graph hC hX) hA.1 (by rw [hA.2.1]; exact h40) (act_is hA) (fun i hi h1 h2 h3 => ?_) (fun h3 => ?_)
  · have hi' : i < aN a := by rw [← hA.2.1]; exact hi
    rw [pA_elem hi] at h2
    rw [next_some (i := i) hi' ⟨((hm i).mp h1).2, fun j hj hop => ?_⟩ (fun j hj hc => ?_)] at hP
    · exact hP
    · cases hu : usesT t a i j with
      | false => rfl
      | true =>
        have := h2 j ((usesT_bit (hA.2.2.2 i hi')).mpr ⟨hj, hu⟩)
        rw [(hm j).mpr ⟨hj, hop⟩] at this; cases this
    · have hjm := (hm j).mpr ⟨by omega, hc.1⟩
      have hja : j < aa.length := by omega
      have := h3 j hj hjm
      rw [pA_elem hja] at this
      exact key j (by omega) hjm this hc
  · rw [next_none (fun j hj hc => ?_)] at hP
    · exact hP
    · have hjm := (hm j).mpr ⟨hj, hc.1⟩
      have hja : j < aa.length := by rw [hA.2.1]; exact hj
      have := h3 j hja hjm
      rw [pA_elem hja] at this
      exact key j hj hjm this hc
theorem bld_loop (hI0 : TInv (wT w)) (hs : s < 2) {x2 x5 : Int32} : ∀ n b m op τ u7, n ≤ 40 → Cls τ X (withB w b) N M → WInv (withB w b) → b.2.2.2.1.length = 40 - n → (∀ k, mb m k = true ↔ k < aN (wA w) ∧ op k = true) → RF σ τ → (∀ τ m' t' u7', Cls τ X (withB w (bldW (wT w) (wA w) s n b op)) N M → RF σ τ → wp 97 136 [some (.ref X), some (.int (nI s)), some (.int x2), some (.long m'), none, some (.int x5), some (.int t'), u7'] [] τ P) → wp 97 79 [some (.ref X), some (.int (nI s)), some (.int x2), some (.long m), none, some (.int x5), some (.int (nI (40 - n))), u7] [] τ P := by
  intro n
  induction n with
  | zero =>
    intro b m op τ u7 _ h hI hl hm hF hfin
    exact b97_79.mpr (ifp (show nI 40 ≤ nI 40 by decide) (hfin τ _ _ _ h hF))
  | succ n ih =>
    intro b m op τ u7 hn h hI hl hm hF hfin
    refine b97_79.mpr (ifn (show ¬ nI 40 ≤ nI (40 - (n + 1)) from nI_ge (by omega) (by omega)) (b97_86.mpr ?_))
    have h40 := hI.2.1.1
    have h40 : aN (wA w) ≤ 40 := h40
    by_cases hm0 : m = 0
    · refine ifp (lcmp0.mpr hm0) (hfin τ _ _ _ ?_ hF)
      have : nextW (wT w) (wA w) op = none := next_none (fun j hj hc => by
        have := (hm j).mpr ⟨hj, hc.1⟩
        rw [hm0, mb_0] at this; cases this)
      show Cls τ X (withB w (match nextW (wT w) (wA w) op with
        | none => b
        | some i => bldW (wT w) (wA w) s n (doW (wT w) (wA w) s i b) (fup op i false))) N M
      rw [this]; exact h
    · refine ifn (fun q => hm0 (lcmp0.mp q)) ?_
      obtain ⟨pa, aa, ea, sa, z, hG, hR⟩ := id h
      have hC := hG.C
      refine (b97_92 hC).mpr ⟨hG.2.1.1, mask_next (t := wT w) (a := wA w) (op := op) hC hG.2.1.1 hG.2.2.2.2.2.1 h40 hm (b97_100.mpr ?_)⟩
      cases hnx : nextW (wT w) (wA w) op with
      | none =>
        refine ifn (fun q => q rfl) (b97_108.mpr (hfin τ _ _ _ ?_ hF))
        show Cls τ X (withB w (match nextW (wT w) (wA w) op with
          | none => b
          | some i => bldW (wT w) (wA w) s n (doW (wT w) (wA w) s i b) (fup op i false))) N M
        rw [hnx]; exact h
      | some i =>
        obtain ⟨hi, hc⟩ := next_lt hnx
        have hlog : (wL (withB w b)).1.length < 40 := by
          show b.2.2.2.1.length < 40
          omega
        refine ifp (nI_m1 (by omega)) (b97_111.mpr ⟨hG.2.1.1, carry_ok h hI hs hi hlog (fun τ2 h2 hF2 => b97_118.mpr (bit_ok (by omega) (b97_124.mpr ?_)))⟩)
        have hdi := doW_inv hI hs hi hlog
        rw [nI_1, show 40 - (n + 1) + 1 = 40 - n by omega]
        refine ih (doW (wT w) (wA w) s i b) _ (fup op i false) τ2 _ (by omega) h2 hdi.1 ?_ (fun k => ?_) (hF.tr hF2) (fun τ3 m' t' u7' h3 hF3 => hfin τ3 m' t' u7' ?_ hF3)
        · have := hdi.2
          have e : (wL (withB w b)).1.length = 40 - (n + 1) := hl
          rw [e] at this
          have e2 : (doW (wT w) (wA w) s i b).2.2.2.1.length = 40 - (n + 1) + 1 := this
          rw [e2]; omega
        · rw [mb_clr (by omega), Bool.and_eq_true, hm k]
          unfold fup
          by_cases e : k = i
          · subst e; simp
          · simp [e]
        · show Cls τ3 X (withB w (match nextW (wT w) (wA w) op with
            | none => b
            | some i => bldW (wT w) (wA w) s n (doW (wT w) (wA w) s i b) (fup op i false))) N M
          rw [hnx]; exact h3
theorem build_ok (h : Cls σ X w N M) (hI : WInv w) (hP : ∀ τ, Cls τ X (sBuild w x y).1 N M → RF σ τ → P (some (.int (sBuild w x y).2)) τ) : wpM 97 [.ref X, .int x, .int y] σ P := by
  obtain ⟨pa, aa, ea, sa, z, hG, hR⟩ := id h
  have hC := hG.C
  have hX := hG.2.1
  have hT := hG.2.2.1
  have hA := hG.2.2.2.2.2.1
  have h31 := hI.1.n31
  have h40 := hI.2.1.1
  have bad : sBuild w x y = (w, -2) → P (some (.int (-2))) σ := by
    intro e
    have := hP σ
    rw [e] at this
    exact this h RF.rf
  refine b97.mpr ?_
  rcases ixN_cases x (n := 2) (by omega) with ⟨e, hx⟩ | ⟨s, hs, rfl, e⟩
  · refine isSpace_ok ?_
    rw [if_neg]
    · exact b97_4.mpr (ifp rfl (b97_23.mpr (bad (by unfold sBuild; rw [e]))))
    · rintro ⟨q1, q2⟩
      rcases hx with g | g
      · exact absurd q1 (Int32.not_le.mpr g)
      · exact absurd (show x < nI 2 from q2) (Int32.not_lt.mpr g)
  refine isSpace_ok ?_
  rw [if_pos ⟨nI_le (a := 0) (by omega) (by omega), nI_lt (b := 2) hs (by omega)⟩]
  have go : ∀ (o : Option Nat) (v : Int64), ixN (tN (wT w)) y = o → ¬ (y ≠ -1 ∧ ixN (tN (wT w)) y = none) → (∀ k, mb v k = true ↔ k < aN (wA w) ∧ needW (wT w) (wA w) o k = true) → ∀ u3 u4 u5 u6 u7, wp 97 59 [some (.ref X), some (.int (nI s)), some (.int y), u3, u4, u5, u6, u7] [.long v] σ P := by
    intro o v ho hno hv u3 u4 u5 u6 u7
    have eS : sBuild w (nI s) y = ((withB w (bldOf w s o)), (bldOf w s o).2.2.2.2.1 - (wL w).2.1) := by
      unfold sBuild
      rw [e]
      dsimp only
      rw [if_neg hno, ho]; rfl
    rw [eS] at hP
    refine (b97_59 hC).mpr ⟨hX.1, logBegin_ok (g := X + 21) hG.2.2.2.2.2.2.2.2 (fun τ ht => b97_76.mpr ?_)⟩
    obtain ⟨hG1, hN1, hF1, hf1⟩ := ClsU_log (L' := ([], (wL w).2.1, (wL w).2.2.1, (wL w).2.2.2 + 1)) hG ht
    have hK := hG.2.2.2.2.2.2.2.1
    have eran : zfi σ 6 2 (X + 21) = (wL w).2.1 := hG.2.2.2.2.2.2.2.2.2.2.2.1
    rw [eran]
    have hI1 : WInv (withB w (wC w, wW w, wK w, ([], (wL w).2.1, (wL w).2.2.1, (wL w).2.2.2 + 1))) := ⟨hI.1, hI.2.1, hI.2.2.1, hI.2.2.2.1, hI.2.2.2.2.1, hI.2.2.2.2.2.1, Nat.zero_le _⟩
    refine bld_loop (w := w) (σ := σ) (N := N) (M := M) hI.1 hs 40 (wC w, wW w, wK w, ([], (wL w).2.1, (wL w).2.2.1, (wL w).2.2.2 + 1)) v (needW (wT w) (wA w) o) τ _ (Nat.le_refl _) ⟨pa, aa, ea, sa, z, hG1, Rm_na hR (hf1.cap id hK.1) (hf1.cap id hK.2.1) hN1⟩ hI1 rfl hv hF1 (fun τ2 m' t' u7' h2 hF2 => ?_)
    obtain ⟨pa2, aa2, ea2, sa2, z2, hG2, hR2⟩ := id h2
    refine (b97_136 hG2.C).mpr ⟨hG2.2.1.1, ?_⟩
    have eran2 : zfi τ2 6 2 (X + 21) = (bldOf w s o).2.2.2.2.1 := hG2.2.2.2.2.2.2.2.2.2.2.2.1
    rw [eran2]
    exact hP τ2 h2 hF2
  refine b97_4.mpr (ifn (by decide) (b97_7.mpr ?_))
  by_cases hy : y = -1
  · have hix : ixN (tN (wT w)) y = none := by
      rw [hy]
      rcases ixN_cases (-1) h31 with ⟨q, _⟩ | ⟨p, hp, q, _⟩
      · exact q
      · exact absurd q.symm (nI_m1 (by omega))
    refine ifp hy (b97_26.mpr (ifn (fun q => q hy) ((b97_31 hC).mpr ⟨hX.1, gall_ok hC (x_graph hC hX.1) hA.1 (by rw [hA.2.1]; exact h40) (fun v hv => b97_38.mpr (go none v hix (fun q => q.1 hy) (fun k => ?_) _ _ _ _ _))⟩)))
    rw [hv k, hA.2.1]
    unfold needW
    simp
  · refine ifn hy ((b97_12 hC).mpr ⟨hX.1, ?_⟩)
    rcases ixN_cases y h31 with ⟨e', hy'⟩ | ⟨p, hp, rfl, e'⟩
    · exact thas_no hC hX.1 hT hy' (b97_20.mpr (ifn (fun q => q rfl) (b97_23.mpr (bad (by unfold sBuild; rw [e]; dsimp only; rw [if_pos ⟨hy, e'⟩])))))
    · refine thas_yes hC hX.1 hT h31 hp (b97_20.mpr (ifp (by decide) (b97_26.mpr (ifp hy ((b97_41 hC).mpr ⟨hX.1, tat_ok hC hX.1 hT hp (b97_53.mpr ⟨(hT.2.2 p hp).1, mk_ok hC hT hI.1 hI.2.1 hp (fun v hv => b97_56.mpr ⟨x_graph hC hX.1, wau_ok hC hX.1 hA h40 (fun b hb => mkr_lt hI.2.1 ((hv b).mp hb)) (fun v' hv' => go (some p) v' e' (fun q => (by rw [e'] at q; cases q.2)) (fun k => ?_) _ _ _ _ _)⟩)⟩)⟩)))))
      rw [hv' k, hv k]
      unfold needW
      rw [Bool.and_eq_true, decide_eq_true_iff]
      dsimp only
      rw [pB_iff]
      unfold needP
      constructor
      · rintro (q | ⟨l, q1, q2⟩)
        · exact ⟨mkr_lt hI.2.1 q, mkr_lt hI.2.1 q, Or.inl q⟩
        · exact ⟨rch_lt q2, rch_lt q2, Or.inr ⟨l, (hv l).mp q1, q2⟩⟩
      · rintro ⟨_, _, q | ⟨l, q1, q2⟩⟩
        · exact Or.inl q
        · exact Or.inr ⟨l, (hv l).mpr q1, q2⟩
end BD
