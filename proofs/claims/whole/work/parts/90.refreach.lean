/-! THE REFERENCE: what an action comes to */ -/
def cntF : Nat → (Nat → Bool) → Nat
  | 0, _ => 0
  | n + 1, R => cntF n R + (if R n = true then 0 else 1)
theorem cntF_le {R R' : Nat → Bool} : ∀ n, (∀ x, x < n → R x = true → R' x = true) → cntF n R' ≤ cntF n R
  | 0, _ => Nat.le_refl _
  | n + 1, h => by
    have := cntF_le n (fun x hx => h x (by omega))
    show cntF n R' + (if R' n = true then 0 else 1) ≤ cntF n R + (if R n = true then 0 else 1)
    by_cases c : R n = true
    · rw [if_pos c, if_pos (h n (by omega) c)]; omega
    · rw [if_neg c]; split <;> omega
theorem cntF_lt {R R' : Nat → Bool} {c : Nat} : ∀ n, c < n → R c = false → R' c = true → (∀ x, x < n → R x = true → R' x = true) → cntF n R' < cntF n R
  | 0, h, _, _, _ => absurd h (Nat.not_lt_zero c)
  | n + 1, h, h1, h2, h3 => by
    show cntF n R' + (if R' n = true then 0 else 1) < cntF n R + (if R n = true then 0 else 1)
    by_cases q : c = n
    · subst q
      have := cntF_le (R := R) (R' := R') c (fun x hx => h3 x (by omega))
      rw [if_pos h2, if_neg (by rw [h1]; decide)]; omega
    · have := cntF_lt n (by omega) h1 h2 (fun x hx => h3 x (by omega))
      by_cases d : R n = true
      · rw [if_pos d, if_pos (h3 n (by omega) d)]; omega
      · rw [if_neg d]; split <;> omega
def RgR (ar : ArT) (n : Nat) (R : Nat → Bool) : Prop := ∀ b, b < n → ar 61 b = b2I (R b)
def JR (T : TreT) (A : ActT) (a : Nat) (R0 R : Nat → Bool) (m : Int32) (b c : Nat) : Prop := (∀ x, R0 x = true → R x = true) ∧ (∀ x, x < aN A → R x = true → rch T A a x) ∧ ((m = 0 ∧ (∀ x, R x = R0 x) ∧ ∀ b' c', b' < aN A → c' < aN A → (b' < b ∨ (b' = b ∧ c' < c)) → R b' = true → usesT T A b' c' = true → R c' = true) ∨ (m = 1 ∧ cntF (aN A) R < cntF (aN A) R0))
section RR1
variable {σ : zSt} {o : Nat} {sc sc' : ScT} {ar ar' : ArT} {P : Option Value → zSt → Prop} {x y v : Int32} {p s i j q m n a b : Nat} {w : WT} {T : TreT} {A : ActT}
theorem r_reach (hR : RShape σ o) (hT : RTree sc ar T) (hA : RAct sc ar A) (hTI : TInv T) (hB : ABnd T A) (ha : a < aN A) (hP : ∀ ar', RgR ar' (aN A) (fun b => pB (rch T A a b)) → Ag sc ar sc ar' [41] → P none (rOv σ o sc ar')) : wpM 130 [.ref o, .int (nI a)] (rOv σ o sc ar) P := by
  have h40 := hB.1
  have sc9 := hA.1
  have used : ∀ {ar' : ArT} {b c : Nat} {Q : Option Value → zSt → Prop}, Ag sc ar sc ar' [41] → b < aN A → c < aN A → Q (some (.int (b2I (usesT T A b c)))) (rOv σ o sc ar') → wpM 129 [.ref o, .int (nI b), .int (nI c)] (rOv σ o sc ar') Q := fun hg hb hc hQ => r_isUsed hR (RTree_ag hT hg (by decide)) (RAct_ag hA hg (by decide)) hTI hB hb hc hQ
  -- the rounds
  have W : ∀ N R0 ar' u3 u4, cntF (aN A) R0 = N → Ag sc ar sc ar' [41] → RgR ar' (aN A) R0 → (∀ x, x < aN A → R0 x = true → rch T A a x) → (∀ x, x < aN A → usesT T A a x = true → R0 x = true) → wp 130 30 [some (.ref o), some (.int (nI a)), some (.int 1), u3, u4] [] (rOv σ o sc ar') P := by
    intro N
    induction N using Nat.strongRecOn with
    | ind N ihN =>
      intro R0 ar0 u3 u4 hcnt hg0 hr0 hs0 hd0
      refine (b130_30 hR).mpr (ifn (by decide) ((b130_34 hR).mpr ?_))
      have keyb : ∀ e b ar' R m u4, b + e = aN A → Ag sc ar sc ar' [41] → RgR ar' (aN A) R → JR T A a R0 R m b 0 → wp 130 38 [some (.ref o), some (.int (nI a)), some (.int m), some (.int (nI b)), u4] [] (rOv σ o sc ar') P := by
        intro e
        induction e with
        | zero =>
          intro b ar' R m u4 hb hg hr hJ
          refine (b130_38 hR).mpr (ifp (by rw [sc9]; exact nI_le (by omega) (by omega)) ((b130_109 hR).mpr ?_))
          obtain ⟨j1, j2, j3⟩ := hJ
          rcases j3 with ⟨rfl, j4, j5⟩ | ⟨rfl, j4⟩
          · refine (b130_30 hR).mpr (ifp rfl ((b130_112 hR).mpr (hP ar' (fun x hx => ?_) hg)))
            rw [hr x hx]
            congr 1
            rw [Bool.eq_iff_iff, pB_iff]
            refine ⟨j2 x hx, fun hrx => ?_⟩
            have cl : ∀ i j, (i < aN A ∧ R i = true) → j < aN A → usesT T A i j = true → j < aN A ∧ R j = true := fun i j hi hj hu => ⟨hj, j5 i j hi.1 hj (Or.inl (by omega)) hi.2 hu⟩
            rcases rch_step hrx with g | ⟨k, k1, k2, k3⟩
            · rw [j4]; exact hd0 x hx g
            · exact (rch_closed cl ⟨k1, by rw [j4]; exact hd0 k k1 k2⟩ k3).2
          · exact ihN _ (by omega) R ar' _ _ rfl hg hr j2 (fun x hx hu => j1 x (hd0 x hx hu))
        | succ e ih =>
          intro b ar' R m u4 hb hg hr hJ
          have hbn : b < aN A := by omega
          refine (b130_38 hR).mpr (ifn (by rw [sc9]; exact nI_ge hbn (by omega)) ((b130_46 hR).mpr ?_))
          have keyc : ∀ e' c ar' R m, c + e' = aN A → Ag sc ar sc ar' [41] → RgR ar' (aN A) R → JR T A a R0 R m b c → wp 130 49 [some (.ref o), some (.int (nI a)), some (.int m), some (.int (nI b)), some (.int (nI c))] [] (rOv σ o sc ar') P := by
            intro e'
            induction e' with
            | zero =>
              intro c ar' R m hc hg hr hJ
              refine (b130_49 hR).mpr (ifp (by rw [sc9]; exact nI_le (by omega) (by omega)) ((b130_103 hR).mpr ?_))
              rw [nI_1]
              refine ih (b + 1) ar' R m _ (by omega) hg hr ⟨hJ.1, hJ.2.1, ?_⟩
              rcases hJ.2.2 with ⟨h1, h2, h3⟩ | h
              · exact Or.inl ⟨h1, h2, fun b' c' hb' hc' hlt => h3 b' c' hb' hc' (by omega)⟩
              · exact Or.inr h
            | succ e' ih' =>
              intro c ar' R m hc hg hr hJ
              have hcn : c < aN A := by omega
              refine (b130_49 hR).mpr (ifn (by rw [sc9]; exact nI_ge hcn (by omega)) ((b130_58 hR).mpr ⟨nI_in (N := 40) (by omega) (by omega), ?_⟩))
              rw [nI_clamp (by omega), hr b hbn]
              by_cases d : R b = true
              · refine ifn (fun r => b2I_ne.mpr d r) ((b130_67 hR).mpr ⟨nI_in (N := 40) (by omega) (by omega), ?_⟩)
                rw [nI_clamp (by omega), hr c hcn]
                by_cases d2 : R c = true
                · refine ifp (b2I_ne.mpr d2) ((b130_97 hR).mpr ?_)
                  rw [nI_1]
                  refine ih' (c + 1) ar' R m (by omega) hg hr ⟨hJ.1, hJ.2.1, ?_⟩
                  rcases hJ.2.2 with ⟨h1, h2, h3⟩ | h
                  · refine Or.inl ⟨h1, h2, fun b' c' hb' hc' hlt => ?_⟩
                    by_cases q : b' = b ∧ c' = c
                    · intro _ _; rw [q.2]; exact d2
                    · exact h3 b' c' hb' hc' (by omega)
                  · exact Or.inr h
                · refine ifn (fun r => d2 (b2I_ne.mp r)) ((b130_77 hR).mpr (used hg hbn hcn ((b130_84 hR).mpr ?_)))
                  by_cases d3 : usesT T A b c = true
                  · refine ifn (fun r => b2I_ne.mpr d3 r) ((b130_87 hR).mpr ⟨⟨nI_in (N := 40) (by omega) (by omega), Or.inr rfl⟩, (b130_97 hR).mpr ?_⟩)
                    rw [nI_1, nI_clamp (by omega)]
                    refine ih' (c + 1) _ (fup R c true) 1 (by omega) (hg.tr (Ag_ar (by decide))) (fun x hx => ?_) ⟨fun x hx => ?_, fun x hx hRx => ?_, Or.inr ⟨rfl, ?_⟩⟩
                    · by_cases q : x = c
                      · rw [q, upA_same, fup_same]; rfl
                      · rw [upA_ne (fun r => q r.2), fup_ne q]; exact hr x hx
                    · by_cases q : x = c
                      · rw [q]; exact fup_same
                      · rw [fup_ne q]; exact hJ.1 x hx
                    · by_cases q : x = c
                      · rw [q]; exact rch_trans (hJ.2.1 b hbn d) (rch_one hcn d3)
                      · rw [fup_ne q] at hRx; exact hJ.2.1 x hx hRx
                    · have h1 : cntF (aN A) (fup R c true) < cntF (aN A) R := cntF_lt _ hcn (by simpa using d2) fup_same (fun x _ hx => by
                        by_cases q : x = c
                        · rw [q]; exact fup_same
                        · rw [fup_ne q]; exact hx)
                      have h2 : cntF (aN A) R ≤ cntF (aN A) R0 := cntF_le _ (fun x _ hx => hJ.1 x hx)
                      omega
                  · refine ifp (b2I_0.mpr (by simpa using d3)) ((b130_97 hR).mpr ?_)
                    rw [nI_1]
                    refine ih' (c + 1) ar' R m (by omega) hg hr ⟨hJ.1, hJ.2.1, ?_⟩
                    rcases hJ.2.2 with ⟨h1, h2, h3⟩ | h
                    · refine Or.inl ⟨h1, h2, fun b' c' hb' hc' hlt => ?_⟩
                      by_cases q : b' = b ∧ c' = c
                      · intro _ hu; rw [q.1, q.2] at hu; exact absurd hu d3
                      · exact h3 b' c' hb' hc' (by omega)
                    · exact Or.inr h
              · refine ifp (b2I_0.mpr (by simpa using d)) ((b130_103 hR).mpr ?_)
                rw [nI_1]
                refine ih (b + 1) ar' R m _ (by omega) hg hr ⟨hJ.1, hJ.2.1, ?_⟩
                rcases hJ.2.2 with ⟨h1, h2, h3⟩ | h
                · refine Or.inl ⟨h1, h2, fun b' c' hb' hc' hlt => ?_⟩
                  by_cases q : b' = b
                  · intro hb2; rw [q] at hb2; exact absurd hb2 d
                  · exact h3 b' c' hb' hc' (by omega)
                · exact Or.inr h
          refine keyc _ 0 ar' R m (Nat.zero_add _) hg hr hJ
      exact keyb _ 0 ar0 R0 0 _ (Nat.zero_add _) hg0 hr0 ⟨fun _ h => h, hs0, Or.inl ⟨rfl, fun _ => rfl, fun b' c' _ _ h => by omega⟩⟩
  refine (b130 hR).mpr ?_
  have first : ∀ e b ar' u3 u4, b + e = aN A → Ag sc ar sc ar' [41] → (∀ x, x < b → ar' 61 x = b2I (usesT T A a x)) → wp 130 2 [some (.ref o), some (.int (nI a)), some (.int (nI b)), u3, u4] [] (rOv σ o sc ar') P := by
    intro e
    induction e with
    | zero =>
      intro b ar' u3 u4 hb hg hr
      have hb : b = aN A := by omega
      subst hb
      exact (b130_2 hR).mpr (ifp (by rw [sc9]; exact nI_le (by omega) (by omega)) ((b130_28 hR).mpr (W _ (fun x => usesT T A a x) ar' _ _ rfl hg hr (fun x hx hu => rch_one hx hu) (fun x hx hu => hu))))
    | succ e ih =>
      intro b ar' u3 u4 hb hg hr
      have hbn : b < aN A := by omega
      refine (b130_2 hR).mpr (ifn (by rw [sc9]; exact nI_ge hbn (by omega)) ((b130_10 hR).mpr (used hg ha hbn ((b130_21 hR).mpr ⟨⟨nI_in (N := 40) (by omega) (by omega), b2I01⟩, ?_⟩))))
      rw [nI_1, nI_clamp (by omega)]
      refine ih (b + 1) _ _ _ (by omega) (hg.tr (Ag_ar (by decide))) (fun x hx => ?_)
      by_cases q : x = b
      · rw [q, upA_same]
      · rw [upA_ne (fun r => q r.2)]; exact hr x (by omega)
  exact first _ 0 ar none none (Nat.zero_add _) Ag.rf (fun x hx => absurd hx (Nat.not_lt_zero x))
theorem r_isCircle (hR : RShape σ o) (hT : RTree sc ar T) (hA : RAct sc ar A) (hTI : TInv T) (hB : ABnd T A) (ha : a < aN A) (hP : ∀ ar', Ag sc ar sc ar' [41] → P (some (.int (b2I (pB (rch T A a a))))) (rOv σ o sc ar')) : wpM 131 [.ref o, .int (nI a)] (rOv σ o sc ar) P := by
  have h40 := hB.1
  refine (b131 hR).mpr (r_reach hR hT hA hTI hB ha (fun ar' hr hg => (b131_5 hR).mpr ⟨nI_in (N := 40) (by omega) (by omega), ?_⟩))
  rw [nI_clamp (by omega), hr a ha]
  exact ⟨b2I01, hP ar' hg⟩
/-- how many an action uses; whether it uses another -/
theorem r_uses (hR : RShape σ o) (h : RefR sc ar w) (hI : WInv w) (hP : P (some (.int (sUses w x y))) (rOv σ o sc ar)) : wpM 138 [.ref o, .int x, .int y] (rOv σ o sc ar) P := by
  have q4 := h.2.2.2.1
  have h40 := hI.2.1.1
  unfold sUses at hP
  refine (b138 hR).mpr ?_
  rcases ixN_cases x (n := aN (wA w)) (by omega) with ⟨e, hx⟩ | ⟨a, ha, rfl, e⟩
  · rw [e] at hP
    exact risact_no hR q4 h40 hx ((b138_5 hR).mpr (ifp rfl ((b138_16 hR).mpr ((b138_35 hR).mpr hP))))
  rw [e] at hP
  refine risact_yes hR q4 h40 ha ((b138_5 hR).mpr (ifn (by decide) ((b138_8 hR).mpr ?_)))
  rcases ixN_cases y (n := aN (wA w)) (by omega) with ⟨e, hx⟩ | ⟨b, hb, rfl, e⟩
  · rw [e] at hP
    exact risact_no hR q4 h40 hx ((b138_13 hR).mpr (ifn (fun r => r rfl) ((b138_16 hR).mpr ((b138_35 hR).mpr hP))))
  rw [e] at hP
  dsimp only at hP
  refine risact_yes hR q4 h40 hb ((b138_13 hR).mpr (ifp (by decide) ((b138_21 hR).mpr (r_isUsed hR h.1 q4 hI.1 (hI.2.1.bnd hI.1) ha hb ((b138_27 hR).mpr ?_)))))
  by_cases c : usesT (wT w) (wA w) a b = true
  · rw [if_pos c] at hP
    exact ifn (fun r => b2I_ne.mpr c r) ((b138_30 hR).mpr ((b138_35 hR).mpr hP))
  · rw [if_neg c] at hP
    exact ifp (b2I_0.mpr (by simpa using c)) ((b138_34 hR).mpr ((b138_35 hR).mpr hP))
theorem r_about (hR : RShape σ o) (h : RefR sc ar w) (hI : WInv w) (hP : P (some (.int (sAbout w x y))) (rOv σ o sc ar)) : wpM 137 [.ref o, .int x, .int y] (rOv σ o sc ar) P := by
  have q4 := h.2.2.2.1
  have h40 := hI.2.1.1
  unfold sAbout at hP
  refine (b137 hR).mpr ?_
  rcases ixN_cases x (n := aN (wA w)) (by omega) with ⟨e, hx⟩ | ⟨a, ha, rfl, e⟩
  · rw [e] at hP
    exact risact_no hR q4 h40 hx ((b137_5 hR).mpr (ifp rfl ((b137_17 hR).mpr hP)))
  rw [e] at hP
  dsimp only at hP
  obtain ⟨⟨a1, a2⟩, ⟨b1, b2⟩, c1, c2, c3⟩ := q4.2 a ha
  refine risact_yes hR q4 h40 ha ((b137_5 hR).mpr (ifn (by decide) ((b137_8 hR).mpr ?_)))
  rcases ixN_cases y (n := 4) (by omega) with ⟨e, hx⟩ | ⟨k, hk, rfl, e⟩
  · have n0 : ∀ j, j < 4 → ¬ y = nI j := by
      intro j hj r
      subst r
      rcases hx with g | g
      · exact nI_pos (by omega) g
      · exact nI_ge (a := j) (b := 4) hj (by omega) g
    rw [if_neg (show ¬ y = 0 from n0 0 (by omega)), if_neg (show ¬ y = 1 from n0 1 (by omega)), if_neg (show ¬ y = 2 from n0 2 (by omega)), if_neg (show ¬ y = 3 from n0 3 (by omega))] at hP
    exact rin_no hR (ixr hx (by omega) (by omega)) ((b137_14 hR).mpr (ifn (fun r => r rfl) ((b137_17 hR).mpr hP)))
  refine rin_n_yes hR (m := 3) (by omega) (by omega) rfl ((b137_14 hR).mpr (ifp (by decide) ((b137_20 hR).mpr ?_)))
  have hk4 : k = 0 ∨ k = 1 ∨ k = 2 ∨ k = 3 := by omega
  rcases hk4 with r | r | r | r <;> subst r
  · rw [if_pos (show nI 0 = 0 from rfl)] at hP
    refine ifn (by decide) ((b137_25 hR).mpr (ifn (fun r => r rfl) ((b137_29 hR).mpr ⟨nI_in (N := 40) (by omega) (by omega), (b137_58 hR).mpr ?_⟩)))
    rw [nI_clamp (by omega), a1]; exact hP
  · rw [if_neg (by decide), if_pos (show nI 1 = 1 from rfl)] at hP
    refine ifn (by decide) ((b137_25 hR).mpr (ifp (by decide) ((b137_38 hR).mpr (ifn (fun r => r rfl) ((b137_43 hR).mpr ⟨nI_in (N := 40) (by omega) (by omega), (b137_58 hR).mpr ?_⟩)))))
    rw [nI_clamp (by omega), b1]; exact hP
  · rw [if_neg (by decide), if_neg (by decide), if_pos (show nI 2 = 2 from rfl)] at hP
    refine ifn (by decide) ((b137_25 hR).mpr (ifp (by decide) ((b137_38 hR).mpr (ifp (by decide) ((b137_52 hR).mpr ⟨nI_in (N := 40) (by omega) (by omega), (b137_58 hR).mpr ?_⟩)))))
    rw [nI_clamp (by omega), c1]; exact hP
  · rw [if_neg (by decide), if_neg (by decide), if_neg (by decide), if_pos (show nI 3 = 3 from rfl)] at hP
    refine ifp (by decide) ((b137_59 hR).mpr ?_)
    have key : ∀ e k, k + e = aN (wA w) → wp 137 64 [some (.ref o), some (.int (nI a)), some (.int (nI 3)), some (.int (nI ((List.range k).filter fun b => usesT (wT w) (wA w) a b).length)), some (.int (nI k))] [] (rOv σ o sc ar) P := by
      intro e
      induction e with
      | zero =>
        intro k hk
        have hk : k = aN (wA w) := by omega
        subst hk
        exact (b137_64 hR).mpr (ifp (by rw [q4.1]; exact nI_le (by omega) (by omega)) ((b137_97 hR).mpr hP))
      | succ e ih =>
        intro k hk
        refine (b137_64 hR).mpr (ifn (by rw [q4.1]; exact nI_ge (by omega) (by omega)) ((b137_73 hR).mpr (r_isUsed hR h.1 q4 hI.1 (hI.2.1.bnd hI.1) ha (show k < aN (wA w) by omega) ((b137_81 hR).mpr ?_))))
        have st := ih (k + 1) (by omega)
        rw [List.range_succ, List.filter_append, List.length_append] at st
        by_cases c : usesT (wT w) (wA w) a k = true
        · refine ifn (fun r => b2I_ne.mpr c r) ((b137_84 hR).mpr ((b137_89 hR).mpr ?_))
          rw [nI_1, nI_1]
          simp [c] at st
          exact st
        · refine ifp (b2I_0.mpr (by simpa using c)) ((b137_88 hR).mpr ((b137_89 hR).mpr ?_))
          rw [nI_1, show ∀ z : Int32, z + 0 = z from fun z => Int32.add_zero z]
          simp [c] at st
          exact st
    exact key _ 0 (Nat.zero_add _)
end RR1
