/-! MAKERS: an action -/
section MA
variable {σ τ : zSt} {P : Option Value → zSt → Prop} {a b d m : Nat}
/-- an action while its keys are being made -/
def AL (τ : zSt) (a : Nat) : Prop := zIs τ a 0 ∧ (zfr τ 0 0 a = some (a + 1) ∧ zfr τ 0 1 a = some (a + 2) ∧ zfr τ 0 2 a = some (a + 3) ∧ zfr τ 0 3 a = some (a + 4) ∧ zfr τ 0 4 a = some (a + 5)) ∧ (zfi τ 0 5 a = 0 ∧ zfl τ 0 6 a = 0) ∧ (ztg τ (a + 1) = (1, 13, 0) ∧ ztg τ (a + 2) = (1, 13, 0) ∧ ztg τ (a + 3) = (2, 4, 16) ∧ ztg τ (a + 4) = (2, 5, 16) ∧ ztg τ (a + 5) = (3, 8, 2)) ∧ LE τ (a + 1) ∧ LE τ (a + 2)
theorem AL_sm (h : AL σ a) (hs : ∀ b, b < a + 5 → SmA σ τ b) (h5 : ztg τ (a + 5) = ztg σ (a + 5)) (he : ze0 τ = ze0 σ) : AL τ a := by
  obtain ⟨h0, ⟨r0, r1, r2, r3, r4⟩, ⟨f5, f6⟩, ⟨t1, t2, t3, t4, t5⟩, l1, l2⟩ := h
  have sa := hs a (by omega)
  have e : ∀ k, zfr τ 0 k a = zfr σ 0 k a := fun k => (sa.2.1 0 k).2.2
  refine ⟨by unfold zIs; rw [sa.1]; exact h0, ⟨by rw [e]; exact r0, by rw [e]; exact r1, by rw [e]; exact r2, by rw [e]; exact r3, by rw [e]; exact r4⟩, ⟨by rw [(sa.2.1 0 5).1]; exact f5, by rw [(sa.2.1 0 6).2.1]; exact f6⟩, ⟨by rw [(hs _ (by omega)).1]; exact t1, by rw [(hs _ (by omega)).1]; exact t2, by rw [(hs _ (by omega)).1]; exact t3, by rw [(hs _ (by omega)).1]; exact t4, by rw [h5]; exact t5⟩, LE_sm l1 (hs _ (by omega)) he, LE_sm l2 (hs _ (by omega)) he⟩
theorem AL_fin (h : AL τ a) (hk : K2 τ (a + 5) (a + 6) 2) : (∀ c, a ≤ c → c < a + 12 → ShA τ c) ∧ ActM τ a := by
  obtain ⟨h0, ⟨r0, r1, r2, r3, r4⟩, ⟨f5, f6⟩, ⟨t1, t2, t3, t4, t5⟩, l1, l2⟩ := h
  refine ⟨fun c h1 h2 => ?_, h0, f5, f6, l1, l2, fun j hj => (hk j hj).2.2.2.2.2⟩
  by_cases c6 : a + 6 ≤ c
  · exact K2_sh hk c6 (by omega)
  have : c = a ∨ c = a + 1 ∨ c = a + 2 ∨ c = a + 3 ∨ c = a + 4 ∨ c = a + 5 := by omega
  rcases this with e | e | e | e | e | e
  · subst e
    refine ShA_of h0 (fun e he hc => ?_)
    have key : ∀ e ∈ layL, e.1 = 0 → e ∈ [(0, 0, 1, 1, 13, 0), (0, 1, 2, 1, 13, 0), (0, 2, 3, 2, 4, 16), (0, 3, 4, 2, 5, 16), (0, 4, 5, 3, 8, 2)] := by decide
    have key2 := key e he hc
    simp only [List.mem_cons, List.not_mem_nil, or_false] at key2
    rcases key2 with q | q | q | q | q <;> subst q
    · exact ⟨r0, t1⟩
    · exact ⟨r1, t2⟩
    · exact ⟨r2, t3⟩
    · exact ⟨r3, t4⟩
    · exact ⟨r4, t5⟩
  · rw [e]; exact ShA_13 l1.1
  · rw [e]; exact ShA_13 l2.1
  · rw [e]; exact ShA_2 t3
  · rw [e]; exact ShA_2 t4
  · subst e
    refine ShA_arr t5 (fun e he hc _ i hi => ?_)
    have key : ∀ e ∈ layA, e.1 = 8 → e.2.2.1 = 1 ∧ e.2.2.2.1 = 3 ∧ e.2.2.2.2 = (1, 5, 0) := by decide
    obtain ⟨q1, q2, q3⟩ := key e he hc
    rw [q1, q2, q3]
    obtain ⟨k1, k0, _⟩ := hk i hi
    rw [show a + 5 + 1 + 3 * i = a + 6 + 3 * i by omega]
    exact ⟨k1, k0⟩
theorem mkA_ok (hw : HIw σ) (hz : zIs σ a 0) (hn : znx σ = a + 1) (hP : ∀ τ, HIw τ → NewF σ τ a → znx τ = a + 12 → zsl τ = zsl σ + 912 → (∀ c, a ≤ c → c < a + 12 → ShA τ c) → ActM τ a → P none τ) : wpM 0 [.ref a] σ P := by
  refine b0.mpr (b0_8.mpr ?_)
  rw [hn]
  refine mkL2_ok hw hn (fun τ1 h1 f1 n1 s1 sh1 le1 t1 => b0_12.mpr ?_)
  have f1a : NewF σ τ1 a := f1.mono (by omega)
  have z1 : zIs τ1 a 0 := f1a.is hz
  refine ⟨z1, b0_19.mpr ?_⟩
  have h2 : HIw (sfr τ1 0 0 a (some (a + 1))) := HIw_sfr h1 (by decide)
  have f2 : NewF τ1 (sfr τ1 0 0 a (some (a + 1))) a := NewF_sfr (Nat.le_refl _)
  have n2 : znx (sfr τ1 0 0 a (some (a + 1))) = a + 2 := n1
  rw [n2]
  refine mkL2_ok h2 n2 (fun τ3 h3 f3 n3 s3 sh3 le3 t3 => b0_23.mpr ?_)
  have f3a : NewF (sfr τ1 0 0 a (some (a + 1))) τ3 a := f3.mono (by omega)
  have z3 : zIs τ3 a 0 := f3a.is z1
  have r30 : zfr τ3 0 0 a = some (a + 1) := by rw [((f3.1 a (by omega)).2.1 0 0).2.2]; exact if_pos ⟨rfl, rfl, rfl⟩
  have t31 : ztg τ3 (a + 1) = (1, 13, 0) := by rw [(f3.1 (a + 1) (by omega)).1]; exact t1
  have l31 : LE τ3 (a + 1) := LE_sm (LE_sm le1 (⟨rfl, fun _ _ => ⟨rfl, rfl, if_neg (fun r => by omega)⟩, fun _ _ => ⟨rfl, rfl⟩⟩ : SmA τ1 (sfr τ1 0 0 a (some (a + 1))) (a + 1)) rfl) (f3.1 (a + 1) (by omega)) f3.2.2.1
  refine ⟨z3, ⟨by decide, by decide⟩, b0_31.mpr ?_⟩
  rw [show Int32.toNatClampNeg 16 = 16 from rfl]
  have e3 : znx (sfr τ3 0 1 a (some (a + 2))) = a + 3 := n3
  have f4a : NewF τ3 (sfr τ3 0 1 a (some (a + 2))) a := NewF_sfr (Nat.le_refl _)
  have h4a : HIw (sfr τ3 0 1 a (some (a + 2))) := HIw_sfr h3 (by decide)
  have f4 : NewF τ3 (zNewI (sfr τ3 0 1 a (some (a + 2))) 4 16) a := f4a.tr (NewF_newI h4a.1 (by omega))
  have h4 : HIw (zNewI (sfr τ3 0 1 a (some (a + 2))) 4 16) := HIw_newI h4a
  have n4 : znx (zNewI (sfr τ3 0 1 a (some (a + 2))) 4 16) = a + 4 := by show znx τ3 + 1 = _; omega
  have g4 : ztg (zNewI (sfr τ3 0 1 a (some (a + 2))) 4 16) = upT (ztg τ3) (a + 3) (2, 4, 16) := by show upT (ztg τ3) (znx τ3) _ = _; rw [n3]
  have s4 : zsl (zNewI (sfr τ3 0 1 a (some (a + 2))) 4 16) = zsl τ3 + 16 := rfl
  have q4 : zfr (zNewI (sfr τ3 0 1 a (some (a + 2))) 4 16) = up3 (zfr τ3) 0 1 a (some (a + 2)) := rfl
  have i4 : zfi (zNewI (sfr τ3 0 1 a (some (a + 2))) 4 16) = zfi τ3 := rfl
  have l4 : zfl (zNewI (sfr τ3 0 1 a (some (a + 2))) 4 16) = zfl τ3 := rfl
  have o4 : ze0 (zNewI (sfr τ3 0 1 a (some (a + 2))) 4 16) = ze0 τ3 := rfl
  rw [e3]
  generalize zNewI (sfr τ3 0 1 a (some (a + 2))) 4 16 = σ4 at *
  refine ⟨f4.is z3, ⟨by decide, by decide⟩, b0_39.mpr ?_⟩
  have e5 : znx (sfr σ4 0 2 a (some (a + 3))) = a + 4 := n4
  rw [e5]
  have f5a : NewF σ4 (sfr σ4 0 2 a (some (a + 3))) a := NewF_sfr (Nat.le_refl _)
  have h5a : HIw (sfr σ4 0 2 a (some (a + 3))) := HIw_sfr h4 (by decide)
  have f5 : NewF σ4 (zNewI (sfr σ4 0 2 a (some (a + 3))) 5 16) a := f5a.tr (NewF_newI h5a.1 (by omega))
  have h5 : HIw (zNewI (sfr σ4 0 2 a (some (a + 3))) 5 16) := HIw_newI h5a
  have n5 : znx (zNewI (sfr σ4 0 2 a (some (a + 3))) 5 16) = a + 5 := by show znx σ4 + 1 = _; omega
  have g5 : ztg (zNewI (sfr σ4 0 2 a (some (a + 3))) 5 16) = upT (ztg σ4) (a + 4) (2, 5, 16) := by show upT (ztg σ4) (znx σ4) _ = _; rw [n4]
  have s5 : zsl (zNewI (sfr σ4 0 2 a (some (a + 3))) 5 16) = zsl σ4 + 16 := rfl
  have q5 : zfr (zNewI (sfr σ4 0 2 a (some (a + 3))) 5 16) = up3 (zfr σ4) 0 2 a (some (a + 3)) := rfl
  have i5 : zfi (zNewI (sfr σ4 0 2 a (some (a + 3))) 5 16) = zfi σ4 := rfl
  have l5 : zfl (zNewI (sfr σ4 0 2 a (some (a + 3))) 5 16) = zfl σ4 := rfl
  have o5 : ze0 (zNewI (sfr σ4 0 2 a (some (a + 3))) 5 16) = ze0 σ4 := rfl
  generalize zNewI (sfr σ4 0 2 a (some (a + 3))) 5 16 = σ5 at *
  refine ⟨f5.is (f4.is z3), ⟨by decide, by decide⟩, b0_47.mpr ?_⟩
  rw [show Int32.toNatClampNeg 2 = 2 from rfl]
  have e6 : znx (sfr σ5 0 3 a (some (a + 4))) = a + 5 := n5
  rw [e6]
  have f6a : NewF σ5 (sfr σ5 0 3 a (some (a + 4))) a := NewF_sfr (Nat.le_refl _)
  have h6a : HIw (sfr σ5 0 3 a (some (a + 4))) := HIw_sfr h5 (by decide)
  have f6 : NewF σ5 (zNewR (sfr σ5 0 3 a (some (a + 4))) 8 2) a := f6a.tr (NewF_newR h6a.1 (by omega))
  have h6 : HIw (zNewR (sfr σ5 0 3 a (some (a + 4))) 8 2) := HIw_newR h6a (by decide)
  have n6 : znx (zNewR (sfr σ5 0 3 a (some (a + 4))) 8 2) = a + 6 := by show znx σ5 + 1 = _; omega
  have g6 : ztg (zNewR (sfr σ5 0 3 a (some (a + 4))) 8 2) = upT (ztg σ5) (a + 5) (3, 8, 2) := by show upT (ztg σ5) (znx σ5) _ = _; rw [n5]
  have s6 : zsl (zNewR (sfr σ5 0 3 a (some (a + 4))) 8 2) = zsl σ5 + 2 := rfl
  have q6 : zfr (zNewR (sfr σ5 0 3 a (some (a + 4))) 8 2) = up3 (zfr σ5) 0 3 a (some (a + 4)) := rfl
  have i6 : zfi (zNewR (sfr σ5 0 3 a (some (a + 4))) 8 2) = zfi σ5 := rfl
  have l6 : zfl (zNewR (sfr σ5 0 3 a (some (a + 4))) 8 2) = zfl σ5 := rfl
  have o6 : ze0 (zNewR (sfr σ5 0 3 a (some (a + 4))) 8 2) = ze0 σ5 := rfl
  generalize zNewR (sfr σ5 0 3 a (some (a + 4))) 8 2 = σ6 at *
  have z6 := f6.is (f5.is (f4.is z3))
  refine ⟨z6, z6, ?_⟩
  have f7 : NewF σ6 (sfl (sfi (sfr σ6 0 4 a (some (a + 5))) 0 5 a 0) 0 6 a 0) a := (NewF_sfr (Nat.le_refl _)).tr ((NewF_sfi (Nat.le_refl _)).tr (NewF_sfl (Nat.le_refl _)))
  have hA : AL (sfl (sfi (sfr σ6 0 4 a (some (a + 5))) 0 5 a 0) 0 6 a 0) a := by
    have hr : ∀ k, zfr (sfl (sfi (sfr σ6 0 4 a (some (a + 5))) 0 5 a 0) 0 6 a 0) 0 k a = if k = 4 then some (a + 5) else if k = 3 then some (a + 4) else if k = 2 then some (a + 3) else if k = 1 then some (a + 2) else zfr τ3 0 k a := by
      intro k
      show up3 (zfr σ6) 0 4 a (some (a + 5)) 0 k a = _
      rw [q6, q5, q4]
      unfold up3
      simp
    have ht : ∀ x, ztg (sfl (sfi (sfr σ6 0 4 a (some (a + 5))) 0 5 a 0) 0 6 a 0) x = if x = a + 5 then (3, 8, 2) else if x = a + 4 then (2, 5, 16) else if x = a + 3 then (2, 4, 16) else ztg τ3 x := by
      intro x
      show ztg σ6 x = _
      rw [g6, g5, g4]
      rfl
    have hle : ∀ l, l ≠ a → l < a + 3 → LE τ3 l → LE (sfl (sfi (sfr σ6 0 4 a (some (a + 5))) 0 5 a 0) 0 6 a 0) l := by
      intro l hl hl3 hL
      obtain ⟨u1, u2, u3⟩ := hL
      refine ⟨?_, ?_, ?_⟩
      · unfold zIs
        rw [ht, if_neg (by omega), if_neg (by omega), if_neg (by omega)]; exact u1
      · have e0 : ze0 (sfl (sfi (sfr σ6 0 4 a (some (a + 5))) 0 5 a 0) 0 6 a 0) = ze0 τ3 := by show ze0 σ6 = _; rw [o6, o5, o4]
        rw [e0]
        show up3 (zfr σ6) 0 4 a (some (a + 5)) 13 1 l = _
        rw [q6, q5, q4]
        unfold up3
        simp [hl]
        exact u2
      · show up3 (zfi σ6) 0 5 a 0 13 2 l = _
        rw [i6, i5, i4]
        unfold up3
        simp [hl]
        exact u3
    refine ⟨f7.is z6, ⟨by rw [hr]; exact r30, hr 1, hr 2, hr 3, hr 4⟩, ⟨if_pos ⟨rfl, rfl, rfl⟩, if_pos ⟨rfl, rfl, rfl⟩⟩, ⟨?_, ?_, ?_, ?_, ?_⟩, hle _ (by omega) (by omega) l31, hle _ (by omega) (by omega) le3⟩
    · rw [ht, if_neg (by omega), if_neg (by omega), if_neg (by omega)]; exact t31
    · rw [ht, if_neg (by omega), if_neg (by omega), if_neg (by omega)]; exact t3
    · rw [ht, if_neg (by omega), if_neg (by omega), if_pos rfl]
    · rw [ht, if_neg (by omega), if_pos rfl]
    · rw [ht, if_pos rfl]
  have key : ∀ e m τ, m + e = 2 → HIw τ → NewF σ τ a → znx τ = a + 6 + 3 * m → zsl τ = zsl σ + 40 + 436 * m → AL τ a → K2 τ (a + 5) (a + 6) m → wp 0 62 [some (.ref a), some (.int (nI m))] [] τ P := by
    intro e
    induction e with
    | zero =>
      intro m τ em hw hF hnx hsl hA hK
      have em : m = 2 := by omega
      subst em
      have er : zrf τ 0 4 a = a + 5 := by unfold zrf; rw [hA.2.1.2.2.2.2]; rfl
      have t5 := hA.2.2.2.1.2.2.2.2
      obtain ⟨w1, w2⟩ := AL_fin hA hK
      refine b0_62.mpr ⟨hA.1, by rw [hA.2.1.2.2.2.2]; rfl, by rw [er, t5]; exact Or.inr (Or.inl rfl), ifp ?_ (b0_90.mpr (hP τ hw hF (by omega) (by omega) w1 w2))⟩
      rw [er]; unfold zln; rw [t5]; exact nI_le (a := 2) (b := 2) (by omega) (by omega)
    | succ e ih =>
      intro m τ em hw hF hnx hsl hA hK
      have hm : m < 2 := by omega
      have er : zrf τ 0 4 a = a + 5 := by unfold zrf; rw [hA.2.1.2.2.2.2]; rfl
      have t5 := hA.2.2.2.1.2.2.2.2
      refine b0_62.mpr ⟨hA.1, by rw [hA.2.1.2.2.2.2]; rfl, by rw [er, t5]; exact Or.inr (Or.inl rfl), ifn ?_ (b0_71.mpr ⟨hA.1, by rw [hA.2.1.2.2.2.2]; rfl, b0_79.mpr ?_⟩)⟩
      · rw [er]; unfold zln; rw [t5]; exact nI_ge (b := 2) hm (by omega)
      rw [er, hnx]
      refine K2_new hw hK (by omega) hnx (fun τ2 hw2 f2 n2 s2 hK2 hT2 k2 k3 k4 k5 => b0_83.mpr ?_)
      have ht2 : ztg τ2 (a + 5) = (3, 8, 2) := by rw [(f2.1 (a + 5) (by omega)).1]; exact t5
      rw [ht2, hT2, nI_clamp (by omega)]
      refine ⟨⟨rfl, rfl, nI_in (N := 2) hm (by omega)⟩, ?_⟩
      rw [nI_1]
      have hA2 : AL τ2 a := AL_sm hA (fun b hb => f2.1 b (by omega)) (f2.1 _ (by omega)).1 f2.2.2.1
      have sm : ∀ c, c ≠ a + 5 → SmA τ2 (sar τ2 8 (a + 5) m (some (a + 6 + 3 * m))) c := fun c hc => ⟨rfl, fun _ _ => ⟨rfl, rfl, rfl⟩, fun _ _ => ⟨rfl, if_neg (fun r => hc r.2.1)⟩⟩
      have e8 : znx τ2 = a + 6 + 3 * (m + 1) := by omega
      have e9 : zsl τ2 = zsl σ + 40 + 436 * (m + 1) := by rw [s2, hsl, Nat.mul_succ, Nat.add_assoc (zsl σ + 40)]
      exact ih (m + 1) _ (by omega) (HIw_sar hw2 (by decide)) (hF.tr ((f2.mono (by omega)).tr (NewF_sar (by omega)))) e8 e9 (AL_sm hA2 (fun b hb => sm b (by omega)) rfl rfl) (K2_put hK2 (by omega) hT2 k2 k3 k4 k5)
  refine key 2 0 _ rfl (HIw_sfr (c := 0) (k := 4) (a := a) (v := some (a + 5)) h6 (by decide)) (f1a.tr (f2.tr (f3a.tr (f4.tr (f5.tr (f6.tr f7)))))) (by show znx σ6 = _; omega) ?_ hA (fun j hj => absurd hj (Nat.not_lt_zero j))
  show zsl σ6 = _
  have s2' : zsl (sfr τ1 0 0 a (some (a + 1))) = zsl τ1 := rfl
  omega
end MA
