/-! MAKERS: paths, actions -/
section MP
variable {σ τ υ : zSt} {P : Option Value → zSt → Prop} {a b c k n t l i q o : Nat} {v x1 x2 x3 x4 : Int32}
/-- an empty list, as made -/
def LE (τ : zSt) (l : Nat) : Prop := zIs τ l 13 ∧ zfr τ 13 1 l = some (ze0 τ) ∧ zfi τ 13 2 l = 0
theorem LE_sm (h : LE σ l) (hs : SmA σ τ l) (he : ze0 τ = ze0 σ) : LE τ l := by
  obtain ⟨h1, h2, h3⟩ := h
  exact ⟨by unfold zIs; rw [hs.1]; exact h1, by rw [(hs.2.1 13 1).2.2, he]; exact h2, by rw [(hs.2.1 13 2).1]; exact h3⟩
theorem LE_val (h : LE τ l) (hw : HIw τ) : LVal τ l [] ∧ capOf τ l = 0 := by
  obtain ⟨h1, h2, h3⟩ := h
  refine ⟨⟨h1, _, h2, h3, Or.inl ⟨rfl, hw.2.2.2, rfl⟩, fun i hi => absurd hi (Nat.not_lt_zero i)⟩, ?_⟩
  unfold capOf zrf
  rw [h2]
  show (ztg τ (ze0 τ)).2.2 = 0
  rw [hw.2.2.2]
theorem mkL2_ok (hw : HIw σ) (hn : znx σ = l) (hP : ∀ τ, HIw τ → NewF σ τ l → znx τ = l + 1 → zsl τ = zsl σ + 3 → ShA τ l → LE τ l → ztg τ l = (1, 13, 0) → P none τ) : wpM 184 [.ref l] (zNew σ 13) P := by
  have h1 : HIw (zNew σ 13) := HIw_new hw
  have f1 : NewF σ (zNew σ 13) l := NewF_new hw.1 (by omega)
  have tg : ztg (zNew σ 13) l = (1, 13, 0) := by
    show upT (ztg σ) (znx σ) _ l = _
    rw [hn]; exact if_pos rfl
  have z0 : zfi (zNew σ 13) 13 2 l = 0 := if_pos ⟨rfl, hn.symm⟩
  have hz := zIs_of tg
  refine b184.mpr (b183.mpr (b182.mpr (b183_4.mpr ⟨hz, b184_4.mpr ⟨hz, ?_⟩⟩)))
  have e1 : zfr (sfr (sfi (zNew σ 13) 13 0 l 0) 13 1 l (some (ze0 (sfi (zNew σ 13) 13 0 l 0)))) 13 1 l = some (ze0 σ) := if_pos ⟨rfl, rfl, rfl⟩
  exact hP _ (HIw_sfr13 (σ := sfi (zNew σ 13) 13 0 l 0) h1) (f1.tr ((NewF_sfi (Nat.le_refl _)).tr (NewF_sfr (Nat.le_refl _)))) (by show znx σ + 1 = _; omega) (by show zsl σ + (cRow 13).2.2 = _; rw [show (cRow 13).2.2 = 3 from rfl]) (ShA_13 hz) ⟨hz, e1, z0⟩ tg
/-- a path, as made -/
def PathM (τ : zSt) (a : Nat) (x1 x2 x3 x4 : Int32) : Prop := zIs τ a 8 ∧ zfi τ 8 0 a = x1 ∧ zfi τ 8 1 a = x2 ∧ zfi τ 8 2 a = x3 ∧ zfi τ 8 3 a = x4 ∧ zfi τ 8 6 a = -1 ∧ LE τ (a + 2) ∧ ∀ j, j < 2 → Cnt τ (a + 3 + 2 * j) none
theorem mkP_ok (hw : HIw σ) (hz : zIs σ a 8) (hn : znx σ = a + 1) (hx4 : x4 = 0 ∨ x4 = 1) (hP : ∀ τ, HIw τ → NewF σ τ a → znx τ = a + 7 → zsl τ = zsl σ + 137 → (∀ c, a ≤ c → c < a + 7 → ShA τ c) → PathM τ a x1 x2 x3 x4 → P none τ) : wpM 60 [.ref a, .int x1, .int x2, .int x3, .int x4] σ P := by
  refine b60.mpr ⟨⟨by decide, by decide⟩, ?_⟩
  have h1 : HIw (zNewR σ 6 (Int32.toNatClampNeg 2)) := HIw_newR hw (by decide)
  have f1 : NewF σ (zNewR σ 6 (Int32.toNatClampNeg 2)) a := NewF_newR hw.1 (by omega)
  have z1 := f1.is hz
  have t1 : ztg (zNewR σ 6 (Int32.toNatClampNeg 2)) (a + 1) = (3, 6, 2) := by
    show upT (ztg σ) (znx σ) _ (a + 1) = _
    rw [hn]; exact if_pos rfl
  refine b60_9.mpr ⟨z1, b60_16.mpr ?_⟩
  rw [hn]
  have h2 : HIw (sfr (zNewR σ 6 (Int32.toNatClampNeg 2)) 8 4 a (some (a + 1))) := HIw_sfr h1 (by decide)
  have f2 : NewF (zNewR σ 6 (Int32.toNatClampNeg 2)) (sfr (zNewR σ 6 (Int32.toNatClampNeg 2)) 8 4 a (some (a + 1))) a := NewF_sfr (Nat.le_refl _)
  have n2 : znx (sfr (zNewR σ 6 (Int32.toNatClampNeg 2)) 8 4 a (some (a + 1))) = a + 2 := by show znx σ + 1 = _; omega
  rw [n2]
  refine mkL2_ok h2 n2 (fun τ3 h3 f3 n3 s3 sh3 le3 t3 => b60_20.mpr ?_)
  have z3 : zIs τ3 a 8 := f3.is (f2.is z1)
  refine ⟨z3, z3, hx4, ?_⟩
  have r4 : zfr τ3 8 4 a = some (a + 1) := by rw [((f3.1 a (by omega)).2.1 8 4).2.2]; exact if_pos ⟨rfl, rfl, rfl⟩
  have t13 : ztg τ3 (a + 1) = (3, 6, 2) := by rw [(f3.1 (a + 1) (by omega)).1]; exact t1
  have f4 : NewF τ3 (sfi (sfi (sfi (sfi (sfi (sfr τ3 8 5 a (some (a + 2))) 8 6 a (-1)) 8 0 a x1) 8 1 a x2) 8 2 a x3) 8 3 a x4) a := (NewF_sfr (Nat.le_refl _)).tr ((NewF_sfi (Nat.le_refl _)).tr ((NewF_sfi (Nat.le_refl _)).tr ((NewF_sfi (Nat.le_refl _)).tr ((NewF_sfi (Nat.le_refl _)).tr (NewF_sfi (Nat.le_refl _))))))
  have sm4 : ∀ c, c ≠ a → SmA τ3 (sfi (sfi (sfi (sfi (sfi (sfr τ3 8 5 a (some (a + 2))) 8 6 a (-1)) 8 0 a x1) 8 1 a x2) 8 2 a x3) 8 3 a x4) c := by
    intro c hc
    refine ⟨rfl, fun c' k => ⟨?_, rfl, if_neg (fun r => hc r.2.2)⟩, fun _ _ => ⟨rfl, rfl⟩⟩
    show up3 (up3 (up3 (up3 (up3 (zfi τ3) 8 6 a (-1)) 8 0 a x1) 8 1 a x2) 8 2 a x3) 8 3 a x4 c' k c = _
    unfold up3
    rw [if_neg (fun r => hc r.2.2), if_neg (fun r => hc r.2.2), if_neg (fun r => hc r.2.2), if_neg (fun r => hc r.2.2), if_neg (fun r => hc r.2.2)]
  have hfi : ∀ k, zfi (sfi (sfi (sfi (sfi (sfi (sfr τ3 8 5 a (some (a + 2))) 8 6 a (-1)) 8 0 a x1) 8 1 a x2) 8 2 a x3) 8 3 a x4) 8 k a = if k = 3 then x4 else if k = 2 then x3 else if k = 1 then x2 else if k = 0 then x1 else if k = 6 then -1 else zfi τ3 8 k a := by
    intro k
    show up3 (up3 (up3 (up3 (up3 (zfi τ3) 8 6 a (-1)) 8 0 a x1) 8 1 a x2) 8 2 a x3) 8 3 a x4 8 k a = _
    unfold up3
    simp
  have key : ∀ e m τ, m + e = 2 → HIw τ → NewF σ τ a → znx τ = a + 3 + 2 * m → zsl τ = zsl σ + 5 + 66 * m → zIs τ a 8 → zfr τ 8 4 a = some (a + 1) → zfr τ 8 5 a = some (a + 2) → (zfi τ 8 0 a = x1 ∧ zfi τ 8 1 a = x2 ∧ zfi τ 8 2 a = x3 ∧ zfi τ 8 3 a = x4 ∧ zfi τ 8 6 a = -1) → ztg τ (a + 1) = (3, 6, 2) → ztg τ (a + 2) = (1, 13, 0) → LE τ (a + 2) → C3 τ 6 (a + 1) (a + 3) m → wp 60 52 [some (.ref a), some (.int x1), some (.int x2), some (.int x3), some (.int x4), some (.int (nI m))] [] τ P := by
    intro e
    induction e with
    | zero =>
      intro m τ em hw hF hnx hsl hz hr4 hr5 hf ht ht2 hle hC3
      have em : m = 2 := by omega
      subst em
      have er : zrf τ 8 4 a = a + 1 := by unfold zrf; rw [hr4]; rfl
      refine b60_52.mpr ⟨hz, by rw [hr4]; rfl, by rw [er, ht]; exact Or.inr (Or.inl rfl), ifp ?_ (b60_82.mpr (hP τ hw hF (by omega) (by omega) (fun c hc1 hc2 => ?_) ⟨hz, hf.1, hf.2.1, hf.2.2.1, hf.2.2.2.1, hf.2.2.2.2, hle, fun j hj => (hC3 j hj).2.2.2.2⟩))⟩
      · rw [er]; unfold zln; rw [ht]; exact nI_le (a := 2) (b := 2) (by omega) (by omega)
      · by_cases c0 : c = a
        · subst c0
          refine ShA_of hz (fun e he hc => ?_)
          have key : ∀ e ∈ layL, e.1 = 8 → e = (8, 4, 1, 3, 6, 2) ∨ e = (8, 5, 2, 1, 13, 0) := by decide
          rcases key e he hc with rfl | rfl
          · exact ⟨hr4, ht⟩
          · exact ⟨hr5, ht2⟩
        by_cases c1 : c = a + 1
        · subst c1
          refine ShA_arr ht (fun e he hc _ i hi => ?_)
          have key : ∀ e ∈ layA, e.1 = 6 → e.2.2.1 = 2 ∧ e.2.2.2.1 = 2 ∧ e.2.2.2.2 = (1, 2, 0) := by decide
          obtain ⟨q1, q2, q3⟩ := key e he hc
          rw [q1, q2, q3]
          obtain ⟨k1, k0, _⟩ := hC3 i hi
          rw [show a + 1 + 2 + 2 * i = a + 3 + 2 * i by omega]
          exact ⟨k1, k0⟩
        by_cases c2 : c = a + 2
        · subst c2; exact ShA_13 hle.1
        · exact C3_sh hC3 (by omega) (by omega)
    | succ e ih =>
      intro m τ em hw hF hnx hsl hz hr4 hr5 hf ht ht2 hle hC3
      have hm : m < 2 := by omega
      have er : zrf τ 8 4 a = a + 1 := by unfold zrf; rw [hr4]; rfl
      refine b60_52.mpr ⟨hz, by rw [hr4]; rfl, by rw [er, ht]; exact Or.inr (Or.inl rfl), ifn ?_ (b60_62.mpr ⟨hz, by rw [hr4]; rfl, b60_71.mpr ?_⟩)⟩
      · rw [er]; unfold zln; rw [ht]; exact nI_ge (b := 2) hm (by omega)
      rw [er, hnx]
      refine C3_new hw hC3 (by omega) hnx (fun τ2 hw2 f2 n2 s2 hC hT2 k2 k3 k4 => b60_75.mpr ?_)
      have hh2 : ztg τ2 (a + 1) = (3, 6, 2) := by rw [(f2.1 (a + 1) (by omega)).1]; exact ht
      rw [hh2, hT2, nI_clamp (by omega)]
      refine ⟨⟨rfl, rfl, nI_in (N := 2) hm (by omega)⟩, ?_⟩
      rw [nI_1]
      have fo := f2.1 a (by omega)
      have fl := f2.1 (a + 2) (by omega)
      have sm : ∀ c, c ≠ a + 1 → SmA τ2 (sar τ2 6 (a + 1) m (some (a + 3 + 2 * m))) c := fun c hc => ⟨rfl, fun _ _ => ⟨rfl, rfl, rfl⟩, fun _ _ => ⟨rfl, if_neg (fun r => hc r.2.1)⟩⟩
      exact ih (m + 1) _ (by omega) (HIw_sar hw2 (by decide)) (hF.tr ((f2.mono (by omega)).tr (NewF_sar (by omega)))) (by show znx τ2 = _; omega) (by show zsl τ2 = _; omega) (f2.is hz) (by show zfr τ2 8 4 a = _; rw [(fo.2.1 8 4).2.2]; exact hr4) (by show zfr τ2 8 5 a = _; rw [(fo.2.1 8 5).2.2]; exact hr5) ⟨by show zfi τ2 8 0 a = _; rw [(fo.2.1 8 0).1]; exact hf.1, by show zfi τ2 8 1 a = _; rw [(fo.2.1 8 1).1]; exact hf.2.1, by show zfi τ2 8 2 a = _; rw [(fo.2.1 8 2).1]; exact hf.2.2.1, by show zfi τ2 8 3 a = _; rw [(fo.2.1 8 3).1]; exact hf.2.2.2.1, by show zfi τ2 8 6 a = _; rw [(fo.2.1 8 6).1]; exact hf.2.2.2.2⟩ hh2 (by show ztg τ2 (a + 2) = _; rw [fl.1]; exact ht2) (LE_sm (LE_sm hle fl f2.2.2.1) (sm _ (by omega)) rfl) (C3_put hC (by omega) hT2 k2 k3 k4)
  refine key 2 0 _ rfl (HIw_sfr (c := 8) (k := 5) (a := a) (v := some (a + 2)) h3 (by decide)) (f1.tr (f2.tr ((f3.mono (by omega)).tr f4))) (by show znx τ3 = _; omega) ?_ z3 ?_ (if_pos ⟨rfl, rfl, rfl⟩) ⟨hfi 0, hfi 1, hfi 2, hfi 3, hfi 6⟩ t13 t3 (LE_sm le3 (sm4 _ (by omega)) rfl) (fun j hj => absurd hj (Nat.not_lt_zero j))
  · show zsl τ3 = _
    rw [s3]; rfl
  · show up3 (zfr τ3) 8 5 a (some (a + 2)) 8 4 a = _
    unfold up3; rw [if_neg (by omega)]; exact r4
end MP
