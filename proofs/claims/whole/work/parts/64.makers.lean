/-! MAKERS: contents, lists, keys, outcomes, entries -/
section ML
variable {σ τ υ : zSt} {P : Option Value → zSt → Prop} {a b c k n t l i q o : Nat} {v : Int32}
theorem ShA_of (hz : zIs τ a c) (h : ∀ e ∈ layL, e.1 = c → zfr τ e.1 e.2.1 a = some (a + e.2.2.1) ∧ ztg τ (a + e.2.2.1) = e.2.2.2) : ShA τ a := by
  refine ⟨fun e he hz' => h e he (hz'.2.symm.trans hz.2), fun e _ ht => ?_⟩
  have := hz.1; rw [ht] at this; exact absurd this (by simp)
theorem ShA_arr (ht : ztg τ a = (3, t, n)) (h : ∀ e ∈ layA, e.1 = t → e.2.1 = n → ∀ i, i < n → zar τ t a i = some (a + e.2.2.1 + e.2.2.2.1 * i) ∧ ztg τ (a + e.2.2.1 + e.2.2.2.1 * i) = e.2.2.2.2) : ShA τ a := by
  refine ⟨fun e _ hz => ?_, fun e he ht' i hi => ?_⟩
  · have := hz.1; rw [ht] at this; exact absurd this (by simp)
  · rw [ht] at ht'
    have e1 : e.1 = t := (congrArg (fun q => q.2.1) ht').symm
    have e2 : e.2.1 = n := (congrArg (fun q => q.2.2) ht').symm
    rw [e2] at hi
    have := h e he e1 e2 i hi
    rw [← e1] at this
    exact this
theorem Cnt_sm {w : Con} (h : Cnt σ c w) (h1 : SmA σ τ c) (h2 : SmA σ τ (c + 1)) : Cnt τ c w := by
  have e : zai τ 1 (c + 1) = zai σ 1 (c + 1) := by funext i; exact (h2.2.2 1 i).1
  refine ⟨by unfold zIs; rw [h1.1]; exact h.1, ?_⟩
  rw [(h1.2.1 2 1).1, e]; exact h.2
theorem Ky_sm {w : List Int32} (h : Ky σ k w) (h1 : SmA σ τ k) (h2 : SmA σ τ (k + 1)) : Ky τ k w := by
  have e : zai τ 2 (k + 1) = zai σ 2 (k + 1) := by funext i; exact (h2.2.2 2 i).1
  refine ⟨by unfold zIs; rw [h1.1]; exact h.1, ?_⟩
  rw [(h1.2.1 5 2).1, e]; exact h.2
theorem mkC_ok (hw : HIw σ) (hz : zIs σ c 2) (hn : znx σ = c + 1) (hP : ∀ τ, HIw τ → NewF σ τ c → znx τ = c + 2 → zsl τ = zsl σ + 64 → ShA τ c → ShA τ (c + 1) → Cnt τ c none → P none τ) : wpM 14 [.ref c] σ P := by
  refine b14.mpr ⟨⟨by decide, by decide⟩, ?_⟩
  have h1 : HIw (zNewI σ 1 (Int32.toNatClampNeg 64)) := HIw_newI hw
  have f1 : NewF σ (zNewI σ 1 (Int32.toNatClampNeg 64)) c := NewF_newI hw.1 (by omega)
  have z1 := f1.is hz
  refine b14_9.mpr ⟨z1, z1, ?_⟩
  rw [hn]
  have tn : ztg (zNewI σ 1 (Int32.toNatClampNeg 64)) (c + 1) = (2, 1, 64) := by
    show upT (ztg σ) (znx σ) _ (c + 1) = _
    rw [hn]; exact if_pos rfl
  have hw2 : HIw (sfi (sfr (zNewI σ 1 (Int32.toNatClampNeg 64)) 2 0 c (some (c + 1))) 2 1 c (-1)) := HIw_sfr (c := 2) (k := 0) (a := c) (v := some (c + 1)) h1 (by decide)
  refine hP _ hw2 (f1.tr ((NewF_sfr (Nat.le_refl _)).tr (NewF_sfi (Nat.le_refl _)))) (by show znx σ + 1 = _; omega) rfl ?_ (ShA_2 tn) ⟨z1, if_pos ⟨rfl, rfl, rfl⟩⟩
  refine ShA_of z1 (fun e he hc => ?_)
  have key : ∀ e ∈ layL, e.1 = 2 → e = (2, 0, 1, 2, 1, 64) := by decide
  rw [key e he hc]
  exact ⟨if_pos ⟨rfl, rfl, rfl⟩, tn⟩
theorem mkL_ok (hw : HIw σ) (hz : zIs σ l 13) (h0 : zfi σ 13 2 l = 0) (hP : ∀ τ, HIw τ → NewF σ τ l → znx τ = znx σ → zsl τ = zsl σ → ShA τ l → LVal τ l [] → capOf τ l = 0 → P none τ) : wpM 184 [.ref l] σ P := by
  refine b184.mpr (b183.mpr (b182.mpr (b183_4.mpr ⟨hz, b184_4.mpr ⟨hz, ?_⟩⟩)))
  have e1 : zfr (sfr (sfi σ 13 0 l 0) 13 1 l (some (ze0 (sfi σ 13 0 l 0)))) 13 1 l = some (ze0 σ) := if_pos ⟨rfl, rfl, rfl⟩
  refine hP _ (HIw_sfr13 (σ := sfi σ 13 0 l 0) hw) ((NewF_sfi (Nat.le_refl _)).tr (NewF_sfr (Nat.le_refl _))) rfl rfl (ShA_13 hz) ⟨hz, ze0 σ, e1, h0, Or.inl ⟨rfl, hw.2.2.2, rfl⟩, fun i hi => absurd hi (Nat.not_lt_zero i)⟩ ?_
  unfold capOf zrf
  rw [e1]
  show (ztg σ (ze0 σ)).2.2 = 0
  rw [hw.2.2.2]
theorem mkK_ok (hw : HIw σ) (hz : zIs σ k 5) (hn : znx σ = k + 1) (hP : ∀ τ, HIw τ → NewF σ τ k → znx τ = k + 3 → zsl τ = zsl σ + 431 → ShA τ k → ShA τ (k + 1) → ShA τ (k + 2) → Ky τ k [] → P none τ) : wpM 41 [.ref k] σ P := by
  refine b41.mpr ⟨⟨by decide, by decide⟩, ?_⟩
  have h1 : HIw (zNewI σ 2 (Int32.toNatClampNeg 425)) := HIw_newI hw
  have f1 : NewF σ (zNewI σ 2 (Int32.toNatClampNeg 425)) k := NewF_newI hw.1 (by omega)
  have z1 := f1.is hz
  refine b41_10.mpr ⟨z1, ⟨by decide, by decide⟩, ?_⟩
  rw [hn]
  have h2 : HIw (sfr (zNewI σ 2 (Int32.toNatClampNeg 425)) 5 0 k (some (k + 1))) := HIw_sfr h1 (by decide)
  have f2 : NewF (zNewI σ 2 (Int32.toNatClampNeg 425)) (sfr (zNewI σ 2 (Int32.toNatClampNeg 425)) 5 0 k (some (k + 1))) k := NewF_sfr (Nat.le_refl _)
  have n2 : znx (sfr (zNewI σ 2 (Int32.toNatClampNeg 425)) 5 0 k (some (k + 1))) = k + 2 := by show znx σ + 1 = _; omega
  have f3 : NewF (sfr (zNewI σ 2 (Int32.toNatClampNeg 425)) 5 0 k (some (k + 1))) (zNewI (sfr (zNewI σ 2 (Int32.toNatClampNeg 425)) 5 0 k (some (k + 1))) 3 (Int32.toNatClampNeg 6)) k := NewF_newI h2.1 (by omega)
  have h3 : HIw (zNewI (sfr (zNewI σ 2 (Int32.toNatClampNeg 425)) 5 0 k (some (k + 1))) 3 (Int32.toNatClampNeg 6)) := HIw_newI h2
  have z3 := f3.is (f2.is z1)
  have t1 : ztg (zNewI σ 2 (Int32.toNatClampNeg 425)) (k + 1) = (2, 2, 425) := by
    show upT (ztg σ) (znx σ) _ (k + 1) = _
    rw [hn]; exact if_pos rfl
  have t1' : ztg (zNewI (sfr (zNewI σ 2 (Int32.toNatClampNeg 425)) 5 0 k (some (k + 1))) 3 (Int32.toNatClampNeg 6)) (k + 1) = (2, 2, 425) := by
    rw [f3.2.1 (k + 1) (by show (ztg (zNewI σ 2 _) (k + 1)).1 ≠ 0; rw [t1]; exact Nat.succ_ne_zero 1)]; exact t1
  have t2 : ztg (zNewI (sfr (zNewI σ 2 (Int32.toNatClampNeg 425)) 5 0 k (some (k + 1))) 3 (Int32.toNatClampNeg 6)) (k + 2) = (2, 3, 6) := by
    show upT _ (znx (sfr (zNewI σ 2 (Int32.toNatClampNeg 425)) 5 0 k (some (k + 1)))) _ (k + 2) = _
    rw [n2]; exact if_pos rfl
  refine b41_18.mpr ⟨z3, z3, ?_⟩
  rw [n2]
  have e2 : zfi (sfi (sfi (sfi (sfr (zNewI (sfr (zNewI σ 2 (Int32.toNatClampNeg 425)) 5 0 k (some (k + 1))) 3 (Int32.toNatClampNeg 6)) 5 1 k (some (k + 2))) 5 2 k 0) 5 3 k 0) 5 4 k 0) 5 2 k = 0 := by
    show zfi (sfi (sfr (zNewI (sfr (zNewI σ 2 (Int32.toNatClampNeg 425)) 5 0 k (some (k + 1))) 3 (Int32.toNatClampNeg 6)) 5 1 k (some (k + 2))) 5 2 k 0) 5 2 k = 0
    exact if_pos ⟨rfl, rfl, rfl⟩
  refine hP _ (HIw_sfr (c := 5) (k := 1) (a := k) (v := some (k + 2)) h3 (by decide)) (f1.tr (f2.tr (f3.tr ((NewF_sfr (Nat.le_refl _)).tr ((NewF_sfi (Nat.le_refl _)).tr ((NewF_sfi (Nat.le_refl _)).tr (NewF_sfi (Nat.le_refl _)))))))) (by show znx (sfr (zNewI σ 2 (Int32.toNatClampNeg 425)) 5 0 k (some (k + 1))) + 1 = _; omega) rfl ?_ (ShA_2 t1') (ShA_2 t2) ⟨z3, e2, Nat.zero_le _, fun i hi => absurd hi (Nat.not_lt_zero i)⟩
  refine ShA_of z3 (fun e he hc => ?_)
  have key : ∀ e ∈ layL, e.1 = 5 → e = (5, 0, 1, 2, 2, 425) ∨ e = (5, 1, 2, 2, 3, 6) := by decide
  rcases key e he hc with rfl | rfl
  · refine ⟨?_, t1'⟩
    show up3 (up3 (zfr σ) 5 0 k (some (k + 1))) 5 1 k (some (k + 2)) 5 0 k = _
    unfold up3
    rw [if_neg (by omega)]; exact if_pos ⟨rfl, rfl, rfl⟩
  · exact ⟨if_pos ⟨rfl, rfl, rfl⟩, t2⟩
/-- three contents in a row, for a path and for an outcome -/
def C3 (τ : zSt) (t b d m : Nat) : Prop := ∀ j, j < m → zar τ t b j = some (d + 2 * j) ∧ ztg τ (d + 2 * j) = (1, 2, 0) ∧ ShA τ (d + 2 * j) ∧ ShA τ (d + 2 * j + 1) ∧ Cnt τ (d + 2 * j) none
theorem C3_nf {d m : Nat} (h : C3 σ t b d m) (hb : b < d) (hf : NewF σ τ (d + 2 * m)) : C3 τ t b d m := by
  intro j hj
  obtain ⟨h1, h0, h2, h3, h4⟩ := h j hj
  exact ⟨by rw [((hf.1 b (by omega)).2.2 t j).2]; exact h1, by rw [(hf.1 _ (by omega)).1]; exact h0, ShA_sm h2 (hf.1 _ (by omega)) hf.2.1, ShA_sm h3 (hf.1 _ (by omega)) hf.2.1, Cnt_sm h4 (hf.1 _ (by omega)) (hf.1 _ (by omega))⟩
theorem C3_put {d m : Nat} (h : C3 σ t b d m) (hb : b < d) (h0 : ztg σ (d + 2 * m) = (1, 2, 0)) (h2 : ShA σ (d + 2 * m)) (h3 : ShA σ (d + 2 * m + 1)) (h4 : Cnt σ (d + 2 * m) none) : C3 (sar σ t b m (some (d + 2 * m))) t b d (m + 1) := by
  have sm : ∀ a, a ≠ b → SmA σ (sar σ t b m (some (d + 2 * m))) a := fun a ha => ⟨rfl, fun _ _ => ⟨rfl, rfl, rfl⟩, fun _ _ => ⟨rfl, if_neg (fun q => ha q.2.1)⟩⟩
  intro j hj
  by_cases e : j = m
  · subst e
    exact ⟨if_pos ⟨rfl, rfl, rfl⟩, h0, ShA_sm h2 (sm _ (by omega)) (fun _ _ => rfl), ShA_sm h3 (sm _ (by omega)) (fun _ _ => rfl), Cnt_sm h4 (sm _ (by omega)) (sm _ (by omega))⟩
  · obtain ⟨k1, k0, k2, k3, k4⟩ := h j (by omega)
    have ea : zar (sar σ t b m (some (d + 2 * m))) t b j = zar σ t b j := if_neg (fun q => e q.2.2)
    exact ⟨by rw [ea]; exact k1, k0, ShA_sm k2 (sm _ (by omega)) (fun _ _ => rfl), ShA_sm k3 (sm _ (by omega)) (fun _ _ => rfl), Cnt_sm k4 (sm _ (by omega)) (sm _ (by omega))⟩
theorem C3_sh {d m : Nat} (h : C3 σ t b d m) (ha : d ≤ a) (hb : a < d + 2 * m) : ShA σ a := by
  have h2 : ∃ j, j < m ∧ (a = d + 2 * j ∨ a = d + 2 * j + 1) := ⟨(a - d) / 2, by omega, by omega⟩
  obtain ⟨j, hj, e⟩ := h2
  obtain ⟨_, _, k2, k3, _⟩ := h j hj
  rcases e with e | e
  · rw [e]; exact k2
  · rw [e]; exact k3
/-- a content more: made at the next address, laid into the array -/
theorem C3_new {d m : Nat} (hw : HIw σ) (h : C3 σ t b d m) (hb : b < d) (hn : znx σ = d + 2 * m) (hP : ∀ τ, HIw τ → NewF σ τ (d + 2 * m) → znx τ = d + 2 * m + 2 → zsl τ = zsl σ + 66 → C3 τ t b d m → ztg τ (d + 2 * m) = (1, 2, 0) → ShA τ (d + 2 * m) → ShA τ (d + 2 * m + 1) → Cnt τ (d + 2 * m) none → P none τ) : wpM 14 [.ref (d + 2 * m)] (zNew σ 2) P := by
  have h1 : HIw (zNew σ 2) := HIw_new hw
  have f1 : NewF σ (zNew σ 2) (d + 2 * m) := NewF_new hw.1 (by omega)
  have tg : ztg (zNew σ 2) (d + 2 * m) = (1, 2, 0) := by
    show upT (ztg σ) (znx σ) _ (d + 2 * m) = _
    rw [hn]; exact if_pos rfl
  refine mkC_ok h1 (zIs_of tg) (by show znx σ + 1 = _; omega) (fun τ hw2 f2 n2 s2 s3 s4 hc => ?_)
  have hf := f1.tr f2
  refine hP τ hw2 hf n2 ?_ (C3_nf h hb hf) (by rw [f2.2.1 _ (by rw [tg]; exact Nat.succ_ne_zero 0)]; exact tg) s3 s4 hc
  rw [s2]
  show zsl σ + (cRow 2).2.2 + 64 = _
  rw [show (cRow 2).2.2 = 2 from rfl]
theorem mkO_ok (hw : HIw σ) (hz : zIs σ o 7) (hn : znx σ = o + 1) (hP : ∀ τ, HIw τ → NewF σ τ o → znx τ = o + 8 → zsl τ = zsl σ + 201 → (∀ a, o ≤ a → a < o + 8 → ShA τ a) → OutI τ o 0 0 (fun _ => none) → P none τ) : wpM 56 [.ref o] σ P := by
  refine b56.mpr ⟨⟨by decide, by decide⟩, ?_⟩
  have h1 : HIw (zNewR σ 7 (Int32.toNatClampNeg 3)) := HIw_newR hw (by decide)
  have f1 : NewF σ (zNewR σ 7 (Int32.toNatClampNeg 3)) o := NewF_newR hw.1 (by omega)
  have z1 := f1.is hz
  have t1 : ztg (zNewR σ 7 (Int32.toNatClampNeg 3)) (o + 1) = (3, 7, 3) := by
    show upT (ztg σ) (znx σ) _ (o + 1) = _
    rw [hn]; exact if_pos rfl
  refine b56_9.mpr ⟨z1, z1, ?_⟩
  rw [hn]
  have f2 : NewF (zNewR σ 7 (Int32.toNatClampNeg 3)) (sfi (sfi (sfr (zNewR σ 7 (Int32.toNatClampNeg 3)) 7 0 o (some (o + 1))) 7 1 o 0) 7 2 o 0) o := (NewF_sfr (Nat.le_refl _)).tr ((NewF_sfi (Nat.le_refl _)).tr (NewF_sfi (Nat.le_refl _)))
  have key : ∀ e m τ, m + e = 3 → HIw τ → NewF σ τ o → znx τ = o + 2 + 2 * m → zsl τ = zsl σ + 3 + 66 * m → zIs τ o 7 → zfr τ 7 0 o = some (o + 1) → zfi τ 7 1 o = 0 → zfi τ 7 2 o = 0 → ztg τ (o + 1) = (3, 7, 3) → C3 τ 7 (o + 1) (o + 2) m → wp 56 24 [some (.ref o), some (.int (nI m))] [] τ P := by
    intro e
    induction e with
    | zero =>
      intro m τ em hw hF hnx hsl hz hr h71 h72 ht hC3
      have em : m = 3 := by omega
      subst em
      have er : zrf τ 7 0 o = o + 1 := by unfold zrf; rw [hr]; rfl
      refine b56_24.mpr ⟨hz, by rw [hr]; rfl, by rw [er, ht]; exact Or.inr (Or.inl rfl), ifp ?_ (b56_52.mpr (hP τ hw hF (by omega) (by omega) (fun a ha hb => ?_) ⟨hz, h71, h72, fun k hk => (hC3 k hk).2.2.2.2⟩))⟩
      · rw [er]; unfold zln; rw [ht]; exact nI_le (a := 3) (b := 3) (by omega) (by omega)
      · by_cases c0 : a = o
        · subst c0
          refine ShA_of hz (fun e he hc => ?_)
          have key : ∀ e ∈ layL, e.1 = 7 → e = (7, 0, 1, 3, 7, 3) := by decide
          rw [key e he hc]; exact ⟨hr, ht⟩
        by_cases c1 : a = o + 1
        · subst c1
          refine ShA_arr ht (fun e he hc _ i hi => ?_)
          have key : ∀ e ∈ layA, e.1 = 7 → e.2.2.1 = 1 ∧ e.2.2.2.1 = 2 ∧ e.2.2.2.2 = (1, 2, 0) := by decide
          obtain ⟨q1, q2, q3⟩ := key e he hc
          rw [q1, q2, q3]
          obtain ⟨k1, k0, _⟩ := hC3 i hi
          rw [show o + 1 + 1 + 2 * i = o + 2 + 2 * i by omega]
          exact ⟨k1, k0⟩
        · exact C3_sh hC3 (by omega) (by omega)
    | succ e ih =>
      intro m τ em hw hF hnx hsl hz hr h71 h72 ht hC3
      have hm : m < 3 := by omega
      have er : zrf τ 7 0 o = o + 1 := by unfold zrf; rw [hr]; rfl
      refine b56_24.mpr ⟨hz, by rw [hr]; rfl, by rw [er, ht]; exact Or.inr (Or.inl rfl), ifn ?_ (b56_33.mpr ⟨hz, by rw [hr]; rfl, b56_41.mpr ?_⟩)⟩
      · rw [er]; unfold zln; rw [ht]; exact nI_ge (b := 3) hm (by omega)
      rw [er, hnx]
      refine C3_new hw hC3 (by omega) hnx (fun τ2 hw2 f2 n2 s2 hC hT2 k2 k3 k4 => b56_45.mpr ?_)
      have ht2 : ztg τ2 (o + 1) = (3, 7, 3) := by rw [(f2.1 (o + 1) (by omega)).1]; exact ht
      rw [ht2, hT2, nI_clamp (by omega)]
      refine ⟨⟨rfl, rfl, nI_in (N := 3) hm (by omega)⟩, ?_⟩
      rw [nI_1]
      have fo := f2.1 o (by omega)
      exact ih (m + 1) _ (by omega) (HIw_sar hw2 (by decide)) (hF.tr ((f2.mono (by omega)).tr (NewF_sar (by omega)))) (by show znx τ2 = _; omega) (by show zsl τ2 = _; omega) (f2.is hz) (by show zfr τ2 7 0 o = _; rw [(fo.2.1 7 0).2.2]; exact hr) (by show zfi τ2 7 1 o = _; rw [(fo.2.1 7 1).1]; exact h71) (by show zfi τ2 7 2 o = _; rw [(fo.2.1 7 2).1]; exact h72) ht2 (C3_put hC (by omega) hT2 k2 k3 k4)
  refine key 3 0 _ rfl (HIw_sfr (c := 7) (k := 0) (a := o) (v := some (o + 1)) h1 (by decide)) (f1.tr f2) (by show znx σ + 1 = _; omega) rfl z1 (if_pos ⟨rfl, rfl, rfl⟩) ?_ (if_pos ⟨rfl, rfl, rfl⟩) t1 (fun j hj => absurd hj (Nat.not_lt_zero j))
  show zfi (sfi (sfr (zNewR σ 7 (Int32.toNatClampNeg 3)) 7 0 o (some (o + 1))) 7 1 o 0) 7 1 o = 0
  exact if_pos ⟨rfl, rfl, rfl⟩
/-- an entry -/
theorem mkE_ok (hw : HIw σ) (hz : zIs σ q 3) (hn : znx σ = q + 1) (hP : ∀ τ, HIw τ → NewF σ τ q → znx τ = q + 12 → zsl τ = zsl σ + 640 → (∀ a, q ≤ a → a < q + 12 → ShA τ a) → zIs τ q 3 → P none τ) : wpM 28 [.ref q] σ P := by
  refine b28.mpr (b28_8.mpr ?_)
  rw [hn]
  have h1 : HIw (zNew σ 5) := HIw_new hw
  have f1 : NewF σ (zNew σ 5) q := NewF_new hw.1 (by omega)
  have t1 : ztg (zNew σ 5) (q + 1) = (1, 5, 0) := by
    show upT (ztg σ) (znx σ) _ (q + 1) = _
    rw [hn]; exact if_pos rfl
  refine mkK_ok h1 (zIs_of t1) (by show znx σ + 1 = _; omega) (fun τ2 h2 f2 n2 s2 k0 k1 k2 hk => b28_12.mpr ?_)
  have z2 : zIs τ2 q 3 := f2.is (f1.is hz)
  have t2 : ztg τ2 (q + 1) = (1, 5, 0) := by rw [f2.2.1 _ (by rw [t1]; exact Nat.succ_ne_zero 0)]; exact t1
  refine ⟨z2, b28_19.mpr ?_⟩
  have n3 : znx (sfr τ2 3 0 q (some (q + 1))) = q + 4 := by show znx τ2 = _; omega
  rw [n3]
  have h3 : HIw (sfr τ2 3 0 q (some (q + 1))) := HIw_sfr h2 (by decide)
  have f3 : NewF τ2 (sfr τ2 3 0 q (some (q + 1))) q := NewF_sfr (Nat.le_refl _)
  have h4 : HIw (zNew (sfr τ2 3 0 q (some (q + 1))) 7) := HIw_new h3
  have f4 : NewF (sfr τ2 3 0 q (some (q + 1))) (zNew (sfr τ2 3 0 q (some (q + 1))) 7) (q + 4) := NewF_new h3.1 (by omega)
  have t4 : ztg (zNew (sfr τ2 3 0 q (some (q + 1))) 7) (q + 4) = (1, 7, 0) := by
    show upT _ (znx (sfr τ2 3 0 q (some (q + 1)))) _ (q + 4) = _
    rw [n3]; exact if_pos rfl
  refine mkO_ok h4 (zIs_of t4) (by show znx (sfr τ2 3 0 q (some (q + 1))) + 1 = _; omega) (fun τ5 h5 f5 n5 s5 sh5 ho => b28_23.mpr ?_)
  have f45 : NewF (sfr τ2 3 0 q (some (q + 1))) τ5 (q + 4) := f4.tr f5
  have z5 : zIs τ5 q 3 := f45.is (show zIs (sfr τ2 3 0 q (some (q + 1))) q 3 from z2)
  have t5 : ztg τ5 (q + 1) = (1, 5, 0) := by rw [(f45.1 _ (by omega)).1]; exact t2
  have t5' : ztg τ5 (q + 4) = (1, 7, 0) := by rw [f5.2.1 _ (by rw [t4]; exact Nat.succ_ne_zero 0)]; exact t4
  refine ⟨z5, z5, ?_⟩
  have r0 : zfr τ5 3 0 q = some (q + 1) := by rw [((f45.1 q (by omega)).2.1 3 0).2.2]; exact if_pos ⟨rfl, rfl, rfl⟩
  have f6 : NewF τ5 (sfi (sfl (sfr τ5 3 1 q (some (q + 4))) 3 2 q 0) 3 3 q 0) q := (NewF_sfr (Nat.le_refl _)).tr ((NewF_sfl (Nat.le_refl _)).tr (NewF_sfi (Nat.le_refl _)))
  have sm6 : ∀ a, a ≠ q → SmA τ5 (sfi (sfl (sfr τ5 3 1 q (some (q + 4))) 3 2 q 0) 3 3 q 0) a := fun a ha => ⟨rfl, fun _ _ => ⟨if_neg (fun r => ha r.2.2), if_neg (fun r => ha r.2.2), if_neg (fun r => ha r.2.2)⟩, fun _ _ => ⟨rfl, rfl⟩⟩
  refine hP _ (HIw_sfr (c := 3) (k := 1) (a := q) (v := some (q + 4)) h5 (by decide)) (f1.tr ((f2.mono (by omega)).tr (f3.tr ((f45.mono (by omega)).tr f6)))) (by show znx τ5 = _; omega) ?_ (fun a ha hb => ?_) z5
  · show zsl τ5 = _
    rw [s5]
    show zsl τ2 + (cRow 7).2.2 + 201 = _
    rw [s2]
    show zsl σ + (cRow 5).2.2 + 431 + (cRow 7).2.2 + 201 = _
    rw [show (cRow 5).2.2 = 5 from rfl, show (cRow 7).2.2 = 3 from rfl]
  · by_cases c0 : a = q
    · subst c0
      refine ShA_of (τ := sfi (sfl (sfr τ5 3 1 a (some (a + 4))) 3 2 a 0) 3 3 a 0) z5 (fun e he hc => ?_)
      have key : ∀ e ∈ layL, e.1 = 3 → e = (3, 0, 1, 1, 5, 0) ∨ e = (3, 1, 4, 1, 7, 0) := by decide
      rcases key e he hc with rfl | rfl
      · refine ⟨?_, t5⟩
        show up3 (zfr τ5) 3 1 a (some (a + 4)) 3 0 a = _
        unfold up3; rw [if_neg (by omega)]; exact r0
      · exact ⟨if_pos ⟨rfl, rfl, rfl⟩, t5'⟩
    · refine ShA_sm ?_ (sm6 a c0) (fun _ _ => rfl)
      by_cases c4 : q + 4 ≤ a
      · exact sh5 a c4 (by omega)
      · have : ShA τ2 a := by
          have : a = q + 1 ∨ a = q + 1 + 1 ∨ a = q + 1 + 2 := by omega
          rcases this with r | r | r <;> rw [r] <;> assumption
        have s3 : SmA τ2 (sfr τ2 3 0 q (some (q + 1))) a := ⟨rfl, fun _ _ => ⟨rfl, rfl, if_neg (fun r => c0 r.2.2)⟩, fun _ _ => ⟨rfl, rfl⟩⟩
        exact ShA_sm this (s3.tr (f45.1 a (by omega))) (fun x hx => f45.2.1 x hx)
end ML
