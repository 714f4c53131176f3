/-! THE CLASS: clear -/
section CW
variable {σ τ υ : zSt} {P : Option Value → zSt → Prop} {X N M n : Nat} {pa aa ea sa : List Nat} {z : Nat → Con} {w : WT}
theorem tape0 {c : Nat} : toC τ (sfi τ 2 1 c 0) c (some []) := by
  refine ⟨0, zai τ 1 (c + 1), ?_, rfl, Nat.zero_le _, fun i h => absurd h (Nat.not_lt_zero i)⟩
  conv => lhs; rw [← C_self (σ := τ) (c := c)]
  rw [C_sfi]
theorem files_w0 : filesT (wT w0) 0 = [] := by decide
theorem path_w0 {n : Nat} (h : PathM τ n 0 (-1) 0 1) (hw : HIw τ) : PathI τ [n] (wT w0) 0 n := by
  obtain ⟨p0, p1, p2, p3, p4, p5, p6, p7⟩ := h
  refine ⟨p0, p1, p2, p3, p4, p5, ?_⟩
  rw [files_w0]; exact (LE_val p6 hw).1
theorem con_w0 {s p : Nat} : con3 (wC w0) (fun _ => none) s p = none := by
  unfold con3
  by_cases h : s = 2
  · rw [if_pos h]
  · rw [if_neg h]; rfl
def clLs (X : Nat) : Nat → Prop := fun l => l = X + 14 ∨ l = X + 16 ∨ l = X + 17
def clFs : Nat → Nat → Nat → Prop := fun c _ _ => c = 1 ∨ c = 6
theorem clear_all_ok (h : Cls σ X w N M) (hI : WInv w) (hP : ∀ τ, Cls τ X sClear.1 (N + 50) (M + 400) → RF σ τ → P (some (.int sClear.2)) τ) : wpM 106 [.ref X] σ P := by
  obtain ⟨pa, aa, ea, sa, z, hG, hR⟩ := h
  have hC := hG.C
  have hH := hG.1
  have hX := hG.2.1
  have hT := hG.2.2.1
  have hTp := hG.2.2.2.2.1
  have hA := hG.2.2.2.2.2.1
  have hK := hG.2.2.2.2.2.2.2.1
  have hz3 : ∀ e ∈ ea, zIs σ e 3 := fun e he => (ent_ok hG he).1
  have hlen : pa.length = tN (wT w) := hT.2.1
  have hzt := x_tree hC hX.1
  have nXl : ∀ j, j = 14 ∨ j = 16 ∨ j = 17 → ¬ X + j = X + 1 + 1 := by intro j hj; omega
  refine (b106 hC).mpr ⟨hX.1, (b74 hC).mpr ⟨hzt, clear_ok hH hT.1 (fun τ1 h1 => ?_)⟩⟩
  have hF1 := Fr_L h1
  have hH1 := h1.2.1
  have hC1 := hH1.1
  have hK1 : CCac τ1 X ea sa (wK w) := CCac_fr hK hF1 hC (x_cache hC hX.1) (nXl 16 (by omega)) (nXl 17 (by omega)) (fun _ => id) (fun _ _ => ⟨fun _ _ => id, fun _ => id, id, fun _ => id⟩)
  have R1 := Rm_L (w := w) hR hK h1 (show X + 1 + 1 ≠ X + 16 by omega) (show X + 1 + 1 ≠ X + 17 by omega)
  have zt1 := hF1.is hzt
  refine (b74_7 hC1).mpr ⟨zt1, b74_14.mpr ?_⟩
  have hw1 : HIw (zNew τ1 8) := HIw_new (HIw_of hH1)
  have f1 : NewF τ1 (zNew τ1 8) (znx τ1) := NewF_new hH1.2.1 (Nat.le_refl _)
  have t1 : ztg (zNew τ1 8) (znx τ1) = (1, 8, 0) := if_pos rfl
  refine mkP_ok hw1 (zIs_of t1) rfl (Or.inr rfl) (fun τ2 hw2 f2 n2 s2 sh2 pm2 => ?_)
  have f12 := f1.tr f2
  have hH2 : HI τ2 := HI_new hH1 f12 hw2 (fun a h1 h2 => sh2 a h1 (by omega))
  have hC2 := hH2.1
  have hF2 := Fr_new hH1.2.1 f12
  have hK2 : CCac τ2 X ea sa (wK w) := CCac_fr hK1 hF2 hC1 (hF1.is (x_cache hC hX.1)) id id (fun _ => id) (fun _ _ => ⟨fun _ _ => id, fun _ => id, id, fun _ => id⟩)
  have R2 : Rm τ2 X ea sa (N + 19) (M + 251) := by
    have d1 := hF2.cap id hK1.1
    have d2 := hF2.cap id hK1.2.1
    have sl : zsl τ2 = zsl τ1 + 144 := by
      rw [s2]
      show zsl τ1 + (cRow 8).2.2 + 137 = _
      rw [show (cRow 8).2.2 = 7 from rfl]
    have R1' : Rm τ1 X ea sa (N + 10) (M + 40) := Rm_mono R1 (by simp) (by simp)
    unfold Rm RmN at R1' ⊢
    rw [d1, d2, n2, sl]
    omega
  have l2 := hF2.lst id h1.2.2.1
  refine b74_22.mpr ⟨l2.1, add_ok hH2 l2 (by simp) (by unfold zAsg; rw [pm2.1.1, pm2.1.2]; rfl) (fun τ3 h3 => b74_25.mpr ?_)⟩
  have hF3 := Fr_L h3
  have hH3 := h3.2.1
  have hC3 := hH3.1
  have hF03 : Fr σ τ3 no1 no1 (fun l => l = X + 1 + 1) no3 := (hF1.trans (hF2.mono (fun _ => id) (fun _ => id) (fun _ => False.elim) (fun _ _ _ => id)) hC1).trans hF3 hC2
  have hK3 : CCac τ3 X ea sa (wK w) := CCac_fr hK2 hF3 hC2 (hF2.is (hF1.is (x_cache hC hX.1))) (nXl 16 (by omega)) (nXl 17 (by omega)) (fun _ => id) (fun _ _ => ⟨fun _ _ => id, fun _ => id, id, fun _ => id⟩)
  have R3 := Rm_L (w := w) R2 hK2 h3 (show X + 1 + 1 ≠ X + 16 by omega) (show X + 1 + 1 ≠ X + 17 by omega)
  have hX3 := XOk_fr hX hF03
  -- the tape
  refine (b106_7 hC3).mpr ⟨hX3.1, ?_⟩
  have h4 : toC τ3 (sfi τ3 2 1 (X + 11) 0) (X + 11) (some []) := tape0
  have hF4 := Fr_C h4
  have hH4 := HI_C h4 hH3
  have hN4 := NA_C h4
  have c4 := toC_cnt (hF03.cnt hC id hTp) h4
  generalize sfi τ3 2 1 (X + 11) 0 = τ4 at *
  have hC4 := hH4.1
  have hX4 := XOk_fr hX3 hF4
  have l4 := hF4.lst id (hF03.lst (nXl 14 (by omega)) hA.1)
  have hK4 : CCac τ4 X ea sa (wK w) := by
    refine CCac_fr hK3 hF4 hC3 (x_cache hC3 hX3.1) id id (fun _ => id) (fun q hq => ⟨fun k hk r => ?_, fun _ => id, id, fun _ => id⟩)
    exact (oc_X hC3 (zIs_of (cs_T hC3 le_3_1 (hF03.is (hz3 q hq)))) hX3 hk).1 r
  have R4 : Rm τ4 X ea sa (N + 31) (M + 299) := Rm_fr (w := w) (Rm_mono R3 (by simp) (by simp)) hF4 hK3 hN4
  refine clear_ok hH4 l4 (fun τ5 h5 => (b106_25 h5.2.1.1).mpr ?_)
  have hF5 := Fr_L h5
  have hH5 := h5.2.1
  have hC5 := hH5.1
  have hX5 := XOk_fr hX4 hF5
  have R5 := Rm_L (w := w) R4 hK4 h5 (show X + 13 + 1 ≠ X + 16 by omega) (show X + 13 + 1 ≠ X + 17 by omega)
  have hK5 : CCac τ5 X ea sa (wK w) := CCac_fr hK4 hF5 hC4 (x_cache hC4 hX4.1) (show ¬ X + 16 = X + 13 + 1 by omega) (show ¬ X + 17 = X + 13 + 1 by omega) (fun _ => id) (fun _ _ => ⟨fun _ _ => id, fun _ => id, id, fun _ => id⟩)
  have R5' : RmN τ5 X (ea ++ sa).length (N + 41) (M + 339) := Rm_mono R5 (by simp) (by simp)
  have z5 : ∀ e ∈ ea, zIs τ5 e 3 := fun e he => hF5.is (hF4.is (hF03.is (hz3 e he)))
  obtain ⟨g0, g1, g2, g3, g4, _⟩ := hK5
  refine ⟨hX5.1, b7.mpr ⟨x_cache hC5 hX5.1, drop_ok hH5 (x_cache hC5 hX5.1) g0 g1 z5 (by simpa using g3) R5' (fun τ6 hH6 hv6 hs6 k3 k2 k4 hF6 hR6 => b7_4.mpr ⟨hF6.is (x_cache hC5 hX5.1), ?_⟩)⟩⟩
  have hC6 := hH6.1
  have hX6 := XOk_fr hX5 hF6
  have z17 := x_cache hC6 hX6.1
  have hF7 : Fr τ6 (sfi (sfi τ6 1 2 (X + 15) 1000) 1 4 (X + 15) 0) no1 no1 no1 (fun c _ _ => c = 1) :=
    ((Fr_fi (σ := τ6) (c := 1) (k := 2) (a := X + 15) (v := 1000) (by decide) (by decide) (by decide) (by decide)).mono (fun _ => id) (fun _ => id) (fun _ => id) (fun _ _ _ r => r.1)).trans ((Fr_fi (σ := sfi τ6 1 2 (X + 15) 1000) (c := 1) (k := 4) (a := X + 15) (v := 0) (by decide) (by decide) (by decide) (by decide)).mono (fun _ => id) (fun _ => id) (fun _ => id) (fun _ _ _ r => r.1)) (show CShape (sfi τ6 1 2 (X + 15) 1000) from hC6)
  have e72 : zfi (sfi (sfi τ6 1 2 (X + 15) 1000) 1 4 (X + 15) 0) 1 2 (X + 15) = 1000 := by
    show up3 (up3 (zfi τ6) 1 2 (X + 15) 1000) 1 4 (X + 15) 0 1 2 (X + 15) = _
    unfold up3; simp
  have e73 : zfi (sfi (sfi τ6 1 2 (X + 15) 1000) 1 4 (X + 15) 0) 1 3 (X + 15) = 0 := by
    show up3 (up3 (zfi τ6) 1 2 (X + 15) 1000) 1 4 (X + 15) 0 1 3 (X + 15) = _
    unfold up3; simp; exact k3
  have e74 : zfi (sfi (sfi τ6 1 2 (X + 15) 1000) 1 4 (X + 15) 0) 1 4 (X + 15) = 0 := if_pos ⟨rfl, rfl, rfl⟩
  have hH7 : HI (sfi (sfi τ6 1 2 (X + 15) 1000) 1 4 (X + 15) 0) := hH6
  have hR7 : RmN (sfi (sfi τ6 1 2 (X + 15) 1000) 1 4 (X + 15) 0) X (ea ++ sa).length (N + 41) (M + 339) := hR6
  generalize sfi (sfi τ6 1 2 (X + 15) 1000) 1 4 (X + 15) 0 = τ7 at *
  have hC7 := hH7.1
  have hX7 := XOk_fr hX6 hF7
  refine (b106_32 hC7).mpr ⟨hX7.1, logReset_ok (x_log hC7 hX7.1) (fun τ8 h8 => b106_39.mpr ?_)⟩
  have hF8 := Fr_G h8
  have hH8 := HI_G h8 hH7
  have hN8 := NA_G h8
  have hlog := toG_log h8 (x_log hC7 hX7.1)
  have hF58 : Fr τ5 τ8 no1 no1 (cLs X) clFs := ((hF6.mono (Cs' := no1) (Ks' := no1) (Ls' := cLs X) (Fs' := clFs) (fun _ => id) (fun _ => id) (fun _ r => r) (fun _ _ _ r => Or.inl r)).trans (hF7.mono (fun _ => id) (fun _ => id) (fun _ => False.elim) (fun _ _ _ r => Or.inl r)) hC6).trans (hF8.mono (fun _ => id) (fun _ => id) (fun _ => False.elim) (fun _ _ _ r => Or.inr r)) hC7
  have hF38 : Fr τ3 τ8 (fun c => c = X + 11) no1 (clLs X) clFs := ((hF4.mono (Ks' := no1) (Ls' := clLs X) (Fs' := clFs) (fun _ => id) (fun _ => id) (fun _ => False.elim) (fun _ _ _ => False.elim)).trans (hF5.mono (fun _ => False.elim) (fun _ => id) (fun _ r => Or.inl r) (fun _ _ _ => False.elim)) hC4).trans (hF58.mono (fun _ => False.elim) (fun _ => id) (fun _ r => Or.inr r) (fun _ _ _ => id)) hC5
  have hF78 : Fr τ6 τ8 no1 no1 no1 clFs := (hF7.mono (Fs' := clFs) (fun _ => id) (fun _ => id) (fun _ => id) (fun _ _ _ r => Or.inl r)).trans (hF8.mono (fun _ => id) (fun _ => id) (fun _ => id) (fun _ _ _ r => Or.inr r)) hC7
  have hXlt : X + 2 < znx τ1 := tag_lt hH1.2.1 (by rw [h1.2.2.1.1.1]; exact Nat.succ_ne_zero 0)
  have zn3 := hF3.is pm2.1
  have zn8 := hF38.is zn3
  have nf : ∀ k, zfi τ8 8 k (znx τ1) = zfi τ2 8 k (znx τ1) := fun k => by rw [hF38.fi rfl zn3 (fun r => by unfold clFs at r; omega), hF3.fi rfl pm2.1 id]
  have nl : ¬ clLs X (znx τ1 + 2) := fun r => by
    unfold clLs at r
    have := pl_X hC3 zn3 hX3 (j := 14) (by omega)
    have := pl_X hC3 zn3 hX3 (j := 16) (by omega)
    have := pl_X hC3 zn3 hX3 (j := 17) (by omega)
    omega
  obtain ⟨q0, q1, q2, q3, q4, q5, q6⟩ := path_w0 pm2 hw2
  have zc7 := x_cache hC7 hX7.1
  have n6 : ∀ k : Nat, ¬ (fun (c _ _ : Nat) => c = 6) 1 k (X + 15) := fun k r => by
    have r : (1 : Nat) = 6 := r
    omega
  have lv6 := hF78.lst id hv6
  have ls6 := hF78.lst id hs6
  refine hP τ8 ⟨[znx τ1], [], [], sa ++ ea, fun _ => none, ⟨hH8, XOk_fr hX3 hF38, ⟨hF38.lst (fun r => by unfold clLs at r; omega) h3.2.2.1, rfl, fun p hp => ?_⟩, fun s p hs hp => ?_, hF58.cnt hC5 id (hF5.cnt hC4 id c4), ⟨hF58.lst (fun r => by unfold cLs at r; omega) h5.2.2.1, rfl, List.nodup_nil, fun i hi => absurd hi (Nat.not_lt_zero i)⟩, fun s i _ hi => absurd hi (Nat.not_lt_zero i), ⟨lv6, ls6, ?_, ?_, fun e he => ?_, ⟨[], rfl, rfl, fun p hp => absurd hp (by simp)⟩, ?_, ?_, ?_⟩, hlog⟩, ?_⟩ ?_
  · have hp1 : p < 1 := hp
    have hp0 : p = 0 := by omega
    subst hp0
    exact ⟨zn8, by rw [show pA [znx τ1] 0 = znx τ1 from rfl, nf]; exact q1, by rw [show pA [znx τ1] 0 = znx τ1 from rfl, nf]; exact q2, by rw [show pA [znx τ1] 0 = znx τ1 from rfl, nf]; exact q3, by rw [show pA [znx τ1] 0 = znx τ1 from rfl, nf]; exact q4, by rw [show pA [znx τ1] 0 = znx τ1 from rfl, nf]; exact q5, hF38.lst nl (hF3.lst (fun r => by have r : znx τ1 + 2 = X + 1 + 1 := r; omega) q6)⟩
  · have hp1 : p < 1 := hp
    have hp0 : p = 0 := by omega
    subst hp0
    show Cnt τ8 (znx τ1 + 3 + 2 * s) (con3 (wC w0) (fun _ => none) s 0)
    rw [con_w0]
    exact hF38.cnt hC3 (fun r => (pc_X hC3 zn3 hX3 hs).1 r) (hF3.cnt hC2 id (pm2.2.2.2.2.2.2.2 s hs))
  · rw [List.nil_append]; exact (List.perm_append_comm.nodup_iff).mp g2
  · simp at g3 ⊢; omega
  · rcases List.mem_append.mp he with he | he
    · exact hF58.is (g4 e he)
    · exact hF58.is (z5 e he)
  · rw [hF8.fi rfl zc7 (n6 2), e72]; rfl
  · rw [hF8.fi rfl zc7 (n6 3), e73]; rfl
  · rw [hF8.fi rfl zc7 (n6 4), e74]; rfl
  · have e1 : (([] : List Nat) ++ (sa ++ ea)).length = (ea ++ sa).length := by simp; omega
    have d1 := hF8.cap id (hF7.lst id hv6)
    have d2 := hF8.cap id (hF7.lst id hs6)
    unfold Rm; rw [e1]
    unfold RmN at hR7 ⊢
    rw [d1, d2, hN8.1, hN8.2]
    omega
  · exact (hF03.rf (fun _ _ _ r => r.elim)).tr (hF38.rf (fun c k a r => by unfold clFs at r; omega))
end CW
