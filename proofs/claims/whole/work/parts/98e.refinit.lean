/-! THE REFERENCE: a new object (written by wip/whole/p98e.py) -/
section RIN
variable {σ τ υ σ0 : zSt} {P : Option Value → zSt → Prop} {o n s t t' k a b l i : Nat} {c20 : Int32}
def rIx (t : Nat) : Nat := rIxL.getD (t - 20) 0
/-- n arrays are made, all but the last stored -/
def IM (σ0 τ : zSt) (o n s : Nat) (c20 : Int32) : Prop := HIw τ ∧ NewF σ0 τ o ∧ znx τ = o + 1 + n ∧ zsl τ = zsl σ0 + s ∧ ztg τ o = (1, 12, 0) ∧ (∀ t, rOk t = true → rIx t < n → ztg τ (rad o t) = (2, t, rlen t) ∧ ∀ i, zai τ t (rad o t) i = 0) ∧ (∀ t, rOk t = true → rIx t + 1 < n → zfr τ 12 (t - 20) o = some (rad o t)) ∧ ∀ k, zfi τ 12 k o = if k = 0 then 1 else if k = 20 then c20 else 0
/-- the last one is stored -/
theorem IM_put (h : IM σ0 σ o n s c20) (ht : rOk t = true) (hi : rIx t + 1 = n) : HIw (sfr σ 12 (t - 20) o (some (rad o t))) ∧ NewF σ0 (sfr σ 12 (t - 20) o (some (rad o t))) o ∧ (∀ u, rOk u = true → rIx u < n → zfr (sfr σ 12 (t - 20) o (some (rad o t))) 12 (u - 20) o = some (rad o u)) := by
  obtain ⟨h1, h2, h3, h4, h5, h6, h7, h8⟩ := h
  refine ⟨HIw_sfr h1 (by decide), h2.tr (NewF_sfr (Nat.le_refl _)), fun u hu hl => ?_⟩
  show up3 (zfr σ) 12 (t - 20) o (some (rad o t)) 12 (u - 20) o = _
  unfold up3
  by_cases c : u - 20 = t - 20
  · rw [if_pos ⟨rfl, c, rfl⟩]
    have : u = t := by
      have a1 : 20 ≤ u := by simp [rOk] at hu; omega
      have a2 : 20 ≤ t := by simp [rOk] at ht; omega
      omega
    rw [this]
  · rw [if_neg (fun r => c r.2.1)]
    refine h7 u hu ?_
    have : rIx u ≠ rIx t := fun r => c (by
      have := rad_inj (o := o) hu ht (by unfold rad; unfold rIx at r; rw [r])
      rw [this])
    omega
theorem IM_step (h : IM σ0 σ o n s c20) (ht : rOk t = true) (hi : rIx t + 1 = n) (ht' : rOk t' = true) (hi' : rIx t' = n) : IM σ0 (zNewI (sfr σ 12 (t - 20) o (some (rad o t))) t' (rlen t')) o (n + 1) (s + rlen t') c20 := by
  obtain ⟨p1, p2, p3⟩ := IM_put h ht hi
  obtain ⟨h1, h2, h3, h4, h5, h6, h7, h8⟩ := h
  have nx : znx (sfr σ 12 (t - 20) o (some (rad o t))) = o + 1 + n := h3
  have tg5 : ztg (sfr σ 12 (t - 20) o (some (rad o t))) o = (1, 12, 0) := h5
  have sl : zsl (sfr σ 12 (t - 20) o (some (rad o t))) = zsl σ0 + s := h4
  have h6' : ∀ t, rOk t = true → rIx t < n → ztg (sfr σ 12 (t - 20) o (some (rad o t))) (rad o t) = (2, t, rlen t) ∧ ∀ i, zai (sfr σ 12 (t - 20) o (some (rad o t))) t (rad o t) i = 0 := h6
  have h6'' : ∀ u, rOk u = true → rIx u < n → ztg (sfr σ 12 (t - 20) o (some (rad o t))) (rad o u) = (2, u, rlen u) ∧ ∀ i, zai (sfr σ 12 (t - 20) o (some (rad o t))) u (rad o u) i = 0 := h6
  have h8' : ∀ k, zfi (sfr σ 12 (t - 20) o (some (rad o t))) 12 k o = if k = 0 then 1 else if k = 20 then c20 else 0 := h8
  clear h6'
  generalize sfr σ 12 (t - 20) o (some (rad o t)) = σ1 at *
  have er : ∀ u, rad o u = o + 1 + rIx u := fun _ => rfl
  refine ⟨HIw_newI p1, p2.tr (NewF_newI p1.1 (by rw [nx]; omega)), by show znx σ1 + 1 = _; rw [nx]; omega, by show zsl σ1 + rlen t' = _; rw [sl, Nat.add_assoc], ?_, fun u hu hl => ?_, fun u hu hl => p3 u hu (by omega), h8'⟩
  · show upT (ztg σ1) (znx σ1) _ o = _
    unfold upT
    rw [if_neg (by omega)]; exact tg5
  · by_cases c : u = t'
    · subst c
      have e1 : rad o u = znx σ1 := by rw [nx, er, hi']
      rw [e1]
      refine ⟨if_pos rfl, fun i => if_pos ⟨rfl, rfl⟩⟩
    · have hne : rIx u ≠ rIx t' := fun r => c (rad_inj (o := o) hu ht' (by rw [er, er, r]))
      have hlt : rIx u < n := by omega
      have hne2 : rad o u ≠ znx σ1 := by rw [nx, er]; omega
      obtain ⟨g1, g2⟩ := h6'' u hu hlt
      refine ⟨?_, fun i => ?_⟩
      · show upT (ztg σ1) (znx σ1) _ (rad o u) = _
        unfold upT
        rw [if_neg hne2]; exact g1
      · show (if u = t' ∧ rad o u = znx σ1 then 0 else zai σ1 u (rad o u) i) = 0
        rw [if_neg (fun r => c r.1)]; exact g2 i
/-- one number is set meanwhile -/
theorem IM_20 {v : Int32} (h : IM σ0 σ o n s c20) : IM σ0 (sfi σ 12 20 o v) o n s v := by
  obtain ⟨h1, h2, h3, h4, h5, h6, h7, h8⟩ := h
  refine ⟨h1, h2.tr (NewF_sfi (Nat.le_refl _)), h3, h4, h5, h6, h7, fun k => ?_⟩
  show up3 (zfi σ) 12 20 o v 12 k o = _
  unfold up3
  by_cases c : k = 20
  · rw [if_pos ⟨rfl, c, rfl⟩, if_neg (by omega), if_pos c]
  · rw [if_neg (fun r => c r.2.1), h8 k, if_neg c, if_neg c]
def scO (σ : zSt) (o : Nat) : ScT := fun k => zfi σ 12 k o
def arO (σ : zSt) (o : Nat) : ArT := fun t i => if rOk t = true then zai σ t (rad o t) i else 0
theorem arO_at (ht : rOk t = true) : arO σ o t i = zai σ t (rad o t) i := if_pos ht
theorem rOv_O : rOv σ o (scO σ o) (arO σ o) = σ := by
  have e : rOv σ o (scO σ o) (arO σ o) = rOv σ o (fun k => zfi σ 12 k o) (fun t => zai σ t (rad o t)) := by
    unfold rOv
    congr 1
    funext t a i
    by_cases h : rOk t = true ∧ a = rad o t
    · rw [if_pos h, if_pos h, arO_at h.1]
    · rw [if_neg h, if_neg h]
  rw [e, rOv_self]
theorem ShA_12 (h : ztg σ a = (1, 12, 0)) : ShA σ a := by
  have key : ∀ e ∈ layL, e.1 ≠ 12 := by decide
  refine ShA_none (fun e he hz => key e he ?_) (fun e _ hz => ?_)
  · have := hz.2; rw [h] at this; exact this.symm
  · rw [h] at hz; exact absurd (congrArg Prod.fst hz) (by show (1 : Nat) ≠ 3; decide)
theorem rIx_all : ∀ i, i < 40 → ∃ t, t < 74 ∧ rOk t = true ∧ rIx t = i := by decide +kernel
theorem rIx_lt : ∀ t, t < 74 → rOk t = true → rIx t < 40 := by decide +kernel
set_option maxRecDepth 20000 in
set_option maxHeartbeats 4000000 in
theorem r_init (hH : HI σ) (ho : znx σ = o) (hP : ∀ τ, HI τ → NewF σ τ (znx σ) → znx τ = o + 41 → zsl τ = zsl σ + 112782 → RShape τ o → RefR (scO τ o) (arO τ o) w0 → P none τ) : wpM 112 [.ref o] (zNew σ 12) P := by
  have hw := HIw_of hH
  have tg0 : ztg (zNew σ 12) o = (1, 12, 0) := by
    show upT (ztg σ) (znx σ) _ o = _
    unfold upT
    rw [if_pos ho.symm]
  refine b112.mpr ⟨zIs_of tg0, by decide, ?_⟩
  have I1 : IM σ (zNewI (sfi (zNew σ 12) 12 0 o 1) 21 (rlen 21)) o 1 114 0 := by
    have hw1 : HIw (sfi (zNew σ 12) 12 0 o 1) := HIw_new (c := 12) hw
    have nx1 : znx (sfi (zNew σ 12) 12 0 o 1) = o + 1 := by show znx σ + 1 = _; rw [ho]
    have f1 : NewF σ (sfi (zNew σ 12) 12 0 o 1) o := (NewF_new hw.1 (by omega)).tr (NewF_sfi (Nat.le_refl _))
    have z1 : ∀ k, zfi (sfi (zNew σ 12) 12 0 o 1) 12 k o = if k = 0 then 1 else 0 := by
      intro k
      show up3 (zfi (zNew σ 12)) 12 0 o 1 12 k o = _
      unfold up3
      by_cases c : k = 0
      · rw [if_pos ⟨rfl, c, rfl⟩, if_pos c]
      · rw [if_neg (fun r => c r.2.1), if_neg c]
        exact if_pos ⟨rfl, ho.symm⟩
    have tg1 : ztg (sfi (zNew σ 12) 12 0 o 1) o = (1, 12, 0) := tg0
    have sl1 : zsl (sfi (zNew σ 12) 12 0 o 1) = zsl σ + (cRow 12).2.2 := rfl
    generalize sfi (zNew σ 12) 12 0 o 1 = σ1 at *
    refine ⟨HIw_newI hw1, f1.tr (NewF_newI hw1.1 (by omega)), by show znx σ1 + 1 = _; omega, by show zsl σ1 + 60 = _; rw [sl1]; rfl, ?_, fun u hu hl => ?_, fun u hu hl => absurd hl (by omega), fun k => ?_⟩
    · show upT (ztg σ1) (znx σ1) _ o = _
      unfold upT
      rw [if_neg (by omega)]; exact tg1
    · have hu0 : rIx u = 0 := by omega
      have e21 : u = 21 := rad_inj (o := o) hu (by decide) (by show o + 1 + rIx u = o + 1 + 0; rw [hu0])
      subst e21
      have e1 : rad o 21 = znx σ1 := by rw [nx1]; rfl
      rw [e1]
      exact ⟨if_pos rfl, fun i => if_pos ⟨rfl, rfl⟩⟩
    · show zfi σ1 12 k o = _
      rw [z1]
      by_cases c : k = 0
      · rw [if_pos c, if_pos c]
      · rw [if_neg c, if_neg c]
        by_cases d : k = 20
        · rw [if_pos d]
        · rw [if_neg d]
  show wp 112 14 [some (.ref o)] [.ref (znx (zNew σ 12)), .ref o] (zNewI (sfi (zNew σ 12) 12 0 o 1) 21 (rlen 21)) P
  rw [show znx (zNew σ 12) = rad o 21 by show znx σ + 1 = _; rw [ho]; rfl]
  generalize zNewI (sfi (zNew σ 12) 12 0 o 1) 21 (rlen 21) = σ1 at I1 ⊢
  refine b112_14.mpr ⟨zIs_of I1.2.2.2.2.1, by decide, ?_⟩
  have I2 := IM_step (t := 21) (t' := 22) I1 (by decide) rfl (by decide) rfl
  show wp 112 22 [some (.ref o)] [.ref (znx σ1), .ref o] (zNewI (sfr σ1 12 1 o (some (rad o 21))) 22 (rlen 22)) P
  rw [show znx σ1 = rad o 22 by rw [I1.2.2.1]; rfl]
  generalize zNewI (sfr σ1 12 1 o (some (rad o 21))) 22 (rlen 22) = σ2 at I2 ⊢
  refine b112_22.mpr ⟨zIs_of I2.2.2.2.2.1, by decide, ?_⟩
  have I3 := IM_step (t := 22) (t' := 23) I2 (by decide) rfl (by decide) rfl
  show wp 112 30 [some (.ref o)] [.ref (znx σ2), .ref o] (zNewI (sfr σ2 12 2 o (some (rad o 22))) 23 (rlen 23)) P
  rw [show znx σ2 = rad o 23 by rw [I2.2.2.1]; rfl]
  generalize zNewI (sfr σ2 12 2 o (some (rad o 22))) 23 (rlen 23) = σ3 at I3 ⊢
  refine b112_30.mpr ⟨zIs_of I3.2.2.2.2.1, by decide, ?_⟩
  have I4 := IM_step (t := 23) (t' := 24) I3 (by decide) rfl (by decide) rfl
  show wp 112 38 [some (.ref o)] [.ref (znx σ3), .ref o] (zNewI (sfr σ3 12 3 o (some (rad o 23))) 24 (rlen 24)) P
  rw [show znx σ3 = rad o 24 by rw [I3.2.2.1]; rfl]
  generalize zNewI (sfr σ3 12 3 o (some (rad o 23))) 24 (rlen 24) = σ4 at I4 ⊢
  refine b112_38.mpr ⟨zIs_of I4.2.2.2.2.1, by decide, ?_⟩
  have I5 := IM_step (t := 24) (t' := 25) I4 (by decide) rfl (by decide) rfl
  show wp 112 47 [some (.ref o)] [.ref (znx σ4), .ref o] (zNewI (sfr σ4 12 4 o (some (rad o 24))) 25 (rlen 25)) P
  rw [show znx σ4 = rad o 25 by rw [I4.2.2.1]; rfl]
  generalize zNewI (sfr σ4 12 4 o (some (rad o 24))) 25 (rlen 25) = σ5 at I5 ⊢
  refine b112_47.mpr ⟨zIs_of I5.2.2.2.2.1, by decide, ?_⟩
  have I6 := IM_step (t := 25) (t' := 26) I5 (by decide) rfl (by decide) rfl
  show wp 112 56 [some (.ref o)] [.ref (znx σ5), .ref o] (zNewI (sfr σ5 12 5 o (some (rad o 25))) 26 (rlen 26)) P
  rw [show znx σ5 = rad o 26 by rw [I5.2.2.1]; rfl]
  generalize zNewI (sfr σ5 12 5 o (some (rad o 25))) 26 (rlen 26) = σ6 at I6 ⊢
  refine b112_56.mpr ⟨zIs_of I6.2.2.2.2.1, by decide, ?_⟩
  have I7 := IM_step (t := 26) (t' := 27) I6 (by decide) rfl (by decide) rfl
  show wp 112 64 [some (.ref o)] [.ref (znx σ6), .ref o] (zNewI (sfr σ6 12 6 o (some (rad o 26))) 27 (rlen 27)) P
  rw [show znx σ6 = rad o 27 by rw [I6.2.2.1]; rfl]
  generalize zNewI (sfr σ6 12 6 o (some (rad o 26))) 27 (rlen 27) = σ7 at I7 ⊢
  refine b112_64.mpr ⟨zIs_of I7.2.2.2.2.1, by decide, ?_⟩
  have I8 := IM_step (t := 27) (t' := 30) I7 (by decide) rfl (by decide) rfl
  show wp 112 73 [some (.ref o)] [.ref (znx σ7), .ref o] (zNewI (sfr σ7 12 7 o (some (rad o 27))) 30 (rlen 30)) P
  rw [show znx σ7 = rad o 30 by rw [I7.2.2.1]; rfl]
  generalize zNewI (sfr σ7 12 7 o (some (rad o 27))) 30 (rlen 30) = σ8 at I8 ⊢
  refine b112_73.mpr ⟨zIs_of I8.2.2.2.2.1, by decide, ?_⟩
  have I9 := IM_step (t := 30) (t' := 31) I8 (by decide) rfl (by decide) rfl
  show wp 112 81 [some (.ref o)] [.ref (znx σ8), .ref o] (zNewI (sfr σ8 12 10 o (some (rad o 30))) 31 (rlen 31)) P
  rw [show znx σ8 = rad o 31 by rw [I8.2.2.1]; rfl]
  generalize zNewI (sfr σ8 12 10 o (some (rad o 30))) 31 (rlen 31) = σ9 at I9 ⊢
  refine b112_81.mpr ⟨zIs_of I9.2.2.2.2.1, by decide, ?_⟩
  have I10 := IM_step (t := 31) (t' := 32) I9 (by decide) rfl (by decide) rfl
  show wp 112 89 [some (.ref o)] [.ref (znx σ9), .ref o] (zNewI (sfr σ9 12 11 o (some (rad o 31))) 32 (rlen 32)) P
  rw [show znx σ9 = rad o 32 by rw [I9.2.2.1]; rfl]
  generalize zNewI (sfr σ9 12 11 o (some (rad o 31))) 32 (rlen 32) = σ10 at I10 ⊢
  refine b112_89.mpr ⟨zIs_of I10.2.2.2.2.1, by decide, ?_⟩
  have I11 := IM_step (t := 32) (t' := 33) I10 (by decide) rfl (by decide) rfl
  show wp 112 97 [some (.ref o)] [.ref (znx σ10), .ref o] (zNewI (sfr σ10 12 12 o (some (rad o 32))) 33 (rlen 33)) P
  rw [show znx σ10 = rad o 33 by rw [I10.2.2.1]; rfl]
  generalize zNewI (sfr σ10 12 12 o (some (rad o 32))) 33 (rlen 33) = σ11 at I11 ⊢
  refine b112_97.mpr ⟨zIs_of I11.2.2.2.2.1, by decide, ?_⟩
  have I12 := IM_step (t := 33) (t' := 34) I11 (by decide) rfl (by decide) rfl
  show wp 112 106 [some (.ref o)] [.ref (znx σ11), .ref o] (zNewI (sfr σ11 12 13 o (some (rad o 33))) 34 (rlen 34)) P
  rw [show znx σ11 = rad o 34 by rw [I11.2.2.1]; rfl]
  generalize zNewI (sfr σ11 12 13 o (some (rad o 33))) 34 (rlen 34) = σ12 at I12 ⊢
  refine b112_106.mpr ⟨zIs_of I12.2.2.2.2.1, by decide, ?_⟩
  have I13 := IM_step (t := 34) (t' := 35) I12 (by decide) rfl (by decide) rfl
  show wp 112 115 [some (.ref o)] [.ref (znx σ12), .ref o] (zNewI (sfr σ12 12 14 o (some (rad o 34))) 35 (rlen 35)) P
  rw [show znx σ12 = rad o 35 by rw [I12.2.2.1]; rfl]
  generalize zNewI (sfr σ12 12 14 o (some (rad o 34))) 35 (rlen 35) = σ13 at I13 ⊢
  refine b112_115.mpr ⟨zIs_of I13.2.2.2.2.1, by decide, ?_⟩
  have I14 := IM_step (t := 35) (t' := 36) I13 (by decide) rfl (by decide) rfl
  show wp 112 123 [some (.ref o)] [.ref (znx σ13), .ref o] (zNewI (sfr σ13 12 15 o (some (rad o 35))) 36 (rlen 36)) P
  rw [show znx σ13 = rad o 36 by rw [I13.2.2.1]; rfl]
  generalize zNewI (sfr σ13 12 15 o (some (rad o 35))) 36 (rlen 36) = σ14 at I14 ⊢
  refine b112_123.mpr ⟨zIs_of I14.2.2.2.2.1, by decide, ?_⟩
  have I15 := IM_step (t := 36) (t' := 37) I14 (by decide) rfl (by decide) rfl
  show wp 112 131 [some (.ref o)] [.ref (znx σ14), .ref o] (zNewI (sfr σ14 12 16 o (some (rad o 36))) 37 (rlen 37)) P
  rw [show znx σ14 = rad o 37 by rw [I14.2.2.1]; rfl]
  generalize zNewI (sfr σ14 12 16 o (some (rad o 36))) 37 (rlen 37) = σ15 at I15 ⊢
  refine b112_131.mpr ⟨zIs_of I15.2.2.2.2.1, by decide, ?_⟩
  have I16 := IM_step (t := 37) (t' := 38) I15 (by decide) rfl (by decide) rfl
  show wp 112 139 [some (.ref o)] [.ref (znx σ15), .ref o] (zNewI (sfr σ15 12 17 o (some (rad o 37))) 38 (rlen 38)) P
  rw [show znx σ15 = rad o 38 by rw [I15.2.2.1]; rfl]
  generalize zNewI (sfr σ15 12 17 o (some (rad o 37))) 38 (rlen 38) = σ16 at I16 ⊢
  refine b112_139.mpr ⟨zIs_of I16.2.2.2.2.1, by decide, ?_⟩
  have I17 := IM_step (t := 38) (t' := 39) I16 (by decide) rfl (by decide) rfl
  show wp 112 148 [some (.ref o)] [.ref (znx σ16), .ref o] (zNewI (sfr σ16 12 18 o (some (rad o 38))) 39 (rlen 39)) P
  rw [show znx σ16 = rad o 39 by rw [I16.2.2.1]; rfl]
  generalize zNewI (sfr σ16 12 18 o (some (rad o 38))) 39 (rlen 39) = σ17 at I17 ⊢
  refine b112_148.mpr ⟨zIs_of I17.2.2.2.2.1, zIs_of I17.2.2.2.2.1, by decide, ?_⟩
  have ex : sfi (sfr σ17 12 19 o (some (rad o 39))) 12 20 o 1000 = sfr (sfi σ17 12 20 o 1000) 12 19 o (some (rad o 39)) := rfl
  rw [ex]
  have I18 := IM_step (t := 39) (t' := 42) (IM_20 (v := 1000) I17) (by decide) rfl (by decide) rfl
  show wp 112 163 [some (.ref o)] [.ref (znx σ17), .ref o] (zNewI (sfr (sfi σ17 12 20 o 1000) 12 19 o (some (rad o 39))) 42 (rlen 42)) P
  rw [show znx σ17 = rad o 42 by rw [I17.2.2.1]; rfl]
  generalize zNewI (sfr (sfi σ17 12 20 o 1000) 12 19 o (some (rad o 39))) 42 (rlen 42) = σ18 at I18 ⊢
  refine b112_163.mpr ⟨zIs_of I18.2.2.2.2.1, by decide, ?_⟩
  have I19 := IM_step (t := 42) (t' := 43) I18 (by decide) rfl (by decide) rfl
  show wp 112 171 [some (.ref o)] [.ref (znx σ18), .ref o] (zNewI (sfr σ18 12 22 o (some (rad o 42))) 43 (rlen 43)) P
  rw [show znx σ18 = rad o 43 by rw [I18.2.2.1]; rfl]
  generalize zNewI (sfr σ18 12 22 o (some (rad o 42))) 43 (rlen 43) = σ19 at I19 ⊢
  refine b112_171.mpr ⟨zIs_of I19.2.2.2.2.1, by decide, ?_⟩
  have I20 := IM_step (t := 43) (t' := 44) I19 (by decide) rfl (by decide) rfl
  show wp 112 179 [some (.ref o)] [.ref (znx σ19), .ref o] (zNewI (sfr σ19 12 23 o (some (rad o 43))) 44 (rlen 44)) P
  rw [show znx σ19 = rad o 44 by rw [I19.2.2.1]; rfl]
  generalize zNewI (sfr σ19 12 23 o (some (rad o 43))) 44 (rlen 44) = σ20 at I20 ⊢
  refine b112_179.mpr ⟨zIs_of I20.2.2.2.2.1, by decide, ?_⟩
  have I21 := IM_step (t := 44) (t' := 45) I20 (by decide) rfl (by decide) rfl
  show wp 112 187 [some (.ref o)] [.ref (znx σ20), .ref o] (zNewI (sfr σ20 12 24 o (some (rad o 44))) 45 (rlen 45)) P
  rw [show znx σ20 = rad o 45 by rw [I20.2.2.1]; rfl]
  generalize zNewI (sfr σ20 12 24 o (some (rad o 44))) 45 (rlen 45) = σ21 at I21 ⊢
  refine b112_187.mpr ⟨zIs_of I21.2.2.2.2.1, by decide, ?_⟩
  have I22 := IM_step (t := 45) (t' := 46) I21 (by decide) rfl (by decide) rfl
  show wp 112 195 [some (.ref o)] [.ref (znx σ21), .ref o] (zNewI (sfr σ21 12 25 o (some (rad o 45))) 46 (rlen 46)) P
  rw [show znx σ21 = rad o 46 by rw [I21.2.2.1]; rfl]
  generalize zNewI (sfr σ21 12 25 o (some (rad o 45))) 46 (rlen 46) = σ22 at I22 ⊢
  refine b112_195.mpr ⟨zIs_of I22.2.2.2.2.1, by decide, ?_⟩
  have I23 := IM_step (t := 46) (t' := 47) I22 (by decide) rfl (by decide) rfl
  show wp 112 203 [some (.ref o)] [.ref (znx σ22), .ref o] (zNewI (sfr σ22 12 26 o (some (rad o 46))) 47 (rlen 47)) P
  rw [show znx σ22 = rad o 47 by rw [I22.2.2.1]; rfl]
  generalize zNewI (sfr σ22 12 26 o (some (rad o 46))) 47 (rlen 47) = σ23 at I23 ⊢
  refine b112_203.mpr ⟨zIs_of I23.2.2.2.2.1, by decide, ?_⟩
  have I24 := IM_step (t := 47) (t' := 48) I23 (by decide) rfl (by decide) rfl
  show wp 112 211 [some (.ref o)] [.ref (znx σ23), .ref o] (zNewI (sfr σ23 12 27 o (some (rad o 47))) 48 (rlen 48)) P
  rw [show znx σ23 = rad o 48 by rw [I23.2.2.1]; rfl]
  generalize zNewI (sfr σ23 12 27 o (some (rad o 47))) 48 (rlen 48) = σ24 at I24 ⊢
  refine b112_211.mpr ⟨zIs_of I24.2.2.2.2.1, by decide, ?_⟩
  have I25 := IM_step (t := 48) (t' := 49) I24 (by decide) rfl (by decide) rfl
  show wp 112 219 [some (.ref o)] [.ref (znx σ24), .ref o] (zNewI (sfr σ24 12 28 o (some (rad o 48))) 49 (rlen 49)) P
  rw [show znx σ24 = rad o 49 by rw [I24.2.2.1]; rfl]
  generalize zNewI (sfr σ24 12 28 o (some (rad o 48))) 49 (rlen 49) = σ25 at I25 ⊢
  refine b112_219.mpr ⟨zIs_of I25.2.2.2.2.1, by decide, ?_⟩
  have I26 := IM_step (t := 49) (t' := 50) I25 (by decide) rfl (by decide) rfl
  show wp 112 228 [some (.ref o)] [.ref (znx σ25), .ref o] (zNewI (sfr σ25 12 29 o (some (rad o 49))) 50 (rlen 50)) P
  rw [show znx σ25 = rad o 50 by rw [I25.2.2.1]; rfl]
  generalize zNewI (sfr σ25 12 29 o (some (rad o 49))) 50 (rlen 50) = σ26 at I26 ⊢
  refine b112_228.mpr ⟨zIs_of I26.2.2.2.2.1, by decide, ?_⟩
  have I27 := IM_step (t := 50) (t' := 51) I26 (by decide) rfl (by decide) rfl
  show wp 112 237 [some (.ref o)] [.ref (znx σ26), .ref o] (zNewI (sfr σ26 12 30 o (some (rad o 50))) 51 (rlen 51)) P
  rw [show znx σ26 = rad o 51 by rw [I26.2.2.1]; rfl]
  generalize zNewI (sfr σ26 12 30 o (some (rad o 50))) 51 (rlen 51) = σ27 at I27 ⊢
  refine b112_237.mpr ⟨zIs_of I27.2.2.2.2.1, by decide, ?_⟩
  have I28 := IM_step (t := 51) (t' := 53) I27 (by decide) rfl (by decide) rfl
  show wp 112 245 [some (.ref o)] [.ref (znx σ27), .ref o] (zNewI (sfr σ27 12 31 o (some (rad o 51))) 53 (rlen 53)) P
  rw [show znx σ27 = rad o 53 by rw [I27.2.2.1]; rfl]
  generalize zNewI (sfr σ27 12 31 o (some (rad o 51))) 53 (rlen 53) = σ28 at I28 ⊢
  refine b112_245.mpr ⟨zIs_of I28.2.2.2.2.1, by decide, ?_⟩
  have I29 := IM_step (t := 53) (t' := 54) I28 (by decide) rfl (by decide) rfl
  show wp 112 253 [some (.ref o)] [.ref (znx σ28), .ref o] (zNewI (sfr σ28 12 33 o (some (rad o 53))) 54 (rlen 54)) P
  rw [show znx σ28 = rad o 54 by rw [I28.2.2.1]; rfl]
  generalize zNewI (sfr σ28 12 33 o (some (rad o 53))) 54 (rlen 54) = σ29 at I29 ⊢
  refine b112_253.mpr ⟨zIs_of I29.2.2.2.2.1, by decide, ?_⟩
  have I30 := IM_step (t := 54) (t' := 55) I29 (by decide) rfl (by decide) rfl
  show wp 112 261 [some (.ref o)] [.ref (znx σ29), .ref o] (zNewI (sfr σ29 12 34 o (some (rad o 54))) 55 (rlen 55)) P
  rw [show znx σ29 = rad o 55 by rw [I29.2.2.1]; rfl]
  generalize zNewI (sfr σ29 12 34 o (some (rad o 54))) 55 (rlen 55) = σ30 at I30 ⊢
  refine b112_261.mpr ⟨zIs_of I30.2.2.2.2.1, by decide, ?_⟩
  have I31 := IM_step (t := 55) (t' := 56) I30 (by decide) rfl (by decide) rfl
  show wp 112 269 [some (.ref o)] [.ref (znx σ30), .ref o] (zNewI (sfr σ30 12 35 o (some (rad o 55))) 56 (rlen 56)) P
  rw [show znx σ30 = rad o 56 by rw [I30.2.2.1]; rfl]
  generalize zNewI (sfr σ30 12 35 o (some (rad o 55))) 56 (rlen 56) = σ31 at I31 ⊢
  refine b112_269.mpr ⟨zIs_of I31.2.2.2.2.1, by decide, ?_⟩
  have I32 := IM_step (t := 56) (t' := 61) I31 (by decide) rfl (by decide) rfl
  show wp 112 277 [some (.ref o)] [.ref (znx σ31), .ref o] (zNewI (sfr σ31 12 36 o (some (rad o 56))) 61 (rlen 61)) P
  rw [show znx σ31 = rad o 61 by rw [I31.2.2.1]; rfl]
  generalize zNewI (sfr σ31 12 36 o (some (rad o 56))) 61 (rlen 61) = σ32 at I32 ⊢
  refine b112_277.mpr ⟨zIs_of I32.2.2.2.2.1, by decide, ?_⟩
  have I33 := IM_step (t := 61) (t' := 62) I32 (by decide) rfl (by decide) rfl
  show wp 112 286 [some (.ref o)] [.ref (znx σ32), .ref o] (zNewI (sfr σ32 12 41 o (some (rad o 61))) 62 (rlen 62)) P
  rw [show znx σ32 = rad o 62 by rw [I32.2.2.1]; rfl]
  generalize zNewI (sfr σ32 12 41 o (some (rad o 61))) 62 (rlen 62) = σ33 at I33 ⊢
  refine b112_286.mpr ⟨zIs_of I33.2.2.2.2.1, by decide, ?_⟩
  have I34 := IM_step (t := 62) (t' := 64) I33 (by decide) rfl (by decide) rfl
  show wp 112 294 [some (.ref o)] [.ref (znx σ33), .ref o] (zNewI (sfr σ33 12 42 o (some (rad o 62))) 64 (rlen 64)) P
  rw [show znx σ33 = rad o 64 by rw [I33.2.2.1]; rfl]
  generalize zNewI (sfr σ33 12 42 o (some (rad o 62))) 64 (rlen 64) = σ34 at I34 ⊢
  refine b112_294.mpr ⟨zIs_of I34.2.2.2.2.1, by decide, ?_⟩
  have I35 := IM_step (t := 64) (t' := 65) I34 (by decide) rfl (by decide) rfl
  show wp 112 302 [some (.ref o)] [.ref (znx σ34), .ref o] (zNewI (sfr σ34 12 44 o (some (rad o 64))) 65 (rlen 65)) P
  rw [show znx σ34 = rad o 65 by rw [I34.2.2.1]; rfl]
  generalize zNewI (sfr σ34 12 44 o (some (rad o 64))) 65 (rlen 65) = σ35 at I35 ⊢
  refine b112_302.mpr ⟨zIs_of I35.2.2.2.2.1, by decide, ?_⟩
  have I36 := IM_step (t := 65) (t' := 67) I35 (by decide) rfl (by decide) rfl
  show wp 112 310 [some (.ref o)] [.ref (znx σ35), .ref o] (zNewI (sfr σ35 12 45 o (some (rad o 65))) 67 (rlen 67)) P
  rw [show znx σ35 = rad o 67 by rw [I35.2.2.1]; rfl]
  generalize zNewI (sfr σ35 12 45 o (some (rad o 65))) 67 (rlen 67) = σ36 at I36 ⊢
  refine b112_310.mpr ⟨zIs_of I36.2.2.2.2.1, by decide, ?_⟩
  have I37 := IM_step (t := 67) (t' := 70) I36 (by decide) rfl (by decide) rfl
  show wp 112 317 [some (.ref o)] [.ref (znx σ36), .ref o] (zNewI (sfr σ36 12 47 o (some (rad o 67))) 70 (rlen 70)) P
  rw [show znx σ36 = rad o 70 by rw [I36.2.2.1]; rfl]
  generalize zNewI (sfr σ36 12 47 o (some (rad o 67))) 70 (rlen 70) = σ37 at I37 ⊢
  refine b112_317.mpr ⟨zIs_of I37.2.2.2.2.1, by decide, ?_⟩
  have I38 := IM_step (t := 70) (t' := 71) I37 (by decide) rfl (by decide) rfl
  show wp 112 326 [some (.ref o)] [.ref (znx σ37), .ref o] (zNewI (sfr σ37 12 50 o (some (rad o 70))) 71 (rlen 71)) P
  rw [show znx σ37 = rad o 71 by rw [I37.2.2.1]; rfl]
  generalize zNewI (sfr σ37 12 50 o (some (rad o 70))) 71 (rlen 71) = σ38 at I38 ⊢
  refine b112_326.mpr ⟨zIs_of I38.2.2.2.2.1, by decide, ?_⟩
  have I39 := IM_step (t := 71) (t' := 72) I38 (by decide) rfl (by decide) rfl
  show wp 112 334 [some (.ref o)] [.ref (znx σ38), .ref o] (zNewI (sfr σ38 12 51 o (some (rad o 71))) 72 (rlen 72)) P
  rw [show znx σ38 = rad o 72 by rw [I38.2.2.1]; rfl]
  generalize zNewI (sfr σ38 12 51 o (some (rad o 71))) 72 (rlen 72) = σ39 at I39 ⊢
  refine b112_334.mpr ⟨zIs_of I39.2.2.2.2.1, by decide, ?_⟩
  have I40 := IM_step (t := 72) (t' := 73) I39 (by decide) rfl (by decide) rfl
  show wp 112 342 [some (.ref o)] [.ref (znx σ39), .ref o] (zNewI (sfr σ39 12 52 o (some (rad o 72))) 73 (rlen 73)) P
  rw [show znx σ39 = rad o 73 by rw [I39.2.2.1]; rfl]
  generalize zNewI (sfr σ39 12 52 o (some (rad o 72))) 73 (rlen 73) = σ40 at I40 ⊢
  have F := IM_put (t := 73) I40 (by decide) rfl
  obtain ⟨h1, h2, h3, h4, h5, h6, h7, h8⟩ := I40
  have g3 : zfr σ40 12 3 o = some (rad o 23) := h7 23 (by decide) (by decide)
  have g1 : zfr σ40 12 1 o = some (rad o 21) := h7 21 (by decide) (by decide)
  have g4 : zfr σ40 12 4 o = some (rad o 24) := h7 24 (by decide) (by decide)
  have z3 : zrf σ40 12 3 o = rad o 23 := by unfold zrf; rw [g3]; rfl
  have z1 : zrf σ40 12 1 o = rad o 21 := by unfold zrf; rw [g1]; rfl
  have z4 : zrf σ40 12 4 o = rad o 24 := by unfold zrf; rw [g4]; rfl
  refine (b112_342 (by rw [z3]; exact (h6 23 (by decide) (by decide)).1) (by rw [z1]; exact (h6 21 (by decide) (by decide)).1) (by rw [z4]; exact (h6 24 (by decide) (by decide)).1)).mpr ⟨zIs_of h5, zIs_of h5, by rw [g3]; rfl, ⟨nI_in (c := 0) (N := 60) (by omega) (by omega), Or.inr rfl⟩, by rw [g1]; rfl, nI_in (c := 0) (N := 60) (by omega) (by omega), by rw [g4]; rfl, nI_in (c := 0) (N := 60) (by omega) (by omega), ?_⟩
  rw [z3, z1, z4, show Int32.toNatClampNeg 0 = 0 from rfl]
  show P none (sai (sai (sai (sfr σ40 12 (73 - 20) o (some (rad o 73))) 23 (rad o 23) 0 1) 21 (rad o 21) 0 (-1)) 24 (rad o 24) 0 (-1))
  obtain ⟨F1, F2, F3⟩ := F
  have tgs : ztg (sfr σ40 12 (73 - 20) o (some (rad o 73))) = ztg σ40 := rfl
  have fis : zfi (sfr σ40 12 (73 - 20) o (some (rad o 73))) = zfi σ40 := rfl
  have ais : zai (sfr σ40 12 (73 - 20) o (some (rad o 73))) = zai σ40 := rfl
  have nxs : znx (sfr σ40 12 (73 - 20) o (some (rad o 73))) = znx σ40 := rfl
  have sls : zsl (sfr σ40 12 (73 - 20) o (some (rad o 73))) = zsl σ40 := rfl
  generalize sfr σ40 12 (73 - 20) o (some (rad o 73)) = υ at *
  have hr74 : ∀ t, rOk t = true → t < 74 := fun t ht => by simp [rOk] at ht; omega
  have tgA : ∀ t, rOk t = true → ztg υ (rad o t) = (2, t, rlen t) := fun t ht => by rw [tgs]; exact (h6 t ht (rIx_lt t (hr74 t ht) ht)).1
  have aiA : ∀ t, rOk t = true → ∀ i, zai υ t (rad o t) i = 0 := fun t ht i => by rw [ais]; exact (h6 t ht (rIx_lt t (hr74 t ht) ht)).2 i
  have fiA : ∀ k, zfi υ 12 k o = if k = 0 then 1 else if k = 20 then 1000 else 0 := fun k => by rw [fis]; exact h8 k
  have av : ∀ t, rOk t = true → ∀ i, arO (sai (sai (sai υ 23 (rad o 23) 0 1) 21 (rad o 21) 0 (-1)) 24 (rad o 24) 0 (-1)) o t i = if t = 24 ∧ i = 0 then -1 else if t = 21 ∧ i = 0 then -1 else if t = 23 ∧ i = 0 then 1 else 0 := by
    intro t ht i
    rw [arO_at ht]
    show up3 (up3 (up3 (zai υ) 23 (rad o 23) 0 1) 21 (rad o 21) 0 (-1)) 24 (rad o 24) 0 (-1) t (rad o t) i = _
    unfold up3
    by_cases c : t = 24 ∧ i = 0
    · rw [if_pos c, if_pos ⟨c.1, by rw [c.1], c.2⟩]
    · rw [if_neg c, if_neg (fun r => c ⟨r.1, r.2.2⟩)]
      by_cases c2 : t = 21 ∧ i = 0
      · rw [if_pos c2, if_pos ⟨c2.1, by rw [c2.1], c2.2⟩]
      · rw [if_neg c2, if_neg (fun r => c2 ⟨r.1, r.2.2⟩)]
        by_cases c3 : t = 23 ∧ i = 0
        · rw [if_pos c3, if_pos ⟨c3.1, by rw [c3.1], c3.2⟩]
        · rw [if_neg c3, if_neg (fun r => c3 ⟨r.1, r.2.2⟩)]
          exact aiA t ht i
  have hN : NewF σ (sai (sai (sai υ 23 (rad o 23) 0 1) 21 (rad o 21) 0 (-1)) 24 (rad o 24) 0 (-1)) (znx σ) := by
    rw [ho]
    have ns : ∀ (τ : zSt) (t a i : Nat) (v : Int32), o ≤ a → NewF τ (sai τ t a i v) o := fun τ t a i v ha => ⟨fun b hb => ⟨rfl, fun _ _ => ⟨rfl, rfl, rfl⟩, fun _ _ => ⟨if_neg (fun r => by omega), rfl⟩⟩, fun _ _ => rfl, rfl, rfl, Nat.le_refl _⟩
    exact F2.tr (((ns _ _ _ _ _ (Nat.le_of_lt (rad_gt o 23))).tr (ns _ _ _ _ _ (Nat.le_of_lt (rad_gt o 21)))).tr (ns _ _ _ _ _ (Nat.le_of_lt (rad_gt o 24))))
  refine hP _ (HI_new hH hN F1 (fun a h1 h2 => ?_)) hN (by show znx υ = _; rw [nxs, h3]) (by show zsl υ = _; rw [sls, h4]; rfl) ⟨by show ztg υ o = _; rw [tgs]; exact h5, fun t ht => ⟨F3 t ht (rIx_lt t (hr74 t ht) ht), tgA t ht⟩⟩ (RefR_0 ⟨?_, ?_, ?_, ?_, ?_, ?_, ?_, ?_, ?_, ?_⟩ ⟨?_, ?_, ?_, ?_⟩ (fun e he => ?_))
  · have h2 : a < o + 1 + 40 := by rw [← h3, ← nxs]; exact h2
    by_cases c : a = o
    · rw [c]; exact ShA_12 (show ztg υ o = _ by rw [tgs]; exact h5)
    · obtain ⟨t, _, ht, hi⟩ := rIx_all (a - o - 1) (by omega)
      have ea : a = rad o t := by show a = o + 1 + rIx t; omega
      rw [ea]; exact ShA_2 (show ztg υ (rad o t) = _ from tgA t ht)
  · exact fiA 0
  · exact fiA 8
  · exact fiA 9
  · exact fiA 20
  · exact fiA 21
  · exact fiA 32
  · exact fiA 37
  · exact fiA 38
  · exact fiA 39
  · exact fiA 40
  · exact av 21 (by decide) 0
  · exact av 22 (by decide) 0
  · exact av 23 (by decide) 0
  · exact av 24 (by decide) 0
  · have := av 43 (by decide) e
    rw [if_neg (fun r => absurd r.1 (by decide)), if_neg (fun r => absurd r.1 (by decide)), if_neg (fun r => absurd r.1 (by decide))] at this
    exact this
end RIN
