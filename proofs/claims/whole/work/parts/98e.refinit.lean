/-! THE REFERENCE: a new object (written by wip/whole/p98e.py) -/
section RIN
variable {σ τ υ σ0 : zSt} {P : Option Value → zSt → Prop} {o n s t t' k a b l i : Nat} {c20 : Int32}
def rIx (t : Nat) : Nat := rIxL.getD (t - 20) 0
/-- n arrays are made, all but the last stored -/
def IM (σ0 τ : zSt) (o n s : Nat) (c20 : Int32) : Prop := HIw τ ∧ NewF σ0 τ o ∧ znx τ = o + 1 + n ∧ zsl τ = zsl σ0 + s ∧ ztg τ o = (1, 12, 0) ∧ (∀ t, rOk t = true → rIx t < n → ztg τ (rad o t) = (2, t, rlen t) ∧ ∀ i, zai τ t (rad o t) i = 0) ∧ (∀ t, rOk t = true → rIx t + 1 < n → zfr τ 12 (t - 20) o = some (rad o t)) ∧ ∀ k, zfi τ 12 k o = if k = 0 then 1 else if k = 20 then c20 else 0
/-- the last one is stored -/
theorem IM_put (h : IM σ0 σ o n s c20) (ht : rOk t = true) (hi : rIx t + 1 = n) : HIw (sfr σ 12 (t - 20) o (some (rad o t))) ∧ NewF σ0 (sfr σ 12 (t - 20) o (some (rad o t))) o ∧ (∀ u, rOk u = true → rIx u < n → zfr (sfr σ 12 (t - 20) o (some (rad o t))) 12 (u - 20) o = some (rad o u)) := by
  obtain ⟨h1, h2, h3, h4, h5, h6, h7, h8⟩ := h
  refine ⟨HIw_sfr h1 (by decide), h2.tr (NewF_sfr (Nat.le_refl _)), fun u hu hl => ?_⟩
  show up3 (zfr σ) 12 (t - 20) o (some (rad o t)) 12 (u - 20) o = _
  unfold up3
  by_cases c : u - 20 = t - 20
  · rw [if_pos ⟨rfl, c, rfl⟩]
    have : u = t := by
      have a1 : 20 ≤ u := by simp [rOk] at hu; omega
      have a2 : 20 ≤ t := by simp [rOk] at ht; omega
      omega
    rw [this]
  · rw [if_neg (fun r => c r.2.1)]
    refine h7 u hu ?_
    have : rIx u ≠ rIx t := fun r => c (by
      have := rad_inj (o := o) hu ht (by unfold rad; unfold rIx at r; rw [r])
      rw [this])
    omega
theorem IM_step (h : IM σ0 σ o n s c20) (ht : rOk t = true) (hi : rIx t + 1 = n) (ht' : rOk t' = true) (hi' : rIx t' = n) : IM σ0 (zNewI (sfr σ 12 (t - 20) o (some (rad o t))) t' (rlen t')) o (n + 1) (s + rlen t') c20 := by
  obtain ⟨p1, p2, p3⟩ := IM_put h ht hi
  obtain ⟨h1, h2, h3, h4, h5, h6, h7, h8⟩ := h
  have nx : znx (sfr σ 12 (t - 20) o (some (rad o t))) = o + 1 + n := h3
  have tg5 : ztg (sfr σ 12 (t - 20) o (some (rad o t))) o = (1, 12, 0) := h5
  have sl : zsl (sfr σ 12 (t - 20) o (some (rad o t))) = zsl σ0 + s := h4
  have h6' : ∀ t, rOk t = true → rIx t < n → ztg (sfr σ 12 (t - 20) o (some (rad o t))) (rad o t) = (2, t, rlen t) ∧ ∀ i, zai (sfr σ 12 (t - 20) o (some (rad o t))) t (rad o t) i = 0 := h6
  have h6'' : ∀ u, rOk u = true → rIx u < n → ztg (sfr σ 12 (t - 20) o (some (rad o t))) (rad o u) = (2, u, rlen u) ∧ ∀ i, zai (sfr σ 12 (t - 20) o (some (rad o t))) u (rad o u) i = 0 := h6
  have h8' : ∀ k, zfi (sfr σ 12 (t - 20) o (some (rad o t))) 12 k o = if k = 0 then 1 else if k = 20 then c20 else 0 := h8
  clear h6'
  generalize sfr σ 12 (t - 20) o (some (rad o t)) = σ1 at *
  have er : ∀ u, rad o u = o + 1 + rIx u := fun _ => rfl
  refine ⟨HIw_newI p1, p2.tr (NewF_newI p1.1 (by rw [nx]; omega)), by show znx σ1 + 1 = _; rw [nx]; omega, by show zsl σ1 + rlen t' = _; rw [sl, Nat.add_assoc], ?_, fun u hu hl => ?_, fun u hu hl => p3 u hu (by omega), h8'⟩
  · show upT (ztg σ1) (znx σ1) _ o = _
    unfold upT
    rw [if_neg (by omega)]; exact tg5
  · by_cases c : u = t'
    · subst c
      have e1 : rad o u = znx σ1 := by rw [nx, er, hi']
      rw [e1]
      refine ⟨if_pos rfl, fun i => if_pos ⟨rfl, rfl⟩⟩
    · have hne : rIx u ≠ rIx t' := fun r => c (rad_inj (o := o) hu ht' (by rw [er, er, r]))
      have hlt : rIx u < n := by omega
      have hne2 : rad o u ≠ znx σ1 := by rw [nx, er]; omega
      obtain ⟨g1, g2⟩ := h6'' u hu hlt
      refine ⟨?_, fun i => ?_⟩
      · show upT (ztg σ1) (znx σ1) _ (rad o u) = _
        unfold upT
        rw [if_neg hne2]; exact g1
      · show (if u = t' ∧ rad o u = znx σ1 then 0 else zai σ1 u (rad o u) i) = 0
        rw [if_neg (fun r => c r.1)]; exact g2 i
/-- one number is set meanwhile -/
theorem IM_20 {v : Int32} (h : IM σ0 σ o n s c20) : IM σ0 (sfi σ 12 20 o v) o n s v := by
  obtain ⟨h1, h2, h3, h4, h5, h6, h7, h8⟩ := h
  refine ⟨h1, h2.tr (NewF_sfi (Nat.le_refl _)), h3, h4, h5, h6, h7, fun k => ?_⟩
  show up3 (zfi σ) 12 20 o v 12 k o = _
  unfold up3
  by_cases c : k = 20
  · rw [if_pos ⟨rfl, c, rfl⟩, if_neg (by omega), if_pos c]
  · rw [if_neg (fun r => c r.2.1), h8 k, if_neg c, if_neg c]
def scO (σ : zSt) (o : Nat) : ScT := fun k => zfi σ 12 k o
def arO (σ : zSt) (o : Nat) : ArT := fun t i => if rOk t = true then zai σ t (rad o t) i else 0
theorem arO_at (ht : rOk t = true) : arO σ o t i = zai σ t (rad o t) i := if_pos ht
theorem rOv_O : rOv σ o (scO σ o) (arO σ o) = σ := by
  have e : rOv σ o (scO σ o) (arO σ o) = rOv σ o (fun k => zfi σ 12 k o) (fun t => zai σ t (rad o t)) := by
    unfold rOv
    congr 1
    funext t a i
    by_cases h : rOk t = true ∧ a = rad o t
    · rw [if_pos h, if_pos h, arO_at h.1]
    · rw [if_neg h, if_neg h]
  rw [e, rOv_self]
theorem ShA_12 (h : ztg σ a = (1, 12, 0)) : ShA σ a := by
  have key : ∀ e ∈ layL, e.1 ≠ 12 := by decide
  refine ShA_none (fun e he hz => key e he ?_) (fun e _ hz => ?_)
  · have := hz.2; rw [h] at this; exact this.symm
  · rw [h] at hz; exact absurd (congrArg Prod.fst hz) (by show (1 : Nat) ≠ 3; decide)
theorem rIx_all : ∀ i, i < 40 → ∃ t, t < 74 ∧ rOk t = true ∧ rIx t = i := by decide +kernel
theorem rIx_lt : ∀ t, t < 74 → rOk t = true → rIx t < 40 := by decide +kernel
theorem n112_14 (I : IM σ0 σ o 1 114 0) (hP : ∀ σ', IM σ0 σ' o 2 174 0 → wp 112 22 [some (.ref o)] [.ref (rad o 22), .ref o] σ' P) : wp 112 14 [some (.ref o)] [.ref (rad o 21), .ref o] σ P := by
  have J := IM_step (t := 21) (t' := 22) I (by decide) rfl (by decide) rfl
  refine b112_14.mpr ⟨zIs_of I.2.2.2.2.1, by decide, ?_⟩
  have e : znx (sfr σ 12 1 o (some (rad o 21))) = rad o 22 := I.2.2.1
  rw [e]
  exact hP _ J
theorem n112_22 (I : IM σ0 σ o 2 174 0) (hP : ∀ σ', IM σ0 σ' o 3 234 0 → wp 112 30 [some (.ref o)] [.ref (rad o 23), .ref o] σ' P) : wp 112 22 [some (.ref o)] [.ref (rad o 22), .ref o] σ P := by
  have J := IM_step (t := 22) (t' := 23) I (by decide) rfl (by decide) rfl
  refine b112_22.mpr ⟨zIs_of I.2.2.2.2.1, by decide, ?_⟩
  have e : znx (sfr σ 12 2 o (some (rad o 22))) = rad o 23 := I.2.2.1
  rw [e]
  exact hP _ J
theorem n112_30 (I : IM σ0 σ o 3 234 0) (hP : ∀ σ', IM σ0 σ' o 4 294 0 → wp 112 38 [some (.ref o)] [.ref (rad o 24), .ref o] σ' P) : wp 112 30 [some (.ref o)] [.ref (rad o 23), .ref o] σ P := by
  have J := IM_step (t := 23) (t' := 24) I (by decide) rfl (by decide) rfl
  refine b112_30.mpr ⟨zIs_of I.2.2.2.2.1, by decide, ?_⟩
  have e : znx (sfr σ 12 3 o (some (rad o 23))) = rad o 24 := I.2.2.1
  rw [e]
  exact hP _ J
theorem n112_38 (I : IM σ0 σ o 4 294 0) (hP : ∀ σ', IM σ0 σ' o 5 474 0 → wp 112 47 [some (.ref o)] [.ref (rad o 25), .ref o] σ' P) : wp 112 38 [some (.ref o)] [.ref (rad o 24), .ref o] σ P := by
  have J := IM_step (t := 24) (t' := 25) I (by decide) rfl (by decide) rfl
  refine b112_38.mpr ⟨zIs_of I.2.2.2.2.1, by decide, ?_⟩
  have e : znx (sfr σ 12 4 o (some (rad o 24))) = rad o 25 := I.2.2.1
  rw [e]
  exact hP _ J
theorem n112_47 (I : IM σ0 σ o 5 474 0) (hP : ∀ σ', IM σ0 σ' o 6 11994 0 → wp 112 56 [some (.ref o)] [.ref (rad o 26), .ref o] σ' P) : wp 112 47 [some (.ref o)] [.ref (rad o 25), .ref o] σ P := by
  have J := IM_step (t := 25) (t' := 26) I (by decide) rfl (by decide) rfl
  refine b112_47.mpr ⟨zIs_of I.2.2.2.2.1, by decide, ?_⟩
  have e : znx (sfr σ 12 5 o (some (rad o 25))) = rad o 26 := I.2.2.1
  rw [e]
  exact hP _ J
theorem n112_56 (I : IM σ0 σ o 6 11994 0) (hP : ∀ σ', IM σ0 σ' o 7 12058 0 → wp 112 64 [some (.ref o)] [.ref (rad o 27), .ref o] σ' P) : wp 112 56 [some (.ref o)] [.ref (rad o 26), .ref o] σ P := by
  have J := IM_step (t := 26) (t' := 27) I (by decide) rfl (by decide) rfl
  refine b112_56.mpr ⟨zIs_of I.2.2.2.2.1, by decide, ?_⟩
  have e : znx (sfr σ 12 6 o (some (rad o 26))) = rad o 27 := I.2.2.1
  rw [e]
  exact hP _ J
theorem n112_64 (I : IM σ0 σ o 7 12058 0) (hP : ∀ σ', IM σ0 σ' o 8 12298 0 → wp 112 73 [some (.ref o)] [.ref (rad o 30), .ref o] σ' P) : wp 112 64 [some (.ref o)] [.ref (rad o 27), .ref o] σ P := by
  have J := IM_step (t := 27) (t' := 30) I (by decide) rfl (by decide) rfl
  refine b112_64.mpr ⟨zIs_of I.2.2.2.2.1, by decide, ?_⟩
  have e : znx (sfr σ 12 7 o (some (rad o 27))) = rad o 30 := I.2.2.1
  rw [e]
  exact hP _ J
theorem n112_73 (I : IM σ0 σ o 8 12298 0) (hP : ∀ σ', IM σ0 σ' o 9 12338 0 → wp 112 81 [some (.ref o)] [.ref (rad o 31), .ref o] σ' P) : wp 112 73 [some (.ref o)] [.ref (rad o 30), .ref o] σ P := by
  have J := IM_step (t := 30) (t' := 31) I (by decide) rfl (by decide) rfl
  refine b112_73.mpr ⟨zIs_of I.2.2.2.2.1, by decide, ?_⟩
  have e : znx (sfr σ 12 10 o (some (rad o 30))) = rad o 31 := I.2.2.1
  rw [e]
  exact hP _ J
theorem n112_81 (I : IM σ0 σ o 9 12338 0) (hP : ∀ σ', IM σ0 σ' o 10 12458 0 → wp 112 89 [some (.ref o)] [.ref (rad o 32), .ref o] σ' P) : wp 112 81 [some (.ref o)] [.ref (rad o 31), .ref o] σ P := by
  have J := IM_step (t := 31) (t' := 32) I (by decide) rfl (by decide) rfl
  refine b112_81.mpr ⟨zIs_of I.2.2.2.2.1, by decide, ?_⟩
  have e : znx (sfr σ 12 11 o (some (rad o 31))) = rad o 32 := I.2.2.1
  rw [e]
  exact hP _ J
theorem n112_89 (I : IM σ0 σ o 10 12458 0) (hP : ∀ σ', IM σ0 σ' o 11 12498 0 → wp 112 97 [some (.ref o)] [.ref (rad o 33), .ref o] σ' P) : wp 112 89 [some (.ref o)] [.ref (rad o 32), .ref o] σ P := by
  have J := IM_step (t := 32) (t' := 33) I (by decide) rfl (by decide) rfl
  refine b112_89.mpr ⟨zIs_of I.2.2.2.2.1, by decide, ?_⟩
  have e : znx (sfr σ 12 12 o (some (rad o 32))) = rad o 33 := I.2.2.1
  rw [e]
  exact hP _ J
theorem n112_97 (I : IM σ0 σ o 11 12498 0) (hP : ∀ σ', IM σ0 σ' o 12 13138 0 → wp 112 106 [some (.ref o)] [.ref (rad o 34), .ref o] σ' P) : wp 112 97 [some (.ref o)] [.ref (rad o 33), .ref o] σ P := by
  have J := IM_step (t := 33) (t' := 34) I (by decide) rfl (by decide) rfl
  refine b112_97.mpr ⟨zIs_of I.2.2.2.2.1, by decide, ?_⟩
  have e : znx (sfr σ 12 13 o (some (rad o 33))) = rad o 34 := I.2.2.1
  rw [e]
  exact hP _ J
theorem n112_106 (I : IM σ0 σ o 12 13138 0) (hP : ∀ σ', IM σ0 σ' o 13 13778 0 → wp 112 115 [some (.ref o)] [.ref (rad o 35), .ref o] σ' P) : wp 112 106 [some (.ref o)] [.ref (rad o 34), .ref o] σ P := by
  have J := IM_step (t := 34) (t' := 35) I (by decide) rfl (by decide) rfl
  refine b112_106.mpr ⟨zIs_of I.2.2.2.2.1, by decide, ?_⟩
  have e : znx (sfr σ 12 14 o (some (rad o 34))) = rad o 35 := I.2.2.1
  rw [e]
  exact hP _ J
theorem n112_115 (I : IM σ0 σ o 13 13778 0) (hP : ∀ σ', IM σ0 σ' o 14 13818 0 → wp 112 123 [some (.ref o)] [.ref (rad o 36), .ref o] σ' P) : wp 112 115 [some (.ref o)] [.ref (rad o 35), .ref o] σ P := by
  have J := IM_step (t := 35) (t' := 36) I (by decide) rfl (by decide) rfl
  refine b112_115.mpr ⟨zIs_of I.2.2.2.2.1, by decide, ?_⟩
  have e : znx (sfr σ 12 15 o (some (rad o 35))) = rad o 36 := I.2.2.1
  rw [e]
  exact hP _ J
theorem n112_123 (I : IM σ0 σ o 14 13818 0) (hP : ∀ σ', IM σ0 σ' o 15 13898 0 → wp 112 131 [some (.ref o)] [.ref (rad o 37), .ref o] σ' P) : wp 112 123 [some (.ref o)] [.ref (rad o 36), .ref o] σ P := by
  have J := IM_step (t := 36) (t' := 37) I (by decide) rfl (by decide) rfl
  refine b112_123.mpr ⟨zIs_of I.2.2.2.2.1, by decide, ?_⟩
  have e : znx (sfr σ 12 16 o (some (rad o 36))) = rad o 37 := I.2.2.1
  rw [e]
  exact hP _ J
theorem n112_131 (I : IM σ0 σ o 15 13898 0) (hP : ∀ σ', IM σ0 σ' o 16 47898 0 → wp 112 139 [some (.ref o)] [.ref (rad o 38), .ref o] σ' P) : wp 112 131 [some (.ref o)] [.ref (rad o 37), .ref o] σ P := by
  have J := IM_step (t := 37) (t' := 38) I (by decide) rfl (by decide) rfl
  refine b112_131.mpr ⟨zIs_of I.2.2.2.2.1, by decide, ?_⟩
  have e : znx (sfr σ 12 17 o (some (rad o 37))) = rad o 38 := I.2.2.1
  rw [e]
  exact hP _ J
theorem n112_139 (I : IM σ0 σ o 16 47898 0) (hP : ∀ σ', IM σ0 σ' o 17 48458 0 → wp 112 148 [some (.ref o)] [.ref (rad o 39), .ref o] σ' P) : wp 112 139 [some (.ref o)] [.ref (rad o 38), .ref o] σ P := by
  have J := IM_step (t := 38) (t' := 39) I (by decide) rfl (by decide) rfl
  refine b112_139.mpr ⟨zIs_of I.2.2.2.2.1, by decide, ?_⟩
  have e : znx (sfr σ 12 18 o (some (rad o 38))) = rad o 39 := I.2.2.1
  rw [e]
  exact hP _ J
theorem n112_148 (I : IM σ0 σ o 17 48458 0) (hP : ∀ σ', IM σ0 σ' o 18 48559 1000 → wp 112 163 [some (.ref o)] [.ref (rad o 42), .ref o] σ' P) : wp 112 148 [some (.ref o)] [.ref (rad o 39), .ref o] σ P := by
  have J := IM_step (t := 39) (t' := 42) (IM_20 (v := 1000) I) (by decide) rfl (by decide) rfl
  refine b112_148.mpr ⟨zIs_of I.2.2.2.2.1, zIs_of I.2.2.2.2.1, by decide, ?_⟩
  have e : znx (sfi (sfr σ 12 19 o (some (rad o 39))) 12 20 o 1000) = rad o 42 := I.2.2.1
  rw [e]
  exact hP _ J
theorem n112_163 (I : IM σ0 σ o 18 48559 1000) (hP : ∀ σ', IM σ0 σ' o 19 48660 1000 → wp 112 171 [some (.ref o)] [.ref (rad o 43), .ref o] σ' P) : wp 112 163 [some (.ref o)] [.ref (rad o 42), .ref o] σ P := by
  have J := IM_step (t := 42) (t' := 43) I (by decide) rfl (by decide) rfl
  refine b112_163.mpr ⟨zIs_of I.2.2.2.2.1, by decide, ?_⟩
  have e : znx (sfr σ 12 22 o (some (rad o 42))) = rad o 43 := I.2.2.1
  rw [e]
  exact hP _ J
theorem n112_171 (I : IM σ0 σ o 19 48660 1000) (hP : ∀ σ', IM σ0 σ' o 20 91585 1000 → wp 112 179 [some (.ref o)] [.ref (rad o 44), .ref o] σ' P) : wp 112 171 [some (.ref o)] [.ref (rad o 43), .ref o] σ P := by
  have J := IM_step (t := 43) (t' := 44) I (by decide) rfl (by decide) rfl
  refine b112_171.mpr ⟨zIs_of I.2.2.2.2.1, by decide, ?_⟩
  have e : znx (sfr σ 12 23 o (some (rad o 43))) = rad o 44 := I.2.2.1
  rw [e]
  exact hP _ J
theorem n112_179 (I : IM σ0 σ o 20 91585 1000) (hP : ∀ σ', IM σ0 σ' o 21 91686 1000 → wp 112 187 [some (.ref o)] [.ref (rad o 45), .ref o] σ' P) : wp 112 179 [some (.ref o)] [.ref (rad o 44), .ref o] σ P := by
  have J := IM_step (t := 44) (t' := 45) I (by decide) rfl (by decide) rfl
  refine b112_179.mpr ⟨zIs_of I.2.2.2.2.1, by decide, ?_⟩
  have e : znx (sfr σ 12 24 o (some (rad o 44))) = rad o 45 := I.2.2.1
  rw [e]
  exact hP _ J
theorem n112_187 (I : IM σ0 σ o 21 91686 1000) (hP : ∀ σ', IM σ0 σ' o 22 91787 1000 → wp 112 195 [some (.ref o)] [.ref (rad o 46), .ref o] σ' P) : wp 112 187 [some (.ref o)] [.ref (rad o 45), .ref o] σ P := by
  have J := IM_step (t := 45) (t' := 46) I (by decide) rfl (by decide) rfl
  refine b112_187.mpr ⟨zIs_of I.2.2.2.2.1, by decide, ?_⟩
  have e : znx (sfr σ 12 25 o (some (rad o 45))) = rad o 46 := I.2.2.1
  rw [e]
  exact hP _ J
theorem n112_195 (I : IM σ0 σ o 22 91787 1000) (hP : ∀ σ', IM σ0 σ' o 23 91888 1000 → wp 112 203 [some (.ref o)] [.ref (rad o 47), .ref o] σ' P) : wp 112 195 [some (.ref o)] [.ref (rad o 46), .ref o] σ P := by
  have J := IM_step (t := 46) (t' := 47) I (by decide) rfl (by decide) rfl
  refine b112_195.mpr ⟨zIs_of I.2.2.2.2.1, by decide, ?_⟩
  have e : znx (sfr σ 12 26 o (some (rad o 46))) = rad o 47 := I.2.2.1
  rw [e]
  exact hP _ J
theorem n112_203 (I : IM σ0 σ o 23 91888 1000) (hP : ∀ σ', IM σ0 σ' o 24 91989 1000 → wp 112 211 [some (.ref o)] [.ref (rad o 48), .ref o] σ' P) : wp 112 203 [some (.ref o)] [.ref (rad o 47), .ref o] σ P := by
  have J := IM_step (t := 47) (t' := 48) I (by decide) rfl (by decide) rfl
  refine b112_203.mpr ⟨zIs_of I.2.2.2.2.1, by decide, ?_⟩
  have e : znx (sfr σ 12 27 o (some (rad o 47))) = rad o 48 := I.2.2.1
  rw [e]
  exact hP _ J
theorem n112_211 (I : IM σ0 σ o 24 91989 1000) (hP : ∀ σ', IM σ0 σ' o 25 92090 1000 → wp 112 219 [some (.ref o)] [.ref (rad o 49), .ref o] σ' P) : wp 112 211 [some (.ref o)] [.ref (rad o 48), .ref o] σ P := by
  have J := IM_step (t := 48) (t' := 49) I (by decide) rfl (by decide) rfl
  refine b112_211.mpr ⟨zIs_of I.2.2.2.2.1, by decide, ?_⟩
  have e : znx (sfr σ 12 28 o (some (rad o 48))) = rad o 49 := I.2.2.1
  rw [e]
  exact hP _ J
theorem n112_219 (I : IM σ0 σ o 25 92090 1000) (hP : ∀ σ', IM σ0 σ' o 26 92393 1000 → wp 112 228 [some (.ref o)] [.ref (rad o 50), .ref o] σ' P) : wp 112 219 [some (.ref o)] [.ref (rad o 49), .ref o] σ P := by
  have J := IM_step (t := 49) (t' := 50) I (by decide) rfl (by decide) rfl
  refine b112_219.mpr ⟨zIs_of I.2.2.2.2.1, by decide, ?_⟩
  have e : znx (sfr σ 12 29 o (some (rad o 49))) = rad o 50 := I.2.2.1
  rw [e]
  exact hP _ J
theorem n112_228 (I : IM σ0 σ o 26 92393 1000) (hP : ∀ σ', IM σ0 σ' o 27 111785 1000 → wp 112 237 [some (.ref o)] [.ref (rad o 51), .ref o] σ' P) : wp 112 228 [some (.ref o)] [.ref (rad o 50), .ref o] σ P := by
  have J := IM_step (t := 50) (t' := 51) I (by decide) rfl (by decide) rfl
  refine b112_228.mpr ⟨zIs_of I.2.2.2.2.1, by decide, ?_⟩
  have e : znx (sfr σ 12 30 o (some (rad o 50))) = rad o 51 := I.2.2.1
  rw [e]
  exact hP _ J
theorem n112_237 (I : IM σ0 σ o 27 111785 1000) (hP : ∀ σ', IM σ0 σ' o 28 111825 1000 → wp 112 245 [some (.ref o)] [.ref (rad o 53), .ref o] σ' P) : wp 112 237 [some (.ref o)] [.ref (rad o 51), .ref o] σ P := by
  have J := IM_step (t := 51) (t' := 53) I (by decide) rfl (by decide) rfl
  refine b112_237.mpr ⟨zIs_of I.2.2.2.2.1, by decide, ?_⟩
  have e : znx (sfr σ 12 31 o (some (rad o 51))) = rad o 53 := I.2.2.1
  rw [e]
  exact hP _ J
theorem n112_245 (I : IM σ0 σ o 28 111825 1000) (hP : ∀ σ', IM σ0 σ' o 29 111865 1000 → wp 112 253 [some (.ref o)] [.ref (rad o 54), .ref o] σ' P) : wp 112 245 [some (.ref o)] [.ref (rad o 53), .ref o] σ P := by
  have J := IM_step (t := 53) (t' := 54) I (by decide) rfl (by decide) rfl
  refine b112_245.mpr ⟨zIs_of I.2.2.2.2.1, by decide, ?_⟩
  have e : znx (sfr σ 12 33 o (some (rad o 53))) = rad o 54 := I.2.2.1
  rw [e]
  exact hP _ J
theorem n112_253 (I : IM σ0 σ o 29 111865 1000) (hP : ∀ σ', IM σ0 σ' o 30 111905 1000 → wp 112 261 [some (.ref o)] [.ref (rad o 55), .ref o] σ' P) : wp 112 253 [some (.ref o)] [.ref (rad o 54), .ref o] σ P := by
  have J := IM_step (t := 54) (t' := 55) I (by decide) rfl (by decide) rfl
  refine b112_253.mpr ⟨zIs_of I.2.2.2.2.1, by decide, ?_⟩
  have e : znx (sfr σ 12 34 o (some (rad o 54))) = rad o 55 := I.2.2.1
  rw [e]
  exact hP _ J
theorem n112_261 (I : IM σ0 σ o 30 111905 1000) (hP : ∀ σ', IM σ0 σ' o 31 111945 1000 → wp 112 269 [some (.ref o)] [.ref (rad o 56), .ref o] σ' P) : wp 112 261 [some (.ref o)] [.ref (rad o 55), .ref o] σ P := by
  have J := IM_step (t := 55) (t' := 56) I (by decide) rfl (by decide) rfl
  refine b112_261.mpr ⟨zIs_of I.2.2.2.2.1, by decide, ?_⟩
  have e : znx (sfr σ 12 35 o (some (rad o 55))) = rad o 56 := I.2.2.1
  rw [e]
  exact hP _ J
theorem n112_269 (I : IM σ0 σ o 31 111945 1000) (hP : ∀ σ', IM σ0 σ' o 32 111985 1000 → wp 112 277 [some (.ref o)] [.ref (rad o 61), .ref o] σ' P) : wp 112 269 [some (.ref o)] [.ref (rad o 56), .ref o] σ P := by
  have J := IM_step (t := 56) (t' := 61) I (by decide) rfl (by decide) rfl
  refine b112_269.mpr ⟨zIs_of I.2.2.2.2.1, by decide, ?_⟩
  have e : znx (sfr σ 12 36 o (some (rad o 56))) = rad o 61 := I.2.2.1
  rw [e]
  exact hP _ J
theorem n112_277 (I : IM σ0 σ o 32 111985 1000) (hP : ∀ σ', IM σ0 σ' o 33 112410 1000 → wp 112 286 [some (.ref o)] [.ref (rad o 62), .ref o] σ' P) : wp 112 277 [some (.ref o)] [.ref (rad o 61), .ref o] σ P := by
  have J := IM_step (t := 61) (t' := 62) I (by decide) rfl (by decide) rfl
  refine b112_277.mpr ⟨zIs_of I.2.2.2.2.1, by decide, ?_⟩
  have e : znx (sfr σ 12 41 o (some (rad o 61))) = rad o 62 := I.2.2.1
  rw [e]
  exact hP _ J
theorem n112_286 (I : IM σ0 σ o 33 112410 1000) (hP : ∀ σ', IM σ0 σ' o 34 112417 1000 → wp 112 294 [some (.ref o)] [.ref (rad o 64), .ref o] σ' P) : wp 112 286 [some (.ref o)] [.ref (rad o 62), .ref o] σ P := by
  have J := IM_step (t := 62) (t' := 64) I (by decide) rfl (by decide) rfl
  refine b112_286.mpr ⟨zIs_of I.2.2.2.2.1, by decide, ?_⟩
  have e : znx (sfr σ 12 42 o (some (rad o 62))) = rad o 64 := I.2.2.1
  rw [e]
  exact hP _ J
theorem n112_294 (I : IM σ0 σ o 34 112417 1000) (hP : ∀ σ', IM σ0 σ' o 35 112443 1000 → wp 112 302 [some (.ref o)] [.ref (rad o 65), .ref o] σ' P) : wp 112 294 [some (.ref o)] [.ref (rad o 64), .ref o] σ P := by
  have J := IM_step (t := 64) (t' := 65) I (by decide) rfl (by decide) rfl
  refine b112_294.mpr ⟨zIs_of I.2.2.2.2.1, by decide, ?_⟩
  have e : znx (sfr σ 12 44 o (some (rad o 64))) = rad o 65 := I.2.2.1
  rw [e]
  exact hP _ J
theorem n112_302 (I : IM σ0 σ o 35 112443 1000) (hP : ∀ σ', IM σ0 σ' o 36 112507 1000 → wp 112 310 [some (.ref o)] [.ref (rad o 67), .ref o] σ' P) : wp 112 302 [some (.ref o)] [.ref (rad o 65), .ref o] σ P := by
  have J := IM_step (t := 65) (t' := 67) I (by decide) rfl (by decide) rfl
  refine b112_302.mpr ⟨zIs_of I.2.2.2.2.1, by decide, ?_⟩
  have e : znx (sfr σ 12 45 o (some (rad o 65))) = rad o 67 := I.2.2.1
  rw [e]
  exact hP _ J
theorem n112_310 (I : IM σ0 σ o 36 112507 1000) (hP : ∀ σ', IM σ0 σ' o 37 112510 1000 → wp 112 317 [some (.ref o)] [.ref (rad o 70), .ref o] σ' P) : wp 112 310 [some (.ref o)] [.ref (rad o 67), .ref o] σ P := by
  have J := IM_step (t := 67) (t' := 70) I (by decide) rfl (by decide) rfl
  refine b112_310.mpr ⟨zIs_of I.2.2.2.2.1, by decide, ?_⟩
  have e : znx (sfr σ 12 47 o (some (rad o 67))) = rad o 70 := I.2.2.1
  rw [e]
  exact hP _ J
theorem n112_317 (I : IM σ0 σ o 37 112510 1000) (hP : ∀ σ', IM σ0 σ' o 38 112702 1000 → wp 112 326 [some (.ref o)] [.ref (rad o 71), .ref o] σ' P) : wp 112 317 [some (.ref o)] [.ref (rad o 70), .ref o] σ P := by
  have J := IM_step (t := 70) (t' := 71) I (by decide) rfl (by decide) rfl
  refine b112_317.mpr ⟨zIs_of I.2.2.2.2.1, by decide, ?_⟩
  have e : znx (sfr σ 12 50 o (some (rad o 70))) = rad o 71 := I.2.2.1
  rw [e]
  exact hP _ J
theorem n112_326 (I : IM σ0 σ o 38 112702 1000) (hP : ∀ σ', IM σ0 σ' o 39 112742 1000 → wp 112 334 [some (.ref o)] [.ref (rad o 72), .ref o] σ' P) : wp 112 326 [some (.ref o)] [.ref (rad o 71), .ref o] σ P := by
  have J := IM_step (t := 71) (t' := 72) I (by decide) rfl (by decide) rfl
  refine b112_326.mpr ⟨zIs_of I.2.2.2.2.1, by decide, ?_⟩
  have e : znx (sfr σ 12 51 o (some (rad o 71))) = rad o 72 := I.2.2.1
  rw [e]
  exact hP _ J
theorem n112_334 (I : IM σ0 σ o 39 112742 1000) (hP : ∀ σ', IM σ0 σ' o 40 112782 1000 → wp 112 342 [some (.ref o)] [.ref (rad o 73), .ref o] σ' P) : wp 112 334 [some (.ref o)] [.ref (rad o 72), .ref o] σ P := by
  have J := IM_step (t := 72) (t' := 73) I (by decide) rfl (by decide) rfl
  refine b112_334.mpr ⟨zIs_of I.2.2.2.2.1, by decide, ?_⟩
  have e : znx (sfr σ 12 52 o (some (rad o 72))) = rad o 73 := I.2.2.1
  rw [e]
  exact hP _ J
set_option maxHeartbeats 1000000 in
theorem n112_342 (hH : HI σ) (ho : znx σ = o) {σ40 : zSt} (I40 : IM σ σ40 o 40 112782 1000) (hP : ∀ τ, HI τ → NewF σ τ (znx σ) → znx τ = o + 41 → zsl τ = zsl σ + 112782 → RShape τ o → RefR (scO τ o) (arO τ o) w0 → P none τ) : wp 112 342 [some (.ref o)] [.ref (rad o 73), .ref o] σ40 P := by
  have F := IM_put (t := 73) I40 (by decide) rfl
  obtain ⟨h1, h2, h3, h4, h5, h6, h7, h8⟩ := I40
  have g3 : zfr σ40 12 3 o = some (rad o 23) := h7 23 (by decide) (by decide)
  have g1 : zfr σ40 12 1 o = some (rad o 21) := h7 21 (by decide) (by decide)
  have g4 : zfr σ40 12 4 o = some (rad o 24) := h7 24 (by decide) (by decide)
  have z3 : zrf σ40 12 3 o = rad o 23 := by unfold zrf; rw [g3]; rfl
  have z1 : zrf σ40 12 1 o = rad o 21 := by unfold zrf; rw [g1]; rfl
  have z4 : zrf σ40 12 4 o = rad o 24 := by unfold zrf; rw [g4]; rfl
  refine (b112_342 (by rw [z3]; exact (h6 23 (by decide) (by decide)).1) (by rw [z1]; exact (h6 21 (by decide) (by decide)).1) (by rw [z4]; exact (h6 24 (by decide) (by decide)).1)).mpr ⟨zIs_of h5, zIs_of h5, by rw [g3]; rfl, ⟨nI_in (c := 0) (N := 60) (by omega) (by omega), Or.inr rfl⟩, by rw [g1]; rfl, nI_in (c := 0) (N := 60) (by omega) (by omega), by rw [g4]; rfl, nI_in (c := 0) (N := 60) (by omega) (by omega), ?_⟩
  rw [z3, z1, z4, show Int32.toNatClampNeg 0 = 0 from rfl]
  show P none (sai (sai (sai (sfr σ40 12 (73 - 20) o (some (rad o 73))) 23 (rad o 23) 0 1) 21 (rad o 21) 0 (-1)) 24 (rad o 24) 0 (-1))
  obtain ⟨F1, F2, F3⟩ := F
  have tgs : ztg (sfr σ40 12 (73 - 20) o (some (rad o 73))) = ztg σ40 := rfl
  have fis : zfi (sfr σ40 12 (73 - 20) o (some (rad o 73))) = zfi σ40 := rfl
  have ais : zai (sfr σ40 12 (73 - 20) o (some (rad o 73))) = zai σ40 := rfl
  have nxs : znx (sfr σ40 12 (73 - 20) o (some (rad o 73))) = znx σ40 := rfl
  have sls : zsl (sfr σ40 12 (73 - 20) o (some (rad o 73))) = zsl σ40 := rfl
  generalize sfr σ40 12 (73 - 20) o (some (rad o 73)) = υ at *
  have hr74 : ∀ t, rOk t = true → t < 74 := fun t ht => by simp [rOk] at ht; omega
  have tgA : ∀ t, rOk t = true → ztg υ (rad o t) = (2, t, rlen t) := fun t ht => by rw [tgs]; exact (h6 t ht (rIx_lt t (hr74 t ht) ht)).1
  have aiA : ∀ t, rOk t = true → ∀ i, zai υ t (rad o t) i = 0 := fun t ht i => by rw [ais]; exact (h6 t ht (rIx_lt t (hr74 t ht) ht)).2 i
  have fiA : ∀ k, zfi υ 12 k o = if k = 0 then 1 else if k = 20 then 1000 else 0 := fun k => by rw [fis]; exact h8 k
  have av : ∀ t, rOk t = true → ∀ i, arO (sai (sai (sai υ 23 (rad o 23) 0 1) 21 (rad o 21) 0 (-1)) 24 (rad o 24) 0 (-1)) o t i = if t = 24 ∧ i = 0 then -1 else if t = 21 ∧ i = 0 then -1 else if t = 23 ∧ i = 0 then 1 else 0 := by
    intro t ht i
    rw [arO_at ht]
    show up3 (up3 (up3 (zai υ) 23 (rad o 23) 0 1) 21 (rad o 21) 0 (-1)) 24 (rad o 24) 0 (-1) t (rad o t) i = _
    unfold up3
    by_cases c : t = 24 ∧ i = 0
    · rw [if_pos c, if_pos ⟨c.1, by rw [c.1], c.2⟩]
    · rw [if_neg c, if_neg (fun r => c ⟨r.1, r.2.2⟩)]
      by_cases c2 : t = 21 ∧ i = 0
      · rw [if_pos c2, if_pos ⟨c2.1, by rw [c2.1], c2.2⟩]
      · rw [if_neg c2, if_neg (fun r => c2 ⟨r.1, r.2.2⟩)]
        by_cases c3 : t = 23 ∧ i = 0
        · rw [if_pos c3, if_pos ⟨c3.1, by rw [c3.1], c3.2⟩]
        · rw [if_neg c3, if_neg (fun r => c3 ⟨r.1, r.2.2⟩)]
          exact aiA t ht i
  have hN : NewF σ (sai (sai (sai υ 23 (rad o 23) 0 1) 21 (rad o 21) 0 (-1)) 24 (rad o 24) 0 (-1)) (znx σ) := by
    rw [ho]
    have ns : ∀ (τ : zSt) (t a i : Nat) (v : Int32), o ≤ a → NewF τ (sai τ t a i v) o := fun τ t a i v ha => ⟨fun b hb => ⟨rfl, fun _ _ => ⟨rfl, rfl, rfl⟩, fun _ _ => ⟨if_neg (fun r => by omega), rfl⟩⟩, fun _ _ => rfl, rfl, rfl, Nat.le_refl _⟩
    exact F2.tr (((ns _ _ _ _ _ (Nat.le_of_lt (rad_gt o 23))).tr (ns _ _ _ _ _ (Nat.le_of_lt (rad_gt o 21)))).tr (ns _ _ _ _ _ (Nat.le_of_lt (rad_gt o 24))))
  refine hP _ (HI_new hH hN F1 (fun a h1 h2 => ?_)) hN (by show znx υ = _; rw [nxs, h3]) (by show zsl υ = _; rw [sls, h4]) ⟨by show ztg υ o = _; rw [tgs]; exact h5, fun t ht => ⟨F3 t ht (rIx_lt t (hr74 t ht) ht), tgA t ht⟩⟩ (RefR_0 ⟨?_, ?_, ?_, ?_, ?_, ?_, ?_, ?_, ?_, ?_⟩ ⟨?_, ?_, ?_, ?_⟩ (fun e he => ?_))
  · have h2 : a < o + 1 + 40 := by rw [← h3, ← nxs]; exact h2
    by_cases c : a = o
    · rw [c]; exact ShA_12 (show ztg υ o = _ by rw [tgs]; exact h5)
    · obtain ⟨t, _, ht, hi⟩ := rIx_all (a - o - 1) (by omega)
      have ea : a = rad o t := by show a = o + 1 + rIx t; omega
      rw [ea]; exact ShA_2 (show ztg υ (rad o t) = _ from tgA t ht)
  · exact fiA 0
  · exact fiA 8
  · exact fiA 9
  · exact fiA 20
  · exact fiA 21
  · exact fiA 32
  · exact fiA 37
  · exact fiA 38
  · exact fiA 39
  · exact fiA 40
  · exact av 21 (by decide) 0
  · exact av 22 (by decide) 0
  · exact av 23 (by decide) 0
  · exact av 24 (by decide) 0
  · have := av 43 (by decide) e
    rw [if_neg (fun r => absurd r.1 (by decide)), if_neg (fun r => absurd r.1 (by decide)), if_neg (fun r => absurd r.1 (by decide))] at this
    exact this
set_option maxRecDepth 20000 in
set_option maxHeartbeats 4000000 in
theorem r_init (hH : HI σ) (ho : znx σ = o) (hP : ∀ τ, HI τ → NewF σ τ (znx σ) → znx τ = o + 41 → zsl τ = zsl σ + 112782 → RShape τ o → RefR (scO τ o) (arO τ o) w0 → P none τ) : wpM 112 [.ref o] (zNew σ 12) P := by
  have hw := HIw_of hH
  have tg0 : ztg (zNew σ 12) o = (1, 12, 0) := by
    show upT (ztg σ) (znx σ) _ o = _
    unfold upT
    rw [if_pos ho.symm]
  refine b112.mpr ⟨zIs_of tg0, by decide, ?_⟩
  have I1 : IM σ (zNewI (sfi (zNew σ 12) 12 0 o 1) 21 (rlen 21)) o 1 114 0 := by
    have hw1 : HIw (sfi (zNew σ 12) 12 0 o 1) := HIw_new (c := 12) hw
    have nx1 : znx (sfi (zNew σ 12) 12 0 o 1) = o + 1 := by show znx σ + 1 = _; rw [ho]
    have f1 : NewF σ (sfi (zNew σ 12) 12 0 o 1) o := (NewF_new hw.1 (by omega)).tr (NewF_sfi (Nat.le_refl _))
    have z1 : ∀ k, zfi (sfi (zNew σ 12) 12 0 o 1) 12 k o = if k = 0 then 1 else 0 := by
      intro k
      show up3 (zfi (zNew σ 12)) 12 0 o 1 12 k o = _
      unfold up3
      by_cases c : k = 0
      · rw [if_pos ⟨rfl, c, rfl⟩, if_pos c]
      · rw [if_neg (fun r => c r.2.1), if_neg c]
        exact if_pos ⟨rfl, ho.symm⟩
    have tg1 : ztg (sfi (zNew σ 12) 12 0 o 1) o = (1, 12, 0) := tg0
    have sl1 : zsl (sfi (zNew σ 12) 12 0 o 1) = zsl σ + (cRow 12).2.2 := rfl
    generalize sfi (zNew σ 12) 12 0 o 1 = σ1 at *
    refine ⟨HIw_newI hw1, f1.tr (NewF_newI hw1.1 (by omega)), by show znx σ1 + 1 = _; omega, by show zsl σ1 + 60 = _; rw [sl1]; rfl, ?_, fun u hu hl => ?_, fun u hu hl => absurd hl (by omega), fun k => ?_⟩
    · show upT (ztg σ1) (znx σ1) _ o = _
      unfold upT
      rw [if_neg (by omega)]; exact tg1
    · have hu0 : rIx u = 0 := by omega
      have e21 : u = 21 := rad_inj (o := o) hu (by decide) (by show o + 1 + rIx u = o + 1 + 0; rw [hu0])
      subst e21
      have e1 : rad o 21 = znx σ1 := by rw [nx1]; rfl
      rw [e1]
      exact ⟨if_pos rfl, fun i => if_pos ⟨rfl, rfl⟩⟩
    · show zfi σ1 12 k o = _
      rw [z1]
      by_cases c : k = 0
      · rw [if_pos c, if_pos c]
      · rw [if_neg c, if_neg c]
        by_cases d : k = 20
        · rw [if_pos d]
        · rw [if_neg d]
  show wp 112 14 [some (.ref o)] [.ref (znx (zNew σ 12)), .ref o] (zNewI (sfi (zNew σ 12) 12 0 o 1) 21 (rlen 21)) P
  rw [show znx (zNew σ 12) = rad o 21 by show znx σ + 1 = _; rw [ho]; rfl]
  generalize zNewI (sfi (zNew σ 12) 12 0 o 1) 21 (rlen 21) = σ1 at I1 ⊢
  refine n112_14 I1 (fun σ2 I2 => ?_)
  refine n112_22 I2 (fun σ3 I3 => ?_)
  refine n112_30 I3 (fun σ4 I4 => ?_)
  refine n112_38 I4 (fun σ5 I5 => ?_)
  refine n112_47 I5 (fun σ6 I6 => ?_)
  refine n112_56 I6 (fun σ7 I7 => ?_)
  refine n112_64 I7 (fun σ8 I8 => ?_)
  refine n112_73 I8 (fun σ9 I9 => ?_)
  refine n112_81 I9 (fun σ10 I10 => ?_)
  refine n112_89 I10 (fun σ11 I11 => ?_)
  refine n112_97 I11 (fun σ12 I12 => ?_)
  refine n112_106 I12 (fun σ13 I13 => ?_)
  refine n112_115 I13 (fun σ14 I14 => ?_)
  refine n112_123 I14 (fun σ15 I15 => ?_)
  refine n112_131 I15 (fun σ16 I16 => ?_)
  refine n112_139 I16 (fun σ17 I17 => ?_)
  refine n112_148 I17 (fun σ18 I18 => ?_)
  refine n112_163 I18 (fun σ19 I19 => ?_)
  refine n112_171 I19 (fun σ20 I20 => ?_)
  refine n112_179 I20 (fun σ21 I21 => ?_)
  refine n112_187 I21 (fun σ22 I22 => ?_)
  refine n112_195 I22 (fun σ23 I23 => ?_)
  refine n112_203 I23 (fun σ24 I24 => ?_)
  refine n112_211 I24 (fun σ25 I25 => ?_)
  refine n112_219 I25 (fun σ26 I26 => ?_)
  refine n112_228 I26 (fun σ27 I27 => ?_)
  refine n112_237 I27 (fun σ28 I28 => ?_)
  refine n112_245 I28 (fun σ29 I29 => ?_)
  refine n112_253 I29 (fun σ30 I30 => ?_)
  refine n112_261 I30 (fun σ31 I31 => ?_)
  refine n112_269 I31 (fun σ32 I32 => ?_)
  refine n112_277 I32 (fun σ33 I33 => ?_)
  refine n112_286 I33 (fun σ34 I34 => ?_)
  refine n112_294 I34 (fun σ35 I35 => ?_)
  refine n112_302 I35 (fun σ36 I36 => ?_)
  refine n112_310 I36 (fun σ37 I37 => ?_)
  refine n112_317 I37 (fun σ38 I38 => ?_)
  refine n112_326 I38 (fun σ39 I39 => ?_)
  refine n112_334 I39 (fun σ40 I40 => ?_)
  exact n112_342 hH ho I40 hP
end RIN
