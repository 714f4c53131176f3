/-! WHAT HOLDS ALL THE TIME: of what each call leaves -/
section NI
variable {w : WT} {x y z : Int32} {t : TreT} {a : ActT} {c : Nat → Nat → Con}
theorem w0_inv : WInv w0 := by
  refine ⟨⟨Nat.le_refl _, (show 1 ≤ 60 by omega), ⟨rfl, rfl, rfl, rfl⟩, fun p h1 h2 => absurd (show p < 1 from h2) (by omega), fun p q h1 h2 _ _ => ?_⟩, ⟨Nat.zero_le _, fun i hi => absurd (show i < 0 from hi) (by omega), (fun p i _ h => by cases h), fun i hi => absurd (show i < 0 from hi) (by omega)⟩, fun s p _ _ => ⟨(fun l h => by cases h), fun _ => rfl⟩, ⟨Nat.zero_le _, fun x hx => absurd hx (by simp [wP, w0])⟩, (fun s i k _ _ h => by cases h), ⟨(show 1000 ≤ 4000 by omega), Nat.zero_le _, List.nodup_nil, fun e he => absurd (show e ∈ ([] : List EntT) from he) (by simp)⟩, Nat.zero_le _⟩
  have h1 : p < 1 := h1
  have h2 : q < 1 := h2
  omega
theorem sForget_inv (h : WInv w) : WInv (sForget w).1 := ⟨h.1, h.2.1, h.2.2.1, h.2.2.2.1, h.2.2.2.2.1, ⟨h.2.2.2.2.2.1.1, Nat.zero_le _, List.nodup_nil, fun e he => absurd (show e ∈ ([] : List EntT) from he) (by simp)⟩, h.2.2.2.2.2.2⟩
theorem sCapacity_inv (h : WInv w) : WInv (sCapacity w x).1 := by
  unfold sCapacity
  split
  · exact h
  · rename_i g
    refine ⟨h.1, h.2.1, h.2.2.1, h.2.2.2.1, h.2.2.2.2.1, KInv_trim h.2.2.2.2.2.1.2.2.1 h.2.2.2.2.2.1.2.2.2 ?_, h.2.2.2.2.2.2⟩
    rcases pk_ix x (n := 4001) (by omega) with q | q | ⟨k, hk, rfl⟩
    · exact absurd (Or.inl q) g
    · exact absurd (Or.inr (Int32.lt_of_lt_of_le (by decide) q)) g
    · rw [nI_clamp (by omega)]; omega
theorem bytesW_ok (v : Int64) : ∀ n, (bytesW v n).length = n ∧ ∀ x ∈ bytesW v n, byteI x
  | 0 => ⟨rfl, fun x hx => absurd (show x ∈ ([] : List Int32) from hx) (by simp)⟩
  | n + 1 => by
    have ih := bytesW_ok v n
    refine ⟨by show (bytesW v n).length + 1 = _; rw [ih.1], fun x hx => ?_⟩
    rcases List.mem_cons.mp (show x ∈ byteW v n :: bytesW v n from hx) with e | e
    · rw [e]; exact nI_byte (Nat.mod_lt _ (by omega))
    · exact ih.2 x e
theorem sFeed_inv (h : WInv w) {v : Int64} : WInv (sFeed w v x).1 := by
  unfold sFeed
  split
  · exact h
  split
  · exact h
  · rename_i g
    have hb := bytesW_ok v x.toNatClampNeg
    exact ⟨h.1, h.2.1, h.2.2.1, conOk_app h.2.2.2.1 hb.2 (by rw [List.length_append, hb.1]; omega), h.2.2.2.2⟩
theorem CInv_fup2 {s p : Nat} {v : Con} (h : CInv t c) (hv : ∀ l, v = some l → conOk l) (hd : tDir t p = false) : CInv t (fup2 c s p v) := by
  intro s' k hs hk
  unfold fup2
  split
  · rename_i e
    rw [e.2]
    exact ⟨hv, fun g => by rw [hd] at g; cases g⟩
  · exact h s' k hs hk
theorem src_dir {p : Nat} (h : srcW w p = true) : tDir (wT w) p = false := by
  unfold srcW at h
  cases g : tDir (wT w) p with
  | false => rfl
  | true => rw [g] at h; cases h
theorem sWrite_inv (h : WInv w) : WInv (sWrite w x y).1 := by
  unfold sWrite
  split
  · exact h
  split
  · rename_i g
    exact ⟨h.1, h.2.1, CInv_fup2 h.2.2.1 (fun l e => by cases e; exact h.2.2.2.1) (src_dir g), ⟨Nat.zero_le _, fun x hx => absurd (show x ∈ ([] : List Int32) from hx) (by simp)⟩, h.2.2.2.2⟩
  · exact h
theorem sRemove_inv (h : WInv w) : WInv (sRemove w x y).1 := by
  unfold sRemove
  split
  · exact h
  split
  · rename_i g
    exact ⟨h.1, h.2.1, CInv_fup2 h.2.2.1 (fun l e => by cases e) (src_dir g), h.2.2.2⟩
  · exact h
theorem sCopy_inv (h : WInv w) : WInv (sCopy w x).1 := by
  unfold sCopy
  split
  · exact h
  · rename_i s e
    have hs := ixN_lt e
    refine ⟨h.1, h.2.1, fun s' p hs' hp => ?_, h.2.2.2⟩
    have hpt : p < tN (wT w) := hp
    show (∀ l, fup (wC w) s _ s' p = some l → conOk l) ∧ (tDir (wT w) p = true → fup (wC w) s _ s' p = none)
    by_cases g : s' = s
    · subst g
      rw [fup_same, cpyW_at _ p hpt]
      split
      · exact h.2.2.1 (1 - s') p (by omega) hp
      · exact h.2.2.1 s' p hs' hp
    · rw [fup_ne g]
      exact h.2.2.1 s' p hs' hp
theorem bldW_inv {s : Nat} (hs : s < 2) : ∀ n b op, n ≤ 40 → WInv (withB w b) → b.2.2.2.1.length = 40 - n → WInv (withB w (bldW (wT w) (wA w) s n b op))
  | 0, b, op, _, h, _ => h
  | n + 1, b, op, hn, h, hl => by
    have ee : bldW (wT w) (wA w) s (n + 1) b op = (match nextW (wT w) (wA w) op with
      | none => b
      | some i => bldW (wT w) (wA w) s n (doW (wT w) (wA w) s i b) (fup op i false)) := rfl
    rw [ee]
    cases e : nextW (wT w) (wA w) op with
    | none => exact h
    | some i =>
      have d := doW_inv (w := withB w b) (s := s) (i := i) h hs (next_lt e).1 (show b.2.2.2.1.length < 40 by omega)
      exact bldW_inv hs n _ _ (by omega) d.1 (d.2.trans (show b.2.2.2.1.length + 1 = 40 - n by omega))
theorem sBuild_inv (h : WInv w) : WInv (sBuild w x y).1 := by
  unfold sBuild
  split
  · exact h
  · rename_i s e
    split
    · exact h
    · exact bldW_inv (w := w) (ixN_lt e) 40 (wC w, wW w, wK w, ([], (wL w).2.1, (wL w).2.2.1, (wL w).2.2.2 + 1)) _ (Nat.le_refl _) ⟨h.1, h.2.1, h.2.2.1, h.2.2.2.1, h.2.2.2.2.1, h.2.2.2.2.2.1, Nat.zero_le _⟩ rfl
end NI
