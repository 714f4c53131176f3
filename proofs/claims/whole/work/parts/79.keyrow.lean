/-! MAKERS: two keys in a row, for an action -/
section KR
variable {σ τ : zSt} {P : Option Value → zSt → Prop} {a b d m : Nat}
/-- an action, as made -/
def ActM (τ : zSt) (a : Nat) : Prop := zIs τ a 0 ∧ zfi τ 0 5 a = 0 ∧ zfl τ 0 6 a = 0 ∧ LE τ (a + 1) ∧ LE τ (a + 2) ∧ ∀ j, j < 2 → Ky τ (a + 6 + 3 * j) []
def K2 (τ : zSt) (b d m : Nat) : Prop := ∀ j, j < m → zar τ 8 b j = some (d + 3 * j) ∧ ztg τ (d + 3 * j) = (1, 5, 0) ∧ ShA τ (d + 3 * j) ∧ ShA τ (d + 3 * j + 1) ∧ ShA τ (d + 3 * j + 2) ∧ Ky τ (d + 3 * j) []
theorem K2_nf (h : K2 σ b d m) (hb : b < d) (hf : NewF σ τ (d + 3 * m)) : K2 τ b d m := by
  intro j hj
  obtain ⟨h1, h0, h2, h3, h4, h5⟩ := h j hj
  exact ⟨by rw [((hf.1 b (by omega)).2.2 8 j).2]; exact h1, by rw [(hf.1 _ (by omega)).1]; exact h0, ShA_sm h2 (hf.1 _ (by omega)) hf.2.1, ShA_sm h3 (hf.1 _ (by omega)) hf.2.1, ShA_sm h4 (hf.1 _ (by omega)) hf.2.1, Ky_sm h5 (hf.1 _ (by omega)) (hf.1 _ (by omega))⟩
theorem K2_put (h : K2 σ b d m) (hb : b < d) (h0 : ztg σ (d + 3 * m) = (1, 5, 0)) (h2 : ShA σ (d + 3 * m)) (h3 : ShA σ (d + 3 * m + 1)) (h4 : ShA σ (d + 3 * m + 2)) (h5 : Ky σ (d + 3 * m) []) : K2 (sar σ 8 b m (some (d + 3 * m))) b d (m + 1) := by
  have sm : ∀ a, a ≠ b → SmA σ (sar σ 8 b m (some (d + 3 * m))) a := fun a ha => ⟨rfl, fun _ _ => ⟨rfl, rfl, rfl⟩, fun _ _ => ⟨rfl, if_neg (fun q => ha q.2.1)⟩⟩
  intro j hj
  by_cases e : j = m
  · subst e
    exact ⟨if_pos ⟨rfl, rfl, rfl⟩, h0, ShA_sm h2 (sm _ (by omega)) (fun _ _ => rfl), ShA_sm h3 (sm _ (by omega)) (fun _ _ => rfl), ShA_sm h4 (sm _ (by omega)) (fun _ _ => rfl), Ky_sm h5 (sm _ (by omega)) (sm _ (by omega))⟩
  · obtain ⟨k1, k0, k2, k3, k4, k5⟩ := h j (by omega)
    have ea : zar (sar σ 8 b m (some (d + 3 * m))) 8 b j = zar σ 8 b j := if_neg (fun q => e q.2.2)
    exact ⟨by rw [ea]; exact k1, k0, ShA_sm k2 (sm _ (by omega)) (fun _ _ => rfl), ShA_sm k3 (sm _ (by omega)) (fun _ _ => rfl), ShA_sm k4 (sm _ (by omega)) (fun _ _ => rfl), Ky_sm k5 (sm _ (by omega)) (sm _ (by omega))⟩
theorem K2_sh (h : K2 σ b d 2) (ha : d ≤ a) (hb : a < d + 6) : ShA σ a := by
  have h2 : ∃ j, j < 2 ∧ (a = d + 3 * j ∨ a = d + 3 * j + 1 ∨ a = d + 3 * j + 2) := ⟨(a - d) / 3, by omega, by omega⟩
  obtain ⟨j, hj, e⟩ := h2
  obtain ⟨_, _, k2, k3, k4, _⟩ := h j hj
  rcases e with e | e | e
  · rw [e]; exact k2
  · rw [e]; exact k3
  · rw [e]; exact k4
/-- a key more -/
theorem K2_new (hw : HIw σ) (h : K2 σ b d m) (hb : b < d) (hn : znx σ = d + 3 * m) (hP : ∀ τ, HIw τ → NewF σ τ (d + 3 * m) → znx τ = d + 3 * m + 3 → zsl τ = zsl σ + 436 → K2 τ b d m → ztg τ (d + 3 * m) = (1, 5, 0) → ShA τ (d + 3 * m) → ShA τ (d + 3 * m + 1) → ShA τ (d + 3 * m + 2) → Ky τ (d + 3 * m) [] → P none τ) : wpM 41 [.ref (d + 3 * m)] (zNew σ 5) P := by
  have h1 : HIw (zNew σ 5) := HIw_new hw
  have f1 : NewF σ (zNew σ 5) (d + 3 * m) := NewF_new hw.1 (by omega)
  have tg : ztg (zNew σ 5) (d + 3 * m) = (1, 5, 0) := by
    show upT (ztg σ) (znx σ) _ (d + 3 * m) = _
    rw [hn]; exact if_pos rfl
  refine mkK_ok h1 (zIs_of tg) (by show znx σ + 1 = _; omega) (fun τ hw2 f2 n2 s2 s3 s4 s5 hk => ?_)
  have hf := f1.tr f2
  refine hP τ hw2 hf n2 ?_ (K2_nf h hb hf) (by rw [f2.2.1 _ (by rw [tg]; exact Nat.succ_ne_zero 0)]; exact tg) s3 s4 s5 hk
  rw [s2]
  show zsl σ + (cRow 5).2.2 + 431 = _
  rw [show (cRow 5).2.2 = 5 from rfl]
end KR
