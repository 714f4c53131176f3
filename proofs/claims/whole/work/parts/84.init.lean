/-! THE CLASS: a new object, whole -/
section IM
variable {σ τ υ : zSt} {P : Option Value → zSt → Prop} {a b c d k n m l i t X : Nat} {v : Int32}
theorem mkG_ok (hw : HIw σ) (hz : ztg σ a = (1, 4, 0)) (hn : znx σ = a + 1) (hP : ∀ τ, HIw τ → NewF σ τ a → znx τ = a + 2 → zsl τ = zsl σ + 3 → (∀ c, a ≤ c → c < a + 2 → ShA τ c) → LE τ (a + 1) → ztg τ a = (1, 4, 0) → P none τ) : wpM 30 [.ref a] σ P := by
  refine b30.mpr (b30_8.mpr ?_)
  rw [hn]
  refine mkL2_ok hw hn (fun τ1 h1 f1 n1 s1 sh1 le1 t1 => b30_12.mpr ?_)
  have tt1 : ztg τ1 a = (1, 4, 0) := by rw [f1.2.1 a (by rw [hz]; exact Nat.succ_ne_zero 0)]; exact hz
  have sm : ∀ b, b ≠ a → SmA τ1 (sfr τ1 4 0 a (some (a + 1))) b := fun b hb => ⟨rfl, fun _ _ => ⟨rfl, rfl, if_neg (fun r => hb r.2.2)⟩, fun _ _ => ⟨rfl, rfl⟩⟩
  refine ⟨zIs_of tt1, hP _ (HIw_sfr h1 (by decide)) ((f1.mono (by omega)).tr (NewF_sfr (Nat.le_refl _))) n1 s1 (fun c h1 h2 => ?_) (LE_sm le1 (sm _ (by omega)) rfl) tt1⟩
  by_cases c0 : c = a
  · subst c0
    refine ShA_of (τ := sfr τ1 4 0 c (some (c + 1))) (zIs_of tt1) (fun e he hc => ?_)
    have key : ∀ e ∈ layL, e.1 = 4 → e = (4, 0, 1, 1, 13, 0) := by decide
    rw [key e he hc]
    exact ⟨if_pos ⟨rfl, rfl, rfl⟩, t1⟩
  · rw [show c = a + 1 by omega]; exact ShA_13 (σ := sfr τ1 4 0 a (some (a + 1))) le1.1
theorem mkH_ok (hw : HIw σ) (hz : ztg σ a = (1, 1, 0)) (hn : znx σ = a + 1) (hP : ∀ τ, HIw τ → NewF σ τ a → znx τ = a + 3 → zsl τ = zsl σ + 6 → (∀ c, a ≤ c → c < a + 3 → ShA τ c) → LE τ (a + 1) → LE τ (a + 2) → ztg τ a = (1, 1, 0) → zfi τ 1 2 a = 1000 → zfi τ 1 3 a = 0 → zfi τ 1 4 a = 0 → P none τ) : wpM 6 [.ref a] σ P := by
  refine b6.mpr (b6_8.mpr ?_)
  rw [hn]
  refine mkL2_ok hw hn (fun τ1 h1 f1 n1 s1 sh1 le1 t1 => b6_12.mpr ?_)
  have tt1 : ztg τ1 a = (1, 1, 0) := by rw [f1.2.1 a (by rw [hz]; exact Nat.succ_ne_zero 0)]; exact hz
  have sm : ∀ b, b ≠ a → SmA τ1 (sfr τ1 1 0 a (some (a + 1))) b := fun b hb => ⟨rfl, fun _ _ => ⟨rfl, rfl, if_neg (fun r => hb r.2.2)⟩, fun _ _ => ⟨rfl, rfl⟩⟩
  have h2 : HIw (sfr τ1 1 0 a (some (a + 1))) := HIw_sfr h1 (by decide)
  have n2 : znx (sfr τ1 1 0 a (some (a + 1))) = a + 2 := n1
  have f2 : NewF σ (sfr τ1 1 0 a (some (a + 1))) a := (f1.mono (by omega)).tr (NewF_sfr (Nat.le_refl _))
  have le2 := LE_sm le1 (sm (a + 1) (by omega)) rfl
  have r2 : zfr (sfr τ1 1 0 a (some (a + 1))) 1 0 a = some (a + 1) := if_pos ⟨rfl, rfl, rfl⟩
  have s2 : zsl (sfr τ1 1 0 a (some (a + 1))) = zsl σ + 3 := s1
  have tt2 : ztg (sfr τ1 1 0 a (some (a + 1))) a = (1, 1, 0) := tt1
  have t2 : ztg (sfr τ1 1 0 a (some (a + 1))) (a + 1) = (1, 13, 0) := t1
  refine ⟨zIs_of tt1, b6_19.mpr ?_⟩
  rw [n2]
  generalize sfr τ1 1 0 a (some (a + 1)) = σ2 at *
  refine mkL2_ok h2 n2 (fun τ3 h3 f3 n3 s3 sh3 le3 t3 => b6_23.mpr ?_)
  have tt3 : ztg τ3 a = (1, 1, 0) := by rw [(f3.1 a (by omega)).1]; exact tt2
  have r3 : zfr τ3 1 0 a = some (a + 1) := by rw [((f3.1 a (by omega)).2.1 1 0).2.2]; exact r2
  have t31 : ztg τ3 (a + 1) = (1, 13, 0) := by rw [(f3.1 (a + 1) (by omega)).1]; exact t2
  have le31 := LE_sm le2 (f3.1 (a + 1) (by omega)) f3.2.2.1
  have hf : ∀ k, zfi (sfi (sfi (sfi (sfr τ3 1 1 a (some (a + 2))) 1 2 a 1000) 1 3 a 0) 1 4 a 0) 1 k a = if k = 4 then 0 else if k = 3 then 0 else if k = 2 then 1000 else zfi τ3 1 k a := by
    intro k
    show up3 (up3 (up3 (zfi τ3) 1 2 a 1000) 1 3 a 0) 1 4 a 0 1 k a = _
    unfold up3
    simp
  have sm4 : ∀ b, b ≠ a → SmA τ3 (sfi (sfi (sfi (sfr τ3 1 1 a (some (a + 2))) 1 2 a 1000) 1 3 a 0) 1 4 a 0) b := by
    intro b hb
    refine ⟨rfl, fun c k => ⟨?_, rfl, if_neg (fun r => hb r.2.2)⟩, fun _ _ => ⟨rfl, rfl⟩⟩
    show up3 (up3 (up3 (zfi τ3) 1 2 a 1000) 1 3 a 0) 1 4 a 0 c k b = _
    unfold up3
    rw [if_neg (fun r => hb r.2.2), if_neg (fun r => hb r.2.2), if_neg (fun r => hb r.2.2)]
  refine ⟨zIs_of tt3, zIs_of tt3, hP _ (HIw_sfr (c := 1) (k := 1) (a := a) (v := some (a + 2)) h3 (by decide)) (f2.tr ((f3.mono (by omega)).tr ((NewF_sfr (Nat.le_refl _)).tr ((NewF_sfi (Nat.le_refl _)).tr ((NewF_sfi (Nat.le_refl _)).tr (NewF_sfi (Nat.le_refl _))))))) n3 (by show zsl τ3 = _; omega) (fun c h1 h2 => ?_) (LE_sm le31 (sm4 _ (by omega)) rfl) (LE_sm le3 (sm4 _ (by omega)) rfl) tt3 (hf 2) (hf 3) (hf 4)⟩
  by_cases c0 : c = a
  · subst c0
    refine ShA_of (τ := sfi (sfi (sfi (sfr τ3 1 1 c (some (c + 2))) 1 2 c 1000) 1 3 c 0) 1 4 c 0) (zIs_of tt3) (fun e he hc => ?_)
    have key : ∀ e ∈ layL, e.1 = 1 → e = (1, 0, 1, 1, 13, 0) ∨ e = (1, 1, 2, 1, 13, 0) := by decide
    rcases key e he hc with q | q <;> subst q
    · refine ⟨?_, t31⟩
      show up3 (zfr τ3) 1 1 c (some (c + 2)) 1 0 c = _
      unfold up3; rw [if_neg (by omega)]; exact r3
    · exact ⟨if_pos ⟨rfl, rfl, rfl⟩, t3⟩
  by_cases c1 : c = a + 1
  · rw [c1]; exact ShA_13 (LE_sm le31 (sm4 _ (by omega)) rfl).1
  · rw [show c = a + 2 by omega]; exact ShA_13 (LE_sm le3 (sm4 _ (by omega)) rfl).1
theorem mkR_ok (hw : HIw σ) (hz : ztg σ a = (1, 9, 0)) (hn : znx σ = a + 1) (hP : ∀ τ, HIw τ → NewF σ τ a → znx τ = a + 3 → zsl τ = zsl σ + 66 → (∀ c, a ≤ c → c < a + 3 → ShA τ c) → ztg τ a = (1, 9, 0) → P none τ) : wpM 65 [.ref a] σ P := by
  refine b65.mpr (b65_8.mpr ?_)
  rw [hn]
  have hw1 : HIw (zNew σ 2) := HIw_new hw
  have f1 : NewF σ (zNew σ 2) (a + 1) := NewF_new hw.1 (by omega)
  have t1 : ztg (zNew σ 2) (a + 1) = (1, 2, 0) := by
    show upT (ztg σ) (znx σ) _ (a + 1) = _
    rw [hn]; exact if_pos rfl
  refine mkC_ok hw1 (zIs_of t1) (by show znx σ + 1 = _; omega) (fun τ2 h2 f2 n2 s2 sh1 sh2 hc => b65_12.mpr ?_)
  have f12 := f1.tr f2
  have tt2 : ztg τ2 a = (1, 9, 0) := by rw [(f12.1 a (by omega)).1]; exact hz
  have t2 : ztg τ2 (a + 1) = (1, 2, 0) := by rw [f2.2.1 _ (by rw [t1]; exact Nat.succ_ne_zero 0)]; exact t1
  have sm4 : ∀ b, b ≠ a → SmA τ2 (sfi (sfr τ2 9 0 a (some (a + 1))) 9 1 a 0) b := fun b hb => ⟨rfl, fun _ _ => ⟨if_neg (fun r => hb r.2.2), rfl, if_neg (fun r => hb r.2.2)⟩, fun _ _ => ⟨rfl, rfl⟩⟩
  refine ⟨zIs_of tt2, zIs_of tt2, Or.inl rfl, hP _ (HIw_sfr (c := 9) (k := 0) (a := a) (v := some (a + 1)) h2 (by decide)) ((f12.mono (by omega)).tr ((NewF_sfr (Nat.le_refl _)).tr (NewF_sfi (Nat.le_refl _)))) n2 ?_ (fun c h1 h2 => ?_) tt2⟩
  · show zsl τ2 = _
    rw [s2]
    show zsl σ + (cRow 2).2.2 + 64 = _
    rw [show (cRow 2).2.2 = 2 from rfl]
  · by_cases c0 : c = a
    · subst c0
      refine ShA_of (τ := sfi (sfr τ2 9 0 c (some (c + 1))) 9 1 c 0) (zIs_of tt2) (fun e he hc => ?_)
      have key : ∀ e ∈ layL, e.1 = 9 → e = (9, 0, 1, 1, 2, 0) := by decide
      rw [key e he hc]
      exact ⟨if_pos ⟨rfl, rfl, rfl⟩, t2⟩
    · have : ShA τ2 c := by
        by_cases c1 : c = a + 1
        · rw [c1]; exact sh1
        · rw [show c = a + 1 + 1 by omega]; exact sh2
      exact ShA_sm this (sm4 c c0) (fun _ _ => rfl)
theorem NewF_newM (hF : Fresh σ) (hn : n ≤ znx σ) : NewF σ (zNewM σ m k) n := by
  refine ⟨fun a ha => ⟨?_, fun c' k => ⟨rfl, rfl, rfl⟩, fun _ _ => ⟨if_neg (by omega), if_neg (by omega)⟩⟩, fun a ha => ?_, rfl, rfl, ?_⟩
  · show (if a = znx σ then _ else if znx σ < a ∧ a ≤ znx σ + m then _ else ztg σ a) = _
    rw [if_neg (by omega), if_neg (by omega)]
  · have : a < znx σ := tag_lt hF ha
    show (if a = znx σ then _ else if znx σ < a ∧ a ≤ znx σ + m then _ else ztg σ a) = _
    rw [if_neg (by omega), if_neg (by omega)]
  · show znx σ ≤ znx σ + 1 + m; omega
theorem HIw_newM (h : HIw σ) : HIw (zNewM σ m k) := by
  obtain ⟨hF, hL, hE, h0⟩ := h
  have hN : NewF σ (zNewM σ m k) 0 := NewF_newM hF (Nat.zero_le _)
  have ht := hN.2.1
  have hl : ∀ l, zIs (zNewM σ m k) l 13 → zIs σ l 13 := by
    intro l hz
    unfold zIs at hz ⊢
    have e : ztg (zNewM σ m k) l = if l = znx σ then (3, 9, m) else if znx σ < l ∧ l ≤ znx σ + m then (2, 10, k) else ztg σ l := rfl
    rw [e] at hz
    by_cases q : l = znx σ
    · rw [if_pos q] at hz; exact absurd hz.1 (by simp)
    · rw [if_neg q] at hz
      by_cases q2 : znx σ < l ∧ l ≤ znx σ + m
      · rw [if_pos q2] at hz; exact absurd hz.1 (by simp)
      · rw [if_neg q2] at hz; exact hz
  refine ⟨fun a ha => ?_, ⟨fun l d hz hd => ?_, fun l l' d hz hz' hd hd' h3 => ?_⟩, fun d i => ?_, ?_⟩
  · have ha : znx σ + 1 + m ≤ a := ha
    show (if a = znx σ then (3, 9, m) else if znx σ < a ∧ a ≤ znx σ + m then (2, 10, k) else ztg σ a).1 = 0
    rw [if_neg (by omega), if_neg (by omega)]; exact hF a (by omega)
  · have := hL.1 l d (hl l hz) hd
    rw [ht d this]; exact this
  · exact hL.2 l l' d (hl l hz) (hl l' hz') hd hd' (by rw [← ht d (hL.1 l d (hl l hz) hd)]; exact h3)
  · have e : zar (zNewM σ m k) 11 d i = zar σ 11 d i := by
      show (if (11 : Nat) = 9 ∧ d = znx σ then (if i < m then some (znx σ + 1 + i) else none) else zar σ 11 d i) = _
      rw [if_neg (fun r => absurd r.1 (by decide))]
    rw [e]; exact zEl_tg ht (hE d i)
  · show ztg (zNewM σ m k) (ze0 σ) = _
    rw [ht _ (by rw [h0]; exact Nat.succ_ne_zero 4)]; exact h0
theorem mkLog_ok (hw : HIw σ) (hz : ztg σ a = (1, 6, 0)) (hn : znx σ = a + 1) (hP : ∀ τ, HIw τ → NewF σ τ a → znx τ = a + 6 → zsl τ = zsl σ + 164 → (∀ c, a ≤ c → c < a + 6 → ShA τ c) → ztg τ a = (1, 6, 0) → (∀ k, 1 ≤ k → k < 5 → zfi τ 6 k a = 0) → P none τ) : wpM 52 [.ref a] σ P := by
  refine b52.mpr ⟨by decide, ?_⟩
  rw [hn, show Int32.toNatClampNeg 4 = 4 from rfl, show Int32.toNatClampNeg 40 = 40 from rfl]
  have h1 : HIw (zNewM σ 4 40) := HIw_newM hw
  have f1 : NewF σ (zNewM σ 4 40) (a + 1) := NewF_newM hw.1 (by omega)
  have t1 : ztg (zNewM σ 4 40) (a + 1) = (3, 9, 4) := by
    show (if a + 1 = znx σ then _ else _) = _
    rw [if_pos hn.symm]
  have t2 : ∀ i, i < 4 → ztg (zNewM σ 4 40) (a + 2 + i) = (2, 10, 40) := by
    intro i hi
    show (if a + 2 + i = znx σ then _ else if znx σ < a + 2 + i ∧ a + 2 + i ≤ znx σ + 4 then _ else _) = _
    rw [if_neg (by omega), if_pos (by omega)]
  have a2 : ∀ i, i < 4 → zar (zNewM σ 4 40) 9 (a + 1) i = some (a + 2 + i) := by
    intro i hi
    show (if 9 = 9 ∧ a + 1 = znx σ then (if i < 4 then some (znx σ + 1 + i) else none) else _) = _
    rw [if_pos ⟨rfl, hn.symm⟩, if_pos hi, hn]
  have tt1 : ztg (zNewM σ 4 40) a = (1, 6, 0) := by rw [(f1.1 a (by omega)).1]; exact hz
  have n1 : znx (zNewM σ 4 40) = a + 6 := by show znx σ + 1 + 4 = _; omega
  have s1 : zsl (zNewM σ 4 40) = zsl σ + 164 := by show zsl σ + 4 + 4 * 40 = _; omega
  generalize zNewM σ 4 40 = σ1 at *
  have hf : ∀ k, zfi (sfi (sfi (sfi (sfi (sfr σ1 6 0 a (some (a + 1))) 6 1 a 0) 6 2 a 0) 6 3 a 0) 6 4 a 0) 6 k a = if k = 4 then 0 else if k = 3 then 0 else if k = 2 then 0 else if k = 1 then 0 else zfi σ1 6 k a := by
    intro k
    show up3 (up3 (up3 (up3 (zfi σ1) 6 1 a 0) 6 2 a 0) 6 3 a 0) 6 4 a 0 6 k a = _
    unfold up3
    simp
  refine b52_12.mpr ⟨zIs_of tt1, zIs_of tt1, hP _ (HIw_sfr (c := 6) (k := 0) (a := a) (v := some (a + 1)) h1 (by decide)) ((f1.mono (by omega)).tr ((NewF_sfr (Nat.le_refl _)).tr ((NewF_sfi (Nat.le_refl _)).tr ((NewF_sfi (Nat.le_refl _)).tr ((NewF_sfi (Nat.le_refl _)).tr (NewF_sfi (Nat.le_refl _))))))) n1 s1 (fun c h1 h2 => ?_) tt1 (fun k h1 h2 => ?_)⟩
  · by_cases c0 : c = a
    · subst c0
      refine ShA_of (τ := sfi (sfi (sfi (sfi (sfr σ1 6 0 c (some (c + 1))) 6 1 c 0) 6 2 c 0) 6 3 c 0) 6 4 c 0) (zIs_of tt1) (fun e he hc => ?_)
      have key : ∀ e ∈ layL, e.1 = 6 → e = (6, 0, 1, 3, 9, 4) := by decide
      rw [key e he hc]
      exact ⟨if_pos ⟨rfl, rfl, rfl⟩, t1⟩
    by_cases c1 : c = a + 1
    · subst c1
      refine ShA_arr (τ := sfi (sfi (sfi (sfi (sfr σ1 6 0 a (some (a + 1))) 6 1 a 0) 6 2 a 0) 6 3 a 0) 6 4 a 0) t1 (fun e he hc _ i hi => ?_)
      have key : ∀ e ∈ layA, e.1 = 9 → e.2.2.1 = 1 ∧ e.2.2.2.1 = 1 ∧ e.2.2.2.2 = (2, 10, 40) := by decide
      obtain ⟨q1, q2, q3⟩ := key e he hc
      rw [q1, q2, q3, show a + 1 + 1 + 1 * i = a + 2 + i by omega]
      exact ⟨a2 i hi, t2 i hi⟩
    · have h3 := t2 (c - (a + 2)) (by omega)
      rw [show a + 2 + (c - (a + 2)) = c by omega] at h3
      exact ShA_2 (σ := sfi (sfi (sfi (sfi (sfr σ1 6 0 a (some (a + 1))) 6 1 a 0) 6 2 a 0) 6 3 a 0) 6 4 a 0) h3
  · rw [hf]
    have : k = 1 ∨ k = 2 ∨ k = 3 ∨ k = 4 := by omega
    rcases this with r | r | r | r <;> subst r <;> rfl
/-- the object's own fields -/
def offX (j : Nat) : Nat := [1, 11, 13, 15, 18, 21, 27, 30].getD j 0
/-- a stage of the making: k fields stand, all between X and n has its layout -/
def IX (σ0 τ : zSt) (X k n s : Nat) : Prop := HIw τ ∧ NewF σ0 τ X ∧ znx τ = n ∧ zsl τ = zsl σ0 + s ∧ X < n ∧ ztg τ X = (1, 11, 0) ∧ (∀ j, j < k → zfr τ 11 j X = some (X + offX j)) ∧ ∀ b, X < b → b < n → ShA τ b
/-- what stays beside X below n -/
def SmT (σ τ : zSt) (X n : Nat) : Prop := (∀ b, b < n → b ≠ X → SmA σ τ b) ∧ (∀ x, (ztg σ x).1 ≠ 0 → ztg τ x = ztg σ x) ∧ ze0 τ = ze0 σ
theorem SmT.tr (h : SmT σ τ X n) (h' : SmT τ υ X m) (hm : n ≤ m) : SmT σ υ X n := ⟨fun b hb hx => (h.1 b hb hx).tr (h'.1 b (by omega) hx), fun x hx => (h'.2.1 x (by rw [h.2.1 x hx]; exact hx)).trans (h.2.1 x hx), h'.2.2.trans h.2.2⟩
theorem IX_step {σ0 : zSt} {s e : Nat} (h : IX σ0 σ X k n s) (hw : HIw τ) (hf : NewF σ τ n) (hn : znx τ = m) (hs : zsl τ = zsl σ + e) (hsh : ∀ b, n ≤ b → b < m → ShA τ b) (hk : n = X + offX k) : IX σ0 (sfr τ 11 k X (some n)) X (k + 1) m (s + e) ∧ SmT σ (sfr τ 11 k X (some n)) X n ∧ SmT τ (sfr τ 11 k X (some n)) X m := by
  obtain ⟨h1, h2, h3, h4, h5, h6, h7, h8⟩ := h
  have sm : ∀ b, b ≠ X → SmA τ (sfr τ 11 k X (some n)) b := fun b hb => ⟨rfl, fun _ _ => ⟨rfl, rfl, if_neg (fun r => hb r.2.2)⟩, fun _ _ => ⟨rfl, rfl⟩⟩
  have hnm : n ≤ m := by have := hf.2.2.2.2; omega
  refine ⟨⟨HIw_sfr hw (by decide), (h2.tr (hf.mono (by omega))).tr (NewF_sfr (Nat.le_refl _)), hn, by show zsl τ = _; omega, by omega, ?_, fun j hj => ?_, fun b hb1 hb2 => ?_⟩, ⟨fun b hb hx => (hf.1 b hb).tr (sm b hx), hf.2.1, hf.2.2.1⟩, ⟨fun b hb hx => sm b hx, fun _ _ => rfl, rfl⟩⟩
  · show ztg τ X = _
    rw [(hf.1 X h5).1]; exact h6
  · by_cases q : j = k
    · rw [q, ← hk]; exact if_pos ⟨rfl, rfl, rfl⟩
    · have e : zfr (sfr τ 11 k X (some n)) 11 j X = zfr τ 11 j X := if_neg (fun r => q r.2.1)
      rw [e, ((hf.1 X h5).2.1 11 j).2.2]; exact h7 j (by omega)
  · refine ShA_sm ?_ (sm b (by omega)) (fun _ _ => rfl)
    by_cases q : b < n
    · exact ShA_sm (h8 b hb1 q) (hf.1 b q) hf.2.1
    · exact hsh b (by omega) hb2
theorem zNew_tg (hn : znx σ = n) : ztg (zNew σ c) n = (1, c, 0) := by
  show upT (ztg σ) (znx σ) _ n = _
  rw [hn]; exact if_pos rfl
theorem SmT.tg {x y z : Nat} (h : SmT σ τ X n) (ht : ztg σ a = (x + 1, y, z)) : ztg τ a = (x + 1, y, z) := by
  rw [h.2.1 a (by rw [ht]; exact Nat.succ_ne_zero x)]; exact ht
theorem init_rm {s : Nat} (h1 : capOf τ (X + 16) = 0) (h2 : capOf τ (X + 17) = 0) (h3 : znx τ = X + 38) (h4 : zsl τ = s + 1124) : Rm τ X [] [] (X + 4000) (s + 90000) := by
  unfold Rm RmN
  rw [h1, h2, h3, h4, List.append_nil, List.length_nil]
  exact ⟨Nat.zero_le _, Nat.zero_le _, by omega, by omega⟩
theorem init_ok (hH : HI σ) (hX : znx σ = X) (hP : ∀ τ, Cls τ X w0 (X + 4000) (zsl σ + 90000) → RF σ τ → P none τ) : wpM 81 [.ref X] (zNew σ 11) P := by
  have hw0 : HIw (zNew σ 11) := HIw_new (HIw_of hH)
  have I0 : IX σ (zNew σ 11) X 0 (X + 1) 8 := ⟨hw0, NewF_new hH.2.1 (by omega), by show znx σ + 1 = _; omega, rfl, by omega, zNew_tg hX, fun j hj => absurd hj (Nat.not_lt_zero j), fun b h1 h2 => by omega⟩
  refine b81.mpr (b81_8.mpr ?_)
  rw [I0.2.2.1]
  refine mkT_ok (HIw_new hw0) (zNew_tg I0.2.2.1) (by show znx (zNew σ 11) + 1 = _; rw [I0.2.2.1]) (fun τ1 h1 f1 n1 s1 sh1 l1 p1 t1 => ?_)
  obtain ⟨I1, S1, S1'⟩ := IX_step (e := 158) (m := X + 11) I0 h1 ((NewF_new hw0.1 (by rw [I0.2.2.1]; omega)).tr f1) n1 (by rw [s1]; show zsl (zNew σ 11) + (cRow 10).2.2 + 157 = _; rw [show (cRow 10).2.2 = 1 from rfl]) (fun b q1 q2 => sh1 b q1 (by omega)) rfl
  have L1a : L1 (sfr τ1 11 0 X (some (X + 1))) (X + 2) (X + 10) (X + 3) := L1_sm l1 (S1'.1 _ (by omega) (by omega)) (S1'.1 _ (by omega) (by omega))
  have P1a : PathM (sfr τ1 11 0 X (some (X + 1))) (X + 3) 0 (-1) 0 1 := PathM_sm p1 (fun b q1 q2 => S1'.1 b (by omega) (by omega)) S1'.2.2
  have T1 : ztg (sfr τ1 11 0 X (some (X + 1))) (X + 1) = (1, 10, 0) := t1
  refine b81_12.mpr ⟨zIs_of (show ztg τ1 X = _ from I1.2.2.2.2.2.1), b81_19.mpr ?_⟩
  generalize sfr τ1 11 0 X (some (X + 1)) = σ1 at *
  rw [I1.2.2.1]
  have hw1 := I1.1
  have z1 := zNew_tg (c := 2) I1.2.2.1
  refine mkC_ok (HIw_new hw1) (zIs_of z1) (by show znx σ1 + 1 = _; rw [I1.2.2.1]) (fun τ2 h2 f2 n2 s2 sha2 shb2 c2 => ?_)
  obtain ⟨I2, S2, S2'⟩ := IX_step (e := 66) (m := X + 13) I1 h2 ((NewF_new hw1.1 (by rw [I1.2.2.1]; omega)).tr f2) n2 (by rw [s2]; show zsl σ1 + (cRow 2).2.2 + 64 = _; rw [show (cRow 2).2.2 = 2 from rfl]) (fun b q1 q2 => by
    by_cases e : b = X + 11
    · rw [e]; exact sha2
    · rw [show b = X + 11 + 1 by omega]; exact shb2) rfl
  have C2 : Cnt (sfr τ2 11 1 X (some (X + 11))) (X + 11) none := Cnt_sm c2 (S2'.1 _ (by omega) (by omega)) (S2'.1 _ (by omega) (by omega))
  have T2 : ztg (sfr τ2 11 1 X (some (X + 11))) (X + 11) = (1, 2, 0) := by
    show ztg τ2 (X + 11) = _
    rw [f2.2.1 _ (by rw [z1]; exact Nat.succ_ne_zero 0)]; exact z1
  refine b81_23.mpr ⟨zIs_of (show ztg τ2 X = _ from I2.2.2.2.2.2.1), b81_30.mpr ?_⟩
  generalize sfr τ2 11 1 X (some (X + 11)) = σ2 at *
  rw [I2.2.2.1]
  have hw2 := I2.1
  refine mkG_ok (HIw_new hw2) (zNew_tg I2.2.2.1) (by show znx σ2 + 1 = _; rw [I2.2.2.1]) (fun τ3 h3 f3 n3 s3 sh3 le3 t3 => ?_)
  obtain ⟨I3, S3, S3'⟩ := IX_step (e := 4) (m := X + 15) I2 h3 ((NewF_new hw2.1 (by rw [I2.2.2.1]; omega)).tr f3) n3 (by rw [s3]; show zsl σ2 + (cRow 4).2.2 + 3 = _; rw [show (cRow 4).2.2 = 1 from rfl]) (fun b q1 q2 => sh3 b q1 (by omega)) rfl
  have E3 : LE (sfr τ3 11 2 X (some (X + 13))) (X + 14) := LE_sm le3 (S3'.1 _ (by omega) (by omega)) S3'.2.2
  have T3 : ztg (sfr τ3 11 2 X (some (X + 13))) (X + 13) = (1, 4, 0) := t3
  refine b81_34.mpr ⟨zIs_of (show ztg τ3 X = _ from I3.2.2.2.2.2.1), b81_41.mpr ?_⟩
  generalize sfr τ3 11 2 X (some (X + 13)) = σ3 at *
  rw [I3.2.2.1]
  have hw3 := I3.1
  refine mkH_ok (HIw_new hw3) (zNew_tg I3.2.2.1) (by show znx σ3 + 1 = _; rw [I3.2.2.1]) (fun τ4 h4 f4 n4 s4 sh4 le4 le4' t4 c42 c43 c44 => ?_)
  obtain ⟨I4, S4, S4'⟩ := IX_step (e := 11) (m := X + 18) I3 h4 ((NewF_new hw3.1 (by rw [I3.2.2.1]; omega)).tr f4) n4 (by rw [s4]; show zsl σ3 + (cRow 1).2.2 + 6 = _; rw [show (cRow 1).2.2 = 5 from rfl]) (fun b q1 q2 => sh4 b q1 (by omega)) rfl
  have E4 : LE (sfr τ4 11 3 X (some (X + 15))) (X + 16) := LE_sm le4 (S4'.1 _ (by omega) (by omega)) S4'.2.2
  have E4' : LE (sfr τ4 11 3 X (some (X + 15))) (X + 17) := LE_sm le4' (S4'.1 _ (by omega) (by omega)) S4'.2.2
  have T4 : ztg (sfr τ4 11 3 X (some (X + 15))) (X + 15) = (1, 1, 0) := t4
  have F4 : zfi (sfr τ4 11 3 X (some (X + 15))) 1 2 (X + 15) = 1000 ∧ zfi (sfr τ4 11 3 X (some (X + 15))) 1 3 (X + 15) = 0 ∧ zfi (sfr τ4 11 3 X (some (X + 15))) 1 4 (X + 15) = 0 := ⟨c42, c43, c44⟩
  refine b81_45.mpr ⟨zIs_of (show ztg τ4 X = _ from I4.2.2.2.2.2.1), b81_52.mpr ?_⟩
  generalize sfr τ4 11 3 X (some (X + 15)) = σ4 at *
  rw [I4.2.2.1]
  have hw4 := I4.1
  refine mkR_ok (HIw_new hw4) (zNew_tg I4.2.2.1) (by show znx σ4 + 1 = _; rw [I4.2.2.1]) (fun τ5 h5 f5 n5 s5 sh5 t5 => ?_)
  obtain ⟨I5, S5, S5'⟩ := IX_step (e := 68) (m := X + 21) I4 h5 ((NewF_new hw4.1 (by rw [I4.2.2.1]; omega)).tr f5) n5 (by rw [s5]; show zsl σ4 + (cRow 9).2.2 + 66 = _; rw [show (cRow 9).2.2 = 2 from rfl]) (fun b q1 q2 => sh5 b q1 (by omega)) rfl
  have T5 : ztg (sfr τ5 11 4 X (some (X + 18))) (X + 18) = (1, 9, 0) := t5
  refine b81_56.mpr ⟨zIs_of (show ztg τ5 X = _ from I5.2.2.2.2.2.1), b81_63.mpr ?_⟩
  generalize sfr τ5 11 4 X (some (X + 18)) = σ5 at *
  rw [I5.2.2.1]
  have hw5 := I5.1
  refine mkLog_ok (HIw_new hw5) (zNew_tg I5.2.2.1) (by show znx σ5 + 1 = _; rw [I5.2.2.1]) (fun τ6 h6 f6 n6 s6 sh6 t6 g6 => ?_)
  obtain ⟨I6, S6, S6'⟩ := IX_step (e := 169) (m := X + 27) I5 h6 ((NewF_new hw5.1 (by rw [I5.2.2.1]; omega)).tr f6) n6 (by rw [s6]; show zsl σ5 + (cRow 6).2.2 + 164 = _; rw [show (cRow 6).2.2 = 5 from rfl]) (fun b q1 q2 => sh6 b q1 (by omega)) rfl
  have T6 : ztg (sfr τ6 11 5 X (some (X + 21))) (X + 21) = (1, 6, 0) := t6
  have F6 : ∀ k, 1 ≤ k → k < 5 → zfi (sfr τ6 11 5 X (some (X + 21))) 6 k (X + 21) = 0 := g6
  refine b81_67.mpr ⟨zIs_of (show ztg τ6 X = _ from I6.2.2.2.2.2.1), b81_74.mpr ?_⟩
  generalize sfr τ6 11 5 X (some (X + 21)) = σ6 at *
  rw [I6.2.2.1]
  have hw6 := I6.1
  have z6 := zNew_tg (c := 5) I6.2.2.1
  refine mkK_ok (HIw_new hw6) (zIs_of z6) (by show znx σ6 + 1 = _; rw [I6.2.2.1]) (fun τ7 h7 f7 n7 s7 sa7 sb7 sc7 k7 => ?_)
  obtain ⟨I7, S7, S7'⟩ := IX_step (e := 436) (m := X + 30) I6 h7 ((NewF_new hw6.1 (by rw [I6.2.2.1]; omega)).tr f7) n7 (by rw [s7]; show zsl σ6 + (cRow 5).2.2 + 431 = _; rw [show (cRow 5).2.2 = 5 from rfl]) (fun b q1 q2 => by
    have : b = X + 27 ∨ b = X + 27 + 1 ∨ b = X + 27 + 2 := by omega
    rcases this with e | e | e <;> rw [e] <;> assumption) rfl
  have T7 : ztg (sfr τ7 11 6 X (some (X + 27))) (X + 27) = (1, 5, 0) := by
    show ztg τ7 (X + 27) = _
    rw [f7.2.1 _ (by rw [z6]; exact Nat.succ_ne_zero 0)]; exact z6
  refine b81_78.mpr ⟨zIs_of (show ztg τ7 X = _ from I7.2.2.2.2.2.1), b81_85.mpr ?_⟩
  generalize sfr τ7 11 6 X (some (X + 27)) = σ7 at *
  rw [I7.2.2.1]
  have hw7 := I7.1
  have z7 := zNew_tg (c := 7) I7.2.2.1
  refine mkO_ok (HIw_new hw7) (zIs_of z7) (by show znx σ7 + 1 = _; rw [I7.2.2.1]) (fun τ8 h8 f8 n8 s8 sh8 o8 => ?_)
  have f78 := (NewF_new (c := 7) hw7.1 (show X + 30 ≤ znx σ7 by rw [I7.2.2.1]; omega)).tr f8
  obtain ⟨I8, S8, S8'⟩ := IX_step (e := 204) (m := X + 38) I7 h8 f78 n8 (by rw [s8]; show zsl σ7 + (cRow 7).2.2 + 201 = _; rw [show (cRow 7).2.2 = 3 from rfl]) (fun b q1 q2 => sh8 b q1 (by omega)) rfl
  have T8 : ztg (sfr τ8 11 7 X (some (X + 30))) (X + 30) = (1, 7, 0) := by
    show ztg τ8 (X + 30) = _
    rw [f8.2.1 _ (by rw [z7]; exact Nat.succ_ne_zero 0)]; exact z7
  have r1 : zfr τ8 11 1 X = some (X + 11) := by rw [((f78.1 X (by omega)).2.1 11 1).2.2]; exact I7.2.2.2.2.2.2.1 1 (by omega)
  have er : zrf τ8 11 1 X = X + 11 := by unfold zrf; rw [r1]; rfl
  have S28 : SmT σ2 (sfr τ8 11 7 X (some (X + 30))) X (X + 13) := S3.tr (S4.tr (S5.tr (S6.tr (S7.tr S8 (by omega)) (by omega)) (by omega)) (by omega)) (by omega)
  have S38 : SmT σ3 (sfr τ8 11 7 X (some (X + 30))) X (X + 15) := S4.tr (S5.tr (S6.tr (S7.tr S8 (by omega)) (by omega)) (by omega)) (by omega)
  have S48 : SmT σ4 (sfr τ8 11 7 X (some (X + 30))) X (X + 18) := S5.tr (S6.tr (S7.tr S8 (by omega)) (by omega)) (by omega)
  have S58 : SmT σ5 (sfr τ8 11 7 X (some (X + 30))) X (X + 21) := S6.tr (S7.tr S8 (by omega)) (by omega)
  have S68 : SmT σ6 (sfr τ8 11 7 X (some (X + 30))) X (X + 27) := S7.tr S8 (by omega)
  have S18 : SmT σ1 (sfr τ8 11 7 X (some (X + 30))) X (X + 11) := S2.tr S28 (by omega)
  have zX8 : zIs τ8 X 11 := zIs_of (show ztg τ8 X = _ from I8.2.2.2.2.2.1)
  have T2' := S28.tg T2
  refine b81_89.mpr ⟨zX8, zX8, by rw [r1]; rfl, by rw [er]; exact zIs_of (show ztg τ8 (X + 11) = _ from T2'), ?_⟩
  rw [er]
  have C2' : Cnt (sfr τ8 11 7 X (some (X + 30))) (X + 11) none := Cnt_sm C2 (S28.1 _ (by omega) (by omega)) (S28.1 _ (by omega) (by omega))
  generalize sfr τ8 11 7 X (some (X + 30)) = σ8 at *
  have sm9 : ∀ b, b ≠ X + 11 → SmA σ8 (sfi σ8 2 1 (X + 11) 0) b := fun b hb => ⟨rfl, fun _ _ => ⟨if_neg (fun r => hb r.2.2), rfl, rfl⟩, fun _ _ => ⟨rfl, rfl⟩⟩
  obtain ⟨hw8, N8, nx8, sl8, _, tX8, rX8, sh8'⟩ := I8
  have hN : NewF σ (sfi σ8 2 1 (X + 11) 0) (znx σ) := by rw [hX]; exact N8.tr (NewF_sfi (by omega))
  have shX : ShA (sfi σ8 2 1 (X + 11) 0) X := by
    refine ShA_of (τ := sfi σ8 2 1 (X + 11) 0) (zIs_of tX8) (fun e he hc => ?_)
    have key : ∀ e ∈ layL, e.1 = 11 → e ∈ [(11, 0, 1, 1, 10, 0), (11, 1, 11, 1, 2, 0), (11, 2, 13, 1, 4, 0), (11, 3, 15, 1, 1, 0), (11, 4, 18, 1, 9, 0), (11, 5, 21, 1, 6, 0), (11, 6, 27, 1, 5, 0), (11, 7, 30, 1, 7, 0)] := by decide
    have key2 := key e he hc
    simp only [List.mem_cons, List.not_mem_nil, or_false] at key2
    rcases key2 with q | q | q | q | q | q | q | q <;> subst q
    · exact ⟨rX8 0 (by omega), S18.tg T1⟩
    · exact ⟨rX8 1 (by omega), T2'⟩
    · exact ⟨rX8 2 (by omega), S38.tg T3⟩
    · exact ⟨rX8 3 (by omega), S48.tg T4⟩
    · exact ⟨rX8 4 (by omega), S58.tg T5⟩
    · exact ⟨rX8 5 (by omega), S68.tg T6⟩
    · exact ⟨rX8 6 (by omega), S8.tg T7⟩
    · exact ⟨rX8 7 (by omega), T8⟩
  have hH9 : HI (sfi σ8 2 1 (X + 11) 0) := by
    refine HI_new hH hN hw8 (fun b q1 q2 => ?_)
    by_cases e : b = X
    · rw [e]; exact shX
    · exact sh8' b (by omega) (by rw [← nx8]; exact q2)
  have L1b : L1 (sfi σ8 2 1 (X + 11) 0) (X + 2) (X + 10) (X + 3) := L1_sm (L1_sm L1a (S18.1 _ (by omega) (by omega)) (S18.1 _ (by omega) (by omega))) (sm9 _ (by omega)) (sm9 _ (by omega))
  have P1b : PathM (sfi σ8 2 1 (X + 11) 0) (X + 3) 0 (-1) 0 1 := PathM_sm (PathM_sm P1a (fun b q1 q2 => S18.1 b (by omega) (by omega)) S18.2.2) (fun b q1 q2 => sm9 b (by omega)) rfl
  have E3b := LE_val (LE_sm (LE_sm E3 (S38.1 _ (by omega) (by omega)) S38.2.2) (sm9 _ (by omega)) rfl) hw8
  have E4b := LE_val (LE_sm (LE_sm E4 (S48.1 _ (by omega) (by omega)) S48.2.2) (sm9 _ (by omega)) rfl) hw8
  have E4c := LE_val (LE_sm (LE_sm E4' (S48.1 _ (by omega) (by omega)) S48.2.2) (sm9 _ (by omega)) rfl) hw8
  have C9 : Cnt (sfi σ8 2 1 (X + 11) 0) (X + 11) (some []) := toC_cnt C2' tape0
  have F4b : ∀ k, zfi (sfi σ8 2 1 (X + 11) 0) 1 k (X + 15) = zfi σ4 1 k (X + 15) := fun k => by rw [((sm9 (X + 15) (by omega)).2.1 1 k).1, ((S48.1 (X + 15) (by omega) (by omega)).2.1 1 k).1]
  have F6b : ∀ k, zfi (sfi σ8 2 1 (X + 11) 0) 6 k (X + 21) = zfi σ6 6 k (X + 21) := fun k => by rw [((sm9 (X + 21) (by omega)).2.1 6 k).1, ((S68.1 (X + 21) (by omega) (by omega)).2.1 6 k).1]
  have T6b : ztg (sfi σ8 2 1 (X + 11) 0) (X + 21) = (1, 6, 0) := S68.tg T6
  have nx9 : znx (sfi σ8 2 1 (X + 11) 0) = X + 38 := nx8
  have sl9 : zsl (sfi σ8 2 1 (X + 11) 0) = zsl σ + (8 + 158 + 66 + 4 + 11 + 68 + 169 + 436 + 204) := sl8
  have tX9 : ztg (sfi σ8 2 1 (X + 11) 0) X = (1, 11, 0) := tX8
  generalize sfi σ8 2 1 (X + 11) 0 = τ9 at *
  have hPI := path_w0 P1b hH9.2
  refine hP τ9 ⟨[X + 3], [], [], [], fun _ => none, ⟨hH9, ⟨zIs_of tX9, P1b.1, L1b.2.2.2.1⟩, ⟨L1_val L1b, rfl, fun p hp => ?_⟩, fun s p hs hp => ?_, C9, ⟨E3b.1, rfl, List.nodup_nil, fun i hi => absurd hi (Nat.not_lt_zero i)⟩, fun s i _ hi => absurd hi (Nat.not_lt_zero i), ⟨E4b.1, E4c.1, List.nodup_nil, Nat.zero_le _, fun e he => absurd he (by simp), ⟨[], rfl, rfl, fun p hp => absurd hp (by simp)⟩, by rw [F4b]; exact F4.1, by rw [F4b]; exact F4.2.1, by rw [F4b]; exact F4.2.2⟩, ⟨zIs_of T6b, by rw [F6b]; exact F6 1 (by omega) (by omega), by simp [w0, wL], by rw [F6b]; exact F6 2 (by omega) (by omega), by rw [F6b]; exact F6 3 (by omega) (by omega), by rw [F6b]; exact F6 4 (by omega) (by omega), fun i hi => absurd hi (Nat.not_lt_zero i)⟩⟩, ?_⟩ ((Fr_new hH.2.1 hN).rf (fun _ _ _ r => r.elim))
  · have hp1 : p < 1 := hp
    have hp0 : p = 0 := by omega
    subst hp0
    obtain ⟨q0, q1, q2, q3, q4, q5, q6⟩ := hPI
    exact ⟨q0, q1, q2, q3, q4, q5, q6⟩
  · have hp1 : p < 1 := hp
    have hp0 : p = 0 := by omega
    subst hp0
    rw [con_w0]
    exact P1b.2.2.2.2.2.2.2 s hs
  · exact init_rm E4b.2 E4c.2 nx9 sl9
end IM
