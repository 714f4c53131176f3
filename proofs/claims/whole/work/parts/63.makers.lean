/-! MAKERS: while an object is being made -/
def SmA (σ τ : zSt) (a : Nat) : Prop := ztg τ a = ztg σ a ∧ (∀ c k, zfi τ c k a = zfi σ c k a ∧ zfl τ c k a = zfl σ c k a ∧ zfr τ c k a = zfr σ c k a) ∧ ∀ t i, zai τ t a i = zai σ t a i ∧ zar τ t a i = zar σ t a i
/-- below n all stays; what stands somewhere stays of its kind -/
def NewF (σ τ : zSt) (n : Nat) : Prop := (∀ a, a < n → SmA σ τ a) ∧ (∀ a, (ztg σ a).1 ≠ 0 → ztg τ a = ztg σ a) ∧ ze0 τ = ze0 σ ∧ zmi τ = zmi σ ∧ znx σ ≤ znx τ
def HIw (σ : zSt) : Prop := Fresh σ ∧ LDis σ ∧ EOk σ ∧ ztg σ (ze0 σ) = (5, 0, 0)
/-- the layout at one address -/
def ShA (σ : zSt) (a : Nat) : Prop := (∀ e ∈ layL, zIs σ a e.1 → zfr σ e.1 e.2.1 a = some (a + e.2.2.1) ∧ ztg σ (a + e.2.2.1) = e.2.2.2) ∧ ∀ e ∈ layA, ztg σ a = (3, e.1, e.2.1) → ∀ i, i < e.2.1 → zar σ e.1 a i = some (a + e.2.2.1 + e.2.2.2.1 * i) ∧ ztg σ (a + e.2.2.1 + e.2.2.2.1 * i) = e.2.2.2.2
section MK
variable {σ τ υ : zSt} {P : Option Value → zSt → Prop} {a b c k n t l i : Nat} {v : Int32}
theorem CShape_iff : CShape σ ↔ ∀ a, ShA σ a := ⟨fun h a => ⟨fun e he hz => h.1 e he a hz, fun e he ht => h.2 e he a ht⟩, fun h => ⟨fun e he a hz => (h a).1 e he hz, fun e he a ht => (h a).2 e he ht⟩⟩
theorem SmA.rf : SmA σ σ a := ⟨rfl, fun _ _ => ⟨rfl, rfl, rfl⟩, fun _ _ => ⟨rfl, rfl⟩⟩
theorem SmA.tr (h : SmA σ τ a) (h' : SmA τ υ a) : SmA σ υ a := ⟨h'.1.trans h.1, fun c k => ⟨(h'.2.1 c k).1.trans (h.2.1 c k).1, (h'.2.1 c k).2.1.trans (h.2.1 c k).2.1, (h'.2.1 c k).2.2.trans (h.2.1 c k).2.2⟩, fun t i => ⟨(h'.2.2 t i).1.trans (h.2.2 t i).1, (h'.2.2 t i).2.trans (h.2.2 t i).2⟩⟩
theorem NewF.rf : NewF σ σ n := ⟨fun _ _ => SmA.rf, fun _ _ => rfl, rfl, rfl, Nat.le_refl _⟩
theorem NewF.tr (h : NewF σ τ n) (h' : NewF τ υ n) : NewF σ υ n := ⟨fun a ha => (h.1 a ha).tr (h'.1 a ha), fun a ha => (h'.2.1 a (by rw [h.2.1 a ha]; exact ha)).trans (h.2.1 a ha), h'.2.2.1.trans h.2.2.1, h'.2.2.2.1.trans h.2.2.2.1, Nat.le_trans h.2.2.2.2 h'.2.2.2.2⟩
theorem NewF.mono {m : Nat} (h : NewF σ τ n) (hm : m ≤ n) : NewF σ τ m := ⟨fun a ha => h.1 a (by omega), h.2⟩
theorem NewF.is (h : NewF σ τ n) (hz : zIs σ a c) : zIs τ a c := by
  unfold zIs; rw [h.2.1 a (by rw [hz.1]; exact Nat.succ_ne_zero 0)]; exact hz
theorem ShA_sm (h : ShA σ a) (hs : SmA σ τ a) (ht : ∀ x, (ztg σ x).1 ≠ 0 → ztg τ x = ztg σ x) : ShA τ a := by
  have n1 : ∀ e ∈ layL, e.2.2.2.1 ≠ 0 := by decide
  have n2 : ∀ e ∈ layA, e.2.2.2.2.1 ≠ 0 := by decide
  refine ⟨fun e he hz => ?_, fun e he hz i hi => ?_⟩
  · have hz' : zIs σ a e.1 := by unfold zIs; rw [← hs.1]; exact hz
    obtain ⟨g1, g2⟩ := h.1 e he hz'
    refine ⟨by rw [(hs.2.1 _ _).2.2]; exact g1, ?_⟩
    rw [ht _ (by rw [g2]; exact n1 e he)]; exact g2
  · obtain ⟨g1, g2⟩ := h.2 e he (by rw [← hs.1]; exact hz) i hi
    refine ⟨by rw [(hs.2.2 _ _).2]; exact g1, ?_⟩
    rw [ht _ (by rw [g2]; exact n2 e he)]; exact g2
/-- a kind that has no layout -/
theorem ShA_none (h1 : ∀ e ∈ layL, ¬ zIs σ a e.1) (h2 : ∀ e ∈ layA, ztg σ a ≠ (3, e.1, e.2.1)) : ShA σ a := ⟨fun e he hz => absurd hz (h1 e he), fun e he hz => absurd hz (h2 e he)⟩
theorem ShA_2 {y z : Nat} (h : ztg σ a = (2, y, z)) : ShA σ a := by
  refine ShA_none (fun e _ hz => ?_) (fun e _ hz => ?_)
  · have := hz.1; rw [h] at this; exact absurd this (by simp)
  · rw [h] at hz; exact absurd (congrArg Prod.fst hz) (by simp)
theorem ShA_0 (h : (ztg σ a).1 = 0) : ShA σ a := ShA_none (fun e _ hz => by have := hz.1; omega) (fun e _ hz => by rw [hz] at h; exact absurd h (Nat.succ_ne_zero 2))
theorem ShA_13 (h : zIs σ a 13) : ShA σ a := by
  refine ShA_none (fun e he hz => ?_) (fun e _ hz => ?_)
  · have : ∀ e ∈ layL, e.1 ≠ 13 := by decide
    exact this e he (hz.2.symm.trans h.2)
  · have := h.1; rw [hz] at this; exact absurd this (by simp)
/-- new things -/
theorem tag_new (hF : Fresh σ) : (ztg σ (znx σ)).1 = 0 := hF _ (Nat.le_refl _)
theorem NewF_new (hF : Fresh σ) (hn : n ≤ znx σ) : NewF σ (zNew σ c) n := by
  refine ⟨fun a ha => ⟨if_neg (by omega), fun c' k => ⟨if_neg (by omega), if_neg (by omega), if_neg (by omega)⟩, fun _ _ => ⟨rfl, rfl⟩⟩, fun a ha => if_neg (fun q => ha (by rw [q]; exact tag_new hF)), rfl, rfl, Nat.le_succ _⟩
theorem NewF_newI (hF : Fresh σ) (hn : n ≤ znx σ) : NewF σ (zNewI σ t k) n := by
  refine ⟨fun a ha => ⟨if_neg (by omega), fun c' k => ⟨rfl, rfl, rfl⟩, fun _ _ => ⟨if_neg (by omega), rfl⟩⟩, fun a ha => if_neg (fun q => ha (by rw [q]; exact tag_new hF)), rfl, rfl, Nat.le_succ _⟩
theorem NewF_newR (hF : Fresh σ) (hn : n ≤ znx σ) : NewF σ (zNewR σ t k) n := by
  refine ⟨fun a ha => ⟨if_neg (by omega), fun c' k => ⟨rfl, rfl, rfl⟩, fun _ _ => ⟨rfl, if_neg (by omega)⟩⟩, fun a ha => if_neg (fun q => ha (by rw [q]; exact tag_new hF)), rfl, rfl, Nat.le_succ _⟩
theorem NewF_sfi (hn : n ≤ a) : NewF σ (sfi σ c k a v) n := ⟨fun b hb => ⟨rfl, fun _ _ => ⟨if_neg (by omega), rfl, rfl⟩, fun _ _ => ⟨rfl, rfl⟩⟩, fun _ _ => rfl, rfl, rfl, Nat.le_refl _⟩
theorem NewF_sfl {v : Int64} (hn : n ≤ a) : NewF σ (sfl σ c k a v) n := ⟨fun b hb => ⟨rfl, fun _ _ => ⟨rfl, if_neg (by omega), rfl⟩, fun _ _ => ⟨rfl, rfl⟩⟩, fun _ _ => rfl, rfl, rfl, Nat.le_refl _⟩
theorem NewF_sfr {v : Option Nat} (hn : n ≤ a) : NewF σ (sfr σ c k a v) n := ⟨fun b hb => ⟨rfl, fun _ _ => ⟨rfl, rfl, if_neg (by omega)⟩, fun _ _ => ⟨rfl, rfl⟩⟩, fun _ _ => rfl, rfl, rfl, Nat.le_refl _⟩
theorem NewF_sar {v : Option Nat} (hn : n ≤ a) : NewF σ (sar σ t a i v) n := ⟨fun b hb => ⟨rfl, fun _ _ => ⟨rfl, rfl, rfl⟩, fun _ _ => ⟨rfl, if_neg (by omega)⟩⟩, fun _ _ => rfl, rfl, rfl, Nat.le_refl _⟩
/-- the heap's own order, without the layout -/
theorem HIw_of (hH : HI σ) : HIw σ := hH.2
theorem zEl_tg (ht : ∀ x, (ztg σ x).1 ≠ 0 → ztg τ x = ztg σ x) {o : Option Nat} (h : zEl σ o = true) : zEl τ o = true := by
  cases o with
  | none => rfl
  | some q =>
    have h : zAsg 11 (ztg σ q) = true := h
    show zAsg 11 (ztg τ q) = true
    rw [ht q (zAsg_nz h)]; exact h
theorem HIw_new (h : HIw σ) : HIw (zNew σ c) := by
  obtain ⟨hF, hL, hE, h0⟩ := h
  have ht : ∀ x, (ztg σ x).1 ≠ 0 → ztg (zNew σ c) x = ztg σ x := (NewF_new (n := 0) hF (Nat.zero_le _)).2.1
  have hl : ∀ l d, zIs (zNew σ c) l 13 → zfr (zNew σ c) 13 1 l = some d → zIs σ l 13 ∧ zfr σ 13 1 l = some d := by
    intro l d hz hd
    by_cases q : l = znx σ
    · subst q
      have ec : c = 13 := by
        have := hz.2
        have e : ztg (zNew σ c) (znx σ) = (1, c, 0) := if_pos rfl
        rw [e] at this; exact this
      have : zfr (zNew σ c) 13 1 (znx σ) = none := if_pos ⟨ec.symm, rfl⟩
      rw [this] at hd; cases hd
    · have e1 : ztg (zNew σ c) l = ztg σ l := if_neg q
      have e2 : zfr (zNew σ c) 13 1 l = zfr σ 13 1 l := if_neg (fun r => q r.2)
      unfold zIs at hz ⊢
      rw [e1] at hz
      rw [e2] at hd
      exact ⟨hz, hd⟩
  refine ⟨fun a ha => ?_, ⟨fun l d hz hd => ?_, fun l l' d hz hz' hd hd' h3 => ?_⟩, fun d i => zEl_tg ht (hE d i), ?_⟩
  · have ha : znx σ + 1 ≤ a := ha
    have : ztg (zNew σ c) a = ztg σ a := if_neg (by omega)
    rw [this]; exact hF a (by omega)
  · obtain ⟨g1, g2⟩ := hl l d hz hd
    have := hL.1 l d g1 g2
    rw [ht d this]; exact this
  · obtain ⟨g1, g2⟩ := hl l d hz hd
    obtain ⟨g1', g2'⟩ := hl l' d hz' hd'
    exact hL.2 l l' d g1 g1' g2 g2' (by rw [← ht d (hL.1 l d g1 g2)]; exact h3)
  · show ztg (zNew σ c) (ze0 σ) = _
    rw [ht _ (by rw [h0]; exact Nat.succ_ne_zero 4)]; exact h0
theorem HIw_newA (h : HIw σ) (hn : znx τ = znx σ + 1) (ht0 : ∀ a, a ≠ znx σ → ztg τ a = ztg σ a) (h2 : (ztg τ (znx σ)).1 = 2 ∨ (ztg τ (znx σ)).1 = 3) (hf : zfr τ = zfr σ) (ha : zar τ 11 = zar σ 11) (he : ze0 τ = ze0 σ) : HIw τ := by
  obtain ⟨hF, hL, hE, h0⟩ := h
  have ht : ∀ x, (ztg σ x).1 ≠ 0 → ztg τ x = ztg σ x := fun x hx => ht0 x (fun q => hx (by rw [q]; exact tag_new hF))
  have hl : ∀ l, zIs τ l 13 → zIs σ l 13 := by
    intro l hz
    unfold zIs at hz ⊢
    rw [← ht0 l (fun q => by subst q; have := hz.1; omega)]; exact hz
  refine ⟨fun a ha => ?_, ⟨fun l d hz hd => ?_, fun l l' d hz hz' hd hd' h3 => ?_⟩, fun d i => by rw [ha]; exact zEl_tg ht (hE d i), ?_⟩
  · rw [ht0 a (by omega)]; exact hF a (by omega)
  · rw [hf] at hd
    have := hL.1 l d (hl l hz) hd
    rw [ht d this]; exact this
  · rw [hf] at hd hd'
    exact hL.2 l l' d (hl l hz) (hl l' hz') hd hd' (by rw [← ht d (hL.1 l d (hl l hz) hd)]; exact h3)
  · rw [he, ht _ (by rw [h0]; exact Nat.succ_ne_zero 4)]; exact h0
theorem HIw_newI (h : HIw σ) : HIw (zNewI σ t k) := HIw_newA h rfl (fun a ha => if_neg ha) (Or.inl (by show (upT (ztg σ) (znx σ) (2, t, k) (znx σ)).1 = 2; unfold upT; rw [if_pos rfl])) rfl rfl rfl
theorem HIw_newR (h : HIw σ) (ht : t ≠ 11) : HIw (zNewR σ t k) := HIw_newA h rfl (fun a ha => if_neg ha) (Or.inr (by show (upT (ztg σ) (znx σ) (3, t, k) (znx σ)).1 = 3; unfold upT; rw [if_pos rfl])) rfl (by funext a i; exact if_neg (fun q => ht q.1.symm)) rfl
theorem HIw_sfr {v : Option Nat} (h : HIw σ) (hc : c ≠ 13) : HIw (sfr σ c k a v) := by
  obtain ⟨hF, hL, hE, h0⟩ := h
  have e : ∀ l, zfr (sfr σ c k a v) 13 1 l = zfr σ 13 1 l := fun l => if_neg (fun q => hc q.1.symm)
  exact ⟨hF, ⟨fun l d hz hd => hL.1 l d hz (by rw [← e]; exact hd), fun l l' d hz hz' hd hd' => hL.2 l l' d hz hz' (by rw [← e]; exact hd) (by rw [← e]; exact hd')⟩, hE, h0⟩
theorem HIw_sfr13 (h : HIw σ) : HIw (sfr σ 13 1 l (some (ze0 σ))) := by
  obtain ⟨hF, hL, hE, h0⟩ := h
  have e1 : zfr (sfr σ 13 1 l (some (ze0 σ))) 13 1 l = some (ze0 σ) := if_pos ⟨rfl, rfl, rfl⟩
  have e : ∀ l', l' ≠ l → zfr (sfr σ 13 1 l (some (ze0 σ))) 13 1 l' = zfr σ 13 1 l' := fun l' hl => if_neg (fun q => hl q.2.2)
  refine ⟨hF, ⟨fun l' d hz hd => ?_, fun l1 l2 d hz hz' hd hd' h3 => ?_⟩, hE, h0⟩
  · by_cases q : l' = l
    · subst q
      rw [e1] at hd; cases hd
      show (ztg σ (ze0 σ)).1 ≠ 0
      rw [h0]; exact Nat.succ_ne_zero 4
    · rw [e l' q] at hd; exact hL.1 l' d hz hd
  · have ne0 : d ≠ ze0 σ := by
      intro q; subst q
      have h3 : (ztg σ (ze0 σ)).1 = 3 := h3
      rw [h0] at h3; exact absurd h3 (by decide)
    have n1 : l1 ≠ l := fun q => by subst q; rw [e1] at hd; cases hd; exact ne0 rfl
    have n2 : l2 ≠ l := fun q => by subst q; rw [e1] at hd'; cases hd'; exact ne0 rfl
    rw [e l1 n1] at hd
    rw [e l2 n2] at hd'
    exact hL.2 l1 l2 d hz hz' hd hd' h3
theorem HIw_sar {v : Option Nat} (h : HIw σ) (ht : t ≠ 11) : HIw (sar σ t a i v) := by
  obtain ⟨hF, hL, hE, h0⟩ := h
  refine ⟨hF, hL, fun d j => ?_, h0⟩
  have e : zar (sar σ t a i v) 11 d j = zar σ 11 d j := if_neg (fun q => ht q.1.symm)
  rw [e]; exact hE d j
/-- what is new behind what was: all that was stays -/
theorem Fr_new (hF : Fresh σ) (h : NewF σ τ (znx σ)) : Fr σ τ no1 no1 no1 no3 := by
  have lt : ∀ a, (ztg σ a).1 ≠ 0 → a < znx σ := fun a ha => tag_lt hF ha
  have is : ∀ a c, zIs σ a c → a < znx σ := fun a c hz => lt a (by rw [hz.1]; exact Nat.succ_ne_zero 0)
  refine ⟨h.2.1, fun c v _ hC hc => ?_, fun k l _ hC hk => ?_, fun l xs _ hv => ?_, fun c k a _ _ _ _ hz _ => ?_, fun t a i _ ha _ => ((h.1 a (lt a ha)).2.2 t i).1, fun g ds r f b _ hC hg => ?_, fun k a hz => ((h.1 a (is a _ hz)).2.1 12 k).2.2, fun k hd ps _ hC hk => ?_⟩
  · have h1 : c + 1 < znx σ := lt _ (by rw [cs_T hC le_2_0 hc.1]; exact Nat.succ_ne_zero 1)
    refine ⟨h.is hc.1, ?_⟩
    have e : zai τ 1 (c + 1) = zai σ 1 (c + 1) := by funext i; exact ((h.1 _ h1).2.2 1 i).1
    rw [((h.1 c (by omega)).2.1 2 1).1, e]; exact hc.2
  · have h1 : k + 1 < znx σ := lt _ (by rw [cs_T hC le_5_0 hk.1]; exact Nat.succ_ne_zero 1)
    refine ⟨h.is hk.1, ?_⟩
    have e : zai τ 2 (k + 1) = zai σ 2 (k + 1) := by funext i; exact ((h.1 _ h1).2.2 2 i).1
    rw [((h.1 k (by omega)).2.1 5 2).1, e]; exact hk.2
  · obtain ⟨hz, d, hd, hn, hc, he⟩ := hv
    have hl := is _ _ hz
    have hdt : d < znx σ := by
      rcases hc with ⟨_, q, _⟩ | ⟨cap, q, _⟩
      · exact lt d (by rw [q]; exact Nat.succ_ne_zero 4)
      · exact lt d (by rw [q]; exact Nat.succ_ne_zero 2)
    have e1 : zfr τ 13 1 l = some d := by rw [((h.1 l hl).2.1 13 1).2.2]; exact hd
    have e2 : ztg τ d = ztg σ d := (h.1 d hdt).1
    refine ⟨⟨h.is hz, d, e1, by rw [((h.1 l hl).2.1 13 2).1]; exact hn, by rw [e2, h.2.2.1]; exact hc, fun i hi => by rw [((h.1 d hdt).2.2 11 i).2]; exact he i hi⟩, ?_⟩
    unfold capOf zrf
    rw [e1, hd]; show (ztg τ d).2.2 = (ztg σ d).2.2; rw [e2]
  · have ha := is _ _ hz
    exact ⟨((h.1 a ha).2.1 c k).1, ((h.1 a ha).2.1 c k).2.1⟩
  · obtain ⟨hz, k1, k2, k3, k4, k5, k6⟩ := hg
    have hgl := is _ _ hz
    have t0 : ztg σ (g + 1) = (3, 9, 4) := (hC.1 _ le_6_0 g hz).2
    have tr : ∀ r, r < 4 → g + 2 + r < znx σ := by
      intro r hr
      have := (hC.2 _ la_9 (g + 1) t0 r hr).2
      have := lt (g + 1 + 1 + 1 * r) (by rw [this]; exact Nat.succ_ne_zero 1)
      omega
    have er : ∀ r, r < 4 → ∀ i, zai τ 10 (g + 2 + r) i = zai σ 10 (g + 2 + r) i := fun r hr i => ((h.1 _ (tr r hr)).2.2 10 i).1
    have ef : ∀ k, zfi τ 6 k g = zfi σ 6 k g := fun k => ((h.1 g hgl).2.1 6 k).1
    refine ⟨h.is hz, by rw [ef]; exact k1, k2, by rw [ef]; exact k3, by rw [ef]; exact k4, by rw [ef]; exact k5, fun i hi => ?_⟩
    rw [k6 i hi, show zai τ 10 (g + 2) i = _ from er 0 (by omega) i, show zai τ 10 (g + 3) i = _ from er 1 (by omega) i, show zai τ 10 (g + 4) i = _ from er 2 (by omega) i, show zai τ 10 (g + 5) i = _ from er 3 (by omega) i]
  · have h1 : k + 1 < znx σ := lt _ (by rw [cs_T hC le_5_0 hk.1.1]; exact Nat.succ_ne_zero 1)
    have h2 : k + 2 < znx σ := lt _ (by rw [cs_T hC le_5_1 hk.1.1]; exact Nat.succ_ne_zero 1)
    have e : zai τ 2 (k + 1) = zai σ 2 (k + 1) := by funext i; exact ((h.1 _ h1).2.2 2 i).1
    have e3 : zai τ 3 (k + 2) = zai σ 3 (k + 2) := by funext i; exact ((h.1 _ h2).2.2 3 i).1
    refine ⟨⟨h.is hk.1.1, ?_⟩, ?_⟩
    · rw [((h.1 k (by omega)).2.1 5 2).1, e]; exact hk.1.2
    · rw [((h.1 k (by omega)).2.1 5 3).1, ((h.1 k (by omega)).2.1 5 4).1, e3]; exact hk.2
/-- and the layout is whole again when that of what is new is -/
theorem HI_new (hH : HI σ) (h : NewF σ τ (znx σ)) (hw : HIw τ) (hs : ∀ a, znx σ ≤ a → a < znx τ → ShA τ a) : HI τ := by
  refine ⟨CShape_iff.mpr (fun a => ?_), hw⟩
  by_cases h1 : a < znx σ
  · exact ShA_sm (CShape_iff.mp hH.1 a) (h.1 a h1) h.2.1
  · by_cases h2 : a < znx τ
    · exact hs a (by omega) h2
    · exact ShA_0 (hw.1 a (by omega))
end MK
