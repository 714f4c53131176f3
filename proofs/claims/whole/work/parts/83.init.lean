/-! THE CLASS: a new object; while it is made the layout isn't whole -/
section IW
variable {σ τ υ : zSt} {P : Option Value → zSt → Prop} {a b c d k n m l i t X : Nat} {v : Int32}
theorem HIw_newR11 (h : HIw σ) : HIw (zNewR σ 11 k) := by
  obtain ⟨hF, hL, hE, h0⟩ := h
  have hN : NewF σ (zNewR σ 11 k) 0 := NewF_newR hF (Nat.zero_le _)
  have ht := hN.2.1
  have hl : ∀ l, zIs (zNewR σ 11 k) l 13 → zIs σ l 13 := by
    intro l hz
    by_cases q : l = znx σ
    · subst q
      have e : ztg (zNewR σ 11 k) (znx σ) = (3, 11, k) := if_pos rfl
      have := hz.1; rw [e] at this; exact absurd this (by simp)
    · have e1 : ztg (zNewR σ 11 k) l = ztg σ l := if_neg q
      unfold zIs at hz ⊢; rw [e1] at hz; exact hz
  refine ⟨fun a ha => ?_, ⟨fun l d hz hd => ?_, fun l l' d hz hz' hd hd' h3 => ?_⟩, fun d i => ?_, ?_⟩
  · have ha : znx σ + 1 ≤ a := ha
    have : ztg (zNewR σ 11 k) a = ztg σ a := if_neg (by omega)
    rw [this]; exact hF a (by omega)
  · have := hL.1 l d (hl l hz) hd
    rw [ht d this]; exact this
  · exact hL.2 l l' d (hl l hz) (hl l' hz') hd hd' (by rw [← ht d (hL.1 l d (hl l hz) hd)]; exact h3)
  · by_cases q : d = znx σ
    · have e : zar (zNewR σ 11 k) 11 d i = none := if_pos ⟨rfl, q⟩
      rw [e]; rfl
    · have e : zar (zNewR σ 11 k) 11 d i = zar σ 11 d i := if_neg (fun r => q r.2)
      rw [e]; exact zEl_tg ht (hE d i)
  · show ztg (zNewR σ 11 k) (ze0 σ) = _
    rw [ht _ (by rw [h0]; exact Nat.succ_ne_zero 4)]; exact h0
theorem HIw_sfr13n (h : HIw σ) (hd : (ztg σ d).1 ≠ 0) (hn : ∀ l', zIs σ l' 13 → zfr σ 13 1 l' ≠ some d) : HIw (sfr σ 13 1 l (some d)) := by
  obtain ⟨hF, hL, hE, h0⟩ := h
  have e1 : zfr (sfr σ 13 1 l (some d)) 13 1 l = some d := if_pos ⟨rfl, rfl, rfl⟩
  have e : ∀ l', l' ≠ l → zfr (sfr σ 13 1 l (some d)) 13 1 l' = zfr σ 13 1 l' := fun l' hl => if_neg (fun q => hl q.2.2)
  refine ⟨hF, ⟨fun l' d' hz hd' => ?_, fun l1 l2 d' hz hz' hd1 hd2 h3 => ?_⟩, hE, h0⟩
  · by_cases q : l' = l
    · subst q
      rw [e1] at hd'; cases hd'; exact hd
    · rw [e l' q] at hd'; exact hL.1 l' d' hz hd'
  · by_cases q1 : l1 = l
    · by_cases q2 : l2 = l
      · rw [q1, q2]
      · subst q1
        rw [e1] at hd1; cases hd1
        rw [e l2 q2] at hd2
        exact absurd hd2 (hn l2 hz')
    · by_cases q2 : l2 = l
      · subst q2
        rw [e1] at hd2; cases hd2
        rw [e l1 q1] at hd1
        exact absurd hd1 (hn l1 hz)
      · rw [e l1 q1] at hd1
        rw [e l2 q2] at hd2
        exact hL.2 l1 l2 d' hz hz' hd1 hd2 h3
theorem HIw_sar11 (h : HIw σ) (ha : zAsg 11 (ztg σ a) = true) : HIw (sar σ 11 d i (some a)) := by
  obtain ⟨hF, hL, hE, h0⟩ := h
  refine ⟨hF, hL, fun d' j => ?_, h0⟩
  by_cases q : d' = d ∧ j = i
  · have e : zar (sar σ 11 d i (some a)) 11 d' j = some a := if_pos ⟨rfl, q.1, q.2⟩
    rw [e]; exact ha
  · have e : zar (sar σ 11 d i (some a)) 11 d' j = zar σ 11 d' j := if_neg (fun r => q r.2)
    rw [e]; exact hE d' j
/-- an empty list as made, cleared -/
theorem clear0_ok (hw : HIw σ) (hl : LE σ l) (hP : ∀ τ, HIw τ → NewF σ τ l → (∀ b, b ≠ l → SmA σ τ b) → znx τ = znx σ → zsl τ = zsl σ → LE τ l → ztg τ l = ztg σ l → P none τ) : wpM 196 [.ref l] σ P := by
  obtain ⟨h1, h2, h3⟩ := hl
  refine b196.mpr ⟨h1, by rw [h2]; rfl, b196_27.mpr (ifp (by rw [h3]; decide) (b196_42.mpr ?_))⟩
  refine hP _ hw ((NewF_sfi (Nat.le_refl _)).tr (NewF_sfi (Nat.le_refl _))) (fun b hb => ⟨rfl, fun c k => ⟨?_, rfl, rfl⟩, fun _ _ => ⟨rfl, rfl⟩⟩) rfl rfl ⟨h1, h2, if_pos ⟨rfl, rfl, rfl⟩⟩ rfl
  show up3 (up3 (zfi σ) 13 0 l _) 13 2 l 0 c k b = _
  unfold up3
  rw [if_neg (fun r => hb r.2.2), if_neg (fun r => hb r.2.2)]
/-- a list of one, its array just behind -/
def L1 (τ : zSt) (l d a : Nat) : Prop := zIs τ l 13 ∧ zfr τ 13 1 l = some d ∧ zfi τ 13 2 l = 1 ∧ ztg τ d = (3, 11, 10) ∧ zar τ 11 d 0 = some a
theorem L1_sm (h : L1 σ l d a) (h1 : SmA σ τ l) (h2 : SmA σ τ d) : L1 τ l d a := by
  obtain ⟨g0, g1, g2, g3, g4⟩ := h
  exact ⟨by unfold zIs; rw [h1.1]; exact g0, by rw [(h1.2.1 13 1).2.2]; exact g1, by rw [(h1.2.1 13 2).1]; exact g2, by rw [h2.1]; exact g3, by rw [(h2.2.2 11 0).2]; exact g4⟩
theorem L1_val (h : L1 σ l d a) : LVal σ l [a] := by
  obtain ⟨g0, g1, g2, g3, g4⟩ := h
  refine ⟨g0, d, g1, g2, Or.inr ⟨10, g3, by simp, by omega, by omega⟩, fun i hi => ?_⟩
  have : i = 0 := by simp at hi; omega
  subst this; exact g4
theorem add0_ok (hw : HIw σ) (hl : LE σ l) (ha : zAsg 11 (ztg σ a) = true) (hP : ∀ τ, HIw τ → (∀ b, b ≠ l → b < znx σ → SmA σ τ b) → (∀ x, (ztg σ x).1 ≠ 0 → ztg τ x = ztg σ x) → ze0 τ = ze0 σ → zmi τ = zmi σ → znx τ = znx σ + 1 → zsl τ = zsl σ + 10 → L1 τ l (znx σ) a → P (some (.int 1)) τ) : wpM 192 [.ref l, .ref a] σ P := by
  obtain ⟨h1, h2, h3⟩ := hl
  have er : zrf σ 13 1 l = ze0 σ := by unfold zrf; rw [h2]; rfl
  have h0 : ztg σ (ze0 σ) = (5, 0, 0) := hw.2.2.2
  have hll : l < znx σ := tag_lt hw.1 (by rw [h1.1]; exact Nat.succ_ne_zero 0)
  refine b192.mpr ⟨h1, by rw [h2]; rfl, ?_⟩
  rw [er, h3]
  have e1 : zln (sfi σ 13 0 l (zfi σ 13 0 l + 1)) (ze0 σ) = 0 := by
    unfold zln
    exact if_pos (show (ztg σ (ze0 σ)).1 = 5 by rw [h0])
  have r1 : zrf (sfi σ 13 0 l (zfi σ 13 0 l + 1)) 13 1 l = ze0 σ := er
  have i1 : (zfr (sfi σ 13 0 l (zfi σ 13 0 l + 1)) 13 1 l).isSome = true := by show (zfr σ 13 1 l).isSome = true; rw [h2]; rfl
  have t5 : (ztg (sfi σ 13 0 l (zfi σ 13 0 l + 1)) (ze0 σ)).1 = 5 := by show (ztg σ (ze0 σ)).1 = 5; rw [h0]
  have f2 : zfi (sfi σ 13 0 l (zfi σ 13 0 l + 1)) 13 2 l = 0 := by
    show up3 (zfi σ) 13 0 l (zfi σ 13 0 l + 1) 13 2 l = 0
    unfold up3; rw [if_neg (by omega)]; exact h3
  refine b191.mpr ⟨Or.inr (Or.inr (Or.inr t5)), ifn (fun q => q e1.symm) (b191_6.mpr ⟨h1, b186.mpr ⟨h1, b185.mpr ⟨h1, i1, by rw [r1]; exact Or.inr (Or.inr (Or.inr t5)), ?_⟩⟩⟩)⟩
  rw [r1, e1, f2]
  refine ifn (by decide) (b185_10.mpr ⟨h1, i1, ifp (by rw [r1]; rfl) (b185_45.mpr ⟨by decide, b185_55.mpr ⟨?_, b186_10.mpr (b191_10.mpr (b191_11.mpr ?_))⟩⟩)⟩)
  · have : ztg (zNewR (sfi σ 13 0 l (zfi σ 13 0 l + 1)) 11 (Int32.toNatClampNeg (if 10 < (0 : Int32) + 1 then 0 + 1 else 10))) l = ztg σ l := if_neg (show ¬ l = znx σ by omega)
    unfold zIs; rw [this]; exact h1
  rw [show Int32.toNatClampNeg (if 10 < (0 : Int32) + 1 then 0 + 1 else 10) = 10 by decide]
  have hw1 : HIw (sfi σ 13 0 l (zfi σ 13 0 l + 1)) := hw
  have hw2 := HIw_newR11 (k := 10) hw1
  have tn : ztg (zNewR (sfi σ 13 0 l (zfi σ 13 0 l + 1)) 11 10) (znx σ) = (3, 11, 10) := if_pos rfl
  have to : ∀ x, x ≠ znx σ → ztg (zNewR (sfi σ 13 0 l (zfi σ 13 0 l + 1)) 11 10) x = ztg σ x := fun x hx => if_neg hx
  have hw3 : HIw (sfr (zNewR (sfi σ 13 0 l (zfi σ 13 0 l + 1)) 11 10) 13 1 l (some (znx σ))) := by
    refine HIw_sfr13n hw2 (by rw [tn]; exact Nat.succ_ne_zero 2) (fun l' hz hd => ?_)
    by_cases q : l' = znx σ
    · have := hz.1; rw [q, tn] at this; exact absurd this (by decide)
    · have hz' : zIs σ l' 13 := by unfold zIs at hz ⊢; rw [to l' q] at hz; exact hz
      have := hw.2.1.1 l' _ hz' hd
      exact this (hw.1 _ (Nat.le_refl _))
  have hza : a < znx σ := tag_lt hw.1 (zAsg_nz ha)
  have ta : zAsg 11 (ztg (sfr (zNewR (sfi σ 13 0 l (zfi σ 13 0 l + 1)) 11 10) 13 1 l (some (znx σ))) a) = true := by
    show zAsg 11 (ztg (zNewR (sfi σ 13 0 l (zfi σ 13 0 l + 1)) 11 10) a) = true
    rw [to a (by omega)]; exact ha
  have ts : ztg (sfr (zNewR (sfi σ 13 0 l (zfi σ 13 0 l + 1)) 11 10) 13 1 l (some (znx σ))) (znx σ) = (3, 11, 10) := tn
  have zl : zIs (sfr (zNewR (sfi σ 13 0 l (zfi σ 13 0 l + 1)) 11 10) 13 1 l (some (znx σ))) l 13 := by
    show zIs (zNewR (sfi σ 13 0 l (zfi σ 13 0 l + 1)) 11 10) l 13
    unfold zIs; rw [to l (by omega)]; exact h1
  rw [show znx (sfi σ 13 0 l (zfi σ 13 0 l + 1)) = znx σ from rfl, ts]
  refine ⟨⟨rfl, ta, by unfold zIn; decide⟩, zl, b192_23.mpr ⟨Or.inr rfl, ?_⟩⟩
  refine hP _ (HIw_sar11 (d := znx σ) (i := Int32.toNatClampNeg 0) hw3 ta) (fun b hb hlt => ⟨to b (by omega), fun c k => ⟨?_, rfl, if_neg (fun r => hb r.2.2)⟩, fun t i => ⟨rfl, ?_⟩⟩) (fun x hx => to x (fun q => hx (by rw [q]; exact hw.1 _ (Nat.le_refl _)))) rfl rfl rfl rfl ⟨zl, if_pos ⟨rfl, rfl, rfl⟩, ?_, tn, if_pos ⟨rfl, rfl, rfl⟩⟩
  · show up3 (up3 (zfi σ) 13 0 l (zfi σ 13 0 l + 1)) 13 2 l (0 + 1) c k b = _
    unfold up3
    rw [if_neg (fun r => hb r.2.2), if_neg (fun r => hb r.2.2)]
  · show up3 (fun t' b i => if t' = 11 ∧ b = znx σ then none else zar σ t' b i) 11 (znx σ) _ (some a) t b i = _
    unfold up3
    rw [if_neg (by omega)]
    exact if_neg (by omega)
  · show up3 (up3 (zfi σ) 13 0 l (zfi σ 13 0 l + 1)) 13 2 l (0 + 1) 13 2 l = 1
    unfold up3
    rw [if_pos ⟨rfl, rfl, rfl⟩]; rfl
theorem n73 {a0 : Nat} (h1 : zIs σ a0 10) (hr : zfr σ 10 0 a0 = some (a0 + 1)) (hl : zIs σ (a0 + 1) 13) :
    wpM 74 [.ref a0] σ P ↔ wpM 196 [.ref (a0 + 1)] σ (fun r τ => wp 74 7 [some (.ref a0)] (r.toList ++ []) τ P) := by
  show wp 74 0 [some (.ref a0)] [] σ P ↔ _
  refine (wp_s (n := 1) (zcode_of mc_74 (r := (.aload_n 0, 0, 0, 0)) rfl) rfl rfl).trans ?_
  refine (wc_get (n' := 4) (v := .ref (a0 + 1)) rfl (zcode_of mc_74 (r := (.getfield 12, 10, 0, 0)) rfl) h1 (by unfold zgv; rw [if_neg (by decide), if_pos (by decide), hr])).trans ?_
  exact wp_call (q := ([.ref (a0 + 1)], [])) (zcode_of mc_74 (r := (.invokevirtual 21, 196, 0, 0)) rfl) rfl (zCa_V (Nat.le_of_ble_eq_true rfl) rfl hl) ⟨Nat.le_of_ble_eq_true rfl, Nat.le_of_ble_eq_true rfl⟩
theorem n74_7 {a0 : Nat} (h1 : zIs σ a0 10) (hr : zfr σ 10 0 a0 = some (a0 + 1)) :
    wp 74 7 [some (.ref a0)] [] σ P ↔ wp 74 14 [some (.ref a0)] [.ref (znx σ), .ref (a0 + 1)] (zNew σ 8) P := by
  refine (wp_s (n := 8) (zcode_of mc_74 (r := (.aload_n 0, 0, 0, 0)) rfl) rfl rfl).trans ?_
  refine (wc_get (n' := 11) (v := .ref (a0 + 1)) rfl (zcode_of mc_74 (r := (.getfield 12, 10, 0, 0)) rfl) h1 (by unfold zgv; rw [if_neg (by decide), if_pos (by decide), hr])).trans ?_
  refine (wc_new (n' := 14) rfl (zcode_of mc_74 (r := (.new 24, 8, 0, 0)) rfl)).trans ?_
  exact Iff.rfl
theorem PathM_sm {x1 x2 x3 x4 : Int32} (h : PathM σ a x1 x2 x3 x4) (hs : ∀ b, a ≤ b → b < a + 7 → SmA σ τ b) (he : ze0 τ = ze0 σ) : PathM τ a x1 x2 x3 x4 := by
  obtain ⟨p0, p1, p2, p3, p4, p5, p6, p7⟩ := h
  have sa := hs a (by omega) (by omega)
  refine ⟨by unfold zIs; rw [sa.1]; exact p0, by rw [(sa.2.1 8 0).1]; exact p1, by rw [(sa.2.1 8 1).1]; exact p2, by rw [(sa.2.1 8 2).1]; exact p3, by rw [(sa.2.1 8 3).1]; exact p4, by rw [(sa.2.1 8 6).1]; exact p5, LE_sm p6 (hs _ (by omega) (by omega)) he, fun j hj => Cnt_sm (p7 j hj) (hs _ (by omega) (by omega)) (hs _ (by omega) (by omega))⟩
/-- the tree, as made -/
theorem mkT_ok (hw : HIw σ) (hz : ztg σ t = (1, 10, 0)) (hn : znx σ = t + 1) (hP : ∀ τ, HIw τ → NewF σ τ t → znx τ = t + 10 → zsl τ = zsl σ + 157 → (∀ c, t ≤ c → c < t + 10 → ShA τ c) → L1 τ (t + 1) (t + 9) (t + 2) → PathM τ (t + 2) 0 (-1) 0 1 → ztg τ t = (1, 10, 0) → P none τ) : wpM 73 [.ref t] σ P := by
  refine b73.mpr (b73_8.mpr ?_)
  rw [hn]
  refine mkL2_ok hw hn (fun τ1 h1 f1 n1 s1 sh1 le1 t1 => b73_12.mpr ?_)
  have f1a : NewF σ τ1 t := f1.mono (by omega)
  have tt1 : ztg τ1 t = (1, 10, 0) := by rw [f1.2.1 t (by rw [hz]; exact Nat.succ_ne_zero 0)]; exact hz
  have zt1 := zIs_of tt1
  have h2 : HIw (sfr τ1 10 0 t (some (t + 1))) := HIw_sfr h1 (by decide)
  have f2 : NewF τ1 (sfr τ1 10 0 t (some (t + 1))) t := NewF_sfr (Nat.le_refl _)
  have r2 : zfr (sfr τ1 10 0 t (some (t + 1))) 10 0 t = some (t + 1) := if_pos ⟨rfl, rfl, rfl⟩
  have sm2 : ∀ b, b ≠ t → SmA τ1 (sfr τ1 10 0 t (some (t + 1))) b := fun b hb => ⟨rfl, fun _ _ => ⟨rfl, rfl, if_neg (fun r => hb r.2.2)⟩, fun _ _ => ⟨rfl, rfl⟩⟩
  have le2 := LE_sm le1 (sm2 (t + 1) (by omega)) rfl
  refine ⟨zt1, zt1, (n73 (σ := sfr τ1 10 0 t (some (t + 1))) zt1 r2 le2.1).mpr (clear0_ok h2 le2 (fun τ3 h3 f3 sm3 n3 s3 le3 t3 => ?_))⟩
  have zt3 := (f3.mono (show t ≤ t + 1 by omega)).is (show zIs (sfr τ1 10 0 t (some (t + 1))) t 10 from zt1)
  have r3 : zfr τ3 10 0 t = some (t + 1) := by rw [((sm3 t (by omega)).2.1 10 0).2.2]; exact r2
  have n3' : znx τ3 = t + 2 := by rw [n3]; exact n1
  refine (n74_7 zt3 r3).mpr (b74_14.mpr ?_)
  rw [n3']
  have hw4 : HIw (zNew τ3 8) := HIw_new h3
  have f4 : NewF τ3 (zNew τ3 8) (t + 2) := NewF_new h3.1 (by omega)
  have t4 : ztg (zNew τ3 8) (t + 2) = (1, 8, 0) := by
    show upT (ztg τ3) (znx τ3) _ (t + 2) = _
    rw [n3']; exact if_pos rfl
  refine mkP_ok hw4 (zIs_of t4) (by show znx τ3 + 1 = _; omega) (Or.inr rfl) (fun τ5 h5 f5 n5 s5 sh5 pm5 => b74_22.mpr ?_)
  have f45 := f4.tr f5
  have le5 : LE τ5 (t + 1) := LE_sm le3 (f45.1 _ (by omega)) f45.2.2.1
  refine ⟨le5.1, add0_ok h5 le5 (by unfold zAsg; rw [pm5.1.1, pm5.1.2]; rfl) (fun τ6 h6 sm6 tg6 e6 m6 n6 s6 l6 => b74_25.mpr (b73_19.mpr ?_))⟩
  have s13 : ∀ b, b < t → SmA σ τ6 b := fun b hb => (((f1a.1 b hb).tr (f2.1 b hb)).tr (f3.1 b (by omega))).tr ((f45.1 b (by omega)).tr (sm6 b (by omega) (by omega)))
  have tgA : ∀ x, (ztg τ5 x).1 ≠ 0 → ztg τ6 x = ztg τ5 x := tg6
  have hN : NewF σ τ6 t := by
    have g := (f1a.tr f2).tr ((f3.mono (by omega)).tr (f45.mono (show t ≤ t + 2 by omega)))
    exact ⟨s13, fun a ha => (tgA a (by rw [g.2.1 a ha]; exact ha)).trans (g.2.1 a ha), e6.trans g.2.2.1, m6.trans g.2.2.2.1, by rw [n6]; have := g.2.2.2.2; omega⟩
  have tt6 : ztg τ6 t = (1, 10, 0) := by rw [hN.2.1 t (by rw [hz]; exact Nat.succ_ne_zero 0)]; exact hz
  rw [n5] at l6
  refine hP τ6 h6 hN (by omega) ?_ (fun c hc1 hc2 => ?_) l6 (PathM_sm pm5 (fun b hb1 hb2 => sm6 b (by omega) (by omega)) e6) tt6
  · rw [s6, s5]
    show zsl τ3 + (cRow 8).2.2 + 137 + 10 = _
    rw [s3]
    show zsl τ1 + (cRow 8).2.2 + 137 + 10 = _
    rw [s1, show (cRow 8).2.2 = 7 from rfl]
  · by_cases c0 : c = t
    · subst c0
      refine ShA_of (zIs_of tt6) (fun e he hc => ?_)
      have key : ∀ e ∈ layL, e.1 = 10 → e = (10, 0, 1, 1, 13, 0) := by decide
      rw [key e he hc]
      refine ⟨?_, ?_⟩
      · show zfr τ6 10 0 c = some (c + 1)
        rw [((sm6 c (by omega) (by omega)).2.1 10 0).2.2, ((f45.1 c (by omega)).2.1 10 0).2.2]; exact r3
      · show ztg τ6 (c + 1) = (1, 13, 0)
        have u1 : ztg (sfr τ1 10 0 c (some (c + 1))) (c + 1) = (1, 13, 0) := t1
        have u3 : ztg τ3 (c + 1) = (1, 13, 0) := by rw [t3]; exact u1
        have u5 : ztg τ5 (c + 1) = (1, 13, 0) := by rw [(f45.1 (c + 1) (by omega)).1]; exact u3
        rw [tg6 _ (by rw [u5]; exact Nat.succ_ne_zero 0)]; exact u5
    by_cases c1 : c = t + 1
    · rw [c1]; exact ShA_13 l6.1
    by_cases c2 : c = t + 9
    · rw [c2]
      refine ShA_none (fun e _ hz => ?_) (fun e he hz => ?_)
      · have := hz.1; rw [l6.2.2.2.1] at this; exact absurd this (by decide)
      · rw [l6.2.2.2.1] at hz
        have key : ∀ e ∈ layA, e.1 ≠ 11 := by decide
        exact key e he (congrArg (fun q => q.2.1) hz).symm
    · exact ShA_sm (sh5 c (by omega) (by omega)) (sm6 c (by omega) (by omega)) tg6
end IW
