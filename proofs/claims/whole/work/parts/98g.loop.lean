/-! THE LAW'S LOOP (written by wip/whole/p98g.py) -/
section LAW2
variable {σ τ υ : zSt} {P : Option Value → zSt → Prop} {b X o L N M N' M' i c t : Nat} {xs : Nat → Int32} {w w' : WT} {sc : ScT} {ar : ArT}
set_option maxHeartbeats 1000000 in
theorem law_one (S : LawS σ b X o L xs w N M) (hi : i + 3 < L) (hL : L ≤ 2048) (hgo : ∀ τ w', LawS τ b X o L xs w' (N + 250) (M + 1300) → wp 204 941 [some (.ref b), some (.ref X), some (.ref o), some (.int (nI i))] [] τ P) : wp 204 26 [some (.ref b), some (.ref X), some (.ref o), some (.int (nI i))] [] σ P := by
  have ht := S.2.2.2.2.1
  refine (b204_26 ht).mpr ⟨nI_in (by omega) (by omega), ?_⟩
  generalize (zai σ 12 b (nI i).toNatClampNeg &&& 31 : Int32) = v
  by_cases h0 : v = 0
  · exact ifp h0 (law_path S hi hL hgo)
  refine ifn h0 ?_
  by_cases h1 : v = 1
  · exact ifp h1 (law_of S hi hL hgo)
  refine ifn h1 ?_
  by_cases h2 : v = 2
  · exact ifp h2 (law_feed S hi hL hgo)
  refine ifn h2 ?_
  by_cases h3 : v = 3
  · exact ifp h3 (law_write S hi hL hgo)
  refine ifn h3 ?_
  by_cases h4 : v = 4
  · exact ifp h4 (law_remove S hi hL hgo)
  refine ifn h4 ?_
  by_cases h5 : v = 5
  · exact ifp h5 (law_copy S hi hL hgo)
  refine ifn h5 ?_
  by_cases h6 : v = 6
  · exact ifp h6 (law_length S hi hL hgo)
  refine ifn h6 ?_
  by_cases h7 : v = 7
  · exact ifp h7 (law_byteAt S hi hL hgo)
  refine ifn h7 ?_
  by_cases h8 : v = 8
  · exact ifp h8 (law_action S hi hL hgo)
  refine ifn h8 ?_
  by_cases h9 : v = 9
  · exact ifp h9 (law_input S hi hL hgo)
  refine ifn h9 ?_
  by_cases h10 : v = 10
  · exact ifp h10 (law_output S hi hL hgo)
  refine ifn h10 ?_
  by_cases h11 : v = 11
  · exact ifp h11 (law_step S hi hL hgo)
  refine ifn h11 ?_
  by_cases h12 : v = 12
  · exact ifp h12 (law_erase S hi hL hgo)
  refine ifn h12 ?_
  by_cases h13 : v = 13
  · exact ifp h13 (law_about S hi hL hgo)
  refine ifn h13 ?_
  by_cases h14 : v = 14
  · exact ifp h14 (law_uses S hi hL hgo)
  refine ifn h14 ?_
  by_cases h15 : v = 15
  · exact ifp h15 (law_build S hi hL hgo)
  refine ifn h15 ?_
  by_cases h16 : v = 16
  · exact ifp h16 (law_done S hi hL hgo)
  refine ifn h16 ?_
  by_cases h17 : v = 17
  · exact ifp h17 (law_changed S hi hL hgo)
  refine ifn h17 ?_
  by_cases h18 : v = 18
  · exact ifp h18 (law_key S hi hL hgo)
  refine ifn h18 ?_
  by_cases h19 : v = 19
  · exact ifp h19 (law_isClean S hi hL hgo)
  refine ifn h19 ?_
  by_cases h20 : v = 20
  · exact ifp h20 (law_capacity S hi hL hgo)
  refine ifn h20 ?_
  by_cases h21 : v = 21
  · exact ifp h21 (law_entry S hi hL hgo)
  refine ifn h21 ?_
  by_cases h22 : v = 22
  · exact ifp h22 (law_forget S hi hL hgo)
  refine ifn h22 ?_
  by_cases h23 : v = 23
  · exact ifp h23 (law_count S hi hL hgo)
  refine ifn h23 ?_
  by_cases h24 : v = 24
  · exact ifp h24 (law_clear S hi hL hgo)
  refine ifn h24 ?_
  exact hgo σ w ⟨Cls_mono S.1 (by omega) (by omega), S.2⟩
theorem law_lt {L i : Nat} (hL : L ≤ 2048) (hi : i ≤ 2100) : nI L - 4 < nI i ↔ L < i + 4 := by
  rw [Int32.lt_iff_toInt_lt, show nI L - 4 = nI L - nI 4 from rfl, pk_sub_toInt (by omega) (by omega), nI_toInt (by omega)]
  omega
theorem Rm_room (h : Cls σ X w N M) : znx σ ≤ N ∧ zsl σ ≤ M := by
  obtain ⟨pa, aa, ea, sa, z, hG, hR⟩ := h
  unfold Rm RmN at hR
  omega
theorem law_loop (hL : L ≤ 2048) (hP : ∀ τ w' N' M', LawS τ b X o L xs w' N' M' → N' ≤ N + 250 * 512 → M' ≤ M + 1300 * 512 → P (some (.int 1)) τ) : ∀ e k σ w, k + e = 512 → LawS σ b X o L xs w (N + 250 * k) (M + 1300 * k) → wp 204 18 [some (.ref b), some (.ref X), some (.ref o), some (.int (nI (4 * k)))] [] σ P := by
  intro e
  induction e with
  | zero =>
    intro k σ w hk S
    have ht := S.2.2.2.2.1
    refine (b204_18 ht).mpr ⟨Or.inr (Or.inr (Or.inl (by rw [ht]))), ?_⟩
    have ez : zln σ b = nI L := by unfold zln; rw [ht]; rfl
    rw [ez]
    refine ifp ((law_lt hL (by omega)).mpr (by omega)) ((b204_947 ht).mpr ⟨Or.inr rfl, hP _ _ _ _ S (by omega) (by omega)⟩)
  | succ e ih =>
    intro k σ w hk S
    have ht := S.2.2.2.2.1
    refine (b204_18 ht).mpr ⟨Or.inr (Or.inr (Or.inl (by rw [ht]))), ?_⟩
    have ez : zln σ b = nI L := by unfold zln; rw [ht]; rfl
    rw [ez]
    by_cases c : L < 4 * k + 4
    · exact ifp ((law_lt hL (by omega)).mpr c) ((b204_947 ht).mpr ⟨Or.inr rfl, hP _ _ _ _ S (by omega) (by omega)⟩)
    · refine ifn (fun r => c ((law_lt hL (by omega)).mp r)) (law_one S (by omega) hL (fun τ w' S' => (b204_941 S'.2.2.2.2.1).mpr ?_))
      have e4 : nI (4 * k) + 4 = nI (4 * (k + 1)) := by rw [show nI (4 * k) + 4 = nI (4 * k + 4) from nI_add _ 4, show 4 * k + 4 = 4 * (k + 1) by omega]
      rw [e4]
      refine ih (k + 1) τ w' (by omega) ?_
      rw [show N + 250 * (k + 1) = N + 250 * k + 250 by omega, show M + 1300 * (k + 1) = M + 1300 * k + 1300 by omega]
      exact S'
/-! from the start -/
theorem HI_init {b ee mi n0 : Nat} (hb : b < n0) (he : ee < n0) (hne : b ≠ ee) : HI (zInit b ee mi n0 L xs) := by
  have tg : ∀ a, ztg (zInit b ee mi n0 L xs) a = if a = b then (4, 12, L) else if a = ee then (5, 0, 0) else (0, 0, 0) := fun _ => rfl
  have no : ∀ a, (ztg (zInit b ee mi n0 L xs) a).1 ≠ 1 ∧ (ztg (zInit b ee mi n0 L xs) a).1 ≠ 3 := by
    intro a
    rw [tg]
    by_cases h : a = b
    · rw [if_pos h]; exact ⟨(by decide : (4 : Nat) ≠ 1), (by decide : (4 : Nat) ≠ 3)⟩
    · rw [if_neg h]
      by_cases h2 : a = ee
      · rw [if_pos h2]; exact ⟨by decide, by decide⟩
      · rw [if_neg h2]; exact ⟨by decide, by decide⟩
  refine ⟨⟨fun e _ a hz => absurd hz.1 (no a).1, fun e _ a hz => ?_⟩, fun a ha => ?_, ⟨fun l d hz _ => absurd hz.1 (no l).1, fun l l' d hz _ _ _ _ => absurd hz.1 (no l).1⟩, fun d i => rfl, ?_⟩
  · exact absurd (by rw [hz]) (no a).2
  · have ha : n0 ≤ a := ha
    rw [tg, if_neg (by omega), if_neg (by omega)]
  · show ztg (zInit b ee mi n0 L xs) ee = _
    rw [tg, if_neg (fun r => hne r.symm), if_pos rfl]
theorem n204 : wpM 204 [.ref b] σ P ↔ wp 204 3 [some (.ref b), none, none, none] [.ref (znx σ)] (zNew σ 11) P := by
  show wp 204 0 [some (.ref b), none, none, none] [] σ P ↔ _
  refine (wc_new (n' := 3) rfl (zcode_of mc_204 (r := (.new 7, 11, 0, 0)) rfl)).trans ?_
  exact Iff.rfl
theorem n204_3 {s0 : Nat} : wp 204 3 [some (.ref b), none, none, none] [.ref s0] σ P ↔ wpM 81 [.ref s0] σ (fun r τ => wp 204 7 [some (.ref b), none, none, none] (r.toList ++ [.ref s0]) τ P) := by
  refine (wp_s (n := 4) (zcode_of mc_204 (r := (.dup, 0, 0, 0)) rfl) rfl rfl).trans ?_
  exact wp_call (q := ([.ref s0], [.ref s0])) (zcode_of mc_204 (r := (.invokespecial 9, 81, 2, 0)) rfl) rfl (zCa_I (Nat.le_of_ble_eq_true rfl) rfl (Or.inl rfl)) ⟨Nat.le_of_ble_eq_true rfl, Nat.le_of_ble_eq_true rfl⟩
theorem n204_7 {s0 : Nat} : wp 204 7 [some (.ref b), none, none, none] [.ref s0] σ P ↔ wp 204 11 [some (.ref b), some (.ref s0), none, none] [.ref (znx σ)] (zNew σ 12) P := by
  refine (wp_s (n := 8) (zcode_of mc_204 (r := (.astore_n 1, 0, 0, 0)) rfl) rfl rfl).trans ?_
  refine (wc_new (n' := 11) rfl (zcode_of mc_204 (r := (.new 10, 12, 0, 0)) rfl)).trans ?_
  exact Iff.rfl
theorem zLaw0 : zLawOK := by
  intro b ee mi n0 L xs hL hb he hne
  have hH := HI_init (mi := mi) (L := L) (xs := xs) hb he hne
  have ht0 : ztg (zInit b ee mi n0 L xs) b = (4, 12, L) := if_pos rfl
  have hx0 : ∀ i, zai (zInit b ee mi n0 L xs) 12 b i = xs i := fun _ => rfl
  have hs0 : zsl (zInit b ee mi n0 L xs) = 0 := rfl
  have hn0 : znx (zInit b ee mi n0 L xs) = n0 := rfl
  show wpM 204 [.ref b] (zInit b ee mi n0 L xs) (fun r τ => r = some (.int 1) ∧ znx τ - n0 ≤ 600000 ∧ zsl τ ≤ 7302250)
  generalize zInit b ee mi n0 L xs = σ0 at *
  refine n204.mpr (n204_3.mpr ?_)
  rw [hn0]
  refine init_ok hH hn0 (fun τ hC hRF => n204_7.mpr ?_)
  rw [hs0] at hC
  have ht1 : ztg τ b = (4, 12, L) := by rw [hRF.1 b (by rw [ht0]; exact Nat.succ_ne_zero 3)]; exact ht0
  have hx1 : ∀ i, zai τ 12 b i = xs i := fun i => by rw [hRF.2.2 12 b i (by omega) (by rw [ht0]; exact Nat.succ_ne_zero 3)]; exact hx0 i
  obtain ⟨pa, aa, ea, sa, z, hG, hRm⟩ := hC
  have hH1 := hG.1
  have tb : b < znx τ := tag_lt hH1.2.1 (by rw [ht1]; exact Nat.succ_ne_zero 3)
  refine (b204_11 (σ := zNew τ 12) (n := L) ?_).mpr ?_
  · show upT (ztg τ) (znx τ) _ b = _
    unfold upT
    rw [if_neg (by omega)]; exact ht1
  refine r_init hH1 rfl (fun υ hH2 hN nx sl hS hr => ?_)
  have hF := Fr_new hH1.2.1 hN
  have hG2 : ClsG υ n0 pa aa ea sa z w0 := ClsU_fr0 hG hH2 hF
  have ht2 : ztg υ b = (4, 12, L) := by rw [(hN.1 b tb).1]; exact ht1
  have hx2 : ∀ i, zai υ 12 b i = xs i := fun i => by rw [((hN.1 b tb).2.2 12 i).1]; exact hx1 i
  have hK := hG.2.2.2.2.2.2.2.1
  have c1 := hF.cap (l := n0 + 16) id hK.1
  have c2 := hF.cap (l := n0 + 17) id hK.2.1
  have hRm2 : Rm υ n0 ea sa (n0 + 4041) 202782 := by
    unfold Rm RmN at hRm ⊢
    rw [c1, c2, nx, sl]
    omega
  refine (b204_15 ht2).mpr ?_
  refine law_loop (N := n0 + 4041) (M := 202782) hL (fun τ' w' N' M' S hN' hM' => ⟨rfl, ?_⟩) 512 0 υ w0 rfl ⟨⟨pa, aa, ea, sa, z, hG2, hRm2⟩, w0_inv, hS, ⟨_, _, rOv_O, hr⟩, ht2, hx2⟩
  obtain ⟨r1, r2⟩ := Rm_room S.1
  omega
end LAW2
