/-! THE CLASS: what a program comes to is laid out -/
section TK
variable {σ τ υ : zSt} {P : Option Value → zSt → Prop} {X N M i s o k n f : Nat} {pa aa ea sa : List Nat} {z : Nat → Con} {w : WT} {t : TreT} {a : ActT} {out cv : Nat → Con} {u : Nat → Nat → Bool} {Cs Ks Ls : Nat → Prop} {Fs : Nat → Nat → Nat → Prop}
theorem ClsU_lim (h : ClsU σ X pa aa ea sa z w u) (hH : HI τ) (hz : zIs σ o 7) (ho : ∀ q, q ∈ ea → q + 4 ≠ o) (hF : Fr σ τ (runCs X o) Ks no1 Fs) (hk : ∀ k, Ks k → (∀ q, q ∈ ea → q + 1 ≠ k) ∧ ∀ i s, i < aN (wA w) → s < 2 → pA aa i + 6 + 3 * s ≠ k) (hFs : ∀ c k a, Fs c k a → c = 9 ∨ (c = 7 ∧ a = o) ∨ (c = 3 ∧ a ∉ ea)) : ClsU τ X pa aa ea sa z w u := by
  have hC := h.C
  have he := fun q (hq : q ∈ ea) => ent_ok h hq
  obtain ⟨_, hX, hT, hCC, hTp, hA, hW, hK, hLg⟩ := h
  refine ⟨hH, XOk_fr hX hF, CTree_fr hT hF id (fun _ _ => id) (fun _ _ _ r => by have := hFs _ _ _ r; omega), CCon_fr hCC hF hC (fun s p hs hp r => ?_), hF.cnt hC (fun r => ?_) hTp, CActU_fr hA hF hC id (fun _ _ => ⟨id, id⟩) (fun _ _ _ => ⟨fun r => by have := hFs _ _ _ r; omega, fun r => by have := hFs _ _ _ r; omega, fun r => by have := hFs _ _ _ r; omega⟩), CWas_fr hW hF hC (fun s i hs hi r => (hk _ r).2 i s hi hs rfl), CCac_fr hK hF hC (x_cache hC hX.1) id id (fun _ r => by have := hFs _ _ _ r; omega) (fun q hq => ⟨fun k hk' r => ?_, fun _ r => ?_, fun r => (hk _ r).1 q hq rfl, fun _ r => ?_⟩), hF.log hC (fun r => by have := hFs _ _ _ r; omega) hLg⟩
  · rcases r with r | ⟨k, hk', r⟩
    · exact (pc_X hC (hT.2.2 p hp).1 hX hs).2 r
    · exact pc_oc hC (hT.2.2 p hp).1 hz hs hk' r
  · rcases r with r | ⟨k, hk', r⟩
    · omega
    · exact (oc_X hC hz hX hk').1 r.symm
  · rcases r with r | ⟨j, hj, r⟩
    · exact (oc_X hC (he q hq).2 hX hk').2 r
    · exact ho q hq (oc_inj hC (he q hq).2 hz hk' hj r).1
  · rcases hFs _ _ _ r with r | r | r
    · omega
    · exact ho q hq r.2
    · omega
  · rcases hFs _ _ _ r with r | r | r
    · omega
    · omega
    · exact r.2 hq
theorem layO_snoc : ∀ (l : List Nat) (cv : Nat → Con) (p k : Nat), layO cv (l ++ [p]) out k = fup (layO cv l out k) p (out (k + l.length))
  | [], _, _, _ => rfl
  | x :: l, cv, p, k => by
    show layO (fup cv x (out k)) (l ++ [p]) out (k + 1) = fup (layO (fup cv x (out k)) l out (k + 1)) p (out (k + (l.length + 1)))
    rw [layO_snoc l _ p (k + 1), show k + 1 + l.length = k + (l.length + 1) by omega]
/-- the set of what a space's outputs are -/
def pcCs (pa : List Nat) (n s : Nat) : Nat → Prop := fun c => ∃ p, p < n ∧ c = pA pa p + 3 + 2 * s
theorem take_ok (hG : ClsG σ X pa aa ea sa z w) (hI1 : TInv (wT w)) (hI2 : AInv (wT w) (wA w)) (hi : i < aN (wA w)) (hs : s < 2) (hO : OutI σ o n f out) (hP : ∀ τ c' z', (∀ q p, q < 2 → p < tN (wT w) → con3 c' z' q p = if q = s then layO (con3 (wC w) z s) (aOut (wA w) i) out 0 p else con3 (wC w) z q p) → (s = 2 → c' = wC w) → (s ≠ 2 → z' = z ∧ c' = fup (wC w) s (layO (con3 (wC w) z s) (aOut (wA w) i) out 0)) → ClsG τ X pa aa ea sa z' (wT w, wA w, c', wP w, wW w, wK w, wL w) → NA σ τ → RF σ τ → Fr σ τ (pcCs pa (tN (wT w)) s) no1 no1 no3 → P none τ) : wpM 4 [.ref (pA aa i), .ref o, .int (nI s)] σ P := by
  have h60 := hI1.2.1
  have hG0 := hG.C
  have hT0 := hG.2.2.1
  obtain ⟨d1, d2, d3, d4, d5, d6, d7, d8⟩ := hI2.2.1 i hi
  refine b4.mpr ?_
  have key : ∀ d j τ c' z', j + d = (aOut (wA w) i).length → (∀ q p, q < 2 → p < tN (wT w) → con3 c' z' q p = if q = s then layO (con3 (wC w) z s) ((aOut (wA w) i).take j) out 0 p else con3 (wC w) z q p) → (s = 2 → c' = wC w) → (s ≠ 2 → z' = z ∧ c' = fup (wC w) s (layO (con3 (wC w) z s) ((aOut (wA w) i).take j) out 0)) → ClsG τ X pa aa ea sa z' (wT w, wA w, c', wP w, wW w, wK w, wL w) → NA σ τ → RF σ τ → Fr σ τ (pcCs pa (tN (wT w)) s) no1 no1 no3 → wp 4 2 [some (.ref (pA aa i)), some (.ref o), some (.int (nI s)), some (.int (nI j))] [] τ P := by
    intro d
    induction d with
    | zero =>
      intro j τ c' z' e h1 h2 h3 hG hN hF hf
      have hC := hG.C
      obtain ⟨g0, g1, g2, g3, g4, g5⟩ := hG.2.2.2.2.2.1.2.2.2 i hi
      have g2' : LVal τ (pA aa i + 2) ((aOut (wA w) i).map (pA pa)) := g2
      rw [List.take_of_length_le (by omega)] at h1 h3
      exact (b4_2 hC).mpr ⟨g0, size_ok g2' (b4_10.mpr (ifp (by rw [List.length_map]; exact nI_le (by omega) (by omega)) (b4_49.mpr (hP τ c' z' h1 h2 h3 hG hN hF hf))))⟩
    | succ d ih =>
      intro j τ c' z' e h1 h2 h3 hG hN hF hf
      have hC := hG.C
      have hT := hG.2.2.1
      obtain ⟨g0, g1, g2, g3, g4, g5⟩ := hG.2.2.2.2.2.1.2.2.2 i hi
      have g2' : LVal τ (pA aa i + 2) ((aOut (wA w) i).map (pA pa)) := g2
      have hj : j < (aOut (wA w) i).length := by omega
      have hj' : j < ((aOut (wA w) i).map (pA pa)).length := by rw [List.length_map]; exact hj
      have hp := (d6 _ (List.getElem_mem hj)).1
      have hz8 := (hT.2.2 _ hp).1
      have hO1 : OutI τ o n f out := OutI_fr hO hf hG0 (fun k hk r => by
        obtain ⟨p, hp, r⟩ := r
        exact pc_oc hG0 (hT0.2.2 p hp).1 hO.1 hs hk r.symm) (fun _ => id)
      have hov := hO1.2.2.2 j (by omega)
      refine (b4_2 hC).mpr ⟨g0, size_ok g2' (b4_10.mpr (ifn (by rw [List.length_map]; exact nI_ge hj (by omega)) (b4_13.mpr (ifn (show ¬ nI 3 ≤ nI j from nI_ge (by omega) (by omega)) ((b4_18 hC).mpr ⟨g0, get_ok g2' hj' ((b4_26 hC).mpr ?_)⟩)))))⟩
      rw [List.getElem_map]
      refine ⟨hz8, nI_in hs (by omega), hO1.1, nI_in (by omega) (by omega), ?_⟩
      rw [nI_clamp (by omega), nI_clamp (by omega), show pA pa (aOut (wA w) i)[j] + 1 + 2 + 2 * s = pA pa (aOut (wA w) i)[j] + 3 + 2 * s by omega, show o + 1 + 1 + 2 * j = o + 2 + 2 * j by omega]
      refine become_ok hC hov (pc_oc hC hz8 hO1.1 hs (by omega)) (hG.2.2.2.1 s _ hs hp).1 (fun τ1 ht => ?_)
      have tk : (aOut (wA w) i).take (j + 1) = (aOut (wA w) i).take j ++ [(aOut (wA w) i)[j]] := by rw [List.take_add_one, List.getElem?_eq_getElem hj]; rfl
      have el : layO (con3 (wC w) z s) ((aOut (wA w) i).take (j + 1)) out 0 = fup (layO (con3 (wC w) z s) ((aOut (wA w) i).take j) out 0) (aOut (wA w) i)[j] (out j) := by
        rw [tk, layO_snoc, List.length_take, Nat.min_eq_left (by omega), Nat.zero_add]
      have hcn : ∀ (V : Con) (p0 : Nat), ∀ q p, q < 2 → p < tN (wT w) → con3 (if s = 2 then c' else fup c' s (fup (c' s) p0 V)) (if s = 2 then fup z' p0 V else z') q p = if q = s ∧ p = p0 then V else con3 c' z' q p := by
        intro V p0 q p hq hp
        by_cases e2 : s = 2
        · rw [if_pos e2, if_pos e2]
          unfold con3 fup
          by_cases q2 : q = 2
          · rw [if_pos q2, if_pos q2]
            by_cases pj : p = p0
            · rw [if_pos pj, if_pos ⟨by omega, pj⟩]
            · rw [if_neg pj, if_neg (fun r => pj r.2)]
          · rw [if_neg q2, if_neg q2, if_neg (by omega)]
        · rw [if_neg e2, if_neg e2]
          unfold con3 fup
          by_cases q2 : q = 2
          · rw [if_pos q2, if_pos q2, if_neg (by omega)]
          · rw [if_neg q2, if_neg q2]
            by_cases qs : q = s
            · subst qs
              rw [if_pos rfl]
              by_cases pj : p = p0
              · rw [if_pos pj, if_pos ⟨rfl, pj⟩]
              · rw [if_neg pj, if_neg (fun r => pj r.2)]
            · rw [if_neg qs, if_neg (fun r => qs r.1)]
      obtain ⟨hG1, hN1, hF1, hf1⟩ := Cls_con3 (u := usesT (wT w) (wA w)) hG h60 hs hp ht (hcn _ _)
      refine b4_43.mpr ?_
      rw [nI_1]
      refine ih (j + 1) τ1 _ _ (by omega) (fun q p hq hp => ?_) (fun e2 => ?_) (fun e2 => ?_) hG1 (hN.tr hN1) (hF.tr hF1) (hf.trans (hf1.mono (fun _ r => ⟨_, hp, r⟩) (fun _ => id) (fun _ => id) (fun _ _ _ => id)) hC)
      · rw [hcn _ _ q p hq hp, h1 q p hq hp, el]
        by_cases qs : q = s
        · rw [if_pos qs, if_pos qs]
          unfold fup
          by_cases pj : p = (aOut (wA w) i)[j]
          · rw [if_pos ⟨qs, pj⟩, if_pos pj]
          · rw [if_neg (fun r => pj r.2), if_neg pj]
        · rw [if_neg (fun r => qs r.1), if_neg qs, if_neg qs]
      · rw [if_pos e2]; exact h2 e2
      · obtain ⟨k1, k2⟩ := h3 e2
        rw [if_neg e2, if_neg e2, el]
        refine ⟨k1, ?_⟩
        rw [k2]
        funext q p
        unfold fup
        by_cases qs : q = s
        · rw [if_pos qs, if_pos qs]; simp
        · rw [if_neg qs, if_neg qs, if_neg qs]
  refine key _ 0 σ (wC w) z (Nat.zero_add _) (fun q p hq hp => ?_) (fun _ => rfl) (fun e2 => ⟨rfl, ?_⟩) hG NA.rf RF.rf Fr.refl
  · show _ = if _ then con3 (wC w) z s p else _
    by_cases qs : q = s
    · rw [if_pos qs, qs]
    · rw [if_neg qs]
  · funext q p
    show _ = fup (wC w) s (con3 (wC w) z s) q p
    unfold fup con3
    by_cases qs : q = s
    · rw [if_pos qs, if_neg e2, qs]
    · rw [if_neg qs]
end TK
