/-! THE REFERENCE: files -/
section RF1
variable {σ : zSt} {o : Nat} {sc sc' : ScT} {ar ar' : ArT} {P : Option Value → zSt → Prop} {T : TreT} {A : ActT} {x y x0 x1 x2 n : Int32} {p s i f g h tl tb m : Nat} {w : WT} {c : Con} {cv : Nat → Con}
theorem byteS (v : Int64) {k : Nat} (hk : k < 8) : Int64.toInt32 ((v >>> (Int32.toInt64 (8 * nI k) &&& 63)) &&& 255) = byteW v k := by
  have tab : ∀ k, k < 8 → ((Int32.toInt64 (8 * nI k) &&& 63).toBitVec.smod 64).toNat = 8 * k := by decide
  have e1 : (v >>> (Int32.toInt64 (8 * nI k) &&& 63)).toBitVec = v.toBitVec.sshiftRight (8 * k) := by
    show v.toBitVec.sshiftRight' ((Int32.toInt64 (8 * nI k) &&& 63).toBitVec.smod 64) = _
    unfold BitVec.sshiftRight'
    rw [tab k hk]
  have t255 : ∀ i, i < 64 → (255 : Int64).toBitVec.getLsbD i = decide (i < 8) := by decide
  apply Int32.toBitVec_inj.mp
  apply BitVec.eq_of_getLsbD_eq
  intro i hi
  have e2 : (Int64.toInt32 ((v >>> (Int32.toInt64 (8 * nI k) &&& 63)) &&& 255)).toBitVec = (((v >>> (Int32.toInt64 (8 * nI k) &&& 63)).toBitVec &&& (255 : Int64).toBitVec)).signExtend 32 := rfl
  have e3 : (byteW v k).toBitVec = BitVec.ofNat 32 (v.toBitVec.toNat / 2 ^ (8 * k) % 256) := rfl
  rw [e2, e3, BitVec.signExtend_eq_setWidth_of_le _ (by omega), BitVec.getLsbD_setWidth, BitVec.getLsbD_and, e1, t255 i (by omega), BitVec.getLsbD_ofNat, show (256 : Nat) = 2 ^ 8 from rfl, Nat.testBit_mod_two_pow, Nat.testBit_div_two_pow, BitVec.getLsbD_sshiftRight]
  by_cases c : i < 8
  · have h1 : 8 * k + i < 64 := by omega
    simp [c, hi, h1, BitVec.testBit_toNat]
    rw [decide_eq_false (show ¬ 64 ≤ i by omega), Bool.not_false, Bool.true_and, show i + 8 * k = 8 * k + i by omega, BitVec.getLsbD_eq_getElem h1]
  · simp [c]
/-- other contents stay -/
def FrC (ar ar' : ArT) (tl tb g : Nat) : Prop := ∀ h, h ≠ g → ar' tl h = ar tl h ∧ ∀ i, i < 64 → ar' tb (64 * h + i) = ar tb (64 * h + i)
theorem RCc_fr (hc : RCc ar tl tb f c) (hl : ∀ l, c = some l → l.length ≤ 64) (hF : FrC ar ar' tl tb g) (hne : f ≠ g) : RCc ar' tl tb f c := by
  obtain ⟨h1, h2⟩ := hF f hne
  exact ⟨by rw [h1]; exact hc.1, fun l hl' => RRow_eq (hc.2 l hl') (fun i hi => h2 i (by have := hl l hl'; omega))⟩
theorem RConS_fr (hc : RConS ar s m cv) (hl : ∀ p, p < m → ∀ l, cv p = some l → l.length ≤ 64) (hF : FrC ar ar' 25 26 g) (hne : ∀ p, 1 ≤ p → p < m → 60 * s + p ≠ g) : RConS ar' s m cv := fun p h1 h2 => RCc_fr (hc p h1 h2) (hl p h2) hF (hne p h1 h2)
theorem RConS_set (hc : RConS ar s m cv) (hm : m ≤ 60) (hl : ∀ p, p < m → ∀ l, cv p = some l → l.length ≤ 64) (hF : FrC ar ar' 25 26 (60 * s + p)) (hn : RCc ar' 25 26 (60 * s + p) c) : RConS ar' s m (fup cv p c) := by
  intro q h1 h2
  by_cases e : q = p
  · rw [e, fup_same]; exact hn
  · rw [fup_ne e]; exact RCc_fr (hc q h1 h2) (hl q h2) hF (by omega)
/-- one content of the two spaces is another -/
theorem RCon_set {c2 : Nat → Nat → Con} (h0 : RConS ar 0 m (c2 0)) (h1 : RConS ar 1 m (c2 1)) (hm : m ≤ 60) (hl : ∀ s, s < 2 → ∀ p, p < m → ∀ l, c2 s p = some l → l.length ≤ 64) (hs : s < 2) (hp : p < m) (hF : FrC ar ar' 25 26 (60 * s + p)) (hn : RCc ar' 25 26 (60 * s + p) c) : RConS ar' 0 m (fup2 c2 s p c 0) ∧ RConS ar' 1 m (fup2 c2 s p c 1) := by
  have e : ∀ s', s' < 2 → s' ≠ s → RConS ar' s' m (fup2 c2 s p c s') := by
    intro s' hs' hne
    have e2 : fup2 c2 s p c s' = c2 s' := by funext j; exact if_neg (fun r => hne r.1)
    rw [e2]
    have hc : RConS ar s' m (c2 s') := by
      have : s' = 0 ∨ s' = 1 := by omega
      rcases this with r | r <;> subst r <;> assumption
    exact RConS_fr hc (hl s' hs') hF (fun p _ _ => by omega)
  have e1 : RConS ar' s m (fup2 c2 s p c s) := by
    have e2 : fup2 c2 s p c s = fup (c2 s) p c := by
      funext j
      unfold fup2 fup
      by_cases q : j = p
      · rw [if_pos ⟨rfl, q⟩, if_pos q]
      · rw [if_neg (fun r => q r.2), if_neg q]
    rw [e2]
    have hc : RConS ar s m (c2 s) := by
      have : s = 0 ∨ s = 1 := by omega
      rcases this with r | r <;> subst r <;> assumption
    exact RConS_set hc hm (hl s hs) hF hn
  have : s = 0 ∨ s = 1 := by omega
  rcases this with r | r <;> subst r
  · exact ⟨e1, e 1 (by omega) (by omega)⟩
  · exact ⟨e 0 (by omega) (by omega), e1⟩
theorem FrC_len {v : Int32} (ht : tl ≠ tb) : FrC ar (upA ar tl g v) tl tb g := fun h hh => ⟨upA_ne (fun r => hh r.2), fun i _ => upA_ne (fun r => ht r.1.symm)⟩
theorem r_of (hR : RShape σ o) (h : RefR sc ar w) (hI : WInv w) (hP : P (some (.int (sOf w x y))) (rOv σ o sc ar)) : wpM 117 [.ref o, .int x, .int y] (rOv σ o sc ar) P := by
  have hn := hI.1.2.1
  unfold sOf at hP
  refine (b117 hR).mpr ?_
  rcases ixN_cases x (n := tN (wT w)) (by omega) with ⟨e, hx⟩ | ⟨p, hp, rfl, e⟩
  · rw [e] at hP
    exact rispath_no hR h.1 hn hx ((b117_5 hR).mpr (ifn (fun r => r rfl) ((b117_8 hR).mpr hP)))
  · rw [e] at hP
    dsimp only at hP
    obtain ⟨h1, h2, h3, h4⟩ := h.1.2 p hp
    refine rispath_yes hR h.1 hn hp ((b117_5 hR).mpr (ifp (by decide) ((b117_11 hR).mpr ?_)))
    by_cases c0 : y = 0
    · rw [if_pos c0] at hP ⊢
      refine (b117_44 hR).mpr ⟨nI_in (N := 60) (by omega) (by omega), ?_⟩
      rw [nI_clamp (by omega), h1]; exact hP
    rw [if_neg c0] at hP ⊢
    by_cases c1 : y = 1
    · rw [if_pos c1] at hP ⊢
      refine (b117_51 hR).mpr ⟨nI_in (N := 60) (by omega) (by omega), ?_⟩
      rw [nI_clamp (by omega), h2]; exact hP
    rw [if_neg c1] at hP ⊢
    by_cases c2 : y = 2
    · rw [if_pos c2] at hP ⊢
      refine (b117_58 hR).mpr ⟨nI_in (N := 60) (by omega) (by omega), ?_⟩
      rw [nI_clamp (by omega), h3]
      by_cases d : tDir (wT w) p = true
      · rw [if_pos d] at hP
        exact ifn (fun r => b2I_ne.mpr d r) ((b117_67 hR).mpr ((b117_72 hR).mpr hP))
      · rw [if_neg d] at hP
        exact ifp (b2I_0.mpr (by simpa using d)) ((b117_71 hR).mpr ((b117_72 hR).mpr hP))
    rw [if_neg c2] at hP ⊢
    by_cases c3 : y = 3
    · rw [if_pos c3] at hP ⊢
      refine (b117_73 hR).mpr ⟨nI_in (N := 60) (by omega) (by omega), ?_⟩
      rw [nI_clamp (by omega), h4]; exact hP
    rw [if_neg c3] at hP ⊢
    exact (b117_80 hR).mpr hP
theorem RCon_at {c2 : Nat → Nat → Con} (h : RConS ar 0 m (c2 0) ∧ RConS ar 1 m (c2 1)) (hs : s < 2) : RConS ar s m (c2 s) := by
  have : s = 0 ∨ s = 1 := by omega
  rcases this with r | r <;> subst r
  · exact h.1
  · exact h.2
theorem r_length (hR : RShape σ o) (h : RefR sc ar w) (hI : WInv w) (hP : P (some (.int (sLength w x y))) (rOv σ o sc ar)) : wpM 126 [.ref o, .int x, .int y] (rOv σ o sc ar) P := by
  have hn := hI.1.2.1
  unfold sLength at hP
  refine (b126 hR).mpr (rbad_ok hR h.1 hn (fun e => ?_) (fun s p e ex ey hs hp => ?_))
  · rw [e] at hP
    exact (b126_6 hR).mpr (ifn (by decide) ((b126_9 hR).mpr ((b126_39 hR).mpr hP)))
  · rw [e] at hP
    subst ex ey
    dsimp only at hP
    obtain ⟨h1, h2, h3, h4⟩ := h.1.2 p hp
    refine (b126_6 hR).mpr (ifp rfl ((b126_14 hR).mpr ⟨nI_in (N := 60) (by omega) (by omega), ?_⟩))
    rw [nI_clamp (by omega), h3]
    by_cases d : tDir (wT w) p = true
    · rw [if_pos d] at hP
      exact ifn (fun r => b2I_ne.mpr d r) ((b126_23 hR).mpr ((b126_39 hR).mpr hP))
    · rw [if_neg d] at hP
      refine ifp (b2I_0.mpr (by simpa using d)) ((b126_28 hR).mpr ?_)
      rw [i60, nI_clamp (by omega)]
      have p1 : 1 ≤ p := by
        by_cases c : p = 0
        · rw [c] at d; exact absurd hI.1.2.2.1.2.2.1 d
        · omega
      rw [(RCon_at h.2.1 hs p p1 hp).1]
      exact ⟨nI_in (N := 180) (by omega) (by omega), (b126_39 hR).mpr hP⟩
theorem r_byteAt (hR : RShape σ o) (h : RefR sc ar w) (hI : WInv w) (hP : P (some (.int (sByteAt w x y n))) (rOv σ o sc ar)) : wpM 127 [.ref o, .int x, .int y, .int n] (rOv σ o sc ar) P := by
  have hn := hI.1.2.1
  unfold sByteAt at hP
  refine (b127 hR).mpr (rbad_ok hR h.1 hn (fun e => ?_) (fun s p e ex ey hs hp => ?_))
  · rw [e] at hP
    exact (b127_6 hR).mpr (ifn (by decide) ((b127_9 hR).mpr hP))
  · rw [e] at hP
    subst ex ey
    dsimp only at hP
    obtain ⟨h1, h2, h3, h4⟩ := h.1.2 p hp
    refine (b127_6 hR).mpr (ifp rfl ((b127_12 hR).mpr ⟨nI_in (N := 60) (by omega) (by omega), ?_⟩))
    rw [nI_clamp (by omega), h3]
    by_cases d : tDir (wT w) p = true
    · rw [if_pos d] at hP
      exact ifn (fun r => b2I_ne.mpr d r) ((b127_21 hR).mpr hP)
    · rw [if_neg d] at hP
      refine ifp (b2I_0.mpr (by simpa using d)) ((b127_24 hR).mpr ?_)
      rw [i60, nI_clamp (by omega)]
      have p1 : 1 ≤ p := by
        by_cases c : p = 0
        · rw [c] at d; exact absurd hI.1.2.2.1.2.2.1 d
        · omega
      have hc := RCon_at h.2.1 hs p p1 hp
      rw [hc.1]
      refine ⟨nI_in (N := 180) (by omega) (by omega), ?_⟩
      have no : ∀ r, (n < 0 ∨ r - 1 < n) → lenI (wC w s p) = r → P (some (.int (-2))) (rOv σ o sc ar) → wpM 113 [.int n, .int 0, .int (lenI (wC w s p) - 1)] (rOv σ o sc ar) (fun r τ => wp 127 42 [some (.ref o), some (.int (nI s)), some (.int (nI p)), some (.int n)] (r.toList ++ []) τ P) := by
        intro r hr e hP
        rw [e]
        exact rin_no hR hr ((b127_42 hR).mpr (ifp rfl ((b127_64 hR).mpr ((b127_66 hR).mpr hP))))
      cases hcv : wC w s p with
      | none =>
        rw [hcv] at hP no
        refine no (-1) ?_ rfl hP
        by_cases c : n < 0
        · exact Or.inl c
        · exact Or.inr (Int32.lt_of_lt_of_le (by decide) (Int32.not_lt.mp c))
      | some l =>
        rw [hcv] at hP no
        dsimp only at hP
        have h64 : l.length ≤ 64 := hI.2.2.1.len hs p hp l hcv
        rcases ixN_cases n (n := l.length) (by omega) with ⟨e, hx⟩ | ⟨i, hi, rfl, e⟩
        · rw [e] at hP
          exact no (nI l.length) (lt_pred (by omega) hx) rfl hP
        · rw [e] at hP
          dsimp only at hP
          refine rin_n_yes hR (m := l.length - 1) (by omega) (by omega) ?_ ((b127_42 hR).mpr (ifn (by decide) ((b127_45 hR).mpr ?_)))
          · show nI l.length - 1 = _
            obtain ⟨k, hk⟩ : ∃ k, l.length = k + 1 := ⟨l.length - 1, by omega⟩
            rw [hk, nI_pred]; rfl
          · rw [i60, i64, nI_clamp (by omega), RRow_get (hc.2 l hcv) hi]
            rw [List.getD_eq_getElem?_getD, List.getElem?_eq_getElem hi] at hP
            exact ⟨nI_in (N := 11520) (by omega) (by omega), (b127_66 hR).mpr hP⟩
theorem src_pos (hI : WInv w) (h : srcW w p = true) : 1 ≤ p := by
  by_cases c : p = 0
  · rw [c] at h
    unfold srcW at h
    rw [hI.1.2.2.1.2.2.1] at h
    cases h
  · omega
theorem r_remove (hR : RShape σ o) (h : RefR sc ar w) (hI : WInv w) (hP : ∀ sc' ar', RefR sc' ar' (sRemove w x y).1 → P (some (.int (sRemove w x y).2)) (rOv σ o sc' ar')) : wpM 122 [.ref o, .int x, .int y] (rOv σ o sc ar) P := by
  have hn := hI.1.2.1
  unfold sRemove at hP
  refine (b122 hR).mpr (rbad_ok hR h.1 hn (fun e => ?_) (fun s p e ex ey hs hp => ?_))
  · rw [e] at hP
    exact (b122_6 hR).mpr (ifn (by decide) ((b122_9 hR).mpr (hP sc ar h)))
  · rw [e] at hP
    subst ex ey
    dsimp only at hP
    refine (b122_6 hR).mpr (ifp rfl ((b122_12 hR).mpr (rsrc_ok hR h.1 hn (hI.1.mk31 hI.2.1 hp) hp ((b122_17 hR).mpr ?_))))
    by_cases d : srcW w p = true
    · rw [if_pos d] at hP
      rw [d]
      have p1 := src_pos hI d
      refine ifp (by decide) ((b122_23 hR).mpr ?_)
      rw [i60, nI_clamp (by omega), (RCon_at h.2.1 hs p p1 hp).1]
      refine ⟨nI_in (N := 180) (by omega) (by omega), nI_in (N := 180) (by omega) (by omega), hP _ _ ?_⟩
      obtain ⟨q1, q2, q3, q4, q5, q6, q7⟩ := h
      have hA : Ag sc ar sc (upA ar 25 (60 * s + p) (-1)) [5] := Ag_ar (by decide)
      exact ⟨RTree_ag q1 hA (by decide), RCon_set q2.1 q2.2 hn (fun s hs => hI.2.2.1.len hs) hs hp (FrC_len (by decide)) ⟨upA_same, fun l hl => by cases hl⟩, RTape_ag q3 hA (by decide), RAct_ag q4 hA (by decide), RWas_ag q5 hA (by decide), RCac_ag q6 hA (by decide), RLog_ag q7 hA (by decide)⟩
    · rw [if_neg d] at hP
      rw [show srcW w p = false by simpa using d]
      exact ifn (fun r => r rfl) ((b122_20 hR).mpr (hP sc ar h))
theorem r_write (hR : RShape σ o) (h : RefR sc ar w) (hI : WInv w) (hP : ∀ sc' ar', RefR sc' ar' (sWrite w x y).1 → P (some (.int (sWrite w x y).2)) (rOv σ o sc' ar')) : wpM 121 [.ref o, .int x, .int y] (rOv σ o sc ar) P := by
  have hn := hI.1.2.1
  unfold sWrite at hP
  refine (b121 hR).mpr (rbad_ok hR h.1 hn (fun e => ?_) (fun s p e ex ey hs hp => ?_))
  · rw [e] at hP
    exact (b121_6 hR).mpr (ifn (by decide) ((b121_9 hR).mpr (hP sc ar h)))
  · rw [e] at hP
    subst ex ey
    dsimp only at hP
    refine (b121_6 hR).mpr (ifp rfl ((b121_12 hR).mpr (rsrc_ok hR h.1 hn (hI.1.mk31 hI.2.1 hp) hp ((b121_17 hR).mpr ?_))))
    by_cases d : srcW w p = true
    · rw [if_pos d] at hP
      rw [d]
      have p1 := src_pos hI d
      refine ifp (by decide) ((b121_23 hR).mpr ?_)
      rw [i60]
      obtain ⟨q1, q2, q3, q4, q5, q6, q7⟩ := h
      have h64 : (wP w).length ≤ 64 := hI.2.2.2.1.1
      have key : ∀ e k, k + e = (wP w).length → wp 121 33 [some (.ref o), some (.int (nI s)), some (.int (nI p)), some (.int (nI (60 * s + p))), some (.int (nI k))] [] (rOv σ o sc (cpA ar 26 (64 * (60 * s + p)) 27 0 k)) P := by
        intro e
        induction e with
        | zero =>
          intro k hk
          have hk : k = (wP w).length := by omega
          subst hk
          refine (b121_33 hR).mpr (ifp (by rw [q3.1]; exact nI_le (by omega) (by omega)) ((b121_67 hR).mpr ?_))
          rw [nI_clamp (by omega), upA_same, q3.1]
          refine ⟨nI_in (N := 180) (by omega) (by omega), nI_in (N := 180) (by omega) (by omega), hP _ _ ?_⟩
          have hA : Ag sc ar (upS sc 8 0) (upA (cpA ar 26 (64 * (60 * s + p)) 27 0 (wP w).length) 25 (60 * s + p) (nI (wP w).length)) [5, 6, 8] := ((Ag_cp (by decide)).tr (Ag_ar (by decide))).tr (Ag_sc (by decide))
          refine ⟨RTree_ag q1 hA (by decide), RCon_set q2.1 q2.2 hn (fun s hs => hI.2.2.1.len hs) hs hp (fun h hh => ⟨?_, fun i hi => ?_⟩) ⟨upA_same, fun l hl => ?_⟩, ⟨upS_same, RRow_nil⟩, RAct_ag q4 hA (by decide), RWas_ag q5 hA (by decide), RCac_ag q6 hA (by decide), RLog_ag q7 hA (by decide)⟩
          · rw [upA_ne (fun r => hh r.2), cpA_ne (by decide)]
          · rw [upA_ne (fun r => absurd r.1 (by decide)), cpA_out (by omega)]
          · cases hl
            refine RRow_ag (cpA_row q3.2) (fun i => ?_)
            exact upA_ne (fun r => absurd r.1 (by decide))
        | succ e ih =>
          intro k hk
          refine (b121_33 hR).mpr (ifn (by rw [q3.1]; exact nI_ge (by omega) (by omega)) ((b121_42 hR).mpr ?_))
          rw [i64, nI_clamp (by omega), nI_clamp (by omega), nI_1]
          have st := cpA_step (ar := ar) (td := 26) (D := 64 * (60 * s + p)) (ts := 27) (S := 0) (n := k) (Or.inl (by decide))
          rw [Nat.zero_add] at st
          rw [st]
          exact ⟨nI_in (N := 64) (by omega) (by omega), nI_in (N := 11520) (by omega) (by omega), ih (k + 1) (by omega)⟩
      have := key _ 0 (Nat.zero_add _)
      rw [cpA_0] at this
      exact this
    · rw [if_neg d] at hP
      rw [show srcW w p = false by simpa using d]
      exact ifn (fun r => r rfl) ((b121_20 hR).mpr (hP sc ar h))
theorem bytesW_len (v : Int64) : ∀ k, (bytesW v k).length = k
  | 0 => rfl
  | k + 1 => by show (bytesW v k).length + 1 = _; rw [bytesW_len v k]
theorem r_feed {v : Int64} (hR : RShape σ o) (h : RefR sc ar w) (hI : WInv w) (hP : ∀ sc' ar', RefR sc' ar' (sFeed w v n).1 → P (some (.int (sFeed w v n).2)) (rOv σ o sc' ar')) : wpM 118 [.ref o, .long v, .int n] (rOv σ o sc ar) P := by
  unfold sFeed at hP
  refine (b118 hR).mpr ?_
  by_cases hb : n < 1 ∨ 8 < n
  · rw [if_pos hb] at hP
    exact rin_no hR hb ((b118_7 hR).mpr (ifn (fun r => r rfl) ((b118_10 hR).mpr (hP sc ar h))))
  · rw [if_neg hb] at hP
    have hn1 : 1 ≤ n := Int32.not_lt.mp (fun r => hb (Or.inl r))
    have hn8 : n ≤ 8 := Int32.not_lt.mp (fun r => hb (Or.inr r))
    obtain ⟨m, rfl, hm1, hm8⟩ : ∃ k, n = nI k ∧ 1 ≤ k ∧ k ≤ 8 := by
      rcases pk_ix n (n := 9) (by omega) with g | g | ⟨k, hk, rfl⟩
      · exact absurd (Int32.lt_of_lt_of_le g (Int32.le_trans (by decide) hn1)) Int32.lt_irrefl
      · exact absurd (Int32.le_trans g hn8) (by decide)
      · refine ⟨k, rfl, ?_, by omega⟩
        cases k with
        | zero => exact absurd hn1 (by decide)
        | succ k => omega
    rw [nI_clamp (by omega)] at hP
    refine rin_yes hR hn1 hn8 ((b118_7 hR).mpr (ifp (by decide) ((b118_13 hR).mpr ?_)))
    obtain ⟨q1, q2, q3, q4, q5, q6, q7⟩ := id h
    have h64 : (wP w).length ≤ 64 := hI.2.2.2.1.1
    rw [q3.1, nI_add]
    by_cases hf : 64 < (wP w).length + m
    · rw [if_pos hf] at hP
      exact ifn (show ¬ nI ((wP w).length + m) ≤ nI 64 from nI_ge hf (by omega)) ((b118_24 hR).mpr (hP sc ar h))
    · rw [if_neg hf] at hP
      refine ifp (show nI ((wP w).length + m) ≤ nI 64 from nI_le (by omega) (by omega)) ((b118_27 hR).mpr ?_)
      have key : ∀ k acc sc' ar', k ≤ m → acc.length + k ≤ 64 → acc ++ bytesW v k = wP w ++ bytesW v m → RTape sc' ar' acc → Ag sc ar sc' ar' [7, 8] → wp 118 32 [some (.ref o), some (.long v), none, some (.int (nI m)), some (.int (nI k - 1))] [] (rOv σ o sc' ar') P := by
        intro k
        induction k with
        | zero =>
          intro acc sc' ar' _ hacc he ht hA
          have he : acc = wP w ++ bytesW v m := by rw [← he]; exact (List.append_nil acc).symm
          refine (b118_32 hR).mpr (ifp (by decide) ((b118_74 hR).mpr ?_))
          rw [ht.1]
          have el : acc.length = (wP w).length + m := by rw [he, List.length_append, bytesW_len]
          rw [el]
          exact hP _ _ ⟨RTree_ag q1 hA (by decide), ⟨RConS_ag q2.1 hA (by decide), RConS_ag q2.2 hA (by decide)⟩, by rw [he] at ht; exact ht, RAct_ag q4 hA (by decide), RWas_ag q5 hA (by decide), RCac_ag q6 hA (by decide), RLog_ag q7 hA (by decide)⟩
        | succ k ih =>
          intro acc sc' ar' hkm hacc he ht hA
          rw [nI_pred]
          refine (b118_32 hR).mpr (ifn (nI_pos (by omega)) ((b118_37 hR).mpr ?_))
          rw [byteS v (by omega), ht.1, nI_clamp (by omega), nI_1, show nI k + (-1) = nI k - 1 by rw [Int32.sub_eq_add_neg]]
          refine ⟨nI_in (N := 64) (by omega) (by omega), ih (acc ++ [byteW v k]) _ _ (by omega) (by simp; omega) ?_ ⟨?_, ?_⟩ (hA.tr ((Ag_ar (by decide)).tr (Ag_sc (by decide))))⟩
          · rw [List.append_assoc]; exact he
          · rw [upS_same, List.length_append]; rfl
          · have := RRow_put (v := byteW v k) ht.2
            rw [Nat.zero_add] at this
            exact this
      exact key m (wP w) sc ar (Nat.le_refl _) (by omega) rfl q3 Ag.rf
end RF1
