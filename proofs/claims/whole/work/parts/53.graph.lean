/-! THE CLASS'S GRAPH: all that is used, circles, uses anew -/
section GU
variable {σ τ υ : zSt} {P : Option Value → zSt → Prop} {X N M : Nat} {pa aa ea sa : List Nat} {z : Nat → Con} {w : WT} {t : TreT} {a : ActT} {x y n : Int32} {p s i : Nat} {u : Nat → Nat → Bool} {Cs Ks Ls : Nat → Prop} {Fs : Nat → Nat → Nat → Prop}
def SdW (t : TreT) (a : ActT) (m v : Int64) : Prop := (∀ b, mb m b = true → mb v b = true) ∧ ∀ b, mb v b = true → mb m b = true ∨ ∃ k, mb m k = true ∧ rch t a k b
theorem mb_eq_of {x y : Int64} (h : ∀ b, mb x b = mb y b) : x = y := mb_ext (fun b _ => h b)
theorem wau_ok (hC : CShape σ) (hX : zIs σ X 11) (hA : CAct σ X pa aa t a) (h40 : aN a ≤ 40) {m : Int64} (hm : ∀ b, mb m b = true → b < aN a) (hP : ∀ v, (∀ b, mb v b = true ↔ mb m b = true ∨ ∃ k, mb m k = true ∧ rch t a k b) → P (some (.long v)) σ) : wpM 37 [.ref (X + 13), .long m] σ P := by
  have hz := x_graph hC hX
  have hv := hA.1
  have hl := hA.2.1
  have lt : ∀ v, SdW t a m v → ∀ b, mb v b = true → b < aN a := by
    intro v h b hb
    rcases h.2 b hb with q | ⟨k, _, q⟩
    · exact hm b q
    · exact rch_lt q
  have fin : ∀ v, SdW t a m v → (∀ i j, mb v i = true → j < aN a → usesT t a i j = true → mb v j = true) → P (some (.long v)) σ := by
    intro v h hc
    refine hP v (fun b => ⟨h.2 b, fun q => ?_⟩)
    rcases q with q | ⟨k, q1, q2⟩
    · exact h.1 b q
    · exact rch_closed (S := fun i => mb v i = true) hc (h.1 k q1) q2
  have pass : ∀ (r : Nat) (bef : Int64) (Q : Int64 → Prop), (∀ v, SdW t a m v → (∀ b, mb bef b = true → mb v b = true) → (∀ i j, mb bef i = true → j < aN a → usesT t a i j = true → mb v j = true) → wp 37 81 [some (.ref (X + 13)), some (.long m), none, some (.long v), none, some (.long bef), none, some (.int (nI r)), some (.int (nI (aN a)))] [] σ P) → ∀ c k v, k + c = aN a → SdW t a m v → (∀ b, mb bef b = true → mb v b = true) → (∀ i j, i < k → mb bef i = true → j < aN a → usesT t a i j = true → mb v j = true) → (∀ b, mb bef b = true → b < aN a) → wp 37 33 [some (.ref (X + 13)), some (.long m), none, some (.long v), none, some (.long bef), none, some (.int (nI r)), some (.int (nI k))] [] σ P := by
    intro r bef Q hQ c
    induction c with
    | zero =>
      intro k v e hS hb hu hbl
      refine (b37_33 hC).mpr ⟨hz, size_ok hv (b37_42.mpr (ifp (by rw [hl]; exact nI_le (by omega) (by omega)) ?_))⟩
      rw [show k = aN a by omega]
      exact hQ v hS hb (fun i j h1 h2 h3 => hu i j (by have := hbl i h1; omega) h1 h2 h3)
    | succ c ih =>
      intro k v e hS hb hu hbl
      have hk : k < aN a := by omega
      have hka : k < aa.length := by omega
      refine (b37_33 hC).mpr ⟨hz, size_ok hv (b37_42.mpr (ifn (by rw [hl]; exact nI_ge (by omega) (by omega)) (b37_45.mpr (bit_ok (by omega) (b37_51.mpr ?_)))))⟩
      by_cases hkv : mb v k = true
      · refine ifn (fun q => ?_) ((b37_57 hC).mpr ⟨hz, get_ok hv hka (b37_67.mpr ?_)⟩)
        · rw [lcmp0, and_bit (by omega)] at q
          rw [q] at hkv; cases hkv
        rw [pA_elem hka]
        have hact := hA.2.2.2 k hk
        refine ⟨hact.1, b37_75.mpr ?_⟩
        rw [nI_1]
        refine ih (k + 1) _ (by omega) ⟨fun b hb' => ?_, fun b hb' => ?_⟩ (fun b hb' => ?_) (fun i j h1 h2 h3 h4 => ?_) hbl
        · rw [mb_or, hS.1 b hb']; rfl
        · rw [mb_or, Bool.or_eq_true] at hb'
          rcases hb' with q | q
          · exact hS.2 b q
          · obtain ⟨q1, q2⟩ := (usesT_bit hact).mp q
            right
            rcases hS.2 k hkv with r1 | ⟨l, r1, r2⟩
            · exact ⟨k, r1, rch_one q1 q2⟩
            · exact ⟨l, r1, rch_trans r2 (rch_one q1 q2)⟩
        · rw [mb_or, hb b hb']; rfl
        · rw [mb_or, Bool.or_eq_true]
          by_cases q : i = k
          · right; rw [q] at h4; exact (usesT_bit hact).mpr ⟨h3, h4⟩
          · left; exact hu i j (by omega) h2 h3 h4
      · refine ifp ?_ (b37_75.mpr ?_)
        · rw [lcmp0, and_bit (by omega)]; simpa using hkv
        rw [nI_1]
        refine ih (k + 1) v (by omega) hS hb (fun i j h1 h2 h3 h4 => ?_) hbl
        by_cases q : i = k
        · rw [q] at h2; exact absurd (hb k h2) hkv
        · exact hu i j (by omega) h2 h3 h4
  have outer : ∀ c r v bef u8, r + c = aN a + 1 → SdW t a m v → (∀ b, mb bef b = true → mb v b = true) → (∀ i j, mb bef i = true → j < aN a → usesT t a i j = true → mb v j = true) → r ≤ cnt (mb bef) (aN a) + 1 → wp 37 8 [some (.ref (X + 13)), some (.long m), none, some (.long v), none, some (.long bef), none, some (.int (nI r)), u8] [] σ P := by
    intro c
    induction c with
    | zero =>
      intro r v bef u8 e hS hb hu hc
      refine (b37_8 hC).mpr ⟨hz, size_ok hv (b37_17.mpr (ifp (by rw [hl]; exact nI_lt (by omega) (by omega)) (b37_87.mpr (fin v hS ?_))))⟩
      have full := cnt_full (f := mb bef) (aN a) (by omega)
      intro i j h1 h2 h3
      exact hu i j (full i (lt v hS i h1)) h2 h3
    | succ c ih =>
      intro r v bef u8 e hS hb hu hc
      refine (b37_8 hC).mpr ⟨hz, size_ok hv (b37_17.mpr (ifn (by rw [hl]; exact nI_nlt (by omega) (by omega)) (b37_20.mpr ?_)))⟩
      by_cases q : v = bef
      · refine ifp (lcmp0.mpr q) (b37_87.mpr (fin v hS ?_))
        intro i j h1 h2 h3
        exact hu i j (by rw [← q]; exact h1) h2 h3
      · refine ifn (fun g => q (lcmp0.mp g)) (b37_27.mpr ?_)
        have hgrow : cnt (mb bef) (aN a) < cnt (mb v) (aN a) := by
          refine cnt_lt _ (fun i _ => hb i) ?_
          refine Classical.byContradiction fun g => q (mb_eq_of fun b => ?_)
          cases h1 : mb v b with
          | false =>
            cases h2 : mb bef b with
            | false => rfl
            | true => rw [hb b h2] at h1; cases h1
          | true =>
            cases h2 : mb bef b with
            | true => rfl
            | false => exact absurd ⟨b, lt v hS b h1, h2, h1⟩ g
        refine pass r v (fun _ => True) (fun v' hS' hb' hu' => b37_81.mpr ?_) (aN a) 0 v (Nat.zero_add _) hS (fun _ h => h) (fun i j h => absurd h (Nat.not_lt_zero i)) (lt v hS)
        rw [nI_1]
        exact ih (r + 1) v' v _ (by omega) hS' hb' hu' (by omega)
  refine b37.mpr (outer (aN a + 1) 0 m 0 none (by omega) ⟨fun _ h => h, fun _ h => Or.inl h⟩ (fun b h => ?_) (fun i j h => ?_) (Nat.zero_le _))
  · rw [mb_0] at h; cases h
  · rw [mb_0] at h; cases h
/-- the makers of a path as a mask -/
theorem mk_ok (hC : CShape σ) (hT : CTree σ X pa t) (hI : TInv t) (hI2 : AInv t a) (hp : p < tN t) (hP : ∀ v : Int64, (∀ b, mb v b = true ↔ mkr t p b) → P (some (.long v)) σ) : wpM 63 [.ref (pA pa p)] σ P := by
  have hmk : ∀ k, k < tN t → MkV (zfi σ 8 6 (pA pa k)) := by
    intro k hk
    rw [(hT.2.2 k hk).2.2.2.2.2.1]
    cases hm : tMk t k with
    | none => exact Or.inl rfl
    | some j =>
      have := (hI2.2.2.1 k j hk hm).1
      exact Or.inr ⟨j, by have := hI2.1; omega, rfl⟩
  obtain ⟨g0, g1, g2, g3, g4, g5, g6⟩ := hT.2.2 p hp
  refine makers_ok hC g0 g6 (fun f hf => ?_) (hmk p hp) (fun v hv => hP v (fun b => ?_))
  · obtain ⟨k, hk, rfl⟩ := List.mem_map.mp hf
    have hk' := ((mem_filesT hI).mp hk).1
    exact ⟨(hT.2.2 k hk').1, hmk k hk'⟩
  · rw [hv b]
    have one : ∀ k, k < tN t → b < 40 → (zfi σ 8 6 (pA pa k) = nI b ↔ tMk t k = some b) := by
      intro k hk hb
      rw [(hT.2.2 k hk).2.2.2.2.2.1]
      have := optI_eq (a := tMk t k) (b := some b) (hI.mk31 hI2 hk) (fun j hj => by cases hj; omega)
      exact this
    constructor
    · rintro ⟨hb, f, hf, hfe⟩
      rcases List.mem_cons.mp hf with q | q
      · subst q
        exact ⟨p, hp, (one p hp hb).mp hfe, Or.inl rfl⟩
      · obtain ⟨k, hk, rfl⟩ := List.mem_map.mp q
        obtain ⟨k1, k2, k3⟩ := (mem_filesT hI).mp hk
        exact ⟨k, k1, (one k k1 hb).mp hfe, Or.inr k2⟩
    · rintro ⟨o, h1, h2, h3⟩
      have hb : b < 40 := by have := (hI2.2.2.1 o b h1 h2).1; have := hI2.1; omega
      refine ⟨hb, pA pa o, ?_, (one o h1 hb).mpr h2⟩
      rcases h3 with rfl | h3
      · exact List.mem_cons_self
      · refine List.mem_cons_of_mem _ (List.mem_map.mpr ⟨o, (mem_filesT hI).mpr ⟨h1, h3, ?_⟩, rfl⟩)
        have := (hI2.2.2.1 o b h1 h2)
        exact ((hI2.2.1 b this.1).2.2.2.2.2.1 o this.2).2.1
theorem circI_ok (hC : CShape σ) (hX : zIs σ X 11) (hT : CTree σ X pa t) (hA : CAct σ X pa aa t a) (hI : TInv t) (hI2 : AInv t a) (hi : i < aN a) (hp : p < tN t) (hP : P (some (.int (b2I (pB (needP t a p i))))) σ) : wpM 38 [.ref (X + 13), .int (nI i), .ref (pA pa p)] σ P := by
  have h40 := hI2.1
  refine b38.mpr ⟨(hT.2.2 p hp).1, mk_ok hC hT hI hI2 hp (fun v hv => b38_5.mpr ⟨x_graph hC hX, ?_⟩)⟩
  refine wau_ok hC hX hA h40 (fun b hb => mkr_lt hI2 ((hv b).mp hb)) (fun v' hv' => b38_8.mpr (bit_ok (by omega) (b38_12.mpr ?_)))
  have e : mb v' i = true ↔ needP t a p i := by
    rw [hv' i, hv i]
    unfold needP
    constructor
    · rintro (q | ⟨k, q1, q2⟩)
      · exact Or.inl q
      · exact Or.inr ⟨k, (hv k).mp q1, q2⟩
    · rintro (q | ⟨k, q1, q2⟩)
      · exact Or.inl q
      · exact Or.inr ⟨k, (hv k).mpr q1, q2⟩
  by_cases h : needP t a p i
  · rw [pB_iff.mpr h] at hP
    refine ifn (fun q => ?_) (b38_18.mpr (b38_23.mpr ⟨Or.inr rfl, hP⟩))
    rw [lcmp0, and_bit (by omega)] at q
    rw [e.mpr h] at q; cases q
  · rw [pB_false.mpr h] at hP
    refine ifp ?_ (b38_22.mpr (b38_23.mpr ⟨Or.inl rfl, hP⟩))
    rw [lcmp0, and_bit (by omega)]
    cases q : mb v' i with
    | false => rfl
    | true => exact absurd (e.mp q) h
theorem hasIn_ok (hC : CShape σ) (hT : CTree σ X pa t) (hA : CActU σ X pa aa a u) (hI : TInv t) (hI2 : AInv t a) (hi : i < aN a) {o : Option Nat} (ho : ∀ k, o = some k → k < tN t) (hP : P (some (.int (if (∃ q, q ∈ aIns a i ∧ o = some q) then 1 else 0))) σ) : wpM 1 [.ref (pA aa i), .int (optI o)] σ P := by
  have hact := hA.2.2.2 i hi
  have hin := (hI2.2.1 i hi).2.1
  have h60 := hI.2.1
  have num : ∀ k, k < tN t → (zfi σ 8 0 (pA pa k) = optI o ↔ o = some k) := by
    intro k hk
    rw [(hT.2.2 k hk).2.1]
    have := optI_eq (a := some k) (b := o) (fun j hj => by cases hj; omega) (fun j hj => by have := ho j hj; omega)
    exact ⟨fun q => (this.mp q).symm, fun q => this.mpr q.symm⟩
  refine hasInput_ok hC hact.1 hact.2.1 (fun q hq => ?_) (fun r hr => ?_)
  · obtain ⟨k, hk, rfl⟩ := List.mem_map.mp hq
    exact (hT.2.2 k (hin k hk)).1
  · rcases hr with ⟨rfl, q, hq, he⟩ | ⟨rfl, h⟩
    · obtain ⟨k, hk, rfl⟩ := List.mem_map.mp hq
      rw [if_pos ⟨k, hk, (num k (hin k hk)).mp he⟩] at hP
      exact hP
    · rw [if_neg] at hP
      · exact hP
      · rintro ⟨k, hk, he⟩
        exact h (pA pa k) (List.mem_map.mpr ⟨k, hk, rfl⟩) ((num k (hin k hk)).mpr he)
theorem circO_ok (hC : CShape σ) (hX : zIs σ X 11) (hT : CTree σ X pa t) (hA : CAct σ X pa aa t a) (hI : TInv t) (hI2 : AInv t a) (hi : i < aN a) (hp : p < tN t) (hP : P (some (.int (b2I (pB (circO t a i p))))) σ) : wpM 39 [.ref (X + 13), .int (nI i), .ref (pA pa p)] σ P := by
  have h40 := hI2.1
  have hz := x_graph hC hX
  have hv := hA.1
  have hl := hA.2.1
  refine b39.mpr (bit_ok (by omega) (b39_5.mpr ⟨hz, wau_ok hC hX hA h40 (m := bitK i) (fun b hb => ?_) (fun v hvv => b39_8.mpr ?_)⟩))
  · rw [mb_bit (by omega), decide_eq_true_iff] at hb; omega
  have e : ∀ b, mb v b = true ↔ b = i ∨ rch t a i b := by
    intro b
    rw [hvv b, mb_bit (by omega), decide_eq_true_iff]
    constructor
    · rintro (q | ⟨k, q1, q2⟩)
      · exact Or.inl q
      · rw [mb_bit (by omega), decide_eq_true_iff] at q1
        subst q1; exact Or.inr q2
    · rintro (q | q)
      · exact Or.inl q
      · exact Or.inr ⟨i, by rw [mb_bit (by omega)]; exact decide_eq_true rfl, q⟩
  have par31 : ∀ k, tPar t p = some k → k < tN t := by
    intro k hk
    by_cases h0 : p = 0
    · subst h0; rw [hI.2.2.1.1] at hk; cases hk
    · obtain ⟨⟨q, q1, q2, _⟩, _⟩ := hI.2.2.2.1 p (by omega) hp
      rw [q2] at hk; cases hk; omega
  have key : ∀ c k, k + c = aN a → (∀ b, b < k → (b = i ∨ rch t a i b) → ¬ ∃ q, q ∈ aIns a b ∧ (q = p ∨ tPar t p = some q)) → wp 39 12 [some (.ref (X + 13)), some (.int (nI i)), some (.ref (pA pa p)), some (.long v), none, some (.int (nI k))] [] σ P := by
    intro c
    induction c with
    | zero =>
      intro k ek hn
      refine (b39_12 hC).mpr ⟨hz, size_ok hv (b39_21.mpr (ifp (by rw [hl]; exact nI_le (by omega) (by omega)) (b39_91.mpr ⟨Or.inl rfl, ?_⟩)))⟩
      rw [pB_false.mpr] at hP
      · exact hP
      · rintro ⟨b, h1, h2, h3⟩
        exact hn b (by omega) h2 h3
    | succ c ih =>
      intro k ek hn
      have hk : k < aN a := by omega
      have hka : k < aa.length := by omega
      refine (b39_12 hC).mpr ⟨hz, size_ok hv (b39_21.mpr (ifn (by rw [hl]; exact nI_ge (by omega) (by omega)) (b39_24.mpr (bit_ok (by omega) (b39_30.mpr ?_)))))⟩
      have nxt : (¬ ((k = i ∨ rch t a i k) ∧ ∃ q, q ∈ aIns a k ∧ (q = p ∨ tPar t p = some q))) → wp 39 85 [some (.ref (X + 13)), some (.int (nI i)), some (.ref (pA pa p)), some (.long v), none, some (.int (nI k))] [] σ P := by
        intro hh
        refine b39_85.mpr ?_
        rw [nI_1]
        refine ih (k + 1) (by omega) (fun b hb h2 h3 => ?_)
        by_cases q : b = k
        · subst q; exact hh ⟨h2, h3⟩
        · exact hn b (by omega) h2 h3
      have yes : (k = i ∨ rch t a i k) → (∃ q, q ∈ aIns a k ∧ (q = p ∨ tPar t p = some q)) → wp 39 83 [some (.ref (X + 13)), some (.int (nI i)), some (.ref (pA pa p)), some (.long v), none, some (.int (nI k))] [] σ P := by
        intro h2 h3
        rw [pB_iff.mpr ⟨k, hk, h2, h3⟩] at hP
        exact b39_83.mpr ⟨Or.inr rfl, hP⟩
      have hact := hA.2.2.2 k hk
      by_cases hkv : mb v k = true
      · refine ifp (fun q => ?_) ((b39_39 hC).mpr ⟨hz, get_ok hv hka (b39_48.mpr ?_)⟩)
        · rw [lcmp0, and_bit (by omega)] at q
          rw [q] at hkv; cases hkv
        rw [pA_elem hka, (hT.2.2 p hp).2.1]
        refine ⟨hact.1, (hT.2.2 p hp).1, hasIn_ok (o := some p) hC hT hA hI hI2 hk (fun j hj => by cases hj; exact hp) (b39_58.mpr ?_)⟩
        by_cases q1 : ∃ q, q ∈ aIns a k ∧ some p = some q
        · rw [if_pos q1]
          refine ifp (by decide) (yes ((e k).mp hkv) ?_)
          obtain ⟨q, h1, h2⟩ := q1
          exact ⟨q, h1, Or.inl (Option.some.inj h2).symm⟩
        · rw [if_neg q1]
          refine ifn (fun q => q rfl) ((b39_61 hC).mpr ⟨hz, get_ok hv hka (b39_70.mpr ?_)⟩)
          rw [pA_elem hka, (hT.2.2 p hp).2.2.1]
          refine ⟨hact.1, (hT.2.2 p hp).1, hasIn_ok hC hT hA hI hI2 hk par31 (b39_80.mpr ?_)⟩
          by_cases q2 : ∃ q, q ∈ aIns a k ∧ tPar t p = some q
          · rw [if_pos q2]
            refine ifn (by decide) (yes ((e k).mp hkv) ?_)
            obtain ⟨q, h1, h2⟩ := q2
            exact ⟨q, h1, Or.inr h2⟩
          · rw [if_neg q2]
            refine ifp rfl (nxt ?_)
            rintro ⟨-, q, h1, h2⟩
            rcases h2 with h2 | h2
            · exact q1 ⟨q, h1, by rw [h2]⟩
            · exact q2 ⟨q, h1, h2⟩
      · refine ifn (fun q => q ?_) (b39_36.mpr (nxt ?_))
        · rw [lcmp0, and_bit (by omega)]; simpa using hkv
        · rintro ⟨h2, -⟩
          exact hkv ((e k).mpr h2)
  exact key (aN a) 0 (Nat.zero_add _) (fun b h => absurd h (Nat.not_lt_zero b))
end GU
