/-! THE CLASS'S OBJECT holds a state -/
def b2I (b : Bool) : Int32 := if b = true then 1 else 0
def pA (pa : List Nat) (p : Nat) : Nat := pa.getD p 0
def PathI (σ : zSt) (pa : List Nat) (t : TreT) (p a : Nat) : Prop := zIs σ a 8 ∧ zfi σ 8 0 a = nI p ∧ zfi σ 8 1 a = optI (tPar t p) ∧ zfi σ 8 2 a = nI (tNam t p) ∧ zfi σ 8 3 a = b2I (tDir t p) ∧ zfi σ 8 6 a = optI (tMk t p) ∧ LVal σ (a + 2) ((filesT t p).map (pA pa))
def CTree (σ : zSt) (X : Nat) (pa : List Nat) (t : TreT) : Prop := LVal σ (X + 2) pa ∧ pa.length = tN t ∧ ∀ p, p < tN t → PathI σ pa t p (pA pa p)
def CCon (σ : zSt) (pa : List Nat) (n : Nat) (c : Nat → Nat → Con) : Prop := ∀ s p, s < 2 → p < n → Cnt σ (pA pa p + 3 + 2 * s) (c s p)
def ActU (σ : zSt) (pa : List Nat) (a : ActT) (i q : Nat) (u : Nat → Nat → Bool) : Prop := zIs σ q 0 ∧ LVal σ (q + 1) ((aIns a i).map (pA pa)) ∧ LVal σ (q + 2) ((aOut a i).map (pA pa)) ∧ zfi σ 0 5 q = nI (aSt a i).length ∧ (∀ j, j < (aSt a i).length → (stI (aSt a i))[j]? = some (zai σ 4 (q + 3) j, zai σ 5 (q + 4) j)) ∧ ∀ b, mb (zfl σ 0 6 q) b = true ↔ b < aN a ∧ u i b = true
def ActI (σ : zSt) (pa : List Nat) (t : TreT) (a : ActT) (i q : Nat) : Prop := ActU σ pa a i q (usesT t a)
/-- all actions, with what each is told to use -/
def CActU (σ : zSt) (X : Nat) (pa aa : List Nat) (a : ActT) (u : Nat → Nat → Bool) : Prop := LVal σ (X + 14) aa ∧ aa.length = aN a ∧ aa.Nodup ∧ ∀ i, i < aN a → ActU σ pa a i (pA aa i) u
def CAct (σ : zSt) (X : Nat) (pa aa : List Nat) (t : TreT) (a : ActT) : Prop := CActU σ X pa aa a (usesT t a)
def wasL : Option KeyT → List Int32
  | none => []
  | some k => flatK k
def CWas (σ : zSt) (aa : List Nat) (n : Nat) (was : Nat → Nat → Option KeyT) : Prop := ∀ s i, s < 2 → i < n → Ky σ (pA aa i + 6 + 3 * s) (wasL (was s i))
/-- an outcome -/
def OutI (σ : zSt) (o n f : Nat) (out : Nat → Con) : Prop := zIs σ o 7 ∧ zfi σ 7 1 o = nI n ∧ zfi σ 7 2 o = nI f ∧ ∀ k, k < 3 → Cnt σ (o + 2 + 2 * k) (out k)
def EntI (σ : zSt) (q : Nat) (e : EntT) : Prop := zIs σ q 3 ∧ Ky σ (q + 1) (eKey e) ∧ OutI σ (q + 4) (eN e) (eFail e) (eOut e) ∧ zfl σ 3 2 q = signL (eKey e) ∧ zfi σ 3 3 q = eFnd e
/-- the cache's row: addresses and what stands there -/
def RowI (σ : zSt) (ea : List Nat) (es : List EntT) : Prop := ∃ pe : List (Nat × EntT), ea = pe.map (·.1) ∧ es = pe.map (·.2) ∧ ∀ p ∈ pe, EntI σ p.1 p.2
def CCac (σ : zSt) (X : Nat) (ea sa : List Nat) (K : CacT) : Prop := LVal σ (X + 16) ea ∧ LVal σ (X + 17) sa ∧ (ea ++ sa).Nodup ∧ (ea ++ sa).length ≤ 101 ∧ (∀ e ∈ sa, zIs σ e 3) ∧ RowI σ ea K.2.1 ∧ zfi σ 1 2 (X + 15) = nI K.1 ∧ zfi σ 1 3 (X + 15) = nI (sizesW K.2.1) ∧ zfi σ 1 4 (X + 15) = K.2.2
def CLog (σ : zSt) (X : Nat) (L : LogT) : Prop := LogV σ (X + 21) L.1 L.2.1 L.2.2.1 L.2.2.2
def con3 (c : Nat → Nat → Con) (z : Nat → Con) : Nat → Nat → Con := fun s p => if s = 2 then z p else c s p
/-- while the graph is being changed: what each action is told to use may be old -/
def ClsU (σ : zSt) (X : Nat) (pa aa ea sa : List Nat) (z : Nat → Con) (w : WT) (u : Nat → Nat → Bool) : Prop :=
  HI σ ∧ XOk σ X ∧ CTree σ X pa (wT w) ∧ CCon σ pa (tN (wT w)) (con3 (wC w) z) ∧ Cnt σ (X + 11) (some (wP w)) ∧ CActU σ X pa aa (wA w) u ∧ CWas σ aa (aN (wA w)) (wW w) ∧ CCac σ X ea sa (wK w) ∧ CLog σ X (wL w)
def ClsG (σ : zSt) (X : Nat) (pa aa ea sa : List Nat) (z : Nat → Con) (w : WT) : Prop := ClsU σ X pa aa ea sa z w (usesT (wT w) (wA w))
/-- room: cells and slots, with those that entries and the cache's lists may still take; n: how many entries there are -/
def RmN (σ : zSt) (X : Nat) (n N M : Nat) : Prop := capOf σ (X + 16) ≤ 1000 ∧ capOf σ (X + 17) ≤ 1000 ∧ znx σ + 12 * (101 - n) + (1000 - capOf σ (X + 16)) + (1000 - capOf σ (X + 17)) ≤ N ∧ zsl σ + 700 * (101 - n) + 4 * (1000 - capOf σ (X + 16)) + 4 * (1000 - capOf σ (X + 17)) ≤ M
def Rm (σ : zSt) (X : Nat) (ea sa : List Nat) (N M : Nat) : Prop := RmN σ X (ea ++ sa).length N M
def Cls (σ : zSt) (X : Nat) (w : WT) (N M : Nat) : Prop := ∃ pa aa ea sa z, ClsG σ X pa aa ea sa z w ∧ Rm σ X ea sa N M
section CLS
variable {σ τ : zSt} {X : Nat} {pa aa ea sa : List Nat} {z : Nat → Con} {w : WT} {t : TreT} {a : ActT} {c : Nat → Nat → Con} {was : Nat → Nat → Option KeyT} {K : CacT} {L : LogT} {Cs Ks Ls : Nat → Prop} {Fs : Nat → Nat → Nat → Prop} {p q i j n s : Nat}
theorem pA_get (h : p < pa.length) : pa[p]? = some (pA pa p) := by
  unfold pA; rw [List.getD_eq_getElem?_getD, List.getElem?_eq_getElem h]; rfl
theorem pA_elem (h : p < pa.length) : pa[p] = pA pa p := by
  have := pA_get h
  rw [List.getElem?_eq_getElem h] at this
  exact Option.some.inj this
theorem pA_mem (h : p < pa.length) : pA pa p ∈ pa := List.mem_of_getElem? (pA_get h)
theorem pA_nodup (hn : aa.Nodup) (hp : p < aa.length) (hq : q < aa.length) (e : pA aa p = pA aa q) : p = q := by
  have h1 := pA_elem hp
  have h2 := pA_elem hq
  exact (List.getElem_inj hn).mp (by rw [h1, h2, e])
theorem tree_inj (h : CTree σ X pa t) (hT : tN t ≤ 60) (hp : p < tN t) (hq : q < tN t) (e : pA pa p = pA pa q) : p = q := by
  have h1 := (h.2.2 p hp).2.1
  have h2 := (h.2.2 q hq).2.1
  rw [e, h2] at h1
  exact ((nI_eq (by omega) (by omega)).mp h1).symm
/-- what stays, part by part -/
theorem CTree_fr (h : CTree σ X pa t) (hF : Fr σ τ Cs Ks Ls Fs) (h1 : ¬ Ls (X + 2)) (h2 : ∀ p, p < tN t → ¬ Ls (pA pa p + 2)) (h3 : ∀ p k, p < tN t → ¬ Fs 8 k (pA pa p)) : CTree τ X pa t := by
  refine ⟨hF.lst h1 h.1, h.2.1, fun p hp => ?_⟩
  obtain ⟨g0, g1, g2, g3, g4, g5, g6⟩ := h.2.2 p hp
  refine ⟨hF.is g0, ?_, ?_, ?_, ?_, ?_, hF.lst (h2 p hp) g6⟩ <;> rw [hF.fi rfl g0 (h3 p _ hp)] <;> assumption
theorem CCon_fr (h : CCon σ pa n c) (hF : Fr σ τ Cs Ks Ls Fs) (hC : CShape σ) (h1 : ∀ s p, s < 2 → p < n → ¬ Cs (pA pa p + 3 + 2 * s)) : CCon τ pa n c := fun s p hs hp => hF.cnt hC (h1 s p hs hp) (h s p hs hp)
theorem CActU_fr {u : Nat → Nat → Bool} (h : CActU σ X pa aa a u) (hF : Fr σ τ Cs Ks Ls Fs) (hC : CShape σ) (h1 : ¬ Ls (X + 14)) (h2 : ∀ i, i < aN a → ¬ Ls (pA aa i + 1) ∧ ¬ Ls (pA aa i + 2)) (h3 : ∀ i k, i < aN a → ¬ Fs 0 k (pA aa i) ∧ ¬ Fs 104 k (pA aa i + 3) ∧ ¬ Fs 105 k (pA aa i + 4)) : CActU τ X pa aa a u := by
  refine ⟨hF.lst h1 h.1, h.2.1, h.2.2.1, fun i hi => ?_⟩
  obtain ⟨g0, g1, g2, g3, g4, g5⟩ := h.2.2.2 i hi
  refine ⟨hF.is g0, hF.lst (h2 i hi).1 g1, hF.lst (h2 i hi).2 g2, ?_, fun j hj => ?_, fun b => ?_⟩
  · rw [hF.fi rfl g0 (h3 i _ hi).1]; exact g3
  · rw [hF.ai (t := 4) (Or.inl rfl) (cs_T hC le_0_2 g0) (h3 i j hi).2.1, hF.ai (t := 5) (Or.inr rfl) (cs_T hC le_0_3 g0) (h3 i j hi).2.2]; exact g4 j hj
  · rw [hF.fl rfl g0 (h3 i _ hi).1]; exact g5 b
theorem CAct_fr (h : CAct σ X pa aa t a) (hF : Fr σ τ Cs Ks Ls Fs) (hC : CShape σ) (h1 : ¬ Ls (X + 14)) (h2 : ∀ i, i < aN a → ¬ Ls (pA aa i + 1) ∧ ¬ Ls (pA aa i + 2)) (h3 : ∀ i k, i < aN a → ¬ Fs 0 k (pA aa i) ∧ ¬ Fs 104 k (pA aa i + 3) ∧ ¬ Fs 105 k (pA aa i + 4)) : CAct τ X pa aa t a := CActU_fr h hF hC h1 h2 h3
theorem CWas_fr (h : CWas σ aa n was) (hF : Fr σ τ Cs Ks Ls Fs) (hC : CShape σ) (h1 : ∀ s i, s < 2 → i < n → ¬ Ks (pA aa i + 6 + 3 * s)) : CWas τ aa n was := fun s i hs hi => hF.ky hC (h1 s i hs hi) (h s i hs hi)
theorem OutI_fr {o f : Nat} {out : Nat → Con} (h : OutI σ o n f out) (hF : Fr σ τ Cs Ks Ls Fs) (hC : CShape σ) (h1 : ∀ k, k < 3 → ¬ Cs (o + 2 + 2 * k)) (h2 : ∀ k, ¬ Fs 7 k o) : OutI τ o n f out := by
  obtain ⟨g0, g1, g2, g3⟩ := h
  refine ⟨hF.is g0, by rw [hF.fi rfl g0 (h2 _)]; exact g1, by rw [hF.fi rfl g0 (h2 _)]; exact g2, fun k hk => hF.cnt hC (h1 k hk) (g3 k hk)⟩
theorem EntI_fr {e : EntT} (h : EntI σ q e) (hF : Fr σ τ Cs Ks Ls Fs) (hC : CShape σ) (h1 : ∀ k, k < 3 → ¬ Cs (q + 4 + 2 + 2 * k)) (h2 : ∀ k, ¬ Fs 7 k (q + 4)) (h3 : ¬ Ks (q + 1)) (h4 : ∀ k, ¬ Fs 3 k q) : EntI τ q e := by
  obtain ⟨g0, g1, g2, g3, g4⟩ := h
  exact ⟨hF.is g0, hF.ky hC h3 g1, OutI_fr g2 hF hC h1 h2, by rw [hF.fl rfl g0 (h4 _)]; exact g3, by rw [hF.fi rfl g0 (h4 _)]; exact g4⟩
theorem RowI_fr {es : List EntT} (h : RowI σ ea es) (hF : Fr σ τ Cs Ks Ls Fs) (hC : CShape σ) (h4 : ∀ q, q ∈ ea → (∀ k, k < 3 → ¬ Cs (q + 4 + 2 + 2 * k)) ∧ (∀ k, ¬ Fs 7 k (q + 4)) ∧ ¬ Ks (q + 1) ∧ ∀ k, ¬ Fs 3 k q) : RowI τ ea es := by
  obtain ⟨pe, e1, e2, h⟩ := h
  refine ⟨pe, e1, e2, fun p hp => ?_⟩
  obtain ⟨k1, k2, k3, k4⟩ := h4 p.1 (by rw [e1]; exact List.mem_map.mpr ⟨p, hp, rfl⟩)
  exact EntI_fr (h p hp) hF hC k1 k2 k3 k4
theorem CCac_fr (h : CCac σ X ea sa K) (hF : Fr σ τ Cs Ks Ls Fs) (hC : CShape σ) (hX : zIs σ (X + 15) 1) (h1 : ¬ Ls (X + 16)) (h2 : ¬ Ls (X + 17)) (h3 : ∀ k, ¬ Fs 1 k (X + 15)) (h4 : ∀ q, q ∈ ea → (∀ k, k < 3 → ¬ Cs (q + 4 + 2 + 2 * k)) ∧ (∀ k, ¬ Fs 7 k (q + 4)) ∧ ¬ Ks (q + 1) ∧ ∀ k, ¬ Fs 3 k q) : CCac τ X ea sa K := by
  obtain ⟨g0, g1, g2, g3, g4, g6, g7, g8, g9⟩ := h
  refine ⟨hF.lst h1 g0, hF.lst h2 g1, g2, g3, fun e he => hF.is (g4 e he), RowI_fr g6 hF hC h4, ?_, ?_, ?_⟩
  all_goals rw [hF.fi rfl hX (h3 _)]; assumption
theorem XOk_fr (h : XOk σ X) (hF : Fr σ τ Cs Ks Ls Fs) : XOk τ X := by
  refine ⟨hF.is h.1, hF.is h.2.1, ?_⟩
  rw [hF.1 (X + 10) (by rw [h.2.2]; exact Nat.succ_ne_zero 2)]
  exact h.2.2
theorem Rm_na {N M : Nat} (h : Rm σ X ea sa N M) (h1 : capOf τ (X + 16) = capOf σ (X + 16)) (h2 : capOf τ (X + 17) = capOf σ (X + 17)) (h3 : NA σ τ) : Rm τ X ea sa N M := by
  unfold Rm RmN; rw [h1, h2, h3.1, h3.2]; exact h
theorem Rm_mono {N M N' M' : Nat} (h : Rm σ X ea sa N M) (h1 : N ≤ N') (h2 : M ≤ M') : Rm σ X ea sa N' M' := by
  unfold Rm RmN at *; omega
theorem Cls_mono {N M N' M' : Nat} (h : Cls σ X w N M) (h1 : N ≤ N') (h2 : M ≤ M') : Cls σ X w N' M' := by
  obtain ⟨pa, aa, ea, sa, z, h, h'⟩ := h
  exact ⟨pa, aa, ea, sa, z, h, Rm_mono h' h1 h2⟩
end CLS
