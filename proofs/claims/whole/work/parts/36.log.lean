/-! THE LOG -/
def upG (σ : zSt) (F : Nat → Nat → Int32) (A : Nat → Nat → Int32) : zSt := zmk (ztg σ) (fun c k a => if c = 6 then F k a else zfi σ c k a) (zfl σ) (zfr σ) (fun t a i => if t = 10 then A a i else zai σ t a i) (zar σ) (znx σ) (zsl σ) (ze0 σ) (zmi σ)
section SG
variable {σ : zSt} {c d i k a : Nat} {v : Int32} {F F' A A' : Nat → Nat → Int32}
theorem G_sfi : sfi (upG σ F A) 6 k a v = upG σ (fun k' a' => if k' = k ∧ a' = a then v else F k' a') A := by
  unfold sfi upG
  congr 1
  funext x y z
  show (if _ then _ else (if _ then _ else _)) = (if _ then (if _ then _ else _) else _)
  by_cases h : x = 6
  · rw [if_pos h]
    by_cases h2 : y = k ∧ z = a
    · rw [if_pos ⟨h, h2⟩, if_pos h2, if_pos h]
    · rw [if_neg (fun q => h2 q.2), if_pos h, if_neg h2]
  · rw [if_neg (fun q => h q.1), if_neg h, if_neg h]
theorem G_sai : sai (upG σ F A) 10 a i v = upG σ F (fun a' i' => if a' = a ∧ i' = i then v else A a' i') := by
  unfold sai upG
  congr 1
  funext x y z
  show (if _ then _ else (if _ then _ else _)) = (if _ then (if _ then _ else _) else _)
  by_cases h : x = 10
  · rw [if_pos h]
    by_cases h2 : y = a ∧ z = i
    · rw [if_pos ⟨h, h2⟩, if_pos h2, if_pos h]
    · rw [if_neg (fun q => h2 q.2), if_pos h, if_neg h2]
  · rw [if_neg (fun q => h q.1), if_neg h, if_neg h]
theorem G_fi : zfi (upG σ F A) 6 k a = F k a := (if_pos rfl : (if 6 = 6 then F k a else zfi σ 6 k a) = F k a)
theorem G_self : upG σ (zfi σ 6) (zai σ 10) = σ := by
  have e1 : (fun c k a => if c = 6 then zfi σ 6 k a else zfi σ c k a) = zfi σ := by
    funext x y z
    by_cases h : x = 6
    · rw [if_pos h, h]
    · rw [if_neg h]
  have e2 : (fun t a i => if t = 10 then zai σ 10 a i else zai σ t a i) = zai σ := by
    funext x y z
    by_cases h : x = 10
    · rw [if_pos h, h]
    · rw [if_neg h]
  unfold upG
  rw [e1, e2]
  rfl
theorem G_G : upG (upG σ F A) F' A' = upG σ F' A' := by
  unfold upG
  congr 1
  · funext x y z
    show (if _ then _ else (if _ then _ else _)) = (if _ then _ else _)
    by_cases h : x = 6
    · rw [if_pos h, if_pos h]
    · rw [if_neg h, if_neg h, if_neg h]
  · funext x y z
    show (if _ then _ else (if _ then _ else _)) = (if _ then _ else _)
    by_cases h : x = 10
    · rw [if_pos h, if_pos h]
    · rw [if_neg h, if_neg h, if_neg h]
end SG
/-- the rows of the log, and its counts -/
def LogF (g : Nat) (F A : Nat → Nat → Int32) (ds : List (Int32 × Int32 × Int32 × Int32)) (ran found builds : Int32) : Prop :=
  F 1 g = nI ds.length ∧ ds.length ≤ 40 ∧ F 2 g = ran ∧ F 3 g = found ∧ F 4 g = builds ∧ ∀ i, i < ds.length → ds[i]? = some (A (g + 2) i, A (g + 3) i, A (g + 4) i, A (g + 5) i)
def LogV (σ : zSt) (g : Nat) (ds : List (Int32 × Int32 × Int32 × Int32)) (ran found builds : Int32) : Prop := zIs σ g 6 ∧ LogF g (zfi σ 6) (zai σ 10) ds ran found builds
def toG (σ τ : zSt) (g : Nat) (ds : List (Int32 × Int32 × Int32 × Int32)) (ran found builds : Int32) : Prop := ∃ F A, τ = upG σ F A ∧ LogF g F A ds ran found builds
theorem zIn_lit {k n : Nat} (h : k < n) (hn : n < 2 ^ 31) {x : Int32} (e : nI k = x) : zIn x n := by rw [← e]; exact nI_in h hn
section LGM
variable {σ : zSt} {P : Option Value → zSt → Prop} {g : Nat} {ds : List (Int32 × Int32 × Int32 × Int32)} {ran found builds x1 x2 x3 x4 : Int32}
theorem logReset_ok (hz : zIs σ g 6) (hP : ∀ τ, toG σ τ g [] 0 0 0 → P none τ) : wpM 53 [.ref g] σ P := by
  refine b53.mpr ⟨hz, hP _ ⟨fun k a => zfi (sfi (sfi (sfi (sfi σ 6 1 g 0) 6 2 g 0) 6 3 g 0) 6 4 g 0) 6 k a, zai σ 10, ?_, ?_⟩⟩
  · conv => lhs; rw [← G_self (σ := σ)]
    rw [G_sfi, G_sfi, G_sfi, G_sfi]
    congr 1
    funext k a
    conv => rhs; rw [← G_self (σ := σ)]
    rw [G_sfi, G_sfi, G_sfi, G_sfi]
    rfl
  · refine ⟨?_, by simp, ?_, ?_, ?_, fun i h => absurd h (Nat.not_lt_zero i)⟩ <;> simp [sfi, up3, zfi, zmk] <;> rfl
theorem logBegin_ok (h : LogV σ g ds ran found builds) (hP : ∀ τ, toG σ τ g [] ran found (builds + 1) → P none τ) : wpM 54 [.ref g] σ P := by
  obtain ⟨hz, h1, h2, h3, h4, h5, h6⟩ := h
  refine b54.mpr ⟨hz, ?_⟩
  rw [h5]
  conv => arg 2; rw [← G_self (σ := σ)]
  rw [G_sfi, G_sfi]
  refine hP _ ⟨_, _, rfl, ?_, by simp, ?_, ?_, ?_, fun i h => absurd h (Nat.not_lt_zero i)⟩
  · simp; rfl
  · simpa using h3
  · simpa using h4
  · simp
theorem logAdd_ok (hC : CShape σ) (h : LogV σ g ds ran found builds) (hl : ds.length < 40) (h2 : x2 = 0 ∨ x2 = 1) (hP : ∀ τ, toG σ τ g (ds ++ [(x1, x2, x3, x4)]) (if x2 = 0 then ran else ran + 1) (if x2 = 0 then found + 1 else found) builds → P none τ) : wpM 55 [.ref g, .int x1, .int x2, .int x3, .int x4] σ P := by
  obtain ⟨hz, hn, h40, hr, hf, hb, he⟩ := h
  have htag : ∀ r, r < 4 → ztg σ (g + 2 + r) = (2, 10, 40) := by
    intro r hr
    have t0 : ztg σ (g + 1) = (3, 9, 4) := (hC.1 _ le_6_0 g hz).2
    have := (hC.2 _ la_9 (g + 1) t0 r hr).2
    rw [show g + 2 + r = g + 1 + 1 + 1 * r by omega]; exact this
  refine b55.mpr ⟨hz, ifp (by rw [hn]; exact nI_lt (b := 40) hl (by omega)) ?_⟩
  refine (b55_10 hC).mpr ⟨hz, zIn_lit (k := 0) (by omega) (by omega) rfl, by rw [hn]; exact nI_in hl (by omega), zIn_lit (k := 1) (by omega) (by omega) rfl, ?_⟩
  rw [hn, nI_clamp (by omega), show g + 1 + 1 + 1 * (0 : Int32).toNatClampNeg = g + 2 from rfl, show g + 1 + 1 + 1 * (1 : Int32).toNatClampNeg = g + 3 from rfl]
  have fin : ∀ τ, toG σ τ g (ds ++ [(x1, x2, x3, x4)]) (if x2 = 0 then ran else ran + 1) (if x2 = 0 then found + 1 else found) builds → wp 55 104 [some (.ref g), some (.int x1), some (.int x2), some (.int x3), some (.int x4)] [] τ P := fun τ h => b55_104.mpr (hP τ h)
  have mid : wp 55 41 [some (.ref g), some (.int x1), some (.int x2), some (.int x3), some (.int x4)] [.int x2, .int (nI ds.length), .ref (g + 3)] (sai σ 10 (g + 2) ds.length x1) P := by
    refine (b55_41 (σ := sai σ 10 (g + 2) ds.length x1) hC (htag 1 (by omega))).mpr ?_
    have e1 : zfi (sai σ 10 (g + 2) ds.length x1) 6 1 g = nI ds.length := hn
    rw [e1, nI_clamp (by omega), show g + 1 + 1 + 1 * (2 : Int32).toNatClampNeg = g + 4 from rfl, show g + 1 + 1 + 1 * (3 : Int32).toNatClampNeg = g + 5 from rfl, nI_1]
    refine ⟨nI_in hl (by omega), hz, zIn_lit (k := 2) (by omega) (by omega) rfl, nI_in hl (by omega), zIn_lit (k := 3) (by omega) (by omega) rfl, nI_in hl (by omega), ?_⟩
    have e2 : sfi (sai (sai (sai (sai σ 10 (g + 2) ds.length x1) 10 (g + 3) ds.length x2) 10 (g + 4) ds.length x3) 10 (g + 5) ds.length x4) 6 1 g (nI (ds.length + 1)) = upG σ (fun k a => if k = 1 ∧ a = g then nI (ds.length + 1) else zfi σ 6 k a) (fun a i => if a = g + 5 ∧ i = ds.length then x4 else if a = g + 4 ∧ i = ds.length then x3 else if a = g + 3 ∧ i = ds.length then x2 else if a = g + 2 ∧ i = ds.length then x1 else zai σ 10 a i) := by
      conv => lhs; rw [← G_self (σ := σ)]
      rw [G_sai, G_sai, G_sai, G_sai, G_sfi]
    rw [e2]
    have rows : ∀ i, i < (ds ++ [(x1, x2, x3, x4)]).length → ∀ A, A = (fun a i => if a = g + 5 ∧ i = ds.length then x4 else if a = g + 4 ∧ i = ds.length then x3 else if a = g + 3 ∧ i = ds.length then x2 else if a = g + 2 ∧ i = ds.length then x1 else zai σ 10 a i) → (ds ++ [(x1, x2, x3, x4)])[i]? = some (A (g + 2) i, A (g + 3) i, A (g + 4) i, A (g + 5) i) := by
      intro i hi A hA
      subst hA
      by_cases w : i = ds.length
      · subst w; simp
      · have hi' : i < ds.length := by simp at hi; omega
        rw [List.getElem?_append_left hi', he i hi']
        simp [w]
    rcases h2 with h2 | h2
    · subst h2
      refine ifp rfl (b55_94.mpr ⟨hz, ?_⟩)
      rw [G_sfi]
      refine fin _ ⟨_, _, rfl, ?_, by simp; omega, ?_, ?_, ?_, fun i hi => rows i hi _ rfl⟩
      · simp
      · simpa using hr
      · simp [G_fi, hf]
      · simpa using hb
    · subst h2
      refine ifn (by decide) (b55_81.mpr ⟨hz, ?_⟩)
      rw [G_sfi]
      refine fin _ ⟨_, _, rfl, ?_, by simp; omega, ?_, ?_, ?_, fun i hi => rows i hi _ rfl⟩
      · simp
      · simp [G_fi, hr]
      · simpa using hf
      · simpa using hb
  rcases h2 with h2 | h2
  · subst h2
    exact ifp rfl ((b55_40 (σ := sai σ 10 (g + 2) ds.length x1) (htag 1 (by omega))).mpr mid)
  · subst h2
    exact ifn (by decide) ((b55_36 (σ := sai σ 10 (g + 2) ds.length x1) (htag 1 (by omega))).mpr mid)
end LGM
