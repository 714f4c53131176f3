/-! BLOCKS: what stands behind an object of each class; so addresses are apart -/
def kc (g : Nat × Nat × Nat) : Nat := g.1 * 100 + g.2.1
def L8 : List Nat := [108, 306, 113, 102, 201, 102, 201]
def L7 : List Nat := [107, 307, 102, 201, 102, 201, 102, 201]
def L9 : List Nat := [109, 102, 201]
def L0 : List Nat := [100, 113, 113, 204, 205, 308, 105, 202, 203, 105, 202, 203]
def L3 : List Nat := [103, 105, 202, 203, 107, 307, 102, 201, 102, 201, 102, 201]
def L6 : List Nat := [106, 309, 210, 210, 210, 210]
def LX : List Nat := [111, 110, 113, 108, 306, 113, 102, 201, 102, 201, 311, 102, 201, 104, 113, 101, 113, 113, 109, 102, 201, 106, 309, 210, 210, 210, 210, 105, 202, 203, 107, 307, 102, 201, 102, 201, 102, 201]
def BlkL (σ : zSt) (a : Nat) (L : List Nat) : Prop := ∀ o, o < L.length → kc (ztg σ (a + o)) = L.getD o 0
def ap (La Lb : List Nat) (i j : Nat) : Bool := (decide (i ≤ j) && La.getD 0 0 == Lb.getD (j - i) 0) || (decide (j < i) && Lb.getD 0 0 == La.getD (i - j) 0)
section AP
variable {σ : zSt} {a b c i j : Nat} {La Lb : List Nat}
theorem apart (ha : BlkL σ a La) (hb : BlkL σ b Lb) (hi : i < La.length) (hj : j < Lb.length) (h : a + i = b + j) : ap La Lb i j = true := by
  unfold ap
  by_cases g : i ≤ j
  · have e : a = b + (j - i) := by omega
    have h1 := ha 0 (by omega)
    have h2 := hb (j - i) (by omega)
    rw [Nat.add_zero, e, h2] at h1
    rw [h1, decide_eq_true g]; simp
  · have e : b = a + (i - j) := by omega
    have h1 := hb 0 (by omega)
    have h2 := ha (i - j) (by omega)
    rw [Nat.add_zero, e, h2] at h1
    rw [h1, decide_eq_true (show j < i by omega)]; simp
theorem kc_is (h : zIs σ a c) : kc (ztg σ a) = 100 + c := by unfold kc; rw [h.1, h.2]
theorem blk_cons {x : Nat} {L : List Nat} (h0 : kc (ztg σ a) = x) (h : BlkL σ (a + 1) L) : BlkL σ a (x :: L) := by
  intro o ho
  cases o with
  | zero => exact h0
  | succ o =>
    have := h o (by simpa using ho)
    rw [show a + (o + 1) = a + 1 + o by omega, this]; rfl
theorem blk_nil : BlkL σ a [] := fun o ho => absurd ho (Nat.not_lt_zero o)
theorem kc_of {x y z : Nat} (h : ztg σ a = (x, y, z)) : kc (ztg σ a) = x * 100 + y := by unfold kc; rw [h]
theorem blk_app {L L' : List Nat} (h : BlkL σ a L) (h' : BlkL σ (a + L.length) L') : BlkL σ a (L ++ L') := by
  intro o ho
  by_cases g : o < L.length
  · rw [h o g, List.getD_eq_getElem?_getD, List.getD_eq_getElem?_getD, List.getElem?_append_left g]
  · have := h' (o - L.length) (by rw [List.length_append] at ho; omega)
    rw [show a + o = a + L.length + (o - L.length) by omega, this, List.getD_eq_getElem?_getD, List.getD_eq_getElem?_getD, List.getElem?_append_right (by omega)]
theorem blk2 (hC : CShape σ) (h : zIs σ a 2) : BlkL σ a [102, 201] := blk_cons (kc_is h) (blk_cons (kc_of (cs_T hC le_2_0 h)) blk_nil)
theorem blk5 (hC : CShape σ) (h : zIs σ a 5) : BlkL σ a [105, 202, 203] := blk_cons (kc_is h) (blk_cons (kc_of (cs_T hC le_5_0 h)) (blk_cons (kc_of (cs_T hC le_5_1 h)) blk_nil))
theorem blk8 (hC : CShape σ) (h : zIs σ a 8) : BlkL σ a L8 := by
  have t := cs_T hC le_8_4 h
  have c : ∀ i, i < 2 → zIs σ (a + 1 + 2 + 2 * i) 2 := fun i hi => zIs_of (hC.2 _ la_6 _ t i hi).2
  exact blk_cons (kc_is h) (blk_cons (kc_of t) (blk_cons (kc_of (cs_T hC le_8_5 h)) (blk_app (blk2 hC (c 0 (by omega))) (blk2 hC (c 1 (by omega))))))
theorem blk7 (hC : CShape σ) (h : zIs σ a 7) : BlkL σ a L7 := by
  have t := cs_T hC le_7_0 h
  have c : ∀ i, i < 3 → zIs σ (a + 1 + 1 + 2 * i) 2 := fun i hi => zIs_of (hC.2 _ la_7 _ t i hi).2
  exact blk_cons (kc_is h) (blk_cons (kc_of t) (blk_app (blk2 hC (c 0 (by omega))) (blk_app (blk2 hC (c 1 (by omega))) (blk2 hC (c 2 (by omega))))))
theorem blk9 (hC : CShape σ) (h : zIs σ a 9) : BlkL σ a L9 := blk_cons (kc_is h) (blk2 hC (zIs_of (cs_T hC le_9_0 h)))
theorem blk0 (hC : CShape σ) (h : zIs σ a 0) : BlkL σ a L0 := by
  have t := cs_T hC le_0_4 h
  have c : ∀ i, i < 2 → zIs σ (a + 5 + 1 + 3 * i) 5 := fun i hi => zIs_of (hC.2 _ la_8 _ t i hi).2
  exact blk_cons (kc_is h) (blk_cons (kc_of (cs_T hC le_0_0 h)) (blk_cons (kc_of (cs_T hC le_0_1 h)) (blk_cons (kc_of (cs_T hC le_0_2 h)) (blk_cons (kc_of (cs_T hC le_0_3 h)) (blk_cons (kc_of t) (blk_app (blk5 hC (c 0 (by omega))) (blk5 hC (c 1 (by omega)))))))))
theorem blk3 (hC : CShape σ) (h : zIs σ a 3) : BlkL σ a L3 := blk_cons (kc_is h) (blk_app (blk5 hC (zIs_of (cs_T hC le_3_0 h))) (blk7 hC (zIs_of (cs_T hC le_3_1 h))))
theorem blk6 (hC : CShape σ) (h : zIs σ a 6) : BlkL σ a L6 := by
  have t := cs_T hC le_6_0 h
  have c : ∀ i, i < 4 → ztg σ (a + 1 + 1 + 1 * i) = (2, 10, 40) := fun i hi => (hC.2 _ la_9 _ t i hi).2
  exact blk_cons (kc_is h) (blk_cons (kc_of t) (blk_cons (kc_of (c 0 (by omega))) (blk_cons (kc_of (c 1 (by omega))) (blk_cons (kc_of (c 2 (by omega))) (blk_cons (kc_of (c 3 (by omega))) blk_nil)))))
/-- the class's own object, and what it made with it -/
def XOk (σ : zSt) (X : Nat) : Prop := zIs σ X 11 ∧ zIs σ (X + 3) 8 ∧ ztg σ (X + 10) = (3, 11, 10)
theorem blkX (hC : CShape σ) (h : XOk σ a) : BlkL σ a LX := by
  obtain ⟨h, h8, h12⟩ := h
  have k0 := zIs_of (cs_T hC le_11_0 h)
  have k4 := zIs_of (cs_T hC le_11_2 h)
  have k1 := zIs_of (cs_T hC le_11_3 h)
  refine blk_cons (kc_is h) (blk_cons (kc_is k0) (blk_cons (kc_of (cs_T hC le_10_0 k0)) (blk_app (blk8 hC h8) (blk_cons (kc_of h12) (blk_app (blk2 hC (zIs_of (cs_T hC le_11_1 h))) (blk_cons (kc_is k4) (blk_cons (kc_of (cs_T hC le_4_0 k4)) (blk_cons (kc_is k1) (blk_cons (kc_of (cs_T hC le_1_0 k1)) (blk_cons (kc_of (cs_T hC le_1_1 k1)) (blk_app (blk9 hC (zIs_of (cs_T hC le_11_4 h))) (blk_app (blk6 hC (zIs_of (cs_T hC le_11_5 h))) (blk_app (blk5 hC (zIs_of (cs_T hC le_11_6 h))) (blk7 hC (zIs_of (cs_T hC le_11_7 h))))))))))))))))
/-- the objects in whole -/
theorem x_tree (hC : CShape σ) (h : zIs σ a 11) : zIs σ (a + 1) 10 := zIs_of (cs_T hC le_11_0 h)
theorem x_tape (hC : CShape σ) (h : zIs σ a 11) : zIs σ (a + 11) 2 := zIs_of (cs_T hC le_11_1 h)
theorem x_graph (hC : CShape σ) (h : zIs σ a 11) : zIs σ (a + 13) 4 := zIs_of (cs_T hC le_11_2 h)
theorem x_cache (hC : CShape σ) (h : zIs σ a 11) : zIs σ (a + 15) 1 := zIs_of (cs_T hC le_11_3 h)
theorem x_runner (hC : CShape σ) (h : zIs σ a 11) : zIs σ (a + 18) 9 := zIs_of (cs_T hC le_11_4 h)
theorem x_log (hC : CShape σ) (h : zIs σ a 11) : zIs σ (a + 21) 6 := zIs_of (cs_T hC le_11_5 h)
theorem x_key (hC : CShape σ) (h : zIs σ a 11) : zIs σ (a + 27) 5 := zIs_of (cs_T hC le_11_6 h)
theorem x_trial (hC : CShape σ) (h : zIs σ a 11) : zIs σ (a + 30) 7 := zIs_of (cs_T hC le_11_7 h)
/-- contents -/
theorem pc_inj (hC : CShape σ) (h : zIs σ a 8) (h' : zIs σ b 8) (hi : i < 2) (hj : j < 2) (e : a + 3 + 2 * i = b + 3 + 2 * j) : a = b ∧ i = j := by
  have key : ∀ i, i < 2 → ∀ j, j < 2 → ap L8 L8 (3 + 2 * i) (3 + 2 * j) = true → i = j := by decide
  have q := key i hi j hj (apart (blk8 hC h) (blk8 hC h') (show 3 + 2 * i < 7 by omega) (show 3 + 2 * j < 7 by omega) (by omega))
  omega
theorem oc_inj (hC : CShape σ) (h : zIs σ a 7) (h' : zIs σ b 7) (hi : i < 3) (hj : j < 3) (e : a + 2 + 2 * i = b + 2 + 2 * j) : a = b ∧ i = j := by
  have key : ∀ i, i < 3 → ∀ j, j < 3 → ap L7 L7 (2 + 2 * i) (2 + 2 * j) = true → i = j := by decide
  have q := key i hi j hj (apart (blk7 hC h) (blk7 hC h') (show 2 + 2 * i < 8 by omega) (show 2 + 2 * j < 8 by omega) (by omega))
  omega
theorem pc_oc (hC : CShape σ) (h : zIs σ a 8) (h' : zIs σ b 7) (hi : i < 2) (hj : j < 3) : a + 3 + 2 * i ≠ b + 2 + 2 * j := by
  intro e
  have key : ∀ i, i < 2 → ∀ j, j < 3 → ¬ ap L8 L7 (3 + 2 * i) (2 + 2 * j) = true := by decide
  exact key i hi j hj (apart (blk8 hC h) (blk7 hC h') (show 3 + 2 * i < 7 by omega) (show 2 + 2 * j < 8 by omega) (by omega))
theorem pc_X (hC : CShape σ) (h : zIs σ a 8) (h' : XOk σ b) (hi : i < 2) : a + 3 + 2 * i ≠ b + 11 ∧ a + 3 + 2 * i ≠ b + 19 := by
  have key : ∀ i, i < 2 → ¬ ap L8 LX (3 + 2 * i) 11 = true ∧ ¬ ap L8 LX (3 + 2 * i) 19 = true := by decide
  exact ⟨fun e => (key i hi).1 (apart (blk8 hC h) (blkX hC h') (show 3 + 2 * i < 7 by omega) (show 11 < 38 by omega) (by omega)), fun e => (key i hi).2 (apart (blk8 hC h) (blkX hC h') (show 3 + 2 * i < 7 by omega) (show 19 < 38 by omega) (by omega))⟩
theorem oc_X (hC : CShape σ) (h : zIs σ a 7) (h' : XOk σ b) (hi : i < 3) : a + 2 + 2 * i ≠ b + 11 ∧ a + 2 + 2 * i ≠ b + 19 := by
  have key : ∀ i, i < 3 → ¬ ap L7 LX (2 + 2 * i) 11 = true ∧ ¬ ap L7 LX (2 + 2 * i) 19 = true := by decide
  exact ⟨fun e => (key i hi).1 (apart (blk7 hC h) (blkX hC h') (show 2 + 2 * i < 8 by omega) (show 11 < 38 by omega) (by omega)), fun e => (key i hi).2 (apart (blk7 hC h) (blkX hC h') (show 2 + 2 * i < 8 by omega) (show 19 < 38 by omega) (by omega))⟩
/-- an entry's outcome isn't the trial's -/
theorem en_X (hC : CShape σ) (h : zIs σ a 3) (h' : XOk σ b) : a + 4 ≠ b + 30 ∧ a + 1 ≠ b + 27 := by
  have k1 : ¬ ap L3 LX 4 30 = true := by decide
  have k2 : ¬ ap L3 LX 1 27 = true := by decide
  exact ⟨fun e => k1 (apart (blk3 hC h) (blkX hC h') (show 4 < 12 by omega) (show 30 < 38 by omega) e), fun e => k2 (apart (blk3 hC h) (blkX hC h') (show 1 < 12 by omega) (show 27 < 38 by omega) e)⟩
/-- keys -/
theorem ak_inj (hC : CShape σ) (h : zIs σ a 0) (h' : zIs σ b 0) (hi : i < 2) (hj : j < 2) (e : a + 6 + 3 * i = b + 6 + 3 * j) : a = b ∧ i = j := by
  have key : ∀ i, i < 2 → ∀ j, j < 2 → ap L0 L0 (6 + 3 * i) (6 + 3 * j) = true → i = j := by decide
  have q := key i hi j hj (apart (blk0 hC h) (blk0 hC h') (show 6 + 3 * i < 12 by omega) (show 6 + 3 * j < 12 by omega) (by omega))
  omega
theorem ak_ek (hC : CShape σ) (h : zIs σ a 0) (h' : zIs σ b 3) (hi : i < 2) : a + 6 + 3 * i ≠ b + 1 := by
  intro e
  have key : ∀ i, i < 2 → ¬ ap L0 L3 (6 + 3 * i) 1 = true := by decide
  exact key i hi (apart (blk0 hC h) (blk3 hC h') (show 6 + 3 * i < 12 by omega) (show 1 < 12 by omega) (by omega))
theorem ak_X (hC : CShape σ) (h : zIs σ a 0) (h' : XOk σ b) (hi : i < 2) : a + 6 + 3 * i ≠ b + 27 := by
  intro e
  have key : ∀ i, i < 2 → ¬ ap L0 LX (6 + 3 * i) 27 = true := by decide
  exact key i hi (apart (blk0 hC h) (blkX hC h') (show 6 + 3 * i < 12 by omega) (show 27 < 38 by omega) (by omega))
/-- lists -/
theorem pl_al (hC : CShape σ) (h : zIs σ a 8) (h' : zIs σ b 0) (hj : j = 1 ∨ j = 2) : a + 2 ≠ b + j := by
  intro e
  have k1 : ¬ ap L8 L0 2 1 = true := by decide
  have k2 : ¬ ap L8 L0 2 2 = true := by decide
  rcases hj with rfl | rfl
  · exact k1 (apart (blk8 hC h) (blk0 hC h') (show 2 < 7 by omega) (show 1 < 12 by omega) e)
  · exact k2 (apart (blk8 hC h) (blk0 hC h') (show 2 < 7 by omega) (show 2 < 12 by omega) e)
theorem al_inj (hC : CShape σ) (h : zIs σ a 0) (h' : zIs σ b 0) (hi : i = 1 ∨ i = 2) (hj : j = 1 ∨ j = 2) (e : a + i = b + j) : a = b ∧ i = j := by
  have k : ap L0 L0 i j = true := apart (blk0 hC h) (blk0 hC h') (show i < 12 by omega) (show j < 12 by omega) e
  have key : ∀ i, i < 3 → ∀ j, j < 3 → 1 ≤ i → 1 ≤ j → ap L0 L0 i j = true → i = j := by decide
  have := key i (by omega) j (by omega) (by omega) (by omega) k
  omega
theorem pl_X (hC : CShape σ) (h : zIs σ a 8) (h' : XOk σ b) (hj : j = 2 ∨ j = 14 ∨ j = 16 ∨ j = 17) : a + 2 ≠ b + j := by
  intro e
  have k : ap L8 LX 2 j = true := apart (blk8 hC h) (blkX hC h') (show 2 < 7 by omega) (show j < 38 by omega) e
  rcases hj with rfl | rfl | rfl | rfl <;> exact absurd k (by decide)
theorem al_X (hC : CShape σ) (h : zIs σ a 0) (h' : XOk σ b) (hi : i = 1 ∨ i = 2) (hj : j = 2 ∨ j = 14 ∨ j = 16 ∨ j = 17) : a + i ≠ b + j := by
  intro e
  have k : ap L0 LX i j = true := apart (blk0 hC h) (blkX hC h') (show i < 12 by omega) (show j < 38 by omega) e
  rcases hi with rfl | rfl <;> rcases hj with rfl | rfl | rfl | rfl <;> exact absurd k (by decide)
end AP
