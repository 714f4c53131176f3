/-! THE REFERENCE: one object and its arrays, as two functions: what its numbers are, what its arrays hold -/
def rIxL : List Nat := [0, 0, 1, 2, 3, 4, 5, 6, 0, 0, 7, 8, 9, 10, 11, 12, 13, 14, 15, 16, 0, 0, 17, 18, 19, 20, 21, 22, 23, 24, 25, 26, 0, 27, 28, 29, 30, 0, 0, 0, 0, 31, 32, 0, 33, 34, 0, 35, 0, 0, 36, 37, 38, 39]
def rLnL : List Nat := [0, 60, 60, 60, 60, 180, 11520, 64, 0, 0, 240, 40, 120, 40, 640, 640, 40, 80, 34000, 560, 0, 0, 101, 101, 42925, 101, 101, 101, 101, 101, 303, 19392, 0, 40, 40, 40, 40, 0, 0, 0, 0, 40, 425, 0, 7, 26, 0, 64, 0, 0, 3, 192, 40, 40]
def rad (o t : Nat) : Nat := o + 1 + rIxL.getD (t - 20) 0
def rlen (t : Nat) : Nat := rLnL.getD (t - 20) 0
def rOk (t : Nat) : Bool := decide (20 ≤ t) && (decide (t < 74) && (fTy 12 (t - 20) == 2))
theorem rad_inj {o t u : Nat} (ht : rOk t = true) (hu : rOk u = true) (h : rad o t = rad o u) : t = u := by
  have key : ∀ a, a < 74 → ∀ b, b < 74 → rOk a = true → rOk b = true → rIxL.getD (a - 20) 0 = rIxL.getD (b - 20) 0 → a = b := by decide +kernel
  have h1 : t < 74 := by simp [rOk] at ht; omega
  have h2 : u < 74 := by simp [rOk] at hu; omega
  exact key t h1 u h2 ht hu (by unfold rad at h; omega)
theorem rad_gt (o t : Nat) : o < rad o t := by unfold rad; omega
def RShape (σ : zSt) (o : Nat) : Prop := ztg σ o = (1, 12, 0) ∧ ∀ t, rOk t = true → zfr σ 12 (t - 20) o = some (rad o t) ∧ ztg σ (rad o t) = (2, t, rlen t)
def rOv (σ : zSt) (o : Nat) (sc : Nat → Int32) (ar : Nat → Nat → Int32) : zSt := zmk (ztg σ) (fun c k a => if c = 12 ∧ a = o then sc k else zfi σ c k a) (zfl σ) (zfr σ) (fun t a i => if rOk t = true ∧ a = rad o t then ar t i else zai σ t a i) (zar σ) (znx σ) (zsl σ) (ze0 σ) (zmi σ)
def upS (sc : Nat → Int32) (k : Nat) (v : Int32) : Nat → Int32 := fun j => if j = k then v else sc j
def upA (ar : Nat → Nat → Int32) (t i : Nat) (v : Int32) : Nat → Nat → Int32 := fun u j => if u = t ∧ j = i then v else ar u j
def zIn (i : Int32) (n : Nat) : Prop := ¬ (i < 0 ∨ n ≤ i.toNatClampNeg)
theorem rOv_self (σ : zSt) (o : Nat) : rOv σ o (fun k => zfi σ 12 k o) (fun t => zai σ t (rad o t)) = σ := by
  have e1 : (fun c k a => if c = 12 ∧ a = o then zfi σ 12 k o else zfi σ c k a) = zfi σ := by
    funext c k a
    by_cases h : c = 12 ∧ a = o
    · rw [if_pos h, h.1, h.2]
    · rw [if_neg h]
  have e2 : (fun t a i => if rOk t = true ∧ a = rad o t then zai σ t (rad o t) i else zai σ t a i) = zai σ := by
    funext t a i
    by_cases h : rOk t = true ∧ a = rad o t
    · rw [if_pos h, h.2]
    · rw [if_neg h]
  unfold rOv
  rw [e1, e2]
  rfl
theorem upS_same {sc : Nat → Int32} {k : Nat} {v : Int32} : upS sc k v k = v := if_pos rfl
theorem upS_ne {sc : Nat → Int32} {k j : Nat} {v : Int32} (h : j ≠ k) : upS sc k v j = sc j := if_neg h
theorem zcode_of {m pc : Nat} {l : List zE} {r : Instr × Nat × Nat × Int} (h : mCode m = l) (hf : zFind l pc = some r) : zcode m pc = some r := by
  unfold zcode; rw [h]; exact hf
section RR
variable {m pc x y o t : Nat} {z : Int} {i : Instr} {L : List (Option Value)} {S : List Value} {σ : zSt} {P : Option Value → zSt → Prop} {sc : Nat → Int32} {ar : Nat → Nat → Int32}
theorem RShape.tg (hR : RShape σ o) : (ztg (rOv σ o sc ar) o).1 = 1 ∧ (ztg (rOv σ o sc ar) o).2.1 = 12 := by
  have h : ztg (rOv σ o sc ar) o = (1, 12, 0) := hR.1
  rw [h]; exact ⟨rfl, rfl⟩
theorem wr_getI {n' : Nat} (hn : pc + 3 = n') (hR : RShape σ o) {k : Nat} (hc : zcode m pc = some (.getfield x, 12, k, z)) (hk : fTy 12 k = 0) : wp m pc L (.ref o :: S) (rOv σ o sc ar) P ↔ wp m n' L (.int (sc k) :: S) (rOv σ o sc ar) P := by
  subst hn
  refine wp_step (q := (pc + 3, L, .int (sc k) :: S, rOv σ o sc ar)) hc rfl ?_
  show zGet 12 k pc L (.ref o :: S) (rOv σ o sc ar) = _
  unfold zGet
  dsimp only
  rw [if_pos hR.tg]
  unfold zgv
  rw [hk, if_neg (by decide), if_neg (by decide)]
  have e : zfi (rOv σ o sc ar) 12 k o = sc k := if_pos ⟨rfl, rfl⟩
  rw [e]
theorem wr_getA {n' : Nat} (hn : pc + 3 = n') (hR : RShape σ o) {k : Nat} (hc : zcode m pc = some (.getfield x, 12, k, z)) (hk : k = t - 20) (ht : rOk t = true) : wp m pc L (.ref o :: S) (rOv σ o sc ar) P ↔ wp m n' L (.ref (rad o t) :: S) (rOv σ o sc ar) P := by
  subst hn
  subst hk
  refine wp_step (q := (pc + 3, L, .ref (rad o t) :: S, rOv σ o sc ar)) hc rfl ?_
  show zGet 12 (t - 20) pc L (.ref o :: S) (rOv σ o sc ar) = _
  unfold zGet
  dsimp only
  rw [if_pos hR.tg]
  unfold zgv
  have h2 : fTy 12 (t - 20) = 2 := by simp [rOk] at ht; exact ht.2.2
  have e : zfr (rOv σ o sc ar) 12 (t - 20) o = some (rad o t) := (hR.2 t ht).1
  rw [h2, if_neg (by decide), if_pos rfl, e]
theorem rOv_put {k : Nat} {v : Int32} : sfi (rOv σ o sc ar) 12 k o v = rOv σ o (upS sc k v) ar := by
  unfold sfi rOv
  congr 1
  funext c k' a
  show up3 _ _ _ _ _ _ _ _ = _
  unfold up3 upS
  by_cases h1 : c = 12 ∧ a = o
  · by_cases h2 : k' = k
    · rw [if_pos ⟨h1.1, h2, h1.2⟩, if_pos h1, if_pos h2]
    · rw [if_neg (fun z => h2 z.2.1), if_pos h1, if_neg h2]
      exact if_pos h1
  · rw [if_neg (fun z => h1 ⟨z.1, z.2.2⟩), if_neg h1]
    exact if_neg h1
theorem wr_put {n' : Nat} (hn : pc + 3 = n') (hR : RShape σ o) {k : Nat} {v : Int32} (hc : zcode m pc = some (.putfield x, 12, k, z)) (hk : fTy 12 k = 0) : wp m pc L (.int v :: .ref o :: S) (rOv σ o sc ar) P ↔ wp m n' L S (rOv σ o (upS sc k v) ar) P := by
  subst hn
  refine wp_step (q := (pc + 3, L, S, rOv σ o (upS sc k v) ar)) hc rfl ?_
  show zPutf 12 k pc L (.int v :: .ref o :: S) (rOv σ o sc ar) = _
  unfold zPutf
  dsimp only
  rw [if_pos hR.tg]
  unfold zPv
  dsimp only
  rw [if_pos (Or.inl hk), rOv_put]
theorem rOv_ld (ht : rOk t = true) {i : Nat} : zai (rOv σ o sc ar) t (rad o t) i = ar t i := if_pos ⟨ht, rfl⟩
theorem rOv_tg (hR : RShape σ o) (ht : rOk t = true) : ztg (rOv σ o sc ar) (rad o t) = (2, t, rlen t) := (hR.2 t ht).2
theorem wr_ld {n' : Nat} (hn : pc + 1 = n') (hR : RShape σ o) {v : Int32} (hc : zcode m pc = some (.iaload, x, y, z)) (ht : rOk t = true) (hty : siteTy t = .int) : wp m pc L (.int v :: .ref (rad o t) :: S) (rOv σ o sc ar) P ↔ (zIn v (rlen t) ∧ wp m n' L (.int (ar t v.toNatClampNeg) :: S) (rOv σ o sc ar) P) := by
  subst hn
  have e := rOv_tg (sc := sc) (ar := ar) hR ht
  refine wp_cond (q := (pc + 1, L, .int (ar t v.toNatClampNeg) :: S, rOv σ o sc ar)) hc rfl (fun h => ?_) (fun h => ?_)
  · show zIld .int pc L (.int v :: .ref (rad o t) :: S) (rOv σ o sc ar) = _
    unfold zIld
    dsimp only
    rw [e, if_pos ⟨Or.inl rfl, hty, h⟩, rOv_ld ht]
  · show zIld .int pc L (.int v :: .ref (rad o t) :: S) (rOv σ o sc ar) = _
    unfold zIld
    dsimp only
    rw [e, if_neg (fun z => h z.2.2)]
theorem wr_ldZ {n' : Nat} (hn : pc + 1 = n') (hR : RShape σ o) {v : Int32} (hc : zcode m pc = some (.baload, x, y, z)) (ht : rOk t = true) (hty : siteTy t = .boolean) : wp m pc L (.int v :: .ref (rad o t) :: S) (rOv σ o sc ar) P ↔ (zIn v (rlen t) ∧ wp m n' L (.int (ar t v.toNatClampNeg) :: S) (rOv σ o sc ar) P) := by
  subst hn
  have e := rOv_tg (sc := sc) (ar := ar) hR ht
  refine wp_cond (q := (pc + 1, L, .int (ar t v.toNatClampNeg) :: S, rOv σ o sc ar)) hc rfl (fun h => ?_) (fun h => ?_)
  · show zIld .boolean pc L (.int v :: .ref (rad o t) :: S) (rOv σ o sc ar) = _
    unfold zIld
    dsimp only
    rw [e, if_pos ⟨Or.inl rfl, hty, h⟩, rOv_ld ht]
  · show zIld .boolean pc L (.int v :: .ref (rad o t) :: S) (rOv σ o sc ar) = _
    unfold zIld
    dsimp only
    rw [e, if_neg (fun z => h z.2.2)]
theorem rOv_st (ht : rOk t = true) {i : Nat} {v : Int32} : sai (rOv σ o sc ar) t (rad o t) i v = rOv σ o sc (upA ar t i v) := by
  unfold sai rOv
  congr 1
  funext u a j
  show up3 _ _ _ _ _ _ _ _ = _
  unfold up3 upA
  by_cases h1 : rOk u = true ∧ a = rad o u
  · by_cases h2 : u = t ∧ j = i
    · rw [if_pos ⟨h2.1, by rw [h1.2, h2.1], h2.2⟩, if_pos h1, if_pos h2]
    · rw [if_neg (fun z => h2 ⟨z.1, z.2.2⟩), if_pos h1, if_neg h2]
      exact if_pos h1
  · rw [if_neg (fun z => h1 ⟨by rw [z.1]; exact ht, by rw [z.2.1, z.1]⟩), if_neg h1]
    exact if_neg h1
theorem wr_st {n' : Nat} (hn : pc + 1 = n') (hR : RShape σ o) {v w : Int32} (hc : zcode m pc = some (.iastore, x, y, z)) (ht : rOk t = true) (hty : siteTy t = .int) : wp m pc L (.int w :: .int v :: .ref (rad o t) :: S) (rOv σ o sc ar) P ↔ (zIn v (rlen t) ∧ wp m n' L S (rOv σ o sc (upA ar t v.toNatClampNeg w)) P) := by
  subst hn
  have e := rOv_tg (sc := sc) (ar := ar) hR ht
  refine wp_cond (q := (pc + 1, L, S, rOv σ o sc (upA ar t v.toNatClampNeg w))) hc rfl (fun h => ?_) (fun h => ?_)
  · show zIst .int pc L (.int w :: .int v :: .ref (rad o t) :: S) (rOv σ o sc ar) = _
    unfold zIst
    dsimp only
    rw [e, if_pos ⟨rfl, hty, h, fun z => by cases z⟩, rOv_st ht]
  · show zIst .int pc L (.int w :: .int v :: .ref (rad o t) :: S) (rOv σ o sc ar) = _
    unfold zIst
    dsimp only
    rw [e, if_neg (fun z => h z.2.2.1)]
theorem wr_stZ {n' : Nat} (hn : pc + 1 = n') (hR : RShape σ o) {v w : Int32} (hc : zcode m pc = some (.bastore, x, y, z)) (ht : rOk t = true) (hty : siteTy t = .boolean) : wp m pc L (.int w :: .int v :: .ref (rad o t) :: S) (rOv σ o sc ar) P ↔ ((zIn v (rlen t) ∧ (w = 0 ∨ w = 1)) ∧ wp m n' L S (rOv σ o sc (upA ar t v.toNatClampNeg w)) P) := by
  subst hn
  have e := rOv_tg (sc := sc) (ar := ar) hR ht
  refine wp_cond (q := (pc + 1, L, S, rOv σ o sc (upA ar t v.toNatClampNeg w))) hc rfl (fun h => ?_) (fun h => ?_)
  · show zIst .boolean pc L (.int w :: .int v :: .ref (rad o t) :: S) (rOv σ o sc ar) = _
    unfold zIst
    dsimp only
    rw [e, if_pos ⟨rfl, hty, h.1, fun _ => h.2⟩, rOv_st ht]
  · show zIst .boolean pc L (.int w :: .int v :: .ref (rad o t) :: S) (rOv σ o sc ar) = _
    unfold zIst
    dsimp only
    rw [e, if_neg (fun z => h ⟨z.2.2.1, z.2.2.2 rfl⟩)]
theorem zCa_V {n b : Nat} {r : List Value} {σ : zSt} (hn : n ≤ S.length) (hd : S.drop n = .ref b :: r) (ht : (ztg σ b).1 = 1 ∧ (ztg σ b).2.1 = mC x) : zCa x 0 n S σ = some (.ref b :: (S.take n).reverse, r) := by
  unfold zCa
  rw [if_pos hn, if_neg (by decide), hd]
  exact if_pos (fun _ => ht)
theorem zCa_I {n b y : Nat} {r : List Value} {σ : zSt} (hn : n ≤ S.length) (hd : S.drop n = .ref b :: r) (hy : y = 2 ∨ y = 3) : zCa x y n S σ = some (.ref b :: (S.take n).reverse, r) := by
  unfold zCa
  rw [if_pos hn, if_neg (by omega), hd]
  exact if_pos (fun h => by omega)
theorem wp_div {v w : Int32} {n' : Nat} (hn : pc + 1 = n') (hc : zcode m pc = some (.idiv, x, y, z)) : wp m pc L (.int w :: .int v :: S) σ P ↔ (¬ w = 0 ∧ wp m n' L (.int (v / w) :: S) σ P) := by
  subst hn
  refine wp_cond (q := (pc + 1, L, .int (v / w) :: S, σ)) hc rfl (fun h => ?_) (fun h => ?_)
  · show zBI (zDiv (fun a b => a / b)) pc L (.int w :: .int v :: S) σ = _
    unfold zBI zDiv
    dsimp only
    rw [if_neg h]
  · show zBI (zDiv (fun a b => a / b)) pc L (.int w :: .int v :: S) σ = _
    unfold zBI zDiv
    dsimp only
    rw [if_pos (Classical.not_not.mp h)]
theorem wp_rem {v w : Int32} {n' : Nat} (hn : pc + 1 = n') (hc : zcode m pc = some (.irem, x, y, z)) : wp m pc L (.int w :: .int v :: S) σ P ↔ (¬ w = 0 ∧ wp m n' L (.int (v - v / w * w) :: S) σ P) := by
  subst hn
  refine wp_cond (q := (pc + 1, L, .int (v - v / w * w) :: S, σ)) hc rfl (fun h => ?_) (fun h => ?_)
  · show zBI (zDiv (fun a b => a - a / b * b)) pc L (.int w :: .int v :: S) σ = _
    unfold zBI zDiv
    dsimp only
    rw [if_neg h]
  · show zBI (zDiv (fun a b => a - a / b * b)) pc L (.int w :: .int v :: S) σ = _
    unfold zBI zDiv
    dsimp only
    rw [if_pos (Classical.not_not.mp h)]
/-- a store into a local, where the one ahead may be a long's first half: it isn't -/
theorem wp_sto {v : Value} {k npc : Nat} (hc : zcode m pc = some (i, x, y, z)) (hk : zKd i y = 0) (hl : zNL L k = true) (h1 : ∀ (h : zNL L k = true), z1 i x y z (mL m) pc L (v :: S) σ = some (npc, L.set k (some v), S, σ)) : wp m pc L (v :: S) σ P ↔ wp m npc (L.set k (some v)) S σ P := wp_step hc hk (h1 hl)
end RR
section RL
theorem rlen_21 : rlen 21 = 60 := rfl
theorem rlen_22 : rlen 22 = 60 := rfl
theorem rlen_23 : rlen 23 = 60 := rfl
theorem rlen_24 : rlen 24 = 60 := rfl
theorem rlen_25 : rlen 25 = 180 := rfl
theorem rlen_26 : rlen 26 = 11520 := rfl
theorem rlen_27 : rlen 27 = 64 := rfl
theorem rlen_30 : rlen 30 = 240 := rfl
theorem rlen_31 : rlen 31 = 40 := rfl
theorem rlen_32 : rlen 32 = 120 := rfl
theorem rlen_33 : rlen 33 = 40 := rfl
theorem rlen_34 : rlen 34 = 640 := rfl
theorem rlen_35 : rlen 35 = 640 := rfl
theorem rlen_36 : rlen 36 = 40 := rfl
theorem rlen_37 : rlen 37 = 80 := rfl
theorem rlen_38 : rlen 38 = 34000 := rfl
theorem rlen_39 : rlen 39 = 560 := rfl
theorem rlen_42 : rlen 42 = 101 := rfl
theorem rlen_43 : rlen 43 = 101 := rfl
theorem rlen_44 : rlen 44 = 42925 := rfl
theorem rlen_45 : rlen 45 = 101 := rfl
theorem rlen_46 : rlen 46 = 101 := rfl
theorem rlen_47 : rlen 47 = 101 := rfl
theorem rlen_48 : rlen 48 = 101 := rfl
theorem rlen_49 : rlen 49 = 101 := rfl
theorem rlen_50 : rlen 50 = 303 := rfl
theorem rlen_51 : rlen 51 = 19392 := rfl
theorem rlen_53 : rlen 53 = 40 := rfl
theorem rlen_54 : rlen 54 = 40 := rfl
theorem rlen_55 : rlen 55 = 40 := rfl
theorem rlen_56 : rlen 56 = 40 := rfl
theorem rlen_61 : rlen 61 = 40 := rfl
theorem rlen_62 : rlen 62 = 425 := rfl
theorem rlen_64 : rlen 64 = 7 := rfl
theorem rlen_65 : rlen 65 = 26 := rfl
theorem rlen_67 : rlen 67 = 64 := rfl
theorem rlen_70 : rlen 70 = 3 := rfl
theorem rlen_71 : rlen 71 = 192 := rfl
theorem rlen_72 : rlen 72 = 40 := rfl
theorem rlen_73 : rlen 73 = 40 := rfl
end RL
