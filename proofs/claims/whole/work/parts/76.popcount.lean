/-! THE BITS OF A NUMBER, COUNTED -/
section PC
def pcN : Nat → Nat → Nat
  | 0, _ => 0
  | n + 1, x => x % 2 + pcN n (x / 2)
theorem pcN_split : ∀ k n x, pcN (k + n) x = pcN k (x % 2 ^ k) + pcN n (x / 2 ^ k)
  | 0, n, x => by simp [pcN]
  | k + 1, n, x => by
    rw [show k + 1 + n = (k + n) + 1 by omega]
    show x % 2 + pcN (k + n) (x / 2) = (x % 2 ^ (k + 1)) % 2 + pcN k (x % 2 ^ (k + 1) / 2) + pcN n (x / 2 ^ (k + 1))
    rw [pcN_split k n (x / 2)]
    have e1 : x % 2 ^ (k + 1) % 2 = x % 2 := Nat.mod_mod_of_dvd _ ⟨2 ^ k, by rw [Nat.pow_succ, Nat.mul_comm]⟩
    have e2 : x % 2 ^ (k + 1) / 2 = x / 2 % 2 ^ k := by
      rw [Nat.pow_succ, Nat.mul_comm, Nat.mod_mul_right_div_self]
    have e3 : x / 2 ^ (k + 1) = x / 2 / 2 ^ k := by
      rw [Nat.div_div_eq_div_mul, Nat.pow_succ, Nat.mul_comm 2]
    rw [e1, e2, e3]; omega
theorem cnt_front {f : Nat → Bool} {n : Nat} : cnt f (n + 1) = (if f 0 = true then 1 else 0) + cnt (fun i => f (i + 1)) n := by
  induction n with
  | zero => by_cases h : f 0 = true <;> simp [cnt, h]
  | succ n ih => rw [cnt_succ, ih, cnt_succ]; omega
theorem cnt_pc : ∀ n x, cnt (fun i => x.testBit i) n = pcN n x
  | 0, x => rfl
  | n + 1, x => by
    rw [cnt_front]
    have e : (fun i => x.testBit (i + 1)) = fun i => (x / 2).testBit i := by
      funext i; exact Nat.testBit_succ ..
    rw [e, cnt_pc n (x / 2)]
    show _ = x % 2 + _
    have : (if x.testBit 0 = true then 1 else 0) = x % 2 := by
      rw [Nat.testBit_zero]
      by_cases h : x % 2 = 1
      · simp [h]
      · have : x % 2 = 0 := by omega
        simp [this]
    rw [this]
/-- a mask of one byte, n times -/
def rpt (m : Nat) : Nat → Nat
  | 0 => 0
  | n + 1 => m + 256 * rpt m n
theorem and_byte {a b m : Nat} {y M : Nat} (ha : a < 256) (hm : m < 256) : (a + 256 * y) &&& (m + 256 * M) = (a &&& m) + 256 * (y &&& M) := by
  have h1 := Nat.and_mod_two_pow (a := a + 256 * y) (b := m + 256 * M) (n := 8)
  have h2 := Nat.and_div_two_pow (a := a + 256 * y) (b := m + 256 * M) (n := 8)
  rw [show (2 : Nat) ^ 8 = 256 from rfl] at h1 h2
  rw [show (a + 256 * y) % 256 = a by omega, show (m + 256 * M) % 256 = m by omega] at h1
  rw [show (a + 256 * y) / 256 = y by omega, show (m + 256 * M) / 256 = M by omega] at h2
  omega
def f1 (n x : Nat) : Nat := x - (x / 2 &&& rpt 85 n)
def f2 (n x : Nat) : Nat := (x &&& rpt 51 n) + (x / 4 &&& rpt 51 n)
def f3 (n x : Nat) : Nat := (x + x / 16) &&& rpt 15 n
def gByte (b : Nat) : Nat := f3 1 (f2 1 (f1 1 b))
theorem g_tab : ∀ b, b < 256 → gByte b = pcN 8 b ∧ f1 1 b < 256 ∧ f2 1 (f1 1 b) % 16 ≤ 4 ∧ f2 1 (f1 1 b) / 16 ≤ 4 := by decide +kernel
theorem t1 : ∀ b, b < 256 → (b / 2 + 128) &&& 85 = b / 2 &&& 85 := by decide +kernel
theorem t2 : ∀ b, b < 256 → (b / 4 + 64) &&& 51 = b / 4 &&& 51 ∧ (b / 4 + 128) &&& 51 = b / 4 &&& 51 ∧ (b / 4 + 192) &&& 51 = b / 4 &&& 51 := by decide +kernel
theorem f1_byte {n b y : Nat} (hb : b < 256) : f1 (n + 1) (b + 256 * y) = f1 1 b + 256 * f1 n y := by
  have e1 : f1 1 b = b - (b / 2 &&& 85) := rfl
  have e2 : f1 (n + 1) (b + 256 * y) = b + 256 * y - ((b + 256 * y) / 2 &&& (85 + 256 * rpt 85 n)) := rfl
  have e3 : f1 n y = y - (y / 2 &&& rpt 85 n) := rfl
  have h1 : (b + 256 * y) / 2 = (b / 2 + 128 * (y % 2)) + 256 * (y / 2) := by omega
  have h2 : b / 2 + 128 * (y % 2) &&& 85 = b / 2 &&& 85 := by
    rcases Nat.mod_two_eq_zero_or_one y with r | r
    · rw [r]; rfl
    · rw [r]; exact t1 b hb
  rw [e2, h1, and_byte (b := 0) (by omega) (by omega), h2, e1, e3]
  have l1 : b / 2 &&& 85 ≤ b / 2 := Nat.and_le_left
  have l2 : y / 2 &&& rpt 85 n ≤ y / 2 := Nat.and_le_left
  omega
theorem f2_byte {n b y : Nat} (hb : b < 256) : f2 (n + 1) (b + 256 * y) = f2 1 b + 256 * f2 n y := by
  have e1 : f2 1 b = (b &&& 51) + (b / 4 &&& 51) := rfl
  have e2 : f2 (n + 1) (b + 256 * y) = ((b + 256 * y) &&& (51 + 256 * rpt 51 n)) + ((b + 256 * y) / 4 &&& (51 + 256 * rpt 51 n)) := rfl
  have e3 : f2 n y = (y &&& rpt 51 n) + (y / 4 &&& rpt 51 n) := rfl
  have h1 : (b + 256 * y) / 4 = (b / 4 + 64 * (y % 4)) + 256 * (y / 4) := by omega
  have h2 : b / 4 + 64 * (y % 4) &&& 51 = b / 4 &&& 51 := by
    have : y % 4 = 0 ∨ y % 4 = 1 ∨ y % 4 = 2 ∨ y % 4 = 3 := by omega
    rcases this with r | r | r | r <;> rw [r]
    · rfl
    · exact (t2 b hb).1
    · exact (t2 b hb).2.1
    · exact (t2 b hb).2.2
  rw [e2, h1, and_byte (b := 0) hb (by omega), and_byte (b := 0) (by omega) (by omega), h2, e1, e3]
  omega
theorem f3_byte {n b y : Nat} (hb1 : b % 16 ≤ 4) (hb2 : b / 16 ≤ 4) (hy : y % 16 ≤ 4) : f3 (n + 1) (b + 256 * y) = f3 1 b + 256 * f3 n y := by
  have e1 : f3 1 b = (b + b / 16) &&& 15 := rfl
  have e2 : f3 (n + 1) (b + 256 * y) = (b + 256 * y + (b + 256 * y) / 16) &&& (15 + 256 * rpt 15 n) := rfl
  have e3 : f3 n y = (y + y / 16) &&& rpt 15 n := rfl
  have h1 : b + 256 * y + (b + 256 * y) / 16 = (b + b / 16 + 16 * (y % 16)) + 256 * (y + y / 16) := by omega
  rw [e2, h1, and_byte (b := 0) (by omega) (by omega), e1, e3]
  have a1 : b + b / 16 + 16 * (y % 16) &&& 15 = b + b / 16 &&& 15 := by
    have r1 : b + b / 16 + 16 * (y % 16) &&& 15 = (b + b / 16 + 16 * (y % 16)) % 16 := Nat.and_two_pow_sub_one_eq_mod _ 4
    have r2 : b + b / 16 &&& 15 = (b + b / 16) % 16 := Nat.and_two_pow_sub_one_eq_mod _ 4
    rw [r1, r2]; omega
  rw [a1]
def gN (n x : Nat) : Nat := f3 n (f2 n (f1 n x))
theorem gN_byte {n b y : Nat} (hb : b < 256) (hy : f2 n (f1 n y) % 16 ≤ 4) : gN (n + 1) (b + 256 * y) = pcN 8 b + 256 * gN n y ∧ f2 (n + 1) (f1 (n + 1) (b + 256 * y)) % 16 ≤ 4 := by
  obtain ⟨g1, g2, g3, g4⟩ := g_tab b hb
  unfold gN
  rw [f1_byte hb, f2_byte g2, f3_byte g3 g4 hy]
  exact ⟨by rw [← g1]; rfl, by omega⟩
theorem gN_8 (b0 b1 b2 b3 b4 b5 b6 b7 : Nat) (h0 : b0 < 256) (h1 : b1 < 256) (h2 : b2 < 256) (h3 : b3 < 256) (h4 : b4 < 256) (h5 : b5 < 256) (h6 : b6 < 256) (h7 : b7 < 256) : gN 8 (b0 + 256 * (b1 + 256 * (b2 + 256 * (b3 + 256 * (b4 + 256 * (b5 + 256 * (b6 + 256 * (b7 + 256 * 0)))))))) = pcN 8 b0 + 256 * (pcN 8 b1 + 256 * (pcN 8 b2 + 256 * (pcN 8 b3 + 256 * (pcN 8 b4 + 256 * (pcN 8 b5 + 256 * (pcN 8 b6 + 256 * pcN 8 b7)))))) := by
  have z : f2 0 (f1 0 0) % 16 ≤ 4 := by decide
  have q7 := gN_byte (n := 0) h7 z
  have q6 := gN_byte (n := 1) h6 q7.2
  have q5 := gN_byte (n := 2) h5 q6.2
  have q4 := gN_byte (n := 3) h4 q5.2
  have q3 := gN_byte (n := 4) h3 q4.2
  have q2 := gN_byte (n := 5) h2 q3.2
  have q1 := gN_byte (n := 6) h1 q2.2
  have q0 := gN_byte (n := 7) h0 q1.2
  rw [q0.1, q1.1, q2.1, q3.1, q4.1, q5.1, q6.1, q7.1]
  have : gN 0 0 = 0 := by decide
  rw [this, Nat.mul_zero, Nat.add_zero]
theorem pc8_le : ∀ b, b < 256 → pcN 8 b ≤ 8 := by decide +kernel
theorem pc64 (b0 b1 b2 b3 b4 b5 b6 b7 : Nat) (h0 : b0 < 256) (h1 : b1 < 256) (h2 : b2 < 256) (h3 : b3 < 256) (h4 : b4 < 256) (h5 : b5 < 256) (h6 : b6 < 256) (h7 : b7 < 256) : pcN 64 (b0 + 256 * (b1 + 256 * (b2 + 256 * (b3 + 256 * (b4 + 256 * (b5 + 256 * (b6 + 256 * (b7 + 256 * 0)))))))) = pcN 8 b0 + (pcN 8 b1 + (pcN 8 b2 + (pcN 8 b3 + (pcN 8 b4 + (pcN 8 b5 + (pcN 8 b6 + pcN 8 b7)))))) := by
  have st : ∀ n b y, b < 256 → pcN (8 + n) (b + 256 * y) = pcN 8 b + pcN n y := by
    intro n b y hb
    rw [pcN_split 8 n, show (2 : Nat) ^ 8 = 256 from rfl, show (b + 256 * y) % 256 = b by omega, show (b + 256 * y) / 256 = y by omega]
  rw [st 56 _ _ h0, st 48 _ _ h1, st 40 _ _ h2, st 32 _ _ h3, st 24 _ _ h4, st 16 _ _ h5, st 8 _ _ h6, st 0 _ _ h7]
  rfl
theorem bytes8 {X : Nat} (h : X < 2 ^ 64) : ∃ b0 b1 b2 b3 b4 b5 b6 b7, b0 < 256 ∧ b1 < 256 ∧ b2 < 256 ∧ b3 < 256 ∧ b4 < 256 ∧ b5 < 256 ∧ b6 < 256 ∧ b7 < 256 ∧ X = b0 + 256 * (b1 + 256 * (b2 + 256 * (b3 + 256 * (b4 + 256 * (b5 + 256 * (b6 + 256 * (b7 + 256 * 0))))))) :=
  ⟨X % 256, X / 256 % 256, X / 256 / 256 % 256, X / 256 / 256 / 256 % 256, X / 256 / 256 / 256 / 256 % 256, X / 256 / 256 / 256 / 256 / 256 % 256, X / 256 / 256 / 256 / 256 / 256 / 256 % 256, X / 256 / 256 / 256 / 256 / 256 / 256 / 256, by omega, by omega, by omega, by omega, by omega, by omega, by omega, by omega, by omega⟩
end PC
