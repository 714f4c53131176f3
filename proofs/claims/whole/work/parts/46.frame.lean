/-! FRAMES: what a piece of a run leaves as it was: contents but Cs, keys but Ks, lists but Ls, numbers but Fs (class, place, address; 104, 105: the steps' arrays; 6: the log) -/
def Fr (σ τ : zSt) (Cs Ks Ls : Nat → Prop) (Fs : Nat → Nat → Nat → Prop) : Prop :=
  (∀ a, (ztg σ a).1 ≠ 0 → ztg τ a = ztg σ a) ∧
  (∀ c v, ¬ Cs c → CShape σ → Cnt σ c v → Cnt τ c v) ∧
  (∀ k l, ¬ Ks k → CShape σ → Ky σ k l → Ky τ k l) ∧
  (∀ l xs, ¬ Ls l → LVal σ l xs → LVal τ l xs ∧ capOf τ l = capOf σ l) ∧
  (∀ c k a, c ≠ 2 → c ≠ 5 → c ≠ 6 → c ≠ 13 → zIs σ a c → ¬ Fs c k a → zfi τ c k a = zfi σ c k a ∧ zfl τ c k a = zfl σ c k a) ∧
  (∀ t a i, t = 4 ∨ t = 5 ∨ 12 ≤ t → (ztg σ a).1 ≠ 0 → ¬ Fs (100 + t) i a → zai τ t a i = zai σ t a i) ∧
  (∀ g ds r f b, ¬ Fs 6 0 g → CShape σ → LogV σ g ds r f b → LogV τ g ds r f b) ∧
  (∀ k a, zIs σ a 12 → zfr τ 12 k a = zfr σ 12 k a) ∧
  (∀ k hd ps, ¬ Ks k → CShape σ → KyP σ k hd ps → KyP τ k hd ps)
/-- what holds of all calls: the reference's object, the script and all arrays of theirs stay -/
def RF (σ τ : zSt) : Prop := (∀ a, (ztg σ a).1 ≠ 0 → ztg τ a = ztg σ a) ∧ (∀ k a, zIs σ a 12 → zfi τ 12 k a = zfi σ 12 k a ∧ zfr τ 12 k a = zfr σ 12 k a) ∧ ∀ t a i, 12 ≤ t → (ztg σ a).1 ≠ 0 → zai τ t a i = zai σ t a i
def no1 : Nat → Prop := fun _ => False
def no3 : Nat → Nat → Nat → Prop := fun _ _ _ => False
section FR
variable {σ τ υ : zSt} {Cs Ks Ls Cs' Ks' Ls' : Nat → Prop} {Fs Fs' : Nat → Nat → Nat → Prop} {a b c k l g t : Nat} {v : Int32}
theorem Fr.is (h : Fr σ τ Cs Ks Ls Fs) (hz : zIs σ a c) : zIs τ a c := by
  have := h.1 a (by rw [hz.1]; decide)
  unfold zIs; rw [this]; exact hz
theorem Fr.cnt (h : Fr σ τ Cs Ks Ls Fs) (hC : CShape σ) (hn : ¬ Cs c) {w : Con} (hc : Cnt σ c w) : Cnt τ c w := h.2.1 c w hn hC hc
theorem Fr.ky (h : Fr σ τ Cs Ks Ls Fs) (hC : CShape σ) (hn : ¬ Ks k) {w : List Int32} (hc : Ky σ k w) : Ky τ k w := h.2.2.1 k w hn hC hc
theorem Fr.lst (h : Fr σ τ Cs Ks Ls Fs) (hn : ¬ Ls l) {w : List Nat} (hc : LVal σ l w) : LVal τ l w := (h.2.2.2.1 l w hn hc).1
theorem Fr.cap (h : Fr σ τ Cs Ks Ls Fs) (hn : ¬ Ls l) {w : List Nat} (hc : LVal σ l w) : capOf τ l = capOf σ l := (h.2.2.2.1 l w hn hc).2
theorem Fr.fi (h : Fr σ τ Cs Ks Ls Fs) (hc : (c == 2 || c == 5 || c == 6 || c == 13) = false) (hz : zIs σ a c) (hn : ¬ Fs c k a) : zfi τ c k a = zfi σ c k a := by
  simp at hc
  exact (h.2.2.2.2.1 c k a hc.1.1.1 hc.1.1.2 hc.1.2 hc.2 hz hn).1
theorem Fr.fl (h : Fr σ τ Cs Ks Ls Fs) (hc : (c == 2 || c == 5 || c == 6 || c == 13) = false) (hz : zIs σ a c) (hn : ¬ Fs c k a) : zfl τ c k a = zfl σ c k a := by
  simp at hc
  exact (h.2.2.2.2.1 c k a hc.1.1.1 hc.1.1.2 hc.1.2 hc.2 hz hn).2
theorem Fr.ai (h : Fr σ τ Cs Ks Ls Fs) (ht : t = 4 ∨ t = 5) {n i : Nat} (hz : ztg σ a = (2, t, n)) (hn : ¬ Fs (100 + t) i a) : zai τ t a i = zai σ t a i := h.2.2.2.2.2.1 t a i (by omega) (by rw [hz]; exact Nat.succ_ne_zero 1) hn
theorem Fr.rf (h : Fr σ τ Cs Ks Ls Fs) (hn : ∀ c k a, Fs c k a → c < 12 ∨ c = 104 ∨ c = 105) : RF σ τ := by
  refine ⟨h.1, fun k a hz => ⟨(h.2.2.2.2.1 12 k a (by omega) (by omega) (by omega) (by omega) hz (fun q => by have := hn _ _ _ q; omega)).1, h.2.2.2.2.2.2.2.1 k a hz⟩, fun t a i ht hz => h.2.2.2.2.2.1 t a i (by omega) hz (fun q => by have := hn _ _ _ q; omega)⟩
theorem Fr.log (h : Fr σ τ Cs Ks Ls Fs) (hC : CShape σ) (hn : ¬ Fs 6 0 g) {ds : List (Int32 × Int32 × Int32 × Int32)} {r f b : Int32} (hc : LogV σ g ds r f b) : LogV τ g ds r f b := h.2.2.2.2.2.2.1 g ds r f b hn hC hc
theorem Fr.kyp (h : Fr σ τ Cs Ks Ls Fs) (hC : CShape σ) (hn : ¬ Ks k) {hd : List Int32} {ps : List (List Int32)} (hk : KyP σ k hd ps) : KyP τ k hd ps := h.2.2.2.2.2.2.2.2 k hd ps hn hC hk
theorem Fr.refl : Fr σ σ Cs Ks Ls Fs := ⟨fun _ _ => rfl, fun _ _ _ _ h => h, fun _ _ _ _ h => h, fun _ _ _ h => ⟨h, rfl⟩, fun _ _ _ _ _ _ _ _ _ => ⟨rfl, rfl⟩, fun _ _ _ _ _ _ => rfl, fun _ _ _ _ _ _ _ h => h, fun _ _ _ => rfl, fun _ _ _ _ _ h => h⟩
theorem Fr.mono (h : Fr σ τ Cs Ks Ls Fs) (h1 : ∀ c, Cs c → Cs' c) (h2 : ∀ c, Ks c → Ks' c) (h3 : ∀ c, Ls c → Ls' c) (h4 : ∀ c k a, Fs c k a → Fs' c k a) : Fr σ τ Cs' Ks' Ls' Fs' :=
  ⟨h.1, fun c v n => h.2.1 c v (fun q => n (h1 c q)), fun c v n => h.2.2.1 c v (fun q => n (h2 c q)), fun c v n => h.2.2.2.1 c v (fun q => n (h3 c q)), fun c k a g1 g2 g3 g4 g5 n => h.2.2.2.2.1 c k a g1 g2 g3 g4 g5 (fun q => n (h4 _ _ _ q)), fun t a i g1 g2 nn => h.2.2.2.2.2.1 t a i g1 g2 (fun q => nn (h4 _ _ _ q)), fun g ds r f b n => h.2.2.2.2.2.2.1 g ds r f b (fun q => n (h4 _ _ _ q)), h.2.2.2.2.2.2.2.1, fun k hd ps n => h.2.2.2.2.2.2.2.2 k hd ps (fun q => n (h2 k q))⟩
theorem Fr.trans (h : Fr σ τ Cs Ks Ls Fs) (h' : Fr τ υ Cs Ks Ls Fs) (hC : CShape τ) : Fr σ υ Cs Ks Ls Fs := by
  refine ⟨fun a n => ?_, fun c v n hc g => h'.2.1 c v n hC (h.2.1 c v n hc g), fun c v n hc g => h'.2.2.1 c v n hC (h.2.2.1 c v n hc g), fun c v n g => ⟨(h'.2.2.2.1 c v n (h.2.2.2.1 c v n g).1).1, (h'.2.2.2.1 c v n (h.2.2.2.1 c v n g).1).2.trans (h.2.2.2.1 c v n g).2⟩, fun c k a g1 g2 g3 g4 g5 n => ?_, fun t a i g1 g2 nn => ?_, fun g ds r f b n hc q => h'.2.2.2.2.2.2.1 g ds r f b n hC (h.2.2.2.2.2.2.1 g ds r f b n hc q), fun k a hz => (h'.2.2.2.2.2.2.2.1 k a (h.is hz)).trans (h.2.2.2.2.2.2.2.1 k a hz), fun k hd ps n hc q => h'.2.2.2.2.2.2.2.2 k hd ps n hC (h.2.2.2.2.2.2.2.2 k hd ps n hc q)⟩
  · rw [h'.1 a (by rw [h.1 a n]; exact n), h.1 a n]
  · have q := h.2.2.2.2.1 c k a g1 g2 g3 g4 g5 n
    have q' := h'.2.2.2.2.1 c k a g1 g2 g3 g4 (h.is g5) n
    exact ⟨q'.1.trans q.1, q'.2.trans q.2⟩
  · rw [h'.2.2.2.2.2.1 t a i g1 (by rw [h.1 a g2]; exact g2) nn, h.2.2.2.2.2.1 t a i g1 g2 nn]
/-- one content -/
theorem Fr_C {w : Con} (h : toC σ τ c w) : Fr σ τ (fun x => x = c) no1 no1 no3 := by
  obtain ⟨n, f, rfl, h⟩ := h
  refine ⟨fun _ _ => rfl, fun d v hd _ hv => ?_, fun _ _ _ _ h => h, fun _ _ _ h => ⟨h, rfl⟩, fun c' k a h2 _ _ _ _ _ => ⟨if_neg (fun q => h2 q.1), rfl⟩, fun t a i ht _ _ => if_neg (fun q => by omega), fun _ _ _ _ _ _ _ h => h, fun _ _ _ => rfl, fun _ _ _ _ _ h => h⟩
  refine ⟨hv.1, ?_⟩
  have e : zai (setC σ c n f) 1 (d + 1) = zai σ 1 (d + 1) := by funext i; exact C_ai' hd
  rw [C_fi' hd, e]; exact hv.2
/-- one key -/
theorem Fr_KK {n m h : Int32} {f e : Nat → Int32} : Fr σ (setKp (setKf σ c n f) c m h e) no1 (fun x => x = c) no1 no3 := by
  refine ⟨fun _ _ => rfl, fun _ _ _ _ h => h, fun d v hd _ hv => ?_, fun _ _ _ h => ⟨h, rfl⟩, fun c' k a _ h2 _ _ _ _ => ⟨?_, rfl⟩, fun t a i ht _ _ => ?_, fun _ _ _ _ _ _ _ h => h, fun _ _ _ => rfl, fun d hd ps hne _ hv => ?_⟩
  · refine ⟨hv.1, ?_⟩
    have e1 : zfi (setKp (setKf σ c n f) c m h e) 5 2 d = zfi σ 5 2 d := Kf_fi' (σ := σ) (n := n) (f := f) hd
    have e2 : zai (setKp (setKf σ c n f) c m h e) 2 (d + 1) = zai σ 2 (d + 1) := by funext i; exact Kf_ai' (σ := σ) (n := n) (f := f) hd
    rw [e1, e2]; exact hv.2
  · show (if _ then _ else (if _ then _ else (if _ then _ else _))) = _
    rw [if_neg (fun q => h2 q.1), if_neg (fun q => h2 q.1), if_neg (fun q => h2 q.1)]
  · show (if _ then _ else (if _ then _ else _)) = _
    rw [if_neg (fun q => by omega), if_neg (fun q => by omega)]
  · obtain ⟨⟨hz, hv⟩, hp⟩ := hv
    have e1 : zfi (setKp (setKf σ c n f) c m h e) 5 2 d = zfi σ 5 2 d := Kf_fi' (σ := σ) (n := n) (f := f) hne
    have e2 : zai (setKp (setKf σ c n f) c m h e) 2 (d + 1) = zai σ 2 (d + 1) := by funext i; exact Kf_ai' (σ := σ) (n := n) (f := f) hne
    have e3 : zfi (setKp (setKf σ c n f) c m h e) 5 3 d = zfi σ 5 3 d := by
      show up3 (up3 (up3 (zfi σ) 5 2 c n) 5 3 c m) 5 4 c h 5 3 d = _
      unfold up3
      rw [if_neg (fun q => hne q.2.2), if_neg (fun q => hne q.2.2), if_neg (fun q => hne q.2.2)]
    have e4 : zfi (setKp (setKf σ c n f) c m h e) 5 4 d = zfi σ 5 4 d := by
      show up3 (up3 (up3 (zfi σ) 5 2 c n) 5 3 c m) 5 4 c h 5 4 d = _
      unfold up3
      rw [if_neg (fun q => hne q.2.2), if_neg (fun q => hne q.2.2), if_neg (fun q => hne q.2.2)]
    have e5 : zai (setKp (setKf σ c n f) c m h e) 3 (d + 2) = zai σ 3 (d + 2) := by funext i; exact Kp_ai' (σ := setKf σ c n f) hne
    refine ⟨⟨hz, ?_⟩, ?_⟩
    · rw [e1, e2]; exact hv
    · rw [e3, e4, e5]; exact hp
theorem Fr_KP {hd : List Int32} {ps : List (List Int32)} (h : toKP σ τ c hd ps) : Fr σ τ no1 (fun x => x = c) no1 no3 := by
  obtain ⟨n, f, m, h, e, rfl, _⟩ := h; exact Fr_KK
theorem Fr_KK' {w : List Int32} (h : toKK σ τ c w) : Fr σ τ no1 (fun x => x = c) no1 no3 := by
  obtain ⟨n, f, m, h, e, rfl, _⟩ := h; exact Fr_KK
/-- one list -/
theorem Fr_L {xs : List Nat} (h : LPost σ τ l xs) : Fr σ τ no1 no1 (fun x => x = l) no3 := by
  obtain ⟨⟨⟨tg, F1, F2, A, nx, sl, rfl⟩, h2, h3, h4⟩, hH, _, hL, _⟩ := h
  have is : ∀ a c, zIs σ a c → zIs (upLs σ tg F1 F2 A nx sl) a c := by
    intro a c hz
    have := h2 a (by rw [hz.1]; decide)
    unfold zIs; rw [this]; exact hz
  have hL' := fun l' xs (hn : ¬ l' = l) hv => hL l' xs hn hv
  refine ⟨h2, fun c v _ _ hv => ⟨is _ _ hv.1, hv.2⟩, fun c v _ _ hv => ⟨is _ _ hv.1, hv.2⟩, hL', fun c k a _ _ _ h13 _ _ => ⟨if_neg h13, rfl⟩, fun _ _ _ _ _ _ => rfl, fun g ds r f b _ _ hv => ⟨is _ _ hv.1, hv.2⟩, fun _ _ _ => rfl, fun _ _ _ _ _ hv => ⟨⟨is _ _ hv.1.1, hv.1.2⟩, hv.2⟩⟩
/-- numbers -/
theorem Fr_fi (h2 : c ≠ 2) (h5 : c ≠ 5) (h6 : c ≠ 6) (h13 : c ≠ 13) : Fr σ (sfi σ c k a v) no1 no1 no1 (fun c' k' a' => c' = c ∧ k' = k ∧ a' = a) := by
  have e : ∀ c' k' a', ¬ (c' = c ∧ k' = k ∧ a' = a) → zfi (sfi σ c k a v) c' k' a' = zfi σ c' k' a' := fun c' k' a' h => if_neg h
  refine ⟨fun _ _ => rfl, fun d w _ _ hw => ⟨hw.1, ?_⟩, fun d w _ _ hw => ⟨hw.1, ?_⟩, fun l xs _ hv => ?_, fun c' k' a' _ _ _ _ _ hn => ⟨e _ _ _ hn, rfl⟩, fun _ _ _ _ _ _ => rfl, fun g ds r f b _ _ hv => ⟨hv.1, ?_⟩, fun _ _ _ => rfl, fun d hd ps _ _ hv => ⟨⟨hv.1.1, ?_⟩, ?_⟩⟩
  · rw [e _ _ _ (fun q => h2 q.1.symm)]; exact hw.2
  · rw [e _ _ _ (fun q => h5 q.1.symm)]; exact hw.2
  · obtain ⟨hz, d, hd, hn, hc, he⟩ := hv
    exact ⟨⟨hz, d, hd, by rw [e _ _ _ (fun q => h13 q.1.symm)]; exact hn, hc, he⟩, rfl⟩
  · have e6 : zfi (sfi σ c k a v) 6 = zfi σ 6 := by funext k' a'; exact e _ _ _ (fun q => h6 q.1.symm)
    rw [e6]; exact hv.2
  · rw [e _ _ _ (fun q => h5 q.1.symm)]; exact hv.1.2
  · rw [e _ _ _ (fun q => h5 q.1.symm), e _ _ _ (fun q => h5 q.1.symm)]; exact hv.2
theorem Fr_fl {v : Int64} : Fr σ (sfl σ c k a v) no1 no1 no1 (fun c' k' a' => c' = c ∧ k' = k ∧ a' = a) :=
  ⟨fun _ _ => rfl, fun _ _ _ _ h => h, fun _ _ _ _ h => h, fun _ _ _ h => ⟨h, rfl⟩, fun c' k' a' _ _ _ _ _ hn => ⟨rfl, if_neg hn⟩, fun _ _ _ _ _ _ => rfl, fun _ _ _ _ _ _ _ h => h, fun _ _ _ => rfl, fun _ _ _ _ _ h => h⟩
theorem Fr_ai {i : Nat} (ht : t = 4 ∨ t = 5) : Fr σ (sai σ t a i v) no1 no1 no1 (fun c' k' a' => c' = 100 + t ∧ k' = i ∧ a' = a) := by
  have e : ∀ t' a' i', ¬ (t' = t ∧ a' = a ∧ i' = i) → zai (sai σ t a i v) t' a' i' = zai σ t' a' i' := fun t' a' i' h => if_neg h
  refine ⟨fun _ _ => rfl, fun d w _ _ hw => ⟨hw.1, ?_⟩, fun d w _ _ hw => ⟨hw.1, ?_⟩, fun _ _ _ h => ⟨h, rfl⟩, fun c' k' a' _ _ _ _ _ hn => ⟨rfl, rfl⟩, fun t' a' i' _ _ hn => e _ _ _ (fun q => hn ⟨by rw [q.1], q.2.2, q.2.1⟩), fun g ds r f b _ _ hv => ⟨hv.1, ?_⟩, fun _ _ _ => rfl, fun d hd ps _ _ hv => ⟨⟨hv.1.1, ?_⟩, ?_⟩⟩
  · have e1 : zai (sai σ t a i v) 1 (d + 1) = zai σ 1 (d + 1) := by funext j; exact e _ _ _ (fun q => by omega)
    rw [e1]; exact hw.2
  · have e1 : zai (sai σ t a i v) 2 (d + 1) = zai σ 2 (d + 1) := by funext j; exact e _ _ _ (fun q => by omega)
    rw [e1]; exact hw.2
  · have e1 : zai (sai σ t a i v) 10 = zai σ 10 := by funext j j'; exact e _ _ _ (fun q => by omega)
    rw [e1]; exact hv.2
  · have e1 : zai (sai σ t a i v) 2 (d + 1) = zai σ 2 (d + 1) := by funext j; exact e _ _ _ (fun q => by omega)
    rw [e1]; exact hv.1.2
  · have e1 : zai (sai σ t a i v) 3 (d + 2) = zai σ 3 (d + 2) := by funext j; exact e _ _ _ (fun q => by omega)
    rw [e1]; exact hv.2
/-- the log -/
theorem Fr_G {ds : List (Int32 × Int32 × Int32 × Int32)} {r f b : Int32} (h : toG σ τ g ds r f b) : Fr σ τ no1 no1 no1 (fun c _ _ => c = 6) := by
  obtain ⟨F, A, rfl, h⟩ := h
  refine ⟨fun _ _ => rfl, fun _ _ _ _ h => h, fun _ _ _ _ h => h, fun _ _ _ h => ⟨h, rfl⟩, fun c k a _ _ h6 _ _ _ => ⟨if_neg h6, rfl⟩, fun t a i ht _ _ => if_neg (by omega), fun g ds r f b hn _ _ => absurd rfl hn, fun _ _ _ => rfl, fun _ _ _ _ _ h => h⟩
theorem toG_log {ds : List (Int32 × Int32 × Int32 × Int32)} {r f b : Int32} (h : toG σ τ g ds r f b) (hz : zIs σ g 6) : LogV τ g ds r f b := by
  obtain ⟨F, A, rfl, h⟩ := h
  refine ⟨hz, ?_⟩
  have e1 : zfi (upG σ F A) 6 = F := rfl
  have e2 : zai (upG σ F A) 10 = A := rfl
  rw [e1, e2]; exact h
theorem HI_G {ds : List (Int32 × Int32 × Int32 × Int32)} {r f b : Int32} (h : toG σ τ g ds r f b) (hH : HI σ) : HI τ := by
  obtain ⟨F, A, rfl, h⟩ := h; exact hH
theorem HI_C {w : Con} (h : toC σ τ c w) (hH : HI σ) : HI τ := by
  obtain ⟨n, f, rfl, h⟩ := h; exact hH
theorem HI_KP {hd : List Int32} {ps : List (List Int32)} (h : toKP σ τ c hd ps) (hH : HI σ) : HI τ := by
  obtain ⟨n, f, m, h, e, rfl, _⟩ := h; exact hH
theorem HI_KK {w : List Int32} (h : toKK σ τ c w) (hH : HI σ) : HI τ := by
  obtain ⟨n, f, m, h, e, rfl, _⟩ := h; exact hH
theorem RF.rf : RF σ σ := ⟨fun _ _ => rfl, fun _ _ _ => ⟨rfl, rfl⟩, fun _ _ _ _ _ => rfl⟩
theorem RF.tr (h : RF σ τ) (h' : RF τ υ) : RF σ υ := by
  refine ⟨fun a n => (h'.1 a (by rw [h.1 a n]; exact n)).trans (h.1 a n), fun k a hz => ?_, fun t a i ht hz => (h'.2.2 t a i ht (by rw [h.1 a hz]; exact hz)).trans (h.2.2 t a i ht hz)⟩
  have hz' : zIs τ a 12 := by unfold zIs; rw [h.1 a (by rw [hz.1]; exact Nat.succ_ne_zero 0)]; exact hz
  have q := h.2.1 k a hz
  have q' := h'.2.1 k a hz'
  exact ⟨q'.1.trans q.1, q'.2.trans q.2⟩
/-- no more room is taken -/
def NA (σ τ : zSt) : Prop := znx τ = znx σ ∧ zsl τ = zsl σ
theorem NA.rf : NA σ σ := ⟨rfl, rfl⟩
theorem NA.tr (h : NA σ τ) (h' : NA τ υ) : NA σ υ := ⟨h'.1.trans h.1, h'.2.trans h.2⟩
theorem NA_C {w : Con} (h : toC σ τ c w) : NA σ τ := by
  obtain ⟨n, f, rfl, h⟩ := h; exact NA.rf
theorem NA_G {ds : List (Int32 × Int32 × Int32 × Int32)} {r f b : Int32} (h : toG σ τ g ds r f b) : NA σ τ := by
  obtain ⟨F, A, rfl, h⟩ := h; exact NA.rf
theorem NA_KP {hd : List Int32} {ps : List (List Int32)} (h : toKP σ τ c hd ps) : NA σ τ := by
  obtain ⟨n, f, m, h, e, rfl, _⟩ := h; exact NA.rf
theorem NA_KK {w : List Int32} (h : toKK σ τ c w) : NA σ τ := by
  obtain ⟨n, f, m, h, e, rfl, _⟩ := h; exact NA.rf
end FR
