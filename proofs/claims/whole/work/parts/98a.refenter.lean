/-! THE REFERENCE: a new entry; one is used -/
/-- of all entries but one nothing has changed -/
def FrE (ar ar' : ArT) (e : Nat) : Prop := ∀ d, d ≠ e → (ar' 45 d = ar 45 d ∧ ar' 46 d = ar 46 d ∧ ar' 47 d = ar 47 d ∧ ar' 48 d = ar 48 d ∧ ar' 49 d = ar 49 d) ∧ (∀ i, i < 425 → ar' 44 (425 * d + i) = ar 44 (425 * d + i)) ∧ ∀ q, q < 3 → ar' 50 (3 * d + q) = ar 50 (3 * d + q) ∧ ∀ i, i < 64 → ar' 51 (64 * (3 * d + q) + i) = ar 51 (64 * (3 * d + q) + i)
section REU
variable {σ : zSt} {o : Nat} {sc sc' : ScT} {ar ar' ar2 : ArT} {P : Option Value → zSt → Prop} {x y ev v : Int32} {p s i j q m n a b k f g cap no d e t : Nat} {w : WT} {T : TreT} {A : ActT} {l key : List Int32} {L : List Nat} {c : Con} {cv out : Nat → Con} {S : List Nat} {es : List EntT} {pe : List (Nat × EntT)} {K : CacT} {E : EntT}
theorem FrE.rf : FrE ar ar e := fun _ _ => ⟨⟨rfl, rfl, rfl, rfl, rfl⟩, fun _ _ => rfl, fun _ _ => ⟨rfl, fun _ _ => rfl⟩⟩
theorem FrE.tr (h : FrE ar ar' e) (h' : FrE ar' ar2 e) : FrE ar ar2 e := fun d hd => by
  obtain ⟨⟨a1, a2, a3, a4, a5⟩, b, c⟩ := h d hd
  obtain ⟨⟨a1', a2', a3', a4', a5'⟩, b', c'⟩ := h' d hd
  exact ⟨⟨a1'.trans a1, a2'.trans a2, a3'.trans a3, a4'.trans a4, a5'.trans a5⟩, fun i hi => (b' i hi).trans (b i hi), fun q hq => ⟨(c' q hq).1.trans (c q hq).1, fun i hi => ((c' q hq).2 i hi).trans ((c q hq).2 i hi)⟩⟩
theorem FrE_up (h44 : t ≠ 44) (h50 : t ≠ 50) (h51 : t ≠ 51) : FrE ar (upA ar t e v) e := fun d hd => ⟨⟨upA_ne (fun r => hd r.2), upA_ne (fun r => hd r.2), upA_ne (fun r => hd r.2), upA_ne (fun r => hd r.2), upA_ne (fun r => hd r.2)⟩, fun i _ => upA_ne (fun r => h44 r.1.symm), fun q _ => ⟨upA_ne (fun r => h50 r.1.symm), fun i _ => upA_ne (fun r => h51 r.1.symm)⟩⟩
theorem FrE_ag {S : List Nat} (hA : Ag sc ar sc' ar' S) (hS : ∀ k ∈ [24, 25, 26, 27, 28, 29, 30, 31], k ∉ S) : FrE ar ar' e := fun d _ => ⟨⟨hA.2 45 _ (hS 25 (by decide)), hA.2 46 _ (hS 26 (by decide)), hA.2 47 _ (hS 27 (by decide)), hA.2 48 _ (hS 28 (by decide)), hA.2 49 _ (hS 29 (by decide))⟩, fun i _ => hA.2 44 _ (hS 24 (by decide)), fun q _ => ⟨hA.2 50 _ (hS 30 (by decide)), fun i _ => hA.2 51 _ (hS 31 (by decide))⟩⟩
theorem FrE_cp {ts S0 : Nat} (hn : n ≤ 425) : FrE ar (cpA ar 44 (425 * e) ts S0 n) e := fun d hd => ⟨⟨cpA_ne (by decide), cpA_ne (by decide), cpA_ne (by decide), cpA_ne (by decide), cpA_ne (by decide)⟩, fun i hi => cpA_out (by omega), fun q _ => ⟨cpA_ne (by decide), fun i _ => cpA_ne (by decide)⟩⟩
theorem FrE_C (h : FrC ar ar' 50 51 (3 * e + q)) (hq : q < 3) (hg : Ag sc ar sc' ar' [30, 31]) : FrE ar ar' e := fun d hd => ⟨⟨hg.2 45 _ (by decide), hg.2 46 _ (by decide), hg.2 47 _ (by decide), hg.2 48 _ (by decide), hg.2 49 _ (by decide)⟩, fun i _ => hg.2 44 _ (by decide), fun q' hq' => h (3 * d + q') (by omega)⟩
theorem REnt_fr (h : REnt ar d E) (hok : entOk E) (hF : FrE ar ar' e) (hne : d ≠ e) : REnt ar' d E := by
  obtain ⟨⟨a1, a2⟩, ⟨b1, b2, b3, b4⟩, c⟩ := h
  obtain ⟨⟨f1, f2, f3, f4, f5⟩, fk, fc⟩ := hF d hne
  have hk := hok.1
  exact ⟨⟨by rw [f1]; exact a1, RRow_eq a2 (fun i hi => fk i (by omega))⟩, ⟨by rw [f2]; exact b1, by rw [f3]; exact b2, by rw [f4]; exact b3, by rw [f5]; exact b4⟩, fun q hq => ⟨by rw [(fc q hq).1]; exact (c q hq).1, fun l hl => RRow_eq ((c q hq).2 l hl) (fun i hi => (fc q hq).2 i (by have := (hok.2.1 q l hl).1; omega))⟩⟩
/-- the size that is told of an entry -/
theorem sumC_size : sumC out 3 = eSize (key, out, f, v, no) := rfl
/-- what is laid of a new entry so far -/
def EntQ (ar : ArT) (e q : Nat) (key : List Int32) (out : Nat → Con) (f no : Nat) : Prop := (ar 45 e = nI key.length ∧ RRow ar 44 (425 * e) key) ∧ (ar 46 e = nI (sumC out q) ∧ ar 47 e = nI f ∧ ar 48 e = 0 ∧ ar 49 e = nI no) ∧ ∀ r, r < q → RCc ar 50 51 (3 * e + r) (out r)
theorem sumC_le (h : ∀ k l, out k = some l → l.length ≤ 64) : ∀ q, sumC out q ≤ 16 + 64 * q
  | 0 => Nat.le_refl _
  | q + 1 => by
    have := sumC_le h q
    have := lenC_le (h q)
    show sumC out q + lenC (out q) ≤ _
    omega
theorem lenI_max2 (hl : ∀ l, c = some l → l.length ≤ 64) : (lenI c ≤ 0 ∧ lenC c = 0) ∨ (¬ lenI c ≤ 0 ∧ lenI c = nI (lenC c)) := by
  cases c with
  | none => exact Or.inl ⟨by decide, rfl⟩
  | some l =>
    have := hl l rfl
    by_cases g : l.length = 0
    · left
      refine ⟨?_, g⟩
      show nI l.length ≤ 0
      rw [g]; decide
    · exact Or.inr ⟨nI_nle (n := l.length) (by omega) (by omega), rfl⟩
set_option maxHeartbeats 1000000 in
theorem r_enter (hR : RShape σ o) (h : RCac sc ar (cap, es, ev)) (hl : es.length ≤ 100) (hok : ∀ e ∈ es, entOk e) (hcap : cap ≤ 4000) (hn : NowR sc ar key) (hk : key.length ≤ 425) (hf : sc 49 = nI f) (hcm : RCame ar out) (hno : ar 33 a = nI no) (ha : a < 40) (hE : entOk (key, out, f, 0, no)) (hP : ∀ sc' ar', RCac sc' ar' (cap, (trimW cap (es ++ [(key, out, f, 0, no)])).1, ev + nI (trimW cap (es ++ [(key, out, f, 0, no)])).2) → Ag sc ar sc' ar' [21, 22, 23, 24, 25, 26, 27, 28, 29, 30, 31, 39] → P none (rOv σ o sc' ar')) : wpM 168 [.ref o, .int (nI a)] (rOv σ o sc ar) P := by
  obtain ⟨pe, h1, h2, h3, h4, h5, h6, h7, h8⟩ := h
  have hpl : pe.length ≤ 100 := by
    have : es.length = pe.length := by rw [show es = pe.map (·.2) from h1, List.length_map]
    omega
  have hol : ∀ q l, out q = some l → l.length ≤ 64 := fun q l hl => (hE.2.1 q l hl).1
  refine (b168 hR).mpr ?_
  have find : (∀ e, e < 101 → e ∉ pe.map (·.1) → wp 168 17 [some (.ref o), some (.int (nI a)), some (.int (nI e)), none, none] [] (rOv σ o sc ar) P) → ∀ d e, e + d = 101 → (∀ e', e' < e → e' ∈ pe.map (·.1)) → wp 168 2 [some (.ref o), some (.int (nI a)), some (.int (nI e)), none, none] [] (rOv σ o sc ar) P := by
    intro hgo d
    induction d with
    | zero =>
      intro e hd he
      have := pigeon 101 (pe.map (·.1)) (fun r hr => he r (by omega))
      rw [List.length_map] at this
      omega
    | succ d ih =>
      intro e hd he
      refine (b168_2 hR).mpr ⟨nI_in (N := 101) (by omega) (by omega), ?_⟩
      rw [nI_clamp (by omega), h8 e (by omega)]
      by_cases c : e ∈ pe.map (·.1)
      · rw [decide_eq_true c]
        refine ifn (by decide) ((b168_11 hR).mpr ?_)
        rw [nI_1]
        refine ih (e + 1) (by omega) (fun e' he' => ?_)
        by_cases g : e' = e
        · rw [g]; exact c
        · exact he e' (by omega)
      · rw [decide_eq_false c]
        exact ifp rfl (hgo e (by omega) c)
  refine find (fun e he hne => ?_) 101 0 rfl (fun e' he' => absurd he' (Nat.not_lt_zero e'))
  clear find
  refine (b168_17 hR).mpr ?_
  rw [nI_clamp (by omega)]
  refine ⟨⟨nI_in (N := 101) (by omega) (by omega), Or.inr rfl⟩, ?_⟩
  have g1 : Ag sc ar sc (upA ar 43 e 1) [21, 22, 23, 24, 25, 26, 27, 28, 29, 30, 31, 39] := Ag_ar (by decide)
  have f1 : FrE ar (upA ar 43 e 1) e := FrE_up (by decide) (by decide) (by decide)
  have hn1 : NowR sc (upA ar 43 e 1) key := NowR_ag hn g1 (by decide) (by decide)
  have t1 : (∀ d, d ≠ e → upA ar 43 e 1 43 d = ar 43 d) ∧ upA ar 43 e 1 43 e = 1 := ⟨fun d hd => upA_ne (fun r => hd r.2), upA_same⟩
  have w1 : ∀ i, upA ar 43 e 1 42 i = ar 42 i := fun i => upA_ne (fun r => absurd r.1 (by decide))
  generalize upA ar 43 e 1 = ar1 at g1 f1 hn1 t1 w1
  -- the three contents
  have loop3 : ∀ d q ar4 u4, q + d = 3 → Ag sc ar sc ar4 [21, 22, 23, 24, 25, 26, 27, 28, 29, 30, 31, 39] → FrE ar ar4 e → ((∀ d, d ≠ e → ar4 43 d = ar 43 d) ∧ ar4 43 e = 1) → (∀ i, ar4 42 i = ar 42 i) → EntQ ar4 e q key out f no → wp 168 107 [some (.ref o), some (.int (nI a)), some (.int (nI e)), some (.int (nI q)), u4] [] (rOv σ o sc ar4) P := by
    intro d
    induction d with
    | zero =>
      intro q ar4 u4 hq hg hF ht hw hQ
      have hq : q = 3 := by omega
      subst hq
      refine (b168_107 hR).mpr (ifp (nI_le (a := 3) (by omega) (by omega)) ((b168_212 hR).mpr ?_))
      rw [h5, nI_clamp (by omega), nI_1, upS_ne (by omega), h4]
      refine ⟨nI_in (N := 101) (by omega) (by omega), ?_⟩
      have hg5 : Ag sc ar (upS sc 21 (nI (pe.length + 1))) (upA ar4 42 pe.length (nI e)) [21, 22, 23, 24, 25, 26, 27, 28, 29, 30, 31, 39] := (hg.tr (Ag_ar (by decide))).tr (Ag_sc (by decide))
      have a5 : Ag sc ar4 (upS sc 21 (nI (pe.length + 1))) (upA ar4 42 pe.length (nI e)) [21, 22] := (Ag_ar (by decide)).tr (Ag_sc (by decide))
      refine r_trim (es := es ++ [(key, out, f, 0, no)]) (ev := ev) hR ?_ (by rw [List.length_append]; simp; omega) (fun E hE' => ?_) hcap (fun sc' ar' hr hg' => (b168_240 hR).mpr (hP _ _ hr (hg5.tr (hg'.mono (by decide)))))
      · refine ⟨pe ++ [(e, (key, out, f, 0, no))], ?_, ?_, fun p hp => ?_, ?_, ?_, ?_, ?_, fun x hx => ?_⟩
        · show es ++ [_] = _
          rw [List.map_append, show es = pe.map (·.2) from h1]; rfl
        · rw [List.map_append]
          refine List.nodup_append.mpr ⟨h2, by simp, fun a ha b hb => ?_⟩
          have : b = e := by simpa using hb
          rw [this]; intro r; rw [r] at ha; exact hne ha
        · rcases List.mem_append.mp hp with hp | hp
          · have hx := h3 p hp
            refine ⟨hx.1, REnt_ag (REnt_fr hx.2 (hok p.2 ?_) hF ?_) a5 (by decide)⟩
            · rw [show es = pe.map (·.2) from h1]; exact List.mem_map.mpr ⟨p, hp, rfl⟩
            · intro r; exact hne (List.mem_map.mpr ⟨p, hp, r⟩)
          · have : p = (e, (key, out, f, 0, no)) := by simpa using hp
            rw [this]
            refine ⟨he, REnt_ag ?_ a5 (by decide)⟩
            obtain ⟨q1, ⟨q2, q3, q4, q5⟩, q6⟩ := hQ
            exact ⟨q1, ⟨q2, q3, q4, q5⟩, q6⟩
        · rw [upS_ne (by omega)]; exact h4
        · rw [upS_same, List.length_append]; rfl
        · rw [upS_ne (by omega)]; exact h6
        · rw [List.map_append]
          have hr42 : RRow ar4 42 0 (pe.map fun p => nI p.1) := RRow_ag h7 hw
          have := RRow_put (v := nI e) hr42
          rw [Nat.zero_add, List.length_map] at this
          exact this
        · rw [upA_ne (fun r => absurd r.1 (by decide)), List.map_append]
          by_cases c : x = e
          · rw [c, ht.2, decide_eq_true (by simp)]; rfl
          · rw [ht.1 x c, h8 x hx]
            congr 1
            refine sdec ?_
            rw [List.mem_append]
            exact ⟨Or.inl, fun r => r.resolve_right (fun r => c (by simpa using r))⟩
      · rcases List.mem_append.mp hE' with r | r
        · exact hok E r
        · have : E = (key, out, f, 0, no) := by simpa using r
          rw [this]; exact hE
    | succ d ih =>
      intro q ar4 u4 hq hg hF ht hw hQ
      have hq3 : q < 3 := by omega
      obtain ⟨⟨q1, q1'⟩, ⟨q2, q3, q4, q5⟩, q6⟩ := hQ
      have hck : RCc ar4 70 71 q (out q) := RCc_ag (hcm q hq3) (fun i => hg.2 70 i (by decide)) (fun i => hg.2 71 i (by decide))
      have h64 := lenC_le (hol q)
      have hsl := sumC_le hol q
      refine (b168_107 hR).mpr (ifn (nI_ge (b := 3) (by omega) (by omega)) ((b168_112 hR).mpr ?_))
      rw [i3, nI_clamp (n := 3 * e + q) (by omega), nI_clamp (n := q) (by omega)]
      refine ⟨nI_in (N := 3) (by omega) (by omega), nI_in (N := 303) (by omega) (by omega), ?_⟩
      have inner : ∀ e2 j, j + e2 = lenC (out q) → wp 168 131 [some (.ref o), some (.int (nI a)), some (.int (nI e)), some (.int (nI q)), some (.int (nI j))] [] (rOv σ o sc (cpC ar4 50 51 (3 * e + q) 70 71 q j)) P := by
        intro e2
        induction e2 with
        | zero =>
          intro j hj
          have hj : j = lenC (out q) := by omega
          subst hj
          obtain ⟨z1, z2⟩ := cpC_ok (t2 := 50) (b2 := 51) (g := 3 * e + q) hck (hol q) (by decide) (by decide) (rfl : lenC (out q) = lenC (out q))
          have zg : Ag sc ar4 sc (cpC ar4 50 51 (3 * e + q) 70 71 q (lenC (out q))) [30, 31] := Ag_cpC (by decide) (by decide)
          have z46 := zg.2 46 e (by decide)
          have zl := cpC_len (t2 := 50) (b2 := 51) (g := 3 * e + q) (n := lenC (out q)) hck (by decide) (by decide)
          generalize cpC ar4 50 51 (3 * e + q) 70 71 q (lenC (out q)) = ar5 at z1 z2 zg z46 zl
          refine (b168_131 hR).mpr ⟨nI_in (N := 3) (by omega) (by omega), ?_⟩
          rw [nI_clamp (by omega), zl]
          refine ifp (lenI_leC h64) ((b168_178 hR).mpr ?_)
          rw [nI_clamp (n := e) (by omega), nI_clamp (n := q) (by omega), zl, z46, q2]
          refine ⟨nI_in (N := 101) (by omega) (by omega), nI_in (N := 3) (by omega) (by omega), ?_⟩
          have nx : wp 168 107 [some (.ref o), some (.int (nI a)), some (.int (nI e)), some (.int (nI (q + 1))), some (.int (nI (lenC (out q))))] [] (rOv σ o sc (upA ar5 46 e (nI (sumC out q + lenC (out q))))) P := by
            have ug : Ag sc ar5 sc (upA ar5 46 e (nI (sumC out q + lenC (out q)))) [26] := Ag_ar (by decide)
            refine ih (q + 1) _ _ (by omega) ((hg.tr (zg.mono (by decide))).tr (ug.mono (by decide))) ((hF.tr (FrE_C z2 hq3 zg)).tr (FrE_up (by decide) (by decide) (by decide))) ⟨fun d hd => ?_, ?_⟩ (fun i => ?_) ⟨⟨?_, ?_⟩, ⟨?_, ?_, ?_, ?_⟩, fun r hr => ?_⟩
            · rw [ug.2 43 _ (by decide), zg.2 43 _ (by decide)]; exact ht.1 d hd
            · rw [ug.2 43 _ (by decide), zg.2 43 _ (by decide)]; exact ht.2
            · rw [ug.2 42 _ (by decide), zg.2 42 _ (by decide)]; exact hw i
            · rw [ug.2 45 _ (by decide), zg.2 45 _ (by decide)]; exact q1
            · exact RRow_ag q1' (fun i => by rw [ug.2 44 _ (by decide), zg.2 44 _ (by decide)])
            · exact upA_same
            · rw [ug.2 47 _ (by decide), zg.2 47 _ (by decide)]; exact q3
            · rw [ug.2 48 _ (by decide), zg.2 48 _ (by decide)]; exact q4
            · rw [ug.2 49 _ (by decide), zg.2 49 _ (by decide)]; exact q5
            · refine RCc_ag ?_ (fun i => ug.2 50 i (by decide)) (fun i => ug.2 51 i (by decide))
              by_cases c : r = q
              · rw [c]; exact z1
              · exact RCc_fr (q6 r (by omega)) (hol r) z2 (by omega)
          rcases lenI_max2 (hol q) with ⟨y1, y2⟩ | ⟨y1, y2⟩
          · refine ifp y1 ((b168_203 hR).mpr ((b168_204 hR).mpr ?_))
            rw [nI_clamp (n := e) (by omega), nI_1, Int32.add_zero]
            rw [y2, Nat.add_zero] at nx
            refine ⟨nI_in (N := 101) (by omega) (by omega), ?_⟩
            rw [y2]
            exact nx
          · refine ifn y1 ((b168_194 hR).mpr ?_)
            rw [nI_clamp (n := q) (by omega), zl]
            refine ⟨nI_in (N := 3) (by omega) (by omega), (b168_204 hR).mpr ?_⟩
            rw [nI_clamp (n := e) (by omega), nI_1, y2, nI_add]
            exact ⟨nI_in (N := 101) (by omega) (by omega), nx⟩
        | succ e2 ih2 =>
          intro j hj
          refine (b168_131 hR).mpr ⟨nI_in (N := 3) (by omega) (by omega), ?_⟩
          rw [nI_clamp (by omega), cpC_len hck (by decide) (by decide)]
          refine ifn (lenI_nle (by omega) h64) ((b168_142 hR).mpr ?_)
          have e192 : 192 * nI e + 64 * nI q + nI j = nI (64 * (3 * e + q) + j) := by
            rw [show (192 : Int32) = nI 192 from rfl, show (64 : Int32) = nI 64 from rfl, nI_mul, nI_mul, nI_add, nI_add, show 192 * e + 64 * q + j = 64 * (3 * e + q) + j by omega]
          rw [e192, i64, nI_clamp (n := 64 * (3 * e + q) + j) (by omega), nI_clamp (n := 64 * q + j) (by omega), cpC_step (by decide), nI_1]
          exact ⟨nI_in (N := 192) (by omega) (by omega), nI_in (N := 19392) (by omega) (by omega), ih2 (j + 1) (by omega)⟩
      have := inner _ 0 (Nat.zero_add _)
      rw [cpC_0] at this
      exact this
  -- the key
  have loop1 : ∀ d k, k + d = key.length → wp 168 26 [some (.ref o), some (.int (nI a)), some (.int (nI e)), some (.int (nI k)), none] [] (rOv σ o sc (cpA ar1 44 (425 * e) 62 0 k)) P := by
    intro d
    induction d with
    | zero =>
      intro k hk'
      have hk' : k = key.length := by omega
      subst hk'
      refine (b168_26 hR).mpr (ifp (by rw [hn.1]; exact nI_le (by omega) (by omega)) ((b168_58 hR).mpr ?_))
      have cg : Ag sc ar1 sc (cpA ar1 44 (425 * e) 62 0 key.length) [24] := Ag_cp (by decide)
      have cF : FrE ar1 (cpA ar1 44 (425 * e) 62 0 key.length) e := FrE_cp hk
      have crow : RRow (cpA ar1 44 (425 * e) 62 0 key.length) 44 (425 * e) key := cpA_row hn1.2
      generalize cpA ar1 44 (425 * e) 62 0 key.length = ar2 at cg cF crow
      rw [nI_clamp (n := e) (by omega), nI_clamp (n := a) (by omega), hn.1, hf]
      refine ⟨nI_in (N := 101) (by omega) (by omega), nI_in (N := 101) (by omega) (by omega), nI_in (N := 101) (by omega) (by omega), nI_in (N := 101) (by omega) (by omega), nI_in (N := 40) (by omega) (by omega), nI_in (N := 101) (by omega) (by omega), ?_⟩
      have e33 : upA (upA (upA (upA ar2 45 e (nI key.length)) 46 e 16) 47 e (nI f)) 48 e 0 33 a = nI no := by
        rw [upA_ne (fun r => absurd r.1 (by decide)), upA_ne (fun r => absurd r.1 (by decide)), upA_ne (fun r => absurd r.1 (by decide)), upA_ne (fun r => absurd r.1 (by decide)), cg.2 33 _ (by decide), g1.2 33 _ (by decide)]; exact hno
      rw [e33]
      have ug : Ag sc ar2 sc (upA (upA (upA (upA (upA ar2 45 e (nI key.length)) 46 e 16) 47 e (nI f)) 48 e 0) 49 e (nI no)) [25, 26, 27, 28, 29] := ((((Ag_ar (by decide)).tr (Ag_ar (by decide))).tr (Ag_ar (by decide))).tr (Ag_ar (by decide))).tr (Ag_ar (by decide))
      have uF : FrE ar2 (upA (upA (upA (upA (upA ar2 45 e (nI key.length)) 46 e 16) 47 e (nI f)) 48 e 0) 49 e (nI no)) e := ((((FrE_up (by decide) (by decide) (by decide)).tr (FrE_up (by decide) (by decide) (by decide))).tr (FrE_up (by decide) (by decide) (by decide))).tr (FrE_up (by decide) (by decide) (by decide))).tr (FrE_up (by decide) (by decide) (by decide))
      refine loop3 3 0 _ none rfl ((g1.tr (cg.mono (by decide))).tr (ug.mono (by decide))) ((f1.tr cF).tr uF) ⟨fun d hd => ?_, ?_⟩ (fun i => ?_) ⟨⟨?_, RRow_ag crow (fun i => ug.2 44 i (by decide))⟩, ⟨?_, ?_, ?_, upA_same⟩, fun r hr => absurd hr (Nat.not_lt_zero r)⟩
      · rw [ug.2 43 _ (by decide), cg.2 43 _ (by decide)]; exact t1.1 d hd
      · rw [ug.2 43 _ (by decide), cg.2 43 _ (by decide)]; exact t1.2
      · rw [ug.2 42 _ (by decide), cg.2 42 _ (by decide)]; exact w1 i
      · rw [upA_ne (fun r => absurd r.1 (by decide)), upA_ne (fun r => absurd r.1 (by decide)), upA_ne (fun r => absurd r.1 (by decide)), upA_ne (fun r => absurd r.1 (by decide)), upA_same]
      · rw [upA_ne (fun r => absurd r.1 (by decide)), upA_ne (fun r => absurd r.1 (by decide)), upA_ne (fun r => absurd r.1 (by decide)), upA_same]; rfl
      · rw [upA_ne (fun r => absurd r.1 (by decide)), upA_ne (fun r => absurd r.1 (by decide)), upA_same]
      · rw [upA_ne (fun r => absurd r.1 (by decide)), upA_same]
    | succ d ih =>
      intro k hk'
      refine (b168_26 hR).mpr (ifn (by rw [hn.1]; exact nI_ge (by omega) (by omega)) ((b168_34 hR).mpr ?_))
      have st := cpA_step (ar := ar1) (td := 44) (D := 425 * e) (ts := 62) (S := 0) (n := k) (Or.inl (by decide))
      rw [Nat.zero_add] at st
      rw [i425, nI_1, nI_clamp (n := k) (by omega), nI_clamp (n := 425 * e + k) (by omega), st]
      exact ⟨nI_in (N := 425) (by omega) (by omega), nI_in (N := 42925) (by omega) (by omega), ih (k + 1) (by omega)⟩
  have := loop1 _ 0 (Nat.zero_add _)
  rw [cpA_0] at this
  exact this
theorem getD_E {d : EntT} (h : j < es.length) : es.getD j d = es[j] := by
  rw [List.getD_eq_getElem?_getD, List.getElem?_eq_getElem h]; rfl
theorem map_eraseIdx {α β : Type} {F : α → β} : ∀ (l : List α) (j : Nat), (l.eraseIdx j).map F = (l.map F).eraseIdx j
  | [], _ => rfl
  | _ :: _, 0 => rfl
  | a :: l, j + 1 => by
    show F a :: (l.eraseIdx j).map F = F a :: (l.map F).eraseIdx j
    rw [map_eraseIdx l j]
theorem r_use (hR : RShape σ o) (h : RCac sc ar (cap, es, ev)) (hl : es.length ≤ 100) (hok : ∀ e ∈ es, entOk e) (hj : j < es.length) (hP : ∀ sc' ar', RCac sc' ar' (cap, es.eraseIdx j ++ [useE es[j]], ev) → sc' 49 = nI (eFail es[j]) → RCame ar' (eOut es[j]) → Ag sc ar sc' ar' [21, 22, 28, 49, 50, 51] → P none (rOv σ o sc' ar')) : wpM 169 [.ref o, .int (nI j)] (rOv σ o sc ar) P := by
  obtain ⟨pe, h1, h2, h3, h4, h5, h6, h7, h8⟩ := h
  have h1 : es = pe.map (·.2) := h1
  have hpl : pe.length = es.length := by rw [h1, List.length_map]
  have hjp : j < pe.length := by omega
  have hm := h3 _ (List.getElem_mem hjp)
  have e2 : es[j] = pe[j].2 := by simp only [h1, List.getElem_map]
  have hokj := hok _ (List.getElem_mem hj)
  have hol : ∀ q l, eOut es[j] q = some l → l.length ≤ 64 := fun q l hl => (hokj.2.1 q l hl).1
  rw [← e2] at hm
  have h42 := RRow_map h7 hjp
  have hsp : ∀ p, p ∈ pe.eraseIdx j → p ∈ pe ∧ p.1 ≠ pe[j].1 := by
    intro p hp
    obtain ⟨i, hi, r⟩ := List.mem_eraseIdx_iff_getElem.mp hp
    refine ⟨r.2 ▸ List.getElem_mem _, fun q => ?_⟩
    have hi' : i < pe.length := hi
    have := nod_map h2 hi' hjp (by rw [← q, ← r.2])
    exact r.1 this
  generalize hee : pe[j].1 = e at hm h42 hsp
  obtain ⟨he, hE⟩ := hm
  refine (b169 hR).mpr ?_
  rw [nI_clamp (by omega), h42]
  refine ⟨nI_in (N := 101) (by omega) (by omega), ?_⟩
  refine r_takeOut (i := j) hR h7 (by rw [h5, List.length_map]) (by rw [List.length_map]; exact hjp) (by rw [List.length_map]; omega) (fun sc1 ar1 n1 r1 g1 => (b169_12 hR).mpr ?_)
  rw [List.length_map] at n1
  rw [n1, nI_clamp (n := pe.length - 1) (by omega), nI_1, nI_clamp (n := e) (by omega)]
  refine ⟨nI_in (N := 101) (by omega) (by omega), nI_in (N := 101) (by omega) (by omega), nI_in (N := 101) (by omega) (by omega), nI_in (N := 101) (by omega) (by omega), ?_⟩
  have v48 : upA ar1 42 (pe.length - 1) (nI e) 48 e = eFnd es[j] := by
    rw [upA_ne (fun r => absurd r.1 (by decide)), g1.2 48 _ (by decide)]; exact hE.2.1.2.2.1
  rw [v48]
  have v47 : upA (upA ar1 42 (pe.length - 1) (nI e)) 48 e (eFnd es[j] + 1) 47 e = nI (eFail es[j]) := by
    rw [upA_ne (fun r => absurd r.1 (by decide)), upA_ne (fun r => absurd r.1 (by decide)), g1.2 47 _ (by decide)]; exact hE.2.1.2.1
  rw [v47]
  have pl1 : pe.length - 1 + 1 = pe.length := by omega
  rw [pl1]
  have hA : Ag sc ar (upS (upS sc1 21 (nI pe.length)) 49 (nI (eFail es[j]))) (upA (upA ar1 42 (pe.length - 1) (nI e)) 48 e (eFnd es[j] + 1)) [21, 22, 28, 49, 50, 51] := ((g1.mono (by decide)).tr ((Ag_ar (by decide)).tr (Ag_ar (by decide)))).tr ((Ag_sc (by decide)).tr (Ag_sc (by decide)))
  have hF : FrE ar (upA (upA ar1 42 (pe.length - 1) (nI e)) 48 e (eFnd es[j] + 1)) e := ((FrE_ag (e := e) g1 (by decide)).tr (FrE_ag (sc := sc1) (sc' := sc1) (Ag_ar (S := [22]) (by decide)) (by decide))).tr (FrE_up (by decide) (by decide) (by decide))
  have hC : RCac (upS (upS sc1 21 (nI pe.length)) 49 (nI (eFail es[j]))) (upA (upA ar1 42 (pe.length - 1) (nI e)) 48 e (eFnd es[j] + 1)) (cap, es.eraseIdx j ++ [useE es[j]], ev) := by
    have len1 : (pe.eraseIdx j).length = pe.length - 1 := List.length_eraseIdx_of_lt hjp
    refine ⟨pe.eraseIdx j ++ [(e, useE es[j])], ?_, ?_, fun p hp => ?_, ?_, ?_, ?_, ?_, fun x hx => ?_⟩
    · show es.eraseIdx j ++ [_] = _
      rw [List.map_append, map_eraseIdx, ← h1]; rfl
    · rw [List.map_append]
      refine List.nodup_append.mpr ⟨?_, by simp, fun a ha b hb => ?_⟩
      · rw [map_eraseIdx]; exact h2.sublist (List.eraseIdx_sublist _ _)
      · have : b = e := by simpa using hb
        rw [this]; intro r; rw [r] at ha
        obtain ⟨p, hp, hp2⟩ := List.mem_map.mp ha
        exact (hsp p hp).2 hp2
    · rcases List.mem_append.mp hp with hp | hp
      · obtain ⟨m1, m2⟩ := hsp p hp
        have hx := h3 p m1
        refine ⟨hx.1, REnt_fr hx.2 (hok p.2 ?_) hF m2⟩
        rw [h1]; exact List.mem_map.mpr ⟨p, m1, rfl⟩
      · have : p = (e, useE es[j]) := by simpa using hp
        rw [this]
        refine ⟨he, ?_⟩
        obtain ⟨⟨a1, a2⟩, ⟨b1, b2, b3, b4⟩, c⟩ := hE
        have ag2 : Ag sc ar sc1 (upA ar1 42 (pe.length - 1) (nI e)) [21, 22] := g1.tr (Ag_ar (by decide))
        have ag3 : ∀ t i, t ≠ 48 → upA (upA ar1 42 (pe.length - 1) (nI e)) 48 e (eFnd es[j] + 1) t i = upA ar1 42 (pe.length - 1) (nI e) t i := fun t i ht => upA_ne (fun r => ht r.1)
        refine ⟨⟨?_, ?_⟩, ⟨?_, ?_, upA_same, ?_⟩, fun q hq => ?_⟩
        · rw [ag3 _ _ (by decide), ag2.2 45 _ (by decide)]; exact a1
        · exact RRow_ag a2 (fun i => by rw [ag3 _ _ (by decide), ag2.2 44 _ (by decide)])
        · rw [ag3 _ _ (by decide), ag2.2 46 _ (by decide)]; exact b1
        · rw [ag3 _ _ (by decide), ag2.2 47 _ (by decide)]; exact b2
        · rw [ag3 _ _ (by decide), ag2.2 49 _ (by decide)]; exact b4
        · exact RCc_ag (c q hq) (fun i => by rw [ag3 _ _ (by decide), ag2.2 50 _ (by decide)]) (fun i => by rw [ag3 _ _ (by decide), ag2.2 51 _ (by decide)])
    · rw [hA.1 20 (by decide)]; exact h4
    · rw [upS_ne (by omega), upS_same, List.length_append, len1]
      show nI pe.length = nI (pe.length - 1 + 1)
      rw [pl1]
    · rw [hA.1 39 (by decide)]; exact h6
    · rw [List.map_append]
      have r2 : RRow ar1 42 0 ((pe.eraseIdx j).map fun p => nI p.1) := by rw [map_eraseIdx]; exact r1
      have := RRow_put (v := nI e) r2
      rw [Nat.zero_add, List.length_map, len1] at this
      exact RRow_ag this (fun i => upA_ne (fun r => absurd r.1 (by decide)))
    · rw [upA_ne (fun r => absurd r.1 (by decide)), upA_ne (fun r => absurd r.1 (by decide)), g1.2 43 _ (by decide), h8 x hx, List.map_append]
      congr 1
      refine sdec ?_
      rw [List.mem_append]
      constructor
      · intro r
        by_cases c : x = e
        · right; rw [c]; simp
        · left
          obtain ⟨p, hp, hp2⟩ := List.mem_map.mp r
          obtain ⟨i, hi, hi2⟩ := List.mem_iff_getElem.mp hp
          refine List.mem_map.mpr ⟨p, List.mem_eraseIdx_iff_getElem.mpr ⟨i, hi, ?_, hi2⟩, hp2⟩
          intro q; subst q
          exact c (by rw [← hp2, ← hi2, hee])
      · intro r
        rcases r with r | r
        · obtain ⟨p, hp, hp2⟩ := List.mem_map.mp r
          exact List.mem_map.mpr ⟨p, (hsp p hp).1, hp2⟩
        · have : x = e := by simpa using r
          rw [this, ← hee]
          exact List.mem_map.mpr ⟨pe[j], List.getElem_mem hjp, rfl⟩
  have hO : ∀ q, q < 3 → RCc (upA (upA ar1 42 (pe.length - 1) (nI e)) 48 e (eFnd es[j] + 1)) 50 51 (3 * e + q) (eOut es[j] q) := fun q hq => RCc_ag (hE.2.2 q hq) (fun i => hA.2 50 i (by decide)) (fun i => hA.2 51 i (by decide))
  have h49 : (upS (upS sc1 21 (nI pe.length)) 49 (nI (eFail es[j]))) 49 = nI (eFail es[j]) := upS_same
  generalize upS (upS sc1 21 (nI pe.length)) 49 (nI (eFail es[j])) = sc2 at hA hC h49
  generalize upA (upA ar1 42 (pe.length - 1) (nI e)) 48 e (eFnd es[j] + 1) = ar2 at hA hC hO
  have loop3 : ∀ d q ar4 u4, q + d = 3 → Ag sc2 ar2 sc2 ar4 [50, 51] → (∀ r, r < q → RCc ar4 70 71 r (eOut es[j] r)) → wp 169 54 [some (.ref o), some (.int (nI j)), some (.int (nI e)), some (.int (nI q)), u4] [] (rOv σ o sc2 ar4) P := by
    intro d
    induction d with
    | zero =>
      intro q ar4 u4 hq hg hQ
      refine (b169_54 hR).mpr (ifp (nI_le (a := 3) (by omega) (by omega)) ((b169_131 hR).mpr (hP _ _ (RCac_ag hC hg (by decide)) h49 (fun r hr => hQ r (by omega)) (hA.tr (hg.mono (by decide))))))
    | succ d ih =>
      intro q ar4 u4 hq hg hQ
      have hq3 : q < 3 := by omega
      have hck : RCc ar4 50 51 (3 * e + q) (eOut es[j] q) := RCc_ag (hO q hq3) (fun i => hg.2 50 i (by decide)) (fun i => hg.2 51 i (by decide))
      have h64 := lenC_le (hol q)
      refine (b169_54 hR).mpr (ifn (nI_ge (b := 3) (by omega) (by omega)) ((b169_59 hR).mpr ?_))
      rw [i3, nI_clamp (n := 3 * e + q) (by omega), nI_clamp (n := q) (by omega)]
      refine ⟨nI_in (N := 303) (by omega) (by omega), nI_in (N := 3) (by omega) (by omega), ?_⟩
      have inner : ∀ e2 i, i + e2 = lenC (eOut es[j] q) → wp 169 78 [some (.ref o), some (.int (nI j)), some (.int (nI e)), some (.int (nI q)), some (.int (nI i))] [] (rOv σ o sc2 (cpC ar4 70 71 q 50 51 (3 * e + q) i)) P := by
        have v70 : ∀ i, cpC ar4 70 71 q 50 51 (3 * e + q) i 70 q = lenI (eOut es[j] q) := fun i => by
          unfold cpC; rw [cpA_ne (by decide), upA_same]; exact hck.1
        intro e2
        induction e2 with
        | zero =>
          intro i hi
          have hi : i = lenC (eOut es[j] q) := by omega
          subst hi
          refine (b169_78 hR).mpr ⟨nI_in (N := 3) (by omega) (by omega), ?_⟩
          rw [nI_clamp (by omega), v70]
          refine ifp (lenI_leC h64) ((b169_125 hR).mpr ?_)
          rw [nI_1]
          obtain ⟨z1, z2⟩ := cpC_ok (t2 := 70) (b2 := 71) (g := q) hck (hol q) (by decide) (by decide) (rfl : lenC (eOut es[j] q) = lenC (eOut es[j] q))
          refine ih (q + 1) _ _ (by omega) (hg.tr (Ag_cpC (by decide) (by decide))) (fun r hr => ?_)
          by_cases c : r = q
          · rw [c]; exact z1
          · exact RCc_fr (hQ r (by omega)) (hol r) z2 c
        | succ e2 ih2 =>
          intro i hi
          refine (b169_78 hR).mpr ⟨nI_in (N := 3) (by omega) (by omega), ?_⟩
          rw [nI_clamp (by omega), v70]
          refine ifn (lenI_nle (by omega) h64) ((b169_89 hR).mpr ?_)
          have e192 : 192 * nI e + 64 * nI q + nI i = nI (64 * (3 * e + q) + i) := by
            rw [show (192 : Int32) = nI 192 from rfl, show (64 : Int32) = nI 64 from rfl, nI_mul, nI_mul, nI_add, nI_add, show 192 * e + 64 * q + i = 64 * (3 * e + q) + i by omega]
          rw [e192, i64, nI_clamp (n := 64 * (3 * e + q) + i) (by omega), nI_clamp (n := 64 * q + i) (by omega), cpC_step (by decide), nI_1]
          exact ⟨nI_in (N := 19392) (by omega) (by omega), nI_in (N := 192) (by omega) (by omega), ih2 (i + 1) (by omega)⟩
      have := inner _ 0 (Nat.zero_add _)
      rw [cpC_0] at this
      exact this
  exact loop3 3 0 ar2 none rfl Ag.rf (fun r hr => absurd hr (Nat.not_lt_zero r))
end REU
