/-! THE REFERENCE: entries are evicted, found, entered, used -/
section REN
variable {σ : zSt} {o : Nat} {sc sc' : ScT} {ar ar' : ArT} {P : Option Value → zSt → Prop} {x y ev : Int32} {p s i j q m n a b k f g cap no : Nat} {w : WT} {T : TreT} {A : ActT} {l key : List Int32} {L : List Nat} {c : Con} {cv out : Nat → Con} {S : List Nat} {es : List EntT} {pe : List (Nat × EntT)} {K : CacT}
theorem pigeon : ∀ (n : Nat) (L : List Nat), (∀ e, e < n → e ∈ L) → n ≤ L.length
  | 0, _, _ => Nat.zero_le _
  | n + 1, L, h => by
    have h1 := pigeon n (L.erase n) (fun e he => (List.mem_erase_of_ne (by omega)).mpr (h e (by omega)))
    have h2 := List.length_erase_of_mem (h n (by omega))
    have h3 := List.length_pos_of_mem (h n (by omega))
    omega
theorem r_trim (hR : RShape σ o) (h : RCac sc ar (cap, es, ev)) (hl : es.length ≤ 101) (hok : ∀ e ∈ es, entOk e) (hcap : cap ≤ 4000) (hP : ∀ sc' ar', RCac sc' ar' (cap, (trimW cap es).1, ev + nI (trimW cap es).2) → Ag sc ar sc' ar' [21, 22, 23, 39] → P (some (.int (nI (trimW cap es).2))) (rOv σ o sc' ar')) : wpM 166 [.ref o, .int (nI cap)] (rOv σ o sc ar) P := by
  refine (b166 hR).mpr ?_
  have key : ∀ (es1 : List EntT) k sc1 ar1, RCac sc1 ar1 (cap, es1, ev) → es1.length ≤ 101 → (∀ e ∈ es1, entOk e) → Ag sc ar sc1 ar1 [21, 22, 23, 39] → (trimW cap es1).2 + k = (trimW cap es).2 → (trimW cap es1).1 = (trimW cap es).1 → wp 166 2 [some (.ref o), some (.int (nI cap)), some (.int (nI k))] [] (rOv σ o sc1 ar1) P := by
    intro es1
    induction es1 with
    | nil =>
      intro k sc1 ar1 h1 hl1 hok1 hg e2 e1
      have h21 : sc1 21 = nI 0 := by
        obtain ⟨pe, g1, g2, g3, g4, g5, g6, g7, g8⟩ := h1
        rw [g5]
        have : pe = [] := by
          cases pe with
          | nil => rfl
          | cons q r => cases g1
        rw [this]; rfl
      refine (b166_2 hR).mpr (ifn (by rw [h21]; decide) ((b166_11 hR).mpr (r_sizes hR h1 (by show 0 ≤ 101; omega) ((b166_15 hR).mpr (ifp (nI_le (a := 0) (Nat.zero_le _) (by omega)) ((b166_42 hR).mpr ?_))))))
      obtain ⟨pe, g1, g2, g3, g4, g5, g6, g7, g8⟩ := h1
      have e2' : k = (trimW cap es).2 := by rw [← e2]; exact (Nat.zero_add k).symm
      rw [e2']
      refine hP _ _ ⟨pe, by rw [← e1]; exact g1, g2, g3, by rw [upS_ne (by omega)]; exact g4, by rw [upS_ne (by omega)]; exact g5, by rw [upS_same, g6], g7, g8⟩ (hg.tr (Ag_sc (by decide)))
    | cons e0 es1 ih =>
      intro k sc1 ar1 h1 hl1 hok1 hg e2 e1
      have hsz := sizesW_le hok1
      obtain ⟨pe, g1, g2, g3, g4, g5, g6, g7, g8⟩ := id h1
      have hpl : pe.length = (e0 :: es1).length := by
        have : (e0 :: es1) = pe.map (·.2) := g1
        rw [this, List.length_map]
      have hpos : 0 < pe.length := by rw [hpl]; simp
      -- the first one goes
      have go : (100 < (e0 :: es1).length ∨ cap < sizesW (e0 :: es1)) → wp 166 19 [some (.ref o), some (.int (nI cap)), some (.int (nI k))] [] (rOv σ o sc1 ar1) P := by
        intro hc
        have et : trimW cap (e0 :: es1) = ((trimW cap es1).1, (trimW cap es1).2 + 1) := by
          show (if _ then _ else _) = _
          rw [if_pos hc]
        rw [et] at e1 e2
        cases pe with
        | nil => exact absurd hpos (Nat.lt_irrefl 0)
        | cons p0 pe =>
          have hp0 := (g3 p0 (by simp)).1
          refine (b166_19 hR).mpr ?_
          rw [show Int32.toNatClampNeg 0 = 0 from rfl, RRow_map g7 (by simp)]
          show _ ∧ (_ ∧ _) ∧ _
          rw [List.getElem_cons_zero, nI_clamp (by omega)]
          refine ⟨nI_in (c := 0) (N := 101) (by omega) (by omega), ⟨nI_in (N := 101) (by omega) (by omega), Or.inl rfl⟩, ?_⟩
          have hr42 : RRow (upA ar1 43 p0.1 0) 42 0 ((p0 :: pe).map fun p => nI p.1) := RRow_ag g7 (fun i => upA_ne (fun r => absurd r.1 (by decide)))
          refine r_takeOut (i := 0) hR hr42 (by rw [g5, List.length_map]) (by simp) (by rw [List.length_map, hpl]; exact hl1) (fun sc2 ar2 n2 r2 g2' => (b166_36 hR).mpr ?_)
          rw [nI_1]
          have hnd := List.nodup_cons.mp (show (p0.1 :: pe.map (·.1)).Nodup from g2)
          have hg' : Ag sc1 ar1 sc2 ar2 [21, 22, 23, 39] := (Ag_ar (ar := ar1) (t := 43) (i := p0.1) (v := 0) (by decide)).tr (g2'.mono (by decide))
          refine ih (k + 1) sc2 ar2 ⟨pe, ?_, hnd.2, fun p hp => ⟨(g3 p (List.mem_cons_of_mem _ hp)).1, REnt_ag (g3 p (List.mem_cons_of_mem _ hp)).2 hg' (by decide)⟩, by rw [hg'.1 20 (by decide)]; exact g4, ?_, by rw [g2'.1 39 (by decide)]; exact g6, ?_, fun e he => ?_⟩ (by simp at hl1; omega) (fun e he => hok1 e (List.mem_cons_of_mem _ he)) (hg.tr hg') (by dsimp only at e2; omega) e1
          · have : (e0 :: es1) = (p0 :: pe).map (·.2) := g1
            exact (List.cons.inj this).2
          · rw [n2, List.length_map]; rfl
          · exact r2
          · rw [g2'.2 43 _ (by decide)]
            by_cases c : e = p0.1
            · rw [c, upA_same, decide_eq_false hnd.1]; rfl
            · rw [upA_ne (fun r => c r.2), g8 e he]
              congr 1
              refine sdec ?_
              show e ∈ p0.1 :: pe.map (·.1) ↔ _
              rw [List.mem_cons]
              exact ⟨fun r => r.resolve_left c, Or.inr⟩
      by_cases c1 : 100 < (e0 :: es1).length
      · refine (b166_2 hR).mpr (ifp ?_ (go (Or.inl c1)))
        rw [g5, hpl]; exact nI_lt (a := 100) c1 (by omega)
      · refine (b166_2 hR).mpr (ifn ?_ ((b166_11 hR).mpr (r_sizes hR h1 hl1 ((b166_15 hR).mpr ?_))))
        · rw [g5, hpl]; exact nI_nlt (b := (e0 :: es1).length) (a := 100) (by omega) (by omega)
        · show if nI (sizesW (e0 :: es1)) ≤ nI cap then _ else _
          by_cases c2 : cap < sizesW (e0 :: es1)
          · exact ifn (nI_ge c2 (by omega)) (go (Or.inr c2))
          · refine ifp (nI_le (by omega) (by omega)) ((b166_42 hR).mpr ?_)
            have et : trimW cap (e0 :: es1) = (e0 :: es1, 0) := by
              show (if _ then _ else _) = _
              rw [if_neg (by omega)]
            rw [et] at e1 e2
            have e2' : k = (trimW cap es).2 := by rw [← e2]; exact (Nat.zero_add k).symm
            rw [e2']
            exact hP _ _ ⟨pe, by rw [← e1]; exact g1, g2, g3, by rw [upS_ne (by omega)]; exact g4, by rw [upS_ne (by omega)]; exact g5, by rw [upS_same, g6], g7, g8⟩ (hg.tr (Ag_sc (by decide)))
  exact key es 0 sc ar h hl hok Ag.rf rfl rfl
theorem findW_is (h : (es.map eKey).Nodup) {r : Option Nat} (h1 : ∀ j (hj : j < es.length), eKey es[j] = key ↔ r = some j) (h2 : ∀ j, r = some j → j < es.length) : findW es key = r := by
  unfold findW
  cases r with
  | none =>
    rw [List.findIdx?_eq_none_iff]
    intro e he
    obtain ⟨j, hj, rfl⟩ := List.mem_iff_getElem.mp he
    refine decide_eq_false (fun q => ?_)
    cases (h1 j hj).mp q
  | some j =>
    rw [List.findIdx?_eq_some_iff_getElem]
    refine ⟨h2 j rfl, decide_eq_true ((h1 j (h2 j rfl)).mpr rfl), fun i hi => ?_⟩
    have hil : i < es.length := Nat.lt_trans hi (h2 j rfl)
    refine fun q => ?_
    have := (h1 i hil).mp (of_decide_eq_true q)
    have := Option.some.inj this
    omega
theorem r_placeOf (hR : RShape σ o) (h : RCac sc ar K) (hK : KInv K) (hn : NowR sc ar key) (hk : key.length ≤ 425) (hP : P (some (.int (optI (findW K.2.1 key)))) (rOv σ o sc ar)) : wpM 167 [.ref o] (rOv σ o sc ar) P := by
  obtain ⟨pe, h1, h2, h3, h4, h5, h6, h7, h8⟩ := h
  have hpl : pe.length ≤ 100 := by have := hK.2.1; rw [h1, List.length_map] at this; exact this
  have hnd := hK.2.2.1
  have hok := hK.2.2.2
  refine (b167 hR).mpr ?_
  have lp : ∀ e k (r : Option Nat), k + e = pe.length → (∀ j (hj : j < pe.length), j < k → (eKey pe[j].2 = key ↔ r = some j)) → (∀ j, r = some j → j < k) → wp 167 4 [some (.ref o), some (.int (optI r)), some (.int (nI k))] [] (rOv σ o sc ar) P := by
    intro e
    induction e with
    | zero =>
      intro k r hk hr1 hr2
      refine (b167_4 hR).mpr (ifp (by rw [h5]; exact nI_le (by omega) (by omega)) ((b167_61 hR).mpr ?_))
      have := findW_is (key := key) hnd (r := r) (fun j hj => by
        have hj' : j < pe.length := by rw [h1, List.length_map] at hj; exact hj
        have := hr1 j hj' (by omega)
        rw [← this]
        have e : K.2.1[j] = pe[j].2 := by simp only [h1, List.getElem_map]
        rw [e]) (fun j hj => by rw [h1, List.length_map]; have := hr2 j hj; omega)
      rw [← this]; exact hP
    | succ e ih =>
      intro k r hk' hr1 hr2
      have hkl : k < pe.length := by omega
      have hm := h3 _ (List.getElem_mem hkl)
      have hok1 := hok pe[k].2 (by rw [h1]; exact List.mem_map.mpr ⟨_, List.getElem_mem hkl, rfl⟩)
      have hlen := hok1.1
      refine (b167_4 hR).mpr (ifn (by rw [h5]; exact nI_ge (by omega) (by omega)) ((b167_12 hR).mpr ?_))
      rw [nI_clamp (n := k) (by omega), RRow_map h7 hkl, nI_clamp (n := pe[k].1) (by omega)]
      have hm1 := hm.1
      refine ⟨nI_in (N := 101) (by omega) (by omega), nI_in (N := 101) (by omega) (by omega), nI_in (N := 101) (by omega) (by omega), ?_⟩
      refine r_isRow (f := 0) (off := 425 * pe[k].1) (l := key) (l2 := eKey pe[k].2) hR (by decide) (by decide) hn.2 hm.2.1.2 (by rw [Nat.zero_add]; exact hn.1) (nI_mul 425 _) hm.2.1.1 (by omega) (show _ ≤ 42925 by omega) (by decide) ?_
      refine (b167_46 hR).mpr ?_
      by_cases c : key = eKey pe[k].2
      · rw [decide_eq_true c]
        refine ifn (by decide) ((b167_49 hR).mpr ((b167_54 hR).mpr ?_))
        rw [nI_1]
        refine ih (k + 1) (some k) (by omega) (fun j hj hjk => ?_) (fun j hj => by cases hj; omega)
        by_cases d : j = k
        · subst d; exact ⟨fun _ => rfl, fun _ => c.symm⟩
        · refine ⟨fun q => ?_, fun q => absurd (Option.some.inj q).symm d⟩
          exfalso
          have hnd' : (pe.map fun p => eKey p.2).Nodup := by
            have := hnd
            rw [h1, List.map_map] at this; exact this
          have := (List.getElem_inj (i := j) (j := k) (h₀ := by rw [List.length_map]; exact hj) (h₁ := by rw [List.length_map]; exact hkl) hnd').mp (by rw [List.getElem_map, List.getElem_map, q, ← c])
          exact d this
      · rw [decide_eq_false c]
        refine ifp rfl ((b167_53 hR).mpr ((b167_54 hR).mpr ?_))
        rw [nI_1]
        refine ih (k + 1) r (by omega) (fun j hj hjk => ?_) (fun j hj => by have := hr2 j hj; omega)
        by_cases d : j = k
        · subst d
          exact ⟨fun q => absurd q.symm c, fun q => absurd (hr2 j q) (Nat.lt_irrefl j)⟩
        · exact hr1 j hj (by omega)
  exact lp _ 0 none (Nat.zero_add _) (fun j hj q => absurd q (Nat.not_lt_zero j)) (fun j hj => by cases hj)
end REN
