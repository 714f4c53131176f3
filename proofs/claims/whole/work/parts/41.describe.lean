section KG
variable {σ : zSt} {P : Option Value → zSt → Prop} {q k s a : Nat} {l : List Int32} {fs : List Nat} {m h n : Int32} {e f : Nat → Int32}
theorem Kf_Kp : setKf (setKp σ k m h e) k n f = setKp (setKf σ k n f) k m h e := by
  unfold setKf setKp
  congr 1
  · funext x y z
    show (if _ then _ else (if _ then _ else (if _ then _ else _))) = (if _ then _ else (if _ then _ else (if _ then _ else _)))
    by_cases g : x = 5 ∧ y = 2 ∧ z = k
    · rw [if_pos g, if_neg (show ¬ (x = 5 ∧ y = 4 ∧ z = k) by omega), if_neg (show ¬ (x = 5 ∧ y = 3 ∧ z = k) by omega), if_pos g]
    · rw [if_neg g]
      by_cases g4 : x = 5 ∧ y = 4 ∧ z = k
      · rw [if_pos g4, if_pos g4]
      · rw [if_neg g4, if_neg g4]
        by_cases g3 : x = 5 ∧ y = 3 ∧ z = k
        · rw [if_pos g3, if_pos g3]
        · rw [if_neg g3, if_neg g3, if_neg g]
  · funext x y z
    show (if _ then _ else (if _ then _ else _)) = (if _ then _ else (if _ then _ else _))
    by_cases g : x = 2 ∧ y = k + 1
    · rw [if_pos g, if_neg (show ¬ (x = 3 ∧ y = k + 2) by omega), if_pos g]
    · rw [if_neg g]
      by_cases g3 : x = 3 ∧ y = k + 2
      · rw [if_pos g3, if_pos g3]
      · rw [if_neg g3, if_neg g3, if_neg g]
def toKD (σ τ : zSt) (k : Nat) (l : List Int32) (m h : Int32) (e : Nat → Int32) : Prop := ∃ n f, τ = setKp (setKf σ k n f) k m h e ∧ KeyF n f l
theorem toKD_K {τ υ : zSt} {l' : List Int32} (h1 : toKD σ τ k l m h e) (h2 : toK τ υ k l') : toKD σ υ k l' m h e := by
  obtain ⟨n, f, rfl, g⟩ := h1
  obtain ⟨n', f', rfl, g'⟩ := h2
  exact ⟨n', f', by rw [Kf_Kp, Kf_Kf], g'⟩
theorem toKD_ky {τ : zSt} (h1 : toKD σ τ k l m h e) (hz : zIs σ k 5) : Ky τ k l := by
  obtain ⟨n, f, rfl, g⟩ := h1
  exact toKK_ky (σ := σ) ⟨n, f, m, h, e, rfl, g⟩ hz
theorem toKD_cs {τ : zSt} (h1 : toKD σ τ k l m h e) (hC : CShape σ) : CShape τ := by
  obtain ⟨n, f, rfl, g⟩ := h1; exact hC
theorem toKD_is {τ : zSt} {c : Nat} (h1 : toKD σ τ k l m h e) (hz : zIs σ a c) : zIs τ a c := by
  obtain ⟨n, f, rfl, g⟩ := h1; exact hz
theorem toKD_PIn {τ : zSt} {cv : Nat → Option (List Int32)} (h1 : toKD σ τ k l m h e) (hp : PIn σ s q fs cv) : PIn τ s q fs cv ∧ partL τ q fs cv = partL σ q fs cv := by
  obtain ⟨n, f, rfl, g⟩ := h1; exact ⟨hp, rfl⟩
theorem toKD_LVal {τ : zSt} {L : Nat} (h1 : toKD σ τ k l m h e) (hv : LVal σ L fs) : LVal τ L fs := by
  obtain ⟨n, f, rfl, g⟩ := h1; exact hv
theorem describe_ok (hC : CShape σ) (hz : zIs σ k 5) {ins outs : List Nat} {st : List (Int32 × Int32)} {fl : Nat → List Nat} {cv : Nat → Option (List Int32)} (hA : AIn σ s a ins outs st fl cv) (hs : s < 2) (hP : ∀ τ, toKP σ τ k (headL ins outs st) (partsL σ ins fl cv) → P none τ) : wpM 42 [.ref k, .ref a, .int (nI s)] σ P := by
  obtain ⟨hza, hin, hou, h6, h3, hst, h16, hsv, hpi⟩ := hA
  have t0 : toKD σ (sfi (sfi σ 5 2 k 0) 5 3 k 0) k [] 0 (zfi σ 5 4 k) (zai σ 3 (k + 2)) := by
    refine ⟨0, zai σ 2 (k + 1), ?_, rfl, by simp, fun i h => absurd h (Nat.not_lt_zero i)⟩
    conv => lhs; rw [← Kf_self (σ := σ) (c := k), Kf_sfi]
    conv => lhs; rw [← Kp_self (σ := setKf σ k 0 (zai σ 2 (k + 1))) (c := k), Kp_sm]
    rfl
  generalize hτ : sfi (sfi σ 5 2 k 0) 5 3 k 0 = τ0 at t0
  refine (b42 hC).mpr ⟨hz, hza, ?_⟩
  rw [hτ]
  have rd : ∀ τ l m h e, toKD σ τ k l m h e → zfi τ 0 5 a = nI st.length ∧ (∀ i, zai τ 4 (a + 3) i = zai σ 4 (a + 3) i) ∧ (∀ i, zai τ 5 (a + 4) i = zai σ 5 (a + 4) i) := by
    rintro τ l m h e ⟨n, f, rfl, g⟩
    exact ⟨hst, fun _ => rfl, fun _ => rfl⟩
  refine size_ok (toKD_LVal t0 hou) (b42_18.mpr ⟨toKD_is t0 hz, ?_⟩)
  refine put_ok (toKD_cs t0 hC) (toKD_ky t0 hz) (by simp) (fun τ1 h1 => b42_21.mpr ?_)
  have t1 := toKD_K t0 h1
  refine ⟨toKD_is t1 hza, toKD_is t1 hz, ?_⟩
  rw [(rd _ _ _ _ _ t1).1]
  refine put_ok (toKD_cs t1 hC) (toKD_ky t1 hz) (by simp) (fun τ2 h2 => b42_29.mpr ?_)
  have t2 := toKD_K t1 h2
  -- the steps
  have loop1 : ∀ j i τ, i + j = st.length → toKD σ τ k ([nI outs.length, nI st.length] ++ (st.take i).flatMap (fun p => [p.1, p.2])) 0 (zfi σ 5 4 k) (zai σ 3 (k + 2)) → (∀ τ', toKD σ τ' k ([nI outs.length, nI st.length] ++ st.flatMap (fun p => [p.1, p.2])) 0 (zfi σ 5 4 k) (zai σ 3 (k + 2)) → wp 42 65 [some (.ref k), some (.ref a), some (.int (nI s)), some (.int (nI st.length))] [] τ' P) → wp 42 31 [some (.ref k), some (.ref a), some (.int (nI s)), some (.int (nI i))] [] τ P := by
    intro j
    induction j with
    | zero =>
      intro i τ ei ht hQ
      refine b42_31.mpr ⟨toKD_is ht hza, ifp (by rw [(rd _ _ _ _ _ ht).1]; exact nI_le (by omega) (by omega)) ?_⟩
      rw [List.take_of_length_le (by omega)] at ht
      rw [show i = st.length by omega]
      exact hQ τ ht
    | succ j ih =>
      intro i τ ei ht hQ
      have hi : i < st.length := by omega
      have hlen : ((st.take i).flatMap (fun p => [p.1, p.2])).length = 2 * i := by
        have : ∀ l : List (Int32 × Int32), (l.flatMap (fun p => [p.1, p.2])).length = 2 * l.length := by
          intro l; induction l with
          | nil => rfl
          | cons x l ih => simp [ih]; omega
        rw [this, List.length_take]; omega
      refine b42_31.mpr ⟨toKD_is ht hza, ifn (by rw [(rd _ _ _ _ _ ht).1]; exact nI_ge (by omega) (by omega)) ?_⟩
      refine (b42_39 (toKD_cs ht hC)).mpr ⟨toKD_is ht hza, nI_in (by omega) (by omega), toKD_is ht hz, ?_⟩
      rw [nI_clamp (by omega), (rd _ _ _ _ _ ht).2.1]
      refine put_ok (toKD_cs ht hC) (toKD_ky ht hz) (by simp [hlen]; omega) (fun τ3 h3 => (b42_49 (toKD_cs (toKD_K ht h3) hC)).mpr ?_)
      have t3 := toKD_K ht h3
      refine ⟨toKD_is t3 hza, nI_in (by omega) (by omega), toKD_is t3 hz, ?_⟩
      rw [nI_clamp (by omega), (rd _ _ _ _ _ t3).2.2]
      refine put_ok (toKD_cs t3 hC) (toKD_ky t3 hz) (by simp [hlen]; omega) (fun τ4 h4 => b42_59.mpr ?_)
      have t4 := toKD_K t3 h4
      rw [nI_1]
      refine ih (i + 1) τ4 (by omega) ?_ hQ
      have tk : st.take (i + 1) = st.take i ++ [(zai σ 4 (a + 3) i, zai σ 5 (a + 4) i)] := by rw [List.take_add_one, hsv i hi]; rfl
      rw [tk, List.flatMap_append]
      simpa using t4
  refine loop1 _ 0 τ2 (Nat.zero_add _) (by simpa using t2) (fun τ5 t5 => ?_)
  have hlenS : (st.flatMap (fun p => [p.1, p.2])).length = 2 * st.length := by
    have : ∀ l : List (Int32 × Int32), (l.flatMap (fun p => [p.1, p.2])).length = 2 * l.length := by
      intro l; induction l with
      | nil => rfl
      | cons x l ih => simp [ih]; omega
    exact this st
  refine (b42_65 (toKD_cs t5 hC)).mpr ⟨toKD_is t5 hza, size_ok (toKD_LVal t5 hin) (b42_73.mpr ⟨toKD_is t5 hz, ?_⟩)⟩
  refine put_ok (toKD_cs t5 hC) (toKD_ky t5 hz) (by simp [hlenS]; omega) (fun τ6 h6' => b42_76.mpr ?_)
  have t6 := toKD_K t5 h6'
  refine ⟨toKD_is t6 hz, ?_⟩
  have ehd : [nI outs.length, nI st.length] ++ st.flatMap (fun p => [p.1, p.2]) ++ [nI ins.length] = headL ins outs st := by
    simp [headL]
  rw [ehd] at t6
  have hhd : (headL ins outs st).length = 3 + 2 * st.length := by rw [← ehd]; simp [hlenS]; omega
  have hps : (partsL σ ins fl cv).length = ins.length := by unfold partsL; rw [List.length_map]
  have hpl : ∀ i, i ≤ ins.length → (((partsL σ ins fl cv).take i).flatten).length ≤ 65 * i := by
    intro i
    induction i with
    | zero => intro _; simp
    | succ i ih =>
      intro hi
      have hi' : i < ins.length := by omega
      have e : (partsL σ ins fl cv)[i]? = some (partL σ ins[i] (fl ins[i]) cv) := by
        unfold partsL; rw [List.getElem?_map, List.getElem?_eq_getElem hi']; rfl
      have := ih (by omega)
      have hq := partL_len (hpi _ (List.getElem_mem hi'))
      have ef : (some (partL σ ins[i] (fl ins[i]) cv)).toList.flatten = partL σ ins[i] (fl ins[i]) cv := List.flatten_singleton
      rw [List.take_add_one, e, List.flatten_append, List.length_append, ef]
      omega
  have sz : ∀ τ l m h e, toKD σ τ k l m h e → zfi τ 5 2 k = nI l.length ∧ zfi τ 5 3 k = m := by
    rintro τ l m h e ⟨n, f, rfl, g⟩
    refine ⟨?_, Kp_m⟩
    show zfi (setKf σ k n f) 5 2 k = _
    rw [Kf_fi]; exact g.1
  have t7 : toKD σ (sfi τ6 5 4 k (zfi τ6 5 2 k)) k (headL ins outs st) 0 (nI (headL ins outs st).length) (zai σ 3 (k + 2)) := by
    rw [(sz _ _ _ _ _ t6).1]
    obtain ⟨n, f, rfl, g⟩ := t6
    exact ⟨n, f, Kp_sh, g⟩
  have loop2 : ∀ j i τ e, i + j = ins.length → toKD σ τ k (headL ins outs st ++ ((partsL σ ins fl cv).take i).flatten) (nI i) (nI (headL ins outs st).length) e → (∀ j, j < i → e j = nI (endN (headL ins outs st) (partsL σ ins fl cv) j)) → wp 42 86 [some (.ref k), some (.ref a), some (.int (nI s)), some (.int (nI i))] [] τ P := by
    intro j
    induction j with
    | zero =>
      intro i τ e ei ht he
      refine (b42_86 (toKD_cs ht hC)).mpr ⟨toKD_is ht hza, size_ok (toKD_LVal ht hin) (b42_94.mpr (ifp (nI_le (by omega) (by omega)) (b42_145.mpr (hP τ ?_))))⟩
      obtain ⟨n, f, rfl, g⟩ := ht
      rw [List.take_of_length_le (by omega)] at g
      exact ⟨n, f, _, _, e, rfl, g, by rw [hps, show i = ins.length by omega], rfl, by omega, fun j hj => he j (by omega)⟩
    | succ j ih =>
      intro i τ e ei ht he
      have hi : i < ins.length := by omega
      have hl1 := hpl i (by omega)
      refine (b42_86 (toKD_cs ht hC)).mpr ⟨toKD_is ht hza, size_ok (toKD_LVal ht hin) (b42_94.mpr (ifn (nI_ge (by omega) (by omega)) (b42_97.mpr (ifn (nI_ge (b := 6) (by omega) (by omega)) ?_))))⟩
      refine (b42_103 (toKD_cs ht hC)).mpr ⟨toKD_is ht hza, get_ok (toKD_LVal ht hin) hi (b42_112.mpr ?_)⟩
      have hq := toKD_PIn ht (hpi _ (List.getElem_mem hi))
      refine ⟨hq.1.1, toKD_is ht hz, putPart_ok (toKD_cs ht hC) (toKD_ky ht hz) hq.1 hs (by rw [List.length_append]; omega) (fun τ' h' => ?_)⟩
      rw [hq.2] at h'
      have t' := toKD_K ht h'
      have e1 : (partsL σ ins fl cv)[i]? = some (partL σ ins[i] (fl ins[i]) cv) := by
        unfold partsL; rw [List.getElem?_map, List.getElem?_eq_getElem hi]; rfl
      have e2 : headL ins outs st ++ ((partsL σ ins fl cv).take i).flatten ++ partL σ ins[i] (fl ins[i]) cv = headL ins outs st ++ ((partsL σ ins fl cv).take (i + 1)).flatten := by
        rw [List.take_add_one, e1, List.flatten_append, List.append_assoc]; simp
      rw [e2] at t'
      refine (b42_119 (toKD_cs t' hC)).mpr ⟨toKD_is t' hz, nI_in (by omega) (by omega), ?_⟩
      rw [(sz _ _ _ _ _ t').1, (sz _ _ _ _ _ t').2, nI_clamp (by omega), nI_1]
      refine ih (i + 1) _ (up1 e i (nI (headL ins outs st ++ ((partsL σ ins fl cv).take (i + 1)).flatten).length)) (by omega) ?_ (fun j hj => ?_)
      · obtain ⟨n, f, rfl, g⟩ := t'
        exact ⟨n, f, by rw [Kp_sai, Kp_sm], g⟩
      · unfold up1
        by_cases w : j = i
        · rw [if_pos w, w]; rfl
        · rw [if_neg w]; exact he j (by omega)
  exact loop2 _ 0 _ _ (Nat.zero_add _) (by rw [List.take_zero, List.flatten_nil, List.append_nil]; exact t7) (fun j h => absurd h (Nat.not_lt_zero j))
end KG
