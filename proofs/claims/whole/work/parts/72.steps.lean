/-! the reference's search -/
def zinM (C : Nat → Nat) (a i : Nat) : zBS := (fun k => if k < i ∧ C k = a then some 0 else none, (List.range i).filter fun k => decide (C k = a))
theorem zinM_y {C : Nat → Nat} {a i : Nat} (h : C i = a) : zinM C a (i + 1) = zcom (zinM C a i) i 0 := by
  have e : (zinM C a i).1 i = none := if_neg (fun hh => absurd hh.1 (Nat.lt_irrefl _))
  unfold zcom
  rw [if_pos e]
  unfold zinM
  rw [List.range_succ, List.filter_append]
  congr 1
  · funext k
    by_cases hk : k = i
    · rw [if_pos hk, if_pos ⟨by omega, by rw [hk]; exact h⟩]
    · rw [if_neg hk]
      show (if k < i + 1 ∧ C k = a then some 0 else none) = (if k < i ∧ C k = a then some 0 else none)
      by_cases h2 : k < i ∧ C k = a
      · rw [if_pos h2, if_pos ⟨by omega, h2.2⟩]
      · rw [if_neg h2, if_neg (fun h3 => h2 ⟨by omega, h3.2⟩)]
  · congr 1
    simp [h]
theorem zinM_n {C : Nat → Nat} {a i : Nat} (h : C i ≠ a) : zinM C a (i + 1) = zinM C a i := by
  unfold zinM
  rw [List.range_succ, List.filter_append]
  congr 1
  · funext k
    by_cases h2 : k < i ∧ C k = a
    · rw [if_pos h2, if_pos ⟨by omega, h2.2⟩]
    · rw [if_neg h2, if_neg (fun h3 => h2 ⟨by
        have : k ≠ i := fun e => h (by rw [← e]; exact h3.2)
        omega, h3.2⟩)]
  · simp [h]
theorem zinM_w {C : Nat → Nat} {a : Nat} : ∀ {i : Nat}, i ≤ 160 → zWf 0 (zinM C a i)
  | 0, _ => ⟨fun k hk => absurd hk (by simp [zinM]), by simp [zinM], fun k d h => by
      have h : (if k < 0 ∧ C k = a then some 0 else none) = some d := h
      rw [if_neg (fun hh => absurd hh.1 (Nat.not_lt_zero _))] at h
      cases h⟩
  | i + 1, hi => by
    by_cases h : C i = a
    · rw [zinM_y h]
      exact zWf_com (zinM_w (by omega)) (by omega) (Nat.le_refl _)
    · rw [zinM_n h]
      exact zinM_w (by omega)
theorem X12_st0 {σ σ0 : zM} {s a : Nat} {C : Nat → Nat} {x3 : Int32} (hR : zRC σ s C) (hs : s < 10) (ha : a < 15) (h9 : zI σ 12 0 9 = 0) (h0 : zEx [(12, 7), (12, 8), (12, 9)] σ0 σ) : ∃ σ', zwh (fun (q : (Int32 × zM)) => f_X12_stepsOf_L8 (nI s) (nI a) x3 q.1 q.2) zFu (0, σ) = some σ' ∧ zRB 160 σ' (zini C a) ∧ zEx [(12, 7), (12, 8), (12, 9)] σ0 σ' := by
  refine zwh_ex (fun (i : Nat) (q : Int32 × zM) => q.1 = nI i ∧ zRB i q.2 (zinM C a i) ∧ zEx [(12, 7), (12, 8), (12, 9)] σ0 q.2 ∧ zRC q.2 s C) (fun σ' => zRB 160 σ' (zini C a) ∧ zEx [(12, 7), (12, 8), (12, 9)] σ0 σ') 160 ⟨rfl, ⟨fun k hk => absurd hk (by omega), fun j k h => absurd h (by simp [zinM]), h9⟩, h0, hR⟩ (fun i q hi hq => ?_) (fun q hq => ?_) (by omega)
  · obtain ⟨q1, q2⟩ := q
    obtain ⟨h1, h2, h3, h4⟩ := hq
    simp only at h1 h2 h3 h4
    subst h1
    have hX : zEx [(12, 7), (12, 8), (12, 9)] q2 (zsA q2 12 0 7 i (-1)) := zEx_sA (by decide)
    have hR1 : zRC (zsA q2 12 0 7 i (-1)) s C := h4
    have hB : zRB (i + 1) (zsA q2 12 0 7 i (-1)) (zinM C a i) := by
      refine ⟨fun k hk => ?_, h2.2.1, h2.2.2⟩
      show zu (zA q2 12 0 7) i (-1) k = _
      by_cases e : k = i
      · rw [e, zu_eq, show (zinM C a i).1 i = none from if_neg (fun hh => absurd hh.1 (Nat.lt_irrefl _))]
        rfl
      · rw [zu_ne _ _ e]
        exact h2.1 k (by omega)
    by_cases h : C i = a
    · obtain ⟨σ', g1, g2, g3⟩ := X12_comes (n := 0) (i := 0) (o := i) hB (zinM_w (by omega)) (by omega) (by omega) (by omega) (Nat.le_refl _)
      refine Or.inl ⟨(nI (i + 1), σ'), ?_, rfl, by rw [zinM_y h]; exact g2, h3.tr (hX.tr g3), fun k hk => ⟨(hR1 k hk).1, by rw [g3.2.2.2.1 12 0 3 (by decide)]; exact (hR1 k hk).2⟩⟩
      show f_X12_stepsOf_L8 (nI s) (nI a) x3 (nI i) q2 = _
      unfold f_X12_stepsOf_L8 f_X12_stepsOf_B42_8
      rw [if_neg (by rw [zq160, nI_leI (by omega) (by omega)]; omega), zix_n hi (by omega), Option.bind_some, zlt_e, X12_at_C hR1 hs hi, Option.bind_some, if_pos (by rw [h]), show f_X12_comes (zsA q2 12 0 7 i (-1)) (nI i) 0 = some σ' from g1, Option.bind_some, nI_1]
    · refine Or.inl ⟨(nI (i + 1), zsA q2 12 0 7 i (-1)), ?_, rfl, by rw [zinM_n h]; exact hB, h3.tr hX, hR1⟩
      show f_X12_stepsOf_L8 (nI s) (nI a) x3 (nI i) q2 = _
      have c1 := (h4 i hi).1
      unfold f_X12_stepsOf_L8 f_X12_stepsOf_B42_8
      rw [if_neg (by rw [zq160, nI_leI (by omega) (by omega)]; omega), zix_n hi (by omega), Option.bind_some, zlt_e, X12_at_C hR1 hs hi, Option.bind_some, if_neg (by rw [nI_eq (by omega) (by omega)]; exact h), nI_1]
  · obtain ⟨q1, q2⟩ := q
    obtain ⟨h1, h2, h3, h4⟩ := hq
    simp only at h1 h2 h3 h4
    subst h1
    refine ⟨q2, ?_, h2, h3⟩
    show f_X12_stepsOf_L8 (nI s) (nI a) x3 (nI 160) q2 = _
    unfold f_X12_stepsOf_L8
    rw [if_pos (show (160 : Int32) ≤ nI 160 by decide)]
theorem X12_st1 {σ σ0 : zM} {s a b k d i : Nat} {C : Nat → Nat} {st : zBS} {y4 : Int32} (hR : zRC σ s C) (hs : s < 10) (hk : k < 160) (hw : zWf (i + 1) st) (hi : i < 200) (hd : st.1 k = some d) (hd2 : d ≤ i) (hB : zRB 160 σ st) (h0 : zEx [(12, 7), (12, 8), (12, 9)] σ0 σ) : ∃ σ', zwh (fun (q : (Int32 × zM)) => f_X12_stepsOf_L91 (nI s) (nI a) (nI b) y4 (nI k) q.1 q.2) zFu (0, σ) = some σ' ∧ zRB 160 σ' (zcoP C (d + 1) k st 4) ∧ zEx [(12, 7), (12, 8), (12, 9)] σ0 σ' ∧ zRC σ' s C := by
  refine zwh_ex (fun (j : Nat) (q : Int32 × zM) => q.1 = nI j ∧ zRB 160 q.2 (zcoP C (d + 1) k st j) ∧ zEx [(12, 7), (12, 8), (12, 9)] σ0 q.2 ∧ zRC q.2 s C) (fun σ' => zRB 160 σ' (zcoP C (d + 1) k st 4) ∧ zEx [(12, 7), (12, 8), (12, 9)] σ0 σ' ∧ zRC σ' s C) 4 ⟨rfl, hB, h0, hR⟩ (fun j q hj hq => ?_) (fun q hq => ?_) (by omega)
  · obtain ⟨q1, q2⟩ := q
    obtain ⟨h1, h2, h3, h4⟩ := hq
    simp only at h1 h2 h3 h4
    subst h1
    have hb := znb_op k hk j hj
    have hwj : zWf (i + 1) (zcoP C (d + 1) k st j) := zWf_coP hw hk (by omega) j
    have e5 : zcoP C (d + 1) k st (j + 1) = (match zng C k j with | none => zcoP C (d + 1) k st j | some o => zcom (zcoP C (d + 1) k st j) o (d + 1)) := rfl
    have e6 : zng C k j = (match znb k j with | none => none | some o => if zstp1 C k o then some o else none) := if_pos hj
    cases en : znb k j with
    | none =>
      refine Or.inl ⟨(nI (j + 1), q2), ?_, rfl, ?_, h3, h4⟩
      · show f_X12_stepsOf_L91 (nI s) (nI a) (nI b) y4 (nI k) (nI j) q2 = _
        unfold f_X12_stepsOf_L91 f_X12_stepsOf_B145_91
        rw [if_neg (by rw [zq4, nI_leI (by omega) (by omega)]; omega), X12_beside k hk j hj, en]
        show (if (-1 : Int32) = -1 then _ else _) = _
        rw [if_pos rfl, nI_1]
      · show zRB 160 q2 (zcoP C (d + 1) k st (j + 1))
        rw [e5, e6, en]
        exact h2
    | some o =>
      rw [en] at hb e6
      have ho := hb.1
      have e6 : zng C k j = if zstp1 C k o then some o else none := e6
      by_cases hz : zstp1 C k o = true
      · rw [if_pos hz] at e6
        obtain ⟨σ', g1, g2, g3⟩ := X12_comes (n := d + 1) (i := i + 1) (o := o) h2 hwj (by omega) (Nat.le_refl _) ho (by omega)
        refine Or.inl ⟨(nI (j + 1), σ'), ?_, rfl, ?_, h3.tr g3, fun x hx => ⟨(h4 x hx).1, by rw [g3.2.2.2.1 12 0 3 (by decide)]; exact (h4 x hx).2⟩⟩
        · show f_X12_stepsOf_L91 (nI s) (nI a) (nI b) y4 (nI k) (nI j) q2 = _
          unfold f_X12_stepsOf_L91 f_X12_stepsOf_B145_91
          rw [if_neg (by rw [zq4, nI_leI (by omega) (by omega)]; omega), X12_beside k hk j hj, en]
          show (if nI o = -1 then _ else _) = _
          have ek : zA q2 12 0 7 k = nI d := by rw [h2.1 k hk, (zcoP_x j).2 k d hd]; rfl
          rw [if_neg (znI_m1 (by omega)), X12_isStep h4 hs hk ho, if_pos hz, Option.bind_some, if_neg z10, zix_n hk (by omega), Option.bind_some, ek, nI_1, g1, Option.bind_some, nI_1]
        · show zRB 160 σ' (zcoP C (d + 1) k st (j + 1))
          rw [e5, e6]
          exact g2
      · rw [if_neg hz] at e6
        refine Or.inl ⟨(nI (j + 1), q2), ?_, rfl, ?_, h3, h4⟩
        · show f_X12_stepsOf_L91 (nI s) (nI a) (nI b) y4 (nI k) (nI j) q2 = _
          unfold f_X12_stepsOf_L91 f_X12_stepsOf_B145_91
          rw [if_neg (by rw [zq4, nI_leI (by omega) (by omega)]; omega), X12_beside k hk j hj, en]
          show (if nI o = -1 then _ else _) = _
          rw [if_neg (znI_m1 (by omega)), X12_isStep h4 hs hk ho, if_neg hz, Option.bind_some, if_pos rfl, nI_1]
        · show zRB 160 q2 (zcoP C (d + 1) k st (j + 1))
          rw [e5, e6]
          exact h2
  · obtain ⟨q1, q2⟩ := q
    obtain ⟨h1, h2, h3, h4⟩ := hq
    simp only at h1 h2 h3 h4
    subst h1
    refine ⟨q2, ?_, h2, h3, h4⟩
    show f_X12_stepsOf_L91 (nI s) (nI a) (nI b) y4 (nI k) (nI 4) q2 = _
    unfold f_X12_stepsOf_L91
    rw [if_pos (show (4 : Int32) ≤ nI 4 by decide)]
theorem X12_st2 {σ σ0 : zM} {s a b k d i : Nat} {C : Nat → Nat} {st : zBS} {y4 : Int32} (hR : zRC σ s C) (hs : s < 10) (hk : k < 160) (hw : zWf (i + 1) st) (hi : i < 200) (hd : st.1 k = some d) (hd2 : d ≤ i) (hB : zRB 160 σ (zcoP C (d + 1) k st 4)) (h0 : zEx [(12, 7), (12, 8), (12, 9)] σ0 σ) : ∃ σ', f_X12_stepsOf_B151_51 σ (nI s) (nI a) (nI b) y4 (nI k) = some (.inl (y4 + 1, σ')) ∧ zRB 160 σ' (zcoP C (d + 1) k st 5) ∧ zEx [(12, 7), (12, 8), (12, 9)] σ0 σ' ∧ zRC σ' s C := by
  have e5 : zcoP C (d + 1) k st 5 = (match zng C k 4 with | none => zcoP C (d + 1) k st 4 | some o => zcom (zcoP C (d + 1) k st 4) o (d + 1)) := rfl
  have e6 : zng C k 4 = if C k = 14 ∧ C (zovr k) = 14 then some (zovr k) else none := if_neg (by omega)
  have hov : zovr k < 160 := by unfold zovr; omega
  have ez : zrem (nI k + 80) 160 = nI (zovr k) := by
    rw [zq80, nI_add, zq160, zremI (by omega) (by omega)]
    rfl
  have c1 := (hR k hk).1
  have c2 := (hR _ hov).1
  have n14 : ∀ x, x < 15 → (nI x = 14 ↔ x = 14) := fun x hx => by rw [zq14, nI_eq (by omega) (by omega)]
  unfold f_X12_stepsOf_B151_51 f_X12_stepsOf_B201_51
  rw [X12_at_C hR hs hk, Option.bind_some]
  by_cases p1 : C k = 14
  · rw [if_pos ((n14 _ c1).mpr p1), ez, X12_at_C hR hs hov, Option.bind_some]
    by_cases p2 : C (zovr k) = 14
    · rw [if_pos ⟨p1, p2⟩] at e6
      obtain ⟨σ', g1, g2, g3⟩ := X12_comes (n := d + 1) (i := i + 1) (o := zovr k) hB (zWf_coP hw hk (by omega) 4) (by omega) (Nat.le_refl _) hov (by omega)
      have ek : zA σ 12 0 7 k = nI d := by rw [hB.1 k hk, (zcoP_x 4).2 k d hd]; rfl
      refine ⟨σ', ?_, by rw [e5, e6]; exact g2, h0.tr g3, fun x hx => ⟨(hR x hx).1, by rw [g3.2.2.2.1 12 0 3 (by decide)]; exact (hR x hx).2⟩⟩
      rw [if_pos ((n14 _ c2).mpr p2), zix_n hk (by omega), Option.bind_some, ek, nI_1, g1, Option.bind_some]
    · rw [if_neg (fun h => p2 h.2)] at e6
      exact ⟨σ, by rw [if_neg (mt (n14 _ c2).mp p2)], by rw [e5, e6]; exact hB, h0, hR⟩
  · rw [if_neg (fun h => p1 h.1)] at e6
    exact ⟨σ, by rw [if_neg (mt (n14 _ c1).mp p1)], by rw [e5, e6]; exact hB, h0, hR⟩
theorem X12_st3 {σ σ0 : zM} {s a b : Nat} {C : Nat → Nat} (hR : zRC σ s C) (hs : s < 10) (hb : b < 15) (hB : zRB 160 σ (zini C a)) (h0 : zEx [(12, 7), (12, 8), (12, 9)] σ0 σ) : ∃ t, zwh (fun (q : (Int32 × zM)) => f_X12_stepsOf_L51 (nI s) (nI a) (nI b) q.1 q.2) zFu (0, σ) = some t ∧ ((∃ σ', t = .inr σ' ∧ zStp C a b = none ∧ zEx [(12, 7), (12, 8), (12, 9)] σ0 σ') ∨ ∃ σ' k d, t = .inl (nI k, σ') ∧ k < 160 ∧ zA σ' 12 0 7 k = nI d ∧ zStp C a b = some d ∧ zEx [(12, 7), (12, 8), (12, 9)] σ0 σ') := by
  have stop : ∀ (i : Nat) (q2 : zM) (st : zBS), zRB 160 q2 st → zStp C a b = zbfs C b (161 - i) i st → zEx [(12, 7), (12, 8), (12, 9)] σ0 q2 → i ≤ 160 → st.2.length ≤ 160 → st.2.length ≤ i → ∃ t, f_X12_stepsOf_L51 (nI s) (nI a) (nI b) (nI i) q2 = some (.inr t) ∧ ((∃ σ', t = .inr σ' ∧ zStp C a b = none ∧ zEx [(12, 7), (12, 8), (12, 9)] σ0 σ') ∨ ∃ σ' k d, t = .inl (nI k, σ') ∧ k < 160 ∧ zA σ' 12 0 7 k = nI d ∧ zStp C a b = some d ∧ zEx [(12, 7), (12, 8), (12, 9)] σ0 σ') := by
    intro i q2 st h2 h3 h4 hi hl hle
    refine ⟨.inr q2, ?_, Or.inl ⟨q2, rfl, by rw [h3, zbfs_no hle], h4⟩⟩
    unfold f_X12_stepsOf_L51
    rw [h2.2.2, if_pos (nI_le hle (by omega))]
  refine zwh_ex (fun (i : Nat) (q : Int32 × zM) => q.1 = nI i ∧ ∃ st, zWf i st ∧ zRB 160 q.2 st ∧ zEx [(12, 7), (12, 8), (12, 9)] σ0 q.2 ∧ zRC q.2 s C ∧ zStp C a b = zbfs C b (161 - i) i st) _ 160 ⟨rfl, zini C a, zinM_w (Nat.le_refl 160), hB, h0, hR, rfl⟩ (fun i q hi hq => ?_) (fun q hq => ?_) (by omega)
  · obtain ⟨q1, q2⟩ := q
    obtain ⟨h1, st, hw, h2, h3, h4, h5⟩ := hq
    simp only at h1 h2 h3 h4
    subst h1
    have hl := zWf_len hw
    by_cases hle : st.2.length ≤ i
    · exact Or.inr (stop i q2 st h2 h5 h3 (by omega) hl hle)
    · have hlt : i < st.2.length := by omega
      have hk := List.getElem?_eq_getElem hlt
      generalize st.2[i] = k at hk
      have hm : k ∈ st.2 := List.mem_of_getElem? hk
      have hk160 := (hw.1 k hm).1
      obtain ⟨d, hd⟩ : ∃ d, st.1 k = some d := by
        cases e : st.1 k with
        | none => exact absurd e (hw.1 k hm).2
        | some d => exact ⟨d, rfl⟩
      have hd2 := hw.2.2 k d hd
      have e8 : zA q2 12 0 8 i = nI k := h2.2.1 i k hk
      have c1 := (h4 k hk160).1
      rw [show 161 - i = (160 - i) + 1 by omega] at h5
      by_cases hC : C k = b
      · refine Or.inr ⟨.inl (nI k, q2), ?_, Or.inr ⟨q2, k, d, rfl, hk160, by rw [h2.1 k hk160, hd]; rfl, by rw [h5, zbfs_yes hk hC, hd], h3⟩⟩
        show f_X12_stepsOf_L51 (nI s) (nI a) (nI b) (nI i) q2 = _
        unfold f_X12_stepsOf_L51
        rw [h2.2.2, if_neg (by rw [nI_leI (by omega) (by omega)]; omega), zix_n hi (by omega), Option.bind_some, e8, X12_at_C h4 hs hk160, Option.bind_some, if_pos (by rw [hC])]
      · rw [zbfs_st hk hC hd] at h5
        have hw1 := zWf_mo (Nat.le_succ i) hw
        obtain ⟨σ1, w1, B1, X1, R1⟩ := X12_st1 (a := a) (b := b) (y4 := nI i) h4 hs hk160 hw1 (by omega) hd hd2 h2 h3
        obtain ⟨σ2, w2, B2, X2, R2⟩ := X12_st2 (a := a) (b := b) (y4 := nI i) R1 hs hk160 hw1 (by omega) hd hd2 B1 X1
        refine Or.inl ⟨(nI (i + 1), σ2), ?_, rfl, zcoP C (d + 1) k st 5, zWf_coP hw1 hk160 (by omega) 5, B2, X2, R2, by rw [show 161 - (i + 1) = 160 - i by omega]; exact h5⟩
        show f_X12_stepsOf_L51 (nI s) (nI a) (nI b) (nI i) q2 = _
        unfold f_X12_stepsOf_L51
        rw [h2.2.2, if_neg (by rw [nI_leI (by omega) (by omega)]; omega), zix_n hi (by omega), Option.bind_some, e8, X12_at_C h4 hs hk160, Option.bind_some, if_neg (by rw [nI_eq (by omega) (by omega)]; exact hC), w1, Option.bind_some, w2, nI_1]
  · obtain ⟨q1, q2⟩ := q
    obtain ⟨h1, st, hw, h2, h3, h4, h5⟩ := hq
    simp only at h1 h2 h3 h4
    subst h1
    have hl := zWf_len hw
    exact stop 160 q2 st h2 h5 h3 (Nat.le_refl _) hl hl
theorem X12_steps {σ : zM} {s a b : Nat} {C : Nat → Nat} (hR : zRC σ s C) (hs : s < 10) (ha : a < 15) (hb : b < 15) : ∃ σ', f_X12_stepsOf σ (nI s) (nI a) (nI b) = some (zOI (zStp C a b), σ') ∧ zEx [(12, 7), (12, 8), (12, 9)] σ σ' := by
  obtain ⟨σ1, w1, B1, X1⟩ := X12_st0 (σ := zsI σ 12 0 9 0) (σ0 := σ) (a := a) (x3 := nI b) hR hs ha rfl (zEx_sI (by decide))
  have R1 : zRC σ1 s C := fun k hk => ⟨(hR k hk).1, by rw [X1.2.2.2.1 12 0 3 (by decide)]; exact (hR k hk).2⟩
  obtain ⟨t, w2, h⟩ := X12_st3 (a := a) (b := b) R1 hs hb B1 X1
  unfold f_X12_stepsOf f_X12_stepsOf_B48 f_X12_stepsOf_B80
  rw [zlt_e, w1, Option.bind_some, w2, Option.bind_some]
  rcases h with ⟨σ', rfl, e, X⟩ | ⟨σ', k, d, rfl, hk, e7, e, X⟩
  · exact ⟨σ', by rw [e]; rfl, X⟩
  · refine ⟨σ', ?_, X⟩
    show (zix (nI k) 160).bind _ = _
    rw [zix_n hk (by omega), Option.bind_some, e7, e]
    rfl
