/-! a brief's text: the reference's numbers -/
theorem zcD_R {σ : zM} {T : Nat → Nat} {n i : Nat} (h : zTr σ T n) (hi : i < n) : (zcD T i = true → zA σ 12 0 39 i = nI (T i) ∧ ¬ zA σ 12 0 39 i < 48 ∧ ¬ 57 < zA σ 12 0 39 i ∧ 48 ≤ T i ∧ T i ≤ 57) ∧ (zcD T i = false → zA σ 12 0 39 i < 48 ∨ (¬ zA σ 12 0 39 i < 48 ∧ 57 < zA σ 12 0 39 i)) := by
  obtain ⟨h1, h2, h3⟩ := h.2.2 i hi
  unfold zcD
  refine ⟨fun e => ?_, fun e => ?_⟩
  · rw [Bool.and_eq_true] at e
    have e1 := of_decide_eq_true e.1
    have e2 := of_decide_eq_true e.2
    rw [h2 (by omega)]
    refine ⟨rfl, ?_, ?_, e1, e2⟩
    · rw [zq48, nI_ltI (by omega) (by omega)]; omega
    · rw [zq57, nI_ltI (by omega) (by omega)]; omega
  · by_cases hb : T i < 128
    · rw [h2 hb]
      by_cases h97 : 48 ≤ T i
      · refine Or.inr ⟨?_, ?_⟩
        · rw [zq48, nI_ltI (by omega) (by omega)]; omega
        · have : ¬ T i ≤ 57 := fun h122 => by
            rw [decide_eq_true h97, decide_eq_true h122] at e
            cases e
          rw [zq57, nI_ltI (by omega) (by omega)]; omega
      · exact Or.inl (by rw [zq48, nI_ltI (by omega) (by omega)]; omega)
    · exact Or.inl (zlit_lt (h3 (by omega)) (m := 48) (by omega)).1
theorem zisIn_b {v lo hi : Nat} (h1 : v < 2147483648) (h2 : lo < 2147483648) (h3 : hi < 2147483648) : f_X12_isIn (nI v) (nI lo) (nI hi) = if (decide (lo ≤ v) && decide (v ≤ hi)) then 1 else 0 := by
  unfold f_X12_isIn
  by_cases a1 : v < lo
  · rw [if_pos (nI_lt a1 (by omega)), decide_eq_false (by omega), Bool.false_and]
    rfl
  · rw [if_neg (by rw [nI_ltI (by omega) (by omega)]; exact a1), decide_eq_true (show lo ≤ v by omega), Bool.true_and]
    by_cases a2 : hi < v
    · rw [if_pos (nI_lt a2 (by omega)), decide_eq_false (by omega)]
      rfl
    · rw [if_neg (by rw [nI_ltI (by omega) (by omega)]; exact a2), decide_eq_true (show v ≤ hi by omega)]
      rfl
theorem zdfar {T : Nat → Nat} {n a : Nat} (hd : zcD T a = true) : zfar (zcD T) n a = zTe T n a := by
  unfold zTe
  rw [zcD_L hd, hd]
  rfl
theorem zdfar0 {T : Nat → Nat} {n a : Nat} (ha : a ≤ n) (h : ¬ (a < n ∧ zcD T a = true)) : zfar (zcD T) n a = a := by
  by_cases e : a < n
  · rw [zfar_s e, if_neg (fun hl => h ⟨e, hl⟩)]
  · rw [zfar_e (by omega)]
theorem X12_num {σ : zM} {T : Nat → Nat} {n N i lo hi : Nat} (hhi : hi < 1000000) (hlo : lo < 1000000) (hN : zTs T n N = n ∧ ∀ i, i < N → zTs T n i < n) (hi' : i ≤ N) (h : zRP σ T n i) : ∃ σ', f_X12_takesNumber σ (nI lo) (nI hi) = some (if zIsN T n N i lo hi then 1 else 0, σ') ∧ zEx [(12, 21), (12, 41)] σ σ' ∧ (zIsN T n N i lo hi = true → zRP σ' T n (i + 1) ∧ zI σ' 12 0 41 = nI (zNv T n i)) ∧ (zIsN T n N i lo hi = false → zRN σ' T n i) := by
  obtain ⟨hr, p, hp, hpa, hat⟩ := h
  obtain ⟨σ1, w1, w2, w3⟩ := X12_blanks hr hp hat
  rw [hpa] at w3
  have h900 := hr.1
  have ha := (zTs_fix (T := T) (n := n) i).1
  obtain ⟨a, hA⟩ : ∃ a, a = zTs T n i := ⟨_, rfl⟩
  rw [← hA] at w3 ha
  obtain ⟨e, hE⟩ : ∃ e, e = zfar (zcD T) n a := ⟨_, rfl⟩
  have hP := zfar_p (c := zcD T) ha
  rw [← hE] at hP
  have hz : ∃ t, zwh (fun (q : (Int32 × zM)) => f_X12_takesNumber_L14 (nI lo) (nI hi) q.1 q.2) zFu (nI a, zsI σ1 12 0 41 0) = some t ∧ t.1 = nI e ∧ zEx [(12, 21), (12, 41)] σ t.2 ∧ zI t.2 12 0 21 = nI a ∧ (e - a ≤ 6 → zI t.2 12 0 41 = nI (zDv T a (e - a))) := by
    refine zwh_ex (fun (j : Nat) (q : Int32 × zM) => q.1 = nI (a + j) ∧ zEx [(12, 21), (12, 41)] σ q.2 ∧ zI q.2 12 0 21 = nI a ∧ (j ≤ 6 → zI q.2 12 0 41 = nI (zDv T a j))) _ (e - a) ⟨rfl, (w2.mo (by decide)).tr (zEx_sI (by decide)), w3, fun _ => rfl⟩ (fun j q hj hq => ?_) (fun q hq => ?_) (by omega)
    · obtain ⟨q1, q2⟩ := q
      obtain ⟨g1, g2, g3, g4⟩ := hq
      simp only at g1 g2 g3 g4
      subst g1
      have hr2 := zTr_fr hr g2 (by decide) (by decide)
      have hd := hP.2.2.1 (a + j) (by omega) (by omega)
      obtain ⟨l1, l2, l3, l4, l5⟩ := (zcD_R hr2 (show a + j < n by omega)).1 hd
      have e1 : nI (a + j) - nI a = nI j := by rw [zsubI (by omega)]; congr 1; omega
      have hrun : f_X12_takesNumber_L14 (nI lo) (nI hi) (nI (a + j)) q2 = if 6 ≤ j then some (.inl (nI (a + j + 1), q2)) else some (.inl (nI (a + j + 1), zsI q2 12 0 41 ((10 * zI q2 12 0 41 + nI (T (a + j))) - 48))) := by
        unfold f_X12_takesNumber_L14 f_X12_takesNumber_B76_14
        rw [hr2.2.1, if_neg (by rw [nI_leI (by omega) (by omega)]; omega), zix_n (show a + j < 900 by omega) (by omega), Option.bind_some, if_neg l2, Option.bind_some, if_neg l3, g3, e1, nI_1]
        by_cases h6 : 6 ≤ j
        · rw [if_pos (by rw [zq6, nI_leI (by omega) (by omega)]; exact h6), if_pos h6]
        · rw [if_neg (by rw [zq6, nI_leI (by omega) (by omega)]; exact h6), Option.bind_some, zlt_e, l1, if_neg h6]
      by_cases h6 : 6 ≤ j
      · refine Or.inl ⟨(nI (a + j + 1), q2), ?_, rfl, g2, g3, fun h => by omega⟩
        refine hrun.trans ?_
        rw [if_pos h6]
      · have hlt := zDv_lt (T := T) (a := a) (L := j) (fun x hx => hP.2.2.1 _ (by omega) (by omega))
        have h10 : 10 ^ j ≤ 10 ^ 6 := Nat.pow_le_pow_right (by decide) (by omega)
        have h106 : (10 : Nat) ^ 6 = 1000000 := by decide
        refine Or.inl ⟨(nI (a + j + 1), zsI q2 12 0 41 (nI (zDv T a (j + 1)))), ?_, rfl, g2.tr (zEx_sI (by decide)), g3, fun _ => rfl⟩
        refine hrun.trans ?_
        rw [if_neg h6, g4 (by omega), zq10, zmulI, nI_add, zq48, zsubI (by omega)]
        have hd : zDv T a (j + 1) = 10 * zDv T a j + (T (a + j) - 48) := rfl
        rw [hd, show 10 * zDv T a j + T (a + j) - 48 = 10 * zDv T a j + (T (a + j) - 48) by omega]
    · obtain ⟨q1, q2⟩ := q
      obtain ⟨g1, g2, g3, g4⟩ := hq
      simp only at g1 g2 g3 g4
      have ee : a + (e - a) = e := by omega
      rw [ee] at g1
      subst g1
      have hr2 := zTr_fr hr g2 (by decide) (by decide)
      refine ⟨(nI e, q2), ?_, rfl, g2, g3, g4⟩
      show f_X12_takesNumber_L14 (nI lo) (nI hi) (nI e) q2 = _
      unfold f_X12_takesNumber_L14
      rw [hr2.2.1]
      by_cases hn : e < n
      · rw [if_neg (by rw [nI_leI (by omega) (by omega)]; omega), zix_n (show e < 900 by omega) (by omega), Option.bind_some]
        rcases (zcD_R hr2 hn).2 (hP.2.2.2 hn) with hc | ⟨hc, hd⟩
        · rw [if_pos hc]
        · rw [if_neg hc, Option.bind_some, if_pos hd]
      · rw [if_pos (by rw [nI_leI (by omega) (by omega)]; omega)]
  obtain ⟨⟨t1, t2⟩, v1, v2, v3, v4, v5⟩ := hz
  simp only at v2 v3 v4 v5
  subst v2
  have hr2 := zTr_fr hr v3 (by decide) (by decide)
  have hrun : f_X12_takesNumber σ (nI lo) (nI hi) = f_X12_takesNumber_B82 t2 (nI lo) (nI hi) (nI e) := by
    unfold f_X12_takesNumber
    rw [w1, Option.bind_some, zlt_e, w3, v1, Option.bind_some]
  rw [hrun]
  unfold f_X12_takesNumber_B82
  rw [v4, zsubI (by omega)]
  by_cases hd : a < n ∧ zcD T a = true
  · have ez : e = zTe T n a := by rw [hE, zdfar hd.2]
    have hTe := zTe_b (T := T) hd.1
    have hiN : i < N := by
      rcases Nat.lt_or_ge i N with h | h
      · exact h
      · have : i = N := by omega
        rw [hA, this, hN.1] at hd
        omega
    rw [if_neg (by rw [nI_eq (by omega) (by omega)]; omega)]
    by_cases h6 : e - a ≤ 6
    · have hlt := zNv_lt (T := T) (n := n) (i := i) (by rw [← hA]; exact hd.1) (by rw [← hA]; exact hd.2) (by rw [← hA]; exact zcD_L hd.2) (by rw [← hA, ← ez]; exact h6)
      have hv : zNv T n i = zDv T a (e - a) := by
        unfold zNv
        rw [← hA, ← ez]
      have eN : zIsN T n N i lo hi = (decide (lo ≤ zNv T n i) && decide (zNv T n i ≤ hi)) := by
        unfold zIsN
        rw [← hA, ← ez, decide_eq_true hiN, hd.2, decide_eq_true h6, Bool.true_and, Bool.true_and, Bool.true_and, hv]
      rw [if_neg (by rw [zq6, nI_ltI (by omega) (by omega)]; omega), v5 h6, ← hv, zisIn_b (by omega) (by omega) (by omega), eN]
      by_cases hb : (decide (lo ≤ zNv T n i) && decide (zNv T n i ≤ hi)) = true
      · rw [if_pos hb, if_neg z10, zlt_e]
        refine ⟨_, rfl, v3.tr (zEx_sI (by decide)), fun _ => ⟨⟨zTr_fr hr (v3.tr (zEx_sI (by decide))) (by decide) (by decide), e, hP.2.1, ?_, rfl⟩, ?_⟩, fun h => absurd (hb.symm.trans h) (by decide)⟩
        · rw [ez, hA]
          exact (zTs_s (by rw [← hA]; exact hd.1)).1.symm
        · show zI t2 12 0 41 = _
          rw [v5 h6, hv]
      · rw [if_neg hb, if_pos rfl]
        refine ⟨_, rfl, v3, fun h => absurd h hb, fun _ => ⟨hr2, by rw [v4, hA]⟩⟩
    · have eN : zIsN T n N i lo hi = false := by
        unfold zIsN
        rw [← hA, ← ez, decide_eq_false h6, Bool.and_false, Bool.false_and, Bool.false_and]
      rw [if_pos (by rw [zq6, nI_ltI (by omega) (by omega)]; omega), eN]
      exact ⟨_, rfl, v3, fun h => (by cases h), fun _ => ⟨hr2, by rw [v4, hA]⟩⟩
  · have ez : e = a := by rw [hE, zdfar0 ha hd]
    have eN : zIsN T n N i lo hi = false := by
      unfold zIsN
      by_cases a1 : i < N
      · by_cases a2 : zcD T (zTs T n i) = true
        · exact absurd ⟨by rw [hA]; exact hN.2 i a1, by rw [hA]; exact a2⟩ hd
        · simp [a2]
      · simp [a1]
    rw [if_pos (by rw [ez]), eN]
    exact ⟨_, rfl, v3, fun h => (by cases h), fun _ => ⟨hr2, by rw [v4, hA]⟩⟩
