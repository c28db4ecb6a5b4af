/-! rounds: the reference's points; the class weighs voices -/
theorem X12_pts {σ : zM} {r m J n s q : Nat} {L : Nat → Nat} {R : Nat → Nat → Nat} {V : Nat → Bool} (hk : zRef σ r m J n L R) (hv : ∀ j, j < J → f_X12_counts σ (nI r) (nI j) = some (if V j then 1 else 0)) (hV0 : ∀ j, J ≤ j → V j = false) (hs : s < 10) (hms : m.testBit s = true) (hq : q < 3) : f_X12_pointsOf σ (nI r) (nI q) (nI s) = some (zPts m L R V q s) := by
  obtain ⟨hr, hm, hJ, hn, e48, e1, e58, hbn, hrow⟩ := id hk
  have hpos : 0 < zpc m := fb_ct_pos.mpr ⟨s, hs, hms⟩
  have hp10 := zpc_le m
  -- the second loop does nothing for rules 0, 1
  have hB : ∀ (q : Nat) (y : Int32), q < 2 → f_X12_pointsOf_B93 σ (nI r) (nI q) (nI s) y = some y := fun q y hq2 => by
    unfold f_X12_pointsOf_B93
    rw [zwh_now (t := y)]
    · rfl
    · show f_X12_pointsOf_L96 σ (nI r) (nI q) (nI s) y 0 = _
      unfold f_X12_pointsOf_L96
      by_cases h0 : zI σ 12 0 1 ≤ 0
      · rw [if_pos h0]
      · rw [if_neg h0, if_neg (by rw [zq2, nI_eq (by omega) (by omega)]; omega)]
  have hplace : ∀ j, j < J → zPc m L R j s ≤ 10 := fun j hj => zPc_le (hrow j (by omega)).1
  unfold f_X12_pointsOf zPts
  have : q = 0 ∨ q = 1 ∨ q = 2 := by omega
  rcases this with rfl | rfl | rfl
  · rw [if_pos rfl]
    have e7 : zS32 (zt0 m L R V s) 7 = zS32 (zt0 m L R V s) J := zS32_ext hJ (fun j h1 _ => by unfold zt0; rw [if_neg (by rw [hV0 j h1]; decide)])
    have hw := zwh_up (f := fun (q : (Int32 × Int32)) => f_X12_pointsOf_L6 σ (nI r) (nI 0) (nI s) q.1 q.2) (fun j => (zS32 (zt0 m L R V s) j, nI j)) J (t := zS32 (zt0 m L R V s) J) ?_ ?_ (by omega)
    · rw [show ((0 : Int32), (0 : Int32)) = (fun j => (zS32 (zt0 m L R V s) j, nI j)) 0 from rfl, hw, Option.bind_some, hB 0 _ (by omega), e7]
    · intro j hj
      have b1 := hplace j hj
      show f_X12_pointsOf_L6 σ (nI r) (nI 0) (nI s) (zS32 (zt0 m L R V s) j) (nI j) = some (.inl (zS32 (zt0 m L R V s) j + zt0 m L R V s j, nI (j + 1)))
      unfold f_X12_pointsOf_L6 f_X12_pointsOf_B42_6 f_X12_pointsOf_B84_6 f_X12_pointsOf_B87_6
      rw [e48, if_neg (by rw [nI_leI (by omega) (by omega)]; omega), if_neg (show ¬ 2 ≤ nI 0 by decide), hv j hj, Option.bind_some, X12_placeIn hk (by omega) hs hms, Option.bind_some, zif01, if_pos rfl, if_pos (show nI 0 = 0 from rfl), nI_1]
      by_cases hV : V j = true
      · rw [if_pos hV, show zt0 m L R V s j = if zPc m L R j s = 0 then 1 else 0 from if_pos hV]
        unfold zPr
        by_cases c1 : zPc m L R j s = zpc m
        · rw [if_pos c1, if_pos rfl, if_neg (show ¬ zPc m L R j s = 0 by omega), Int32.add_zero]
        · rw [if_neg c1, if_neg (znI_m1 (by omega))]
          by_cases h0 : zPc m L R j s = 0
          · rw [if_pos (show nI (zPc m L R j s) = 0 by rw [h0]; rfl), if_pos h0]
            rfl
          · rw [if_neg (show ¬ nI (zPc m L R j s) = 0 by rw [show (0 : Int32) = nI 0 from rfl, nI_eq (by omega) (by omega)]; exact h0), if_neg h0]
            rfl
      · rw [if_neg hV, show zt0 m L R V s j = 0 from if_neg hV, Int32.add_zero]
    · show f_X12_pointsOf_L6 σ (nI r) (nI 0) (nI s) _ (nI J) = _
      unfold f_X12_pointsOf_L6
      rw [e48, if_pos (nI_le (Nat.le_refl _) (by omega))]
  · rw [if_neg (by omega), if_pos rfl]
    have e7 : zS32 (zt1 m L R V s) 7 = zS32 (zt1 m L R V s) J := zS32_ext hJ (fun j h1 _ => by unfold zt1; rw [if_neg (by rw [hV0 j h1]; decide)])
    have hw := zwh_up (f := fun (q : (Int32 × Int32)) => f_X12_pointsOf_L6 σ (nI r) (nI 1) (nI s) q.1 q.2) (fun j => (zS32 (zt1 m L R V s) j, nI j)) J (t := zS32 (zt1 m L R V s) J) ?_ ?_ (by omega)
    · rw [show ((0 : Int32), (0 : Int32)) = (fun j => (zS32 (zt1 m L R V s) j, nI j)) 0 from rfl, hw, Option.bind_some, hB 1 _ (by omega), e7]
    · intro j hj
      have b1 := hplace j hj
      show f_X12_pointsOf_L6 σ (nI r) (nI 1) (nI s) (zS32 (zt1 m L R V s) j) (nI j) = some (.inl (zS32 (zt1 m L R V s) j + zt1 m L R V s j, nI (j + 1)))
      unfold f_X12_pointsOf_L6 f_X12_pointsOf_B42_6 f_X12_pointsOf_B84_6 f_X12_pointsOf_B87_6
      rw [e48, if_neg (by rw [nI_leI (by omega) (by omega)]; omega), if_neg (show ¬ 2 ≤ nI 1 by decide), hv j hj, Option.bind_some, X12_placeIn hk (by omega) hs hms, Option.bind_some, zif01, if_pos rfl, if_neg (show ¬ nI 1 = 0 from z10), zix_n (show r < 2 from hr) (by omega), Option.bind_some, e58, X12_bits hm, Option.bind_some, nI_1]
      by_cases hV : V j = true
      · rw [if_pos hV, show zt1 m L R V s j = nI (zpc m) - nI (zPc m L R j s) from if_pos hV]
        unfold zPr
        by_cases c1 : zPc m L R j s = zpc m
        · rw [if_pos c1, if_pos rfl, c1, Int32.sub_self, Int32.add_zero]
        · rw [if_neg c1, if_neg (znI_m1 (by omega))]
      · rw [if_neg hV, show zt1 m L R V s j = 0 from if_neg hV, Int32.add_zero]
    · show f_X12_pointsOf_L6 σ (nI r) (nI 1) (nI s) _ (nI J) = _
      unfold f_X12_pointsOf_L6
      rw [e48, if_pos (nI_le (Nat.le_refl _) (by omega))]
  · rw [if_neg (by omega), if_neg (by omega)]
    rw [zwh_now (t := 0) (by
      show f_X12_pointsOf_L6 σ (nI r) (nI 2) (nI s) 0 0 = _
      unfold f_X12_pointsOf_L6
      by_cases h0 : zI σ 12 0 48 ≤ 0
      · rw [if_pos h0]
      · rw [if_neg h0, if_pos (show 2 ≤ nI 2 by decide)]), Option.bind_some]
    have e10 : zS32 (zt2 m L R V s) 10 = zS32 (zt2 m L R V s) n := zS32_ext hn (fun o h1 h2 => by
      unfold zt2
      exact if_neg (fun h => by have := hbn o h.2; omega))
    have hw := zwh_up (f := fun (q : (Int32 × Int32)) => f_X12_pointsOf_L96 σ (nI r) (nI 2) (nI s) q.1 q.2) (fun o => (zS32 (zt2 m L R V s) o, nI o)) n (t := zS32 (zt2 m L R V s) n) ?_ ?_ (by omega)
    · unfold f_X12_pointsOf_B93
      rw [show ((0 : Int32), (0 : Int32)) = (fun o => (zS32 (zt2 m L R V s) o, nI o)) 0 from rfl, hw, Option.bind_some, e10]
    · intro o ho
      show f_X12_pointsOf_L96 σ (nI r) (nI 2) (nI s) (zS32 (zt2 m L R V s) o) (nI o) = some (.inl (zS32 (zt2 m L R V s) o + zt2 m L R V s o, nI (o + 1)))
      unfold f_X12_pointsOf_L96 f_X12_pointsOf_B139_96
      rw [e1, if_neg (by rw [nI_leI (by omega) (by omega)]; omega), if_pos (show nI 2 = 2 from rfl), X12_inR hk (show o < 10 by omega), Option.bind_some, zif01, nI_1]
      by_cases h1 : o = s
      · rw [if_pos (show nI o = nI s by rw [h1]), show zt2 m L R V s o = 0 from if_neg (fun h => h.1 h1), Int32.add_zero]
      · rw [if_neg (mt (nI_eq (by omega) (by omega)).mp h1)]
        by_cases hmo : m.testBit o = true
        · rw [if_pos hmo, X12_ag hk hv hV0 hs (show o < 10 by omega) hms hmo, Option.bind_some, show zt2 m L R V s o = zp2 (zS32 (zd1 m L R V s o) 7) from if_pos ⟨h1, hmo⟩]
        · rw [if_neg hmo, show zt2 m L R V s o = 0 from if_neg (fun h => hmo h.2), Int32.add_zero]
    · show f_X12_pointsOf_L96 σ (nI r) (nI 2) (nI s) _ (nI n) = _
      unfold f_X12_pointsOf_L96
      rw [e1, if_pos (nI_le (Nat.le_refl _) (by omega))]
/-! the class weighs voices -/
theorem zNw_x {F : List (Nat × Nat)} {σ σ' : zM} (h : zEx F σ σ') (hF : ([(12, 55), (12, 4), (12, 0)] : List (Nat × Nat)).all (fun q => !F.contains q) = true) : zNw σ' = zNw σ := by
  have hd := zFe_of h hF
  have e0 : zA σ' 12 0 55 = zA σ 12 0 55 := (hd (12, 55) (by simp)).2.2.2.1 0
  have e1 : zA σ' 12 0 4 = zA σ 12 0 4 := (hd (12, 4) (by simp)).2.2.2.1 0
  have e2 : zI σ' 12 0 0 = zI σ 12 0 0 := (hd (12, 0) (by simp)).1 0
  funext m L R j
  unfold zNw zkn
  rw [e0, e1, e2]
theorem X6_biased {σ : zM} {r m j n : Nat} {L : Nat → Nat} {R : Nat → Nat → Nat} (hk : zRk σ r m L R) (hSch : iSch σ) (hPan : iPan σ) (hn : zI σ 12 0 1 = nI n) (hn10 : n ≤ 10) (hRn : ∀ i, i < L j → R j i < n) (hD : zI σ 11 0 10 = zI σ 12 0 0) (hj : j < 7) : f_X6_isBiased σ r (nI j) (zI σ 11 0 10) = some (if zNw σ m L R j then 0 else 1) := by
  obtain ⟨k, k1, k2, k3, k4, k5⟩ := hSch
  have ekn : k = n := by rw [hn, nI_eq (by omega) (by omega)] at k3; exact k3.symm
  subst ekn
  have hL := (hk.2.2.2.2 j hj).1
  obtain ⟨p, hp⟩ : ∃ p : Nat → Bool, p = fun i => m.testBit (R j i) && zkn σ j (R j i) := ⟨_, rfl⟩
  have hz : ∃ t, zwh (fun (q : Int32) => f_X6_isBiased_L3 σ r (nI j) (zI σ 11 0 10) q) zFu 0 = some t ∧ ((t = .inl () ∧ ¬ fb_ct p (L j) = 0) ∨ (t = .inr () ∧ fb_ct p (L j) = 0)) := by
    refine zwh_ex (fun (i : Nat) (q : Int32) => q = nI i ∧ ∀ a, a < i → p a = false) _ (L j) ⟨rfl, fun a ha => absurd ha (Nat.not_lt_zero a)⟩ (fun i q hi hq => ?_) (fun q hq => ?_) (by omega)
    · obtain ⟨rfl, hq⟩ := hq
      have hR := hRn i hi
      obtain ⟨g1, ⟨a, ha, ga, gb⟩, -⟩ := k4 _ hR
      obtain ⟨tt, htt, t1, t2⟩ := hPan.2 (40 * j + a) (by omega)
      have hkn : zkn σ j (R j i) = decide (nI tt ≤ zI σ 11 0 10) := by
        unfold zkn
        rw [gb, nI_clamp (by omega), t2, hD]
      have hpi : p i = (m.testBit (R j i) && decide (nI tt ≤ zI σ 11 0 10)) := by rw [hp, ← hkn]
      have hkb : f_X2_knowsBy σ (nI j) (nI a) (zI σ 11 0 10) = if zI σ 11 0 10 < nI tt then some 0 else some 1 := by
        unfold f_X2_knowsBy
        rw [zq40, zmulI, nI_add, Nat.mul_comm j 40, if_neg (zlt0 (by omega)), if_neg (by rw [zq280, nI_leI (by omega) (by omega)]; omega), zix_n (show 40 * j + a < 280 by omega) (by omega), Option.bind_some, t1]
      have hrun : f_X6_isBiased_L3 σ r (nI j) (zI σ 11 0 10) (nI i) = if p i then some (.inr (.inl ())) else some (.inl (nI (i + 1))) := by
        unfold f_X6_isBiased_L3
        rw [X6_len hk hj, Option.bind_some, if_neg (by rw [nI_leI (by omega) (by omega)]; omega), X6_markAt hk hj hi, Option.bind_some, if_neg (zlt0 (by omega)), if_neg (by rw [zq10, nI_leI (by omega) (by omega)]; omega), zix_n (show R j i < 10 by omega) (by omega), Option.bind_some, g1]
        simp only [znu]
        unfold f_X6_isBiased_B42_3 f_X6_isBiased_B75_3
        simp only [znu]
        rw [X6_has hk (show R j i < 10 by omega), Option.bind_some, zif01, ga, hkb, nI_1, hpi]
        by_cases hb : m.testBit (R j i) = true
        · rw [if_pos hb, hb, Bool.true_and]
          by_cases hc : zI σ 11 0 10 < nI tt
          · rw [if_pos hc, Option.bind_some, if_pos rfl, decide_eq_false (fun h => zlt_not.mp hc h), if_neg (by decide)]
          · have hc2 : nI tt ≤ zI σ 11 0 10 := by
              rcases Decidable.em (nI tt ≤ zI σ 11 0 10) with h | h
              · exact h
              · exact absurd (zlt_not.mpr h) hc
            rw [if_neg hc, Option.bind_some, if_neg z10, decide_eq_true hc2, if_pos rfl]
        · have hb' : m.testBit (R j i) = false := by cases e : m.testBit (R j i); rfl; exact absurd e hb
          rw [if_neg hb, hb', Bool.false_and, if_neg (by decide)]
      by_cases hc : p i = true
      · refine Or.inr ⟨.inl (), ?_, Or.inl ⟨rfl, fun h0 => ?_⟩⟩
        · rw [hrun, if_pos hc]
        · have := fb_ct_zero.mp h0 i hi
          rw [hc] at this
          cases this
      · refine Or.inl ⟨nI (i + 1), ?_, rfl, fun a ha => ?_⟩
        · rw [hrun, if_neg hc]
        · by_cases e : a = i
          · rw [e]
            cases e2 : p i
            · rfl
            · exact absurd e2 hc
          · exact hq a (by omega)
    · obtain ⟨rfl, hq⟩ := hq
      refine ⟨.inr (), ?_, Or.inr ⟨rfl, fb_ct_zero.mpr hq⟩⟩
      unfold f_X6_isBiased_L3
      rw [X6_len hk hj, Option.bind_some, if_pos (nI_le (Nat.le_refl _) (by omega))]
  obtain ⟨t, w, ht⟩ := hz
  unfold f_X6_isBiased zNw
  rw [w, Option.bind_some, ← hp]
  rcases ht with ⟨rfl, h0⟩ | ⟨rfl, h0⟩
  · rw [if_neg (by rw [decide_eq_false h0]; decide)]
    rfl
  · rw [if_pos (decide_eq_true h0)]
    rfl
theorem zbool (b : Bool) : vp_nar .boolean (if b then 1 else 0) = if b then 1 else 0 := by cases b <;> decide
theorem X6_weigh {σ : zM} {r m J n : Nat} {L : Nat → Nat} {R : Nat → Nat → Nat} (hk : zRk σ r m L R) (hSch : iSch σ) (hPan : iPan σ) (hJ : zI σ 2 0 1 = nI J) (hJ7 : J ≤ 7) (hn : zI σ 12 0 1 = nI n) (hn10 : n ≤ 10) (hRn : ∀ j, j < 7 → ∀ i, i < L j → R j i < n) (hD : zI σ 11 0 10 = zI σ 12 0 0) : ∃ σ', f_X6_weighVoices σ r (zI σ 11 0 10) = some σ' ∧ zEx [(6, 3)] σ σ' ∧ zRvo σ' r (fun j => decide (j < J) && zNw σ m L R j) ∧ ∀ r', r' ≠ r → zA σ' 6 r' 3 = zA σ 6 r' 3 := by
  have hz : ∃ t, zwh (fun (q : (Int32 × zM)) => f_X6_weighVoices_L3 r (zI σ 11 0 10) q.1 q.2) zFu (0, σ) = some t ∧ zEx [(6, 3)] σ t ∧ zRvo t r (fun j => decide (j < J) && zNw σ m L R j) ∧ ∀ r', r' ≠ r → zA t 6 r' 3 = zA σ 6 r' 3 := by
    refine zwh_ex (fun (j : Nat) (q : Int32 × zM) => q.1 = nI j ∧ zEx [(6, 3)] σ q.2 ∧ (∀ a, a < j → zA q.2 6 r 3 a = if (decide (a < J) && zNw σ m L R a) then 1 else 0) ∧ ∀ r', r' ≠ r → zA q.2 6 r' 3 = zA σ 6 r' 3) _ 7 ⟨rfl, zEx.rf, fun a ha => absurd ha (Nat.not_lt_zero a), fun _ _ => rfl⟩ (fun j q hj hq => ?_) (fun q hq => ?_) (by omega)
    · obtain ⟨q1, q2⟩ := q
      obtain ⟨h1, h2, h3, h4⟩ := hq
      simp only at h1 h2 h3 h4
      subst h1
      have hb := X6_biased (j := j) (zRk_x h2 (by decide) hk) (iSch_fr h2 (by decide) hSch) (iPan_fr h2 (by decide) hPan) (by rw [h2.1 12 0 1 (by decide)]; exact hn) hn10 (hRn j hj) (by rw [h2.1 11 0 10 (by decide), h2.1 12 0 0 (by decide)]; exact hD) hj
      rw [h2.1 11 0 10 (by decide), zNw_x h2 (by decide)] at hb
      have hhas : f_X2_has q2 (nI j) = if j < J then 1 else 0 := by
        unfold f_X2_has
        rw [if_neg (zlt0 (by omega)), h2.1 2 0 1 (by decide), hJ]
        by_cases h : j < J
        · rw [if_neg (by rw [nI_leI (by omega) (by omega)]; omega), if_pos h]
        · rw [if_pos (by rw [nI_leI (by omega) (by omega)]; omega), if_neg h]
      refine Or.inl ⟨(nI (j + 1), zsA q2 6 r 3 j (if (decide (j < J) && zNw σ m L R j) then 1 else 0)), ?_, rfl, h2.tr (zEx_sA (by decide)), fun a ha => ?_, fun r' hr' => ?_⟩
      · show f_X6_weighVoices_L3 r (zI σ 11 0 10) (nI j) q2 = _
        unfold f_X6_weighVoices_L3 f_X6_weighVoices_B44_3 f_X6_weighVoices_B45_3
        rw [if_neg (by rw [zq7, nI_leI (by omega) (by omega)]; omega), hhas, hb, Option.bind_some, zix_n hj (by omega), Option.bind_some, zlt_e, Option.bind_some, zlt_e, nI_1]
        by_cases h : j < J
        · rw [if_pos h, if_neg z10, decide_eq_true h, Bool.true_and]
          cases zNw σ m L R j
          · rfl
          · rfl
        · rw [if_neg h, if_pos rfl, decide_eq_false h, Bool.false_and]
          rfl
      · show (if 6 = 6 ∧ r = r ∧ 3 = 3 then zu (zA q2 6 r 3) j _ else zA q2 6 r 3) a = _
        rw [if_pos ⟨rfl, rfl, rfl⟩]
        by_cases e : a = j
        · rw [e, zu_eq]
        · rw [zu_ne _ _ e]
          exact h3 a (by omega)
      · show (if 6 = 6 ∧ r' = r ∧ 3 = 3 then zu (zA q2 6 r 3) j _ else zA q2 6 r' 3) = _
        rw [if_neg (fun h => hr' h.2.1)]
        exact h4 r' hr'
    · obtain ⟨q1, q2⟩ := q
      obtain ⟨h1, h2, h3, h4⟩ := hq
      simp only at h1 h2 h3 h4
      subst h1
      refine ⟨q2, ?_, h2, h3, h4⟩
      show f_X6_weighVoices_L3 r (zI σ 11 0 10) (nI 7) q2 = _
      unfold f_X6_weighVoices_L3
      rw [if_pos (show (7 : Int32) ≤ nI 7 by decide)]
  obtain ⟨t, h1, h2⟩ := hz
  refine ⟨t, ?_, h2⟩
  unfold f_X6_weighVoices
  rw [h1, Option.bind_some]
