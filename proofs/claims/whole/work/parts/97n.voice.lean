/-! rounds as they stand in both -/
theorem ztb_hi {m a s : Nat} (hm : m < 2 ^ a) (h : a ≤ s) : m.testBit s = false := Nat.testBit_lt_two_pow (Nat.lt_of_lt_of_le hm (Nat.pow_le_pow_right (show 0 < 2 by decide) h))
def zLL (σ : zM) (r j : Nat) : Nat := (zA σ 12 0 57 (7 * r + j)).toNatClampNeg
def zRR (σ : zM) (r j i : Nat) : Nat := (zA σ 12 0 56 (10 * (7 * r + j) + i)).toNatClampNeg
theorem zRo_rows {σ : zM} {r m n : Nat} (hn : n ≤ 10) (h : iRo1 σ (nI n) r m) : ∀ j, j < 7 → zLL σ r j ≤ 10 ∧ zA σ 6 r 2 j = nI (zLL σ r j) ∧ zA σ 12 0 57 (7 * r + j) = nI (zLL σ r j) ∧ (zI σ 12 0 48 ≤ nI j → zLL σ r j = 0) ∧ (∀ a b, a < b → b < zLL σ r j → zRR σ r j a ≠ zRR σ r j b) ∧ ∀ i, i < zLL σ r j → zRR σ r j i < n ∧ zA σ 6 r 1 (10 * j + i) = nI (zRR σ r j i) ∧ zA σ 12 0 56 (10 * (7 * r + j) + i) = nI (zRR σ r j i) := by
  intro j hj
  obtain ⟨len, g1, g2, g3, g5, g6, g4⟩ := h.2.2.2 j hj
  have eL : zLL σ r j = len := by unfold zLL; rw [g3, nI_clamp (by omega)]
  rw [eL]
  have hR : ∀ i, i < len → zRR σ r j i < n ∧ zA σ 6 r 1 (10 * j + i) = nI (zRR σ r j i) ∧ zA σ 12 0 56 (10 * (7 * r + j) + i) = nI (zRR σ r j i) := fun i hi => by
    obtain ⟨s, s1, s2, s3, s4⟩ := g4 i hi
    have eR : zRR σ r j i = s := by unfold zRR; rw [s4, nI_clamp (by omega)]
    rw [eR]
    rw [nI_ltI (by omega) (by omega)] at s2
    exact ⟨s2, s3, s4⟩
  refine ⟨g1, g2, g3, g5, fun a b hab hb e => ?_, hR⟩
  refine g6 a b hab hb ?_
  rw [(hR a (by omega)).2.1, (hR b hb).2.1, e]
theorem zRk_of {σ : zM} {r m n : Nat} (hr : r < 2) (hn : n ≤ 10) (h : iRo1 σ (nI n) r m) : zRk σ r m (zLL σ r) (zRR σ r) := by
  refine ⟨hr, h.1, h.2.1, h.2.2.1, fun j hj => ?_⟩
  obtain ⟨g1, g2, g3, g5, g6, g4⟩ := zRo_rows hn h j hj
  exact ⟨g1, g2, g6, fun i hi => ⟨by have := (g4 i hi).1; omega, (g4 i hi).2.1⟩⟩
theorem zRef_of {σ : zM} {r m n J : Nat} (hr : r < 2) (hn : n ≤ 10) (hJ : J ≤ 7) (h : iRo1 σ (nI n) r m) (e48 : zI σ 12 0 48 = nI J) (e1 : zI σ 12 0 1 = nI n) (e58 : zA σ 12 0 58 r = nI m) (hb : ∀ s, m.testBit s = true → s < n) : zRef σ r m J n (zLL σ r) (zRR σ r) := by
  refine ⟨hr, h.1, hJ, hn, e48, e1, e58, hb, fun j hj => ?_⟩
  obtain ⟨g1, g2, g3, g5, g6, g4⟩ := zRo_rows hn h j hj
  exact ⟨g1, g3, fun hh => g5 (by rw [e48]; exact nI_le hh (by omega)), g6, fun i hi => ⟨(g4 i hi).1, (g4 i hi).2.2⟩⟩
def zFr : List (Nat × Nat) := [(6, 3), (6, 4), (6, 5), (12, 62), (12, 63), (12, 64)]
/-- a round that was opened, as the calls see it: r, its schemes m, its voices V -/
def zRd (n : Nat) (σ σ1 : zM) (r m J k cl : Nat) (V : Nat → Bool) : Prop := r < 2 ∧ k ≤ 10 ∧ J ≤ 7 ∧ zEx [(6, 3)] σ σ1 ∧ zInv n σ1 ∧ zRk σ1 r m (zLL σ r) (zRR σ r) ∧ zRvo σ1 r V ∧ zRef σ r m J k (zLL σ r) (zRR σ r) ∧ (zI σ 12 0 50 = nI cl ∧ cl ≤ 2) ∧ (∀ j, J ≤ j → V j = false) ∧ m ≠ 0 ∧ (∀ σ', zEx [(6, 3), (6, 4), (6, 5), (12, 62), (12, 63), (12, 64)] σ σ' → ∀ j, j < J → f_X12_counts σ' (nI r) (nI j) = some (if V j then 1 else 0)) ∧ (r < cl → σ1 = σ ∧ zI σ 6 r 7 = zA σ 12 0 60 r ∧ zNm (zA σ 12 0 60 r) 2 ∧ zI σ 6 r 8 = zA σ 12 0 61 r)
theorem zn2 {x : Int32} {k : Nat} (hk : k ≤ 2) : (∃ r, r < k ∧ x = nI (r + 1) ∧ f_X12_isIn x 1 (nI k) = 1) ∨ ((x < 1 ∨ nI k < x) ∧ f_X12_isIn x 1 (nI k) = 0) := by
  rcases zcase x (n := k + 1) (by omega) with ⟨j, hj, rfl⟩ | hx
  · by_cases h0 : j = 0
    · subst h0
      refine Or.inr ⟨Or.inl (by decide), ?_⟩
      unfold f_X12_isIn
      rw [if_pos (by decide)]
    · exact Or.inl ⟨j - 1, by omega, by rw [show j - 1 + 1 = j by omega], zisIn_1 (a := 1) (by omega) (by omega) (by omega)⟩
  · have hx2 : x < 1 ∨ nI k < x := by
      rcases hx with hx | hx
      · left
        rw [fa_lt] at hx ⊢
        have e0 : (0 : Int32).toInt = 0 := rfl
        have e1 : (1 : Int32).toInt = 1 := rfl
        omega
      · right
        rw [fa_le, nI_toInt (by omega)] at hx
        rw [fa_lt, nI_toInt (by omega)]
        omega
    refine Or.inr ⟨hx2, ?_⟩
    unfold f_X12_isIn
    by_cases h1 : x < 1
    · rw [if_pos h1]
    · rw [if_neg h1, if_pos (hx2.resolve_left h1)]
theorem zroundAt {n : Nat} {σ : zM} (hI : zInv n σ) (x1 : Int32) : (∃ r m J k cl V σ1, x1 = nI (r + 1) ∧ f_X11_roundAt σ x1 = some (some r, σ1) ∧ f_X12_isIn x1 1 (zI σ 12 0 49) = 1 ∧ zRd n σ σ1 r m J k cl V ∧ (r < cl ∨ zI σ 11 0 14 = x1) ∧ (r < cl → zI σ 11 0 14 ≠ x1)) ∨ (f_X11_roundAt σ x1 = some (none, σ) ∧ f_X12_isIn x1 1 (zI σ 12 0 49) = 0) := by
  have hI0 := hI
  obtain ⟨hDay, hFlt, hTap, hNam, hSun, hSch, hPai, hQue, hPan, hWds, hBri, hMen, hRnd⟩ := hI
  have hRnd0 := hRnd
  obtain ⟨k, k1, k2, k3, k4, k5⟩ := hSch
  have hSch : iSch σ := ⟨k, k1, k2, k3, k4, k5⟩
  obtain ⟨⟨J, J1, J2, J3⟩, hp⟩ := hPan
  have hPan : iPan σ := ⟨⟨J, J1, J2, J3⟩, hp⟩
  unfold iRnd at hRnd
  rw [k3] at hRnd
  obtain ⟨cl, op, m0, m1, m2, f, st, c1, c2, c3, e50, e54, e49, e15, e14, o0, o1, b0, b1, e58, z0, n0, e65, z1, n1, e581, z2, z3, hc, d⟩ := hRnd
  have hb0 : ∀ s, m0.testBit s = true → s < k := fun s hs => by
    have h := b0 s hs
    have hs10 : s < 10 := by
      rcases Nat.lt_or_ge s 10 with h | h
      · exact h
      · have := ztb_hi (m := m0) (a := 10) (s := s) o0.1 h
        rw [this] at hs
        cases hs
    rw [nI_ltI (by omega) (by omega)] at h
    exact h
  rw [e49]
  rcases zn2 (x := x1) c3 with ⟨r, hr, rfl, hin⟩ | ⟨hx, hin⟩
  · -- an opened round
    obtain ⟨m, hm1, hm2, hm3, hm4⟩ : ∃ m, iRo1 σ (nI k) r m ∧ zA σ 12 0 58 r = nI m ∧ (∀ s, m.testBit s = true → s < k) ∧ m ≠ 0 := by
      have : r = 0 ∨ r = 1 := by omega
      rcases this with rfl | rfl
      · exact ⟨m0, o0, e58, hb0, n0 (by omega)⟩
      · exact ⟨m1, o1, by rw [e581, z2 (by omega)], fun s hs => hb0 s (b1 s hs), n1 (by omega)⟩
    have hr2 : r < 2 := by omega
    have hk := zRk_of hr2 k1 hm1
    have hf := zRef_of hr2 k1 J1 hm1 J3 k3 hm2 hm3
    have hau : ∀ s, s < k → ∃ a, a < 40 ∧ zA σ 12 0 4 s = nI a := fun s hs => by
      obtain ⟨-, ⟨a, ha, -, g⟩, -⟩ := k4 s hs
      exact ⟨a, ha, g⟩
    have hrun1 : f_X11_roundAt σ (nI (r + 1)) = f_X11_roundAt_B44 σ (nI (r + 1)) r := by
      unfold f_X11_roundAt
      rw [if_neg (by rw [zq1, nI_ltI (by omega) (by omega)]; omega), if_neg (by rw [zq2, nI_ltI (by omega) (by omega)]; omega), e15, e14]
      have hB : f_X11_roundAt_B28 σ (nI (r + 1)) = f_X11_roundAt_B44 σ (nI (r + 1)) r := by
        unfold f_X11_roundAt_B28
        have : r = 0 ∨ r = 1 := by omega
        rcases this with rfl | rfl
        · rw [if_pos (by rfl)]
        · rw [if_neg (by decide)]
      by_cases h : r + 1 ≤ cl
      · rw [if_pos (nI_le h (by omega)), hB]
      · have hop : op = 1 := by omega
        rw [if_neg (by rw [nI_leI (by omega) (by omega)]; exact h), if_pos (by rw [if_pos hop]; congr 1; omega), hB]
    have e10 : zI σ 11 0 10 = zI σ 12 0 0 := hDay.1
    have hopn : zI σ 11 0 14 = nI (r + 1) ↔ ¬ r < cl := by
      rw [e14]
      by_cases hop : op = 1
      · rw [if_pos hop, nI_eq (by omega) (by omega)]
        omega
      · rw [if_neg hop, nI_eq (by omega) (by omega)]
        omega
    by_cases hcl : r < cl
    · obtain ⟨⟨v, v1, v2, v3⟩, g7, g72, g8, -⟩ := hc r hcl
      have hne : ¬ nI (r + 1) = zI σ 11 0 14 := fun h => hopn.mp h.symm hcl
      refine Or.inl ⟨r, m, J, k, cl, fun j => v.testBit j, σ, rfl, ?_, hin, ⟨hr2, k1, J1, zEx.rf, hI0, hk, fun j hj => (v3 j hj).1, hf, ⟨e50, c1⟩, fun j hj => ?_, hm4, fun σ' hσ' j hj => ?_, fun _ => ⟨rfl, g7, g72, g8⟩⟩, Or.inl hcl, fun _ h => hne h.symm⟩
      · rw [hrun1]
        unfold f_X11_roundAt_B44
        rw [if_neg hne]
      · rcases Nat.lt_or_ge j 7 with hj7 | hj7
        · exact (v3 j hj7).2 (by rw [J3]; exact nI_le hj (by omega))
        · exact ztb_hi (a := 7) v1 hj7
      · unfold f_X12_counts
        rw [hσ'.1 12 0 50 (by decide), e50, if_neg (by rw [nI_leI (by omega) (by omega)]; omega), zix_n hr2 (by omega), Option.bind_some, hσ'.2.2.2.1 12 0 59 (by decide), v2]
        by_cases h : v.testBit j = true
        · rw [if_pos ((zsbit (by omega) (by omega)).mpr h), if_pos h]
        · rw [if_neg (fun e => h ((zsbit (by omega) (by omega)).mp e)), if_neg h]
    · obtain ⟨σ1, w1, w2, w3, w4⟩ := X6_weigh hk hSch hPan J2 J1 k3 k1 (fun j hj i hi => ((zRo_rows k1 hm1 j hj).2.2.2.2.2 i hi).1) e10
      have hI1 : zInv n σ1 := by
        refine ⟨iDay_fr w2 (by decide) hDay, iFlt_fr w2 (by decide) hFlt, iTap_fr w2 (by decide) hTap, iNam_fr w2 (by decide) hNam, iSun_fr w2 (by decide) hSun, iSch_fr w2 (by decide) hSch, iPai_fr w2 (by decide) hPai, iQue_fr w2 (by decide) hQue, iPan_fr w2 (by decide) hPan, iWds_fr w2 (by decide) hWds, iBri_fr w2 (by decide) hBri, iMen_fr w2 (by decide) hMen, ?_⟩
        unfold iRnd
        have q0 : ∀ c i j, (c, j) ∉ [(6, 3)] → zI σ1 c i j = zI σ c i j := w2.1
        have q1 : ∀ c i j, (c, j) ∉ [(6, 3)] → zA σ1 c i j = zA σ c i j := w2.2.2.2.1
        have ro : ∀ r m, iRo1 σ (nI k) r m → iRo1 σ1 (nI k) r m := fun r m h => by
          unfold iRo1 at h ⊢
          rw [q1 6 r 0 (by simp), q0 6 r 6 (by simp), q1 6 r 1 (by simp), q1 6 r 2 (by simp), q1 12 0 57 (by simp), q1 12 0 56 (by simp), q0 12 0 48 (by simp)]
          exact h
        rw [q0 12 0 1 (by simp), k3]
        refine ⟨cl, op, m0, m1, m2, f, st, c1, c2, c3, (q0 12 0 50 (by simp)).trans e50, (q0 12 0 54 (by simp)).trans e54, (q0 12 0 49 (by simp)).trans e49, (q0 11 0 15 (by simp)).trans e15, (q0 11 0 14 (by simp)).trans e14, ro _ _ o0, ro _ _ o1, b0, b1, by rw [q1 12 0 58 (by simp)]; exact e58, z0, n0, (q0 12 0 65 (by simp)).trans e65, z1, n1, by rw [q1 12 0 58 (by simp)]; exact e581, z2, z3, fun r' hr' => ?_, ?_⟩
        · have hne : r' ≠ r := by omega
          have := hc r' hr'
          unfold iRoC at this ⊢
          rw [w4 r' hne, q1 12 0 59 (by simp), q0 12 0 48 (by simp), q0 6 r' 7 (by simp), q1 12 0 60 (by simp), q0 6 r' 8 (by simp), q1 12 0 61 (by simp)]
          exact this
        · rw [q0 11 0 16 (by simp), q0 12 0 51 (by simp), q0 11 0 17 (by simp), q0 12 0 52 (by simp), q0 11 0 18 (by simp), q0 12 0 53 (by simp)]
          exact d
      refine Or.inl ⟨r, m, J, k, cl, fun j => decide (j < J) && zNw σ m (zLL σ r) (zRR σ r) j, σ1, rfl, ?_, hin, ⟨hr2, k1, J1, w2, hI1, zRk_x w2 (by decide) hk, w3, hf, ⟨e50, c1⟩, fun j hj => ?_, hm4, fun σ' hσ' j hj => ?_, fun h => absurd h hcl⟩, Or.inr (hopn.mpr hcl), fun h => absurd h hcl⟩
      · rw [hrun1]
        unfold f_X11_roundAt_B44
        rw [if_pos (hopn.mpr hcl).symm, w1, Option.bind_some]
      · show (decide (j < J) && _) = false
        rw [decide_eq_false (by omega), Bool.false_and]
      · unfold f_X12_counts
        rw [hσ'.1 12 0 50 (by decide), e50, if_pos (by rw [nI_leI (by omega) (by omega)]; omega), X12_now (zRef_x hσ' (by decide) hf) (by rw [hσ'.2.2.2.1 12 0 4 (by decide)]; exact hau) (show j < 7 by omega), Option.bind_some, zNw_x hσ' (by decide)]
        show _ = some (if (decide (j < J) && zNw σ m (zLL σ r) (zRR σ r) j) = true then 1 else 0)
        rw [decide_eq_true hj, Bool.true_and]
  · refine Or.inr ⟨?_, hin⟩
    unfold f_X11_roundAt
    by_cases h1 : x1 < 1
    · rw [if_pos h1]
    · have h2 := hx.resolve_left h1
      rw [if_neg h1]
      by_cases h3 : 2 < x1
      · rw [if_pos h3]
      · rw [if_neg h3, e15, e14, if_neg, if_neg]
        · intro e
          rw [e] at h2
          by_cases hop : op = 1
          · rw [if_pos hop, nI_ltI (by omega) (by omega)] at h2
            omega
          · rw [if_neg hop, nI_ltI (by omega) (by omega)] at h2
            omega
        · intro h
          have h4 := fa_trans h2 h
          rw [nI_ltI (by omega) (by omega)] at h4
          omega
theorem zisRul (x : Int32) : (∃ q, q < 3 ∧ x = nI q ∧ f_X11_isRule x = 1 ∧ f_X12_isIn x 0 2 = 1) ∨ ((x < 0 ∨ 3 ≤ x) ∧ f_X11_isRule x = 0 ∧ f_X12_isIn x 0 2 = 0) := by
  unfold f_X11_isRule
  rcases zcase x (n := 3) (by omega) with ⟨t, ht, rfl⟩ | hx
  · exact Or.inl ⟨t, by omega, rfl, by rw [if_neg (zlt0 (by omega)), if_neg (by rw [zq2, nI_ltI (by omega) (by omega)]; omega)], zisIn_1 (a := 0) (m := 2) (by omega) (by omega) (by omega)⟩
  · refine Or.inr ⟨hx, ?_, zisIn_0' (m := 2) (by omega) hx⟩
    by_cases h0 : x < 0
    · rw [if_pos h0]
    · have h1 := hx.resolve_left h0
      rw [fa_le, nI_toInt (by omega)] at h1
      rw [if_neg h0, if_pos (by rw [zq2, fa_lt, nI_toInt (by omega)]; omega)]
theorem zsame {σ σ1 : zM} (h : zEx [(6, 3)] σ σ1) : zSc σ1 = zSc σ ∧ zMd σ1 = zMd σ := by
  refine ⟨?_, ?_⟩
  · show (zI σ1 11 0 12).toNatClampNeg = (zI σ 11 0 12).toNatClampNeg
    rw [h.1 11 0 12 (by decide)]
  · show (zI σ1 1 0 2).toNatClampNeg + (if zR σ1 1 0 3 = none then 0 else 1) = zMd σ
    rw [h.1 1 0 2 (by decide), h.2.2.1 1 0 3 (by decide)]
    rfl
theorem ob_points (x1 x2 x3 : Int32) : zOb zInv (fun σ => f_X11_points σ x1 x2 x3) (fun σ => (f_X12_points σ x1 x2 x3).map (fun r => (r, σ))) := by
  intro n σ hn hI
  rcases zroundAt hI x1 with ⟨r, m, J, k, cl, V, σ1, rfl, e1, e2, ⟨hr, hk10, hJ7, w2, hI1, hk, hv, hf, e50, hV0, hm0, hcn, -⟩, -, -⟩ | ⟨e1, e2⟩
  · obtain ⟨s1, s2⟩ := zsame w2
    have hf1 := zRef_x w2 (by decide) hf
    have e2' : f_X12_isIn (nI (r + 1)) 1 (zI σ1 12 0 49) = 1 := by rw [w2.1 12 0 49 (by decide)]; exact e2
    have hno : f_X11_points σ (nI (r + 1)) x2 x3 = some (-1, σ1) → f_X12_points σ1 (nI (r + 1)) x2 x3 = some (-1) → ∃ a σ1 σ2, f_X11_points σ (nI (r + 1)) x2 x3 = some (a, σ1) ∧ (f_X12_points σ1 (nI (r + 1)) x2 x3).map (fun r => (r, σ1)) = some (a, σ2) ∧ zInv (n + 8) σ2 ∧ zSc σ2 = zSc σ ∧ zMd σ2 = zMd σ := fun h1 h2 => ⟨-1, σ1, σ1, h1, by rw [h2]; rfl, zMono n σ1 hI1, s1, s2⟩
    have hcls : f_X11_points σ (nI (r + 1)) x2 x3 = if f_X11_isRule x2 = 0 then some (-1, σ1) else ((f_X6_has σ1 r x3).bind fun r7 => if r7 = 0 then (some ((-1), σ1)) else ((f_X6_pointsBy σ1 r x2 x3).bind fun r10 => some (r10, σ1))) := by
      unfold f_X11_points
      rw [e1, Option.bind_some]
      rfl
    rcases zisRul x2 with ⟨q, hq, rfl, g1, g2⟩ | ⟨-, g1, g2⟩
    · have hrf : f_X12_points σ1 (nI (r + 1)) (nI q) x3 = (if (f_X12_isScheme σ1 x3) = 0 then (some (-1)) else ((f_X12_isInRound σ1 (nI r) x3).bind fun r7 => if r7 = 0 then (some (-1)) else ((f_X12_pointsOf σ1 (nI r) (nI q) x3).bind fun r10 => some r10))) := by
        unfold f_X12_points
        rw [e2', if_neg z10, g2, if_neg z10, nI_pred]
      rw [g1, if_neg z10] at hcls
      rcases zcase x3 (n := 10) (by omega) with ⟨s, hs, rfl⟩ | hx
      · rw [X6_has hk hs, Option.bind_some, zif01] at hcls
        by_cases hms : m.testBit s = true
        · have hsk := hf.2.2.2.2.2.2.2.1 s hms
          rw [if_pos hms, X6_points hk hv hs hq, Option.bind_some] at hcls
          refine ⟨zPts m (zLL σ r) (zRR σ r) V q s, σ1, σ1, hcls, ?_, zMono n σ1 hI1, s1, s2⟩
          have his : f_X12_isScheme σ1 (nI s) = 1 := by
            unfold f_X12_isScheme
            rw [hf1.2.2.2.2.2.1]
            exact zisIn_p hsk (by omega)
          show (f_X12_points σ1 (nI (r + 1)) (nI q) (nI s)).map (fun r => (r, σ1)) = _
          rw [hrf, his, if_neg z10, X12_inR hf1 hs, Option.bind_some, zif01, if_pos hms, X12_pts hf1 (hcn σ1 (w2.mo (by decide))) hV0 hs hms hq]
          rfl
        · rw [if_neg hms] at hcls
          refine hno hcls ?_
          rw [hrf]
          by_cases his : f_X12_isScheme σ1 (nI s) = 0
          · rw [if_pos his]
          · rw [if_neg his, X12_inR hf1 hs, Option.bind_some, zif01, if_neg hms]
      · have hh : f_X6_has σ1 r x3 = some 0 := by
          unfold f_X6_has
          by_cases h0 : x3 < 0
          · rw [if_pos h0]
          · rw [if_neg h0, if_pos (show (10 : Int32) ≤ x3 from hx.resolve_left h0)]
        rw [hh, Option.bind_some, if_pos rfl] at hcls
        refine hno hcls ?_
        have his : f_X12_isScheme σ1 x3 = 0 := by
          unfold f_X12_isScheme
          rw [hf1.2.2.2.2.2.1]
          refine zisIn_0 (by omega) (hx.imp id (fun h => ?_))
          rw [fa_le, nI_toInt (by omega)] at h ⊢
          omega
        rw [hrf, his, if_pos rfl]
    · rw [g1, if_pos rfl] at hcls
      refine hno hcls ?_
      unfold f_X12_points
      rw [e2', if_neg z10, g2, if_pos rfl]
  · refine ⟨-1, σ, σ, ?_, ?_, zMono n σ hI, rfl, rfl⟩
    · show f_X11_points σ x1 x2 x3 = _
      unfold f_X11_points
      rw [e1, Option.bind_some]
      rfl
    · show (f_X12_points σ x1 x2 x3).map _ = _
      unfold f_X12_points
      rw [e2, if_pos rfl]
      rfl
theorem ob_voice (x1 x2 : Int32) : zOb zInv (fun σ => f_X11_voice σ x1 x2) (fun σ => (f_X12_voice σ x1 x2).map (fun r => (r, σ))) := by
  intro n σ hn hI
  rcases zroundAt hI x1 with ⟨r, m, J, k, cl, V, σ1, rfl, e1, e2, ⟨hr, hk10, hJ7, w2, hI1, hk, hv, hf, e50, hV0, hm0, hcn, -⟩, -, -⟩ | ⟨e1, e2⟩
  · obtain ⟨s1, s2⟩ := zsame w2
    have hf1 := zRef_x w2 (by decide) hf
    have e2' : f_X12_isIn (nI (r + 1)) 1 (zI σ1 12 0 49) = 1 := by rw [w2.1 12 0 49 (by decide)]; exact e2
    have hcls : f_X11_voice σ (nI (r + 1)) x2 = if f_X2_has σ1 x2 = 0 then some (-1, σ1) else ((f_X6_counts σ1 r x2).bind fun r7 => if r7 = 0 then (some (0, σ1)) else (some (1, σ1))) := by
      unfold f_X11_voice
      rw [e1, Option.bind_some]
      rfl
    have hPan1 : iPan σ1 := hI1.2.2.2.2.2.2.2.2.1
    rcases zisJur hPan1 x2 with ⟨j, hj, rfl, hj2, g1, g2⟩ | ⟨g1, g2⟩
    · have hjJ : j < J := by
        rw [hf1.2.2.2.2.1, nI_ltI (by omega) (by omega)] at hj2
        exact hj2
      rw [g1, if_neg z10, X6_counts hv hj, Option.bind_some, zif01] at hcls
      refine ⟨if V j then 1 else 0, σ1, σ1, ?_, ?_, zMono n σ1 hI1, s1, s2⟩
      · show f_X11_voice σ (nI (r + 1)) (nI j) = _
        rw [hcls]
        cases V j <;> rfl
      · show (f_X12_voice σ1 (nI (r + 1)) (nI j)).map _ = _
        unfold f_X12_voice
        rw [e2', if_neg z10, g2, if_neg z10, nI_pred, hcn σ1 (w2.mo (by decide)) j hjJ, Option.bind_some]
        cases V j <;> rfl
    · rw [g1, if_pos rfl] at hcls
      refine ⟨-1, σ1, σ1, hcls, ?_, zMono n σ1 hI1, s1, s2⟩
      show (f_X12_voice σ1 (nI (r + 1)) x2).map _ = _
      unfold f_X12_voice
      rw [e2', if_neg z10, g2, if_pos rfl]
      rfl
  · refine ⟨-1, σ, σ, ?_, ?_, zMono n σ hI, rfl, rfl⟩
    · show f_X11_voice σ x1 x2 = _
      unfold f_X11_voice
      rw [e1, Option.bind_some]
      rfl
    · show (f_X12_voice σ x1 x2).map _ = _
      unfold f_X12_voice
      rw [e2, if_pos rfl]
      rfl
