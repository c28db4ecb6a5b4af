/-! marks: a row is told -/
def zRow (N L i : Nat) : Nat := zdg N (L - 1 - i) - 1
theorem zdgIC {N L i : Nat} (hN : N < 2 ^ 63) (hL : L ≤ 10) (hi : i < L) (hd : 1 ≤ zdg N (L - 1 - i)) : ((zlushr (lN N) (4 * ((nI L - 1) - nI i))) &&& 15).toInt32 - 1 = nI (zRow N L i) ∧ ((zlshr (lN N) (4 * ((nI L - 1) - nI i))) &&& 15).toInt32 - 1 = nI (zRow N L i) := by
  have e : 4 * ((nI L - 1) - nI i) = nI (4 * (L - 1 - i)) := by
    rw [zq1, zsubI (by omega), zsubI (by omega), zq4, zmulI]
  obtain ⟨d, hd2⟩ : ∃ d, zdg N (L - 1 - i) = d + 1 := ⟨zdg N (L - 1 - i) - 1, by omega⟩
  rw [e, zdgC hN (by omega), zdgR hN (by omega)]
  unfold zRow
  rw [hd2, nI_pred]
  exact ⟨rfl, rfl⟩
theorem X6_mk2 {σ : zM} {r j N L : Nat} {x4 : Int32} (hN : N < 2 ^ 63) (hL : L ≤ 10) (hj : j < 7) (hd : ∀ a, a < L → 1 ≤ zdg N a) : ∃ σ', zwh (fun (q : (Int32 × zM)) => f_X6_mark_L139 r (nI j) (lN N) x4 (nI L) q.1 q.2) zFu (0, σ) = some σ' ∧ zEx [(6, 1)] σ σ' ∧ (∀ r', r' ≠ r → zA σ' 6 r' 1 = zA σ 6 r' 1) ∧ (∀ p, (p < 10 * j ∨ 10 * j + 10 ≤ p) → zA σ' 6 r 1 p = zA σ 6 r 1 p) ∧ ∀ i, i < L → zA σ' 6 r 1 (10 * j + i) = nI (zRow N L i) := by
  refine zwh_ex (fun (i : Nat) (q : Int32 × zM) => q.1 = nI i ∧ zEx [(6, 1)] σ q.2 ∧ (∀ r', r' ≠ r → zA q.2 6 r' 1 = zA σ 6 r' 1) ∧ (∀ p, (p < 10 * j ∨ 10 * j + 10 ≤ p) → zA q.2 6 r 1 p = zA σ 6 r 1 p) ∧ ∀ a, a < i → zA q.2 6 r 1 (10 * j + a) = nI (zRow N L a)) _ L ⟨rfl, zEx.rf, fun _ _ => rfl, fun _ _ => rfl, fun a ha => absurd ha (Nat.not_lt_zero a)⟩ (fun i q hi hq => ?_) (fun q hq => ?_) (by omega)
  · obtain ⟨q1, q2⟩ := q
    obtain ⟨h1, h2, h3, h4, h5⟩ := hq
    simp only at h1 h2 h3 h4 h5
    subst h1
    have eA : ∀ r' p, zA (zsA q2 6 r 1 (10 * j + i) (nI (zRow N L i))) 6 r' 1 p = if r' = r then zu (zA q2 6 r 1) (10 * j + i) (nI (zRow N L i)) p else zA q2 6 r' 1 p := fun r' p => by
      rw [zA_sA]
      by_cases e : r' = r
      · rw [if_pos ⟨rfl, e, rfl⟩, if_pos e]
      · rw [if_neg (fun h => e h.2.1), if_neg e]
    refine Or.inl ⟨(nI (i + 1), zsA q2 6 r 1 (10 * j + i) (nI (zRow N L i))), ?_, rfl, h2.tr (zEx_sA (by decide)), fun r' hr' => ?_, fun p hp => ?_, fun a ha => ?_⟩
    · show f_X6_mark_L139 r (nI j) (lN N) x4 (nI L) (nI i) q2 = _
      unfold f_X6_mark_L139 f_X6_setMark
      rw [if_neg (by rw [nI_leI (by omega) (by omega)]; omega), (zdgIC hN hL hi (hd _ (by omega))).1, zq10, zmulI, nI_add, Nat.mul_comm j 10, if_neg (zlt0 (by omega)), if_neg (by rw [show (70 : Int32) = nI 70 from rfl, nI_leI (by omega) (by omega)]; omega), zix_n (show 10 * j + i < 70 by omega) (by omega), Option.bind_some, zlt_e, Option.bind_some, nI_1]
    · funext p
      rw [eA, if_neg hr', h3 r' hr']
    · rw [eA, if_pos rfl, zu_ne _ _ (by omega)]
      exact h4 p hp
    · rw [eA, if_pos rfl]
      by_cases e : a = i
      · rw [e, zu_eq]
      · rw [zu_ne _ _ (by omega)]
        exact h5 a (by omega)
  · obtain ⟨q1, q2⟩ := q
    obtain ⟨h1, h2, h3, h4, h5⟩ := hq
    simp only at h1 h2 h3 h4 h5
    subst h1
    refine ⟨q2, ?_, h2, h3, h4, h5⟩
    show f_X6_mark_L139 r (nI j) (lN N) x4 (nI L) (nI L) q2 = _
    unfold f_X6_mark_L139
    rw [if_pos (nI_le (Nat.le_refl _) (by omega))]
theorem X12_mk2 {σ : zM} {s N L : Nat} {x1 : Int32} (hN : N < 2 ^ 63) (hL : L ≤ 10) (hs : s < 14) (hd : ∀ a, a < L → 1 ≤ zdg N a) : ∃ σ', zwh (fun (q : (Int32 × zM)) => f_X12_marks_L133 x1 (lN N) (nI L) (nI s) q.1 q.2) zFu (0, σ) = some σ' ∧ zEx [(12, 56)] σ σ' ∧ (∀ p, (p < 10 * s ∨ 10 * s + 10 ≤ p) → zA σ' 12 0 56 p = zA σ 12 0 56 p) ∧ ∀ i, i < L → zA σ' 12 0 56 (10 * s + i) = nI (zRow N L i) := by
  refine zwh_ex (fun (i : Nat) (q : Int32 × zM) => q.1 = nI i ∧ zEx [(12, 56)] σ q.2 ∧ (∀ p, (p < 10 * s ∨ 10 * s + 10 ≤ p) → zA q.2 12 0 56 p = zA σ 12 0 56 p) ∧ ∀ a, a < i → zA q.2 12 0 56 (10 * s + a) = nI (zRow N L a)) _ L ⟨rfl, zEx.rf, fun _ _ => rfl, fun a ha => absurd ha (Nat.not_lt_zero a)⟩ (fun i q hi hq => ?_) (fun q hq => ?_) (by omega)
  · obtain ⟨q1, q2⟩ := q
    obtain ⟨h1, h2, h4, h5⟩ := hq
    simp only at h1 h2 h4 h5
    subst h1
    refine Or.inl ⟨(nI (i + 1), zsA q2 12 0 56 (10 * s + i) (nI (zRow N L i))), ?_, rfl, h2.tr (zEx_sA (by decide)), fun p hp => ?_, fun a ha => ?_⟩
    · show f_X12_marks_L133 x1 (lN N) (nI L) (nI s) (nI i) q2 = _
      unfold f_X12_marks_L133
      rw [if_neg (by rw [nI_leI (by omega) (by omega)]; omega), (zdgIC hN hL hi (hd _ (by omega))).2, zq10, zmulI, nI_add, zix_n (show 10 * s + i < 140 by omega) (by omega), Option.bind_some, zlt_e, nI_1]
    · show zu (zA q2 12 0 56) (10 * s + i) _ p = _
      rw [zu_ne _ _ (by omega)]
      exact h4 p hp
    · show zu (zA q2 12 0 56) (10 * s + i) _ (10 * s + a) = _
      by_cases e : a = i
      · rw [e, zu_eq]
      · rw [zu_ne _ _ (by omega)]
        exact h5 a (by omega)
  · obtain ⟨q1, q2⟩ := q
    obtain ⟨h1, h2, h4, h5⟩ := hq
    simp only at h1 h2 h4 h5
    subst h1
    refine ⟨q2, ?_, h2, h4, h5⟩
    show f_X12_marks_L133 x1 (lN N) (nI L) (nI s) (nI L) q2 = _
    unfold f_X12_marks_L133
    rw [if_pos (nI_le (Nat.le_refl _) (by omega))]
/-- a row of a round is told anew -/
theorem iRo1_mk {σ σ' : zM} {k N L r m r0 j : Nat} (hk : k ≤ 10) (h : iRo1 σ (nI k) r m) (hr : r < 2) (hr0 : r0 < 2) (hj : j < 7) (hL : L ≤ 10) (hg : zGd k N L) (h48 : zI σ' 12 0 48 = zI σ 12 0 48) (hJ : ¬ zI σ 12 0 48 ≤ nI j) (e0 : zA σ' 6 r 0 = zA σ 6 r 0) (e6 : zI σ' 6 r 6 = zI σ 6 r 6) (e2 : zA σ' 6 r 2 = if r = r0 then zu (zA σ 6 r 2) j (nI L) else zA σ 6 r 2) (e57 : zA σ' 12 0 57 = zu (zA σ 12 0 57) (7 * r0 + j) (nI L)) (f1 : ∀ p, (r ≠ r0 ∨ p < 10 * j ∨ 10 * j + 10 ≤ p) → zA σ' 6 r 1 p = zA σ 6 r 1 p) (f2 : r = r0 → ∀ i, i < L → zA σ' 6 r 1 (10 * j + i) = nI (zRow N L i)) (f3 : ∀ p, (p < 10 * (7 * r0 + j) ∨ 10 * (7 * r0 + j) + 10 ≤ p) → zA σ' 12 0 56 p = zA σ 12 0 56 p) (f4 : ∀ i, i < L → zA σ' 12 0 56 (10 * (7 * r0 + j) + i) = nI (zRow N L i)) : iRo1 σ' (nI k) r m := by
  refine ⟨h.1, by rw [e0]; exact h.2.1, by rw [e6]; exact h.2.2.1, fun j' hj' => ?_⟩
  by_cases hc : r = r0 ∧ j' = j
  · obtain ⟨rfl, rfl⟩ := hc
    have hrow : ∀ i, i < L → zRow N L i < k := fun i hi => by
      have := hg.1 (L - 1 - i) (by omega)
      unfold zRow
      omega
    refine ⟨L, hL, by rw [e2, if_pos rfl, zu_eq], by rw [e57, zu_eq], fun hh => absurd (by rw [← h48]; exact hh) hJ, fun a b hab hb e => ?_, fun i hi => ⟨zRow N L i, by have := hrow i hi; omega, nI_lt (hrow i hi) (by omega), f2 rfl i hi, f4 i hi⟩⟩
    rw [f2 rfl a (by omega), f2 rfl b hb, nI_eq (by have := hrow a (by omega); omega) (by have := hrow b hb; omega)] at e
    have g1 := hg.1 (L - 1 - a) (by omega)
    have g2 := hg.1 (L - 1 - b) (by omega)
    unfold zRow at e
    exact hg.2 (L - 1 - b) (L - 1 - a) (by omega) (by omega) (by omega)
  · obtain ⟨len, g1, g2, g3, g5, g6, g4⟩ := h.2.2.2 j' hj'
    have e1 : ∀ i, i < 10 → zA σ' 6 r 1 (10 * j' + i) = zA σ 6 r 1 (10 * j' + i) := fun i hi => f1 _ (by omega)
    have e3 : ∀ i, i < 10 → zA σ' 12 0 56 (10 * (7 * r + j') + i) = zA σ 12 0 56 (10 * (7 * r + j') + i) := fun i hi => f3 _ (by omega)
    refine ⟨len, g1, ?_, ?_, fun hh => g5 (by rw [← h48]; exact hh), fun a b hab hb => ?_, fun i hi => ?_⟩
    · rw [e2]
      by_cases er : r = r0
      · rw [if_pos er, zu_ne _ _ (fun e => hc ⟨er, e⟩)]
        exact g2
      · rw [if_neg er]
        exact g2
    · rw [e57, zu_ne _ _ (by omega)]
      exact g3
    · rw [e1 a (by omega), e1 b (by omega)]
      exact g6 a b hab hb
    · rw [e1 i (by omega), e3 i (by omega)]
      exact g4 i hi
theorem zbits11 {k N L S : Nat} (h : zMI k N L 0 S) : f_J6_bitCount_0f7a4 (nI S) = nI L := by
  have h1 := h.1
  have h5 := h.2.2.2.2
  have e0 : fb_ct (fun k => S.testBit (11 + k)) 21 = 0 := fb_ct_zero.mpr (fun d _ => ztb_hi (a := 11) h1 (by omega))
  rw [zbits32 (by omega), show (32 : Nat) = 11 + 21 from rfl, fb_ct_split, e0, h5]
  rfl
theorem zrow0 {x : Int64} (h : ¬ x < 0) : ∃ N, N < 2 ^ 63 ∧ x = lN N := by
  obtain ⟨N, h1, h2⟩ := pk_lOf h
  exact ⟨N, h1, h2⟩
theorem ob_marks (x1 : Int32) (x2 : Int64) : zOb zInv (fun σ => f_X11_marks σ x1 x2) (fun σ => f_X12_marks σ x1 x2) := by
  intro n σ hn hI
  have hI0 := hI
  have hra := zroundAt hI (zI σ 11 0 14)
  obtain ⟨hDay, hFlt, hTap, hNam, hSun, hSch, hPai, hQue, hPan, hWds, hBri, hMen, hRnd⟩ := hI
  have hRnd0 := hRnd
  obtain ⟨cl, op, m0, m1, m2, f, st, c1, c2, c3, e50, e54, e49, e15, e14, -⟩ := hRnd0
  by_cases hop : op = 1
  rotate_left
  · -- no round is open
    have hop0 : op = 0 := by omega
    refine ⟨-1, σ, σ, ?_, ?_, zMono n σ hI0, rfl, rfl⟩
    · show f_X11_marks σ x1 x2 = _
      unfold f_X11_marks
      rw [e14, if_neg hop, if_pos (show nI 0 = 0 from rfl)]
      rfl
    · show f_X12_marks σ x1 x2 = _
      unfold f_X12_marks
      by_cases h : f_X12_isJuror σ x1 = 0
      · rw [if_pos h]
      · rw [if_neg h, e54, hop0, if_pos (show nI 0 = 0 from rfl)]
  · have e14' : zI σ 11 0 14 = nI (cl + 1) := by rw [e14, if_pos hop]
    rcases hra with ⟨r, m, J, k, cl', V, σ1, er, w1, w3, ⟨hr, hk10, hJ7, w2, hI1, hk, hv, hf, e50', hV0, hm0, hcn, hcl⟩, -, hn14⟩ | ⟨w1, w3⟩
    rotate_left
    · have : f_X12_isIn (zI σ 11 0 14) 1 (zI σ 12 0 49) = 1 := by
        rw [e14', e49]
        exact zisIn_1 (a := 1) (by omega) (by omega) (by omega)
      rw [this] at w3
      exact absurd w3 z10
    · have erc : r = cl := by
        rw [e14', nI_eq (by omega) (by omega)] at er
        omega
      have hne14 : ¬ zI σ 11 0 14 = 0 := by
        rw [e14', show (0 : Int32) = nI 0 from rfl, nI_eq (by omega) (by omega)]
        omega
      obtain ⟨s1, s2⟩ := zsame w2
      obtain ⟨hDay, hFlt, hTap, hNam, hSun, hSch, hPai, hQue, hPan, hWds, hBri, hMen, hRnd⟩ := id hI1
      have hrun : f_X11_marks σ x1 x2 = if (f_X2_has σ1 x1) = 0 then (some ((-1), σ1)) else ((f_X6_mark σ1 r x1 x2 (zI σ1 11 0 12)).bind fun q9 => some (q9.1, q9.2)) := by
        unfold f_X11_marks
        rw [if_neg hne14, w1, Option.bind_some]
        rfl
      have hno : f_X11_marks σ x1 x2 = some (-1, σ1) → f_X12_marks σ1 x1 x2 = some (-1, σ1) → ∃ r σ1 σ2, f_X11_marks σ x1 x2 = some (r, σ1) ∧ f_X12_marks σ1 x1 x2 = some (r, σ2) ∧ zInv (n + 8) σ2 ∧ zSc σ2 = zSc σ ∧ zMd σ2 = zMd σ := fun h1 h2 => ⟨-1, σ1, σ1, h1, h2, zMono n σ1 hI1, s1, s2⟩
      have hf1 := zRef_x w2 (by decide) hf
      have ek1 : zI σ1 12 0 1 = nI k := hf1.2.2.2.2.2.1
      have ek11 : zI σ1 11 0 12 = nI k := by
        obtain ⟨kk, -, a1, a2, -⟩ := hSch
        rw [a1, ← a2, ek1]
      have eJ : zI σ1 12 0 48 = nI J := hf1.2.2.2.2.1
      have e54' : zI σ1 12 0 54 = 1 := by rw [w2.1 12 0 54 (by decide), e54, hop]; rfl
      have e49' : zI σ1 12 0 49 = nI (r + 1) := by rw [w2.1 12 0 49 (by decide), e49, hop, erc]
      rcases zisJur hPan x1 with ⟨j, hj, rfl, hj2, g1, g2⟩ | ⟨g1, g2⟩
      · rw [g1, if_neg z10, ek11] at hrun
        have hrf : f_X12_marks σ1 (nI j) x2 = (if 0 ≤ x2 then ((zwh (fun (q : (Int32 × Int32 × Int32)) => f_X12_marks_L33 σ1 (nI j) x2 q.1 q.2.1 q.2.2) zFu (0, 0, 60)).bind fun q => zsm q (fun q => some ((-1), σ1)) (fun q => f_X12_marks_B109 σ1 (nI j) x2 q)) else (some ((-1), σ1))) := by
          unfold f_X12_marks
          rw [g2, if_neg z10, e54', if_neg z10]
        by_cases hx0 : x2 < 0
        · refine hno ?_ ?_
          · rw [hrun]
            unfold f_X6_mark
            rw [if_neg (zlt0 (by omega)), if_neg (by rw [zq7, nI_leI (by omega) (by omega)]; omega), if_pos hx0]
            rfl
          · rw [hrf, if_neg]
            intro h
            rw [fa_lt64] at hx0
            rw [fa_le64] at h
            omega
        · obtain ⟨N, hN, rfl⟩ := zrow0 hx0
          have hx0' : (0 : Int64) ≤ lN N := by
            rw [fa_lt64] at hx0
            rw [fa_le64]
            omega
          obtain ⟨L, l1, l2, l3, l4⟩ := zdgL N hN
          have hcls : f_X6_mark σ1 r (nI j) (lN N) (nI k) = if N < 2 ^ 40 then ((zwh (fun (q : (Int32 × Int32)) => f_X6_mark_L43 σ1 r (nI j) (lN N) (nI k) q.1 q.2) zFu (0, (40 - 4))).bind fun q => zsm q (fun q => some ((-1), σ1)) (fun q => f_X6_mark_B129 σ1 r (nI j) (lN N) (nI k) q)) else some (-1, σ1) := by
            have e40 : zlushr (lN N) 40 = 0 ↔ N < 2 ^ 40 := by
              have hd := Nat.div_le_self N (2 ^ 40)
              rw [zq40, zlushrN (by omega) (by omega), zl0, pk_lEQ (by omega) (by omega)]
              exact ⟨fun h => by omega, fun h => Nat.div_eq_of_lt h⟩
            unfold f_X6_mark
            rw [if_neg (zlt0 (by omega)), if_neg (by rw [zq7, nI_leI (by omega) (by omega)]; omega), if_neg hx0]
            by_cases h : N < 2 ^ 40
            · rw [if_pos (e40.mpr h), if_pos h]
            · rw [if_neg (fun h2 => h (e40.mp h2)), if_neg h]
          obtain ⟨t, v1, v2⟩ := X12_mk1 (x1 := nI j) hN hk10 ek1 l1 l3 l4
          rw [if_pos hx0', v1, Option.bind_some] at hrf
          by_cases h40 : N < 2 ^ 40
          · have hL10 : L ≤ 10 := by
              rcases Nat.lt_or_ge 10 L with h | h
              · have h5 : zdg N (L - 1) ≠ 0 := l4 (L - 1) (by omega)
                exfalso
                apply h5
                have h6 : N < 16 ^ (L - 1) := by
                  have h7 : 16 ^ 10 ≤ 16 ^ (L - 1) := Nat.pow_le_pow_right (by decide) (by omega)
                  have h8 : (16 : Nat) ^ 10 = 2 ^ 40 := by decide
                  omega
                unfold zdg
                rw [Nat.div_eq_of_lt h6]
              · exact h
            obtain ⟨u, u1, u2⟩ := X6_mk1 (σ := σ1) (r := r) (x1 := nI j) hN hk10 hL10 l3 l4
            rw [if_pos h40, u1, Option.bind_some] at hcls
            rcases u2 with ⟨S, rfl, hS⟩ | ⟨rfl, hbad⟩
            · have hgd := zMI_g hS
              rcases v2 with ⟨rfl, -, -⟩ | ⟨-, hb⟩
              rotate_left
              · exact absurd hgd hb
              · have hd1 : ∀ a, a < L → 1 ≤ zdg N a := fun a ha => (hgd.1 a ha).1
                -- the class writes
                obtain ⟨σ2, a1, a2, a3, a4, a5⟩ := X6_mk2 (σ := σ1) (r := r) (x4 := nI k) hN hL10 hj hd1
                obtain ⟨σ3, hσ3⟩ : ∃ x, x = zsA σ2 6 r 2 j (nI L) := ⟨_, rfl⟩
                have hc3 : f_X6_mark σ1 r (nI j) (lN N) (nI k) = some (nI L, σ3) := by
                  rw [hcls]
                  show f_X6_mark_B129 σ1 r (nI j) (lN N) (nI k) (nI S) = _
                  unfold f_X6_mark_B129
                  rw [zbits11 hS, a1, Option.bind_some]
                  unfold f_X6_mark_B181
                  rw [zix_n hj (by omega), Option.bind_some, zlt_e, hσ3]
                have x3 : zEx [(6, 1), (6, 2)] σ1 σ3 := by
                  rw [hσ3]
                  exact (a2.mo (by decide)).tr (zEx_sA (by decide))
                -- the reference writes
                obtain ⟨σ4, b1, b2, b3, b4⟩ := X12_mk2 (σ := zsA σ3 12 0 57 (7 * r + j) (nI L)) (x1 := nI j) hN hL10 (show 7 * r + j < 14 by omega) hd1
                have x4 : zEx [(12, 57), (12, 56)] σ3 σ4 := (zEx_sA (by decide)).tr (b2.mo (by decide))
                have hEx : zEx [(6, 1), (6, 2), (12, 57), (12, 56)] σ1 σ4 := (x3.mo (by decide)).tr (x4.mo (by decide))
                obtain ⟨t1, t2⟩ := zsame2 hEx (by decide)
                have g3 : f_X12_isJuror σ3 (nI j) = 1 := by
                  unfold f_X12_isJuror
                  rw [x3.1 12 0 48 (by decide)]
                  exact g2
                have hrf3 : f_X12_marks σ3 (nI j) (lN N) = some (nI L, σ4) := by
                  obtain ⟨t', v1', v2'⟩ := X12_mk1 (σ := σ3) (x1 := nI j) hN hk10 (by rw [x3.1 12 0 1 (by decide)]; exact ek1) l1 l3 l4
                  rcases v2' with ⟨rfl, -, -⟩ | ⟨-, hb⟩
                  · unfold f_X12_marks
                    rw [g3, if_neg z10, x3.1 12 0 54 (by decide), e54', if_neg z10, if_pos hx0', v1', Option.bind_some]
                    show f_X12_marks_B109 σ3 (nI j) (lN N) (nI L) = _
                    unfold f_X12_marks_B109
                    rw [x3.1 12 0 49 (by decide), e49', nI_pred, zseat, zix_n (show 7 * r + j < 14 by omega) (by omega), Option.bind_some, zlt_e, b1, Option.bind_some]
                  · exact absurd hgd hb
                refine ⟨nI L, σ3, σ4, ?_, hrf3, ⟨iDay_fr hEx (by decide) hDay, iFlt_fr hEx (by decide) hFlt, iTap_fr hEx (by decide) hTap, iNam_fr hEx (by decide) hNam, iSun_fr hEx (by decide) hSun, iSch_fr hEx (by decide) hSch, iPai_fr hEx (by decide) hPai, iQue_fr hEx (by decide) hQue, iPan_fr hEx (by decide) hPan, iWds_fr hEx (by decide) hWds, iBri_fr hEx (by decide) hBri, iMen_mo (iMen_fr hEx (by decide) hMen), ?_⟩, t1.trans s1, t2.trans s2⟩
                · show f_X11_marks σ (nI j) (lN N) = _
                  rw [hrun, hc3]
                  rfl
                · unfold iRnd at hRnd ⊢
                  rw [ek1] at hRnd
                  obtain ⟨cl, op, m0, m1, m2, f, st, c1, c2, c3, e50, e54, e49, e15, e14, o0, o1, b0, bb1, e58, z0, n0, e65, z1, n1, e581, z2, z3, hc, d⟩ := hRnd
                  have q0 := hEx.1
                  have q1 := hEx.2.2.2.1
                  have hJ : ¬ zI σ1 12 0 48 ≤ nI j := by
                    rw [eJ, nI_leI (by omega) (by omega)]
                    rw [eJ, nI_ltI (by omega) (by omega)] at hj2
                    omega
                  have ro : ∀ r' m', r' < 2 → iRo1 σ1 (nI k) r' m' → iRo1 σ4 (nI k) r' m' := fun r' m' hr' h => by
                    refine iRo1_mk hk10 h hr' hr hj hL10 hgd (q0 12 0 48 (by simp)) hJ (q1 6 r' 0 (by simp)) (q0 6 r' 6 (by simp)) ?_ ?_ (fun p hp => ?_) (fun e i hi => ?_) (fun p hp => ?_) (fun i hi => ?_)
                    · rw [x4.2.2.2.1 6 r' 2 (by simp), hσ3, zA_sA]
                      by_cases e : r' = r
                      · rw [if_pos ⟨rfl, e, rfl⟩, if_pos e, a2.2.2.2.1 6 r 2 (by simp), e]
                      · rw [if_neg (fun h => e h.2.1), if_neg e, a2.2.2.2.1 6 r' 2 (by simp)]
                    · rw [b2.2.2.2.1 12 0 57 (by decide)]
                      show zu (zA σ3 12 0 57) (7 * r + j) (nI L) = _
                      rw [x3.2.2.2.1 12 0 57 (by decide)]
                    · rw [x4.2.2.2.1 6 r' 1 (by simp), hσ3, zA_sA, if_neg (fun h => absurd h.2.2 (by decide))]
                      by_cases e : r' = r
                      · rw [e]
                        exact a4 p (hp.resolve_left (fun h => h e))
                      · rw [a3 r' e]
                    · rw [x4.2.2.2.1 6 r' 1 (by simp), hσ3, zA_sA, if_neg (fun h => absurd h.2.2 (by decide)), e]
                      exact a5 i hi
                    · rw [b3 p hp]
                      show zA σ3 12 0 56 p = _
                      rw [x3.2.2.2.1 12 0 56 (by decide)]
                    · exact b4 i hi
                  rw [q0 12 0 1 (by simp), ek1]
                  refine ⟨cl, op, m0, m1, m2, f, st, c1, c2, c3, (q0 12 0 50 (by simp)).trans e50, (q0 12 0 54 (by simp)).trans e54, (q0 12 0 49 (by simp)).trans e49, (q0 11 0 15 (by simp)).trans e15, (q0 11 0 14 (by simp)).trans e14, ro _ _ (by decide) o0, ro _ _ (by decide) o1, b0, bb1, by rw [q1 12 0 58 (by simp)]; exact e58, z0, n0, (q0 12 0 65 (by simp)).trans e65, z1, n1, by rw [q1 12 0 58 (by simp)]; exact e581, z2, z3, fun r' hr' => ?_, ?_⟩
                  · have := hc r' hr'
                    unfold iRoC at this ⊢
                    rw [q1 6 r' 3 (by simp), q1 12 0 59 (by simp), q0 12 0 48 (by simp), q0 6 r' 7 (by simp), q1 12 0 60 (by simp), q0 6 r' 8 (by simp), q1 12 0 61 (by simp)]
                    exact this
                  · rw [q0 11 0 16 (by simp), q0 12 0 51 (by simp), q0 11 0 17 (by simp), q0 12 0 52 (by simp), q0 11 0 18 (by simp), q0 12 0 53 (by simp)]
                    exact d
            · rcases v2 with ⟨-, -, hg⟩ | ⟨rfl, -⟩
              · exact absurd hg hbad
              · refine hno ?_ hrf
                rw [hrun, hcls]
                rfl
          · rcases v2 with ⟨-, hL10, -⟩ | ⟨rfl, -⟩
            · exfalso
              apply h40
              have h7 : 16 ^ L ≤ 16 ^ 10 := Nat.pow_le_pow_right (by decide) hL10
              have h8 : (16 : Nat) ^ 10 = 2 ^ 40 := by decide
              omega
            · refine hno ?_ hrf
              rw [hrun, hcls, if_neg h40]
              rfl
      · refine hno ?_ ?_
        · rw [hrun, g1, if_pos rfl]
        · unfold f_X12_marks
          rw [g2, if_pos rfl]
