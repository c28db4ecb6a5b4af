theorem X12_can_7 {σ : zM} (h : ∀ r, 1 ≤ r → r ≤ 12 → f_X12_rate σ (-1) (nI r) = some (zA σ 0 7 6 r)) : f_X12_can σ (-1) = some (zCan (zA σ 0 7 0) (zA σ 0 7 1) (zA σ 0 7 2) (zA σ 0 7 6) 0) := by
  obtain ⟨G, hG⟩ : ∃ G : Nat → Int64 × Int64, G = zCa (fun r => zLsS (zA σ 0 7 0) (zA σ 0 7 1) (zA σ 0 7 2) (nI r) 0) (zA σ 0 7 6) := ⟨_, rfl⟩
  unfold f_X12_can
  have hw := zwh_up (f := fun (q : (Int64 × Int64 × Int32)) => f_X12_can_L11 σ (-1) (-1) q.1 q.2.1 q.2.2) (fun i => ((G i).1, (G i).2, nI (i + 1))) 12 (t := ((G 12).1, (G 12).2)) ?_ ?_ (by omega)
  · rw [show ((0 : Int64), (0 : Int64), (1 : Int32)) = (fun i => ((G i).1, (G i).2, nI (i + 1))) 0 from by rw [hG]; rfl, hw]
    simp only [Option.bind_some]
    unfold f_X12_can_B121
    rw [zwh_now (t := -1) (by show f_X12_can_L127 σ _ _ _ _ _ = _; unfold f_X12_can_L127; rw [if_pos rfl])]
    simp only [Option.bind_some]
    unfold f_X12_can_B196 zCan
    rw [← hG]
    simp only
    by_cases hc : (G 12).1 ≤ 160
    · rw [if_pos hc, if_pos hc, if_pos trivial, if_neg (fun ⟨i, hi, _⟩ => Nat.not_lt_zero i hi)]
    · rw [if_neg hc, if_neg hc]
  · intro i hi
    show f_X12_can_L11 σ (-1) (-1) _ _ _ = _
    unfold f_X12_can_L11 f_X12_can_B92_11
    rw [if_neg (by rw [zq12, nI_ltI (by omega) (by omega)]; omega), zwh_now (t := 0) (by show f_X12_can_L27 σ _ _ _ _ _ _ _ = _; unfold f_X12_can_L27; rw [if_pos rfl])]
    simp only [Option.bind_some]
    rw [h _ (by omega) (by omega)]
    simp only [Option.bind_some]
    rw [nI_1, hG]
    rfl
  · show f_X12_can_L11 σ (-1) (-1) _ _ _ = _
    unfold f_X12_can_L11
    rw [if_pos (show (12 : Int32) < nI (12 + 1) by decide)]
/-- what a brief that binds is, in both -/
theorem zbinds {σ : zM} (h : iBri σ) (t : Int32) : ∃ n, n ≤ 40 ∧ zI σ 0 (zOn σ t) 7 = nI n ∧ (n = 0 ∨ zOn σ t < 7) ∧ (zOn σ t = 7 → n = 0) ∧ (zOn σ t ≠ 7 → zOn σ t < 6 ∧ zA σ 12 0 25 (zOn σ t) = nI n ∧ ∃ M, ∀ i, i < n → zSt1 σ M (zOn σ t) i) := by
  rcases zOn_7 h t with ⟨nb, M, h1, h2, h3, n, g1, g2, g3, -, -, -, -, -, g4⟩ | h7
  · exact ⟨n, g1, g2, Or.inr (by omega), fun h => by omega, fun _ => ⟨by omega, g3, M, g4⟩⟩
  · rw [h7]
    obtain ⟨nb, M, -, -, -, -, -, -, -, -, hb, -⟩ := h
    exact ⟨0, by omega, hb, Or.inl rfl, fun _ => rfl, fun h => absurd rfl h⟩
theorem X12_can {σ : zM} (h : iBri σ) (t : Int32) {n : Nat} (hn : zI σ 0 (zOn σ t) 7 = nI n) (hn4 : n ≤ 40) : f_X12_can σ (zOx (zOn σ t)) = some (zCan (zA σ 0 (zOn σ t) 0) (zA σ 0 (zOn σ t) 1) (zA σ 0 (zOn σ t) 2) (zA σ 0 (zOn σ t) 6) n) := by
  obtain ⟨k, k1, k2, k3, k4, k5⟩ := zbinds h t
  have e : k = n := by rw [hn, nI_eq (by omega) (by omega)] at k2; exact k2.symm
  subst e
  have hr := fun r h1 h2 => X12_rate h t (r := r) h1 h2
  by_cases h7 : zOn σ t = 7
  · rw [k4 h7]
    rw [h7] at hr ⊢
    exact X12_can_7 hr
  · obtain ⟨g1, g2, M, g3⟩ := k5 h7
    have e : zOx (zOn σ t) = nI (zOn σ t) := if_neg h7
    rw [e] at hr ⊢
    exact X12_can_b g1 k1 g2 g3 hr
theorem ob_law (x1 x2 : Int32) : zOb zInv (fun σ => (f_X11_law σ x1 x2).map (fun r => (r, σ))) (fun σ => (f_X12_law σ x1 x2).map (fun r => (r, σ))) := by
  refine zRO (g1 := fun σ => f_X11_law σ x1 x2) (g2 := fun σ => f_X12_law σ x1 x2) (fun n σ hn hI => ?_)
  obtain ⟨hDay, hFlt, hTap, hNam, hSun, hSch, hPai, hQue, hPan, hWds, hBri, hMen, hRnd⟩ := hI
  unfold f_X11_law f_X12_law
  rcases zisDay x1 with ⟨t, ht, rfl, e1, e2⟩ | ⟨e1, e2⟩
  · rw [e1, e2, if_neg z10, if_neg z10, X1_on hBri, X12_bindsOn hBri]
    simp only [Option.bind_some]
    obtain ⟨k, k1, k2, k3, k4, k5⟩ := zbinds hBri (nI t)
    rcases zcase x2 (n := 11) (by omega) with ⟨w, hw, rfl⟩ | hx
    · rw [if_neg (zlt0 (by omega)), if_neg (by rw [zq11, nI_leI (by omega) (by omega)]; omega), X0_term _ hw, zq10, show (0 : Int32) = nI 0 from rfl, zisIn_1 (by omega) (by omega) (by omega), if_neg (show ¬ ((1 : Int32) = nI 0) by decide), X12_tells hBri _ hw]
      exact ⟨_, rfl, rfl⟩
    · rw [zq10, zisIn_0' (m := 10) (by omega) hx, if_pos (rfl : (0 : Int32) = 0)]
      have eB : (if x2 < 0 then f_X11_law_B34 σ (nI t) x2 (zOn σ (nI t)) else if (11 : Int32) ≤ x2 then f_X11_law_B34 σ (nI t) x2 (zOn σ (nI t)) else (f_X0_term σ (zOn σ (nI t)) x2).bind fun r15 => some r15) = f_X11_law_B34 σ (nI t) x2 (zOn σ (nI t)) := by
        by_cases h0 : x2 < 0
        · rw [if_pos h0]
        · rw [if_neg h0, if_pos (show (11 : Int32) ≤ x2 from hx.resolve_left h0)]
      rw [eB]
      unfold f_X11_law_B34
      by_cases c11 : x2 = 11
      · rw [if_pos c11, if_pos c11, k2]
        by_cases h7 : zOn σ (nI t) = 7
        · rw [h7, if_pos (show zOx 7 = -1 from rfl), k4 h7]
          exact ⟨_, rfl, rfl⟩
        · have e : zOx (zOn σ (nI t)) = nI (zOn σ (nI t)) := if_neg h7
          rw [e, if_neg (znI_m1 (by have := (k5 h7).1; omega)), zix_n (by have := (k5 h7).1; omega) (by omega)]
          exact ⟨nI k, rfl, by simp only [Option.bind_some]; rw [(k5 h7).2.1]⟩
      · rw [if_neg c11, if_neg c11]
        by_cases c12 : x2 = 12
        · rw [if_pos c12, if_pos c12, X0_can k1 k2 k3, X12_can hBri _ k2 k1]
          exact ⟨_, rfl, rfl⟩
        · rw [if_neg c12, if_neg c12]
          by_cases c20 : x2 ≤ 20
          · rw [if_pos c20]
            have : f_X12_isIn x2 21 32 = 0 := by
              unfold f_X12_isIn
              rw [if_pos (by
                rw [fa_le, show (20 : Int32) = nI 20 from rfl, nI_toInt (by omega)] at c20
                rw [fa_lt, show (21 : Int32) = nI 21 from rfl, nI_toInt (by omega)]
                omega)]
            rw [this, if_pos (rfl : (0 : Int32) = 0)]
            exact ⟨_, rfl, rfl⟩
          · rw [if_neg c20]
            by_cases c32 : 32 < x2
            · rw [if_pos c32]
              have : f_X12_isIn x2 21 32 = 0 := by
                unfold f_X12_isIn
                split
                · rfl
                · first | rfl | rw [if_pos c32]
              rw [this, if_pos (rfl : (0 : Int32) = 0)]
              exact ⟨_, rfl, rfl⟩
            · rw [if_neg c32]
              obtain ⟨r, hr1, hr2, rfl⟩ : ∃ r, 21 ≤ r ∧ r ≤ 32 ∧ x2 = nI r := by
                rw [fa_le, show (20 : Int32) = nI 20 from rfl, nI_toInt (by omega)] at c20
                rw [fa_lt, show (32 : Int32) = nI 32 from rfl, nI_toInt (by omega)] at c32
                obtain ⟨r, h1, rfl⟩ := nI_of (x := x2) (by rw [fa_lt]; have e0 : (0 : Int32).toInt = 0 := rfl; omega)
                rw [nI_toInt (by omega)] at c20 c32
                exact ⟨r, by omega, by omega, rfl⟩
              rw [show (21 : Int32) = nI 21 from rfl, show (32 : Int32) = nI 32 from rfl, zisIn_1 hr1 hr2 (by omega), if_neg z10, show (20 : Int32) = nI 20 from rfl, zsubI (by omega), X0_rate _ (by omega) (by omega), X12_rate hBri _ (by omega) (by omega)]
              exact ⟨_, rfl, rfl⟩
  · rw [e1, e2, if_pos rfl, if_pos rfl]
    exact ⟨_, rfl, rfl⟩
