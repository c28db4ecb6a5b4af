/-! a brief's text: names that were told -/
theorem zJ_told {σ σ' : zM} {T : Nat → Nat} {n N i : Nat} {W : Nat → List Nat} {k0 pd t : Nat} (h : zPC σ T n N i W k0 pd t) (h' : zPR σ' T n i W (k0 + pd) t) : (∃ σ1 σ1' q, f_X4_takeToldName σ = some (1, σ1) ∧ f_X12_takesName σ' = some (1, σ1') ∧ zEx [(4, 8), (4, 9)] σ σ1 ∧ zEx [(12, 41), (12, 21), (12, 40)] σ' σ1' ∧ 1 ≤ q ∧ q ≤ 12 ∧ zI σ1 4 0 9 = nI q ∧ zI σ1' 12 0 41 = nI q ∧ i < N ∧ zPC σ1 T n N (i + 1) W k0 pd t ∧ zPR σ1' T n (i + 1) W (k0 + pd) t) ∨ ∃ σ1', f_X4_takeToldName σ = some (0, σ) ∧ f_X12_takesName σ' = some (0, σ1') ∧ zEx [(12, 21), (12, 40)] σ' σ1' ∧ zPX σ1' T n i W (k0 + pd) t := by
  have hN := zTks_N h.1.1
  obtain ⟨u1, u2⟩ := X4_un h.1
  obtain ⟨w, σ1, w1, w2, w3, w4, w5⟩ := X12_wrd hN h.1.2.1 h'.1
  obtain ⟨hcp, hnm, hto, hpt⟩ := h
  have hns := zNmS_x h'.2.1 w2 (by decide) (by decide)
  have ht : zI σ1 12 0 23 = nI t := (w2.1 12 0 23 (by decide)).trans h'.2.2
  have hk12 := hnm.1
  have ht13 := hpt.1
  have fail : f_X4_takeToldName σ = some (0, σ) → f_X12_takesName σ' = some (0, σ1) → ∃ σ1', f_X4_takeToldName σ = some (0, σ) ∧ f_X12_takesName σ' = some (0, σ1') ∧ zEx [(12, 21), (12, 40)] σ' σ1' ∧ zPX σ1' T n i W (k0 + pd) t := fun a b => ⟨σ1, a, b, w2, w3, hns, ht⟩
  have rm1 : f_X12_takesName_B20 σ1 (-1) = some (0, σ1) := by
    unfold f_X12_takesName_B20
    rw [if_pos rfl]
  have cm1 : f_X4_takeToldName_B23 σ (-1) = some (0, σ) := by
    unfold f_X4_takeToldName_B23
    rw [if_pos (by decide)]
  have rB0 : ∀ j, j < 12 → t.testBit (j + 1) = false → f_X12_takesName_B20 σ1 (nI (j + 1)) = some (0, σ1) := fun j hj hb => by
    unfold f_X12_takesName_B20
    rw [if_neg (znI_m1 (by omega)), ht, if_pos ((zsbit0 (by omega) (by omega)).mpr hb)]
  by_cases hU : zIsU T n N i = true
  · obtain ⟨v1, v2, v3, v4, v5, v6⟩ := u2 hU
    obtain ⟨rw1, -, rw2, -, rw3, -⟩ := w4.resolve_left (w5 hU)
    obtain ⟨r, hr⟩ : ∃ r, r = zRl T n i := ⟨_, rfl⟩
    rw [← hr] at v1 v2 v6 rw1
    have hE := zTe_b (T := T) (hN.2 i v3)
    have hS := zTs_s (hN.2 i v3)
    have hfc := X5_fd hnm v2
    have hfr := X12_fd hns v2
    have hc0 : f_X4_takeToldName σ = f_X4_takeToldName_B23 σ (zFd W r (k0 + pd)) := by
      unfold f_X4_takeToldName
      rw [X4_kind hcp, Option.bind_some, if_pos (u1.mpr hU), if_neg z10, X4_val hcp, Option.bind_some, v1, hfc, Option.bind_some]
    have hr0 : f_X12_takesName σ' = f_X12_takesName_B20 σ1 (zFd W r (k0 + pd)) := by
      unfold f_X12_takesName
      rw [w1, Option.bind_some]
      show (if w = 0 then _ else ((f_X12_named σ1 w).bind _)) = _
      rw [if_neg rw2, rw1, hfr, Option.bind_some]
    rcases zFd_v (W := W) (r := r) (k := k0 + pd) with ⟨e, -⟩ | ⟨j, hj, hWj, e⟩
    · rw [e] at hc0 hr0
      exact Or.inr (fail (hc0.trans cm1) (hr0.trans rm1))
    · have hj12 : j < 12 := by omega
      rw [e] at hc0 hr0
      have hcl : f_X4_takeToldName_B23 σ (nI (j + 1)) = if t.testBit (j + 1) then some (1, zsI (zsI σ 4 0 9 (nI (j + 1))) 4 0 8 (nI (i + 1))) else some (0, σ) := by
        unfold f_X4_takeToldName_B23
        rw [if_neg (by rw [zq1, nI_ltI (by omega) (by omega)]; omega), if_neg (by rw [zq13, nI_leI (by omega) (by omega)]; omega), zix_n (show j + 1 < 13 by omega) (by omega), Option.bind_some, hto (j + 1) (by omega), zif01, zlt_e]
        rw [show zI (zsI σ 4 0 9 (nI (j + 1))) 4 0 8 = nI i from hcp.2.2, nI_1, zlt_e]
      cases hb : t.testBit (j + 1) with
      | true =>
        left
        rw [hb] at hcl
        refine ⟨zsI (zsI σ 4 0 9 (nI (j + 1))) 4 0 8 (nI (i + 1)), zsI (zsI σ1 12 0 41 (nI (j + 1))) 12 0 21 (nI (zTe T n (zTs T n i))), j + 1, hc0.trans hcl, ?_, (zEx_sI (by decide)).tr (zEx_sI (by decide)), (w2.mo (by decide)).tr ((zEx_sI (by decide)).tr (zEx_sI (by decide))), by omega, by omega, rfl, rfl, v3, ⟨⟨hcp.1, v3, rfl⟩, hnm, hto, hpt⟩, ⟨⟨?_, zTe T n (zTs T n i), hE.2, hS.1.symm, rfl⟩, hns, ht⟩⟩
        · rw [hr0]
          unfold f_X12_takesName_B20
          rw [if_neg (znI_m1 (by omega)), ht, if_neg (fun h => by rw [zsbit0 (by omega) (by omega), hb] at h; cases h), zlt_e]
          rw [show zI (zsI σ1 12 0 41 (nI (j + 1))) 12 0 40 = nI (zTe T n (zTs T n i)) from rw3, zlt_e]
        · exact zTr_fr (F := [(12, 41), (12, 21), (12, 40)]) h'.1.1 ((w2.mo (by decide)).tr ((zEx_sI (by decide)).tr (zEx_sI (by decide)))) (by decide) (by decide)
      | false =>
        rw [hb] at hcl
        exact Or.inr (fail (hc0.trans hcl) (hr0.trans (rB0 j hj12 hb)))
  · refine Or.inr (fail ?_ ?_)
    · unfold f_X4_takeToldName
      rw [X4_kind hcp, Option.bind_some, if_neg (fun h => hU (u1.mp h)), if_pos rfl]
      exact cm1
    · unfold f_X12_takesName
      rw [w1, Option.bind_some]
      show (if w = 0 then f_X12_takesName_B20 σ1 (-1) else ((f_X12_named σ1 w).bind fun r4 => f_X12_takesName_B20 σ1 r4)) = _
      rcases w4 with w4 | ⟨g1, g2, g3, g4, g5, g6⟩
      · rw [if_pos w4]
        exact rm1
      · rw [if_neg g3, g1, X12_fd hns g2, Option.bind_some]
        rcases zFd_v (W := W) (r := zRl T n i) (k := k0 + pd) with ⟨e, -⟩ | ⟨j, hj, hWj, e⟩
        · rw [e]
          exact rm1
        · rw [e]
          refine rB0 j (by omega) ?_
          cases hb : t.testBit (j + 1)
          · rfl
          · have := (hpt.2 (j + 1) hb).2.2
            rw [Nat.add_sub_cancel, hWj] at this
            exact absurd (g6.mpr this) hU
