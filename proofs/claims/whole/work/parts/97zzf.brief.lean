/-! a brief: the call -/
theorem ob_brief (x1 : Int32) (n0 : Nat) (σ : zM) (hn0 : n0 ≤ 4096) (hI : zInv n0 σ) : ∃ r σ1 σ2, f_X11_brief σ (zMd σ) x1 = some (r, σ1) ∧ f_X12_brief σ1 x1 = some (r, σ2) ∧ zInv (n0 + 8) σ2 ∧ zSc σ2 = zSc σ ∧ ((¬ ((f_X9_holds σ x1) = 0) ∧ (f_X1_isFull σ) = 0 ∧ zR σ 1 0 3 = none) → zMd σ2 = zMd σ + 1 ∧ zMd σ < 7) ∧ (¬ (¬ ((f_X9_holds σ x1) = 0) ∧ (f_X1_isFull σ) = 0 ∧ zR σ 1 0 3 = none) → zMd σ2 = zMd σ) := by
  have hI0 := hI
  obtain ⟨hDay, hFlt, hTap, hNam, hSun, hSch, hPai, hQue, hPan, hWds, hBri, hMen, hRnd⟩ := hI
  obtain ⟨k, k1, k2, k3, k4⟩ := hTap
  obtain ⟨o, M, b1, b2, b3, b4, b5, b6, b7, b8, b9⟩ := hBri
  rcases zholds k1 k2 k3 x1 with ⟨n, hn, rfl, e3, e4⟩ | ⟨e3, e4⟩
  rotate_left
  · refine ⟨-2, σ, σ, ?_, ?_, zMono n0 σ hI0, rfl, fun h => absurd e3 h.1, fun _ => rfl⟩
    · unfold f_X11_brief
      rw [e3, if_pos rfl]
    · unfold f_X12_brief
      rw [e4, if_pos rfl]
  by_cases h6 : o = 6
  · have hfu : f_X1_isFull σ = 1 := by
      unfold f_X1_isFull
      rw [b2, h6]
      rfl
    refine ⟨-3, σ, σ, ?_, ?_, zMono n0 σ hI0, rfl, fun h => ?_, fun _ => rfl⟩
    · unfold f_X11_brief
      rw [e3, if_neg z10, hfu, if_neg z10]
    · unfold f_X12_brief
      rw [e4, if_neg z10, b3, h6, if_pos (show nI 6 = 6 from rfl)]
    · rw [hfu] at h
      exact absurd h.2.1 z10
  have ho : o ≤ 5 := by omega
  have hfu : f_X1_isFull σ = 0 := by
    unfold f_X1_isFull
    rw [b2, if_pos (by rw [zq6]; exact nI_lt (by omega) (by omega))]
  have hmd0 := zMd_e b2 (by omega)
  have hend : ∀ σ2, zMd σ2 = o + 1 → ((¬ ((f_X9_holds σ (nI n)) = 0) ∧ (f_X1_isFull σ) = 0 ∧ zR σ 1 0 3 = none) → zMd σ2 = zMd σ + 1 ∧ zMd σ < 7) ∧ (¬ (¬ ((f_X9_holds σ (nI n)) = 0) ∧ (f_X1_isFull σ) = 0 ∧ zR σ 1 0 3 = none) → zMd σ2 = zMd σ) := fun σ2 h => by
    rw [h, hmd0, e3, hfu]
    refine ⟨fun g => ?_, fun g => ?_⟩
    · rw [if_pos g.2.2]
      omega
    · by_cases e : zR σ 1 0 3 = none
      · exact absurd ⟨z10, rfl, e⟩ g
      · rw [if_neg e]
  obtain ⟨σd, d0, d3, d1, d2⟩ := X1_draft2 (o' := zMd σ) b4 (fun h => by rw [hmd0, if_pos h]; rfl)
  obtain ⟨W, k0, w1, w2⟩ := zNam hNam
  have hTd : zTc σd (zTT σ) n := by
    have h1 := zTc_T k1 hn k2 k4
    unfold zTc at h1 ⊢
    rw [(d2 (9, 1) (by decide) (by decide)).1 0, (d2 (9, 0) (by decide) (by decide)).2.2.2.1 0]
    exact h1
  have hWd : iWds σd := iWds_fe (zE0_of d2 (by decide)) hWds
  have hNd : zNmL σd W k0 0 := by
    unfold zNmL at w1 ⊢
    rw [(d2 (5, 1) (by decide) (by decide)).1 0, (d2 (5, 2) (by decide) (by decide)).1 0, (d2 (5, 0) (by decide) (by decide)).2.2.2.2.1 0]
    exact w1
  have hn9 : n ≤ 900 := by omega
  obtain ⟨σc, N, c0, c1, c2, c3, c4, c5, c6, c7, c8⟩ := X4_begin (o := o) hWd hTd hn9 hNd
  have hrun := fun (σC : zM) (hE : zE0 zFC σ σC) => zB_both hn9 k4 c3 c4 c5 c6 c7 c8 hE e4 b3 ho w2 b5 b6
  obtain ⟨σr0, -, -, -, -, L0⟩ := hrun σ (zE0_x (F := []) zEx.rf (fun q hq => absurd hq (by simp)))
  obtain ⟨σf, σf0, i0, W0, pd0, t0, L0 | L0⟩ := L0
  · obtain ⟨q0, c0', m0, L1, -, -, LB⟩ := L0
    have F1 : zEx zFsC σc σf := LB.1.1
    have hk0 := LB.2.1.1.2.1
    have hE : zE0 zFC σ (zKe σf (k0 + pd0) o) := (d2.mo (by decide)).tr ((c1.mo (by decide)).tr ((zE0_x F1 (by decide)).tr (zE0_x zKe_x (by decide))))
    obtain ⟨σr, a1, a2, a3, a4, a5⟩ := hrun _ hE
    obtain ⟨σf2, σf', i, W', pd, t, L2 | L2⟩ := a5
    · obtain ⟨q, c, m, L3, L4, hq, hB⟩ := L2
      obtain ⟨-, rfl⟩ := zsm2 L1 L3
      have hpd : pd = pd0 := by
        have h1 := hk0.2.2.1
        have h2 := hB.2.1.1.2.1.2.2.1
        have h3 := hk0.1
        have h4 := hB.2.1.1.2.1.1
        rw [h1, nI_eq (by omega) (by omega)] at h2
        exact h2.symm
      subst hpd
      obtain ⟨σ2, g1, g2, g3, g4⟩ := zB_yes hn0 hI0 b3 ho b5 b6 b7 b8 b9 d1 d2 c1 c2 a2 a3 a4 hE hq hB
      refine ⟨nI o, zKe σf (k0 + pd) o, σ2, ?_, ?_, g2, g3, hend σ2 g4⟩
      · have hrd : f_X4_read σd (nI n) o = some (1, zsI (zsI σf 5 0 1 (nI (k0 + pd))) 5 0 2 0) := c0.trans (X4_B46_1 L1 hk0.2.1 hk0.2.2.1)
        have e2 : zI (f_X8_forgetMend (zsI (f_X9_clear (zsI (zsI σf 5 0 1 (nI (k0 + pd))) 5 0 2 0)) 11 0 11 (-1))) 1 0 2 = nI o := by
          show zI σf 1 0 2 = nI o
          rw [F1.1 1 0 2 (by decide), (c1 (1, 2) (by decide) (by decide)).1 0, (d2 (1, 2) (by decide) (by decide)).1 0]
          exact b2
        unfold f_X11_brief
        rw [e3, if_neg z10, hfu, if_pos rfl, d0, Option.bind_some]
        show ((f_X4_read σd (nI n) o).bind _) = _
        rw [hrd, Option.bind_some, zlt_e, if_neg z10, zlt_e, if_neg z10, zlt_e, zeta_b, X1_take_e e2 ho]
        rfl
      · rw [a1, L4, Option.bind_some]
        exact g1
    · have := (zsm2 L1 L2.1).1
      exact absurd this (by decide)
  · obtain ⟨L1, -, LF, LP, LX⟩ := L0
    have F1 : zEx zFsC σc σf := LF.1
    have hE : ∀ v, zE0 zFC σ (zKf σf v) := fun v => (d2.mo (by decide)).tr ((c1.mo (by decide)).tr ((zE0_x F1 (by decide)).tr (zE0_x zKf_x (by decide))))
    obtain ⟨σr, a1, a2, a3, a4, a5⟩ := hrun _ (hE (nI (zTs (zTT σ) n i0)))
    obtain ⟨σf2, σf', i, W', pd, t, L2 | L2⟩ := a5
    · obtain ⟨q, c, m, L3, -⟩ := L2
      have := (zsm2 L1 L3).1
      exact absurd this (by decide)
    · obtain ⟨L3, L4, hF, hP, hX⟩ := L2
      obtain ⟨-, rfl⟩ := zsm2 L1 L3
      have hi : i = i0 := by
        have h1 := LP.1.2.2
        have h2 := hP.1.2.2
        have h3 := LP.1.2.1
        have h4 := hP.1.2.1
        have h5 := hP.1.1.1
        rw [h1, nI_eq (by omega) (by omega)] at h2
        exact h2.symm
      subst hi
      obtain ⟨σ2, g1, g2, g3, g4⟩ := zB_no hn0 hI0 b3 ho b2 w1.2.1 b5 b6 b7 b8 b9 d1 d2 d3 c1 c2 a2 a3 a4 (hE _) hF hP hX
      refine ⟨-1, zKf σf (nI (zTs (zTT σ) n i)), σ2, ?_, ?_, g2, g3, hend σ2 g4⟩
      · have hrd : f_X4_read σd (nI n) o = some (0, zsI σf 5 0 2 0) := c0.trans (X4_B46_0 L1)
        have hpl : f_X4_place (f_X9_clear (zsI σf 5 0 2 0)) = some (nI (zTs (zTT σ) n i)) := by
          have h1 : zI (f_X9_clear (zsI σf 5 0 2 0)) 4 0 8 = nI i := hP.1.2.2
          have h2 : zA (f_X9_clear (zsI σf 5 0 2 0)) 4 0 4 i = nI (zTs (zTT σ) n i) := hP.1.1.2.2.2.1 i hP.1.2.1
          have h3 := hP.1.2.1
          have h4 := hP.1.1.1
          unfold f_X4_place
          rw [h1, if_neg (zlt0 (by omega)), if_neg (by rw [zq901, nI_leI (by omega) (by omega)]; omega), zix_n (show i < 901 by omega) (by omega), Option.bind_some, h2]
        unfold f_X11_brief
        rw [e3, if_neg z10, hfu, if_pos rfl, d0, Option.bind_some]
        show ((f_X4_read σd (nI n) o).bind _) = _
        rw [hrd, Option.bind_some, zlt_e, if_pos rfl]
        show ((f_X4_place (f_X9_clear (zsI σf 5 0 2 0))).bind _) = _
        rw [hpl, Option.bind_some, zlt_e, if_pos rfl]
        rfl
      · rw [a1, L4, Option.bind_some]
        exact g1
