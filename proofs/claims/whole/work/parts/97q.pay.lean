/-! fees -/
theorem zbnd_8 : ∀ st, st < 3 → zbnd (8 + st) = 100 := by decide
theorem zsm1 {σ : zM} : f_X11_schemeAt σ (-1) = some none := by
  unfold f_X11_schemeAt
  rw [if_pos (by decide)]
theorem ob_pay : zOb zInv (fun σ => f_X11_pay σ) (fun σ => f_X12_pay σ) := by
  intro n σ hn hI
  obtain ⟨cl, f, m, q, J, k, v, st, hC, hR, hk10, hkn, hb, e17, e52, hst3, e18⟩ := zWin hI
  obtain ⟨hDay, hFlt, hTap, hNam, hSun, hSch, hPai, hQue, hPan, hWds, hBri, hMen, hRnd⟩ := hI
  obtain ⟨σ1, w1, w2⟩ := X11_win hC
  obtain ⟨e16, e51⟩ : zI σ 11 0 16 = nI f ∧ zI σ 12 0 51 = nI f := ⟨hC.2.2.2.1, hR.2.2.2.1⟩
  have hf10 := hC.2.1
  -- nothing is paid
  have hnone : ∀ W : Int32, f_X11_winner σ = some (W, σ1) → f_X11_pay σ = some (-1, σ1) → (∀ τ, f_X12_winnerNow σ1 = some (W, τ) → zEx [(12, 62), (12, 63), (12, 64)] σ1 τ → f_X12_pay σ1 = some (-1, τ)) → W = zwn cl f m (zah (zPts m (zLL σ 1) (zRR σ 1) (fun j => v.testBit j) q) (zA σ 12 0 61 1) (zPc m (zLL σ 1) (zRR σ 1) 0)) → ∃ r σ1 σ2, f_X11_pay σ = some (r, σ1) ∧ f_X12_pay σ1 = some (r, σ2) ∧ zInv (n + 8) σ2 ∧ zSc σ2 = zSc σ ∧ zMd σ2 = zMd σ := by
    intro W _ h1 h2 hW
    obtain ⟨σ2, v1, v2⟩ := X12_win (zWR_x hR w2 (by decide) hR.2.1 (by rw [w2.1 12 0 51 (by decide)]; exact hR.2.2.2.1))
    rw [← hW] at v1
    have hEx : zEx [(6, 4), (6, 5), (12, 62), (12, 63), (12, 64)] σ σ2 := (w2.mo (by decide)).tr (v2.mo (by decide))
    obtain ⟨s1, s2⟩ := zsame2 hEx (by decide)
    exact ⟨-1, σ1, σ2, h1, h2 σ2 v1 v2, ⟨iDay_fr hEx (by decide) hDay, iFlt_fr hEx (by decide) hFlt, iTap_fr hEx (by decide) hTap, iNam_fr hEx (by decide) hNam, iSun_fr hEx (by decide) hSun, iSch_fr hEx (by decide) hSch, iPai_fr hEx (by decide) hPai, iQue_fr hEx (by decide) hQue, iPan_fr hEx (by decide) hPan, iWds_fr hEx (by decide) hWds, iBri_fr hEx (by decide) hBri, iMen_mo (iMen_fr hEx (by decide) hMen), iRnd_fr hEx (by decide) hRnd⟩, s1, s2⟩
  rcases zwn_s (cl := cl) (ah := zah (zPts m (zLL σ 1) (zRR σ 1) (fun j => v.testBit j) q) (zA σ 12 0 61 1) (zPc m (zLL σ 1) (zRR σ 1) 0)) hC.2.1 hb hk10 with hw | ⟨s, hs, hw, hne, -⟩
  · rw [hw] at w1
    refine hnone (-1) w1 ?_ (fun τ hτ _ => ?_) hw.symm
    · unfold f_X11_pay
      rw [w1, Option.bind_some, show (-1, σ1).1 = (-1 : Int32) from rfl, zsm1, Option.bind_some]
      rfl
    · unfold f_X12_pay
      rw [hτ, Option.bind_some, if_pos rfl]
  · rw [hw] at w1
    have hsch1 : iSch σ1 := iSch_fr w2 (by decide) hSch
    obtain ⟨kk, g1, g2, g3, g4, -⟩ := hsch1
    have ek : kk = k := by
      have h := w2.1 12 0 1 (by decide)
      rw [g3, hkn, nI_eq (by omega) (by omega)] at h
      exact h
    subst ek
    have hsc := g4 s hs
    have hat := zschS g1 g2 hsc.1 hs
    have e17' : zI σ1 11 0 17 = nI st := by rw [w2.1 11 0 17 (by decide)]; exact e17
    by_cases hst : st = 3
    · refine hnone (nI s) w1 ?_ (fun τ hτ hτx => ?_) hw.symm
      · unfold f_X11_pay
        rw [w1, Option.bind_some, show (nI s, σ1).1 = nI s from rfl, hat, Option.bind_some]
        show (if zI σ1 11 0 17 < 3 then _ else _) = _
        rw [e17', hst, if_neg (by decide)]
      · unfold f_X12_pay
        rw [hτ, Option.bind_some, if_neg hne, show zI (nI s, τ).2 12 0 52 = nI st from by
          show zI τ 12 0 52 = _
          rw [hτx.1 12 0 52 (by decide), w2.1 12 0 52 (by decide)]
          exact e52, hst, if_pos (by decide)]
    · have hst2 : st < 3 := by omega
      -- what is paid
      have hB1 : iBri σ1 := iBri_fr w2 (by decide) hBri
      have hD1 : zI σ1 11 0 10 = zI σ1 12 0 0 := by rw [w2.1 11 0 10 (by decide), w2.1 12 0 0 (by decide)]; exact hDay.1
      obtain ⟨C, hCe⟩ : ∃ C, C = zCl σ1 s := ⟨_, rfl⟩
      have hX := zCX_of hsc.2.2.2.2
      have hRC := zRC_of hsc.2.2.2.2
      rw [← hCe] at hX hRC
      obtain ⟨a, ha, ea⟩ := zCst_nm (C := C) hB1 (zdt σ1 s) (fun j hj => (hRC j hj).1)
      obtain ⟨p, hp, ep⟩ := (zOn_bd hB1 (zI σ1 12 0 0)).1 (8 + st) (by omega)
      rw [zbnd_8 st hst2] at hp
      obtain ⟨pc1, pc2⟩ := zpct ha hp
      obtain ⟨σ2, hσ2⟩ : ∃ x, x = zsI (zsI σ1 11 0 18 (zI σ1 11 0 18 + nI (a * p / 100))) 11 0 17 (nI (st + 1)) := ⟨_, rfl⟩
      have x2 : zEx [(11, 18), (11, 17)] σ1 σ2 := by
        rw [hσ2]
        exact (zEx_sI (by decide)).tr (zEx_sI (by decide))
      have x02 : zEx [(6, 4), (6, 5), (11, 17), (11, 18)] σ σ2 := (w2.mo (by decide)).tr (x2.mo (by decide))
      have hcls : f_X11_pay σ = some (nI (a * p / 100), σ2) := by
        unfold f_X11_pay
        rw [w1, Option.bind_some, show (nI s, σ1).1 = nI s from rfl, hat, Option.bind_some]
        show (if zI σ1 11 0 17 < 3 then ((f_X1_on σ1 (zI σ1 11 0 10)).bind fun r8 => (f_X0_term σ1 r8 (8 + (zI σ1 11 0 17))).bind fun r10 => (f_X11_briefOf σ1 s).bind fun r12 => (f_X7_costBy σ1 s r12).bind fun r14 => zlt (zsI σ1 11 0 18 ((zI σ1 11 0 18) + ((r14 * r10) / 100))) fun σ16 => zlt (zsI σ16 11 0 17 ((zI σ16 11 0 17) + 1)) fun σ17 => some (((r14 * r10) / 100), σ17)) else (some ((-1), σ1))) = _
        rw [e17', if_pos (by rw [zq3, nI_ltI (by omega) (by omega)]; exact hst2), X1_on hB1, Option.bind_some, hD1, zq8, nI_add, X0_term _ (show 8 + st < 11 by omega), Option.bind_some, X11_briefOf hB1 hD1 hsc.2.2.1, Option.bind_some, X7_cost hX, Option.bind_some, ea, ep, pc1, zlt_e, zlt_e, show zI (zsI σ1 11 0 18 (zI σ1 11 0 18 + nI (a * p / 100))) 11 0 17 = nI st from e17', nI_1, hσ2]
      obtain ⟨σ3, v1, v2⟩ := X12_win (zWR_x hR x02 (by decide) hf10 (by rw [x02.1 12 0 51 (by decide)]; exact e51))
      rw [hw] at v1
      have x13 : zEx [(11, 18), (11, 17), (12, 62), (12, 63), (12, 64)] σ1 σ3 := (x2.mo (by decide)).tr (v2.mo (by decide))
      have x03 : zEx [(6, 4), (6, 5), (11, 17), (11, 18), (12, 62), (12, 63), (12, 64)] σ σ3 := (x02.mo (by decide)).tr (v2.mo (by decide))
      have hB3 : iBri σ3 := iBri_fr x13 (by decide) hB1
      have eO : zOn σ3 = zOn σ1 := zOn_x x13 (by decide)
      have eD : zdt σ3 = zdt σ1 := zdt_x x13 (by decide)
      have hs10 : s < 10 := by omega
      have f52 : zI σ3 12 0 52 = nI st := by rw [x03.1 12 0 52 (by decide)]; exact e52
      have f0 : zI σ3 12 0 0 = zI σ1 12 0 0 := x13.1 12 0 0 (by decide)
      have hRC3 : zRC σ3 s C := zRC_x x13 (by decide) hRC
      have hcost3 := X12_cost hB3 (zdt σ1 s) hRC3 hs10
      rw [eO, x13.2.2.2.1 0 _ 5 (by decide), x13.2.2.2.1 0 _ 6 (by decide), ea] at hcost3
      have htell3 := X12_tells hB3 (zI σ1 12 0 0) (w := 8 + st) (by omega)
      rw [eO, x13.2.2.2.1 0 _ 5 (by decide), ep] at htell3
      have hbr3 := X12_briefOf hB3 hs10
      rw [eD, eO] at hbr3
      have hbo3 := X12_bindsOn hB3 (zI σ1 12 0 0)
      rw [eO] at hbo3
      obtain ⟨σ4, hσ4⟩ : ∃ x, x = zsI (zsI σ3 12 0 52 (nI (st + 1))) 12 0 53 (zI σ3 12 0 53 + nI (a * p / 100)) := ⟨_, rfl⟩
      have x34 : zEx [(12, 52), (12, 53)] σ3 σ4 := by
        rw [hσ4]
        exact (zEx_sI (by decide)).tr (zEx_sI (by decide))
      have hEx : zEx [(6, 4), (6, 5), (12, 62), (12, 63), (12, 64), (11, 16), (11, 17), (11, 18), (12, 51), (12, 52), (12, 53)] σ σ4 := (x03.mo (by decide)).tr (x34.mo (by decide))
      obtain ⟨s1, s2⟩ := zsame2 hEx (by decide)
      have g16 : zI σ4 11 0 16 = nI f := by rw [x34.1 11 0 16 (by decide), x03.1 11 0 16 (by decide)]; exact e16
      have g51 : zI σ4 12 0 51 = nI f := by rw [x34.1 12 0 51 (by decide), x03.1 12 0 51 (by decide)]; exact e51
      have g17 : zI σ4 11 0 17 = nI (st + 1) := by rw [x34.1 11 0 17 (by decide), v2.1 11 0 17 (by decide), hσ2]; rfl
      have g52 : zI σ4 12 0 52 = nI (st + 1) := by rw [hσ4]; rfl
      have g18 : zI σ4 11 0 18 = zI σ4 12 0 53 := by
        have h1 : zI σ4 11 0 18 = zI σ 11 0 18 + nI (a * p / 100) := by
          rw [x34.1 11 0 18 (by decide), v2.1 11 0 18 (by decide), hσ2]
          show zI σ1 11 0 18 + _ = _
          rw [w2.1 11 0 18 (by decide)]
        have h2 : zI σ4 12 0 53 = zI σ 12 0 53 + nI (a * p / 100) := by
          rw [hσ4]
          show zI σ3 12 0 53 + _ = _
          rw [x03.1 12 0 53 (by decide)]
        rw [h1, h2, e18]
      refine ⟨nI (a * p / 100), σ2, σ4, hcls, ?_, ⟨iDay_fr hEx (by decide) hDay, iFlt_fr hEx (by decide) hFlt, iTap_fr hEx (by decide) hTap, iNam_fr hEx (by decide) hNam, iSun_fr hEx (by decide) hSun, iSch_fr hEx (by decide) hSch, iPai_fr hEx (by decide) hPai, iQue_fr hEx (by decide) hQue, iPan_fr hEx (by decide) hPan, iWds_fr hEx (by decide) hWds, iBri_fr hEx (by decide) hBri, iMen_mo (iMen_fr hEx (by decide) hMen), iRnd_st hEx hRnd g16 g51 hf10 g17 g52 (by omega) g18⟩, s1, s2⟩
      show f_X12_pay σ2 = _
      unfold f_X12_pay
      rw [v1, Option.bind_some, if_neg hne]
      show (if zI σ3 12 0 52 = 3 then _ else ((f_X12_briefOf σ3 (nI s)).bind fun r5 => (f_X12_costBy σ3 (nI s) r5).bind fun r7 => (f_X12_bindsOn σ3 (zI σ3 12 0 0)).bind fun r9 => (f_X12_tells σ3 r9 (8 + (zI σ3 12 0 52))).bind fun r11 => zlt (zsI σ3 12 0 52 ((zI σ3 12 0 52) + 1)) fun σ13 => zlt (zsI σ13 12 0 53 ((zI σ13 12 0 53) + ((r7.toInt64 * r11.toInt64) / 100).toInt32)) fun σ14 => some (((r7.toInt64 * r11.toInt64) / 100).toInt32, σ14))) = _
      rw [f52, if_neg (by rw [zq3, nI_eq (by omega) (by omega)]; exact hst), hbr3, Option.bind_some, hcost3, Option.bind_some, f0, hbo3, Option.bind_some, zq8, nI_add, htell3, Option.bind_some, zlt_e, zlt_e, pc2, nI_1, show zI (zsI σ3 12 0 52 (nI (st + 1))) 12 0 53 = zI σ3 12 0 53 from rfl, hσ4]
