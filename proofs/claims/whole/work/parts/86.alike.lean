/-! alike: the obligation -/
theorem ob_alike (x1 x2 : Int32) : zOb zInv (fun σ => f_X11_alike σ x1 x2) (fun σ => f_X12_alike σ x1 x2) := by
  intro n σ hn hI
  have hI0 := hI
  obtain ⟨hDay, hFlt, hTap, hNam, hSun, hSch, hPai, hQue, hPan, hWds, hBri, hMen, hRnd⟩ := hI
  have no : f_X11_alike σ x1 x2 = some (-1, σ) → f_X12_alike σ x1 x2 = some (-1, σ) → ∃ r σ1 σ2, f_X11_alike σ x1 x2 = some (r, σ1) ∧ f_X12_alike σ1 x1 x2 = some (r, σ2) ∧ zInv (n + 8) σ2 ∧ zSc σ2 = zSc σ ∧ zMd σ2 = zMd σ := fun h1 h2 => ⟨-1, σ, σ, h1, h2, zMono n σ hI0, rfl, rfl⟩
  rcases zschAt hSch x1 with ⟨o, rfl, ho, ho2, e1, e2, hoc⟩ | ⟨e1, e2⟩
  · rcases zschAt hSch x2 with ⟨s, rfl, hs, hs2, d1, d2, hsc⟩ | ⟨d1, d2⟩
    · by_cases hos : o = s
      · refine no ?_ ?_
        · unfold f_X11_alike
          rw [e1, Option.bind_some]
          simp only [znu]
          rw [d1, Option.bind_some]
          simp only [znu]
          rw [if_pos (by rw [hos])]
        · unfold f_X12_alike
          rw [e2, if_neg z10, d2, if_neg z10, if_pos (by rw [hos])]
      · have hne : ¬ nI o = nI s := by rw [nI_eq (by omega) (by omega)]; exact hos
        obtain ⟨m, m1, m2, m3, m4⟩ := hPai
        have hX1 := zCX_of hoc.2.2.2.2
        have hX2 := zCX_of hsc.2.2.2.2
        have hR1 := zRC_of hoc.2.2.2.2
        have hR2 := zRC_of hsc.2.2.2.2
        have hmx : zmax (nI o) (nI s) = nI (max o s) := zmaxE (by omega) (by omega)
        have hmn : zmin (nI o) (nI s) = nI (min o s) := zminE (by omega) (by omega)
        have hlk : f_X11_lookAt σ (nI (min o s)) (nI (max o s)) = some (nI (zalm (zCl σ o) (zCl σ s) 4), zsJ σ 11 0 13 (lN (m ||| 2 ^ zpr (min o s) (max o s)))) := by
          by_cases h : o < s
          · rw [Nat.min_eq_left (by omega), Nat.max_eq_right (by omega)]
            exact X11_look h (by omega) e1 d1 hX1 hX2 m2
          · rw [Nat.min_eq_right (by omega), Nat.max_eq_left (by omega), zalm_sym _ _ 4 (Nat.le_refl 4)]
            exact X11_look (by omega) (by omega) d1 e1 hX2 hX1 m2
        obtain ⟨σ2, w2, R2, X2⟩ := X12_look (σ := zsJ σ 11 0 13 (lN (m ||| 2 ^ zpr (min o s) (max o s)))) hos ho2 hs2 hR1 hR2 (m := m) ⟨m3, m4⟩
        have hEx : zEx [(11, 13), (12, 14), (12, 15)] σ σ2 := (zEx_sJ (v := lN (m ||| 2 ^ zpr (min o s) (max o s))) (i := 0) (by decide)).tr (X2.mo (by decide))
        refine ⟨nI (zalm (zCl σ o) (zCl σ s) 4), zsJ σ 11 0 13 (lN (m ||| 2 ^ zpr (min o s) (max o s))), σ2, ?_, ?_, ⟨iDay_fr hEx (by decide) hDay, iFlt_fr hEx (by decide) hFlt, iTap_fr hEx (by decide) hTap, iNam_fr hEx (by decide) hNam, iSun_fr hEx (by decide) hSun, iSch_fr hEx (by decide) hSch, ?_, iQue_fr hEx (by decide) hQue, iPan_fr hEx (by decide) hPan, iWds_fr hEx (by decide) hWds, iBri_fr hEx (by decide) hBri, iMen_mo (iMen_fr hEx (by decide) hMen), iRnd_fr hEx (by decide) hRnd⟩, ?_, ?_⟩
        · show f_X11_alike σ (nI o) (nI s) = _
          unfold f_X11_alike
          rw [e1, Option.bind_some]
          simp only [znu]
          rw [d1, Option.bind_some]
          simp only [znu]
          rw [if_neg hne, hmx, hmn, hlk, Option.bind_some]
        · show f_X12_alike _ (nI o) (nI s) = _
          unfold f_X12_alike
          rw [show f_X12_isScheme (zsJ σ 11 0 13 (lN (m ||| 2 ^ zpr (min o s) (max o s)))) (nI o) = 1 from e2, if_neg z10, show f_X12_isScheme (zsJ σ 11 0 13 (lN (m ||| 2 ^ zpr (min o s) (max o s)))) (nI s) = 1 from d2, if_neg z10, if_neg hne, w2, Option.bind_some]
        · exact ⟨m ||| 2 ^ zpr (min o s) (max o s), zpr_or (by omega) (by omega) m1, X2.2.1 11 0 13 (by decide), R2.1, R2.2⟩
        · show (zI σ2 11 0 12).toNatClampNeg = (zI σ 11 0 12).toNatClampNeg
          rw [hEx.1 11 0 12 (by decide)]
        · show (zI σ2 1 0 2).toNatClampNeg + (if zR σ2 1 0 3 = none then 0 else 1) = zMd σ
          rw [hEx.1 1 0 2 (by decide), hEx.2.2.1 1 0 3 (by decide)]
          rfl
    · refine no ?_ ?_
      · unfold f_X11_alike
        rw [e1, Option.bind_some]
        simp only [znu]
        rw [d1, Option.bind_some]
      · unfold f_X12_alike
        rw [e2, if_neg z10, d2, if_pos rfl]
  · refine no ?_ ?_
    · unfold f_X11_alike
      rw [e1, Option.bind_some]
      simp only [znu]
      rcases zschAt hSch x2 with ⟨s, rfl, hs, hs2, d1, d2, hsc⟩ | ⟨d1, d2⟩
      · rw [d1, Option.bind_some]
      · rw [d1, Option.bind_some]
    · unfold f_X12_alike
      rw [e2, if_pos rfl]
