/-! most: the obligation -/
theorem zschS {σ : zM} {k s : Nat} (hk : k ≤ 10) (h2 : zI σ 11 0 12 = nI k) (ho : zO σ 11 0 7 s = some s) (hs : s < k) : f_X11_schemeAt σ (nI s) = some (some s) := by
  unfold f_X11_schemeAt
  rw [if_neg (zlt0 (by omega)), if_neg (by rw [h2, nI_leI (by omega) (by omega)]; omega), if_neg (by rw [zq10, nI_leI (by omega) (by omega)]; omega), zix_n (by omega) (by omega)]
  show znu (zO σ 11 0 7 s) (some none) (fun j6 => some (some j6)) = _
  rw [ho]
  rfl
theorem zw3 {α : Type} {w : Nat} (hw : w < 3) {a b c : α} : (if nI w = 0 then a else if nI w = 1 then b else c) = if w = 0 then a else if w = 1 then b else c := by
  have : w = 0 ∨ w = 1 ∨ w = 2 := by omega
  rcases this with rfl | rfl | rfl <;> rfl
theorem ob_most (x1 : Int32) : zOb zInv (fun σ => f_X11_most σ x1) (fun σ => f_X12_most σ x1) := by
  intro n σ hn hI
  have hI0 := hI
  obtain ⟨hDay, hFlt, hTap, hNam, hSun, hSch, hPai, hQue, hPan, hWds, hBri, hMen, hRnd⟩ := hI
  have no : f_X11_most σ x1 = some (-1, σ) → f_X12_most σ x1 = some (-1, σ) → ∃ r σ1 σ2, f_X11_most σ x1 = some (r, σ1) ∧ f_X12_most σ1 x1 = some (r, σ2) ∧ zInv (n + 8) σ2 ∧ zSc σ2 = zSc σ ∧ zMd σ2 = zMd σ := fun h1 h2 => ⟨-1, σ, σ, h1, h2, zMono n σ hI0, rfl, rfl⟩
  obtain ⟨k, k1, k2, k3, k4, k5⟩ := hSch
  have hSch : iSch σ := ⟨k, k1, k2, k3, k4, k5⟩
  by_cases hk : k < 2
  · have c2 : nI k < 2 := by rw [zq2, nI_ltI (by omega) (by omega)]; exact hk
    refine no ?_ ?_
    · unfold f_X11_most
      rw [k2, if_pos c2]
    · unfold f_X12_most
      rw [k3, if_pos c2]
  · have c2 : ¬ nI k < 2 := by rw [zq2, nI_ltI (by omega) (by omega)]; exact hk
    rcases zcase x1 (n := 3) (by omega) with ⟨w, hw, rfl⟩ | hx
    · obtain ⟨m, m1, m2, m3, m4⟩ := hPai
      have hMA : zMA k σ := ⟨k1, k2, fun s hs => zschS k1 k2 (k4 s hs).1 hs, fun s hs => zCX_of (k4 s hs).2.2.2.2⟩
      obtain ⟨σ1, w1, ⟨v, hv⟩, hJ1⟩ := X11_mo2 (x1 := nI w) hMA m2
      subst hv
      have hMR : zMR k (zsJ σ 11 0 13 v) := ⟨k1, k3, fun s hs => (zRC_of (k4 s hs).2.2.2.2 : zRC σ s (zCl σ s))⟩
      obtain ⟨σ2, w2, hX2, hR2⟩ := X12_mo2 (σ0 := zsJ σ 11 0 13 v) (x1 := nI w) hMR (m := m) ⟨m3, m4⟩
      have hV : zVV (zsJ σ 11 0 13 v) = zVV σ := rfl
      rw [hV] at w2
      have hEx : zEx [(11, 13), (12, 14), (12, 15)] σ σ2 := (zEx_sJ (v := v) (i := 0) (by decide)).tr (hX2.mo (by decide))
      obtain ⟨B, hB⟩ : ∃ B, B = zbO (zVV σ) k k := ⟨_, rfl⟩
      rw [← hB] at w1 w2
      refine ⟨if w = 0 then B.1 else if w = 1 then B.2.1 else B.2.2, zsJ σ 11 0 13 v, σ2, ?_, ?_, ⟨iDay_fr hEx (by decide) hDay, iFlt_fr hEx (by decide) hFlt, iTap_fr hEx (by decide) hTap, iNam_fr hEx (by decide) hNam, iSun_fr hEx (by decide) hSun, iSch_fr hEx (by decide) hSch, ?_, iQue_fr hEx (by decide) hQue, iPan_fr hEx (by decide) hPan, iWds_fr hEx (by decide) hWds, iBri_fr hEx (by decide) hBri, iMen_mo (iMen_fr hEx (by decide) hMen), iRnd_fr hEx (by decide) hRnd⟩, ?_, ?_⟩
      · show f_X11_most σ (nI w) = _
        unfold f_X11_most
        rw [k2, if_neg c2, if_neg (zlt0 (by omega)), if_pos (by rw [zq2, nI_leI (by omega) (by omega)]; omega), w1, Option.bind_some]
        unfold f_X11_most_B91
        rw [zw3 hw]
        split
        · rfl
        · split <;> rfl
      · show f_X12_most (zsJ σ 11 0 13 v) (nI w) = _
        unfold f_X12_most
        rw [show zI (zsJ σ 11 0 13 v) 12 0 1 = nI k from k3, if_neg c2, show f_X12_isIn (nI w) 0 2 = 1 from zisIn_1 (a := 0) (m := 2) (by omega) (by omega) (by omega), if_neg z10, w2, Option.bind_some]
        unfold f_X12_most_B94
        rw [zw3 hw]
        split
        · rfl
        · split <;> rfl
      · exact ⟨zmO k m k, zmO_lt k1 m1 k (Nat.le_refl _), (hX2.2.1 11 0 13 (by decide)).trans hJ1, hR2.1, hR2.2⟩
      · show (zI σ2 11 0 12).toNatClampNeg = (zI σ 11 0 12).toNatClampNeg
        rw [hEx.1 11 0 12 (by decide)]
      · show (zI σ2 1 0 2).toNatClampNeg + (if zR σ2 1 0 3 = none then 0 else 1) = zMd σ
        rw [hEx.1 1 0 2 (by decide), hEx.2.2.1 1 0 3 (by decide)]
        rfl
    · refine no ?_ ?_
      · unfold f_X11_most
        rw [k2, if_neg c2]
        by_cases h0 : x1 < 0
        · rw [if_pos h0]
        · rw [if_neg h0, if_neg]
          intro h
          have h3 := hx.resolve_left h0
          rw [fa_le, nI_toInt (by omega)] at h3
          rw [zq2, fa_le, nI_toInt (by omega)] at h
          omega
      · unfold f_X12_most
        rw [k3, if_neg c2, show f_X12_isIn x1 0 2 = 0 from zisIn_0' (m := 2) (by omega) hx, if_pos rfl]
