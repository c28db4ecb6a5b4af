/-! mend: the obligation -/
theorem zMs_e {σ : zM} {s k : Nat} (k1 : k ≤ 40) (k2 : zI σ 0 (zOn σ (zdt σ s)) 7 = nI k) : zMs σ s = zMen (zCl σ s) (zSn σ) (zbv σ (zOn σ (zdt σ s))) (zdt σ s) k := by
  unfold zMs
  rw [zns_n k2 k1]
/-- what is known stands when the class has searched -/
theorem zInv_sk {n : Nat} {σ σ1 : zM} {s : Nat} (hI : zInv n σ) (hs : nI s < zI σ 12 0 1) (hs2 : s < 10) (hx : zSx s σ σ1) (hX : zCX σ1 s (zCl σ s)) (h84 : zI σ1 8 0 4 = nI s) (hm : ∀ w, w < 5 → zA σ1 8 0 3 w = zMep (zMs σ s) w) : zInv n σ1 ∧ zMs σ1 = zMs σ := by
  obtain ⟨hDay, hFlt, hTap, hNam, hSun, hSch, hPai, hQue, hPan, hWds, hBri, hMen, hRnd⟩ := hI
  have hEx := hx.1
  have hms : zMs σ1 = zMs σ := zMs_fr (zFe_of hEx (by decide))
  have hcl : zCl σ1 = zCl σ := zCl_fr (zFe_of hEx (by decide))
  refine ⟨⟨iDay_fr hEx (by decide) hDay, iFlt_fr hEx (by decide) hFlt, iTap_fr hEx (by decide) hTap, iNam_fr hEx (by decide) hNam, iSun_fr hEx (by decide) hSun, ?_, iPai_fr hEx (by decide) hPai, iQue_fr hEx (by decide) hQue, iPan_fr hEx (by decide) hPan, iWds_fr hEx (by decide) hWds, iBri_fr hEx (by decide) hBri, ?_, iRnd_fr hEx (by decide) hRnd⟩, hms⟩
  · obtain ⟨k, k1, k2, k3, k4, k5⟩ := hSch
    have e3 : zA σ1 12 0 3 = zA σ 12 0 3 := hEx.2.2.2.1 12 0 3 (by decide)
    refine ⟨k, k1, (hEx.1 11 0 12 (by decide)).trans k2, (hEx.1 12 0 1 (by decide)).trans k3, fun s' hs' => ?_, fun s' hs' h10 j hj => by rw [e3]; exact k5 s' hs' h10 j hj⟩
    have e1 : zO σ1 11 0 7 = zO σ 11 0 7 := hEx.2.2.2.2.2 11 0 7 (by decide)
    have e4 : zA σ1 12 0 4 = zA σ 12 0 4 := hEx.2.2.2.1 12 0 4 (by decide)
    have e5 : zA σ1 12 0 5 = zA σ 12 0 5 := hEx.2.2.2.1 12 0 5 (by decide)
    have i0 : zI σ1 7 s' 0 = zI σ 7 s' 0 := hEx.1 7 s' 0 (by decide)
    have i1 : zI σ1 7 s' 1 = zI σ 7 s' 1 := hEx.1 7 s' 1 (by decide)
    by_cases e : s' = s
    · subst e
      obtain ⟨g1, g2, g3, g4, g5⟩ := k4 s' hs'
      refine ⟨by rw [e1]; exact g1, by rw [i0, e4]; exact g2, by rw [i1, e5]; exact g3, by rw [e5]; exact g4, ?_⟩
      unfold zCR
      rw [hcl, e3]
      exact ⟨g5.1, hX.2⟩
    · have h7 := hx.2 s' e
      exact iSch1_c (by rw [e1]) i0 (by rw [e4]) i1 (by rw [e5]) (fun j _ => by rw [e3]) (h7 2).2 (h7 3).2 (h7 4).2 (h7 5).1 (k4 s' hs')
  · obtain ⟨g1, v, g2, g3, g4, g5⟩ := hMen
    have e1 : zI σ1 12 0 1 = zI σ 12 0 1 := hEx.1 12 0 1 (by decide)
    refine ⟨Or.inr ⟨s, by rw [e1]; exact hs, hs2, h84, fun w hw => by rw [hms]; exact hm w hw⟩, v, g2, g3, (hEx.1 12 0 2 (by decide)).trans g4, fun s' hs' => ?_⟩
    rw [hEx.2.2.2.1 12 0 10 (by decide), hEx.2.2.2.1 12 0 11 (by decide), hEx.2.2.2.1 12 0 12 (by decide), hEx.2.2.2.1 12 0 13 (by decide), e1, hms]
    exact g5 s' hs'
/-- what is known stands when the reference has searched -/
theorem zInv_ms {n : Nat} {σ σ1 : zM} {s : Nat} (hI : zInv n σ) (hs : nI s < zI σ 12 0 1) (hs2 : s < 10) (hx : zMx s σ σ1) (hR : zRC σ1 s (zCl σ s)) (hf : zMf σ1 s (zMs σ s)) (h10 : zA σ1 12 0 10 s = zI σ 12 0 2) : zInv n σ1 := by
  obtain ⟨hDay, hFlt, hTap, hNam, hSun, hSch, hPai, hQue, hPan, hWds, hBri, hMen, hRnd⟩ := hI
  have hEx := hx.1
  have hcs : ∀ s', zCl σ1 s' = zCl σ s' := fun s' => by
    by_cases e : s' = s
    · subst e
      funext k
      by_cases hk : k < 160
      · have h1 : zCl σ1 s' k = (zA σ1 12 0 3 (160 * s' + k)).toNatClampNeg := if_pos hk
        rw [h1, (hR k hk).2, nI_clamp (by have := (hR k hk).1; omega)]
      · have h1 : zCl σ1 s' k = 0 := if_neg hk
        have h2 : zCl σ s' k = 0 := if_neg hk
        rw [h1, h2]
    · exact zCl_c (fun k hk => hx.2.1 _ (by omega))
  have hms : ∀ s', zMs σ1 s' = zMs σ s' := fun s' => zMs_at (hcs s') (zSn_x hEx (by decide)) (zbv_x hEx (by decide)) (zOn_x hEx (by decide)) (by rw [zdt_x hEx (by decide)]) (zns_fr (zFe_of hEx (by decide)))
  refine ⟨iDay_fr hEx (by decide) hDay, iFlt_fr hEx (by decide) hFlt, iTap_fr hEx (by decide) hTap, iNam_fr hEx (by decide) hNam, iSun_fr hEx (by decide) hSun, ?_, iPai_fr hEx (by decide) hPai, iQue_fr hEx (by decide) hQue, iPan_fr hEx (by decide) hPan, iWds_fr hEx (by decide) hWds, iBri_fr hEx (by decide) hBri, ?_, iRnd_fr hEx (by decide) hRnd⟩
  · obtain ⟨k, k1, k2, k3, k4, k5⟩ := hSch
    rw [k3] at hs
    have hsk : s < k := by rw [nI_ltI (by omega) (by omega)] at hs; exact hs
    refine ⟨k, k1, (hEx.1 11 0 12 (by decide)).trans k2, (hEx.1 12 0 1 (by decide)).trans k3, fun s' hs' => ?_, fun s' hs' h10 j hj => ?_⟩
    · have e1 : zO σ1 11 0 7 = zO σ 11 0 7 := hEx.2.2.2.2.2 11 0 7 (by decide)
      have e4 : zA σ1 12 0 4 = zA σ 12 0 4 := hEx.2.2.2.1 12 0 4 (by decide)
      have e5 : zA σ1 12 0 5 = zA σ 12 0 5 := hEx.2.2.2.1 12 0 5 (by decide)
      have f7 : ∀ j, zI σ1 7 s' j = zI σ 7 s' j := fun j => hEx.1 7 s' j (by simp)
      have f7A : ∀ j, zA σ1 7 s' j = zA σ 7 s' j := fun j => hEx.2.2.2.1 7 s' j (by simp)
      obtain ⟨g1, g2, g3, g4, g5⟩ := k4 s' hs'
      refine ⟨by rw [e1]; exact g1, by rw [f7, e4]; exact g2, by rw [f7, e5]; exact g3, by rw [e5]; exact g4, ?_⟩
      unfold zCR
      rw [hcs s', f7A, f7A, f7A, f7]
      refine ⟨fun j hj => ?_, g5.2⟩
      by_cases e : s' = s
      · subst e
        exact hR j hj
      · rw [hx.2.1 _ (by omega)]
        exact g5.1 j hj
    · rw [hx.2.1 _ (by omega)]
      exact k5 s' hs' h10 j hj
  · obtain ⟨g1, v, g2, g3, g4, g5⟩ := hMen
    have e1 : zI σ1 12 0 1 = zI σ 12 0 1 := hEx.1 12 0 1 (by decide)
    refine ⟨?_, v, g2, g3, (hEx.1 12 0 2 (by decide)).trans g4, fun s' hs' => ?_⟩
    · rw [hEx.1 8 0 4 (by decide), hEx.2.2.2.1 8 0 3 (by decide), e1]
      rcases g1 with g1 | ⟨s', a1, a2, a3, a4⟩
      · exact Or.inl g1
      · exact Or.inr ⟨s', a1, a2, a3, fun w hw => by rw [hms]; exact a4 w hw⟩
    · rw [e1, hms]
      by_cases e : s' = s
      · subst e
        exact ⟨v, Nat.le_refl _, h10.trans g4, fun _ => ⟨hs, hf⟩⟩
      · obtain ⟨f10, f11, f12, f13⟩ := hx.2.2 s' e
        rw [f10, f11, f12, f13]
        exact g5 s' hs'
theorem zisHow (x : Int32) : (∃ a, a < 5 ∧ x = nI a ∧ f_X12_isIn x 0 4 = 1) ∨ ((x < 0 ∨ 5 ≤ x) ∧ f_X12_isIn x 0 4 = 0) := by
  rcases zcase x (n := 5) (by omega) with ⟨t, ht, rfl⟩ | hx
  · exact Or.inl ⟨t, by omega, rfl, zisIn_1 (a := 0) (m := 4) (by omega) (by omega) (by omega)⟩
  · exact Or.inr ⟨hx, zisIn_0' (m := 4) (by omega) hx⟩
theorem X8_mendP {σ : zM} {M : Nat × Nat} (h : ∀ w, w < 5 → zA σ 8 0 3 w = zMep M w) (x : Int32) : f_X8_mendPart σ x = some (if x < 0 then -1 else if 5 ≤ x then -1 else zMep M x.toNatClampNeg) := by
  unfold f_X8_mendPart
  rcases zcase x (n := 5) (by omega) with ⟨w, hw, rfl⟩ | hx
  · rw [if_neg (zlt0 (by omega)), if_neg (by rw [zq5, nI_leI (by omega) (by omega)]; omega), if_neg (zlt0 (by omega)), if_neg (by rw [zq5, nI_leI (by omega) (by omega)]; omega), zix_n hw (by omega), Option.bind_some, h w hw, nI_clamp (by omega)]
  · by_cases h0 : x < 0
    · rw [if_pos h0, if_pos h0]
    · rw [if_neg h0, if_neg h0, if_pos (show (5 : Int32) ≤ x from hx.resolve_left h0), if_pos (show (5 : Int32) ≤ x from hx.resolve_left h0)]
theorem zMen_le (C S : Nat → Nat) (B : zBV) (t : Int32) (n : Nat) : (zMen C S B t n).2 ≤ 2400 ∧ (zMen C S B t n).1 ≤ 2 := by
  obtain ⟨F, hF⟩ : ∃ F, F = fa_first (ztry C S B t n) 2400 := ⟨_, rfl⟩
  have hl : F ≤ 2400 := by rw [hF]; exact fa_first_le (ztry C S B t n) 2400
  have e : zMen C S B t n = if zWhy C S B t n = n then (0, 2400) else if F < 2400 then (1, F) else (2, 2400) := by rw [hF]; rfl
  rw [e]
  by_cases h1 : zWhy C S B t n = n
  · rw [if_pos h1]
    exact ⟨Nat.le_refl _, by show 0 ≤ 2; omega⟩
  · rw [if_neg h1]
    by_cases h2 : F < 2400
    · rw [if_pos h2]
      exact ⟨hl, by show 1 ≤ 2; omega⟩
    · rw [if_neg h2]
      exact ⟨Nat.le_refl _, Nat.le_refl _⟩
theorem X12_mendP {σ : zM} {s : Nat} {M : Nat × Nat} (hs : s < 10) (h : zMf σ s M) (hM : M.2 ≤ 2400) {w : Nat} (hw : w < 5) : ((zix (nI s) 10).bind fun i7 => if nI w = 0 then ((zix (nI s) 10).bind fun i14 => some ((zA σ 12 0 11 i14), σ)) else (if (zA σ 12 0 12 i7) = (-1) then (some ((-1), σ)) else (if nI w = 1 then (some (((zA σ 12 0 12 i7) / 80), σ)) else (if nI w = 2 then (some ((zrem (zA σ 12 0 12 i7) 10), σ)) else (if nI w = 3 then (some (((zrem (zA σ 12 0 12 i7) 80) / 10), σ)) else ((zix (nI s) 10).bind fun i13 => some ((zA σ 12 0 13 i13), σ))))))) = some (zMep M w, σ) := by
  obtain ⟨h1, h2, h3⟩ := h
  rw [zi10 hs]
  simp only [Option.bind_some]
  unfold zMep
  have hc : w = 0 ∨ w = 1 ∨ w = 2 ∨ w = 3 ∨ w = 4 := by omega
  by_cases hM2 : M.2 < 2400
  · obtain ⟨g1, g2⟩ := h2 hM2
    have hne : ¬ zA σ 12 0 12 s = -1 := by rw [g1]; exact znI_m1 (by omega)
    rw [h1, g2, if_neg hne, g1, zq80, zq10, zdivI (by omega) (by omega), zremI (by omega) (by omega), zremI (by omega) (by omega), zdivI (by omega) (by omega)]
    simp only [hM2, if_true]
    rcases hc with rfl | rfl | rfl | rfl | rfl
    · rfl
    · rfl
    · rfl
    · rfl
    · rfl
  · rw [h1, if_pos (h3 (by omega))]
    simp only [hM2, if_false]
    rcases hc with rfl | rfl | rfl | rfl | rfl <;> rfl
theorem ob_mend (x1 x2 : Int32) : zOb zInv (fun σ => f_X11_mend σ x1 x2) (fun σ => f_X12_mend σ x1 x2) := by
  intro n σ hn hI
  have hI0 := hI
  obtain ⟨hDay, hFlt, hTap, hNam, hSun, hSch, hPai, hQue, hPan, hWds, hBri, hMen, hRnd⟩ := hI
  rcases zschAt hSch x1 with ⟨s, rfl, hs, hs2, e1, e2, hsc⟩ | ⟨e1, e2⟩
  · obtain ⟨k, k1, k2, -⟩ := zbinds hBri (zdt σ s)
    have hMe := zMs_e k1 k2
    have hle := zMen_le (zCl σ s) (zSn σ) (zbv σ (zOn σ (zdt σ s))) (zdt σ s) k
    rw [← hMe] at hle
    have hMc : zMc σ s k (zCl σ s) (zI σ 11 0 10) (zdt σ s) := ⟨hBri, hSun, zCX_of hsc.2.2.2.2, by rw [hsc.2.2.1, hDay.1]; rfl, k1, k2⟩
    -- the class
    have hA : ∃ σ1, f_X8_seekMend σ (nI s) s (zOn σ (zdt σ s)) (zI σ 11 0 10) = some σ1 ∧ zSx s σ σ1 ∧ zCX σ1 s (zCl σ s) ∧ zI σ1 8 0 4 = nI s ∧ ∀ w, w < 5 → zA σ1 8 0 3 w = zMep (zMs σ s) w := by
      by_cases hc : zI σ 8 0 4 = nI s
      · refine ⟨σ, ?_, zSx.rf, hMc.2.2.1, hc, ?_⟩
        · unfold f_X8_seekMend
          rw [if_pos hc.symm]
        · rcases hMen.1 with h | ⟨s', a1, a2, a3, a4⟩
          · rw [hc] at h
            exact absurd h (znI_m1 (by omega))
          · rw [hc, nI_eq (by omega) (by omega)] at a3
            rw [a3]
            exact a4
      · rw [hMe]
        exact X8_seek hMc hc
    obtain ⟨σ1, w1, w2, w3, w4, w5⟩ := hA
    obtain ⟨hI1, hms1⟩ := zInv_sk hI0 hs hs2 w2 w3 w4 w5
    have hcls : f_X11_mend σ (nI s) x2 = some (if x2 < 0 then -1 else if 5 ≤ x2 then -1 else zMep (zMs σ s) x2.toNatClampNeg, σ1) := by
      unfold f_X11_mend
      rw [e1, Option.bind_some]
      simp only [znu]
      rw [X11_briefOf hBri hDay.1 hsc.2.2.1, Option.bind_some, w1, Option.bind_some, X8_mendP w5, Option.bind_some]
    have f1 : zI σ1 12 0 1 = zI σ 12 0 1 := w2.1.1 12 0 1 (by decide)
    have e2' : f_X12_isScheme σ1 (nI s) = 1 := by
      unfold f_X12_isScheme
      rw [f1]
      exact e2
    have hsc1 : ∀ σ2 : zM, zI σ2 11 0 12 = zI σ1 11 0 12 → zSc σ2 = zSc σ := fun σ2 h => by
      show (zI σ2 11 0 12).toNatClampNeg = (zI σ 11 0 12).toNatClampNeg
      rw [h, w2.1.1 11 0 12 (by decide)]
    have hmd1 : ∀ σ2 : zM, zI σ2 1 0 2 = zI σ1 1 0 2 → zR σ2 1 0 3 = zR σ1 1 0 3 → zMd σ2 = zMd σ := fun σ2 h h' => by
      show (zI σ2 1 0 2).toNatClampNeg + (if zR σ2 1 0 3 = none then 0 else 1) = zMd σ
      rw [h, h', w2.1.1 1 0 2 (by decide), w2.1.2.2.1 1 0 3 (by decide)]
      rfl
    rcases zisHow x2 with ⟨w, hw, rfl, e3⟩ | ⟨hx, e3⟩
    · rw [if_neg (zlt0 (by omega)), if_neg (by rw [zq5, nI_leI (by omega) (by omega)]; omega), nI_clamp (by omega)] at hcls
      -- the reference
      have hB : ∃ σ2, f_X12_mends σ1 (nI s) = some σ2 ∧ zInv n σ2 ∧ zMf σ2 s (zMs σ s) ∧ zI σ2 11 0 12 = zI σ1 11 0 12 ∧ zI σ2 1 0 2 = zI σ1 1 0 2 ∧ zR σ2 1 0 3 = zR σ1 1 0 3 := by
        by_cases hc : zA σ1 12 0 10 s = zI σ1 12 0 2
        · refine ⟨σ1, ?_, hI1, ?_, rfl, rfl, rfl⟩
          · unfold f_X12_mends
            rw [zi10 hs2, Option.bind_some, if_pos hc]
          · obtain ⟨-, -, -, -, -, -, -, -, -, -, -, hMen1, -⟩ := hI1
            obtain ⟨-, v, v1, v2, v3, v4⟩ := hMen1
            obtain ⟨u, u1, u2, u3⟩ := v4 s hs2
            rw [u2, v3, nI_eq (by omega) (by omega)] at hc
            have := (u3 hc).2
            rw [hms1] at this
            exact this
        · have eO := zOn_x w2.1 (by decide)
          have eV := zbv_x w2.1 (by decide)
          have eS := zSn_x w2.1 (by decide)
          have eD := zdt_x w2.1 (by decide)
          have eC : zCl σ1 = zCl σ := zCl_fr (zFe_of w2.1 (by decide))
          have hMr : zMr σ1 s k (zdt σ s) := ⟨iBri_fr w2.1 (by decide) hBri, iSun_fr w2.1 (by decide) hSun, hs2, by rw [eD], k1, by rw [eO, w2.1.1 0 _ 7 (by decide)]; exact k2⟩
          obtain ⟨σ2, v1, v2, v3, v4, v5⟩ := X12_mends hMr (zRC_x w2.1 (by decide) (zRC_of hsc.2.2.2.2)) hc
          rw [eO, eV, eS, ← hMe] at v4
          refine ⟨σ2, v1, zInv_ms hI1 (by rw [f1]; exact hs) hs2 v2 (by rw [eC]; exact v3) (by rw [hms1]; exact v4) v5, v4, v2.1.1 11 0 12 (by decide), v2.1.1 1 0 2 (by decide), v2.1.2.2.1 1 0 3 (by decide)⟩
      obtain ⟨σ2, v1, v2, v3, v4, v5, v6⟩ := hB
      refine ⟨zMep (zMs σ s) w, σ1, σ2, hcls, ?_, zMono n σ2 v2, hsc1 σ2 v4, hmd1 σ2 v5 v6⟩
      show f_X12_mend σ1 (nI s) (nI w) = _
      unfold f_X12_mend
      rw [e2', if_neg z10, e3, if_neg z10, v1, Option.bind_some]
      exact X12_mendP hs2 v3 hle.1 hw
    · refine ⟨-1, σ1, σ1, ?_, ?_, zMono n σ1 hI1, hsc1 σ1 rfl, hmd1 σ1 rfl rfl⟩
      · show f_X11_mend σ (nI s) x2 = _
        rw [hcls]
        by_cases h0 : x2 < 0
        · rw [if_pos h0]
        · rw [if_neg h0, if_pos (hx.resolve_left h0)]
      · show f_X12_mend σ1 (nI s) x2 = _
        unfold f_X12_mend
        rw [e2', if_neg z10, e3, if_pos rfl]
  · refine ⟨-1, σ, σ, ?_, ?_, zMono n σ hI0, rfl, rfl⟩
    · show f_X11_mend σ x1 x2 = _
      unfold f_X11_mend
      rw [e1, Option.bind_some]
      rfl
    · show f_X12_mend σ x1 x2 = _
      unfold f_X12_mend
      rw [e2, if_pos rfl]
