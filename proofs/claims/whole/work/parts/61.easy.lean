theorem z10 : ¬ ((1 : Int32) = 0) := by decide
theorem zisSid (x : Int32) : (∃ a, a < 4 ∧ x = nI a ∧ f_X12_isIn x 0 3 = 1) ∨ ((x < 0 ∨ 4 ≤ x) ∧ f_X12_isIn x 0 3 = 0) := by
  rcases zcase x (n := 4) (by omega) with ⟨t, ht, rfl⟩ | hx
  · exact Or.inl ⟨t, by omega, rfl, zisIn_1 (a := 0) (m := 3) (by omega) (by omega) (by omega)⟩
  · exact Or.inr ⟨hx, zisIn_0' (m := 3) (by omega) hx⟩
theorem zisHou (x : Int32) : (∃ a, a ≤ 12 ∧ x = nI a ∧ f_X12_isIn x 0 12 = 1) ∨ ((x < 0 ∨ ¬ x ≤ 12) ∧ f_X12_isIn x 0 12 = 0) := by
  rcases zcase x (n := 13) (by omega) with ⟨t, ht, rfl⟩ | hx
  · exact Or.inl ⟨t, by omega, rfl, zisIn_1 (a := 0) (m := 12) (by omega) (by omega) (by omega)⟩
  · refine Or.inr ⟨hx.imp id (fun h h2 => ?_), zisIn_0' (m := 12) (by omega) hx⟩
    rw [fa_le, nI_toInt (by omega)] at h
    rw [zq12, fa_le, nI_toInt (by omega)] at h2
    omega
theorem zX11_sun {σ : zM} {a : Nat} {h : Int32} (ha : a < 4) (h0 : ¬ h < 0) (h1 : h ≤ 12) : f_X11_sun σ (nI a) h = some (1, zsI (zsA σ 8 0 0 a h) 8 0 4 (-1)) := by
  unfold f_X11_sun f_X8_setSun f_X8_forgetMend
  have e : ¬ (4 : Int32) ≤ nI a := by rw [zq4, nI_leI (by omega) (by omega)]; omega
  rw [if_neg (zlt0 (by omega)), if_neg e, if_neg h0, if_pos h1, if_neg (zlt0 (by omega)), if_neg e, zix_n ha (by omega)]
  rfl
theorem ob_sun (x1 x2 : Int32) : zOb zInv (fun σ => f_X11_sun σ x1 x2) (fun σ => f_X12_sun σ x1 x2) := by
  intro n σ hn hI
  have hI0 := hI
  obtain ⟨hDay, hFlt, hTap, hNam, hSun, hSch, hPai, hQue, hPan, hWds, hBri, hMen, hRnd⟩ := hI
  have hno : f_X11_sun σ x1 x2 = some (0, σ) → f_X12_sun σ x1 x2 = some (0, σ) → ∃ r σ1 σ2, f_X11_sun σ x1 x2 = some (r, σ1) ∧ f_X12_sun σ1 x1 x2 = some (r, σ2) ∧ zInv (n + 8) σ2 ∧ zSc σ2 = zSc σ ∧ zMd σ2 = zMd σ := fun h1 h2 => ⟨0, σ, σ, h1, h2, zMono n σ hI0, rfl, rfl⟩
  rcases zisSid x1 with ⟨a, ha, rfl, e1⟩ | ⟨h1, e1⟩
  · rcases zisHou x2 with ⟨b, hb, rfl, e2⟩ | ⟨h2, e2⟩
    · have hEx : zEx [(8, 0), (8, 4), (12, 6), (12, 2)] σ (zsI (zsA (zsI (zsA σ 8 0 0 a (nI b)) 8 0 4 (-1)) 12 0 6 a (nI b)) 12 0 2 (zI σ 12 0 2 + 1)) := (zEx_sA (by decide)).tr ((zEx_sI (by decide)).tr ((zEx_sA (by decide)).tr (zEx_sI (by decide))))
      refine ⟨1, _, _, zX11_sun ha (zlt0 (by omega)) (by rw [zq12, nI_leI (by omega) (by omega)]; exact hb), ?_, ⟨iDay_fr hEx (by decide) hDay, iFlt_fr hEx (by decide) hFlt, iTap_fr hEx (by decide) hTap, iNam_fr hEx (by decide) hNam, ?_, iSch_fr hEx (by decide) hSch, iPai_fr hEx (by decide) hPai, iQue_fr hEx (by decide) hQue, iPan_fr hEx (by decide) hPan, iWds_fr hEx (by decide) hWds, iBri_fr hEx (by decide) hBri, ?_, iRnd_fr hEx (by decide) hRnd⟩, rfl, rfl⟩
      · show f_X12_sun _ _ _ = _
        unfold f_X12_sun
        rw [e1, if_neg (by decide), e2, if_neg (by decide), zix_n ha (by omega)]
        rfl
      · intro i hi
        show ∃ h, h ≤ 12 ∧ zu (zA σ 8 0 0) a (nI b) i = nI h ∧ zu (zA σ 12 0 6) a (nI b) i = nI h
        by_cases hia : i = a
        · subst hia
          exact ⟨b, hb, zu_eq _ _ _, zu_eq _ _ _⟩
        · rw [zu_ne _ _ hia, zu_ne _ _ hia]
          exact hSun i hi
      · exact iMen_up hn hMen rfl rfl rfl
    · refine hno ?_ ?_
      · unfold f_X11_sun
        rw [if_neg (zlt0 (by omega)), if_neg (by rw [zq4, nI_leI (by omega) (by omega)]; omega)]
        by_cases h0 : x2 < 0
        · rw [if_pos h0]
        · rw [if_neg h0, if_neg (h2.resolve_left h0)]
      · unfold f_X12_sun
        rw [e1, if_neg (by decide), e2, if_pos rfl]
  · refine hno ?_ ?_
    · unfold f_X11_sun
      by_cases h0 : x1 < 0
      · rw [if_pos h0]
      · rw [if_neg h0, if_pos (h1.resolve_left h0)]
    · unfold f_X12_sun
      rw [e1, if_pos rfl]
theorem zRO {g1 g2 : zM → Option Int32} (h : ∀ n σ, n ≤ 4096 → zInv n σ → ∃ r, g1 σ = some r ∧ g2 σ = some r) : zOb zInv (fun σ => (g1 σ).map (fun r => (r, σ))) (fun σ => (g2 σ).map (fun r => (r, σ))) := by
  intro n σ hn hI
  obtain ⟨r, h1, h2⟩ := h n σ hn hI
  exact ⟨r, σ, σ, by show (g1 σ).map _ = _; rw [h1]; rfl, by show (g2 σ).map _ = _; rw [h2]; rfl, zMono n σ hI, rfl, rfl⟩
theorem ob_answered (x1 x2 : Int32) : zOb zInv (fun σ => (f_X11_answered σ x1 x2).map (fun r => (r, σ))) (fun σ => (f_X12_answered σ x1 x2).map (fun r => (r, σ))) := by
  refine zRO (g1 := fun σ => f_X11_answered σ x1 x2) (g2 := fun σ => f_X12_answered σ x1 x2) (fun n σ hn hI => ?_)
  obtain ⟨hDay, hFlt, hTap, hNam, hSun, hSch, hPai, hQue, hPan, hWds, hBri, hMen, hRnd⟩ := hI
  obtain ⟨-, ⟨k, hk, e1, e2⟩, -, hq⟩ := hQue
  unfold f_X11_answered f_X3_part f_X12_answered
  rw [e1, e2]
  rcases zcase x1 (n := k) (by omega) with ⟨t, ht, rfl⟩ | hx
  · rw [zisIn_p ht (by omega), if_neg (zlt0 (by omega)), if_neg (by rw [nI_leI (by omega) (by omega)]; omega), if_neg (by rw [zq50, nI_leI (by omega) (by omega)]; omega), if_neg (by rw [zq50, nI_leI (by omega) (by omega)]; omega), if_pos (by rw [zq50, nI_ltI (by omega) (by omega)]; omega), if_neg z10, zix_n (show t < 50 by omega) (by omega)]
    obtain ⟨q1, q2, q3⟩ := hq t (by omega)
    simp only [Option.bind_some]
    rw [q1, q2, q3]
    split
    · exact ⟨_, rfl, rfl⟩
    · split
      · exact ⟨_, rfl, rfl⟩
      · split
        · exact ⟨_, rfl, rfl⟩
        · exact ⟨_, rfl, rfl⟩
  · rw [zisIn_0 (by omega) hx, if_pos rfl]
    refine ⟨-1, ?_, rfl⟩
    by_cases h0 : x1 < 0
    · rw [if_pos h0]; rfl
    · rw [if_neg h0, if_pos (hx.resolve_left h0)]; rfl
theorem ob_author (x1 : Int32) : zOb zInv (fun σ => (f_X11_author σ x1).map (fun r => (r, σ))) (fun σ => (f_X12_author σ x1).map (fun r => (r, σ))) := by
  refine zRO (g1 := fun σ => f_X11_author σ x1) (g2 := fun σ => f_X12_author σ x1) (fun n σ hn hI => ?_)
  obtain ⟨hDay, hFlt, hTap, hNam, hSun, hSch, hPai, hQue, hPan, hWds, hBri, hMen, hRnd⟩ := hI
  obtain ⟨cl, op, m0, m1, m2, f, st, h1, h2, h3, h4, h5, h6, h7, -⟩ := hRnd
  unfold f_X11_author f_X12_author f_X11_author_B18
  rcases zschAt hSch x1 with ⟨s, rfl, hs, hs2, e1, e2, hsc⟩ | ⟨e1, e2⟩
  · rw [e1, e2, h7, h4]
    simp only [Option.bind_some, znu]
    by_cases hc : cl = 2
    · subst hc
      rw [if_pos (by rw [zq2]; exact nI_le (by omega) (by omega)), if_pos (show nI 2 = 2 from rfl), if_neg z10, zix_n hs2 (by omega)]
      obtain ⟨a, -, a1, a2⟩ := hsc.2.1
      exact ⟨nI a, by rw [a1], by simp only [Option.bind_some]; rw [a2]⟩
    · rw [if_neg (by rw [zq2, nI_leI (by omega) (by omega)]; omega), if_neg (by rw [zq2, nI_eq (by omega) (by omega)]; exact hc)]
      exact ⟨_, rfl, rfl⟩
  · rw [e1, e2, h4]
    simp only [Option.bind_some, znu]
    refine ⟨_, rfl, ?_⟩
    split
    · rfl
    · rfl
theorem ob_juror : zOb zInv (fun σ => some (f_X11_juror σ)) (fun σ => some (f_X12_juror σ)) := by
  intro n σ hn hI
  have hI0 := hI
  obtain ⟨hDay, hFlt, hTap, hNam, hSun, hSch, hPai, hQue, hPan, hWds, hBri, hMen, hRnd⟩ := hI
  obtain ⟨⟨k, hk, e1, e2⟩, hp⟩ := hPan
  have hPan : iPan σ := ⟨⟨k, hk, e1, e2⟩, hp⟩
  by_cases hc : k = 7
  · subst hc
    refine ⟨-1, σ, σ, ?_, ?_, zMono n σ hI0, rfl, rfl⟩
    · show some (f_X11_juror σ) = _
      unfold f_X11_juror f_X2_add
      rw [e1, if_neg (by decide)]; rfl
    · show some (f_X12_juror σ) = _
      unfold f_X12_juror
      rw [e2, if_pos (by decide)]
  · have hEx : zEx [(2, 1), (12, 48)] σ (zsI (zsI σ 2 0 1 (nI (k + 1))) 12 0 48 (nI (k + 1))) := (zEx_sI (by decide)).tr (zEx_sI (by decide))
    refine ⟨nI k, zsI σ 2 0 1 (nI (k + 1)), zsI (zsI σ 2 0 1 (nI (k + 1))) 12 0 48 (nI (k + 1)), ?_, ?_, ⟨iDay_fr hEx (by decide) hDay, iFlt_fr hEx (by decide) hFlt, iTap_fr hEx (by decide) hTap, iNam_fr hEx (by decide) hNam, iSun_fr hEx (by decide) hSun, iSch_fr hEx (by decide) hSch, iPai_fr hEx (by decide) hPai, iQue_fr hEx (by decide) hQue, ?_, iWds_fr hEx (by decide) hWds, iBri_fr hEx (by decide) hBri, iMen_mo (iMen_fr hEx (by decide) hMen), ?_⟩, rfl, rfl⟩
    · show some (f_X11_juror σ) = _
      unfold f_X11_juror f_X2_add
      rw [e1, if_pos (by rw [zq7, nI_ltI (by omega) (by omega)]; omega), nI_1]
      show some (nI (k + 1) - 1, zsI σ 2 0 1 (nI (k + 1))) = _
      rw [nI_pred]
    · show some (f_X12_juror _) = _
      unfold f_X12_juror
      have e3 : zI (zsI σ 2 0 1 (nI (k + 1))) 12 0 48 = nI k := e2
      rw [e3, if_neg (by rw [zq7, nI_eq (by omega) (by omega)]; exact hc), nI_1]
      show some (nI (k + 1) - 1, zsI (zsI σ 2 0 1 (nI (k + 1))) 12 0 48 (nI (k + 1))) = _
      rw [nI_pred]
    · exact ⟨⟨k + 1, by omega, rfl, rfl⟩, hp⟩
    · obtain ⟨cl, op, m0, m1, m2, f, st, h1, h2, h3, h4, h5, h6, h7, h8, h9, h10, h11, h12, h13, h14, h15, h16, h17, h18, h19, h20, h21, h22, h23⟩ := hRnd
      have hr0 : ∀ r m, iRo1 σ (zI σ 12 0 1) r m → iRo1 (zsI (zsI σ 2 0 1 (nI (k + 1))) 12 0 48 (nI (k + 1))) (zI σ 12 0 1) r m := fun r m hh => ⟨hh.1, hh.2.1, hh.2.2.1, fun j hj => by
        obtain ⟨len, g1, g2, g3, g5, g6, g4⟩ := hh.2.2.2 j hj
        refine ⟨len, g1, g2, g3, fun h => g5 ?_, g6, g4⟩
        have h' : nI (k + 1) ≤ nI j := h
        rw [nI_leI (by omega) (by omega)] at h'
        rw [e2, nI_leI (by omega) (by omega)]
        omega⟩
      refine ⟨cl, op, m0, m1, m2, f, st, h1, h2, h3, h4, h5, h6, h7, h8, hr0 _ _ h9, hr0 _ _ h10, h11, h12, h13, h14, h15, h16, h17, h18, h19, h20, h21, fun r hr => ?_, h23⟩
      obtain ⟨⟨v, v1, v2, v3⟩, g⟩ := h22 r hr
      refine ⟨⟨v, v1, v2, fun j hj => ⟨(v3 j hj).1, fun h => (v3 j hj).2 ?_⟩⟩, g⟩
      have h' : nI (k + 1) ≤ nI j := h
      rw [nI_leI (by omega) (by omega)] at h'
      rw [e2, nI_leI (by omega) (by omega)]
      omega
theorem zminE {a b : Nat} (ha : a < 2147483648) (hb : b < 2147483648) : zmin (nI a) (nI b) = nI (min a b) := by
  unfold zmin
  by_cases h : b < a
  · rw [if_pos ((nI_ltI hb ha).mpr h), Nat.min_eq_right (by omega)]
  · rw [if_neg (fun h2 => h ((nI_ltI hb ha).mp h2)), Nat.min_eq_left (by omega)]
theorem ob_knows (x1 x2 x3 : Int32) : zOb zInv (fun σ => f_X11_knows σ x1 x2 x3) (fun σ => f_X12_knows σ x1 x2 x3) := by
  intro n σ hn hI
  have hI0 := hI
  obtain ⟨hDay, hFlt, hTap, hNam, hSun, hSch, hPai, hQue, hPan, hWds, hBri, hMen, hRnd⟩ := hI
  have hno : f_X11_knows σ x1 x2 x3 = some (0, σ) → f_X12_knows σ x1 x2 x3 = some (0, σ) → ∃ r σ1 σ2, f_X11_knows σ x1 x2 x3 = some (r, σ1) ∧ f_X12_knows σ1 x1 x2 x3 = some (r, σ2) ∧ zInv (n + 8) σ2 ∧ zSc σ2 = zSc σ ∧ zMd σ2 = zMd σ := fun h1 h2 => ⟨0, σ, σ, h1, h2, zMono n σ hI0, rfl, rfl⟩
  rcases zisJur hPan x1 with ⟨j, hj, rfl, hj2, e1, e2⟩ | ⟨e1, e2⟩
  · rcases zisAut x2 with ⟨a, ha, rfl, e3, e4⟩ | ⟨e3, e4⟩
    · rcases zisDay x3 with ⟨t, ht, rfl, e5, e6⟩ | ⟨e5, e6⟩
      · obtain ⟨u, hu, u1, u2⟩ := hPan.2 (40 * j + a) (by omega)
        have hEx : zEx [(2, 0), (12, 55)] σ (zsA (zsA σ 2 0 0 (40 * j + a) (nI (min u t))) 12 0 55 (40 * j + a) (nI (min u t))) := (zEx_sA (by decide)).tr (zEx_sA (by decide))
        refine ⟨1, zsA σ 2 0 0 (40 * j + a) (nI (min u t)), _, ?_, ?_, ⟨iDay_fr hEx (by decide) hDay, iFlt_fr hEx (by decide) hFlt, iTap_fr hEx (by decide) hTap, iNam_fr hEx (by decide) hNam, iSun_fr hEx (by decide) hSun, iSch_fr hEx (by decide) hSch, iPai_fr hEx (by decide) hPai, iQue_fr hEx (by decide) hQue, ?_, iWds_fr hEx (by decide) hWds, iBri_fr hEx (by decide) hBri, iMen_mo (iMen_fr hEx (by decide) hMen), iRnd_fr hEx (by decide) hRnd⟩, rfl, rfl⟩
        · show f_X11_knows _ _ _ _ = _
          unfold f_X11_knows f_X2_tell
          rw [e1, if_neg (by decide), e3, if_neg (by decide), e5, if_neg (by decide), zq40, zmulI, nI_add, Nat.mul_comm j 40, if_neg (zlt0 (by omega)), if_neg (by rw [zq280, nI_leI (by omega) (by omega)]; omega), zix_n (by omega) (by omega)]
          simp only [Option.bind_some, zlt_e]
          rw [u1, zminE (by omega) (by omega)]
        · show f_X12_knows _ _ _ _ = _
          unfold f_X12_knows
          have e2' : f_X12_isJuror (zsA σ 2 0 0 (40 * j + a) (nI (min u t))) (nI j) = 1 := e2
          rw [e2', if_neg (by decide), e4, if_neg (by decide), e6, if_neg (by decide), zq40, zmulI, nI_add, zix_n (by omega) (by omega)]
          simp only [Option.bind_some, zlt_e]
          rw [show zA (zsA σ 2 0 0 (40 * j + a) (nI (min u t))) 12 0 55 (40 * j + a) = nI u from u2, zminE (by omega) (by omega), Nat.min_comm]
        · refine ⟨hPan.1, fun i hi => ?_⟩
          show ∃ t', t' ≤ 1001 ∧ zu (zA σ 2 0 0) (40 * j + a) (nI (min u t)) i = nI t' ∧ zu (zA σ 12 0 55) (40 * j + a) (nI (min u t)) i = nI t'
          by_cases hia : i = 40 * j + a
          · subst hia
            exact ⟨min u t, by omega, zu_eq _ _ _, zu_eq _ _ _⟩
          · rw [zu_ne _ _ hia, zu_ne _ _ hia]
            exact hPan.2 i hi
      · exact hno (by unfold f_X11_knows; rw [e1, if_neg (by decide), e3, if_neg (by decide), e5, if_pos rfl]) (by unfold f_X12_knows; rw [e2, if_neg (by decide), e4, if_neg (by decide), e6, if_pos rfl])
    · exact hno (by unfold f_X11_knows; rw [e1, if_neg (by decide), e3, if_pos rfl]) (by unfold f_X12_knows; rw [e2, if_neg (by decide), e4, if_pos rfl])
  · exact hno (by unfold f_X11_knows; rw [e1, if_pos rfl]) (by unfold f_X12_knows; rw [e2, if_pos rfl])
