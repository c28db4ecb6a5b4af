/-! the calls that are alike at once -/
theorem iMen_mo {n : Nat} {σ : zM} (h : iMen n σ) : iMen (n + 8) σ := by
  obtain ⟨h1, v, h2, h3, h4⟩ := h
  exact ⟨h1, v, h2, by omega, h4⟩
theorem zMono (n : Nat) (σ : zM) (h : zInv n σ) : zInv (n + 8) σ := by
  obtain ⟨h1, h2, h3, h4, h5, h6, h7, h8, h9, h10, h11, h12, h13⟩ := h
  exact ⟨h1, h2, h3, h4, h5, h6, h7, h8, h9, h10, h11, iMen_mo h12, h13⟩
theorem iMen_up {n : Nat} {σ σ2 : zM} (hn : n ≤ 4096) (h : iMen n σ) (h1 : zI σ2 8 0 4 = -1) (h2 : zI σ2 12 0 2 = zI σ 12 0 2 + 1) (h3 : zA σ2 12 0 10 = zA σ 12 0 10) : iMen (n + 8) σ2 := by
  obtain ⟨-, v, g1, g2, g3, g4⟩ := h
  refine ⟨Or.inl h1, v + 1, by omega, by omega, by rw [h2, g3, nI_1], fun s hs => ?_⟩
  obtain ⟨u, u1, u2, -⟩ := g4 s hs
  exact ⟨u, by omega, by rw [h3]; exact u2, fun e => by omega⟩
theorem zcase (x : Int32) {n : Nat} (hn : n < 2147483648) : (∃ j, j < n ∧ x = nI j) ∨ (x < 0 ∨ nI n ≤ x) := by
  by_cases h : x < 0
  · exact Or.inr (Or.inl h)
  · obtain ⟨j, h1, rfl⟩ := nI_of h
    by_cases h2 : j < n
    · exact Or.inl ⟨j, h2, rfl⟩
    · exact Or.inr (Or.inr ((nI_leI hn h1).mpr (by omega)))
theorem zisIn_1 {j a m : Nat} (h1 : a ≤ j) (h2 : j ≤ m) (hm : m < 2147483648) : f_X12_isIn (nI j) (nI a) (nI m) = 1 := by
  unfold f_X12_isIn
  rw [if_neg (by rw [nI_ltI (by omega) (by omega)]; omega), if_neg (by rw [nI_ltI (by omega) (by omega)]; omega)]
theorem zpre {n : Nat} {x : Int32} (hn : n < 2147483648) (h : nI n ≤ x) : nI n - 1 < x := by
  have h1 := fb_rng x
  rw [fa_le, nI_toInt hn] at h
  have e : (nI n - 1).toInt = (n : Int) - 1 := by
    have h2 : (1 : Int32).toInt = 1 := rfl
    rw [fb_subI (by rw [nI_toInt hn, h2]; omega) (by rw [nI_toInt hn, h2]; omega), nI_toInt hn, h2]
  rw [fa_lt, e]
  omega
theorem zisIn_0 {x : Int32} {n : Nat} (hn : n < 2147483648) (h : x < 0 ∨ nI n ≤ x) : f_X12_isIn x 0 (nI n - 1) = 0 := by
  unfold f_X12_isIn
  rcases h with h | h
  · rw [if_pos h]
  · by_cases h0 : x < 0
    · rw [if_pos h0]
    · rw [if_neg h0, if_pos (zpre hn h)]
theorem zisIn_0' {x : Int32} {m : Nat} (hm : m + 1 < 2147483648) (h : x < 0 ∨ nI (m + 1) ≤ x) : f_X12_isIn x 0 (nI m) = 0 := by
  have := zisIn_0 hm h
  rw [nI_pred] at this
  exact this
theorem zisIn_p {j n : Nat} (h : j < n) (hn : n < 2147483648) : f_X12_isIn (nI j) 0 (nI n - 1) = 1 := by
  obtain ⟨m, rfl⟩ : ∃ m, n = m + 1 := ⟨n - 1, by omega⟩
  rw [nI_pred]
  exact zisIn_1 (a := 0) (by omega) (by omega) (by omega)
theorem zlt0 {j : Nat} (h : j < 2147483648) : ¬ nI j < 0 := nI_pos h
/-- a scheme, if it is there -/
theorem zschAt {σ : zM} (h : iSch σ) (x : Int32) : (∃ s, x = nI s ∧ nI s < zI σ 12 0 1 ∧ s < 10 ∧ f_X11_schemeAt σ x = some (some s) ∧ f_X12_isScheme σ x = 1 ∧ iSch1 σ s) ∨ (f_X11_schemeAt σ x = some none ∧ f_X12_isScheme σ x = 0) := by
  obtain ⟨n, h1, h2, h3, h4, -⟩ := h
  rcases zcase x (n := n) (by omega) with ⟨s, hs, rfl⟩ | hx
  · refine Or.inl ⟨s, rfl, by rw [h3]; exact nI_lt hs (by omega), by omega, ?_, ?_, h4 s hs⟩
    · unfold f_X11_schemeAt
      rw [if_neg (zlt0 (by omega)), if_neg (by rw [h2, nI_leI (by omega) (by omega)]; omega), if_neg (by rw [zq10, nI_leI (by omega) (by omega)]; omega), zix_n (by omega) (by omega)]
      show znu (zO σ 11 0 7 s) (some none) (fun j6 => some (some j6)) = _
      rw [(h4 s hs).1]
      rfl
    · unfold f_X12_isScheme
      rw [h3]
      exact zisIn_p hs (by omega)
  · refine Or.inr ⟨?_, ?_⟩
    · unfold f_X11_schemeAt
      by_cases h0 : x < 0
      · rw [if_pos h0]
      · rw [if_neg h0, if_pos (by rw [h2]; exact hx.resolve_left h0)]
    · unfold f_X12_isScheme
      rw [h3]
      exact zisIn_0 (by omega) hx
theorem zisDay (x : Int32) : (∃ t, t ≤ 1000 ∧ x = nI t ∧ f_X11_isDay x = 1 ∧ f_X12_isDay x = 1) ∨ (f_X11_isDay x = 0 ∧ f_X12_isDay x = 0) := by
  rcases zcase x (n := 1001) (by omega) with ⟨t, ht, rfl⟩ | hx
  · refine Or.inl ⟨t, by omega, rfl, ?_, zisIn_1 (a := 0) (m := 1000) (by omega) (by omega) (by omega)⟩
    unfold f_X11_isDay
    rw [if_neg (zlt0 (by omega)), if_neg (by rw [zq1000, nI_ltI (by omega) (by omega)]; omega)]
  · refine Or.inr ⟨?_, zisIn_0' (m := 1000) (by omega) hx⟩
    unfold f_X11_isDay
    by_cases h0 : x < 0
    · rw [if_pos h0]
    · rw [if_neg h0, if_pos (by
        have h1 := hx.resolve_left h0
        rw [fa_le, nI_toInt (by omega)] at h1
        rw [zq1000, fa_lt, nI_toInt (by omega)]
        omega)]
theorem zisAut (x : Int32) : (∃ a, a < 40 ∧ x = nI a ∧ f_X11_isAuthor x = 1 ∧ f_X12_isIn x 0 39 = 1) ∨ (f_X11_isAuthor x = 0 ∧ f_X12_isIn x 0 39 = 0) := by
  rcases zcase x (n := 40) (by omega) with ⟨t, ht, rfl⟩ | hx
  · refine Or.inl ⟨t, by omega, rfl, ?_, zisIn_1 (a := 0) (m := 39) (by omega) (by omega) (by omega)⟩
    unfold f_X11_isAuthor
    rw [if_neg (zlt0 (by omega)), if_neg (by rw [zq40, nI_leI (by omega) (by omega)]; omega)]
  · refine Or.inr ⟨?_, zisIn_0' (m := 39) (by omega) hx⟩
    unfold f_X11_isAuthor
    by_cases h0 : x < 0
    · rw [if_pos h0]
    · rw [if_neg h0, if_pos (show (40 : Int32) ≤ x from hx.resolve_left h0)]
theorem zisJur {σ : zM} (h : iPan σ) (x : Int32) : (∃ j, j < 7 ∧ x = nI j ∧ nI j < zI σ 12 0 48 ∧ f_X2_has σ x = 1 ∧ f_X12_isJuror σ x = 1) ∨ (f_X2_has σ x = 0 ∧ f_X12_isJuror σ x = 0) := by
  obtain ⟨⟨n, h1, h2, h3⟩, -⟩ := h
  rcases zcase x (n := n) (by omega) with ⟨s, hs, rfl⟩ | hx
  · refine Or.inl ⟨s, by omega, rfl, by rw [h3]; exact nI_lt hs (by omega), ?_, ?_⟩
    · unfold f_X2_has
      rw [if_neg (zlt0 (by omega)), if_neg (by rw [h2, nI_leI (by omega) (by omega)]; omega)]
    · unfold f_X12_isJuror
      rw [h3]
      exact zisIn_p hs (by omega)
  · refine Or.inr ⟨?_, ?_⟩
    · unfold f_X2_has
      by_cases h0 : x < 0
      · rw [if_pos h0]
      · rw [if_neg h0, if_pos (by rw [h2]; exact hx.resolve_left h0)]
    · unfold f_X12_isJuror
      rw [h3]
      exact zisIn_0 (by omega) hx
theorem ob_day (x1 : Int32) : zOb zInv (fun σ => some (f_X11_day σ x1)) (fun σ => some (f_X12_day σ x1)) := by
  intro n σ hn hI
  have hI0 := hI
  obtain ⟨hDay, hFlt, hTap, hNam, hSun, hSch, hPai, hQue, hPan, hWds, hBri, hMen, hRnd⟩ := hI
  by_cases hc : x1 ≤ zI σ 12 0 0
  · refine ⟨0, σ, σ, ?_, ?_, zMono n σ hI0, rfl, rfl⟩
    · show some (f_X11_day σ x1) = _
      unfold f_X11_day
      rw [hDay.1, if_pos hc]
    · show some (f_X12_day σ x1) = _
      unfold f_X12_day
      rw [if_pos hc]
  · by_cases h2 : x1 ≤ 1000
    · have hEx : zEx [(11, 10), (8, 4), (12, 0), (12, 2)] σ (zsI (zsI (zsI (zsI σ 11 0 10 x1) 8 0 4 (-1)) 12 0 0 x1) 12 0 2 (zI σ 12 0 2 + 1)) := (zEx_sI (by decide)).tr ((zEx_sI (by decide)).tr ((zEx_sI (by decide)).tr (zEx_sI (by decide))))
      refine ⟨1, zsI (zsI σ 11 0 10 x1) 8 0 4 (-1), zsI (zsI (zsI (zsI σ 11 0 10 x1) 8 0 4 (-1)) 12 0 0 x1) 12 0 2 (zI σ 12 0 2 + 1), ?_, ?_, ⟨?_, iFlt_fr hEx (by decide) hFlt, iTap_fr hEx (by decide) hTap, iNam_fr hEx (by decide) hNam, iSun_fr hEx (by decide) hSun, iSch_fr hEx (by decide) hSch, iPai_fr hEx (by decide) hPai, iQue_fr hEx (by decide) hQue, iPan_fr hEx (by decide) hPan, iWds_fr hEx (by decide) hWds, iBri_fr hEx (by decide) hBri, ?_, iRnd_fr hEx (by decide) hRnd⟩, rfl, rfl⟩
      · show some (f_X11_day σ x1) = _
        unfold f_X11_day
        rw [hDay.1, if_neg hc, if_pos h2]
        rfl
      · show some (f_X12_day _ x1) = _
        unfold f_X12_day
        rw [if_neg (show ¬ x1 ≤ zI (zsI (zsI σ 11 0 10 x1) 8 0 4 (-1)) 12 0 0 from hc), if_pos h2]
        rfl
      · refine ⟨rfl, ?_⟩
        obtain ⟨t, ht, e⟩ := hDay.2
        have h0 : ¬ x1 < 0 := fun h => hc (by rw [e]; rw [fa_lt] at h; rw [fa_le, nI_toInt (by omega)]; have e0 : (0 : Int32).toInt = 0 := rfl; omega)
        obtain ⟨j, hj, rfl⟩ := nI_of h0
        rw [zq1000, nI_leI hj (by omega)] at h2
        exact ⟨j, h2, rfl⟩
      · exact iMen_up hn hMen rfl rfl rfl
    · refine ⟨0, σ, σ, ?_, ?_, zMono n σ hI0, rfl, rfl⟩
      · show some (f_X11_day σ x1) = _
        unfold f_X11_day
        rw [hDay.1, if_neg hc, if_neg h2]
      · show some (f_X12_day σ x1) = _
        unfold f_X12_day
        rw [if_neg hc, if_neg h2]
theorem ob_fault : zOb zInv (fun σ => some (f_X11_fault σ, σ)) (fun σ => some (f_X12_fault σ, σ)) := by
  intro n σ hn hI
  exact ⟨f_X11_fault σ, σ, σ, rfl, by show some (f_X12_fault σ, σ) = _; unfold f_X12_fault f_X11_fault; rw [hI.2.1], zMono n σ hI, rfl, rfl⟩
