/-! handing in, what lies in a cell -/
def zHaM (σ : zM) (s : Nat) : zM := zsI (zsI σ 7 s 1 (zI σ 11 0 10)) 8 0 4 (-1)
def zHaR (σ : zM) (s : Nat) : zM := zsI (zsA (zHaM σ s) 12 0 5 s (zI σ 12 0 0)) 12 0 2 (zI σ 12 0 2 + 1)
theorem zHaI (σ : zM) (s i k : Nat) : zI (zHaR σ s) 7 i k = if i = s ∧ k = 1 then zI σ 11 0 10 else zI σ 7 i k := by
  simp [zHaR, zHaM, zI_sI, zI_sA]
theorem zDy_m1 {x : Int32} (h : zDy x) : x ≠ -1 := by
  obtain ⟨t, h1, rfl⟩ := h
  exact znI_m1 (by omega)
theorem ob_hand (x1 : Int32) : zOb zInv (fun σ => f_X11_hand σ x1) (fun σ => f_X12_hand σ x1) := by
  intro n σ hn hI
  have hI0 := hI
  obtain ⟨hDay, hFlt, hTap, hNam, hSun, hSch, hPai, hQue, hPan, hWds, hBri, hMen, hRnd⟩ := hI
  rcases zschAt hSch x1 with ⟨s, rfl, hs, hs2, e1, e2, hsc⟩ | ⟨e1, e2⟩
  · by_cases hc : zA σ 12 0 5 s = -1
    · have hEx : zEx [(7, 1), (8, 4), (12, 5), (12, 2)] σ (zHaR σ s) := (zEx_sI (by decide)).tr ((zEx_sI (by decide)).tr ((zEx_sA (by decide)).tr (zEx_sI (by decide))))
      refine ⟨1, zHaM σ s, zHaR σ s, ?_, ?_, ⟨iDay_fr hEx (by decide) hDay, iFlt_fr hEx (by decide) hFlt, iTap_fr hEx (by decide) hTap, iNam_fr hEx (by decide) hNam, iSun_fr hEx (by decide) hSun, ?_, iPai_fr hEx (by decide) hPai, iQue_fr hEx (by decide) hQue, iPan_fr hEx (by decide) hPan, iWds_fr hEx (by decide) hWds, iBri_fr hEx (by decide) hBri, iMen_up hn hMen rfl rfl rfl, iRnd_fr hEx (by decide) hRnd⟩, rfl, rfl⟩
      · show f_X11_hand σ (nI s) = _
        unfold f_X11_hand f_X7_isHandedIn
        rw [e1]
        simp only [Option.bind_some, znu]
        rw [hsc.2.2.1, if_pos hc, if_pos rfl]
        rfl
      · show f_X12_hand (zHaM σ s) (nI s) = _
        unfold f_X12_hand
        rw [show f_X12_isScheme (zHaM σ s) (nI s) = 1 from e2, if_neg z10, zix_n hs2 (by omega)]
        simp only [Option.bind_some]
        rw [show zA (zHaM σ s) 12 0 5 s = -1 from hc, if_pos rfl]
        rfl
      · obtain ⟨k, k1, k2, k3, k4, k5⟩ := hSch
        refine ⟨k, k1, k2, k3, fun s' hs' => ?_, k5⟩
        by_cases h : s' = s
        · subst h
          obtain ⟨g1, g2, g3, g4, g5⟩ := k4 s' hs'
          have z0 : zI (zHaR σ s') 7 s' 0 = zI σ 7 s' 0 := by rw [zHaI, if_neg (fun e => absurd e.2 (by decide))]
          have z5 : zI (zHaR σ s') 7 s' 5 = zI σ 7 s' 5 := by rw [zHaI, if_neg (fun e => absurd e.2 (by decide))]
          obtain ⟨a, a1, a2, a3⟩ := g2
          refine ⟨g1, ⟨a, a1, z0.trans a2, a3⟩, ?_, Or.inr ?_, g5.1, g5.2.1, g5.2.2.1, g5.2.2.2.1, z5.trans g5.2.2.2.2⟩
          · show zI (zHaR σ s') 7 s' 1 = zu _ _ _ _
            rw [zu_eq, ← hDay.1, zHaI, if_pos ⟨rfl, rfl⟩]
          · show zDy (zu _ _ _ _)
            rw [zu_eq]
            exact hDay.2
        · have z0 : ∀ k, zI (zHaR σ s) 7 s' k = zI σ 7 s' k := fun k => by rw [zHaI, if_neg (fun e => h e.1)]
          exact iSch1_c (σ := σ) (σ' := zHaR σ s) (s := s') rfl (z0 0) rfl (z0 1) (show zu _ _ _ _ = _ from zu_ne _ _ h) (fun _ _ => rfl) rfl rfl rfl (z0 5) (k4 s' hs')
    · refine ⟨0, σ, σ, ?_, ?_, zMono n σ hI0, rfl, rfl⟩
      · show f_X11_hand σ (nI s) = _
        unfold f_X11_hand f_X7_isHandedIn
        rw [e1]
        simp only [Option.bind_some, znu]
        rw [hsc.2.2.1, if_neg hc, if_neg z10]
      · show f_X12_hand σ (nI s) = _
        unfold f_X12_hand
        rw [e2, if_neg z10, zix_n hs2 (by omega)]
        simp only [Option.bind_some]
        rw [if_neg hc]
  · refine ⟨0, σ, σ, ?_, ?_, zMono n σ hI0, rfl, rfl⟩
    · show f_X11_hand σ x1 = _
      unfold f_X11_hand
      rw [e1]; rfl
    · show f_X12_hand σ x1 = _
      unfold f_X12_hand
      rw [e2, if_pos rfl]
/-- a cell is there -/
theorem zisCel (x2 x3 x4 : Int32) : (∃ t x y, t < 2 ∧ x < 10 ∧ y < 8 ∧ x2 = nI t ∧ x3 = nI x ∧ x4 = nI y ∧ f_X7_isCell x2 x3 x4 = 1 ∧ f_X12_isSpot x2 x3 x4 = 1) ∨ (f_X7_isCell x2 x3 x4 = 0 ∧ f_X12_isSpot x2 x3 x4 = 0) := by
  unfold f_X7_isCell f_X12_isSpot
  rcases zcase x2 (n := 2) (by omega) with ⟨t, ht, rfl⟩ | h2
  · rw [if_neg (zlt0 (by omega)), if_neg (by rw [zq2, nI_leI (by omega) (by omega)]; omega), show f_X12_isIn (nI t) 0 1 = 1 from zisIn_1 (a := 0) (m := 1) (by omega) (by omega) (by omega), if_neg z10]
    rcases zcase x3 (n := 10) (by omega) with ⟨x, hx, rfl⟩ | h3
    · rw [if_neg (zlt0 (by omega)), if_neg (by rw [zq10, nI_leI (by omega) (by omega)]; omega), show f_X12_isIn (nI x) 0 9 = 1 from zisIn_1 (a := 0) (m := 9) (by omega) (by omega) (by omega), if_neg z10]
      rcases zcase x4 (n := 8) (by omega) with ⟨y, hy, rfl⟩ | h4
      · rw [if_neg (zlt0 (by omega)), if_neg (by rw [zq8, nI_leI (by omega) (by omega)]; omega), show f_X12_isIn (nI y) 0 7 = 1 from zisIn_1 (a := 0) (m := 7) (by omega) (by omega) (by omega), if_neg z10]
        exact Or.inl ⟨t, x, y, ht, hx, hy, rfl, rfl, rfl, rfl, rfl⟩
      · rw [show f_X12_isIn x4 0 7 = 0 from zisIn_0' (m := 7) (by omega) h4, if_pos rfl]
        refine Or.inr ⟨?_, rfl⟩
        by_cases h0 : x4 < 0
        · rw [if_pos h0]
        · rw [if_neg h0, if_pos (show (8 : Int32) ≤ x4 from h4.resolve_left h0)]
    · rw [show f_X12_isIn x3 0 9 = 0 from zisIn_0' (m := 9) (by omega) h3, if_pos rfl]
      refine Or.inr ⟨?_, rfl⟩
      by_cases h0 : x3 < 0
      · rw [if_pos h0]
      · rw [if_neg h0, if_pos (show (10 : Int32) ≤ x3 from h3.resolve_left h0)]
  · rw [show f_X12_isIn x2 0 1 = 0 from zisIn_0' (m := 1) (by omega) h2, if_pos rfl]
    refine Or.inr ⟨?_, rfl⟩
    by_cases h0 : x2 < 0
    · rw [if_pos h0]
    · rw [if_neg h0, if_pos (show (2 : Int32) ≤ x2 from h2.resolve_left h0)]
theorem zplc {t x y : Nat} : f_X7_placeOf (nI t) (nI x) (nI y) = nI (120 * t + 12 * (y + 1) + x + 1) := by
  unfold f_X7_placeOf
  rw [zq120, zq12, zq1]
  simp only [nI_add, zmulI]
  congr 1
  omega
theorem zspt {t x y : Nat} : f_X12_spot (nI t) (nI x) (nI y) = nI (80 * t + 10 * y + x) := by
  unfold f_X12_spot
  rw [zq80, zq10]
  simp only [nI_add, zmulI]
theorem zplk {t x y : Nat} (ht : t < 2) (hx : x < 10) (hy : y < 8) : zpl (80 * t + 10 * y + x) = 120 * t + 12 * (y + 1) + x + 1 := by
  unfold zpl
  omega
theorem zpl_in : ∀ k, k < 160 → zinB (zpl k) = true ∧ zce (zpl k) = k ∧ zpl k < 240 := by decide +kernel
theorem zBd_pl {C : Nat → Nat} {k : Nat} (hk : k < 160) : zBd C (zpl k) = C k := by
  unfold zBd
  rw [if_pos (zpl_in k hk).1, (zpl_in k hk).2.1]
theorem ob_cell (x1 x2 x3 x4 : Int32) : zOb zInv (fun σ => (f_X11_cell σ x1 x2 x3 x4).map (fun r => (r, σ))) (fun σ => (f_X12_cell σ x1 x2 x3 x4).map (fun r => (r, σ))) := by
  refine zRO (g1 := fun σ => f_X11_cell σ x1 x2 x3 x4) (g2 := fun σ => f_X12_cell σ x1 x2 x3 x4) (fun n σ hn hI => ?_)
  obtain ⟨hDay, hFlt, hTap, hNam, hSun, hSch, hPai, hQue, hPan, hWds, hBri, hMen, hRnd⟩ := hI
  unfold f_X11_cell f_X12_cell
  rcases zschAt hSch x1 with ⟨s, rfl, hs, hs2, e1, e2, hsc⟩ | ⟨e1, e2⟩
  · rw [e1, e2, if_neg z10]
    simp only [Option.bind_some, znu]
    rcases zisCel x2 x3 x4 with ⟨t, x, y, ht, hx, hy, rfl, rfl, rfl, e3, e4⟩ | ⟨e3, e4⟩
    · have hk : 80 * t + 10 * y + x < 160 := by omega
      have hp := (zpl_in _ hk).2.2
      obtain ⟨k, hk0⟩ : ∃ k, k = 80 * t + 10 * y + x := ⟨_, rfl⟩
      have hpk : 120 * t + 12 * (y + 1) + x + 1 = zpl k := by rw [hk0, zplk ht hx hy]
      rw [e3, e4, if_neg z10, if_neg z10, zplc, zspt, hpk, ← hk0]
      rw [← hk0] at hk hp
      unfold f_X7_thingAt
      rw [if_neg (zlt0 (by omega)), if_neg (by rw [zq240, nI_leI (by omega) (by omega)]; omega), zix_n hp (by omega), zq160, zmulI, nI_add, zix_n (show 160 * s + k < 1600 by omega) (by omega)]
      refine ⟨nI (zCl σ s k), ?_, ?_⟩
      · simp only [Option.bind_some]
        rw [hsc.2.2.2.2.2.1 _ hp, zBd_pl hk]
      · simp only [Option.bind_some]
        rw [(hsc.2.2.2.2.1 k hk).2]
    · rw [e3, e4, if_pos rfl, if_pos rfl]
      exact ⟨_, rfl, rfl⟩
  · rw [e1, e2, if_pos rfl]
    simp only [Option.bind_some, znu]
    exact ⟨_, rfl, rfl⟩
