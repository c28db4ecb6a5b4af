/-! a brief: taken, or with a fault -/
/-- a brief that is taken -/
theorem zB_yes {n0 : Nat} {σ σd σc σf σr σf' : zM} {n N k0 o M q i pd t c m : Nat} {W W' : Nat → List Nat} (hn0 : n0 ≤ 4096) (hI : zInv n0 σ) (h16 : zI σ 12 0 16 = nI o) (ho : o ≤ 5) (h18 : zI σ 12 0 18 = nI M) (hM : M ≤ 891 * o) (hbs : ∀ j, j < o → zO σ 1 0 0 j = some j ∧ iBr1 σ M j) (hbn : ∀ j, o ≤ j → j < 6 → zO σ 1 0 0 j = none) (hbar : iBar σ) (d1 : zOth σ σd o) (d2 : zE0 [(1, 3)] σ σd) (c1 : zE0 [(4, 7), (4, 3), (4, 4), (4, 5), (4, 8), (4, 6)] σd σc) (c2 : zOt σd σc o) (r1 : zEx [(12, 39), (12, 20), (12, 19), (12, 21), (12, 23), (12, 25)] (zKe σf (k0 + pd) o) σr) (r2 : zA σr 12 0 25 = zu (zA σ 12 0 25) o 0) (r3 : zI σr 12 0 19 = 0) (hE : zE0 zFC σ (zKe σf (k0 + pd) o)) (hq : q ≤ 40) (hB : zBSt σc σr σf σf' (zTT σ) n N W k0 o M q i W' pd t c m) : ∃ σ2, f_X12_brief_B162 σf' (nI n) (nI M) (nI k0) 1 = some (nI o, σ2) ∧ zInv (n0 + 8) σ2 ∧ zSc σ2 = zSc σ ∧ zMd σ2 = o + 1 := by
  obtain ⟨⟨F1, F2, F3, F4, F5, F6, F7⟩, ⟨s1, s2, s3, s4, s5, s6, s7⟩, hX, h25, g16, h3, hm⟩ := hB
  obtain ⟨σC, hσC⟩ : ∃ x, x = zKe σf (k0 + pd) o := ⟨_, rfl⟩
  rw [← hσC] at r1 hE
  have kx := zKe_x (σf := σf) (k := k0 + pd) (o := o)
  have ko := zKe_o (σf := σf) (k := k0 + pd) (o := o)
  have k9 := zKe_9 (σf := σf) (k := k0 + pd) (o := o)
  rw [← hσC] at kx ko k9
  obtain ⟨σ2, hσ2⟩ : ∃ x, x = zsI (zsI (zsA (zsI σf' 12 0 24 (-1)) 12 0 26 o (zI σf' 12 0 0)) 12 0 16 (nI (o + 1))) 12 0 2 (zI σf' 12 0 2 + 1) := ⟨_, rfl⟩
  have hRf : zEx [(12, 24), (12, 26), (12, 16), (12, 2)] σf' σ2 := by
    rw [hσ2]
    exact (((zEx_sI (by decide)).tr (zEx_sA (by decide))).tr (zEx_sI (by decide))).tr (zEx_sI (by decide))
  have hCR : zEx zFR σC σ2 := (r1.mo (by decide)).tr ((F2.mo (by decide)).tr (hRf.mo (by decide)))
  have hEA : zE0 zFA σ σ2 := (hE.mo (by decide)).tr (zE0_x hCR (by decide))
  have ot : zOt σ σ2 o := (zOt_h d1).tr (c2.tr (F3.tr (ko.tr (zOt_x hCR (by decide)))))
  have hnS : znd σC = znd σ := znd_fr (zE0_of hE (by decide))
  have hnr : znd σr = znd σC := znd_fr (zFe_of r1 (by decide))
  have hn2 : znd σ2 = znd σf' := znd_fr (zFe_of hRf (by decide))
  have hbel : zBel (znd σ) (znd σ2) M := by
    rw [hn2, ← hnS, ← hnr]
    exact F6
  have e26f : zA σf' 12 0 26 = zA σ 12 0 26 := (F2.2.2.2.1 12 0 26 (by decide)).trans ((r1.2.2.2.1 12 0 26 (by decide)).trans ((hE (12, 26) (by decide) (by decide)).2.2.2.1 0))
  have e0f : zI σf' 12 0 0 = zI σ 12 0 0 := (F2.1 12 0 0 (by decide)).trans ((r1.1 12 0 0 (by decide)).trans ((hE (12, 0) (by decide) (by decide)).1 0))
  have e2f : zI σf' 12 0 2 = zI σ 12 0 2 := (F2.1 12 0 2 (by decide)).trans ((r1.1 12 0 2 (by decide)).trans ((hE (12, 2) (by decide) (by decide)).1 0))
  have e26 : zA σ2 12 0 26 = zu (zA σ 12 0 26) o (zI σ 12 0 0) := by
    rw [hσ2, zA_sI, zA_sI, zA_sA, if_pos ⟨rfl, rfl, rfl⟩, zA_sI, e26f, e0f]
  have e25 : zA σ2 12 0 25 = zA σf' 12 0 25 := hRf.2.2.2.1 12 0 25 (by decide)
  have hrows : ∀ k, k = 27 ∨ k = 28 ∨ k = 29 ∨ k = 30 → ∀ x, x < 40 * o → zA σ2 12 0 k x = zA σ 12 0 k x := fun k hk x hx => by
    rw [hRf.2.2.2.1 12 0 k (by rcases hk with rfl | rfl | rfl | rfl <;> decide), F4 k hk x hx, r1.2.2.2.1 12 0 k (by rcases hk with rfl | rfl | rfl | rfl <;> decide)]
    have := (hE (12, k) (show (12 : Nat) ≠ 0 by decide) (by rcases hk with rfl | rfl | rfl | rfl <;> decide)).2.2.2.1 0
    exact congrFun this x
  have c5 : ∀ k, (5, k) ∉ zFR := by simp [zFR]
  have hday : zI σC 0 o 9 = zI σ 12 0 0 := by
    rw [k9, F1.1 11 0 10 (by decide), (c1 (11, 10) (by decide) (by decide)).1 0, (d2 (11, 10) (by decide) (by decide)).1 0]
    exact hI.1.1
  have i7 : zI σ2 0 o 7 = nI q := (hCR.1 0 o 7 (by decide)).trans ((kx.1 0 o 7 (by decide)).trans s4)
  have i9 : zI σ2 0 o 9 = zI σ 12 0 0 := (hCR.1 0 o 9 (by decide)).trans hday
  have aA : ∀ k, zA σ2 0 o k = zA σf 0 o k := fun k => by
    by_cases e : k = 9
    · subst e
      rw [hCR.2.2.2.1 0 o 9 (by decide), hσC]
      unfold zKe
      rw [zA_sI, zA_sR, zA_sO, zA_sI, zA_sI, zA_sI, zA_sI, zA_sI, zA_sI]
    · rw [hCR.2.2.2.1 0 o k (by simp [zFR]), kx.2.2.2.1 0 o k (by simp; omega)]
  have hBr : zBrP σ2 m o q c := zBrP_fe (τ := zMix σf σf') (τ' := σ2) (hRf.2.2.2.1 12 0 27 (by decide)) (hRf.2.2.2.1 12 0 28 (by decide)) (hRf.2.2.2.1 12 0 29 (by decide)) (hRf.2.2.2.1 12 0 30 (by decide)) hn2 aA s7
  have hD := hI.1.2
  have hlen := (zTs_fix (T := zTT σ) (n := n) i).1
  have h900 := hX.1.1.1
  refine ⟨σ2, ?_, ?_⟩
  · have g16' : zI (zsI σf' 12 0 24 (-1)) 12 0 16 = nI o := g16
    have g16'' : zI (zsA (zsI σf' 12 0 24 (-1)) 12 0 26 o (zI (zsI σf' 12 0 24 (-1)) 12 0 0)) 12 0 16 = nI o := g16
    unfold f_X12_brief_B162
    rw [if_neg z10]
    unfold f_X12_brief_B176
    rw [zlt_e, if_neg z10, g16', zix_n (show o < 7 by omega) (by omega), Option.bind_some, zlt_e, g16'', nI_1, zlt_e, zlt_e, hσ2]
    have e1 : zI (zsI (zsI (zsA (zsI σf' 12 0 24 (-1)) 12 0 26 o (zI (zsI σf' 12 0 24 (-1)) 12 0 0)) 12 0 16 (nI (o + 1))) 12 0 2 (zI (zsI (zsA (zsI σf' 12 0 24 (-1)) 12 0 26 o (zI (zsI σf' 12 0 24 (-1)) 12 0 0)) 12 0 16 (nI (o + 1))) 12 0 2 + 1)) 12 0 16 - 1 = nI o := by
      rw [zI_sI, if_neg (by decide), zI_sI, if_pos ⟨rfl, rfl, rfl⟩, zq1, zsubI (by omega), Nat.add_sub_cancel]
    rw [e1]
    rfl
  · have f1 : zI σ2 1 0 2 = nI (o + 1) := (hCR.1 1 0 2 (by decide)).trans (by rw [hσC]; rfl)
    have f2 : zR σ2 1 0 3 = none := (hCR.2.2.1 1 0 3 (by decide)).trans (by rw [hσC]; rfl)
    have f3 : zO σ2 1 0 0 = zu (zO σ 1 0 0) o (some o) := by
      rw [hCR.2.2.2.2.2 1 0 0 (by decide), hσC]
      have e1 : zO σf 1 0 0 = zO σ 1 0 0 := (F1.2.2.2.2.2 1 0 0 (by decide)).trans (((c1 (1, 0) (by decide) (by decide)).2.2.2.2.2 0).trans ((d2 (1, 0) (by decide) (by decide)).2.2.2.2.2 0))
      unfold zKe
      rw [show zO (zsI (zsR (zsO (zsI (zsI (zsI (zsI (zsI (zsI σf 5 0 1 (nI (k0 + pd))) 5 0 2 0) 9 0 1 0) 11 0 11 (-1)) 8 0 4 (-1)) 0 o 9 (zI σf 11 0 10)) 1 0 0 o (some o)) 1 0 3 none) 1 0 2 (nI (o + 1))) 1 0 0 = zu (zO σf 1 0 0) o (some o) from rfl, e1]
    have f4 : zI σ2 12 0 16 = nI (o + 1) := by rw [hσ2]; rfl
    have f5 : zI σ2 12 0 18 = nI m := (hRf.1 12 0 18 (by decide)).trans s6
    have hMd : zMd σ2 = o + 1 := by
      rw [zMd_e f1 (by omega), f2, if_pos rfl]
    have hBri : iBri σ2 := by
      refine ⟨o + 1, m, by omega, f1, f4, Or.inl f2, f5, by omega, fun j hj => ?_, fun j h1 h2 => ?_, iBar_tr (by omega) ot hbar⟩
      · rw [f3]
        by_cases e : j = o
        · subst e
          refine ⟨zu_eq _ _ _, q, hq, i7, ?_, ?_, ?_, hBr.1, hBr.2.1, hBr.2.2.1, fun x hx => (hBr.2.2.2 x hx).1⟩
          · rw [e25]
            exact h25
          · rw [i9, e26, zu_eq]
          · rw [e26, zu_eq]
            exact hD
        · rw [zu_ne _ _ e]
          have hj' : j < o := by omega
          refine ⟨(hbs j hj').1, iBr1_tr hj' (by omega) ot hrows ?_ ?_ hbel (hbs j hj').2⟩
          · rw [e25, F5 j e, r2, zu_ne _ _ e]
          · rw [e26, zu_ne _ _ e]
      · rw [f3, zu_ne _ _ (by omega)]
        exact hbn j (by omega) h2
    have hNam : iNam σ2 := by
      have hk := s1.2.1
      have hs := hX.2.1
      have p1 : zI σ2 5 0 1 = nI (k0 + pd) := (hCR.1 5 0 1 (by decide)).trans (by rw [hσC]; rfl)
      have p2 : zI σ2 5 0 2 = 0 := (hCR.1 5 0 2 (by decide)).trans (by rw [hσC]; rfl)
      refine ⟨k0 + pd, hs.1, p1, p2, (hRf.1 12 0 17 (by decide)).trans hs.2.1, fun j hj => ?_⟩
      rw [hCR.2.2.2.2.1 5 0 0 (by decide), kx.2.2.2.2.1 5 0 0 (by decide), hRf.2.2.2.2.1 12 0 37 (by decide), (hk.2.2.2 j hj).2, (hs.2.2 j hj).2]
      exact zWd_of (hk.2.2.2 j hj).1
    have hFlt : iFlt σ2 := by
      have p1 : zI σ2 11 0 11 = -1 := (hCR.1 11 0 11 (by decide)).trans (by rw [hσC]; rfl)
      have p2 : zI σ2 12 0 24 = -1 := by rw [hσ2]; rfl
      unfold iFlt
      rw [p1, p2]
    have h19 : zI σ2 12 0 19 = 0 := (hRf.1 12 0 19 (by decide)).trans ((F2.1 12 0 19 (by decide)).trans r3)
    have h9 : zI σ2 9 0 1 = 0 := (hCR.1 9 0 1 (by decide)).trans (by rw [hσC]; rfl)
    have hMen : iMen (n0 + 8) σ2 := by
      refine iMen_up hn0 hI.2.2.2.2.2.2.2.2.2.2.2.1 ((hCR.1 8 0 4 (by decide)).trans (by rw [hσC]; rfl)) ?_ ((hEA (12, 10) (by decide) (by decide)).2.2.2.1 0)
      rw [hσ2, zI_sI, if_pos ⟨rfl, rfl, rfl⟩, e2f]
    have := zB_inv hI hEA h19 h9 hFlt hNam hBri hMen
    exact ⟨this.1, this.2, hMd⟩
def zKf (σf : zM) (v : Int32) : zM := zsI (zsI (zsI σf 5 0 2 0) 9 0 1 0) 11 0 11 v
theorem zKf_x {σf : zM} {v : Int32} : zEx [(5, 2), (9, 1), (11, 11)] σf (zKf σf v) := by
  unfold zKf
  exact ((zEx_sI (by decide)).tr (zEx_sI (by decide))).tr (zEx_sI (by decide))
/-- a brief with a fault -/
theorem zB_no {n0 : Nat} {σ σd σc σf σr σf' : zM} {n N k0 o M i pd t : Nat} {W W' : Nat → List Nat} (hn0 : n0 ≤ 4096) (hI : zInv n0 σ) (h16 : zI σ 12 0 16 = nI o) (ho : o ≤ 5) (h2 : zI σ 1 0 2 = nI o) (h51 : zI σ 5 0 1 = nI k0) (h18 : zI σ 12 0 18 = nI M) (hM : M ≤ 891 * o) (hbs : ∀ j, j < o → zO σ 1 0 0 j = some j ∧ iBr1 σ M j) (hbn : ∀ j, o ≤ j → j < 6 → zO σ 1 0 0 j = none) (hbar : iBar σ) (d1 : zOth σ σd o) (d2 : zE0 [(1, 3)] σ σd) (d3 : zR σd 1 0 3 = some o) (c1 : zE0 [(4, 7), (4, 3), (4, 4), (4, 5), (4, 8), (4, 6)] σd σc) (c2 : zOt σd σc o) (r1 : zEx [(12, 39), (12, 20), (12, 19), (12, 21), (12, 23), (12, 25)] (zKf σf (nI (zTs (zTT σ) n i))) σr) (r2 : zA σr 12 0 25 = zu (zA σ 12 0 25) o 0) (r3 : zI σr 12 0 19 = 0) (hE : zE0 zFC σ (zKf σf (nI (zTs (zTT σ) n i)))) (hF : zBF σc σr σf σf' W W' k0 o M) (s1 : zPC σf (zTT σ) n N i W' k0 pd t) (hX : zPX σf' (zTT σ) n i W' (k0 + pd) t) : ∃ σ2, f_X12_brief_B162 σf' (nI n) (nI M) (nI k0) 0 = some (-1, σ2) ∧ zInv (n0 + 8) σ2 ∧ zSc σ2 = zSc σ ∧ zMd σ2 = o + 1 := by
  obtain ⟨F1, F2, F3, F4, F5, F6, F7⟩ := hF
  obtain ⟨v, hv⟩ : ∃ v, v = nI (zTs (zTT σ) n i) := ⟨_, rfl⟩
  rw [← hv] at r1 hE
  obtain ⟨σC, hσC⟩ : ∃ x, x = zKf σf v := ⟨_, rfl⟩
  rw [← hσC] at r1 hE
  have kx := zKf_x (σf := σf) (v := v)
  rw [← hσC] at kx
  obtain ⟨σ2, hσ2⟩ : ∃ x, x = zsI (zsI (zsI σf' 12 0 24 v) 12 0 18 (nI M)) 12 0 17 (nI k0) := ⟨_, rfl⟩
  have hRf : zEx [(12, 24), (12, 18), (12, 17)] σf' σ2 := by
    rw [hσ2]
    exact ((zEx_sI (by decide)).tr (zEx_sI (by decide))).tr (zEx_sI (by decide))
  have hCR : zEx zFR σC σ2 := (r1.mo (by decide)).tr ((F2.mo (by decide)).tr (hRf.mo (by decide)))
  have hR2 : zEx [(12, 39), (12, 20), (12, 19), (12, 21), (12, 23), (12, 25), (12, 17), (12, 37), (12, 27), (12, 28), (12, 29), (12, 30), (12, 22), (12, 40), (12, 41), (12, 18), (12, 31), (12, 32), (12, 33), (12, 34), (12, 35), (12, 36), (12, 24)] σC σ2 := (r1.mo (by decide)).tr ((F2.mo (by decide)).tr (hRf.mo (by decide)))
  have hEA : zE0 zFA σ σ2 := (hE.mo (by decide)).tr (zE0_x hCR (by decide))
  have hEf : zE0 [(1, 3), (4, 7), (4, 3), (4, 4), (4, 5), (4, 8), (4, 6), (4, 9), (5, 0), (5, 2), (9, 1), (11, 11), (12, 39), (12, 20), (12, 19), (12, 21), (12, 23), (12, 25), (12, 17), (12, 37), (12, 27), (12, 28), (12, 29), (12, 30), (12, 22), (12, 40), (12, 41), (12, 18), (12, 31), (12, 32), (12, 33), (12, 34), (12, 35), (12, 36), (12, 24)] σ σ2 := (d2.mo (by decide)).tr ((c1.mo (by decide)).tr ((zE0_x F1 (by decide)).tr ((zE0_x kx (by decide)).tr (zE0_x hR2 (by decide)))))
  have ot : zOt σ σ2 o := (zOt_h d1).tr (c2.tr (F3.tr ((zOt_x kx (by decide)).tr (zOt_x hCR (by decide)))))
  have hnS : znd σC = znd σ := znd_fr (zE0_of hE (by decide))
  have hnr : znd σr = znd σC := znd_fr (zFe_of r1 (by decide))
  have hn2 : znd σ2 = znd σf' := znd_fr (zFe_of hRf (by decide))
  have hbel : zBel (znd σ) (znd σ2) M := by
    rw [hn2, ← hnS, ← hnr]
    exact F6
  have hrows : ∀ k, k = 27 ∨ k = 28 ∨ k = 29 ∨ k = 30 → ∀ x, x < 40 * o → zA σ2 12 0 k x = zA σ 12 0 k x := fun k hk x hx => by
    rw [hRf.2.2.2.1 12 0 k (by rcases hk with rfl | rfl | rfl | rfl <;> decide), F4 k hk x hx, r1.2.2.2.1 12 0 k (by rcases hk with rfl | rfl | rfl | rfl <;> decide)]
    have := (hE (12, k) (show (12 : Nat) ≠ 0 by decide) (by rcases hk with rfl | rfl | rfl | rfl <;> decide)).2.2.2.1 0
    exact congrFun this x
  refine ⟨σ2, ?_, ?_⟩
  · unfold f_X12_brief_B162
    rw [if_pos rfl, hX.1.2, ← hv]
    unfold f_X12_brief_B176
    rw [zlt_e, if_pos rfl, zlt_e, zlt_e, hσ2]
  · have f1 : zI σ2 1 0 2 = nI o := ((hEf (1, 2) (by decide) (by decide)).1 0).trans h2
    have f2 : zR σ2 1 0 3 = some o := (hCR.2.2.1 1 0 3 (by decide)).trans ((kx.2.2.1 1 0 3 (by decide)).trans ((F1.2.2.1 1 0 3 (by decide)).trans (((c1 (1, 3) (by decide) (by decide)).2.2.1 0).trans d3)))
    have f3 : zO σ2 1 0 0 = zO σ 1 0 0 := (hEf (1, 0) (by decide) (by decide)).2.2.2.2.2 0
    have f4 : zI σ2 12 0 16 = nI o := ((hEf (12, 16) (by decide) (by decide)).1 0).trans h16
    have f5 : zI σ2 12 0 18 = nI M := by rw [hσ2]; rfl
    have e26 : zA σ2 12 0 26 = zA σ 12 0 26 := (hEf (12, 26) (by decide) (by decide)).2.2.2.1 0
    have e25 : zA σ2 12 0 25 = zA σf' 12 0 25 := hRf.2.2.2.1 12 0 25 (by decide)
    have hMd : zMd σ2 = o + 1 := by
      rw [zMd_e f1 (by omega), f2, if_neg (by simp)]
    have hBri : iBri σ2 := by
      refine ⟨o, M, by omega, f1, f4, Or.inr f2, f5, hM, fun j hj => ?_, fun j h1 h2 => ?_, iBar_tr (by omega) ot hbar⟩
      · rw [f3]
        have e : j ≠ o := by omega
        refine ⟨(hbs j hj).1, iBr1_tr hj (Nat.le_refl _) ot hrows ?_ ?_ hbel (hbs j hj).2⟩
        · rw [e25, F5 j e, r2, zu_ne _ _ e]
        · rw [e26]
      · rw [f3]
        exact hbn j h1 h2
    have hNam : iNam σ2 := by
      have hk := s1.2.1
      have hs := hX.2.1
      have p1 : zI σ2 5 0 1 = nI k0 := ((hEf (5, 1) (by decide) (by decide)).1 0).trans h51
      have p2 : zI σ2 5 0 2 = 0 := (hCR.1 5 0 2 (by decide)).trans (by rw [hσC]; rfl)
      have hk12 := hk.1
      refine ⟨k0, by omega, p1, p2, by rw [hσ2]; rfl, fun j hj => ?_⟩
      rw [hCR.2.2.2.2.1 5 0 0 (by decide), kx.2.2.2.2.1 5 0 0 (by decide), hRf.2.2.2.2.1 12 0 37 (by decide), (hk.2.2.2 j (by omega)).2, (hs.2.2 j (by omega)).2]
      exact zWd_of (hk.2.2.2 j (by omega)).1
    have hFlt : iFlt σ2 := by
      have p1 : zI σ2 11 0 11 = v := (hCR.1 11 0 11 (by decide)).trans (by rw [hσC]; rfl)
      have p2 : zI σ2 12 0 24 = v := by rw [hσ2]; rfl
      unfold iFlt
      rw [p1, p2]
    have h19 : zI σ2 12 0 19 = 0 := (hRf.1 12 0 19 (by decide)).trans ((F2.1 12 0 19 (by decide)).trans r3)
    have h9 : zI σ2 9 0 1 = 0 := (hCR.1 9 0 1 (by decide)).trans (by rw [hσC]; rfl)
    have hMen : iMen (n0 + 8) σ2 := iMen_mo (iMen_oth (zE0_of hEf (by decide)) h16 ho ot hI.2.2.2.2.2.2.2.2.2.2.2.1)
    have := zB_inv hI hEA h19 h9 hFlt hNam hBri hMen
    exact ⟨this.1, this.2, hMd⟩
