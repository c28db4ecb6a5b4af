/-! open -/
theorem iRo1_o {σ σ' : zM} {X : Int32} {r m m' : Nat} (h : iRo1 σ X r m) (hm : m' < 1024) (e0 : ∀ s, s < 10 → zA σ' 6 r 0 s = if m'.testBit s then 1 else 0) (e6 : zI σ' 6 r 6 = nI (zpc m')) (e1 : zA σ' 6 r 1 = zA σ 6 r 1) (e2 : zA σ' 6 r 2 = zA σ 6 r 2) (e57 : zA σ' 12 0 57 = zA σ 12 0 57) (e56 : zA σ' 12 0 56 = zA σ 12 0 56) (e48 : zI σ' 12 0 48 = zI σ 12 0 48) : iRo1 σ' X r m' := by
  unfold iRo1 at h ⊢
  rw [e1, e2, e57, e56, e48]
  exact ⟨hm, e0, e6, h.2.2.2⟩
theorem zpc_ne {m : Nat} (hm : m < 1024) (h : m ≠ 0) : zpc m ≠ 0 := by
  intro e
  apply h
  apply Nat.eq_of_testBit_eq
  intro d
  rw [Nat.zero_testBit]
  by_cases hd : d < 10
  · exact fb_ct_zero.mp e d hd
  · exact ztb_hi (a := 10) (by omega) (by omega)
theorem zpc_0 : zpc 0 = 0 := fb_ct_zero.mpr (fun s _ => Nat.zero_testBit s)
theorem ob_open : zOb zInv (fun σ => f_X11_open σ) (fun σ => f_X12_open σ) := by
  intro n σ hn hI
  have hI0 := hI
  obtain ⟨hDay, hFlt, hTap, hNam, hSun, hSch, hPai, hQue, hPan, hWds, hBri, hMen, hRnd⟩ := hI
  have hRnd0 := hRnd
  have hSch0 := hSch
  obtain ⟨k, k1, k2, k3, k4, -⟩ := hSch0
  unfold iRnd at hRnd0
  rw [k3] at hRnd0
  obtain ⟨cl, op, m0, m1, m2, f, st, c1, c2, c3, e50, e54, e49, e15, e14, o0, o1, b0, b1, e58, z0, n0, e65, z1, n1, e581, z2, z3, hc, d⟩ := hRnd0
  have hno : f_X11_open σ = some (-1, σ) → f_X12_open σ = some (-1, σ) → ∃ r σ1 σ2, f_X11_open σ = some (r, σ1) ∧ f_X12_open σ1 = some (r, σ2) ∧ zInv (n + 8) σ2 ∧ zSc σ2 = zSc σ ∧ zMd σ2 = zMd σ := fun h1 h2 => ⟨-1, σ, σ, h1, h2, zMono n σ hI0, rfl, rfl⟩
  by_cases hop : op = 1
  · refine hno ?_ ?_
    · unfold f_X11_open
      rw [e14, if_pos hop, if_neg]
      rw [show (0 : Int32) = nI 0 from rfl, nI_eq (by omega) (by omega)]
      omega
    · unfold f_X12_open
      rw [e54, hop, if_neg (show ¬ nI 1 = 0 from z10)]
  · have hop0 : op = 0 := by omega
    subst hop0
    rw [if_neg hop] at e14
    by_cases h2 : cl = 2
    · refine hno ?_ ?_
      · unfold f_X11_open
        rw [e14, if_pos (show nI 0 = 0 from rfl), e15, h2, if_neg (by decide)]
      · unfold f_X12_open
        rw [e54, if_pos (show nI 0 = 0 from rfl), e49, h2, if_pos (by decide)]
    · by_cases h1 : cl = 1
      · subst h1
        have hm1 := n1 (by omega)
        have hp1 := zpc_le m1
        have hp : ¬ nI (zpc m1) = 0 := by
          rw [show (0 : Int32) = nI 0 from rfl, nI_eq (by omega) (by omega)]
          exact zpc_ne o1.1 hm1
        obtain ⟨σ1, hσ1⟩ : ∃ x, x = zsI σ 11 0 14 (nI 2) := ⟨_, rfl⟩
        have x1 : zEx [(11, 14)] σ σ1 := by rw [hσ1]; exact zEx_sI (by decide)
        have hcls : f_X11_open σ = some (nI (zpc m1), σ1) := by
          have e6 : zI σ1 6 1 6 = nI (zpc m1) := by rw [x1.1 6 1 6 (by decide)]; exact o1.2.2.1
          unfold f_X11_open f_X11_open_B28 f_X11_open_B46
          rw [e14, if_pos (show nI 0 = 0 from rfl), e15, if_pos (by decide), if_neg (show ¬ nI 1 = 0 from z10), if_neg (show ¬ nI 1 = 0 from z10), show zI σ 6 1 6 = nI (zpc m1) from o1.2.2.1, if_neg hp, zlt_e, nI_1, ← hσ1, e6]
        obtain ⟨σ2, hσ2⟩ : ∃ x, x = zsI (zsI (zsA σ1 12 0 58 1 (nI m1)) 12 0 49 (nI 2)) 12 0 54 1 := ⟨_, rfl⟩
        have x2 : zEx [(12, 58), (12, 49), (12, 54)] σ1 σ2 := by
          rw [hσ2]
          exact ((zEx_sA (by decide)).tr (zEx_sI (by decide))).tr (zEx_sI (by decide))
        have f49 : zI σ1 12 0 49 = nI 1 := by rw [x1.1 12 0 49 (by decide)]; exact e49
        have hrf : f_X12_open σ1 = some (nI (zpc m1), σ2) := by
          have hm0 : ¬ nI m1 = 0 := by
            rw [show (0 : Int32) = nI 0 from rfl, nI_eq (by have := o1.1; omega) (by omega)]
            exact hm1
          have hl : zwh (fun (q : (Int32 × Int32 × zM)) => f_X12_open_L36 q.1 q.2.1 q.2.2) zFu (nI m1, 0, σ1) = some (nI m1, σ1) := by
            refine zwh_now ?_
            show f_X12_open_L36 (nI m1) 0 σ1 = _
            unfold f_X12_open_L36
            by_cases h : zI σ1 12 0 1 ≤ 0
            · rw [if_pos h]
            · rw [if_neg h, f49, if_neg (show ¬ nI 1 = 0 from z10)]
          unfold f_X12_open f_X12_open_B33 f_X12_open_B82
          rw [x1.1 12 0 54 (by decide), e54, if_pos (show nI 0 = 0 from rfl), f49, if_neg (by decide), if_pos (show nI 1 = 1 from rfl), x1.1 12 0 65 (by decide), e65, hl, Option.bind_some, if_neg hm0, f49, zix_n (show 1 < 2 by omega) (by omega), Option.bind_some, zlt_e]
          rw [show zI (zsA σ1 12 0 58 1 (nI m1)) 12 0 49 = nI 1 from f49, nI_1, zlt_e, zlt_e, X12_bits o1.1, Option.bind_some, ← hσ2]
        have hEx : zEx [(11, 14), (12, 58), (12, 49), (12, 54)] σ σ2 := (x1.mo (by decide)).tr (x2.mo (by decide))
        obtain ⟨t1, t2⟩ := zsame2 hEx (by decide)
        refine ⟨nI (zpc m1), σ1, σ2, hcls, hrf, ⟨iDay_fr hEx (by decide) hDay, iFlt_fr hEx (by decide) hFlt, iTap_fr hEx (by decide) hTap, iNam_fr hEx (by decide) hNam, iSun_fr hEx (by decide) hSun, iSch_fr hEx (by decide) hSch, iPai_fr hEx (by decide) hPai, iQue_fr hEx (by decide) hQue, iPan_fr hEx (by decide) hPan, iWds_fr hEx (by decide) hWds, iBri_fr hEx (by decide) hBri, iMen_mo (iMen_fr hEx (by decide) hMen), ?_⟩, t1, t2⟩
        have q0 := hEx.1
        have q1 := hEx.2.2.2.1
        have ro : ∀ r m, iRo1 σ (nI k) r m → iRo1 σ2 (nI k) r m := fun r m h => iRo1_o h h.1 (by rw [q1 6 r 0 (by decide)]; exact h.2.1) (by rw [q0 6 r 6 (by decide)]; exact h.2.2.1) (q1 6 r 1 (by decide)) (q1 6 r 2 (by decide)) (q1 12 0 57 (by decide)) (q1 12 0 56 (by decide)) (q0 12 0 48 (by decide))
        unfold iRnd
        rw [q0 12 0 1 (by decide), k3]
        refine ⟨1, 1, m0, m1, m1, f, st, by omega, by omega, by omega, (q0 12 0 50 (by decide)).trans e50, by rw [hσ2]; rfl, by rw [hσ2]; rfl, (q0 11 0 15 (by decide)).trans e15, by rw [x2.1 11 0 14 (by decide), hσ1]; rfl, ro _ _ o0, ro _ _ o1, b0, b1, ?_, fun h => by omega, fun _ => n0 (by omega), (q0 12 0 65 (by decide)).trans e65, z1, n1, by rw [hσ2]; rfl, fun _ => rfl, fun h => by omega, fun r' hr' => ?_, ?_⟩
        · rw [hσ2]
          show zu (zA σ1 12 0 58) 1 (nI m1) 0 = _
          rw [zu_ne _ _ (by decide), x1.2.2.2.1 12 0 58 (by decide)]
          exact e58
        · have := hc r' hr'
          unfold iRoC at this ⊢
          rw [q1 6 r' 3 (by decide), q1 12 0 59 (by decide), q0 12 0 48 (by decide), q0 6 r' 7 (by decide), q1 12 0 60 (by decide), q0 6 r' 8 (by decide), q1 12 0 61 (by decide)]
          exact this
        · rw [q0 11 0 16 (by decide), q0 12 0 51 (by decide), q0 11 0 17 (by decide), q0 12 0 52 (by decide), q0 11 0 18 (by decide), q0 12 0 53 (by decide)]
          exact d
      · have hcl : cl = 0 := by omega
        subst hcl
        have hm0 := z0 rfl
        subst hm0
        obtain ⟨σ1, w1, w2, w3, w4, w5, w6⟩ := X11_admitAll hBri hSun hDay.1 k1 k2 k4 (fun s hs => by rw [o0.2.1 s hs, Nat.zero_testBit]; rfl) (o0.2.2.1.trans (congrArg nI zpc_0))
        obtain ⟨M, hM⟩ : ∃ x, x = zset (zgood σ) k := ⟨_, rfl⟩
        rw [← hM] at w3 w4
        have hMl : M < 1024 := by
          have h1 : M < 2 ^ k := by rw [hM]; exact zset_lt k
          have h2 : 2 ^ k ≤ 2 ^ 10 := Nat.pow_le_pow_right (by decide) k1
          have h3 : (2 : Nat) ^ 10 = 1024 := by decide
          omega
        have hMb : ∀ s, M.testBit s = true → nI s < nI k := fun s hs => by
          rw [hM, zset_b, Bool.and_eq_true, decide_eq_true_eq] at hs
          exact nI_lt hs.1 (by omega)
        have hpM := zpc_le M
        have f15 : zI σ1 11 0 15 = nI 0 := by rw [w2.1 11 0 15 (by decide)]; exact e15
        have hc0 : f_X11_open σ = f_X11_open_B46 σ1 0 := by
          unfold f_X11_open f_X11_open_B28
          rw [e14, if_pos (show nI 0 = 0 from rfl), e15, if_pos (by decide), if_pos (show nI 0 = 0 from rfl), w1, Option.bind_some, f15, if_pos (show nI 0 = 0 from rfl)]
        have fin : ∀ σ' op' σr, zEx [(8, 1), (8, 2), (6, 0), (6, 6), (11, 14)] σ σ' → zEx [(12, 7), (12, 8), (12, 9), (12, 58), (12, 49), (12, 54)] σ' σr → zA σ' 6 0 0 = zA σ1 6 0 0 → zI σ' 6 0 6 = zI σ1 6 0 6 → zA σ' 6 1 0 = zA σ1 6 1 0 → zI σ' 6 1 6 = zI σ1 6 1 6 → op' ≤ 1 → zI σr 12 0 54 = nI op' → zI σr 12 0 49 = nI (0 + op') → zI σ' 11 0 14 = nI (if op' = 1 then 0 + 1 else 0) → zA σr 12 0 58 0 = nI M → zA σr 12 0 58 1 = nI 0 → (0 + op' = 0 → M = 0) → (1 ≤ 0 + op' → M ≠ 0) → zInv (n + 8) σr := by
          intro σ' op' σr x1 x2 g0 g6 g10 g16 hop' r54 r49 r14 r58 r581 rz rn
          have hEx : zEx [(8, 1), (8, 2), (6, 0), (6, 6), (11, 14), (12, 7), (12, 8), (12, 9), (12, 58), (12, 49), (12, 54)] σ σr := (x1.mo (by decide)).tr (x2.mo (by decide))
          refine ⟨iDay_fr hEx (by decide) hDay, iFlt_fr hEx (by decide) hFlt, iTap_fr hEx (by decide) hTap, iNam_fr hEx (by decide) hNam, iSun_fr hEx (by decide) hSun, iSch_fr hEx (by decide) hSch, iPai_fr hEx (by decide) hPai, iQue_fr hEx (by decide) hQue, iPan_fr hEx (by decide) hPan, iWds_fr hEx (by decide) hWds, iBri_fr hEx (by decide) hBri, iMen_mo (iMen_fr hEx (by decide) hMen), ?_⟩
          have q0 := hEx.1
          have q1 := hEx.2.2.2.1
          have p0 := x2.1
          have p1 := x2.2.2.2.1
          have m1z := z1 rfl
          have m2z := z3 (by omega)
          unfold iRnd
          rw [q0 12 0 1 (by decide), k3]
          refine ⟨0, op', M, m1, m2, f, st, by omega, hop', by omega, (q0 12 0 50 (by decide)).trans e50, r54, r49, (q0 11 0 15 (by decide)).trans e15, (p0 11 0 14 (by decide)).trans r14, ?_, ?_, hMb, fun s hs => ?_, r58, rz, rn, (q0 12 0 65 (by decide)).trans e65, z1, n1, by rw [m2z]; exact r581, fun h => by omega, fun _ => m2z, fun r' hr' => by omega, ?_⟩
          · exact iRo1_o o0 hMl (by rw [p1 6 0 0 (by decide), g0]; exact w3) (by rw [p0 6 0 6 (by decide), g6]; exact w4) (q1 6 0 1 (by decide)) (q1 6 0 2 (by decide)) (q1 12 0 57 (by decide)) (q1 12 0 56 (by decide)) (q0 12 0 48 (by decide))
          · exact iRo1_o o1 o1.1 (by rw [p1 6 1 0 (by decide), g10, w5]; exact o1.2.1) (by rw [p0 6 1 6 (by decide), g16, w6]; exact o1.2.2.1) (q1 6 1 1 (by decide)) (q1 6 1 2 (by decide)) (q1 12 0 57 (by decide)) (q1 12 0 56 (by decide)) (q0 12 0 48 (by decide))
          · rw [m1z, Nat.zero_testBit] at hs
            cases hs
          · rw [q0 11 0 16 (by decide), q0 12 0 51 (by decide), q0 11 0 17 (by decide), q0 12 0 52 (by decide), q0 11 0 18 (by decide), q0 12 0 53 (by decide)]
            exact d
        have hrf0 : ∀ σ', zEx [(8, 1), (8, 2), (6, 0), (6, 6), (11, 14)] σ σ' → ∃ σr, zEx [(12, 7), (12, 8), (12, 9)] σ' σr ∧ f_X12_open σ' = f_X12_open_B82 σr (nI M) := fun σ' x1 => by
          have f49 : zI σ' 12 0 49 = 0 := by rw [x1.1 12 0 49 (by decide)]; exact e49
          obtain ⟨σr, v1, v2⟩ := X12_admitAll hBri hSun x1 k1 k3 e49 k4
          rw [← hM] at v1
          refine ⟨σr, v2, ?_⟩
          unfold f_X12_open f_X12_open_B33
          rw [x1.1 12 0 54 (by decide), e54, if_pos (show nI 0 = 0 from rfl), f49, if_neg (by decide), if_neg (by decide), v1, Option.bind_some]
        by_cases hMz : M = 0
        · obtain ⟨σr, v1, v2⟩ := hrf0 σ1 (w2.mo (by decide))
          have hEx : zEx [(8, 1), (8, 2), (6, 0), (6, 6), (11, 14), (12, 7), (12, 8), (12, 9)] σ σr := (w2.mo (by decide)).tr (v1.mo (by decide))
          obtain ⟨t1, t2⟩ := zsame2 hEx (by decide)
          refine ⟨-1, σ1, σr, ?_, ?_, fin σ1 0 σr (w2.mo (by decide)) (v1.mo (by decide)) rfl rfl rfl rfl (by omega) ((hEx.1 12 0 54 (by decide)).trans e54) ((hEx.1 12 0 49 (by decide)).trans e49) ((w2.1 11 0 14 (by decide)).trans e14) ?_ ?_ (fun _ => hMz) (fun h => by omega), t1, t2⟩
          · show f_X11_open σ = _
            rw [hc0]
            unfold f_X11_open_B46
            rw [w4, hMz, zpc_0, if_pos (show nI 0 = 0 from rfl)]
          · show f_X12_open σ1 = _
            rw [v2, hMz]
            unfold f_X12_open_B82
            rw [if_pos (show nI 0 = 0 from rfl)]
          · rw [hEx.2.2.2.1 12 0 58 (by decide), hMz]
            exact e58
          · rw [hEx.2.2.2.1 12 0 58 (by decide), e581, z3 (by omega)]
        · have hp : ¬ nI (zpc M) = 0 := by
            rw [show (0 : Int32) = nI 0 from rfl, nI_eq (by omega) (by omega)]
            exact zpc_ne hMl hMz
          obtain ⟨σ2, hσ2⟩ : ∃ x, x = zsI σ1 11 0 14 (nI 1) := ⟨_, rfl⟩
          have x2 : zEx [(11, 14)] σ1 σ2 := by rw [hσ2]; exact zEx_sI (by decide)
          have x02 : zEx [(8, 1), (8, 2), (6, 0), (6, 6), (11, 14)] σ σ2 := (w2.mo (by decide)).tr (x2.mo (by decide))
          obtain ⟨σr, v1, v2⟩ := hrf0 σ2 x02
          obtain ⟨σ3, hσ3⟩ : ∃ x, x = zsI (zsI (zsA σr 12 0 58 0 (nI M)) 12 0 49 (nI 1)) 12 0 54 1 := ⟨_, rfl⟩
          have x3 : zEx [(12, 7), (12, 8), (12, 9), (12, 58), (12, 49), (12, 54)] σ2 σ3 := by
            rw [hσ3]
            exact (v1.mo (by decide)).tr (((zEx_sA (by decide)).tr (zEx_sI (by decide))).tr (zEx_sI (by decide)))
          have hEx : zEx [(8, 1), (8, 2), (6, 0), (6, 6), (11, 14), (12, 7), (12, 8), (12, 9), (12, 58), (12, 49), (12, 54)] σ σ3 := (x02.mo (by decide)).tr (x3.mo (by decide))
          have f49 : zI σr 12 0 49 = nI 0 := by rw [v1.1 12 0 49 (by decide), x02.1 12 0 49 (by decide)]; exact e49
          obtain ⟨t1, t2⟩ := zsame2 hEx (by decide)
          refine ⟨nI (zpc M), σ2, σ3, ?_, ?_, fin σ2 1 σ3 x02 x3 (x2.2.2.2.1 6 0 0 (by decide)) (x2.1 6 0 6 (by decide)) (x2.2.2.2.1 6 1 0 (by decide)) (x2.1 6 1 6 (by decide)) (by omega) (by rw [hσ3]; rfl) (by rw [hσ3]; rfl) (by rw [hσ2]; rfl) (by rw [hσ3]; rfl) ?_ (fun h => by omega) (fun _ => hMz), t1, t2⟩
          · show f_X11_open σ = _
            rw [hc0]
            unfold f_X11_open_B46
            rw [w4, if_neg hp, f15, nI_1, zlt_e, ← hσ2, x2.1 6 0 6 (by decide), w4]
          · show f_X12_open σ2 = _
            rw [v2]
            have hm0 : ¬ nI M = 0 := by
              rw [show (0 : Int32) = nI 0 from rfl, nI_eq (by omega) (by omega)]
              exact hMz
            unfold f_X12_open_B82
            rw [if_neg hm0, f49, zix_n (show 0 < 2 by omega) (by omega), Option.bind_some, zlt_e]
            rw [show zI (zsA σr 12 0 58 0 (nI M)) 12 0 49 = nI 0 from f49, nI_1, zlt_e, zlt_e, X12_bits hMl, Option.bind_some, ← hσ3]
          · rw [hσ3]
            show zu (zA σr 12 0 58) 0 (nI M) 1 = _
            rw [zu_ne _ _ (by decide), v1.2.2.2.1 12 0 58 (by decide), x02.2.2.2.1 12 0 58 (by decide), e581, z3 (by omega)]
