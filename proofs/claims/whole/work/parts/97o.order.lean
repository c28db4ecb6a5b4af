/-! order -/
theorem X12_cnt {σ : zM} {r cl v j : Nat} (e50 : zI σ 12 0 50 = nI cl) (hr : r < cl) (hcl : cl ≤ 2) (e59 : zA σ 12 0 59 r = nI v) (hv : v < 128) (hj : j < 7) : f_X12_counts σ (nI r) (nI j) = some (if v.testBit j then 1 else 0) := by
  unfold f_X12_counts
  rw [e50, if_neg (by rw [nI_leI (by omega) (by omega)]; omega), zix_n (show r < 2 by omega) (by omega), Option.bind_some, e59]
  by_cases h : v.testBit j = true
  · rw [if_pos ((zsbit (by omega) (by omega)).mpr h), if_pos h]
  · rw [if_neg (fun e => h ((zsbit (by omega) (by omega)).mp e)), if_neg h]
def zat (ah : Nat → Nat → Bool) (m : Nat) (x : Int32) : Int32 := if x < 0 then -1 else if nI (zpc m) ≤ x then -1 else nI ((zrk ah m 10).1 x.toNatClampNeg)
theorem zrk_zpc (ah : Nat → Nat → Bool) (m : Nat) : (zrk ah m 10).2 = zpc m := zrk_c 10
theorem X6_rankedAt {σ : zM} {r m q : Nat} {L : Nat → Nat} {R : Nat → Nat → Nat} {V : Nat → Bool} {tie : Int32} (hk : zRk σ r m L R) (hv : zRvo σ r V) (ht : zI σ 6 r 8 = tie) (hq : q < 3) (x : Int32) : ∃ σ', f_X6_rankedAt σ r (nI q) x = some (zat (zah (zPts m L R V q) tie (zPc m L R 0)) m x, σ') ∧ zEx [(6, 4), (6, 5)] σ σ' := by
  have h10 := zpc_le m
  unfold f_X6_rankedAt zat
  rw [hk.2.2.2.1]
  by_cases h0 : x < 0
  · rw [if_pos h0, if_pos h0]
    exact ⟨σ, rfl, zEx.rf⟩
  · rw [if_neg h0, if_neg h0]
    by_cases h1 : nI (zpc m) ≤ x
    · rw [if_pos h1, if_pos h1]
      exact ⟨σ, rfl, zEx.rf⟩
    · rw [if_neg h1, if_neg h1]
      obtain ⟨i, hi, rfl⟩ := nI_of h0
      rw [nI_leI (by omega) hi] at h1
      obtain ⟨σ', w1, w2, w3⟩ := X6_rank hk hv ht hq
      rw [if_pos (by rw [zq10, nI_ltI (by omega) (by omega)]; omega), w1, Option.bind_some, zix_n (show i < 10 by omega) (by omega), Option.bind_some, nI_clamp hi, w3.1 i (by rw [zrk_zpc]; omega)]
      exact ⟨σ', rfl, w2⟩
theorem X12_rankedAt {σ : zM} {r m J n q : Nat} {L : Nat → Nat} {R : Nat → Nat → Nat} {V : Nat → Bool} {tie x : Int32} (hk : zRef σ r m J n L R) (hv : ∀ σ', zEx [(12, 62), (12, 63), (12, 64)] σ σ' → ∀ j, j < J → f_X12_counts σ' (nI r) (nI j) = some (if V j then 1 else 0)) (hV0 : ∀ j, J ≤ j → V j = false) (ht : zA σ 12 0 61 r = tie) (hq : q < 3) (h0 : ¬ x < 0) : ∃ σ', ((f_X12_ranks σ (nI r) (nI q)).bind fun σ7 => if (zI σ7 12 0 64) ≤ x then (some ((-1), σ7)) else ((zix x 10).bind fun i10 => some ((zA σ7 12 0 63 i10), σ7))) = some (zat (zah (zPts m L R V q) tie (zPc m L R 0)) m x, σ') ∧ zEx [(12, 62), (12, 63), (12, 64)] σ σ' := by
  have h10 := zpc_le m
  have hn := hk.2.2.2.1
  obtain ⟨σ', w1, w2, w3⟩ := X12_rank hk hv hV0 ht hq
  have e10 := zrk_10 (ah := zah (zPts m L R V q) tie (zPc m L R 0)) (m := m) (n := n) hk.2.2.2.2.2.2.2.1 hn
  unfold zOrr at w3
  rw [← e10, zrk_zpc] at w3
  refine ⟨σ', ?_, w2⟩
  rw [w1, Option.bind_some, w3.2.2]
  unfold zat
  rw [if_neg h0]
  by_cases h1 : nI (zpc m) ≤ x
  · rw [if_pos h1, if_pos h1]
  · rw [if_neg h1, if_neg h1]
    obtain ⟨i, hi, rfl⟩ := nI_of h0
    rw [nI_leI (by omega) hi] at h1
    rw [zix_n (show i < 10 by omega) (by omega), Option.bind_some, nI_clamp hi, w3.1 i (by omega)]
theorem zsame2 {F : List (Nat × Nat)} {σ σ1 : zM} (h : zEx F σ σ1) (hF : ([(11, 12), (1, 2), (1, 3)] : List (Nat × Nat)).all (fun q => !F.contains q) = true) : zSc σ1 = zSc σ ∧ zMd σ1 = zMd σ := by
  have hd := zFe_of h hF
  refine ⟨?_, ?_⟩
  · show (zI σ1 11 0 12).toNatClampNeg = (zI σ 11 0 12).toNatClampNeg
    rw [(hd (11, 12) (by simp)).1 0]
  · show (zI σ1 1 0 2).toNatClampNeg + (if zR σ1 1 0 3 = none then 0 else 1) = zMd σ
    rw [(hd (1, 2) (by simp)).1 0, (hd (1, 3) (by simp)).2.2.1 0]
    rfl
theorem zisRm1 (x : Int32) : (x = -1 ∧ f_X12_isIn x (-1) 2 = 1) ∨ (∃ q, q < 3 ∧ x = nI q ∧ ¬ x = -1 ∧ f_X11_isRule x = 1 ∧ f_X12_isIn x (-1) 2 = 1) ∨ (¬ x = -1 ∧ f_X11_isRule x = 0 ∧ f_X12_isIn x (-1) 2 = 0) := by
  by_cases h : x = -1
  · exact Or.inl ⟨h, by rw [h]; decide⟩
  · rcases zisRul x with ⟨q, hq, rfl, g1, g2⟩ | ⟨hx, g1, g2⟩
    · refine Or.inr (Or.inl ⟨q, hq, rfl, h, g1, ?_⟩)
      exact (by decide : ∀ q, q < 3 → f_X12_isIn (nI q) (-1) 2 = 1) q hq
    · refine Or.inr (Or.inr ⟨h, g1, ?_⟩)
      have e1 : (-1 : Int32).toInt = -1 := rfl
      have e2 : (2 : Int32).toInt = 2 := rfl
      have e0 : (0 : Int32).toInt = 0 := rfl
      have hne : x.toInt ≠ -1 := fun e => h (Int32.toInt_inj.mp (e.trans e1.symm))
      unfold f_X12_isIn
      by_cases c1 : x < -1
      · rw [if_pos c1]
      · rw [if_neg c1]
        rcases hx with hx | hx
        · rw [fa_lt, e0] at hx
          rw [fa_lt, e1] at c1
          omega
        · have e3 : (3 : Int32).toInt = 3 := rfl
          rw [fa_le, e3] at hx
          rw [if_pos (by rw [fa_lt, e2]; omega)]
theorem ob_order (x1 x2 x3 : Int32) : zOb zInv (fun σ => f_X11_order σ x1 x2 x3) (fun σ => f_X12_order σ x1 x2 x3) := by
  intro n σ hn hI
  have hI0 := hI
  have hno : f_X11_order σ x1 x2 x3 = some (-1, σ) → f_X12_order σ x1 x2 x3 = some (-1, σ) → ∃ r σ1 σ2, f_X11_order σ x1 x2 x3 = some (r, σ1) ∧ f_X12_order σ1 x1 x2 x3 = some (r, σ2) ∧ zInv (n + 8) σ2 ∧ zSc σ2 = zSc σ ∧ zMd σ2 = zMd σ := fun h1 h2 => ⟨-1, σ, σ, h1, h2, zMono n σ hI0, rfl, rfl⟩
  have hra := zroundAt hI x1
  obtain ⟨hDay, hFlt, hTap, hNam, hSun, hSch, hPai, hQue, hPan, hWds, hBri, hMen, hRnd⟩ := hI
  have hRnd0 := hRnd
  obtain ⟨cl, op, m0, m1, m2, f, st, c1, c2, c3, e50, e54, e49, e15, e14, -⟩ := hRnd0
  by_cases hop : x1 = zI σ 11 0 14
  · refine hno ?_ ?_
    · unfold f_X11_order
      rw [if_pos hop]
      rfl
    · unfold f_X12_order
      rw [e50]
      rcases zn2 (x := x1) (k := cl) c1 with ⟨r, hr, e, hin⟩ | ⟨hx, hin⟩
      · rw [e, e14] at hop
        by_cases h : op = 1
        · rw [if_pos h, nI_eq (by omega) (by omega)] at hop
          omega
        · rw [if_neg h, nI_eq (by omega) (by omega)] at hop
          omega
      · rw [hin, if_pos rfl]
  · rcases hra with ⟨r, m, J, k, cl', V, σ1, rfl, e1, e2, ⟨hr, hk10, hJ7, w2, hI1, hk, hv, hf, e50', hV0, hm0, hcn, hcl⟩, ho, -⟩ | ⟨e1, e2⟩
    · have hrc : r < cl' := ho.resolve_right (fun h => hop h.symm)
      obtain ⟨hs, h7, ⟨q0, hq0, h70⟩, h8⟩ := hcl hrc
      subst hs
      have ecl : cl' = cl := by
        have h5 := e50'.1
        have h6 := e50'.2
        rw [e50, nI_eq (by omega) (by omega)] at h5
        exact h5.symm
      subst ecl
      have hin : f_X12_isIn (nI (r + 1)) 1 (zI σ1 12 0 50) = 1 := by rw [e50]; exact zisIn_1 (a := 1) (by omega) (by omega) (by omega)
      have hcls : f_X11_order σ1 (nI (r + 1)) x2 x3 = (if x2 = (-1) then (f_X11_order_B38 σ1 (nI (r + 1)) x2 x3 r) else (if (f_X11_isRule x2) = 0 then (some ((-1), σ1)) else (f_X11_order_B38 σ1 (nI (r + 1)) x2 x3 r))) := by
        unfold f_X11_order
        rw [if_neg hop, e1, Option.bind_some]
        rfl
      have hgo : ∀ q, q < 3 → f_X11_order σ1 (nI (r + 1)) x2 x3 = f_X11_order_B54 σ1 (nI (r + 1)) x2 x3 r (nI q) → (¬ x3 < 0 → ∀ τ : zM, zEx [(6, 4), (6, 5)] σ1 τ → f_X12_order τ (nI (r + 1)) x2 x3 = f_X12_order_B48 τ (nI (r + 1)) x2 x3 (nI r) (nI q)) → ∃ a τ1 τ2, f_X11_order σ1 (nI (r + 1)) x2 x3 = some (a, τ1) ∧ f_X12_order τ1 (nI (r + 1)) x2 x3 = some (a, τ2) ∧ zInv (n + 8) τ2 ∧ zSc τ2 = zSc σ1 ∧ zMd τ2 = zMd σ1 := by
        intro q hq hc hrf
        obtain ⟨τ1, v1, v2⟩ := X6_rankedAt hk hv h8 hq x3
        have hc1 : f_X11_order σ1 (nI (r + 1)) x2 x3 = some (zat (zah (zPts m (zLL σ1 r) (zRR σ1 r) V q) (zA σ1 12 0 61 r) (zPc m (zLL σ1 r) (zRR σ1 r) 0)) m x3, τ1) := by
          rw [hc]
          unfold f_X11_order_B54
          rw [v1, Option.bind_some]
        by_cases h0 : x3 < 0
        · have hEx := v2
          obtain ⟨s1, s2⟩ := zsame2 hEx (by decide)
          refine ⟨-1, τ1, τ1, ?_, ?_, ⟨iDay_fr hEx (by decide) hDay, iFlt_fr hEx (by decide) hFlt, iTap_fr hEx (by decide) hTap, iNam_fr hEx (by decide) hNam, iSun_fr hEx (by decide) hSun, iSch_fr hEx (by decide) hSch, iPai_fr hEx (by decide) hPai, iQue_fr hEx (by decide) hQue, iPan_fr hEx (by decide) hPan, iWds_fr hEx (by decide) hWds, iBri_fr hEx (by decide) hBri, iMen_mo (iMen_fr hEx (by decide) hMen), iRnd_fr hEx (by decide) hRnd⟩, s1, s2⟩
          · rw [hc1]
            unfold zat
            rw [if_pos h0]
          · unfold f_X12_order
            rw [v2.1 12 0 50 (by decide), hin, if_neg z10]
            by_cases h : f_X12_isIn x2 (-1) 2 = 0
            · rw [if_pos h]
            · rw [if_neg h, if_neg]
              intro h2
              exact zlt_not.mp h0 h2
        · have hf1 := zRef_x v2 (by decide) hf
          obtain ⟨τ2, u1, u2⟩ := X12_rankedAt (x := x3) hf1 (fun σ' hσ' => hcn σ' ((v2.mo (by decide)).tr (hσ'.mo (by decide)))) hV0 (by rw [v2.2.2.2.1 12 0 61 (by decide)]) hq h0
          have hEx : zEx [(6, 4), (6, 5), (12, 62), (12, 63), (12, 64)] σ1 τ2 := (v2.mo (by decide)).tr (u2.mo (by decide))
          obtain ⟨s1, s2⟩ := zsame2 hEx (by decide)
          refine ⟨_, τ1, τ2, hc1, ?_, ⟨iDay_fr hEx (by decide) hDay, iFlt_fr hEx (by decide) hFlt, iTap_fr hEx (by decide) hTap, iNam_fr hEx (by decide) hNam, iSun_fr hEx (by decide) hSun, iSch_fr hEx (by decide) hSch, iPai_fr hEx (by decide) hPai, iQue_fr hEx (by decide) hQue, iPan_fr hEx (by decide) hPan, iWds_fr hEx (by decide) hWds, iBri_fr hEx (by decide) hBri, iMen_mo (iMen_fr hEx (by decide) hMen), iRnd_fr hEx (by decide) hRnd⟩, s1, s2⟩
          rw [hrf h0 τ1 v2]
          exact u1
      have hrf2 : ∀ τ : zM, zEx [(6, 4), (6, 5)] σ1 τ → ¬ x3 < 0 → f_X12_isIn x2 (-1) 2 = 1 → f_X12_order τ (nI (r + 1)) x2 x3 = if x2 = (-1) then f_X12_order_B48 τ (nI (r + 1)) x2 x3 (nI r) (zA σ1 12 0 60 r) else f_X12_order_B48 τ (nI (r + 1)) x2 x3 (nI r) x2 := by
        intro τ hτ h0 h2
        have h3 : 0 ≤ x3 := by
          rw [fa_lt] at h0
          rw [fa_le]
          omega
        unfold f_X12_order
        rw [hτ.1 12 0 50 (by decide), hin, if_neg z10, h2, if_neg z10, if_pos h3, nI_pred, zix_n (show r < 2 from hr) (by omega), Option.bind_some, hτ.2.2.2.1 12 0 60 (by decide)]
      rcases zisRm1 x2 with ⟨rfl, g2⟩ | ⟨q, hq, rfl, hne, g1, g2⟩ | ⟨hne, g1, g2⟩
      · refine hgo q0 (by omega) ?_ (fun h0 τ hτ => ?_)
        · rw [hcls, if_pos rfl]
          unfold f_X11_order_B38
          rw [if_pos rfl, h7, h70]
        · rw [hrf2 τ hτ h0 g2, if_pos rfl, h70]
      · refine hgo q hq ?_ (fun h0 τ hτ => ?_)
        · rw [hcls, if_neg hne, g1, if_neg z10]
          unfold f_X11_order_B38
          rw [if_neg hne]
        · rw [hrf2 τ hτ h0 g2, if_neg hne]
      · refine hno ?_ ?_
        · rw [hcls, if_neg hne, g1, if_pos rfl]
        · unfold f_X12_order
          rw [hin, if_neg z10, g2, if_pos rfl]
    · refine hno ?_ ?_
      · unfold f_X11_order
        rw [if_neg hop, e1, Option.bind_some]
        rfl
      · unfold f_X12_order
        rw [e50]
        rcases zn2 (x := x1) (k := cl) c1 with ⟨r, hr, rfl, hin⟩ | ⟨hx, hin⟩
        · have h5 : f_X12_isIn (nI (r + 1)) 1 (nI (cl + op)) = 1 := zisIn_1 (a := 1) (by omega) (by omega) (by omega)
          rw [e49, h5] at e2
          exact absurd e2 z10
        · rw [hin, if_pos rfl]
