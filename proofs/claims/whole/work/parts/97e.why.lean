/-! why: the first that is broken -/
def zwyI (W n : Nat) : Int32 := if W = n then -1 else nI W
theorem zfirst_at {p : Nat → Bool} {n i : Nat} (hi : i < n) (h : p i = true) (hb : ∀ j, j < i → p j = false) : fa_first p n = i := by
  have h1 := fa_first_no p n
  have h2 := fa_first_yes p n
  have h3 := fa_first_le p n
  rcases Nat.lt_or_ge (fa_first p n) i with h4 | h4
  · have := h2 (by omega)
    rw [hb _ h4] at this
    cases this
  · rcases Nat.lt_or_ge i (fa_first p n) with h5 | h5
    · have := h1 i h5
      rw [h] at this
      cases this
    · omega
theorem zfirst_n {p : Nat → Bool} {n : Nat} (hb : ∀ j, j < n → p j = false) : fa_first p n = n := by
  have h2 := fa_first_yes p n
  have h3 := fa_first_le p n
  rcases Nat.lt_or_ge (fa_first p n) n with h4 | h4
  · have := h2 h4
    rw [hb _ h4] at this
    cases this
  · omega
theorem X8_first {σ : zM} {s n : Nat} {C : Nat → Nat} {x4 t : Int32} (hB : iBri σ) (hSun : iSun σ) (hX : zCX σ s C) (ht : (if zI σ 7 s 1 = -1 then x4 else zI σ 7 s 1) = t) (hn4 : n ≤ 40) (hn : zI σ 0 (zOn σ t) 7 = nI n) : ∃ σ', f_X8_firstBroken σ s (zOn σ t) x4 = some (zwyI (zWhy C (zSn σ) (zbv σ (zOn σ t)) t n) n, σ') ∧ zEx [(8, 1), (8, 2)] σ σ' := by
  have hz : ∃ q, zwh (fun (q : (Int32 × zM)) => f_X8_firstBroken_L3 s (zOn σ t) x4 q.1 q.2) zFu (0, σ) = some q ∧ ((∃ σ', q = .inl (nI (zWhy C (zSn σ) (zbv σ (zOn σ t)) t n), σ') ∧ zWhy C (zSn σ) (zbv σ (zOn σ t)) t n < n ∧ zEx [(8, 1), (8, 2)] σ σ') ∨ ∃ σ', q = .inr σ' ∧ zWhy C (zSn σ) (zbv σ (zOn σ t)) t n = n ∧ zEx [(8, 1), (8, 2)] σ σ') := by
    refine zwh_ex (fun (i : Nat) (q : Int32 × zM) => q.1 = nI i ∧ zEx [(8, 1), (8, 2)] σ q.2 ∧ ∀ j, j < i → zBrk C (zSn σ) (zbv σ (zOn σ t)) t j = false) _ n ⟨rfl, zEx.rf, fun j hj => absurd hj (Nat.not_lt_zero j)⟩ (fun i q hi hq => ?_) (fun q hq => ?_) (by omega)
    · obtain ⟨q1, q2⟩ := q
      obtain ⟨h1, h2, h3⟩ := hq
      simp only at h1 h2
      subst h1
      have eO := zOn_x h2 (by decide)
      have eV := zbv_x h2 (by decide)
      have eS := zSn_x h2 (by decide)
      have hn' : zI q2 0 (zOn q2 t) 7 = nI n := by rw [eO, h2.1 0 _ 7 (by decide)]; exact hn
      have ht' : (if zI q2 7 s 1 = -1 then x4 else zI q2 7 s 1) = t := by rw [h2.1 7 s 1 (by decide)]; exact ht
      obtain ⟨σ', w1, w2⟩ := X8_breaks (iBri_fr h2 (by decide) hB) (iSun_fr h2 (by decide) hSun) (zCX_x h2 (by decide) hX) ht' hn4 hn' hi
      rw [eO, eV, eS] at w1
      have hrun : f_X8_firstBroken_L3 s (zOn σ t) x4 (nI i) q2 = if zbb (zBrk C (zSn σ) (zbv σ (zOn σ t)) t i) = 0 then some (.inl (nI (i + 1), σ')) else some (.inr (.inl (nI i, σ'))) := by
        unfold f_X8_firstBroken_L3
        rw [h2.1 0 _ 7 (by decide), hn, if_neg (by rw [nI_leI (by omega) (by omega)]; omega), w1, Option.bind_some, nI_1]
      by_cases hc : zBrk C (zSn σ) (zbv σ (zOn σ t)) t i = true
      · have hW : zWhy C (zSn σ) (zbv σ (zOn σ t)) t n = i := zfirst_at hi hc h3
        refine Or.inr ⟨.inl (nI i, σ'), ?_, Or.inl ⟨σ', by rw [hW], by omega, h2.tr w2⟩⟩
        rw [hrun, zbb_t hc, if_neg z10]
      · refine Or.inl ⟨(nI (i + 1), σ'), ?_, rfl, h2.tr w2, fun j hj => ?_⟩
        · rw [hrun, zbb_f hc, if_pos rfl]
        · by_cases e : j = i
          · rw [e]
            cases e2 : zBrk C (zSn σ) (zbv σ (zOn σ t)) t i
            · rfl
            · exact absurd e2 hc
          · exact h3 j (by omega)
    · obtain ⟨q1, q2⟩ := q
      obtain ⟨h1, h2, h3⟩ := hq
      simp only at h1 h2
      subst h1
      refine ⟨.inr q2, ?_, Or.inr ⟨q2, rfl, zfirst_n h3, h2⟩⟩
      show f_X8_firstBroken_L3 s (zOn σ t) x4 (nI n) q2 = _
      unfold f_X8_firstBroken_L3
      rw [h2.1 0 _ 7 (by decide), hn, if_pos (nI_le (Nat.le_refl _) (by omega))]
  obtain ⟨q, w, hq⟩ := hz
  unfold f_X8_firstBroken
  rw [w, Option.bind_some]
  rcases hq with ⟨σ', rfl, h1, h2⟩ | ⟨σ', rfl, h1, h2⟩
  · refine ⟨σ', ?_, h2⟩
    unfold zwyI
    rw [if_neg (by omega)]
    rfl
  · refine ⟨σ', ?_, h2⟩
    unfold zwyI
    rw [if_pos h1]
    rfl
theorem X12_briefOf {σ : zM} {s : Nat} (hB : iBri σ) (hs : s < 10) : f_X12_briefOf σ (nI s) = some (zOx (zOn σ (zdt σ s))) := by
  unfold f_X12_briefOf f_X12_briefOf_B24 zdt
  rw [zix_n hs (by omega), Option.bind_some, Option.bind_some]
  by_cases h : zA σ 12 0 5 s = -1
  · rw [if_pos h, if_pos h, X12_bindsOn hB]
    rfl
  · rw [if_neg h, if_neg h, X12_bindsOn hB]
    rfl
theorem X11_briefOf {σ : zM} {s : Nat} (hB : iBri σ) (hD : zI σ 11 0 10 = zI σ 12 0 0) (h1 : zI σ 7 s 1 = zA σ 12 0 5 s) : f_X11_briefOf σ s = some (zOn σ (zdt σ s)) := by
  unfold f_X11_briefOf f_X11_briefOf_B22 f_X7_isHandedIn zdt
  rw [h1, hD]
  by_cases h : zA σ 12 0 5 s = -1
  · rw [if_pos h, if_pos rfl, if_pos h, X1_on hB]
    rfl
  · rw [if_neg h, if_neg z10, if_neg h, X1_on hB]
    rfl
theorem X12_whyOf {σ : zM} {s n : Nat} {C : Nat → Nat} {t : Int32} (hB : iBri σ) (hSun : iSun σ) (hR : zRC σ s C) (hs : s < 10) (ht : zdt σ s = t) (hn4 : n ≤ 40) (hn : zI σ 0 (zOn σ t) 7 = nI n) : ∃ σ', f_X12_whyOf σ (nI s) = some (zwyI (zWhy C (zSn σ) (zbv σ (zOn σ t)) t n) n, σ') ∧ zEx [(12, 7), (12, 8), (12, 9)] σ σ' := by
  obtain ⟨k, k1, k2, k3, k4, k5⟩ := zbinds hB t
  have e : k = n := by rw [hn, nI_eq (by omega) (by omega)] at k2; exact k2.symm
  subst e
  unfold f_X12_whyOf
  rw [X12_briefOf hB hs, ht, Option.bind_some]
  by_cases h7 : zOn σ t = 7
  · have hk := k4 h7
    subst hk
    refine ⟨σ, ?_, zEx.rf⟩
    have e1 : zOx (zOn σ t) = -1 := by rw [h7]; rfl
    rw [e1, zwh_now (t := .inr σ) (by show f_X12_whyOf_L11 _ _ _ _ = _; unfold f_X12_whyOf_L11; rw [if_pos rfl]), Option.bind_some]
    rfl
  · obtain ⟨o6, g2, M, g3⟩ := k5 h7
    have e1 : zOx (zOn σ t) = nI (zOn σ t) := if_neg h7
    have hz : ∃ q, zwh (fun (q : (Int32 × zM)) => f_X12_whyOf_L11 (nI s) (zOx (zOn σ t)) q.1 q.2) zFu (40 * zOx (zOn σ t), σ) = some q ∧ ((∃ σ', q = .inl (nI (40 * zOn σ t + zWhy C (zSn σ) (zbv σ (zOn σ t)) t k), σ') ∧ zWhy C (zSn σ) (zbv σ (zOn σ t)) t k < k ∧ zEx [(12, 7), (12, 8), (12, 9)] σ σ') ∨ ∃ σ', q = .inr σ' ∧ zWhy C (zSn σ) (zbv σ (zOn σ t)) t k = k ∧ zEx [(12, 7), (12, 8), (12, 9)] σ σ') := by
      refine zwh_ex (fun (i : Nat) (q : Int32 × zM) => q.1 = nI (40 * zOn σ t + i) ∧ zEx [(12, 7), (12, 8), (12, 9)] σ q.2 ∧ ∀ j, j < i → zBrk C (zSn σ) (zbv σ (zOn σ t)) t j = false) _ k ⟨by show 40 * zOx (zOn σ t) = _; rw [e1, zq40, zmulI]; rfl, zEx.rf, fun j hj => absurd hj (Nat.not_lt_zero j)⟩ (fun i q hi hq => ?_) (fun q hq => ?_) (by omega)
      · obtain ⟨q1, q2⟩ := q
        obtain ⟨h1, h2, h3⟩ := hq
        simp only at h1 h2
        subst h1
        have eO := zOn_x h2 (by decide)
        have eV := zbv_x h2 (by decide)
        have eS := zSn_x h2 (by decide)
        have eD := zdt_x h2 (by decide)
        have hn' : zI q2 0 (zOn q2 t) 7 = nI k := by rw [eO, h2.1 0 _ 7 (by decide)]; exact hn
        obtain ⟨σ', w1, w2⟩ := X12_breaks (iBri_fr h2 (by decide) hB) (iSun_fr h2 (by decide) hSun) (zRC_x h2 (by decide) hR) hs (show zdt q2 s = t by rw [eD]; exact ht) hn4 hn' hi
        rw [eO, eV, eS] at w1
        have hrun : f_X12_whyOf_L11 (nI s) (zOx (zOn σ t)) (nI (40 * zOn σ t + i)) q2 = if zbb (zBrk C (zSn σ) (zbv σ (zOn σ t)) t i) = 0 then some (.inl (nI (40 * zOn σ t + (i + 1)), σ')) else some (.inr (.inl (nI (40 * zOn σ t + i), σ'))) := by
          unfold f_X12_whyOf_L11
          rw [w1]
          simp only [Option.bind_some]
          rw [e1, if_neg (znI_m1 (by omega)), zix_n (show zOn σ t < 7 by omega) (by omega), Option.bind_some, h2.2.2.2.1 12 0 25 (by decide), g2, zq40, zmulI, nI_add, if_neg (by rw [nI_leI (by omega) (by omega)]; omega), nI_1]
          rfl
        by_cases hc : zBrk C (zSn σ) (zbv σ (zOn σ t)) t i = true
        · have hW : zWhy C (zSn σ) (zbv σ (zOn σ t)) t k = i := zfirst_at hi hc h3
          refine Or.inr ⟨.inl (nI (40 * zOn σ t + i), σ'), ?_, Or.inl ⟨σ', by rw [hW], by omega, h2.tr w2⟩⟩
          rw [hrun, zbb_t hc, if_neg z10]
        · refine Or.inl ⟨(nI (40 * zOn σ t + (i + 1)), σ'), ?_, rfl, h2.tr w2, fun j hj => ?_⟩
          · rw [hrun, zbb_f hc, if_pos rfl]
          · by_cases e : j = i
            · rw [e]
              cases e2 : zBrk C (zSn σ) (zbv σ (zOn σ t)) t i
              · rfl
              · exact absurd e2 hc
            · exact h3 j (by omega)
      · obtain ⟨q1, q2⟩ := q
        obtain ⟨h1, h2, h3⟩ := hq
        simp only at h1 h2
        subst h1
        refine ⟨.inr q2, ?_, Or.inr ⟨q2, rfl, zfirst_n h3, h2⟩⟩
        show f_X12_whyOf_L11 (nI s) (zOx (zOn σ t)) (nI (40 * zOn σ t + k)) q2 = _
        unfold f_X12_whyOf_L11
        rw [e1, if_neg (znI_m1 (by omega)), zix_n (show zOn σ t < 7 by omega) (by omega), Option.bind_some, h2.2.2.2.1 12 0 25 (by decide), g2, zq40, zmulI, nI_add, if_pos (nI_le (Nat.le_refl _) (by omega))]
    obtain ⟨q, w, hq⟩ := hz
    rw [w, Option.bind_some]
    rcases hq with ⟨σ', rfl, h1, h2⟩ | ⟨σ', rfl, h1, h2⟩
    · refine ⟨σ', ?_, h2⟩
      unfold zwyI
      rw [if_neg (by omega)]
      show f_X12_whyOf_B41 σ' (nI s) _ = _
      unfold f_X12_whyOf_B41
      rw [zq40, zremI (by omega) (by omega), show (40 * zOn σ t + zWhy C (zSn σ) (zbv σ (zOn σ t)) t k) % 40 = zWhy C (zSn σ) (zbv σ (zOn σ t)) t k by omega]
    · refine ⟨σ', ?_, h2⟩
      unfold zwyI
      rw [if_pos h1]
      rfl
theorem zns_n {σ : zM} {o n : Nat} (h : zI σ 0 o 7 = nI n) (hn : n ≤ 40) : zns σ o = n := by
  unfold zns
  rw [h, nI_clamp (by omega)]
theorem ob_why (x1 : Int32) : zOb zInv (fun σ => f_X11_why σ x1) (fun σ => f_X12_why σ x1) := by
  intro n σ hn hI
  have hI0 := hI
  obtain ⟨hDay, hFlt, hTap, hNam, hSun, hSch, hPai, hQue, hPan, hWds, hBri, hMen, hRnd⟩ := hI
  rcases zschAt hSch x1 with ⟨s, rfl, hs, hs2, e1, e2, hsc⟩ | ⟨e1, e2⟩
  · obtain ⟨k, k1, k2, -⟩ := zbinds hBri (zdt σ s)
    obtain ⟨σ1, w1, w2⟩ := X8_first (x4 := zI σ 11 0 10) (t := zdt σ s) hBri hSun (zCX_of hsc.2.2.2.2) (by rw [hsc.2.2.1, hDay.1]; rfl) k1 k2
    have eO := zOn_x w2 (by decide)
    have eV := zbv_x w2 (by decide)
    have eS := zSn_x w2 (by decide)
    have eD := zdt_x w2 (by decide)
    obtain ⟨σ2, v1, v2⟩ := X12_whyOf (t := zdt σ s) (iBri_fr w2 (by decide) hBri) (iSun_fr w2 (by decide) hSun) (zRC_x w2 (by decide) (zRC_of hsc.2.2.2.2)) hs2 (by rw [eD]) k1 (show zI σ1 0 (zOn σ1 (zdt σ s)) 7 = nI k by rw [eO, w2.1 0 _ 7 (by decide)]; exact k2)
    rw [eO, eV, eS] at v1
    have hEx : zEx [(8, 1), (8, 2), (12, 7), (12, 8), (12, 9)] σ σ2 := (w2.mo (by decide)).tr (v2.mo (by decide))
    obtain ⟨r, hr⟩ : ∃ r, r = zwyI (zWhy (zCl σ s) (zSn σ) (zbv σ (zOn σ (zdt σ s))) (zdt σ s) k) k := ⟨_, rfl⟩
    rw [← hr] at w1 v1
    refine ⟨r, σ1, σ2, ?_, ?_, ⟨iDay_fr hEx (by decide) hDay, iFlt_fr hEx (by decide) hFlt, iTap_fr hEx (by decide) hTap, iNam_fr hEx (by decide) hNam, iSun_fr hEx (by decide) hSun, iSch_fr hEx (by decide) hSch, iPai_fr hEx (by decide) hPai, iQue_fr hEx (by decide) hQue, iPan_fr hEx (by decide) hPan, iWds_fr hEx (by decide) hWds, iBri_fr hEx (by decide) hBri, iMen_mo (iMen_fr hEx (by decide) hMen), iRnd_fr hEx (by decide) hRnd⟩, ?_, ?_⟩
    · show f_X11_why σ (nI s) = _
      unfold f_X11_why
      rw [e1, Option.bind_some]
      simp only [znu]
      rw [X11_briefOf hBri hDay.1 hsc.2.2.1, Option.bind_some, w1, Option.bind_some]
    · show f_X12_why σ1 (nI s) = _
      unfold f_X12_why
      have e2' : f_X12_isScheme σ1 (nI s) = 1 := by
        unfold f_X12_isScheme
        rw [w2.1 12 0 1 (by decide)]
        exact e2
      rw [e2', if_neg z10, v1, Option.bind_some]
    · show (zI σ2 11 0 12).toNatClampNeg = (zI σ 11 0 12).toNatClampNeg
      rw [hEx.1 11 0 12 (by decide)]
    · show (zI σ2 1 0 2).toNatClampNeg + (if zR σ2 1 0 3 = none then 0 else 1) = zMd σ
      rw [hEx.1 1 0 2 (by decide), hEx.2.2.1 1 0 3 (by decide)]
      rfl
  · refine ⟨-2, σ, σ, ?_, ?_, zMono n σ hI0, rfl, rfl⟩
    · show f_X11_why σ x1 = _
      unfold f_X11_why
      rw [e1, Option.bind_some]
      rfl
    · show f_X12_why σ x1 = _
      unfold f_X12_why
      rw [e2, if_pos rfl]
