/-! close -/
theorem X6_keep {σ : zM} {m q T : Nat} {L : Nat → Nat} {R : Nat → Nat → Nat} {V : Nat → Bool} {tie : Int32} (hk : zRk σ 0 m L R) (hv : zRvo σ 0 V) (ht : zI σ 6 0 8 = tie) (h7 : zI σ 6 0 7 = nI q) (hq : q < 3) (hm : m ≠ 0) (hT : 1 ≤ T) (hT2 : T ≤ 10) (h10 : ∀ s, s < 10 → zA σ 6 1 0 s = 0) (h16 : zI σ 6 1 6 = 0) : ∃ σ', f_X6_keepBest σ 0 (nI T) 1 = some (zI σ' 6 1 6, σ') ∧ zEx [(6, 4), (6, 5), (6, 0), (6, 6)] σ σ' ∧ zA σ' 6 0 0 = zA σ 6 0 0 ∧ zI σ' 6 0 6 = zI σ 6 0 6 ∧ (∀ s, s < 10 → zA σ' 6 1 0 s = if (zkp (zrk (zah (zPts m L R V q) tie (zPc m L R 0)) m 10).1 (zkg (zPts m L R V q) (zrk (zah (zPts m L R V q) tie (zPc m L R 0)) m 10).1 (min T (zpc m) - 1)) (zpc m)).testBit s then 1 else 0) ∧ zI σ' 6 1 6 = nI (zpc (zkp (zrk (zah (zPts m L R V q) tie (zPc m L R 0)) m 10).1 (zkg (zPts m L R V q) (zrk (zah (zPts m L R V q) tie (zPc m L R 0)) m 10).1 (min T (zpc m) - 1)) (zpc m))) := by
  obtain ⟨σ1, w1, w2, w3⟩ := X6_rank hk hv ht hq
  have hc := zrk_zpc (zah (zPts m L R V q) tie (zPc m L R 0)) m
  have he := zrk_e (ah := zah (zPts m L R V q) tie (zPc m L R 0)) (m := m) 10
  obtain ⟨w4, w5⟩ := w3
  rw [hc] at w4 he
  generalize (zrk (zah (zPts m L R V q) tie (zPc m L R 0)) m 10).1 = f at w4 he ⊢
  generalize zPts m L R V q = P at w5 ⊢
  have hp := zpc_le m
  have hp0 := zpc_ne hk.2.1 hm
  have h6 : zI σ1 6 0 6 = nI (zpc m) := by rw [w2.1 6 0 6 (by decide)]; exact hk.2.2.2.1
  obtain ⟨w, hw⟩ : ∃ w, min T (zpc m) = w + 1 := ⟨min T (zpc m) - 1, by omega⟩
  have hwc : w < zpc m := by omega
  have hf : ∀ i, i < zpc m → f i < 10 ∧ zA σ1 6 0 5 i = nI (f i) ∧ zA σ1 6 0 4 (f i) = P (f i) := fun i hi => ⟨(he.1 i hi).1, w4 i hi, w5 (f i) (he.1 i hi).1 (he.1 i hi).2⟩
  obtain ⟨σ2, v1, v2, v3, v4, v5, v6⟩ := X6_keepL (x1 := nI T) (w := w) hp h6 hf (fun s hs => by rw [w2.2.2.2.1 6 1 0 (by decide)]; exact h10 s hs) (by rw [w2.1 6 1 6 (by decide)]; exact h16)
  rw [hw, Nat.add_sub_cancel]
  obtain ⟨f1, f2, f3⟩ := hf w hwc
  refine ⟨σ2, ?_, (w2.mo (by decide)).tr (v2.mo (by decide)), by rw [v3, w2.2.2.2.1 6 0 0 (by decide)], by rw [v4, w2.1 6 0 6 (by decide)], v5, v6⟩
  unfold f_X6_keepBest f_X6_keepBest_B46 f_X6_keepBest_B103 f_X6_scoreOf
  rw [h7, w1, Option.bind_some, h6, zminE (by omega) (by omega), hw, nI_pred, if_neg (zlt0 (by omega)), if_neg (by rw [zq10, nI_leI (by omega) (by omega)]; omega), zix_n (show w < 10 by omega) (by omega), Option.bind_some, f2, if_neg (zlt0 (by omega)), if_neg (by rw [zq10, nI_leI (by omega) (by omega)]; omega), zix_n f1 (by omega), Option.bind_some, Option.bind_some, f3, v1, Option.bind_some]
theorem ob_close : zOb zInv (fun σ => f_X11_close σ) (fun σ => f_X12_close σ) := by
  intro n σ hn hI
  have hI0 := hI
  obtain ⟨hDay, hFlt, hTap, hNam, hSun, hSch, hPai, hQue, hPan, hWds, hBri, hMen, hRnd⟩ := hI
  have hRnd0 := hRnd
  have hSch0 := hSch
  have hPan0 := hPan
  obtain ⟨k, k1, k2, k3, k4, -⟩ := hSch0
  obtain ⟨⟨J, J1, J2, J3⟩, -⟩ := hPan0
  unfold iRnd at hRnd0
  rw [k3] at hRnd0
  obtain ⟨cl, op, m0, m1, m2, f, st, c1, c2, c3, e50, e54, e49, e15, e14, o0, o1, b0, b1, e58, z0, n0, e65, z1, n1, e581, z2, z3, hc, d⟩ := hRnd0
  have hno : f_X11_close σ = some (-1, σ) → f_X12_close σ = some (-1, σ) → ∃ r σ1 σ2, f_X11_close σ = some (r, σ1) ∧ f_X12_close σ1 = some (r, σ2) ∧ zInv (n + 8) σ2 ∧ zSc σ2 = zSc σ ∧ zMd σ2 = zMd σ := fun h1 h2 => ⟨-1, σ, σ, h1, h2, zMono n σ hI0, rfl, rfl⟩
  by_cases hop : op = 1
  rotate_left
  · have hop0 : op = 0 := by omega
    subst hop0
    rw [if_neg hop] at e14
    refine hno ?_ ?_
    · unfold f_X11_close
      rw [e14, if_pos (show nI 0 = 0 from rfl)]
    · unfold f_X12_close
      rw [e54, if_pos (show nI 0 = 0 from rfl)]
  · subst hop
    rw [if_pos rfl] at e14
    -- the round
    obtain ⟨m, om, hb, e58m, hmne, hm0, hm1⟩ : ∃ m, iRo1 σ (nI k) cl m ∧ (∀ s, m.testBit s = true → s < k) ∧ zA σ 12 0 58 cl = nI m ∧ m ≠ 0 ∧ (cl = 0 → m = m0) ∧ (cl = 1 → m = m1) := by
      have hb0 : ∀ s, m0.testBit s = true → s < k := fun s hs => by
        have h := b0 s hs
        by_cases h10 : s < 10
        · rw [nI_ltI (by omega) (by omega)] at h
          exact h
        · rw [ztb_hi (a := 10) (show m0 < 2 ^ 10 from o0.1) (by omega)] at hs
          cases hs
      by_cases h : cl = 0
      · subst h
        exact ⟨m0, o0, hb0, e58, n0 (by omega), fun _ => rfl, fun h => by omega⟩
      · have h1 : cl = 1 := by omega
        subst h1
        exact ⟨m1, o1, fun s hs => hb0 s (b1 s hs), by rw [e581, z2 (by omega)], n1 (by omega), fun h => by omega, fun _ => rfl⟩
    have hr : cl < 2 := by omega
    have hk := zRk_of hr k1 om
    have hf := zRef_of hr k1 J1 om J3 k3 e58m hb
    obtain ⟨L, hL⟩ : ∃ L, L = zLL σ cl := ⟨_, rfl⟩
    obtain ⟨R, hR⟩ : ∃ R, R = zRR σ cl := ⟨_, rfl⟩
    rw [← hL, ← hR] at hk hf
    have hRn : ∀ j, j < 7 → ∀ i, i < L j → R j i < k := fun j hj i hi => ((hf.2.2.2.2.2.2.2.2 j hj).2.2.2.2 i hi).1
    have hau : ∀ s, s < k → ∃ a, a < 40 ∧ zA σ 12 0 4 s = nI a := fun s hs => by
      obtain ⟨-, ⟨a, a1, -, a2⟩, -⟩ := k4 s hs
      exact ⟨a, a1, a2⟩
    -- the terms
    obtain ⟨o, ho⟩ : ∃ o, o = zOn σ (zI σ 12 0 0) := ⟨_, rfl⟩
    have hbd := (zOn_bd hBri (zI σ 12 0 0)).1
    rw [← ho] at hbd
    obtain ⟨q, q1, q2⟩ := hbd 6 (by omega)
    obtain ⟨tie, t1, t2⟩ := hbd 7 (by omega)
    obtain ⟨T, T1, T2⟩ := hbd 5 (by omega)
    have hq : q < 3 := Nat.lt_succ_of_le q1
    have ht : tie ≤ 1 := t1
    have hT : T ≤ 10 := T1
    have hT0 : 1 ≤ T := by
      have : zA σ 0 o 5 5 ≠ 0 := by
        obtain ⟨nb, M, h1, h2, h3, h4, h5, h6, h7, h8, h9⟩ := id hBri
        have hle := zonN_lt (zA σ 12 0 26) (zI σ 12 0 0) nb
        have eo : o = zonN (zA σ 12 0 26) (zI σ 12 0 0) nb := by
          rw [ho]
          unfold zOn
          rw [h3, nI_clamp (by omega)]
        rw [← eo] at hle
        rcases hle with hle | hle
        · obtain ⟨n', -, -, -, -, -, -, g, -⟩ := (h7 o hle).2
          exact g
        · rw [hle, h9.2.1 5 (by omega)]
          decide
      rcases Nat.eq_zero_or_pos T with h | h
      · rw [T2, h] at this
        exact absurd rfl this
      · exact h
    -- the class weighs
    obtain ⟨σ5, w1, w2, w3, w4⟩ := X6_weigh hk hSch hPan J2 J1 k3 k1 hRn hDay.1
    obtain ⟨v, hv⟩ : ∃ v, v = zset (zNw σ m L R) J := ⟨_, rfl⟩
    have hvb : (fun j => decide (j < J) && zNw σ m L R j) = fun j => v.testBit j := by
      funext j
      rw [hv, zset_b]
    rw [hvb] at w3
    have hv128 : v < 128 := by
      have h1 : v < 2 ^ J := by rw [hv]; exact zset_lt J
      have h2 : 2 ^ J ≤ 2 ^ 7 := Nat.pow_le_pow_right (by decide) J1
      have h3 : (2 : Nat) ^ 7 = 128 := by decide
      omega
    have hV0 : ∀ j, J ≤ j → v.testBit j = false := fun j hj => by
      rw [hv, zset_b, decide_eq_false (by omega), Bool.false_and]
    obtain ⟨σ6, hσ6⟩ : ∃ x, x = zsI (zsI σ5 6 cl 7 (nI q)) 6 cl 8 (nI tie) := ⟨_, rfl⟩
    have x56 : zEx [(6, 7), (6, 8)] σ5 σ6 := by
      rw [hσ6]
      exact (zEx_sI (by decide)).tr (zEx_sI (by decide))
    have x06 : zEx [(6, 3), (6, 7), (6, 8)] σ σ6 := (w2.mo (by decide)).tr (x56.mo (by decide))
    have i67 : zI σ6 6 cl 7 = nI q := by
      rw [hσ6, zI_sI, if_neg (by omega), zI_sI, if_pos ⟨rfl, rfl, rfl⟩]
    have i68 : zI σ6 6 cl 8 = nI tie := by
      rw [hσ6, zI_sI, if_pos ⟨rfl, rfl, rfl⟩]
    have i6o : ∀ r', r' ≠ cl → zI σ6 6 r' 7 = zI σ 6 r' 7 ∧ zI σ6 6 r' 8 = zI σ 6 r' 8 ∧ zA σ6 6 r' 3 = zA σ 6 r' 3 := fun r' hr' => by
      refine ⟨?_, ?_, ?_⟩
      · rw [hσ6, zI_sI, if_neg (by omega), zI_sI, if_neg (by omega), w2.1 6 r' 7 (by decide)]
      · rw [hσ6, zI_sI, if_neg (by omega), zI_sI, if_neg (by omega), w2.1 6 r' 8 (by decide)]
      · rw [x56.2.2.2.1 6 r' 3 (by decide), w4 r' hr']
    have hk6 := zRk_x x06 (by decide) hk
    have hv6 : zRvo σ6 cl (fun j => v.testBit j) := zRvo_x x56 (by decide) w3
    have hc0 : f_X11_close σ = f_X11_close_B28 σ cl := by
      unfold f_X11_close
      rw [e14, if_neg (by rw [show (0 : Int32) = nI 0 from rfl, nI_eq (by omega) (by omega)]; omega)]
      by_cases h : cl = 0
      · rw [h, if_pos (show nI (0 + 1) = 1 from rfl)]
      · have h1 : cl = 1 := by omega
        rw [h1, if_neg (by decide)]
    have hT6 : f_X0_term σ5 o 6 = some (nI q) := (X0_term o (w := 6) (by omega)).trans (by rw [w2.2.2.2.1 0 o 5 (by decide), q2])
    have hT7 : f_X0_term σ5 o 7 = some (nI tie) := (X0_term o (w := 7) (by omega)).trans (by rw [w2.2.2.2.1 0 o 5 (by decide), t2])
    have hT5 : f_X0_term σ6 o 5 = some (nI T) := (X0_term o (w := 5) (by omega)).trans (by rw [x06.2.2.2.1 0 o 5 (by decide), T2])
    have hc1 : f_X11_close σ = if cl = 0 then ((f_X6_keepBest σ6 cl (nI T) 1).bind fun q18 => f_X11_close_B100 q18.2 q18.1) else f_X11_close_B100 σ6 (zI σ6 6 cl 6) := by
      rw [hc0]
      unfold f_X11_close_B28
      rw [X1_on hBri, Option.bind_some, w1, Option.bind_some, hDay.1, ← ho, hT6, Option.bind_some, hT7, Option.bind_some, zlt_e]
      unfold f_X6_finish
      rw [zlt_e, zlt_e, ← hσ6, x06.1 11 0 14 (by decide), e14]
      by_cases h : cl = 0
      · rw [h, if_pos (show nI (0 + 1) = 1 from rfl), if_pos rfl, hT5, Option.bind_some]
      · have h1 : cl = 1 := by omega
        rw [h1, if_neg (by decide), if_neg (by decide)]
    -- the reference, up to the order
    have hRf : ∀ σC, zEx [(6, 0), (6, 4), (6, 5), (6, 6), (11, 15), (11, 14)] σ6 σC → ∃ σr, zEx [(12, 59), (12, 60), (12, 61), (12, 54), (12, 50), (12, 62), (12, 63), (12, 64)] σC σr ∧ (f_X12_close σC = if cl = 0 then (zwh (fun (q : (Int32 × zM)) => f_X12_close_L157 (nI (min (zpc m) T)) q.1 q.2) zFu (0, zsI σr 12 0 65 0)).bind (fun q => f_X12_close_B224 q) else some (nI (zpc m), σr)) ∧ zOrr σr m k (zPts m L R (fun j => v.testBit j) q) (zah (zPts m L R (fun j => v.testBit j) q) (nI tie) (zPc m L R 0)) ∧ zA σr 12 0 59 cl = nI v ∧ zA σr 12 0 60 cl = nI q ∧ zA σr 12 0 61 cl = nI tie ∧ zI σr 12 0 54 = nI 0 ∧ zI σr 12 0 50 = nI (cl + 1) ∧ ∀ r', r' ≠ cl → zA σr 12 0 59 r' = zA σ 12 0 59 r' ∧ zA σr 12 0 60 r' = zA σ 12 0 60 r' ∧ zA σr 12 0 61 r' = zA σ 12 0 61 r' := by
      intro σC xC
      have x0C : zEx [(6, 3), (6, 7), (6, 8), (6, 0), (6, 4), (6, 5), (6, 6), (11, 15), (11, 14)] σ σC := (x06.mo (by decide)).tr (xC.mo (by decide))
      have tl : ∀ σ' w, w < 11 → zEx [(6, 3), (6, 7), (6, 8), (6, 0), (6, 4), (6, 5), (6, 6), (11, 15), (11, 14), (12, 59), (12, 60), (12, 61), (12, 54), (12, 50), (12, 62), (12, 63), (12, 64)] σ σ' → f_X12_tells σ' (zOx o) (nI w) = some (zA σ 0 o 5 w) := fun σ' w hw hx => by
        have h := X12_tells (iBri_fr hx (by decide) hBri) (zI σ 12 0 0) hw
        rw [zOn_x hx (by decide), ← ho, hx.2.2.2.1 0 o 5 (by decide)] at h
        exact h
      have f49 : zI σC 12 0 49 = nI (cl + 1) := by rw [x0C.1 12 0 49 (by decide)]; exact e49
      obtain ⟨σ7, hσ7⟩ : ∃ x, x = zsA σC 12 0 60 cl (nI q) := ⟨_, rfl⟩
      have x7 : zEx [(12, 60)] σC σ7 := by rw [hσ7]; exact zEx_sA (by decide)
      obtain ⟨σ8, hσ8⟩ : ∃ x, x = zsA (zsA σ7 12 0 61 cl (nI tie)) 12 0 59 cl 0 := ⟨_, rfl⟩
      have x8 : zEx [(12, 61), (12, 59)] σ7 σ8 := by rw [hσ8]; exact (zEx_sA (by decide)).tr (zEx_sA (by decide))
      have xC8 : zEx [(12, 59), (12, 60), (12, 61)] σC σ8 := (x7.mo (by decide)).tr (x8.mo (by decide))
      have x08 : zEx [(6, 3), (6, 7), (6, 8), (6, 0), (6, 4), (6, 5), (6, 6), (11, 15), (11, 14), (12, 59), (12, 60), (12, 61)] σ σ8 := (x0C.mo (by decide)).tr (xC8.mo (by decide))
      obtain ⟨σ9, u1, u2, u3, u4⟩ := X12_weigh (y := zOx o) (zRef_x x08 (by decide) hf) (fun s hs => by rw [x08.2.2.2.1 12 0 4 (by decide)]; exact hau s hs) (by rw [hσ8, zA_sA, if_pos ⟨rfl, rfl, rfl⟩, zu_eq])
      rw [zNw_x x08 (by decide), ← hv] at u3
      obtain ⟨σa, hσa⟩ : ∃ x, x = zsI (zsI σ9 12 0 54 0) 12 0 50 (nI (cl + 1)) := ⟨_, rfl⟩
      have xa : zEx [(12, 54), (12, 50)] σ9 σa := by rw [hσa]; exact (zEx_sI (by decide)).tr (zEx_sI (by decide))
      have x0a : zEx [(6, 3), (6, 7), (6, 8), (6, 0), (6, 4), (6, 5), (6, 6), (11, 15), (11, 14), (12, 59), (12, 60), (12, 61), (12, 54), (12, 50)] σ σa := (x08.mo (by decide)).tr ((u2.mo (by decide)).tr (xa.mo (by decide)))
      have a50 : zI σa 12 0 50 = nI (cl + 1) := by rw [hσa]; rfl
      have a59 : zA σa 12 0 59 cl = nI v := by rw [xa.2.2.2.1 12 0 59 (by decide)]; exact u3
      have a60 : zA σa 12 0 60 cl = nI q := by
        rw [xa.2.2.2.1 12 0 60 (by decide), u2.2.2.2.1 12 0 60 (by decide), x8.2.2.2.1 12 0 60 (by decide), hσ7, zA_sA, if_pos ⟨rfl, rfl, rfl⟩, zu_eq]
      have a61 : zA σa 12 0 61 cl = nI tie := by
        rw [xa.2.2.2.1 12 0 61 (by decide), u2.2.2.2.1 12 0 61 (by decide), hσ8, zA_sA, if_neg (by omega), zA_sA, if_pos ⟨rfl, rfl, rfl⟩, zu_eq]
      obtain ⟨σb, y1, y2, y3⟩ := X12_rank (V := fun j => v.testBit j) (tie := nI tie) (zRef_x x0a (by decide) hf) (fun σ' hσ' j hj => X12_cnt (by rw [hσ'.1 12 0 50 (by decide)]; exact a50) (show cl < cl + 1 by omega) (by omega) (by rw [hσ'.2.2.2.1 12 0 59 (by decide)]; exact a59) hv128 (by omega)) hV0 a61 hq
      have x0b : zEx [(6, 3), (6, 7), (6, 8), (6, 0), (6, 4), (6, 5), (6, 6), (11, 15), (11, 14), (12, 59), (12, 60), (12, 61), (12, 54), (12, 50), (12, 62), (12, 63), (12, 64)] σ σb := (x0a.mo (by decide)).tr (y2.mo (by decide))
      have y64 : zI σb 12 0 64 = nI (zpc m) := by
        rw [y3.2.2, ← zrk_10 hb k1, zrk_zpc]
      have hp := zpc_le m
      refine ⟨σb, (xC8.mo (by decide)).tr ((u2.mo (by decide)).tr ((xa.mo (by decide)).tr (y2.mo (by decide)))), ?_, y3, by rw [y2.2.2.2.1 12 0 59 (by decide)]; exact a59, by rw [y2.2.2.2.1 12 0 60 (by decide)]; exact a60, by rw [y2.2.2.2.1 12 0 61 (by decide)]; exact a61, ?_, by rw [y2.1 12 0 50 (by decide)]; exact a50, fun r' hr' => ⟨?_, ?_, ?_⟩⟩
      · have hbo : f_X12_bindsOn σC (zI σC 12 0 0) = some (zOx o) := by
          rw [X12_bindsOn (iBri_fr x0C (by decide) hBri), zOn_x x0C (by decide), x0C.1 12 0 0 (by decide), ← ho]
        have g6 : f_X12_tells σC (zOx o) 6 = some (nI q) := (tl σC 6 (by omega) (x0C.mo (by decide))).trans (by rw [q2])
        have g7 : f_X12_tells σ7 (zOx o) 7 = some (nI tie) := (tl σ7 7 (by omega) ((x0C.mo (by decide)).tr (x7.mo (by decide)))).trans (by rw [t2])
        have g5 : f_X12_tells σb (zOx o) 5 = some (nI T) := (tl σb 5 (by omega) x0b).trans (by rw [T2])
        have f50 : zI (zsI σ9 12 0 54 0) 12 0 50 + 1 = nI (cl + 1) := by
          show zI σ9 12 0 50 + 1 = _
          rw [u2.1 12 0 50 (by decide), x08.1 12 0 50 (by decide), e50, nI_1]
        unfold f_X12_close
        rw [x0C.1 12 0 54 (by decide), e54, if_neg (show ¬ nI 1 = 0 from z10), hbo, Option.bind_some, g6, Option.bind_some, f49, nI_pred, zix_n hr (by omega), Option.bind_some, zlt_e, ← hσ7, g7, Option.bind_some, Option.bind_some, zlt_e, Option.bind_some, zlt_e, ← hσ8, u1, Option.bind_some]
        unfold f_X12_close_B99
        rw [zlt_e, f50, zlt_e, ← hσa, zix_n hr (by omega), Option.bind_some, a60, y1, Option.bind_some, y64]
        by_cases h : cl = 0
        · rw [h, if_neg (by decide), if_pos rfl, g5, Option.bind_some, zminE (by omega) (by omega), zlt_e]
        · have h1 : cl = 1 := by omega
          rw [h1, if_pos (show nI 1 = 1 from rfl), if_neg (by decide)]
      · rw [y2.1 12 0 54 (by decide), hσa]
        rfl
      · rw [y2.2.2.2.1 12 0 59 (by decide), xa.2.2.2.1 12 0 59 (by decide), u4 r' hr', hσ8, zA_sA, if_pos ⟨rfl, rfl, rfl⟩, zu_ne _ _ hr']
        show zA σ7 12 0 59 r' = _
        rw [x7.2.2.2.1 12 0 59 (by decide), x0C.2.2.2.1 12 0 59 (by decide)]
      · rw [y2.2.2.2.1 12 0 60 (by decide), xa.2.2.2.1 12 0 60 (by decide), u2.2.2.2.1 12 0 60 (by decide), x8.2.2.2.1 12 0 60 (by decide), hσ7, zA_sA, if_pos ⟨rfl, rfl, rfl⟩, zu_ne _ _ hr', x0C.2.2.2.1 12 0 60 (by decide)]
      · rw [y2.2.2.2.1 12 0 61 (by decide), xa.2.2.2.1 12 0 61 (by decide), u2.2.2.2.1 12 0 61 (by decide), hσ8, zA_sA, if_neg (by omega), zA_sA, if_pos ⟨rfl, rfl, rfl⟩, zu_ne _ _ hr', x7.2.2.2.1 12 0 61 (by decide), x0C.2.2.2.1 12 0 61 (by decide)]
    -- what is known then
    have fin : ∀ σC σr σ' m1', zEx [(6, 0), (6, 4), (6, 5), (6, 6), (11, 15), (11, 14)] σ6 σC → zEx [(12, 59), (12, 60), (12, 61), (12, 54), (12, 50), (12, 62), (12, 63), (12, 64)] σC σr → zEx [(12, 65)] σr σ' → zI σC 11 0 15 = nI (cl + 1) → zI σC 11 0 14 = nI 0 → zA σr 12 0 59 cl = nI v → zA σr 12 0 60 cl = nI q → zA σr 12 0 61 cl = nI tie → zI σr 12 0 54 = nI 0 → zI σr 12 0 50 = nI (cl + 1) → (∀ r', r' ≠ cl → zA σr 12 0 59 r' = zA σ 12 0 59 r' ∧ zA σr 12 0 60 r' = zA σ 12 0 60 r' ∧ zA σr 12 0 61 r' = zA σ 12 0 61 r') → zA σC 6 0 0 = zA σ6 6 0 0 → zI σC 6 0 6 = zI σ6 6 0 6 → (∀ s, s < 10 → zA σC 6 1 0 s = if m1'.testBit s then 1 else 0) → zI σC 6 1 6 = nI (zpc m1') → m1' < 1024 → (∀ s, m1'.testBit s → m0.testBit s) → m1' ≠ 0 → zI σ' 12 0 65 = nI m1' → (cl = 1 → m1' = m1) → zInv (n + 8) σ' ∧ zSc σ' = zSc σ ∧ zMd σ' = zMd σ := by
      intro σC σr σ' m1' xC xr xe r15 r14 r59 r60 r61 r54 r50 ro g0 g6 g10 g16 mlt msub mne m65 mcl
      have xCe : zEx [(12, 59), (12, 60), (12, 61), (12, 54), (12, 50), (12, 62), (12, 63), (12, 64), (12, 65)] σC σ' := (xr.mo (by decide)).tr (xe.mo (by decide))
      have hEx : zEx [(6, 3), (6, 7), (6, 8), (6, 0), (6, 4), (6, 5), (6, 6), (11, 15), (11, 14), (12, 59), (12, 60), (12, 61), (12, 54), (12, 50), (12, 62), (12, 63), (12, 64), (12, 65)] σ σ' := (x06.mo (by decide)).tr ((xC.mo (by decide)).tr (xCe.mo (by decide)))
      obtain ⟨s1, s2⟩ := zsame2 hEx (by decide)
      refine ⟨⟨iDay_fr hEx (by decide) hDay, iFlt_fr hEx (by decide) hFlt, iTap_fr hEx (by decide) hTap, iNam_fr hEx (by decide) hNam, iSun_fr hEx (by decide) hSun, iSch_fr hEx (by decide) hSch, iPai_fr hEx (by decide) hPai, iQue_fr hEx (by decide) hQue, iPan_fr hEx (by decide) hPan, iWds_fr hEx (by decide) hWds, iBri_fr hEx (by decide) hBri, iMen_mo (iMen_fr hEx (by decide) hMen), ?_⟩, s1, s2⟩
      have q0 := hEx.1
      have q1' := hEx.2.2.2.1
      have hcl2 : cl = 0 ∨ cl = 1 := by omega
      unfold iRnd
      rw [q0 12 0 1 (by decide), k3]
      refine ⟨cl + 1, 0, m0, m1', m2, f, st, by omega, by omega, by omega, by rw [xe.1 12 0 50 (by decide)]; exact r50, by rw [xe.1 12 0 54 (by decide)]; exact r54, (q0 12 0 49 (by decide)).trans e49, (xCe.1 11 0 15 (by decide)).trans r15, ((xCe.1 11 0 14 (by decide)).trans r14).trans (by rw [if_neg (by decide)]), ?_, ?_, b0, msub, by rw [q1' 12 0 58 (by decide)]; exact e58, fun h => by omega, fun _ => n0 (by omega), m65, fun h => by omega, fun _ => mne, by rw [q1' 12 0 58 (by decide)]; exact e581, fun h => ?_, fun h => z3 (by omega), fun r' hr' => ?_, ?_⟩
      · exact iRo1_o o0 o0.1 (by rw [xCe.2.2.2.1 6 0 0 (by decide), g0, x06.2.2.2.1 6 0 0 (by decide)]; exact o0.2.1) (by rw [xCe.1 6 0 6 (by decide), g6, x06.1 6 0 6 (by decide)]; exact o0.2.2.1) (q1' 6 0 1 (by decide)) (q1' 6 0 2 (by decide)) (q1' 12 0 57 (by decide)) (q1' 12 0 56 (by decide)) (q0 12 0 48 (by decide))
      · exact iRo1_o o1 mlt (by rw [xCe.2.2.2.1 6 1 0 (by decide)]; exact g10) (by rw [xCe.1 6 1 6 (by decide)]; exact g16) (q1' 6 1 1 (by decide)) (q1' 6 1 2 (by decide)) (q1' 12 0 57 (by decide)) (q1' 12 0 56 (by decide)) (q0 12 0 48 (by decide))
      · rw [z2 (by omega), mcl (by omega)]
      · have x6e : ∀ k, k = 7 ∨ k = 8 → zI σ' 6 r' k = zI σ6 6 r' k := fun k hk => by
          rcases hk with rfl | rfl
          · rw [xCe.1 6 r' 7 (by decide), xC.1 6 r' 7 (by decide)]
          · rw [xCe.1 6 r' 8 (by decide), xC.1 6 r' 8 (by decide)]
        have x63 : zA σ' 6 r' 3 = zA σ6 6 r' 3 := by rw [xCe.2.2.2.1 6 r' 3 (by decide), xC.2.2.2.1 6 r' 3 (by decide)]
        unfold iRoC
        rw [x6e 7 (Or.inl rfl), x6e 8 (Or.inr rfl), x63, xe.2.2.2.1 12 0 59 (by decide), xe.2.2.2.1 12 0 60 (by decide), xe.2.2.2.1 12 0 61 (by decide), q0 12 0 48 (by decide)]
        by_cases h : r' = cl
        · subst h
          rw [i67, i68, r59, r60, r61]
          refine ⟨⟨v, hv128, rfl, fun j hj => ⟨hv6 j hj, fun h => hV0 j ?_⟩⟩, rfl, ⟨q, by omega, rfl⟩, rfl, ⟨tie, ht, rfl⟩⟩
          rw [J3, nI_leI (by omega) (by omega)] at h
          exact h
        · obtain ⟨p7, p8, p3⟩ := i6o r' h
          obtain ⟨p59, p60, p61⟩ := ro r' h
          rw [p7, p8, p3, p59, p60, p61]
          exact hc r' (by omega)
      · rw [q0 11 0 16 (by decide), q0 12 0 51 (by decide), q0 11 0 17 (by decide), q0 12 0 52 (by decide), q0 11 0 18 (by decide), q0 12 0 53 (by decide)]
        exact d
    by_cases hcl : cl = 0
    · subst hcl
      have em := hm0 rfl
      subst em
      have hz1 := z1 rfl
      have h10 : ∀ s, s < 10 → zA σ6 6 1 0 s = 0 := fun s hs => by
        rw [x06.2.2.2.1 6 1 0 (by decide), o1.2.1 s hs, hz1, Nat.zero_testBit]
        rfl
      have h16 : zI σ6 6 1 6 = 0 := by
        rw [x06.1 6 1 6 (by decide)]
        exact o1.2.2.1.trans (by rw [hz1]; exact congrArg nI zpc_0)
      obtain ⟨σ7, v1, v2, v3, v4, v5, v6⟩ := X6_keep hk6 hv6 i68 i67 hq hmne hT0 hT h10 h16
      have hcm := zrk_zpc (zah (zPts m L R (fun j => v.testBit j) q) (nI tie) (zPc m L R 0)) m
      have he := zrk_e (ah := zah (zPts m L R (fun j => v.testBit j) q) (nI tie) (zPc m L R 0)) (m := m) 10
      have hsrt := zrk_srt (P := zPts m L R (fun j => v.testBit j) q) (tie := nI tie) (pl := zPc m L R 0) (m := m) 10
      have hp := zpc_le m
      have hp0 := zpc_ne om.1 hmne
      obtain ⟨w, hw⟩ : ∃ w, min T (zpc m) = w + 1 := ⟨min T (zpc m) - 1, by omega⟩
      have hwc : w < zpc m := by omega
      rw [hw, Nat.add_sub_cancel] at v5 v6
      obtain ⟨σC, hσC⟩ : ∃ x, x = zsI (zsI σ7 11 0 15 (nI (0 + 1))) 11 0 14 0 := ⟨_, rfl⟩
      have x7C : zEx [(11, 15), (11, 14)] σ7 σC := by rw [hσC]; exact (zEx_sI (by decide)).tr (zEx_sI (by decide))
      have xC : zEx [(6, 0), (6, 4), (6, 5), (6, 6), (11, 15), (11, 14)] σ6 σC := (v2.mo (by decide)).tr (x7C.mo (by decide))
      obtain ⟨σr, y1, y2, y3, y59, y60, y61, y54, y50, yo⟩ := hRf σC xC
      obtain ⟨y63, y62, y64⟩ := y3
      rw [← zrk_10 hb k1, hcm] at y63 y64
      rw [hcm] at he hsrt
      generalize (zrk (zah (zPts m L R (fun j => v.testBit j) q) (nI tie) (zPc m L R 0)) m 10).1 = g at y63 he hsrt v5 v6
      generalize zPts m L R (fun j => v.testBit j) q = P at y62 hsrt v5 v6
      obtain ⟨σe, u1, u2, u3⟩ := X12_keepL (σ := zsI σr 12 0 65 0) (P := P) (f := g) (w := w) hp hwc y64 rfl (fun i hi => ⟨(he.1 i hi).1, y63 i hi, y62 (g i) (hb _ (he.1 i hi).2) (he.1 i hi).2⟩) hsrt
      obtain ⟨K, hK⟩ : ∃ K, K = zkp g (zkg P g w) (zpc m) := ⟨_, rfl⟩
      rw [← hK] at v5 v6 u3
      have hKlt : K < 1024 := by rw [hK]; exact zkp_lt _ (fun a ha => (he.1 a ha).1)
      have hKsub : ∀ s, K.testBit s = true → m.testBit s = true := fun s hs => by
        rw [hK] at hs
        obtain ⟨a, a1, a2, a3⟩ := (zkp_b _).mp hs
        rw [← a3]
        exact (he.1 a a1).2
      have hKne : K ≠ 0 := by
        intro h
        have : K.testBit (g w) = true := by
          rw [hK]
          refine (zkp_b _).mpr ⟨w, hwc, ?_, rfl⟩
          unfold zkg
          rw [decide_eq_false]
          · rfl
          · rw [fa_lt]
            omega
        rw [h, Nat.zero_testBit] at this
        cases this
      have hall := fin σC σr σe K xC y1 (((zEx_sI (by decide)).tr u2)) (by rw [hσC]; rfl) (by rw [hσC]; rfl) y59 y60 y61 y54 y50 yo (by rw [x7C.2.2.2.1 6 0 0 (by decide)]; exact v3) (by rw [x7C.1 6 0 6 (by decide)]; exact v4) (by rw [x7C.2.2.2.1 6 1 0 (by decide)]; exact v5) (by rw [x7C.1 6 1 6 (by decide)]; exact v6) hKlt hKsub hKne u3 (fun h => by omega)
      refine ⟨nI (zpc K), σC, σe, ?_, ?_, hall.1, hall.2.1, hall.2.2⟩
      · show f_X11_close σ = _
        rw [hc1, if_pos rfl, v1, Option.bind_some]
        show f_X11_close_B100 σ7 (zI σ7 6 1 6) = _
        unfold f_X11_close_B100
        have f14 : zI σ7 11 0 14 = nI (0 + 1) := by rw [v2.1 11 0 14 (by decide), x06.1 11 0 14 (by decide), e14]
        rw [f14, zlt_e, zlt_e, ← hσC, v6]
      · show f_X12_close σC = _
        rw [y2, if_pos rfl, Nat.min_comm, hw, u1, Option.bind_some]
        unfold f_X12_close_B224
        rw [u3, X12_bits hKlt, Option.bind_some]
    · have h1 : cl = 1 := by omega
      have em := hm1 h1
      obtain ⟨σC, hσC⟩ : ∃ x, x = zsI (zsI σ6 11 0 15 (nI (cl + 1))) 11 0 14 0 := ⟨_, rfl⟩
      have x6C : zEx [(11, 15), (11, 14)] σ6 σC := by rw [hσC]; exact (zEx_sI (by decide)).tr (zEx_sI (by decide))
      have xC : zEx [(6, 0), (6, 4), (6, 5), (6, 6), (11, 15), (11, 14)] σ6 σC := x6C.mo (by decide)
      obtain ⟨σr, y1, y2, y3, y59, y60, y61, y54, y50, yo⟩ := hRf σC xC
      have hall := fin σC σr σr m1 xC y1 zEx.rf (by rw [hσC]; rfl) (by rw [hσC]; rfl) y59 y60 y61 y54 y50 yo (x6C.2.2.2.1 6 0 0 (by decide)) (x6C.1 6 0 6 (by decide)) (by rw [x6C.2.2.2.1 6 1 0 (by decide), x06.2.2.2.1 6 1 0 (by decide)]; exact o1.2.1) (by rw [x6C.1 6 1 6 (by decide), x06.1 6 1 6 (by decide)]; exact o1.2.2.1) o1.1 b1 (n1 (by omega)) (by rw [y1.1 12 0 65 (by decide), xC.1 12 0 65 (by decide), x06.1 12 0 65 (by decide)]; exact e65) (fun _ => rfl)
      refine ⟨nI (zpc m), σC, σr, ?_, ?_, hall.1, hall.2.1, hall.2.2⟩
      · show f_X11_close σ = _
        rw [hc1, if_neg hcl]
        unfold f_X11_close_B100
        rw [x06.1 11 0 14 (by decide), e14, zlt_e, zlt_e, ← hσC, hk6.2.2.2.1]
      · show f_X12_close σC = _
        rw [y2, if_neg hcl]
