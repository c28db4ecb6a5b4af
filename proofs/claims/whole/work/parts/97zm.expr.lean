/-! expressions: a comparison, by both, whole -/
theorem zJ_cmp {σ σ' : zM} {T : Nat → Nat} {n N i : Nat} {W : Nat → List Nat} {k0 pd t o c m d : Nat} {rc : Nat → zM → Option (Int32 × zM)} (ho : o < 7) (hc : 3 * c + 5 ≤ zTs T n i) (hm : m < 5400) (h : zXp σ σ' T n N i W k0 pd t o c m d) : zXR (f_X4_comparison σ) (f_X12_single_B170 σ' rc) σ σ' T n N i W k0 pd t o c m d 1 0 5 := by
  obtain ⟨hP, hP', hR, h8, h18, h22⟩ := h
  have hN := zTks_N hP.1.1
  have h900 := hP'.1.1.1
  have hSi := (zTs_fix (T := T) (n := n) i).1
  have hc300 : c < 300 := by omega
  obtain ⟨σa, hσa⟩ : ∃ x, x = zsI (zsA (zsA (zsA σ' 12 0 31 m 3) 12 0 32 m (-1)) 12 0 33 m (-1)) 12 0 18 (nI (m + 1)) := ⟨_, rfl⟩
  have xa : zEx [(12, 31), (12, 32), (12, 33), (12, 18)] σ' σa := by
    rw [hσa]
    exact (((zEx_sA (by decide)).tr (zEx_sA (by decide))).tr (zEx_sA (by decide))).tr (zEx_sI (by decide))
  have ba : zBel (znd σ') (znd σa) m := by
    rw [hσa]
    exact (((zbel_s (Nat.le_refl _)).tr (zbel_s (Nat.le_refl _)) (Nat.le_refl _)).tr (zbel_s (Nat.le_refl _)) (Nat.le_refl _)).tr (zbel_x (F := [(12, 18)]) (zEx_sI (by decide)) (by decide)) (Nat.le_refl _)
  have a31 : zA σa 12 0 31 m = 3 := by
    rw [hσa]
    show zA (zsA (zsA (zsA σ' 12 0 31 m 3) 12 0 32 m (-1)) 12 0 33 m (-1)) 12 0 31 m = _
    rw [zA_sA, if_neg (by decide), zA_sA, if_neg (by decide), zA_sA, if_pos ⟨rfl, rfl, rfl⟩, zu_eq]
  have a33 : zA σa 12 0 33 m = -1 := by
    rw [hσa]
    show zA (zsA (zsA (zsA σ' 12 0 31 m 3) 12 0 32 m (-1)) 12 0 33 m (-1)) 12 0 33 m = _
    rw [zA_sA, if_pos ⟨rfl, rfl, rfl⟩, zu_eq]
  have Pa := zPR_x hP' xa (by decide)
  obtain ⟨w, σb, w1, w2, w3, w4, w5⟩ := X12_wrd2 hN hP.1.2.1 Pa.1
  obtain ⟨σc, hσc⟩ : ∃ x, x = zsA σb 12 0 34 m (f_X12_asked w) := ⟨_, rfl⟩
  have xc : zEx [(12, 34)] σb σc := by rw [hσc]; exact zEx_sA (by decide)
  have bc : zBel (znd σ') (znd σc) m := (ba.tr (zbel_x w2 (by decide)) (Nat.le_refl _)).tr (by rw [hσc]; exact zbel_s (Nat.le_refl _)) (Nat.le_refl _)
  have x0c : zEx zFxR σ' σc := (xa.mo (by decide)).tr ((w2.mo (by decide)).tr (xc.mo (by decide)))
  have c34 : zA σc 12 0 34 m = f_X12_asked w := by rw [hσc, zA_sA, if_pos ⟨rfl, rfl, rfl⟩, zu_eq]
  have nsc : zNmS σc W (k0 + pd) := zNmS_x (zNmS_x Pa.2.1 w2 (by decide) (by decide)) xc (by decide) (by decide)
  have tc : zI σc 12 0 23 = nI t := by rw [xc.1 12 0 23 (by decide), w2.1 12 0 23 (by decide)]; exact Pa.2.2
  have hr0 : f_X12_single_B170 σ' rc = if f_X12_asked w = (-1) then (some ((-1), σc)) else (zlt (zsI σc 12 0 21 (zI σc 12 0 40)) fun σ14 => (f_X12_takesSign σ14 60).bind fun q15 => if q15.1 = 0 then ((f_X12_takesSign q15.2 62).bind fun q18 => if q18.1 = 0 then ((f_X12_takesSign q18.2 61).bind fun q21 => f_X12_single_B257 q21.2 rc (nI m) (nI m) (if q21.1 = 0 then (-1) else 61 : Int32)) else (f_X12_single_B257 q18.2 rc (nI m) (nI m) 62)) else (f_X12_single_B257 q15.2 rc (nI m) (nI m) 60)) := by
    unfold f_X12_single_B170
    rw [X12_nd h18 hm, Option.bind_some, ← hσa]
    show ((f_X12_word_ σa).bind _) = _
    rw [w1, Option.bind_some]
    show ((zix (nI m) 5400).bind fun i10 => zlt (zsA σb 12 0 34 i10 (f_X12_asked w)) _) = _
    rw [zix_n hm (by omega), Option.bind_some, zlt_e, ← hσc]
    rw [Option.bind_some, c34]
  have hbad : (∀ c', c' = 7 ∨ (29 ≤ c' ∧ c' ≤ 35) → zKw T n N i ≠ nI c') → f_X4_comparison σ = some (0, σ) → zXR (f_X4_comparison σ) (f_X12_single_B170 σ' rc) σ σ' T n N i W k0 pd t o c m d 1 0 5 := fun hb hcl => by
    have hask : f_X12_asked w = -1 := zask_n (fun c' hc' e => hb c' hc' ((w4 c' (by omega)).mp e))
    refine Or.inr ⟨σ, σc, i, hcl, ?_, zEx.rf, x0c, zXo.rf, hP, ⟨zRN_x w3 xc (by decide) (by decide) (by decide), nsc, tc⟩, bc⟩
    rw [hr0, if_pos hask]
  rcases zKw_v T n N i with e | ⟨c', hc', e⟩
  · refine hbad (fun c' hc' h => znI_m1 (show c' < 2147483648 by omega) (h.symm.trans e)) ?_
    unfold f_X4_comparison
    rw [X4_kw hP.1, Option.bind_some, e, if_neg (by decide), if_pos (by decide)]
  · by_cases hset : c' = 7 ∨ (29 ≤ c' ∧ c' ≤ 35)
    rotate_left
    · refine hbad (fun c'' hc'' h => ?_) ?_
      · rw [e, nI_eq (by omega) (by omega)] at h
        exact hset (by rw [h]; exact hc'')
      · unfold f_X4_comparison
        rw [X4_kw hP.1, Option.bind_some, e, if_neg (by rw [zq7, nI_eq (by omega) (by omega)]; omega), if_pos (by rw [show (29 : Int32) = nI 29 from rfl, nI_ltI (by omega) (by omega)]; omega)]
    · obtain ⟨k1, k2, k3, -⟩ := zask c' hset
      have hw : w = zW8t c' := (w4 c' hc').mpr e
      obtain ⟨p1, p2, p3⟩ := w5 c' hc' e
      have hask : f_X12_asked w = nI (zsub (nI c')) := by rw [hw, k1]
      have hcl : f_X4_comparison σ = f_X4_comparison_B25 σ (nI c') := by
        unfold f_X4_comparison
        rw [X4_kw hP.1, Option.bind_some, e]
        by_cases h7 : c' = 7
        · rw [if_pos (by rw [h7]; rfl)]
        · rw [if_neg (by rw [zq7, nI_eq (by omega) (by omega)]; exact h7), if_neg (by rw [show (29 : Int32) = nI 29 from rfl, nI_ltI (by omega) (by omega)]; omega), if_pos (by rw [show (35 : Int32) = nI 35 from rfl, nI_leI (by omega) (by omega)]; omega)]
      obtain ⟨σ4, hσ4⟩ : ∃ x, x = zsI σ 4 0 8 (nI (i + 1)) := ⟨_, rfl⟩
      have x4 : zEx [(4, 8)] σ σ4 := by rw [hσ4]; exact zEx_sI (by decide)
      have P4 : zPC σ4 T n N (i + 1) W k0 pd t := by rw [hσ4]; exact zPC_go hP p2
      obtain ⟨σd, hσd⟩ : ∃ x, x = zsI σc 12 0 21 (zI σc 12 0 40) := ⟨_, rfl⟩
      have xd : zEx [(12, 21)] σc σd := by rw [hσd]; exact zEx_sI (by decide)
      have Pd : zPR σd T n (i + 1) W (k0 + pd) t := by
        refine ⟨?_, zNmS_x nsc xd (by decide) (by decide), (xd.1 12 0 23 (by decide)).trans tc⟩
        have h1 := zRP_x (σ' := σd) (F := [(12, 34)]) p1 ?_ (by decide) (by decide) (by decide)
        · exact h1
        · rw [hσd, hσc]
          exact ⟨fun _ _ _ _ => rfl, fun _ _ _ _ => rfl, fun _ _ _ _ => rfl, (zEx_sA (F := [(12, 34)]) (by decide)).2.2.2.1, fun _ _ _ _ => rfl, fun _ _ _ _ => rfl⟩
      have hcl2 : f_X4_comparison σ = ((f_X4_isSign σ4 60).bind fun r5 => if r5 = 0 then ((f_X4_isSign σ4 62).bind fun r8 => if r8 = 0 then (f_X4_comparison_B65 σ4 (nI c') 61) else (f_X4_comparison_B65 σ4 (nI c') 62)) else (f_X4_comparison_B65 σ4 (nI c') 60)) := by
        rw [hcl]
        unfold f_X4_comparison_B25
        rw [hP.1.2.2, nI_1, zlt_e, ← hσ4]
      have hrf2 : f_X12_single_B170 σ' rc = ((f_X12_takesSign σd 60).bind fun q15 => if q15.1 = 0 then ((f_X12_takesSign q15.2 62).bind fun q18 => if q18.1 = 0 then ((f_X12_takesSign q18.2 61).bind fun q21 => f_X12_single_B257 q21.2 rc (nI m) (nI m) (if q21.1 = 0 then (-1) else 61 : Int32)) else (f_X12_single_B257 q18.2 rc (nI m) (nI m) 62)) else (f_X12_single_B257 q15.2 rc (nI m) (nI m) 60)) := by
        rw [hr0, hask, if_neg (znI_m1 (by omega)), ← hσd, zlt_e]
      have hT := zTr_T hP'.1.1
      have bd : zBel (znd σ') (znd σd) m := bc.tr (zbel_x xd (by decide)) (Nat.le_refl _)
      have x0d : zEx zFxR σ' σd := x0c.tr (xd.mo (by decide))
      -- with a sign that is there
      have key : ∀ s σr, s < 3 → zEx [(12, 21)] σd σr → f_X4_comparison σ = ((f_X4_takeNumber (zsI σ4 4 0 8 (nI (i + 1 + 1))) 0 999999).bind fun q14 => if q14.1 = 0 then (some (0, q14.2)) else (znu (zR q14.2 4 0 7) none (fun j17 => (f_X0_emit q14.2 j17 (f_X0_comparison (nI c') (nI (60 + s)) (zI q14.2 4 0 9))).bind fun q21 => if q21.1 = 0 then (some (0, q21.2)) else (some (1, q21.2))))) → f_X12_single_B170 σ' rc = f_X12_single_B257 σr rc (nI m) (nI m) (nI (60 + s)) → zPC (zsI σ4 4 0 8 (nI (i + 1 + 1))) T n N (i + 1 + 1) W k0 pd t → zPR σr T n (i + 1 + 1) W (k0 + pd) t → zTs T n (i + 1) + 1 ≤ zTs T n (i + 1 + 1) → zXR (f_X4_comparison σ) (f_X12_single_B170 σ' rc) σ σ' T n N i W k0 pd t o c m d 1 0 5 := by
        intro s σr hs xr e1 e2 P5 Pr hS5
        obtain ⟨σ5, hσ5⟩ : ∃ x, x = zsI σ4 4 0 8 (nI (i + 1 + 1)) := ⟨_, rfl⟩
        have x5 : zEx [(4, 8)] σ4 σ5 := by rw [hσ5]; exact zEx_sI (by decide)
        rw [← hσ5] at e1 P5
        have x05 : zEx [(4, 8)] σ σ5 := x4.tr x5
        have R5 : zR σ5 4 0 7 = some o := by rw [x05.2.2.1 4 0 7 (by decide)]; exact hR
        have h85 : zI σ5 0 o 8 = nI c := by rw [x05.1 0 o 8 (by decide)]; exact h8
        have x0r : zEx zFxR σ' σr := x0d.tr (xr.mo (by decide))
        have br : zBel (znd σ') (znd σr) m := bd.tr (zbel_x xr (by decide)) (Nat.le_refl _)
        rcases zJ_cmp2 (rc := rc) (code := c') hs (by omega) ho hc300 hm P5 Pr R5 h85 with ⟨v, σ6, σs, q1, q2, q3, q4, q5, q6, q7, q8, q9, q10, q11, q12, q13, q14, q15⟩ | ⟨σs, q2, q3, q5, q7, q8⟩
        · left
          have n31 : zA σs 12 0 31 m = 3 := by
            rw [q5.2.2.2.1 12 0 31 (by decide), xr.2.2.2.1 12 0 31 (by decide), xd.2.2.2.1 12 0 31 (by decide), xc.2.2.2.1 12 0 31 (by decide), w2.2.2.2.1 12 0 31 (by decide), a31]
          have n33 : zA σs 12 0 33 m = -1 := by
            rw [q5.2.2.2.1 12 0 33 (by decide), xr.2.2.2.1 12 0 33 (by decide), xd.2.2.2.1 12 0 33 (by decide), xc.2.2.2.1 12 0 33 (by decide), w2.2.2.2.1 12 0 33 (by decide), a33]
          have n34 : zA σs 12 0 34 m = nI (zsub (nI c')) := by
            rw [q5.2.2.2.1 12 0 34 (by decide), xr.2.2.2.1 12 0 34 (by decide), xd.2.2.2.1 12 0 34 (by decide), c34, hask]
          have n18 : zI σs 12 0 18 = nI (m + 1) := by
            rw [q5.1 12 0 18 (by decide), xr.1 12 0 18 (by decide), xd.1 12 0 18 (by decide), xc.1 12 0 18 (by decide), w2.1 12 0 18 (by decide), hσa]
            rfl
          have n22 : zI σs 12 0 22 = nI d := by
            rw [q5.1 12 0 22 (by decide), xr.1 12 0 22 (by decide), xd.1 12 0 22 (by decide), xc.1 12 0 22 (by decide), w2.1 12 0 22 (by decide), xa.1 12 0 22 (by decide)]
            exact h22
          refine ⟨σ6, σs, i + 1 + 1 + 1, c + 1, m + 1, m, fun m' => if s = 0 then decide (m' (zsub (nI c')) < nI v) else if s = 1 then decide (m' (zsub (nI c')) = nI v) else decide (nI v < m' (zsub (nI c'))), e1.trans q2, e2.trans q3, (x05.mo (by decide)).tr q4, x0r.tr (q5.mo (by decide)), (zXo_x x05 (by decide) (by decide)).tr q6, ⟨q13, q14, ?_, q10, n18, n22⟩, by omega, by omega, fun x hx => ?_, br.tr q7 (Nat.le_refl _), by omega, by omega, by omega, ?_, ?_, n33⟩
          · rw [q4.2.2.1 4 0 7 (by decide)]
            exact R5
          · rw [q12 x hx, x05.2.2.2.1 0 o 4 (by decide)]
          · rw [zseg_1, q11]
            exact zCo_cmp hs (by omega) q1
          · refine ⟨Nat.le_refl _, Nat.lt_succ_self _, n31, zsub (nI c'), k2, n34, ?_⟩
            show (zA σs 12 0 35 m = 60 ∧ _ = fun (m' : Nat → Int32) => decide (m' (zsub (nI c')) < zA σs 12 0 36 m)) ∨ (zA σs 12 0 35 m = 61 ∧ _ = fun (m' : Nat → Int32) => decide (m' (zsub (nI c')) = zA σs 12 0 36 m)) ∨ (zA σs 12 0 35 m = 62 ∧ _ = fun (m' : Nat → Int32) => decide (zA σs 12 0 36 m < m' (zsub (nI c'))))
            rw [q8, q9]
            have hs3 : s = 0 ∨ s = 1 ∨ s = 2 := by omega
            rcases hs3 with rfl | rfl | rfl
            · exact Or.inl ⟨rfl, rfl⟩
            · exact Or.inr (Or.inl ⟨rfl, rfl⟩)
            · exact Or.inr (Or.inr ⟨rfl, rfl⟩)
        · exact Or.inr ⟨σ5, σs, i + 1 + 1, e1.trans q2, e2.trans q3, x05.mo (by decide), x0r.tr (q5.mo (by decide)), zXo_x x05 (by decide) (by decide), P5, q8, br.tr q7 (Nat.le_refl _)⟩
      have cB : ∀ b, f_X4_takeSign σ4 (nI b) = some (1, zsI σ4 4 0 8 (nI (i + 1 + 1))) → f_X4_comparison_B65 σ4 (nI c') (nI b) = ((f_X4_takeNumber (zsI σ4 4 0 8 (nI (i + 1 + 1))) 0 999999).bind fun q14 => if q14.1 = 0 then (some (0, q14.2)) else (znu (zR q14.2 4 0 7) none (fun j17 => (f_X0_emit q14.2 j17 (f_X0_comparison (nI c') (nI b) (zI q14.2 4 0 9))).bind fun q21 => if q21.1 = 0 then (some (0, q21.2)) else (some (1, q21.2))))) := fun b hb => by
        unfold f_X4_comparison_B65
        rw [hb, Option.bind_some]
        show (if (1 : Int32) = 0 then _ else _) = _
        rw [if_neg z10]
      have i60 : f_X4_isSign σ4 60 = some (if zIsS T n N (i + 1) 60 then 1 else 0) := X4_isSign (b := 60) (by decide) (by decide) hT P4.1
      have i62 : f_X4_isSign σ4 62 = some (if zIsS T n N (i + 1) 62 then 1 else 0) := X4_isSign (b := 62) (by decide) (by decide) hT P4.1
      obtain ⟨σe, y1, y2⟩ := zJ_s (b := 60) (by decide) (by decide) P4 Pd
      rw [i60, Option.bind_some] at hcl2
      rcases y2 with ⟨g1, g2, g3, g4, g5, g6, g7⟩ | ⟨g1, g3, g4, g5, g6⟩
      · rw [g1, if_pos rfl, if_neg z10] at hcl2
        refine key 0 σe (by omega) y1 (hcl2.trans (cB 60 g3)) ?_ g5 g6 g7
        rw [hrf2, show f_X12_takesSign σd 60 = some (1, σe) from g4, Option.bind_some]
        show (if (1 : Int32) = 0 then _ else f_X12_single_B257 σe rc (nI m) (nI m) 60) = _
        rw [if_neg z10]
        rfl
      · rw [g1, if_pos (show (if false = true then 1 else 0 : Int32) = 0 from rfl), i62, Option.bind_some] at hcl2
        have hrf3 : f_X12_single_B170 σ' rc = ((f_X12_takesSign σe 62).bind fun q18 => if q18.1 = 0 then ((f_X12_takesSign q18.2 61).bind fun q21 => f_X12_single_B257 q21.2 rc (nI m) (nI m) (if q21.1 = 0 then (-1) else 61 : Int32)) else (f_X12_single_B257 q18.2 rc (nI m) (nI m) 62)) := by
          rw [hrf2, show f_X12_takesSign σd 60 = some (0, σe) from g4, Option.bind_some]
          show (if (0 : Int32) = 0 then _ else _) = _
          rw [if_pos rfl]
        obtain ⟨σf, y3, y4⟩ := zJ_s (b := 62) (by decide) (by decide) P4 (zPX_R g6)
        rcases y4 with ⟨l1, l2, l3, l4, l5, l6, l7⟩ | ⟨l1, l3, l4, l5, l6⟩
        · rw [l1, if_pos rfl, if_neg z10] at hcl2
          refine key 2 σf (by omega) (y1.tr y3) (hcl2.trans (cB 62 l3)) ?_ l5 l6 l7
          rw [hrf3, show f_X12_takesSign σe 62 = some (1, σf) from l4, Option.bind_some]
          show (if (1 : Int32) = 0 then _ else f_X12_single_B257 σf rc (nI m) (nI m) 62) = _
          rw [if_neg z10]
          rfl
        · rw [l1, if_pos (show (if false = true then 1 else 0 : Int32) = 0 from rfl)] at hcl2
          have hrf4 : f_X12_single_B170 σ' rc = ((f_X12_takesSign σf 61).bind fun q21 => f_X12_single_B257 q21.2 rc (nI m) (nI m) (if q21.1 = 0 then (-1) else 61 : Int32)) := by
            rw [hrf3, show f_X12_takesSign σe 62 = some (0, σf) from l4, Option.bind_some]
            show (if (0 : Int32) = 0 then _ else _) = _
            rw [if_pos rfl]
          obtain ⟨σg, y5, y6⟩ := zJ_s (b := 61) (by decide) (by decide) P4 (zPX_R l6)
          rcases y6 with ⟨j1, j2, j3, j4, j5, j6, j7⟩ | ⟨j1, j3, j4, j5, j6⟩
          · refine key 1 σg (by omega) ((y1.tr y3).tr y5) (hcl2.trans (cB 61 j3)) ?_ j5 j6 j7
            rw [hrf4, show f_X12_takesSign σf 61 = some (1, σg) from j4, Option.bind_some]
            show f_X12_single_B257 σg rc (nI m) (nI m) (if (1 : Int32) = 0 then (-1) else 61 : Int32) = _
            rw [if_neg z10]
            rfl
          · right
            obtain ⟨σh, hσh⟩ : ∃ x, x = zsA σg 12 0 35 m (-1) := ⟨_, rfl⟩
            have xh : zEx [(12, 35)] σg σh := by rw [hσh]; exact zEx_sA (by decide)
            have xdg : zEx [(12, 21)] σd σg := (y1.tr y3).tr y5
            refine ⟨zsI σ4 4 0 8 (nI (i + 1)), σh, i + 1, ?_, ?_, (x4.mo (by decide)).tr (zEx_sI (by decide)), x0d.tr ((xdg.mo (by decide)).tr (xh.mo (by decide))), zXo_x (x4.tr (zEx_sI (by decide))) (by decide) (by decide), j5, zPX_x j6 xh (by decide), (bd.tr (zbel_x xdg (by decide)) (Nat.le_refl _)).tr (by rw [hσh]; exact zbel_s (Nat.le_refl _)) (Nat.le_refl _)⟩
            · rw [hcl2]
              unfold f_X4_comparison_B65
              rw [show f_X4_takeSign σ4 61 = some (0, zsI σ4 4 0 8 (nI (i + 1))) from j3, Option.bind_some]
              show (if (0 : Int32) = 0 then _ else _) = _
              rw [if_pos rfl]
            · rw [hrf4, show f_X12_takesSign σf 61 = some (0, σg) from j4, Option.bind_some]
              show f_X12_single_B257 σg rc (nI m) (nI m) (if (0 : Int32) = 0 then (-1) else 61 : Int32) = _
              rw [if_pos rfl]
              unfold f_X12_single_B257
              rw [zix_n hm (by omega), Option.bind_some, zlt_e, ← hσh, Option.bind_some, hσh]
              rw [show zA (zsA σg 12 0 35 m (-1)) 12 0 35 m = -1 from by rw [zA_sA, if_pos ⟨rfl, rfl, rfl⟩, zu_eq], if_pos rfl]
