/-! expressions: one part -/
theorem zXR_up {fc fr : Option (Int32 × zM)} {σ σ' σb : zM} {T : Nat → Nat} {n N i : Nat} {W : Nat → List Nat} {k0 pd t o c m d D L e D1 L1 : Nat} (h : zXR fc fr σ σb T n N i W k0 pd t o c m d D1 L1 e) (hx : zEx [(12, 21), (12, 40)] σ' σb) (hD : D1 ≤ D) (hL : L1 ≤ L) : zXR fc fr σ σ' T n N i W k0 pd t o c m d D L e := by
  rcases h with ⟨σ1, σ1', i', c', m', node, V, a1, a2, b1, b2, b3, b4, b5, b6, b7, b8, b9, b10, b11, b12, b13, b14⟩ | ⟨σ1, σ1', i', a1, a2, b1, b2, b3, b4, b5, b6⟩
  · exact Or.inl ⟨σ1, σ1', i', c', m', node, V, a1, a2, b1, (hx.mo (by decide)).tr b2, b3, b4, b5, b6, b7, (zbel_x hx (by decide)).tr b8 (Nat.le_refl _), b9, b10, b11, zCo_up b12 hD, zNx_up hL b13, b14⟩
  · exact Or.inr ⟨σ1, σ1', i', a1, a2, b1, (hx.mo (by decide)).tr b2, b3, b4, b5, (zbel_x hx (by decide)).tr b6 (Nat.le_refl _)⟩
theorem zJ_one {T : Nat → Nat} {n N : Nat} {W : Nat → List Nat} {k0 pd t o C d D L Da La Do Lo : Nat} {rc : Nat → zM → Int32 → Option (Int32 × zM)} {rr : Nat → zM → Option (Int32 × zM)} (ho : o < 7) (hC : C ≤ 4455) (hd : d ≤ 10) (hD1 : 1 ≤ D) (hDa : d < 10 → Da ≤ D) (hLa : d < 10 → La ≤ L)
    (iha : d < 10 → zIH T n N W k0 pd t o C (fun σ => rc 0 σ (nI (d + 1))) (fun σ => rr 0 σ) (d + 1) Da La 3 0)
    (iho : d < 10 → Do ≤ D ∧ 1 ≤ Do ∧ Lo + 1 ≤ L ∧ zIH T n N W k0 pd t o C (fun σ => rc 2 σ (nI (d + 1))) (fun σ => rr 2 σ) (d + 1) Do Lo 5 2) : zIH T n N W k0 pd t o C (fun σ => f_X4_one σ rc (nI d)) (fun σ => f_X12_single σ rr) d D L 5 2 := by
  intro σ σ' i c m h0 hm hX
  show zXR (f_X4_one σ rc (nI d)) (f_X12_single σ' rr) σ σ' T n N i W k0 pd t o c m d D L 5
  obtain ⟨hP, hP', hR, h8, h18, h22⟩ := id hX
  have hN := zTks_N hP.1.1
  have hn9 := hP'.1.1.1
  have hSi := (zTs_fix (T := T) (n := n) i).1
  have hm5 : m < 5400 := by omega
  have hT := zTr_T hP'.1.1
  obtain ⟨w, σb, w1, w2, w3, w4, w5⟩ := X12_wrd2 hN hP.1.2.1 hP'.1
  have nsb := zNmS_x hP'.2.1 w2 (by decide) (by decide)
  have tb : zI σb 12 0 23 = nI t := (w2.1 12 0 23 (by decide)).trans hP'.2.2
  have b18 : zI σb 12 0 18 = nI m := (w2.1 12 0 18 (by decide)).trans h18
  have b22 : zI σb 12 0 22 = nI d := (w2.1 12 0 22 (by decide)).trans h22
  have hPb : zPX σb T n i W (k0 + pd) t := ⟨w3, nsb, tb⟩
  have bb : ∀ M, zBel (znd σ') (znd σb) M := fun M => zbel_x w2 (by decide)
  have hkw := X4_kw hP.1
  by_cases hnot : zKw T n N i = nI 23
  · have hw : w = 7237492 := by rw [← z8_23]; exact (w4 23 (by omega)).mpr hnot
    obtain ⟨p1, p2, p3⟩ := w5 23 (by omega) hnot
    have hl23 : (zLq 23).length = 3 := by decide +kernel
    have hcl : f_X4_one σ rc (nI d) = f_X4_one_B33 σ rc (nI d) 1 := by
      unfold f_X4_one
      rw [hkw, Option.bind_some, hnot, if_pos (show nI 23 = 23 from rfl), if_neg z10]
    have hrf : f_X12_single σ' rr = (if (zI σb 12 0 22) = 10 then (some ((-1), σb)) else (zlt (zsI σb 12 0 22 ((zI σb 12 0 22) + 1)) fun σ47 => zlt (zsI σ47 12 0 21 (zI σ47 12 0 40)) fun σ48 => (f_X12_node σ48 2).bind fun q49 => (rr 2 q49.2).bind fun q51 => (zix q49.1 5400).bind fun i53 => zlt (zsA q51.2 12 0 32 i53 q51.1) fun σ54 => zlt (zsI σ54 12 0 22 ((zI σ54 12 0 22) - 1)) fun σ55 => if q51.1 = (-1) then (some ((-1), σ55)) else (some (q49.1, σ55)))) := by
      unfold f_X12_single
      rw [w1, Option.bind_some]
      show (if w = 7237492 then _ else _) = _
      rw [if_pos hw]
    by_cases hd10 : d = 10
    · refine Or.inr ⟨σ, σb, i, ?_, ?_, zEx.rf, w2.mo (by decide), zXo.rf, hP, hPb, bb m⟩
      · rw [hcl]
        unfold f_X4_one_B33
        rw [hd10, if_neg (by decide)]
      · rw [hrf, b22, hd10, if_pos (show nI 10 = 10 from rfl)]
    · have hdl : d < 10 := by omega
      obtain ⟨hDo, hDo1, hLo, ih⟩ := iho hdl
      obtain ⟨σ8, hσ8⟩ : ∃ x, x = zsI σ 4 0 8 (nI (i + 1)) := ⟨_, rfl⟩
      have x8 : zEx [(4, 8)] σ σ8 := by rw [hσ8]; exact zEx_sI (by decide)
      have P8 : zPC σ8 T n N (i + 1) W k0 pd t := by rw [hσ8]; exact zPC_go hP p2
      obtain ⟨σc, hσc⟩ : ∃ x, x = zsI (zsI σb 12 0 22 (nI (d + 1))) 12 0 21 (zI σb 12 0 40) := ⟨_, rfl⟩
      have xc : zEx [(12, 22), (12, 21)] σb σc := by rw [hσc]; exact (zEx_sI (by decide)).tr (zEx_sI (by decide))
      have Pc : zPR σc T n (i + 1) W (k0 + pd) t := by
        obtain ⟨g1, q, g2, g3, g4⟩ := p1
        exact ⟨⟨zTr_fr w3.1 xc (by decide) (by decide), q, g2, g3, by rw [hσc]; exact g4⟩, zNmS_x nsb xc (by decide) (by decide), (xc.1 12 0 23 (by decide)).trans tb⟩
      have c18 : zI σc 12 0 18 = nI m := (xc.1 12 0 18 (by decide)).trans b18
      obtain ⟨σd, hσd⟩ : ∃ x, x = zsI (zsA (zsA (zsA σc 12 0 31 m 2) 12 0 32 m (-1)) 12 0 33 m (-1)) 12 0 18 (nI (m + 1)) := ⟨_, rfl⟩
      have xd : zEx [(12, 31), (12, 32), (12, 33), (12, 18)] σc σd := by
        rw [hσd]
        exact (((zEx_sA (by decide)).tr (zEx_sA (by decide))).tr (zEx_sA (by decide))).tr (zEx_sI (by decide))
      have bd : zBel (znd σc) (znd σd) m := by
        rw [hσd]
        exact (((zbel_s (Nat.le_refl _)).tr (zbel_s (Nat.le_refl _)) (Nat.le_refl _)).tr (zbel_s (Nat.le_refl _)) (Nat.le_refl _)).tr (zbel_x (F := [(12, 18)]) (zEx_sI (by decide)) (by decide)) (Nat.le_refl _)
      have d31 : zA σd 12 0 31 m = 2 := by
        rw [hσd]
        show zA (zsA (zsA (zsA σc 12 0 31 m 2) 12 0 32 m (-1)) 12 0 33 m (-1)) 12 0 31 m = _
        rw [zA_sA, if_neg (by decide), zA_sA, if_neg (by decide), zA_sA, if_pos ⟨rfl, rfl, rfl⟩, zu_eq]
      have d33 : zA σd 12 0 33 m = -1 := by
        rw [hσd]
        show zA (zsA (zsA (zsA σc 12 0 31 m 2) 12 0 32 m (-1)) 12 0 33 m (-1)) 12 0 33 m = _
        rw [zA_sA, if_pos ⟨rfl, rfl, rfl⟩, zu_eq]
      have hrf2 : f_X12_single σ' rr = ((rr 2 σd).bind fun q51 => (zix (nI m) 5400).bind fun i53 => zlt (zsA q51.2 12 0 32 i53 q51.1) fun σ54 => zlt (zsI σ54 12 0 22 ((zI σ54 12 0 22) - 1)) fun σ55 => if q51.1 = (-1) then (some ((-1), σ55)) else (some (nI m, σ55))) := by
        rw [hrf, b22, if_neg (by rw [zq10, nI_eq (by omega) (by omega)]; exact hd10), nI_1, zlt_e]
        rw [show zI (zsI σb 12 0 22 (nI (d + 1))) 12 0 40 = zI σb 12 0 40 from rfl, zlt_e, ← hσc, X12_nd c18 hm5, Option.bind_some, ← hσd]
      have hcl2 : f_X4_one σ rc (nI d) = ((rc 2 σ8 (nI (d + 1))).bind fun q16 => if q16.1 = 0 then (some (0, q16.2)) else (znu (zR q16.2 4 0 7) none (fun j19 => (f_X0_emit q16.2 j19 (-3)).bind fun q21 => if q21.1 = 0 then (some (0, q21.2)) else (some (1, q21.2))))) := by
        rw [hcl]
        unfold f_X4_one_B33
        rw [if_pos (by rw [zq10]; exact nI_lt hdl (by omega)), hP.1.2.2, nI_1, zlt_e, ← hσ8, if_neg z10, nI_1]
      have X8 : zXp σ8 σd T n N (i + 1) W k0 pd t o c (m + 1) (d + 1) := ⟨P8, zPR_x Pc xd (by decide), by rw [x8.2.2.1 4 0 7 (by decide)]; exact hR, by rw [x8.1 0 o 8 (by decide)]; exact h8, by rw [hσd]; rfl, by rw [xd.1 12 0 22 (by decide), hσc]; rfl⟩
      have o8 := zXo_x (o := o) x8 (by decide) (by decide)
      have xrd : zEx zFxR σ' σd := (w2.mo (by decide)).tr ((xc.mo (by decide)).tr (xd.mo (by decide)))
      have brd : zBel (znd σ') (znd σd) m := ((bb m).tr (zbel_x xc (by decide)) (Nat.le_refl _)).tr bd (Nat.le_refl _)
      rcases ih σ8 σd (i + 1) c (m + 1) (by omega) (by omega) X8 with ⟨σ2, σ2', i2, c2, m2, node, U, a1, a2, b1, b2, b3, b4, b5, b6, b7, b8, b9, b10, b11, b12, b13, b14⟩ | ⟨σ2, σ2', i2, a1, a2, b1, b2, b3, b4, b5, b6⟩
      · left
        have a1' : rc 2 σ8 (nI (d + 1)) = some (1, σ2) := a1
        have a2' : rr 2 σd = some (nI node, σ2') := a2
        obtain ⟨p2', p2r, R2, h82, h182, h222⟩ := b4
        have hS2 := (zTs_fix (T := T) (n := n) i2).1
        have hnb := zNx_b b13
        have hc2 : c2 < 300 := by omega
        obtain ⟨σ3, hσ3⟩ : ∃ x, x = zsI (zsA σ2 0 o 4 c2 (-3)) 0 o 8 (nI (c2 + 1)) := ⟨_, rfl⟩
        have x3 : zEx [(0, 4), (0, 8)] σ2 σ3 := by rw [hσ3]; exact (zEx_sA (by decide)).tr (zEx_sI (by decide))
        have o3 : zXo σ2 σ3 o := fun o' ho' => ⟨by
          rw [hσ3]
          show zA (zsA σ2 0 o 4 c2 (-3)) 0 o' 4 = _
          rw [zA_sA, if_neg (fun e => ho' e.2.1)], by
          rw [hσ3, zI_sI, if_neg (fun e => ho' e.2.1)]
          rfl⟩
        have c3 : ∀ x, x < c2 → zA σ3 0 o 4 x = zA σ2 0 o 4 x := fun x hx => by
          rw [hσ3]
          show zA (zsA σ2 0 o 4 c2 (-3)) 0 o 4 x = _
          rw [zA_sA, if_pos ⟨rfl, rfl, rfl⟩, zu_ne _ _ (by omega)]
        have c3' : zA σ3 0 o 4 c2 = -3 := by
          rw [hσ3]
          show zA (zsA σ2 0 o 4 c2 (-3)) 0 o 4 c2 = _
          rw [zA_sA, if_pos ⟨rfl, rfl, rfl⟩, zu_eq]
        obtain ⟨σ3', hσ3'⟩ : ∃ x, x = zsI (zsA σ2' 12 0 32 m (nI node)) 12 0 22 (nI d) := ⟨_, rfl⟩
        have x3' : zEx [(12, 32), (12, 22)] σ2' σ3' := by rw [hσ3']; exact (zEx_sA (by decide)).tr (zEx_sI (by decide))
        have eO : ∀ kk, kk ≠ 32 → zA σ3' 12 0 kk = zA σ2' 12 0 kk := fun kk hkk => by
          rw [hσ3']
          show zA (zsA σ2' 12 0 32 m (nI node)) 12 0 kk = _
          rw [zA_sA, if_neg (fun e => hkk e.2.2)]
        have e32 : ∀ x, x ≠ m → zA σ3' 12 0 32 x = zA σ2' 12 0 32 x := fun x hx => by
          rw [hσ3']
          show zA (zsA σ2' 12 0 32 m (nI node)) 12 0 32 x = _
          rw [zA_sA, if_pos ⟨rfl, rfl, rfl⟩, zu_ne _ _ hx]
        have e32m : zA σ3' 12 0 32 m = nI node := by
          rw [hσ3']
          show zA (zsA σ2' 12 0 32 m (nI node)) 12 0 32 m = _
          rw [zA_sA, if_pos ⟨rfl, rfl, rfl⟩, zu_eq]
        have nx3 : zNx (znd σ3') m2 Lo (m + 1) node U := zNx_ag (N := znd σ2') (N' := znd σ3') (Nat.le_refl _) (fun j hj _ => ⟨congrFun (eO 31 (by decide)) j, e32 j (by omega), congrFun (eO 34 (by decide)) j, congrFun (eO 35 (by decide)) j, congrFun (eO 36 (by decide)) j⟩) (fun j _ _ => congrFun (eO 33 (by decide)) j) b13
        obtain ⟨m31, -, m33, -⟩ := b8 m (Nat.lt_succ_self m)
        have bl3 : zBel (znd σ2') (znd σ3') m := fun j hj => ⟨congrFun (eO 31 (by decide)) j, e32 j (by omega), congrFun (eO 33 (by decide)) j, congrFun (eO 34 (by decide)) j, congrFun (eO 35 (by decide)) j, congrFun (eO 36 (by decide)) j⟩
        refine ⟨σ3, σ3', i2, c2 + 1, m2, m, fun mm => !(U mm), ?_, ?_, (x8.mo (by decide)).tr (b1.tr (x3.mo (by decide))), xrd.tr (b2.tr (x3'.mo (by decide))), o8.tr (b3.tr o3), ⟨zPC_x p2' x3 (by decide), zPR_x p2r x3' (by decide), by rw [x3.2.2.1 4 0 7 (by decide)]; exact R2, by rw [hσ3, zI_sI, if_pos ⟨rfl, rfl, rfl⟩], (x3'.1 12 0 18 (by decide)).trans h182, by rw [hσ3']; rfl⟩, by omega, by omega, fun x hx => by rw [c3 x (by omega), b7 x hx, x8.2.2.2.1 0 o 4 (by decide)], (brd.tr (fun x hx => b8 x (by omega)) (Nat.le_refl _)).tr bl3 (Nat.le_refl _), by omega, by omega, by omega, ?_, ?_, ?_⟩
        · rw [hcl2, a1', Option.bind_some]
          show (if (1 : Int32) = 0 then _ else (znu (zR σ2 4 0 7) none (fun j19 => (f_X0_emit σ2 j19 (-3)).bind fun q21 => if q21.1 = 0 then (some (0, q21.2)) else (some (1, q21.2))))) = _
          rw [if_neg z10, R2]
          show ((f_X0_emit σ2 o (-3)).bind _) = _
          rw [X0_emit ho h82 hc2, Option.bind_some, ← hσ3]
          show (if (1 : Int32) = 0 then _ else _) = _
          rw [if_neg z10]
        · rw [hrf2, a2', Option.bind_some, zix_n hm5 (by omega), Option.bind_some]
          show zlt (zsA σ2' 12 0 32 m (nI node)) _ = _
          rw [zlt_e]
          rw [show zI (zsA σ2' 12 0 32 m (nI node)) 12 0 22 = nI (d + 1) from h222, nI_pred, ← hσ3', zlt_e]
          show (if nI node = -1 then _ else _) = _
          rw [if_neg (znI_m1 (by omega))]
        · have e1 : zseg (zA σ3 0 o 4) c (c2 + 1) = zseg (zA σ2 0 o 4) c c2 ++ [-3] := by
            rw [zseg_a b6 (show c2 ≤ c2 + 1 by omega), zseg_1, c3', zseg_c (fun x _ hx => c3 x hx)]
          rw [e1]
          exact zCo_not (zCo_up b12 hDo) hD1
        · refine zNx_up hLo (Or.inr (Or.inl ⟨Nat.le_refl _, by omega, ?_, node, U, e32m, nx3, rfl⟩))
          show zA σ3' 12 0 31 m = 2
          rw [eO 31 (by decide)]
          exact m31.trans d31
        · rw [eO 33 (by decide)]
          exact m33.trans d33
      · right
        have a1' : rc 2 σ8 (nI (d + 1)) = some (0, σ2) := a1
        have a2' : rr 2 σd = some (-1, σ2') := a2
        obtain ⟨σ3', hσ3'⟩ : ∃ x, x = zsI (zsA σ2' 12 0 32 m (-1)) 12 0 22 (zI σ2' 12 0 22 - 1) := ⟨_, rfl⟩
        have x3' : zEx [(12, 32), (12, 22)] σ2' σ3' := by rw [hσ3']; exact (zEx_sA (by decide)).tr (zEx_sI (by decide))
        have bl3 : zBel (znd σ2') (znd σ3') m := by
          rw [hσ3']
          exact (zbel_s (Nat.le_refl _)).tr (zbel_x (F := [(12, 22)]) (zEx_sI (by decide)) (by decide)) (Nat.le_refl _)
        refine ⟨σ2, σ3', i2, ?_, ?_, (x8.mo (by decide)).tr b1, xrd.tr (b2.tr (x3'.mo (by decide))), o8.tr b3, b4, zPX_x b5 x3' (by decide), (brd.tr (fun x hx => b6 x (by omega)) (Nat.le_refl _)).tr bl3 (Nat.le_refl _)⟩
        · rw [hcl2, a1', Option.bind_some]
          show (if (0 : Int32) = 0 then _ else _) = _
          rw [if_pos rfl]
        · rw [hrf2, a2', Option.bind_some, zix_n hm5 (by omega), Option.bind_some]
          show zlt (zsA σ2' 12 0 32 m (-1)) _ = _
          rw [zlt_e]
          rw [show zI (zsA σ2' 12 0 32 m (-1)) 12 0 22 = zI σ2' 12 0 22 from rfl, ← hσ3', zlt_e]
          show (if (-1 : Int32) = -1 then _ else _) = _
          rw [if_pos rfl]
  · have hw : ¬ w = 7237492 := fun e => hnot ((w4 23 (by omega)).mp (by rw [e]; exact z8_23.symm))
    have hcl : f_X4_one σ rc (nI d) = (if (if zIsS T n N i 40 then 1 else 0 : Int32) = 0 then ((f_X4_comparison σ).bind fun q27 => some (q27.1, q27.2)) else (f_X4_one_B33 σ rc (nI d) 0)) := by
      unfold f_X4_one
      rw [hkw, Option.bind_some, if_neg (show ¬ zKw T n N i = 23 from hnot), if_pos rfl, show f_X4_isSign σ 40 = some (if zIsS T n N i 40 then 1 else 0) from X4_isSign (b := 40) (by decide) (by decide) hT hP.1, Option.bind_some]
    have hrf : f_X12_single σ' rr = (if (zI σb 12 0 20) ≤ (zI σb 12 0 21) then (f_X12_single_B170 σb rr) else ((zix (zI σb 12 0 21) 900).bind fun i34 => if (zA σb 12 0 39 i34) = 40 then (if (zI σb 12 0 22) = 10 then (some ((-1), σb)) else (zlt (zsI σb 12 0 22 ((zI σb 12 0 22) + 1)) fun σ37 => zlt (zsI σ37 12 0 21 ((zI σ37 12 0 21) + 1)) fun σ38 => (rr 0 σ38).bind fun q39 => zlt (zsI q39.2 12 0 22 ((zI q39.2 12 0 22) - 1)) fun σ41 => if q39.1 = (-1) then (f_X12_single_B164 σ41 rr) else ((f_X12_takesSign σ41 41).bind fun q43 => if q43.1 = 0 then (f_X12_single_B164 q43.2 rr) else (some (q39.1, q43.2))))) else (f_X12_single_B170 σb rr))) := by
      unfold f_X12_single
      rw [w1, Option.bind_some]
      show (if w = 7237492 then _ else _) = _
      rw [if_neg hw]
    cases h40 : zIsS T n N i 40 with
    | false =>
      rw [h40, if_pos (show (if false = true then 1 else 0 : Int32) = 0 from rfl)] at hcl
      have hcl' : f_X4_one σ rc (nI d) = f_X4_comparison σ := by
        rw [hcl]
        cases f_X4_comparison σ with
        | none => rfl
        | some q => rfl
      have hrf' : f_X12_single σ' rr = f_X12_single_B170 σb rr := by
        rw [hrf, w3.1.2.1, w3.2]
        by_cases hin : n ≤ zTs T n i
        · rw [if_pos (nI_le hin (by omega))]
        · have hlt : zTs T n i < n := by omega
          have hiN : i < N := by
            rcases Nat.lt_or_ge i N with h | h
            · exact h
            · have : i = N := by have := hP.1.2.1; omega
              rw [this, hN.1] at hlt
              omega
          rw [if_neg (by rw [nI_leI (by omega) (by omega)]; exact hin), zix_n (show zTs T n i < 900 by omega) (by omega), Option.bind_some, if_neg]
          intro h2
          have h3 := (zch_R w3.1 hlt (b := 40) (by omega)).mp h2
          unfold zIsS at h40
          rw [decide_eq_true hiN, decide_eq_true h3] at h40
          cases h40
      rw [hcl', hrf']
      exact zXR_up (zJ_cmp ho h0 hm5 ⟨hP, zPX_R hPb, hR, h8, b18, b22⟩) w2 hD1 (Nat.zero_le _)
    | true =>
      rw [h40, if_pos rfl, if_neg z10] at hcl
      obtain ⟨l1, l2, l3⟩ := zIsS_l (b := 40) (by decide) hN h40
      have hlt := hN.2 i l1
      have hE := zTe_b (T := T) hlt
      have hS := zTs_s hlt
      have hrf1 : f_X12_single σ' rr = (if (zI σb 12 0 22) = 10 then (some ((-1), σb)) else (zlt (zsI σb 12 0 22 ((zI σb 12 0 22) + 1)) fun σ37 => zlt (zsI σ37 12 0 21 ((zI σ37 12 0 21) + 1)) fun σ38 => (rr 0 σ38).bind fun q39 => zlt (zsI q39.2 12 0 22 ((zI q39.2 12 0 22) - 1)) fun σ41 => if q39.1 = (-1) then (f_X12_single_B164 σ41 rr) else ((f_X12_takesSign σ41 41).bind fun q43 => if q43.1 = 0 then (f_X12_single_B164 q43.2 rr) else (some (q39.1, q43.2))))) := by
        rw [hrf, w3.1.2.1, w3.2, if_neg (by rw [nI_leI (by omega) (by omega)]; omega), zix_n (show zTs T n i < 900 by omega) (by omega), Option.bind_some, if_pos (show zA σb 12 0 39 (zTs T n i) = 40 from (zch_R w3.1 hlt (b := 40) (by omega)).mpr l2)]
      by_cases hd10 : d = 10
      · refine Or.inr ⟨σ, σb, i, ?_, ?_, zEx.rf, w2.mo (by decide), zXo.rf, hP, hPb, bb m⟩
        · rw [hcl]
          unfold f_X4_one_B33
          rw [hd10, if_neg (by decide)]
        · rw [hrf1, b22, hd10, if_pos (show nI 10 = 10 from rfl)]
      · have hdl : d < 10 := by omega
        have ih := iha hdl
        obtain ⟨σ8, hσ8⟩ : ∃ x, x = zsI σ 4 0 8 (nI (i + 1)) := ⟨_, rfl⟩
        have x8 : zEx [(4, 8)] σ σ8 := by rw [hσ8]; exact zEx_sI (by decide)
        have P8 : zPC σ8 T n N (i + 1) W k0 pd t := by rw [hσ8]; exact zPC_go hP l1
        obtain ⟨σc, hσc⟩ : ∃ x, x = zsI (zsI σb 12 0 22 (nI (d + 1))) 12 0 21 (nI (zTs T n i + 1)) := ⟨_, rfl⟩
        have xc : zEx [(12, 22), (12, 21)] σb σc := by rw [hσc]; exact (zEx_sI (by decide)).tr (zEx_sI (by decide))
        have Pc : zPR σc T n (i + 1) W (k0 + pd) t := ⟨⟨zTr_fr w3.1 xc (by decide) (by decide), zTe T n (zTs T n i), hE.2, hS.1.symm, by rw [hσc, l3]; rfl⟩, zNmS_x nsb xc (by decide) (by decide), (xc.1 12 0 23 (by decide)).trans tb⟩
        have X8 : zXp σ8 σc T n N (i + 1) W k0 pd t o c m (d + 1) := ⟨P8, Pc, by rw [x8.2.2.1 4 0 7 (by decide)]; exact hR, by rw [x8.1 0 o 8 (by decide)]; exact h8, (xc.1 12 0 18 (by decide)).trans b18, by rw [hσc]; rfl⟩
        have hrf2 : f_X12_single σ' rr = ((rr 0 σc).bind fun q39 => zlt (zsI q39.2 12 0 22 ((zI q39.2 12 0 22) - 1)) fun σ41 => if q39.1 = (-1) then (f_X12_single_B164 σ41 rr) else ((f_X12_takesSign σ41 41).bind fun q43 => if q43.1 = 0 then (f_X12_single_B164 q43.2 rr) else (some (q39.1, q43.2)))) := by
          rw [hrf1, b22, if_neg (by rw [zq10, nI_eq (by omega) (by omega)]; exact hd10), nI_1, zlt_e]
          rw [show zI (zsI σb 12 0 22 (nI (d + 1))) 12 0 21 = nI (zTs T n i) from w3.2, nI_1, zlt_e, ← hσc]
        have hcl2 : f_X4_one σ rc (nI d) = ((rc 0 σ8 (nI (d + 1))).bind fun q10 => if q10.1 = 0 then (some (0, q10.2)) else ((f_X4_takeSign q10.2 41).bind fun q13 => if q13.1 = 0 then (some (0, q13.2)) else (some (1, q13.2)))) := by
          rw [hcl]
          unfold f_X4_one_B33
          rw [if_pos (by rw [zq10]; exact nI_lt hdl (by omega)), hP.1.2.2, nI_1, zlt_e, ← hσ8, if_pos rfl, nI_1]
        have o8 := zXo_x (o := o) x8 (by decide) (by decide)
        have xrc : zEx zFxR σ' σc := (w2.mo (by decide)).tr (xc.mo (by decide))
        have brc : zBel (znd σ') (znd σc) m := (bb m).tr (zbel_x xc (by decide)) (Nat.le_refl _)
        rcases ih σ8 σc (i + 1) c m (by omega) (by omega) X8 with ⟨σ2, σ2', i2, c2, m2, node, U, a1, a2, b1, b2, b3, b4, b5, b6, b7, b8, b9, b10, b11, b12, b13, b14⟩ | ⟨σ2, σ2', i2, a1, a2, b1, b2, b3, b4, b5, b6⟩
        · have a1' : rc 0 σ8 (nI (d + 1)) = some (1, σ2) := a1
          have a2' : rr 0 σc = some (nI node, σ2') := a2
          obtain ⟨p2', p2r, R2, h82, h182, h222⟩ := b4
          have hS2 := (zTs_fix (T := T) (n := n) i2).1
          have hnb := zNx_b b13
          obtain ⟨σ3', hσ3'⟩ : ∃ x, x = zsI σ2' 12 0 22 (nI d) := ⟨_, rfl⟩
          have x3' : zEx [(12, 22)] σ2' σ3' := by rw [hσ3']; exact zEx_sI (by decide)
          have hrf3 : f_X12_single σ' rr = ((f_X12_takesSign σ3' 41).bind fun q43 => if q43.1 = 0 then (f_X12_single_B164 q43.2 rr) else (some (nI node, q43.2))) := by
            rw [hrf2, a2', Option.bind_some]
            show zlt (zsI σ2' 12 0 22 (zI σ2' 12 0 22 - 1)) _ = _
            rw [h222, nI_pred, ← hσ3', zlt_e]
            show (if nI node = -1 then _ else _) = _
            rw [if_neg (znI_m1 (by omega))]
          have hcl3 : f_X4_one σ rc (nI d) = ((f_X4_takeSign σ2 41).bind fun q13 => if q13.1 = 0 then (some (0, q13.2)) else (some (1, q13.2))) := by
            rw [hcl2, a1', Option.bind_some]
            show (if (1 : Int32) = 0 then _ else _) = _
            rw [if_neg z10]
          obtain ⟨σ4', y1, y2⟩ := zJ_s (b := 41) (by decide) (by decide) p2' (zPR_x p2r x3' (by decide))
          have x34 : zEx [(12, 22), (12, 21)] σ2' σ4' := (x3'.mo (by decide)).tr (y1.mo (by decide))
          have b34 : ∀ M, zBel (znd σ2') (znd σ4') M := fun M => zbel_x x34 (by decide)
          rcases y2 with ⟨g1, g2, g3, g4, g5, g6, g7⟩ | ⟨g1, g3, g4, g5, g6⟩
          · left
            have x4 : zEx [(4, 8)] σ2 (zsI σ2 4 0 8 (nI (i2 + 1))) := zEx_sI (by decide)
            refine ⟨zsI σ2 4 0 8 (nI (i2 + 1)), σ4', i2 + 1, c2, m2, node, U, ?_, ?_, (x8.mo (by decide)).tr (b1.tr (x4.mo (by decide))), xrc.tr (b2.tr (x34.mo (by decide))), o8.tr (b3.tr (zXo_x x4 (by decide) (by decide))), ⟨g5, g6, R2, h82, (x34.1 12 0 18 (by decide)).trans h182, by rw [y1.1 12 0 22 (by decide), hσ3']; rfl⟩, by omega, b6, fun x hx => by rw [← x8.2.2.2.1 0 o 4 (by decide)]; exact b7 x hx, (brc.tr b8 (Nat.le_refl _)).tr (b34 m) (Nat.le_refl _), b9, by omega, by omega, zCo_up b12 (hDa hdl), ?_, ?_⟩
            · rw [hcl3, show f_X4_takeSign σ2 41 = some (1, zsI σ2 4 0 8 (nI (i2 + 1))) from g3, Option.bind_some]
              show (if (1 : Int32) = 0 then _ else _) = _
              rw [if_neg z10]
            · rw [hrf3, show f_X12_takesSign σ3' 41 = some (1, σ4') from g4, Option.bind_some]
              show (if (1 : Int32) = 0 then _ else _) = _
              rw [if_neg z10]
            · refine zNx_up (hLa hdl) (zNx_ag (N := znd σ2') (N' := znd σ4') (Nat.le_refl _) (fun j _ hj => ?_) (fun j _ hj => (b34 m2 j hj).2.2.1) b13)
              obtain ⟨e1, e2, e3, e4, e5, e6⟩ := b34 m2 j hj
              exact ⟨e1, e2, e4, e5, e6⟩
            · exact (b34 m2 node hnb.2).2.2.1.trans b14
          · right
            have x4 : zEx [(4, 8)] σ2 (zsI σ2 4 0 8 (nI i2)) := zEx_sI (by decide)
            refine ⟨zsI σ2 4 0 8 (nI i2), σ4', i2, ?_, ?_, (x8.mo (by decide)).tr (b1.tr (x4.mo (by decide))), xrc.tr (b2.tr (x34.mo (by decide))), o8.tr (b3.tr (zXo_x x4 (by decide) (by decide))), g5, g6, (brc.tr b8 (Nat.le_refl _)).tr (b34 m) (Nat.le_refl _)⟩
            · rw [hcl3, show f_X4_takeSign σ2 41 = some (0, zsI σ2 4 0 8 (nI i2)) from g3, Option.bind_some]
              show (if (0 : Int32) = 0 then _ else _) = _
              rw [if_pos rfl]
            · rw [hrf3, show f_X12_takesSign σ3' 41 = some (0, σ4') from g4, Option.bind_some]
              show (if (0 : Int32) = 0 then _ else _) = _
              rw [if_pos rfl]
              rfl
        · right
          have a1' : rc 0 σ8 (nI (d + 1)) = some (0, σ2) := a1
          have a2' : rr 0 σc = some (-1, σ2') := a2
          have x3' : zEx [(12, 22)] σ2' (zsI σ2' 12 0 22 (zI σ2' 12 0 22 - 1)) := zEx_sI (by decide)
          refine ⟨σ2, zsI σ2' 12 0 22 (zI σ2' 12 0 22 - 1), i2, ?_, ?_, (x8.mo (by decide)).tr b1, xrc.tr (b2.tr (x3'.mo (by decide))), o8.tr b3, b4, zPX_x b5 x3' (by decide), (brc.tr b6 (Nat.le_refl _)).tr (zbel_x x3' (by decide)) (Nat.le_refl _)⟩
          · rw [hcl2, a1', Option.bind_some]
            show (if (0 : Int32) = 0 then _ else _) = _
            rw [if_pos rfl]
          · rw [hrf2, a2', Option.bind_some]
            show zlt (zsI σ2' 12 0 22 (zI σ2' 12 0 22 - 1)) _ = _
            rw [zlt_e]
            show (if (-1 : Int32) = -1 then _ else _) = _
            rw [if_pos rfl]
            rfl
