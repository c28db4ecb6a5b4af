/-! statements: choices, fees, an "out" -/
theorem zwh3 {S T : Type} {f : S → Option (S ⊕ T)} {k : Nat} {s0 : S} (h : zFu = k + 1) : zwh f zFu s0 = zwh f (k + 1) s0 := by rw [h]
theorem zFu4 : zFu = 99996 + 1 + 1 + 1 + 1 := rfl
/-- a number of a fee -/
theorem zfee_s {σ σ2 : zM} {s v o : Nat} (hs : s < 3) (e : f_X4_takeNumber σ 0 100 = some (1, σ2)) (e2 : zI σ2 4 0 9 = nI v) (hR : zR σ2 4 0 7 = some o) : f_X4_feeText_L12 (nI s) σ = some (.inl (nI (s + 1), zsA σ2 0 o 5 (8 + s) (nI v))) := by
  unfold f_X4_feeText_L12
  rw [if_neg (by rw [zq3, nI_leI (by omega) (by omega)]; omega), e, Option.bind_some]
  rw [if_neg (show ¬ ((1 : Int32), σ2).1 = 0 from z10)]
  show (znu (zR σ2 4 0 7) none fun j8 => (f_X0_setTerm σ2 j8 (8 + nI s) (zI σ2 4 0 9)).bind fun σ10 => some (Sum.inl ((nI s + 1), σ10))) = _
  rw [hR, znu_e1, e2, zq8, nI_add, X0_setTerm (show 8 + s < 11 by omega), Option.bind_some, nI_1]
theorem zfee_f {σ σ2 : zM} {s : Nat} (hs : s < 3) (e : f_X4_takeNumber σ 0 100 = some (0, σ2)) : f_X4_feeText_L12 (nI s) σ = some (.inr (.inl σ2)) := by
  unfold f_X4_feeText_L12
  rw [if_neg (by rw [zq3, nI_leI (by omega) (by omega)]; omega), e, Option.bind_some]
  rfl
theorem zK_fee {σ σ' σr : zM} {T : Nat → Nat} {n N i : Nat} {W : Nat → List Nat} {k0 o q c m pd t : Nat} (S : zSP σ σ' T n N i W k0 pd t o q c m) (hi : i < N) (hx : zEx [(12, 21), (12, 40)] σ' σr) (hr : zPR σr T n (i + 1) W (k0 + pd) t) (ho : o ≤ 5) (hq : q < 40) (hc : c ≤ 300) : zSR (f_X4_feeText σ) (zFin (f_X12_fees σr (nI (40 * o + q)))) σ σ' T n N i W k0 o q c m := by
  have M1 := zMid_go S hi hx hr
  obtain ⟨s1, s2, s3, s4, s5, s6, s7⟩ := S
  have h8 : zI σ 4 0 8 = nI i := s1.1.2.2
  have hz := zix_n (n := 40 * o + q) (N := 280) (by omega) (by omega)
  have hT0 : ∀ w, w < 11 → zNm (zA σ 0 o 5 w) (zbnd w) := fun w hw => (s7.1 w hw).2
  have hR0 : ∀ r, 1 ≤ r → r ≤ 12 → zNm (zA σ 0 o 6 r) 9999 := fun r h1 h2 => (s7.2.2.1 r h1 h2).2
  unfold f_X4_feeText
  rw [zlt_e, h8, nI_1, zFu4]
  have hfail : ∀ {k : Nat} {s : Nat} {σ1 σ2 : zM}, s < 3 → f_X4_takeNumber σ1 0 100 = some (0, σ2) → ((zwh (fun (q : (Int32 × zM)) => f_X4_feeText_L12 q.1 q.2) (k + 1) (nI s, σ1)).bind fun q => zsm q (fun q => some ((0 : Int32), q)) (fun q => f_X4_feeText_B50 q)) = some (0, σ2) := fun {k s σ1 σ2} hs e => by
    rw [zwh_inr (show (fun (q : (Int32 × zM)) => f_X4_feeText_L12 q.1 q.2) (nI s, σ1) = some (.inr (.inl σ2)) from zfee_f hs e), Option.bind_some]
    rfl
  have hgo : ∀ {k : Nat} {s v : Nat} {σ1 σ2 : zM}, s < 3 → f_X4_takeNumber σ1 0 100 = some (1, σ2) → zI σ2 4 0 9 = nI v → zR σ2 4 0 7 = some o → zwh (fun (q : (Int32 × zM)) => f_X4_feeText_L12 q.1 q.2) (k + 1) (nI s, σ1) = zwh (fun (q : (Int32 × zM)) => f_X4_feeText_L12 q.1 q.2) k (nI (s + 1), zsA σ2 0 o 5 (8 + s) (nI v)) := fun {k s v σ1 σ2} hs e e2 hR => zwh_inl (show (fun (q : (Int32 × zM)) => f_X4_feeText_L12 q.1 q.2) (nI s, σ1) = some (.inl (nI (s + 1), zsA σ2 0 o 5 (8 + s) (nI v))) from zfee_s hs e e2 hR)
  unfold f_X12_fees f_X12_plain
  simp only [zlt_e, hz, Option.bind_some]
  show zSR ((zwh (fun (q : (Int32 × zM)) => f_X4_feeText_L12 q.1 q.2) (99996 + 1 + 1 + 1 + 1) (nI 0, zsI σ 4 0 8 (nI (i + 1)))).bind _) _ _ _ _ _ _ _ _ _ _ _ _ _
  obtain ⟨σ2, σ2', ⟨v1, l1, l2, e1, e2, e3, e4, M2⟩ | ⟨e1, e2, M2, X2⟩⟩ := zM_n (lo := 0) (hi := 100) (a := 0) (b := 100) (by omega) (by omega) rfl rfl (zMid_row M1 27 8 (by omega))
  rotate_left
  · rw [hfail (by omega) e1]
    simp only [e2, Option.bind_some, eq_self, if_true, zFin_0]
    exact zMid_fail M2 X2
  rw [hgo (by omega) e1 e2 ((M2.1.1.2.2.1 4 0 7 (by decide)).trans s3)]
  simp only [e3, e4, Option.bind_some, z10, if_false]
  obtain ⟨σ3, σ3', ⟨v2, l3, l4, e5, e6, e7, e8, M3⟩ | ⟨e5, e6, M3, X3⟩⟩ := zM_n (lo := 0) (hi := 100) (a := 0) (b := 100) (by omega) (by omega) rfl rfl (zMid_row (zMid_term M2 8 (nI v1)) 28 (nI v1) (by omega))
  rotate_left
  · rw [hfail (by omega) e5]
    simp only [e6, Option.bind_some, eq_self, if_true, zFin_0]
    exact zMid_fail M3 X3
  rw [hgo (by omega) e5 e6 ((M3.1.1.2.2.1 4 0 7 (by decide)).trans s3)]
  simp only [e7, e8, Option.bind_some, z10, if_false]
  obtain ⟨σ4, σ4', ⟨v3, l5, l6, e9, e10, e11, e12, M4⟩ | ⟨e9, e10, M4, X4⟩⟩ := zM_n (lo := 0) (hi := 100) (a := 0) (b := 100) (by omega) (by omega) rfl rfl (zMid_row (zMid_term M3 9 (nI v2)) 29 (nI v2) (by omega))
  rotate_left
  · rw [hfail (by omega) e9]
    simp only [e10, Option.bind_some, eq_self, if_true, zFin_0]
    exact zMid_fail M4 X4
  rw [hgo (by omega) e9 e10 ((M4.1.1.2.2.1 4 0 7 (by decide)).trans s3)]
  simp only [e11, e12, Option.bind_some, z10, if_false, zFin_1]
  have hlast : ∀ {σ1 : zM}, f_X4_feeText_L12 (nI 3) σ1 = some (.inr (.inr σ1)) := fun {σ1} => by
    unfold f_X4_feeText_L12
    rw [if_pos (by decide)]
  rw [zwh_inr (show (fun (q : (Int32 × zM)) => f_X4_feeText_L12 q.1 q.2) (nI (2 + 1), zsA σ4 0 o 5 (8 + 2) (nI v3)) = some (.inr (.inr (zsA σ4 0 o 5 (8 + 2) (nI v3)))) from hlast), Option.bind_some]
  show zSR (f_X4_feeText_B50 (zsA σ4 0 o 5 10 (nI v3))) _ _ _ _ _ _ _ _ _ _ _ _ _
  unfold f_X4_feeText_B50
  rw [zeta_b]
  refine zM_end (S := 8) (F1 := nI v1) (F2 := nI v2) (F3 := nI v3) (zMid_row (zMid_term M4 10 (nI v3)) 30 (nI v3) (by omega)) (by omega) hq hc s3 s7 ⟨rfl, rfl, rfl, rfl⟩ (zT_fee hT0 l2 l4 l6) ?_ (zR_no (s := 8) hR0 (by omega) (by omega)) (Or.inr (Or.inr (Or.inr (Or.inr ⟨Or.inr ⟨⟨8, by omega, rfl⟩, by decide⟩, ⟨13, by omega, rfl⟩, by decide, by decide, by decide, by decide, by decide⟩)))) (fun h => absurd h (by decide))
  rw [zu_ne _ _ (by decide), zu_ne _ _ (by decide), zu_ne _ _ (by decide)]
  exact s7.2.1
theorem zrow_e {σ : zM} {c i k j : Nat} {v : Int32} : zA (zsA σ c i k j v) c i k j = v := by rw [zA_sA, if_pos ⟨rfl, rfl, rfl⟩, zu_eq]
/-- behind a choice's word -/
theorem zK_ch {σ σ' σ1 σ1' : zM} {T : Nat → Nat} {n N i i1 : Nat} {W W1 : Nat → List Nat} {k0 o q c m pd1 t1 w v hd : Nat} {ρ : Nat → Int32} (M : zMid σ σ' σ1 σ1' T n N i W k0 o q c m i1 W1 pd1 t1 c m (zA σ 0 o 5) (zA σ 0 o 6) ρ) (s3 : zR σ 4 0 7 = some o) (s7 : zBrP (zMix σ σ') m o q c) (ho : o ≤ 5) (hq : q < 40) (hc : c ≤ 300) (hw : (w = 6 ∧ v ≤ 2) ∨ (w = 7 ∧ v ≤ 1)) (hh : hd = 11 ∨ hd = 12) (h27 : ρ 27 = nI w) : zSR ((znu (zR σ1 4 0 7) none (fun j7 => (f_X0_setTerm σ1 j7 (nI w) (nI v)).bind fun σ9 => f_X4_endOf σ9 (nI hd) 0 0 0))) (f_X12_takesSign (zsA σ1' 12 0 28 (40 * o + q) (nI v)) 59) σ σ' T n N i W k0 o q c m := by
  have hT0 : ∀ w, w < 11 → zNm (zA σ 0 o 5 w) (zbnd w) := fun w hw => (s7.1 w hw).2
  have hR0 : ∀ r, 1 ≤ r → r ≤ 12 → zNm (zA σ 0 o 6 r) 9999 := fun r h1 h2 => (s7.2.2.1 r h1 h2).2
  have hR3 : zR σ1 4 0 7 = some o := (M.1.1.2.2.1 4 0 7 (by decide)).trans s3
  rw [hR3, znu_e1, X0_setTerm (show w < 11 by omega), Option.bind_some]
  refine zM_end (S := nI w) (F1 := nI v) (F2 := ρ 29) (F3 := ρ 30) (zMid_row (zMid_term M w (nI v)) 28 (nI v) (by omega)) (by omega) hq hc s3 s7 ⟨h27, rfl, rfl, rfl⟩ (zT_one hT0 (by omega) ?_) ?_ (zR_no hR0 (by omega) (by omega)) (Or.inr (Or.inr (Or.inr (Or.inr ⟨Or.inr ⟨⟨w, by omega, rfl⟩, ?_⟩, ⟨hd, by omega, rfl⟩, ?_, ?_, ?_, ?_, ?_⟩)))) (fun h => ?_)
  · rcases hw with ⟨rfl, h⟩ | ⟨rfl, h⟩
    · exact h
    · exact h
  · rw [zu_ne _ _ (by omega)]
    exact s7.2.1
  · rw [zq3]; intro h; rw [nI_eq (by omega) (by omega)] at h; omega
  · rw [zq0]; intro h; rw [nI_eq (by omega) (by omega)] at h; omega
  · rw [zq1]; intro h; rw [nI_eq (by omega) (by omega)] at h; omega
  · rw [zq2]; intro h; rw [nI_eq (by omega) (by omega)] at h; omega
  · rw [zq7]; intro h; rw [nI_eq (by omega) (by omega)] at h; omega
  · rw [zq8]; intro h; rw [nI_eq (by omega) (by omega)] at h; omega
  · rw [zq8, nI_eq (by omega) (by omega)] at h
    omega
/-- the reference's test for a word, the class's keyword -/
theorem zM_k {σ σ' σ1 σ1' : zM} {T : Nat → Nat} {n N i i1 : Nat} {W W1 : Nat → List Nat} {k0 o q c m pd1 t1 c1 m1 w : Nat} {TT RR ρ : Nat → Int32} {b : Int64} (hw : w < 36) (hb : b = zW8t w) (M : zMid σ σ' σ1 σ1' T n N i W k0 o q c m i1 W1 pd1 t1 c1 m1 TT RR ρ) : ∃ σ2', (zKw T n N i1 = nI w ∧ f_X12_takes σ1' b = some (1, σ2') ∧ zMid σ σ' (zsI σ1 4 0 8 (nI (i1 + 1))) σ2' T n N i W k0 o q c m (i1 + 1) W1 pd1 t1 c1 m1 TT RR ρ) ∨ (zKw T n N i1 ≠ nI w ∧ f_X12_takes σ1' b = some (0, σ2') ∧ zMid σ σ' σ1 σ2' T n N i W k0 o q c m i1 W1 pd1 t1 c1 m1 TT RR ρ ∧ zPX σ2' T n i1 W1 (k0 + pd1) t1) := by
  subst hb
  obtain ⟨σ2', w1, w2⟩ := zJ_w hw M.2.2.1 M.2.2.2.1
  rcases w2 with ⟨g1, g2, g3, g4, g5, g6, g7⟩ | ⟨g1, g3, g4, g5, g6⟩
  · exact ⟨σ2', Or.inl ⟨(zKw_c hw).mpr g1, g4, zMid_step M (zEx_sI (by decide)) (w1.mo (by decide)) (Nat.le_succ _) g5 g6 (fun _ _ => rfl)⟩⟩
  · refine ⟨σ2', Or.inr ⟨fun h => ?_, g4, zMid_step M zEx.rf (w1.mo (by decide)) (Nat.le_refl _) M.2.2.1 (zPX_R g6) (fun _ _ => rfl), g6⟩⟩
    rw [(zKw_c hw).mp h] at g1
    cases g1
theorem zK_vote {σ σ' σr : zM} {T : Nat → Nat} {n N i : Nat} {W : Nat → List Nat} {k0 o q c m pd t : Nat} (S : zSP σ σ' T n N i W k0 pd t o q c m) (hi : i < N) (hx : zEx [(12, 21), (12, 40)] σ' σr) (hr : zPR σr T n (i + 1) W (k0 + pd) t) (ho : o ≤ 5) (hq : q < 40) (hc : c ≤ 300) : zSR (f_X4_choiceText σ 11 6 24 26) (zFin (f_X12_votes σr (nI (40 * o + q)))) σ σ' T n N i W k0 o q c m := by
  have M1 := zMid_go S hi hx hr
  obtain ⟨s1, s2, s3, s4, s5, s6, s7⟩ := S
  have h8 : zI σ 4 0 8 = nI i := s1.1.2.2
  have hz := zix_n (n := 40 * o + q) (N := 280) (by omega) (by omega)
  have hkw := X4_kw M1.2.2.1.1
  have hbad : (∀ v, v < 3 → zKw T n N (i + 1) ≠ nI (24 + v)) → f_X4_choiceText σ 11 6 24 26 = some (0, zsI σ 4 0 8 (nI (i + 1))) := fun hb => by
    unfold f_X4_choiceText
    rw [zlt_e, h8, nI_1, hkw, Option.bind_some]
    rcases zKw_v T n N (i + 1) with e | ⟨c', hc', e⟩
    · rw [e, if_pos (by decide)]
    · rw [e]
      by_cases h24 : c' < 24
      · rw [if_pos (by rw [zq24, nI_ltI (by omega) (by omega)]; exact h24)]
      · rw [if_neg (by rw [zq24, nI_ltI (by omega) (by omega)]; exact h24), if_neg]
        rw [zq26, nI_leI (by omega) (by omega)]
        intro h26
        exact hb (c' - 24) (by omega) (by rw [e]; congr 1; omega)
  have hgood : ∀ v, v < 3 → zKw T n N (i + 1) = nI (24 + v) → f_X4_choiceText σ 11 6 24 26 = znu (zR (zsI (zsI σ 4 0 8 (nI (i + 1))) 4 0 8 (nI (i + 1 + 1))) 4 0 7) none (fun j7 => (f_X0_setTerm (zsI (zsI σ 4 0 8 (nI (i + 1))) 4 0 8 (nI (i + 1 + 1))) j7 (nI 6) (nI v)).bind fun σ9 => f_X4_endOf σ9 (nI 11) 0 0 0) := fun v hv e => by
    unfold f_X4_choiceText
    simp only [zeta_b]
    rw [zlt_e, h8, nI_1, hkw, Option.bind_some, e, if_neg (by rw [zq24, nI_ltI (by omega) (by omega)]; omega), if_pos (by rw [zq26]; exact nI_le (by omega) (by omega)), zlt_e, zI_sI, if_pos ⟨rfl, rfl, rfl⟩, nI_1, zq24, zsubI (by omega), Nat.add_sub_cancel_left]
    rfl
  have hB : ∀ {σ1 : zM} {v : Nat}, v < 3 → f_X12_votes_B56 σ1 (nI (40 * o + q)) (nI (40 * o + q)) (nI v) = some (1, zsA σ1 12 0 28 (40 * o + q) (nI v)) := fun {σ1 v} hv => by
    unfold f_X12_votes_B56
    rw [hz, Option.bind_some, zlt_e, Option.bind_some, zrow_e, if_neg (znI_m1 (by omega))]
  have hB1 : ∀ {σ1 : zM}, f_X12_votes_B56 σ1 (nI (40 * o + q)) (nI (40 * o + q)) (-1) = some (0, zsA σ1 12 0 28 (40 * o + q) (-1)) := fun {σ1} => by
    unfold f_X12_votes_B56
    rw [hz, Option.bind_some, zlt_e, Option.bind_some, zrow_e, if_pos rfl]
  unfold f_X12_votes
  simp only [zlt_e, hz, Option.bind_some]
  obtain ⟨σ2', ⟨e1, e2, M2⟩ | ⟨e1, e2, M2, X2⟩⟩ := zM_k (w := 24) (by decide) z8_24.symm (zMid_row M1 27 6 (by omega))
  · rw [hgood 0 (by omega) e1, e2, Option.bind_some]
    show zSR _ (zFin (if (1 : Int32) = 0 then _ else f_X12_votes_B56 σ2' (nI (40 * o + q)) (nI (40 * o + q)) (nI 0))) _ _ _ _ _ _ _ _ _ _ _ _
    rw [if_neg z10, hB (by omega), zFin_1]
    exact zK_ch M2 s3 s7 ho hq hc (Or.inl ⟨rfl, by omega⟩) (Or.inl rfl) rfl
  rw [e2, Option.bind_some]
  show zSR _ (zFin (if (0 : Int32) = 0 then ((f_X12_takes σ2' 1918987883).bind fun q6 => if q6.1 = 0 then ((f_X12_takes q6.2 1885432178).bind fun q9 => f_X12_votes_B56 q9.2 (nI (40 * o + q)) (nI (40 * o + q)) (if q9.1 = 0 then (-1) else 2 : Int32)) else (f_X12_votes_B56 q6.2 (nI (40 * o + q)) (nI (40 * o + q)) 1)) else _)) _ _ _ _ _ _ _ _ _ _ _ _
  rw [if_pos rfl]
  obtain ⟨σ3', ⟨e3, e4, M3⟩ | ⟨e3, e4, M3, X3⟩⟩ := zM_k (w := 25) (by decide) z8_25.symm M2
  · rw [hgood 1 (by omega) e3, e4, Option.bind_some]
    show zSR _ (zFin (if (1 : Int32) = 0 then _ else f_X12_votes_B56 σ3' (nI (40 * o + q)) (nI (40 * o + q)) (nI 1))) _ _ _ _ _ _ _ _ _ _ _ _
    rw [if_neg z10, hB (by omega), zFin_1]
    exact zK_ch M3 s3 s7 ho hq hc (Or.inl ⟨rfl, by omega⟩) (Or.inl rfl) rfl
  rw [e4, Option.bind_some]
  show zSR _ (zFin (if (0 : Int32) = 0 then ((f_X12_takes σ3' 1885432178).bind fun q9 => f_X12_votes_B56 q9.2 (nI (40 * o + q)) (nI (40 * o + q)) (if q9.1 = 0 then (-1) else 2 : Int32)) else _)) _ _ _ _ _ _ _ _ _ _ _ _
  rw [if_pos rfl]
  obtain ⟨σ4', ⟨e5, e6, M4⟩ | ⟨e5, e6, M4, X4⟩⟩ := zM_k (w := 26) (by decide) z8_26.symm M3
  · rw [hgood 2 (by omega) e5, e6, Option.bind_some]
    show zSR _ (zFin (f_X12_votes_B56 σ4' (nI (40 * o + q)) (nI (40 * o + q)) (if (1 : Int32) = 0 then (-1) else 2 : Int32))) _ _ _ _ _ _ _ _ _ _ _ _
    rw [if_neg z10, show (2 : Int32) = nI 2 from rfl, hB (by omega), zFin_1]
    exact zK_ch M4 s3 s7 ho hq hc (Or.inl ⟨rfl, by omega⟩) (Or.inl rfl) rfl
  · rw [e6, Option.bind_some]
    show zSR _ (zFin (f_X12_votes_B56 σ4' (nI (40 * o + q)) (nI (40 * o + q)) (if (0 : Int32) = 0 then (-1) else 2 : Int32))) _ _ _ _ _ _ _ _ _ _ _ _
    rw [if_pos rfl, hB1, zFin_0, hbad (fun v hv => by
      rcases (by omega : v = 0 ∨ v = 1 ∨ v = 2) with rfl | rfl | rfl
      · exact e1
      · exact e3
      · exact e5)]
    exact zMid_fail (zMid_row M4 28 (-1) (by omega)) (zPX_x (F := [(12, 28)]) X4 (zEx_sA (by decide)) (by decide))
theorem zK_tie {σ σ' σr : zM} {T : Nat → Nat} {n N i : Nat} {W : Nat → List Nat} {k0 o q c m pd t : Nat} (S : zSP σ σ' T n N i W k0 pd t o q c m) (hi : i < N) (hx : zEx [(12, 21), (12, 40)] σ' σr) (hr : zPR σr T n (i + 1) W (k0 + pd) t) (ho : o ≤ 5) (hq : q < 40) (hc : c ≤ 300) : zSR (f_X4_choiceText σ 12 7 27 28) (zFin (f_X12_ties σr (nI (40 * o + q)))) σ σ' T n N i W k0 o q c m := by
  have M1 := zMid_go S hi hx hr
  obtain ⟨s1, s2, s3, s4, s5, s6, s7⟩ := S
  have h8 : zI σ 4 0 8 = nI i := s1.1.2.2
  have hz := zix_n (n := 40 * o + q) (N := 280) (by omega) (by omega)
  have hkw := X4_kw M1.2.2.1.1
  have hq27 : (27 : Int32) = nI 27 := rfl
  have hq28 : (28 : Int32) = nI 28 := rfl
  have hbad : (∀ v, v < 2 → zKw T n N (i + 1) ≠ nI (27 + v)) → f_X4_choiceText σ 12 7 27 28 = some (0, zsI σ 4 0 8 (nI (i + 1))) := fun hb => by
    unfold f_X4_choiceText
    rw [zlt_e, h8, nI_1, hkw, Option.bind_some]
    rcases zKw_v T n N (i + 1) with e | ⟨c', hc', e⟩
    · rw [e, if_pos (by decide)]
    · rw [e]
      by_cases h24 : c' < 27
      · rw [if_pos (by rw [hq27, nI_ltI (by omega) (by omega)]; exact h24)]
      · rw [if_neg (by rw [hq27, nI_ltI (by omega) (by omega)]; exact h24), if_neg]
        rw [hq28, nI_leI (by omega) (by omega)]
        intro h26
        exact hb (c' - 27) (by omega) (by rw [e]; congr 1; omega)
  have hgood : ∀ v, v < 2 → zKw T n N (i + 1) = nI (27 + v) → f_X4_choiceText σ 12 7 27 28 = znu (zR (zsI (zsI σ 4 0 8 (nI (i + 1))) 4 0 8 (nI (i + 1 + 1))) 4 0 7) none (fun j7 => (f_X0_setTerm (zsI (zsI σ 4 0 8 (nI (i + 1))) 4 0 8 (nI (i + 1 + 1))) j7 (nI 7) (nI v)).bind fun σ9 => f_X4_endOf σ9 (nI 12) 0 0 0) := fun v hv e => by
    unfold f_X4_choiceText
    simp only [zeta_b]
    rw [zlt_e, h8, nI_1, hkw, Option.bind_some, e, if_neg (by rw [hq27, nI_ltI (by omega) (by omega)]; omega), if_pos (by rw [hq28]; exact nI_le (by omega) (by omega)), zlt_e, zI_sI, if_pos ⟨rfl, rfl, rfl⟩, nI_1, hq27, zsubI (by omega), Nat.add_sub_cancel_left]
    rfl
  have hB : ∀ {σ1 : zM} {v : Nat}, v < 2 → f_X12_ties_B42 σ1 (nI (40 * o + q)) (nI (40 * o + q)) (nI v) = some (1, zsA σ1 12 0 28 (40 * o + q) (nI v)) := fun {σ1 v} hv => by
    unfold f_X12_ties_B42
    rw [hz, Option.bind_some, zlt_e, Option.bind_some, zrow_e, if_neg (znI_m1 (by omega))]
  have hB1 : ∀ {σ1 : zM}, f_X12_ties_B42 σ1 (nI (40 * o + q)) (nI (40 * o + q)) (-1) = some (0, zsA σ1 12 0 28 (40 * o + q) (-1)) := fun {σ1} => by
    unfold f_X12_ties_B42
    rw [hz, Option.bind_some, zlt_e, Option.bind_some, zrow_e, if_pos rfl]
  unfold f_X12_ties
  simp only [zlt_e, hz, Option.bind_some]
  obtain ⟨σ2', ⟨e1, e2, M2⟩ | ⟨e1, e2, M2, X2⟩⟩ := zM_k (w := 27) (by decide) z8_27.symm (zMid_row M1 27 7 (by omega))
  · rw [hgood 0 (by omega) e1, e2, Option.bind_some]
    show zSR _ (zFin (if (1 : Int32) = 0 then _ else f_X12_ties_B42 σ2' (nI (40 * o + q)) (nI (40 * o + q)) (nI 0))) _ _ _ _ _ _ _ _ _ _ _ _
    rw [if_neg z10, hB (by omega), zFin_1]
    exact zK_ch M2 s3 s7 ho hq hc (Or.inr ⟨rfl, by omega⟩) (Or.inr rfl) rfl
  rw [e2, Option.bind_some]
  show zSR _ (zFin (if (0 : Int32) = 0 then ((f_X12_takes σ2' 121450625394034).bind fun q6 => f_X12_ties_B42 q6.2 (nI (40 * o + q)) (nI (40 * o + q)) (if q6.1 = 0 then (-1) else 1 : Int32)) else _)) _ _ _ _ _ _ _ _ _ _ _ _
  rw [if_pos rfl]
  obtain ⟨σ4', ⟨e5, e6, M4⟩ | ⟨e5, e6, M4, X4⟩⟩ := zM_k (w := 28) (by decide) z8_28.symm M2
  · rw [hgood 1 (by omega) e5, e6, Option.bind_some]
    show zSR _ (zFin (f_X12_ties_B42 σ4' (nI (40 * o + q)) (nI (40 * o + q)) (if (1 : Int32) = 0 then (-1) else 1 : Int32))) _ _ _ _ _ _ _ _ _ _ _ _
    rw [if_neg z10, show (1 : Int32) = nI 1 from rfl, hB (by omega), zFin_1]
    exact zK_ch M4 s3 s7 ho hq hc (Or.inr ⟨rfl, by omega⟩) (Or.inr rfl) rfl
  · rw [e6, Option.bind_some]
    show zSR _ (zFin (f_X12_ties_B42 σ4' (nI (40 * o + q)) (nI (40 * o + q)) (if (0 : Int32) = 0 then (-1) else 1 : Int32))) _ _ _ _ _ _ _ _ _ _ _ _
    rw [if_pos rfl, hB1, zFin_0, hbad (fun v hv => by
      rcases (by omega : v = 0 ∨ v = 1) with rfl | rfl
      · exact e1
      · exact e5)]
    exact zMid_fail (zMid_row M4 28 (-1) (by omega)) (zPX_x (F := [(12, 28)]) X4 (zEx_sA (by decide)) (by decide))
