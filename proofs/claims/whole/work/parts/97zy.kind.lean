/-! statements: kind by kind -/
def zFin (x : Option (Int32 × zM)) : Option (Int32 × zM) := x.bind fun q31 => if q31.1 = 0 then some (0, q31.2) else (f_X12_takesSign q31.2 59).bind fun q34 => some (q34.1, q34.2)
theorem zFin_0 {σ : zM} : zFin (some (0, σ)) = some (0, σ) := rfl
theorem zeta_b (x : Option (Int32 × zM)) : (x.bind fun q => some (q.1, q.2)) = x := by cases x <;> rfl
theorem zFin_1 {σ : zM} : zFin (some (1, σ)) = f_X12_takesSign σ 59 := by
  unfold zFin
  rw [Option.bind_some]
  show (if (1 : Int32) = 0 then _ else ((f_X12_takesSign σ 59).bind fun q34 => some (q34.1, q34.2))) = _
  rw [if_neg z10, zeta_b]
/-- terms as before -/
theorem zT_no {T0 : Nat → Int32} {s : Nat} {a b f : Int32} (h : ∀ w, w < 11 → zNm (T0 w) (zbnd w)) (hs : 11 ≤ s) (hs2 : s < 100) (h15 : s ≠ 15 ∨ b = -1) : ∀ w, w < 11 → T0 w = (if nI s = 8 ∧ w = 10 then a else if nI s = 8 ∧ w = 9 then b else if nI s = 15 ∧ w = 3 ∧ b ≠ -1 then b else if nI s = nI w then f else T0 w) ∧ zNm (T0 w) (zbnd w) := fun w hw => by
  have e8 : ¬ nI s = 8 := by rw [zq8, nI_eq (by omega) (by omega)]; omega
  have ew : ¬ nI s = nI w := by rw [nI_eq (by omega) (by omega)]; omega
  refine ⟨?_, h w hw⟩
  rw [if_neg (fun e => e8 e.1), if_neg (fun e => e8 e.1), if_neg ?_, if_neg ew]
  rintro ⟨h1, -, h3⟩
  rw [zq15, nI_eq (by omega) (by omega)] at h1
  exact h15.elim (fun g => g h1) (fun g => h3 g)
/-- one term -/
theorem zT_one {T0 : Nat → Int32} {s v : Nat} {a b : Int32} (h : ∀ w, w < 11 → zNm (T0 w) (zbnd w)) (hs : s < 8) (hv : v ≤ zbnd s) : ∀ w, w < 11 → zu T0 s (nI v) w = (if nI s = 8 ∧ w = 10 then a else if nI s = 8 ∧ w = 9 then b else if nI s = 15 ∧ w = 3 ∧ b ≠ -1 then b else if nI s = nI w then nI v else T0 w) ∧ zNm (zu T0 s (nI v) w) (zbnd w) := fun w hw => by
  have e8 : ¬ nI s = 8 := by rw [zq8, nI_eq (by omega) (by omega)]; omega
  have e15 : ¬ nI s = 15 := by rw [zq15, nI_eq (by omega) (by omega)]; omega
  rw [if_neg (fun e => e8 e.1), if_neg (fun e => e8 e.1), if_neg (fun e => e15 e.1)]
  by_cases e : w = s
  · subst e
    rw [zu_eq, if_pos rfl]
    exact ⟨rfl, v, hv, rfl⟩
  · rw [zu_ne _ _ e, if_neg (by rw [nI_eq (by omega) (by omega)]; omega)]
    exact ⟨rfl, h w hw⟩
/-- a span -/
theorem zT_span {T0 : Nat → Int32} {v : Nat} {a f : Int32} (h : ∀ w, w < 11 → zNm (T0 w) (zbnd w)) (hv : v ≤ 50) : ∀ w, w < 11 → zu T0 3 (nI v) w = (if (15 : Int32) = 8 ∧ w = 10 then a else if (15 : Int32) = 8 ∧ w = 9 then nI v else if (15 : Int32) = 15 ∧ w = 3 ∧ nI v ≠ -1 then nI v else if (15 : Int32) = nI w then f else T0 w) ∧ zNm (zu T0 3 (nI v) w) (zbnd w) := fun w hw => by
  rw [if_neg (fun e => absurd e.1 (by decide)), if_neg (fun e => absurd e.1 (by decide))]
  by_cases e : w = 3
  · subst e
    rw [zu_eq, if_pos ⟨rfl, rfl, znI_m1 (by omega)⟩]
    exact ⟨rfl, v, hv, rfl⟩
  · rw [zu_ne _ _ e, if_neg (fun g => e g.2.1), if_neg (by rw [zq15, nI_eq (by omega) (by omega)]; omega)]
    exact ⟨rfl, h w hw⟩
theorem zT_fee {T0 : Nat → Int32} {v1 v2 v3 : Nat} (h : ∀ w, w < 11 → zNm (T0 w) (zbnd w)) (h1 : v1 ≤ 100) (h2 : v2 ≤ 100) (h3 : v3 ≤ 100) : ∀ w, w < 11 → zu (zu (zu T0 8 (nI v1)) 9 (nI v2)) 10 (nI v3) w = (if (8 : Int32) = 8 ∧ w = 10 then nI v3 else if (8 : Int32) = 8 ∧ w = 9 then nI v2 else if (8 : Int32) = 15 ∧ w = 3 ∧ nI v2 ≠ -1 then nI v2 else if (8 : Int32) = nI w then nI v1 else T0 w) ∧ zNm (zu (zu (zu T0 8 (nI v1)) 9 (nI v2)) 10 (nI v3) w) (zbnd w) := fun w hw => by
  by_cases e10 : w = 10
  · subst e10
    rw [zu_eq, if_pos ⟨rfl, rfl⟩]
    exact ⟨rfl, v3, h3, rfl⟩
  · rw [zu_ne _ _ e10, if_neg (fun g => e10 g.2)]
    by_cases e9 : w = 9
    · subst e9
      rw [zu_eq, if_pos ⟨rfl, rfl⟩]
      exact ⟨rfl, v2, h2, rfl⟩
    · rw [zu_ne _ _ e9, if_neg (fun g => e9 g.2), if_neg (fun g => absurd g.1 (by decide))]
      by_cases e8 : w = 8
      · subst e8
        rw [zu_eq, if_pos (show (8 : Int32) = nI 8 from rfl)]
        exact ⟨rfl, v1, h1, rfl⟩
      · rw [zu_ne _ _ e8, if_neg (by rw [zq8, nI_eq (by omega) (by omega)]; omega)]
        exact ⟨rfl, h w hw⟩
/-- rates as before -/
theorem zR_no {R0 : Nat → Int32} {s : Nat} {a b : Int32} (h : ∀ r, 1 ≤ r → r ≤ 12 → zNm (R0 r) 9999) (hs : s ≠ 14) (hs2 : s < 100) : ∀ r, 1 ≤ r → r ≤ 12 → R0 r = (if nI s = 14 ∧ a = nI r then b else R0 r) ∧ zNm (R0 r) 9999 := fun r h1 h2 => by
  rw [if_neg (fun e => hs (by have := e.1; rw [zq14, nI_eq (by omega) (by omega)] at this; exact this))]
  exact ⟨rfl, h r h1 h2⟩
theorem zR_one {R0 : Nat → Int32} {r0 v : Nat} (h : ∀ r, 1 ≤ r → r ≤ 12 → zNm (R0 r) 9999) (h0 : r0 ≤ 12) (hv : v ≤ 9999) : ∀ r, 1 ≤ r → r ≤ 12 → zu R0 r0 (nI v) r = (if (14 : Int32) = 14 ∧ nI r0 = nI r then nI v else R0 r) ∧ zNm (zu R0 r0 (nI v) r) 9999 := fun r h1 h2 => by
  by_cases e : r = r0
  · subst e
    rw [zu_eq, if_pos ⟨rfl, rfl⟩]
    exact ⟨rfl, v, hv, rfl⟩
  · rw [zu_ne _ _ e, if_neg (fun g => e (by have := g.2; rw [nI_eq (by omega) (by omega)] at this; omega))]
    exact ⟨rfl, h r h1 h2⟩
theorem zK_room {σ σ' σr : zM} {T : Nat → Nat} {n N i : Nat} {W : Nat → List Nat} {k0 o q c m pd t : Nat} (S : zSP σ σ' T n N i W k0 pd t o q c m) (hi : i < N) (hx : zEx [(12, 21), (12, 40)] σ' σr) (hr : zPR σr T n (i + 1) W (k0 + pd) t) (ho : o ≤ 5) (hq : q < 40) (hc : c ≤ 300) : zSR (f_X4_roomText σ) (zFin (f_X12_rooms σr (nI (40 * o + q)))) σ σ' T n N i W k0 o q c m := by
  have M1 := zMid_go S hi hx hr
  obtain ⟨s1, s2, s3, s4, s5, s6, s7⟩ := S
  have h8 : zI σ 4 0 8 = nI i := s1.1.2.2
  have hz := zix_n (n := 40 * o + q) (N := 280) (by omega) (by omega)
  have hT0 : ∀ w, w < 11 → zNm (zA σ 0 o 5 w) (zbnd w) := fun w hw => (s7.1 w hw).2
  have hR0 : ∀ r, 1 ≤ r → r ≤ 12 → zNm (zA σ 0 o 6 r) 9999 := fun r h1 h2 => (s7.2.2.1 r h1 h2).2
  unfold f_X4_roomText f_X12_rooms f_X12_takesPlain f_X4_roomText_B78
  simp only [zlt_e, h8, nI_1, hz, Option.bind_some, zeta_b]
  obtain ⟨σ2, σ2', ⟨r, W2, pd2, t2, l1, l2, e1, e2, e3, e4, M2⟩ | ⟨e1, e2, M2, X2⟩⟩ := zM_new (zMid_row M1 27 11 (by omega))
  rotate_left
  · simp only [e1, e2, Option.bind_some, eq_self, if_true, zFin_0]
    exact zMid_fail M2 X2
  simp only [e1, e2, e3, e4, Option.bind_some, z10, if_false]
  obtain ⟨σ3, σ3', ⟨e5, e6, -, M3⟩ | ⟨e5, e6, M3, X3⟩⟩ := zM_w (w := 14) (by decide) (a := 14) rfl z8_14.symm (zMid_row M2 28 (nI r) (by omega))
  rotate_left
  · simp only [e5, e6, Option.bind_some, eq_self, if_true, zFin_0]
    exact zMid_fail M3 X3
  simp only [e5, e6, Option.bind_some, z10, if_false]
  obtain ⟨σ4, σ4', ⟨v, l3, l4, e7, e8, e9, e10, M4⟩ | ⟨e7, e8, M4, X4⟩⟩ := zM_n (lo := 0) (hi := 999999) (a := 0) (b := 999999) (by omega) (by omega) rfl rfl M3
  rotate_left
  · simp only [e7, e8, Option.bind_some, eq_self, if_true, zFin_0]
    exact zMid_fail M4 X4
  simp only [e7, e8, e9, e10, Option.bind_some, z10, if_false]
  obtain ⟨σ5, σ5', ⟨e11, e12, -, M5⟩ | ⟨e11, e12, M5, X5⟩⟩ := zM_w (w := 15) (by decide) (a := 15) rfl z8_15.symm (zMid_row (zMid_row M4 29 (nI v) (by omega)) 30 0 (by omega))
  · simp only [e11, e12, Option.bind_some, z10, if_false]
    obtain ⟨σ6, σ6', ⟨u, l5, l6, e13, e14, e15, e16, M6⟩ | ⟨e13, e14, M6, X6⟩⟩ := zM_n (lo := 0) (hi := 999999) (a := 0) (b := 999999) (by omega) (by omega) rfl rfl M5
    rotate_left
    · simp only [e13, e14, Option.bind_some, eq_self, if_true, zFin_0]
      exact zMid_fail M6 X6
    simp only [e13, e14, e15, e16, Option.bind_some, z10, if_false, zFin_1]
    exact zM_end (S := 11) (F1 := nI r) (F2 := nI v) (F3 := nI u) (zMid_row M6 30 (nI u) (by omega)) (by omega) hq hc s3 s7 ⟨rfl, rfl, rfl, rfl⟩ (zT_no (s := 11) hT0 (by omega) (by omega) (Or.inl (by omega))) s7.2.1 (zR_no (s := 11) hR0 (by omega) (by omega)) (Or.inl ⟨rfl, rfl, ⟨r, l1, l2, rfl⟩, rfl, ⟨v, l4, rfl⟩, rfl, ⟨u, l6, rfl⟩, rfl⟩) (fun h => absurd h (by decide))
  · simp only [e11, e12, Option.bind_some, eq_self, if_true, zFin_1]
    exact zM_end (S := 11) (F1 := nI r) (F2 := nI v) (F3 := 0) M5 (by omega) hq hc s3 s7 ⟨rfl, rfl, rfl, rfl⟩ (zT_no (s := 11) hT0 (by omega) (by omega) (Or.inl (by omega))) s7.2.1 (zR_no (s := 11) hR0 (by omega) (by omega)) (Or.inl ⟨rfl, rfl, ⟨r, l1, l2, rfl⟩, rfl, ⟨v, l4, rfl⟩, rfl, ⟨0, by omega, rfl⟩, rfl⟩) (fun h => absurd h (by decide))
theorem zK_pair {σ σ' σr : zM} {T : Nat → Nat} {n N i : Nat} {W : Nat → List Nat} {k0 o q c m pd t w : Nat} {wl : Int64} (S : zSP σ σ' T n N i W k0 pd t o q c m) (hi : i < N) (hx : zEx [(12, 21), (12, 40)] σ' σr) (hr : zPR σr T n (i + 1) W (k0 + pd) t) (ho : o ≤ 5) (hq : q < 40) (hc : c ≤ 300) {hd : Nat} (hh : (hd = 1 ∧ w = 16) ∨ (hd = 2 ∧ w = 17)) (hwl : wl = zW8t w) : zSR (f_X4_pairText σ (nI hd) (nI w)) (zFin (f_X12_pairs σr (nI (40 * o + q)) (nI (hd + 11)) wl)) σ σ' T n N i W k0 o q c m := by
  have M1 := zMid_go S hi hx hr
  obtain ⟨s1, s2, s3, s4, s5, s6, s7⟩ := S
  have h8 : zI σ 4 0 8 = nI i := s1.1.2.2
  have hz := zix_n (n := 40 * o + q) (N := 280) (by omega) (by omega)
  have hT0 : ∀ w, w < 11 → zNm (zA σ 0 o 5 w) (zbnd w) := fun w hw => (s7.1 w hw).2
  have hR0 : ∀ r, 1 ≤ r → r ≤ 12 → zNm (zA σ 0 o 6 r) 9999 := fun r h1 h2 => (s7.2.2.1 r h1 h2).2
  unfold f_X4_pairText f_X12_pairs f_X12_takesPlain
  simp only [zlt_e, h8, nI_1, hz, Option.bind_some, zeta_b]
  obtain ⟨σ2, σ2', ⟨r, l1, l2, e1, e2, e3, e4, M2⟩ | ⟨e1, e2, M2, X2⟩⟩ := zM_told (zMid_row M1 27 (nI (hd + 11)) (by omega))
  rotate_left
  · simp only [e1, e2, Option.bind_some, eq_self, if_true, zFin_0]
    exact zMid_fail M2 X2
  simp only [e1, e2, e3, e4, Option.bind_some, z10, if_false]
  obtain ⟨σ3, σ3', ⟨r', l3, l4, e5, e6, e7, e8, M3⟩ | ⟨e5, e6, M3, X3⟩⟩ := zM_told (zMid_row M2 28 (nI r) (by omega))
  rotate_left
  · simp only [e5, e6, Option.bind_some, eq_self, if_true, zFin_0]
    exact zMid_fail M3 X3
  simp only [e5, e6, e7, e8, Option.bind_some, z10, if_false]
  obtain ⟨σ4, σ4', ⟨e9, e10, -, M4⟩ | ⟨e9, e10, M4, X4⟩⟩ := zM_w (w := w) (by omega) rfl hwl (zMid_row M3 29 (nI r') (by omega))
  rotate_left
  · simp only [e9, e10, Option.bind_some, eq_self, if_true, zFin_0]
    exact zMid_fail M4 X4
  simp only [e9, e10, Option.bind_some, z10, if_false]
  obtain ⟨σ5, σ5', ⟨v, l5, l6, e11, e12, e13, e14, M5⟩ | ⟨e11, e12, M5, X5⟩⟩ := zM_n (lo := 0) (hi := 999999) (a := 0) (b := 999999) (by omega) (by omega) rfl rfl M4
  rotate_left
  · simp only [e11, e12, Option.bind_some, eq_self, if_true, zFin_0]
    exact zMid_fail M5 X5
  simp only [e11, e12, e13, e14, Option.bind_some, z10, if_false, zFin_1]
  refine zM_end (S := nI (hd + 11)) (F1 := nI r) (F2 := nI r') (F3 := nI v) (zMid_row M5 30 (nI v) (by omega)) (by omega) hq hc s3 s7 ⟨rfl, rfl, rfl, rfl⟩ (zT_no hT0 (by omega) (by omega) (Or.inl (by omega))) s7.2.1 (zR_no hR0 (by omega) (by omega)) (Or.inr (Or.inl ⟨?_, ⟨r, l1, l2, rfl⟩, rfl, ⟨r', l3, l4, rfl⟩, rfl, ⟨v, l6, rfl⟩, rfl⟩)) (fun h => ?_)
  · rcases hh with ⟨rfl, -⟩ | ⟨rfl, -⟩
    · exact Or.inl ⟨rfl, rfl⟩
    · exact Or.inr ⟨rfl, rfl⟩
  · rw [zq8, nI_eq (by omega) (by omega)] at h
    omega
theorem zK_rate {σ σ' σr : zM} {T : Nat → Nat} {n N i : Nat} {W : Nat → List Nat} {k0 o q c m pd t : Nat} (S : zSP σ σ' T n N i W k0 pd t o q c m) (hi : i < N) (hx : zEx [(12, 21), (12, 40)] σ' σr) (hr : zPR σr T n (i + 1) W (k0 + pd) t) (ho : o ≤ 5) (hq : q < 40) (hc : c ≤ 300) : zSR (f_X4_rateText σ) (zFin (f_X12_rates σr (nI (40 * o + q)))) σ σ' T n N i W k0 o q c m := by
  have M1 := zMid_go S hi hx hr
  obtain ⟨s1, s2, s3, s4, s5, s6, s7⟩ := S
  have h8 : zI σ 4 0 8 = nI i := s1.1.2.2
  have hz := zix_n (n := 40 * o + q) (N := 280) (by omega) (by omega)
  have hT0 : ∀ w, w < 11 → zNm (zA σ 0 o 5 w) (zbnd w) := fun w hw => (s7.1 w hw).2
  have hR0 : ∀ r, 1 ≤ r → r ≤ 12 → zNm (zA σ 0 o 6 r) 9999 := fun r h1 h2 => (s7.2.2.1 r h1 h2).2
  unfold f_X4_rateText f_X12_rates
  simp only [zlt_e, h8, nI_1, hz, Option.bind_some, zeta_b]
  obtain ⟨σ2, σ2', ⟨r, l1, l2, e1, e2, e3, e4, M2⟩ | ⟨e1, e2, M2, X2⟩⟩ := zM_told (zMid_row M1 27 14 (by omega))
  rotate_left
  · simp only [e1, e2, Option.bind_some, eq_self, if_true, zFin_0]
    exact zMid_fail M2 X2
  simp only [e1, e2, e3, e4, Option.bind_some, z10, if_false]
  obtain ⟨σ3, σ3', ⟨v, l3, l4, e5, e6, e7, e8, M3⟩ | ⟨e5, e6, M3, X3⟩⟩ := zM_n (lo := 0) (hi := 9999) (a := 0) (b := 9999) (by omega) (by omega) rfl rfl (zMid_row M2 28 (nI r) (by omega))
  rotate_left
  · simp only [e5, e6, Option.bind_some, eq_self, if_true, zFin_0]
    exact zMid_fail M3 X3
  have hR3 : zR σ3 4 0 7 = some o := (M3.1.1.2.2.1 4 0 7 (by decide)).trans s3
  simp only [e5, e6, e7, e8, Option.bind_some, z10, if_false, zFin_1, hR3, znu_e1, X0_setRate l1 l2]
  exact zM_end (S := 14) (F1 := nI r) (F2 := nI v) (zMid_row (zMid_rate M3 r (nI v)) 29 (nI v) (by omega)) (by omega) hq hc s3 s7 ⟨rfl, rfl, rfl, rfl⟩ (zT_no (s := 14) hT0 (by omega) (by omega) (Or.inl (by omega))) s7.2.1 (zR_one hR0 l2 l4) (Or.inr (Or.inr (Or.inr (Or.inr ⟨Or.inl rfl, ⟨3, by omega, rfl⟩, by decide, by decide, by decide, by decide, by decide⟩)))) (fun h => absurd h (by decide))
theorem zK_term {σ σ' σr : zM} {T : Nat → Nat} {n N i : Nat} {W : Nat → List Nat} {k0 o q c m pd t : Nat} (S : zSP σ σ' T n N i W k0 pd t o q c m) (hi : i < N) (hx : zEx [(12, 21), (12, 40)] σ' σr) (hr : zPR σr T n (i + 1) W (k0 + pd) t) (ho : o ≤ 5) (hq : q < 40) (hc : c ≤ 300) {hd w lo hi' : Nat} (hh : hd ≤ 13 ∧ 3 ≤ hd ∧ hd ≠ 7 ∧ hd ≠ 8) (hw : w < 8) (hw3 : w ≠ 3) (hlo : lo < 1000000) (hhi : hi' ≤ zbnd w) (hhi2 : hi' < 1000000) (h5 : w = 5 → 1 ≤ lo) : zSR (f_X4_termText σ (nI hd) (nI w) (nI lo) (nI hi')) (zFin (f_X12_plain σr (nI (40 * o + q)) (nI w) (nI lo) (nI hi'))) σ σ' T n N i W k0 o q c m := by
  have M1 := zMid_go S hi hx hr
  obtain ⟨s1, s2, s3, s4, s5, s6, s7⟩ := S
  have h8 : zI σ 4 0 8 = nI i := s1.1.2.2
  have hz := zix_n (n := 40 * o + q) (N := 280) (by omega) (by omega)
  have hT0 : ∀ w, w < 11 → zNm (zA σ 0 o 5 w) (zbnd w) := fun w hw => (s7.1 w hw).2
  have hR0 : ∀ r, 1 ≤ r → r ≤ 12 → zNm (zA σ 0 o 6 r) 9999 := fun r h1 h2 => (s7.2.2.1 r h1 h2).2
  unfold f_X4_termText f_X12_plain
  simp only [zlt_e, h8, nI_1, hz, Option.bind_some, zeta_b]
  obtain ⟨σ3, σ3', ⟨v, l3, l4, e5, e6, e7, e8, M3⟩ | ⟨e5, e6, M3, X3⟩⟩ := zM_n hhi2 hlo rfl rfl (zMid_row M1 27 (nI w) (by omega))
  rotate_left
  · simp only [e5, e6, Option.bind_some, eq_self, if_true, zFin_0]
    exact zMid_fail M3 X3
  have hR3 : zR σ3 4 0 7 = some o := (M3.1.1.2.2.1 4 0 7 (by decide)).trans s3
  simp only [e5, e6, e7, e8, Option.bind_some, z10, if_false, zFin_1, hR3, znu_e1, X0_setTerm (show w < 11 by omega)]
  refine zM_end (S := nI w) (F1 := nI v) (zMid_row (zMid_term M3 w (nI v)) 28 (nI v) (by omega)) (by omega) hq hc s3 s7 ⟨rfl, rfl, rfl, rfl⟩ (zT_one hT0 hw (by omega)) ?_ (zR_no hR0 (by omega) (by omega)) (Or.inr (Or.inr (Or.inr (Or.inr ⟨Or.inr ⟨⟨w, by omega, rfl⟩, ?_⟩, ⟨hd, by omega, rfl⟩, ?_, ?_, ?_, ?_, ?_⟩)))) (fun h => ?_)
  · by_cases e : (5 : Nat) = w
    · rw [e, zu_eq]
      intro h
      rw [show (0 : Int32) = nI 0 from rfl, nI_eq (by omega) (by omega)] at h
      omega
    · rw [zu_ne _ _ e]
      exact s7.2.1
  · rw [zq3]; intro h; rw [nI_eq (by omega) (by omega)] at h; exact hw3 h
  · rw [zq0]; intro h; rw [nI_eq (by omega) (by omega)] at h; omega
  · rw [zq1]; intro h; rw [nI_eq (by omega) (by omega)] at h; omega
  · rw [zq2]; intro h; rw [nI_eq (by omega) (by omega)] at h; omega
  · rw [zq7]; intro h; rw [nI_eq (by omega) (by omega)] at h; omega
  · rw [zq8]; intro h; rw [nI_eq (by omega) (by omega)] at h; omega
  · rw [zq8, nI_eq (by omega) (by omega)] at h
    omega
theorem zK_cost {σ σ' σr : zM} {T : Nat → Nat} {n N i : Nat} {W : Nat → List Nat} {k0 o q c m pd t : Nat} (S : zSP σ σ' T n N i W k0 pd t o q c m) (hi : i < N) (hx : zEx [(12, 21), (12, 40)] σ' σr) (hr : zPR σr T n (i + 1) W (k0 + pd) t) (ho : o ≤ 5) (hq : q < 40) (hc : c ≤ 300) : zSR (f_X4_costText σ) (zFin (f_X12_costs σr (nI (40 * o + q)))) σ σ' T n N i W k0 o q c m := by
  have M1 := zMid_go S hi hx hr
  obtain ⟨s1, s2, s3, s4, s5, s6, s7⟩ := S
  have h8 : zI σ 4 0 8 = nI i := s1.1.2.2
  have hz := zix_n (n := 40 * o + q) (N := 280) (by omega) (by omega)
  have hT0 : ∀ w, w < 11 → zNm (zA σ 0 o 5 w) (zbnd w) := fun w hw => (s7.1 w hw).2
  have hR0 : ∀ r, 1 ≤ r → r ≤ 12 → zNm (zA σ 0 o 6 r) 9999 := fun r h1 h2 => (s7.2.2.1 r h1 h2).2
  unfold f_X4_costText f_X12_costs f_X12_plain f_X4_costText_B69
  simp only [zlt_e, h8, nI_1, hz, Option.bind_some, zeta_b]
  obtain ⟨σ2, σ2', ⟨e1, e2, -, M2⟩ | ⟨e1, e2, M2, X2⟩⟩ := zM_w (w := 18) (by decide) (a := 18) rfl z8_18.symm M1
  rotate_left
  · simp only [e1, e2, Option.bind_some, eq_self, if_true, zFin_0]
    exact zMid_fail M2 X2
  simp only [e1, e2, Option.bind_some, z10, if_false]
  obtain ⟨σ3, σ3', ⟨v, l3, l4, e5, e6, e7, e8, M3⟩ | ⟨e5, e6, M3, X3⟩⟩ := zM_n (lo := 0) (hi := 999999) (a := 0) (b := 999999) (by omega) (by omega) rfl rfl (zMid_row M2 27 15 (by omega))
  rotate_left
  · simp only [e5, e6, Option.bind_some, eq_self, if_true, zFin_0]
    exact zMid_fail M3 X3
  simp only [e5, e6, e7, e8, Option.bind_some, z10, if_false]
  obtain ⟨σ4, σ4', ⟨e9, e10, -, M4⟩ | ⟨e9, e10, M4, X4⟩⟩ := zM_w (w := 19) (by decide) (a := 19) rfl z8_19.symm (zMid_row (zMid_row M3 28 (nI v) (by omega)) 29 (-1) (by omega))
  · simp only [e9, e10, Option.bind_some, z10, if_false]
    obtain ⟨σ5, σ5', ⟨u, l5, l6, e11, e12, e13, e14, M5⟩ | ⟨e11, e12, M5, X5⟩⟩ := zM_n (lo := 0) (hi := 50) (a := 0) (b := 50) (by omega) (by omega) rfl rfl M4
    rotate_left
    · simp only [e11, e12, Option.bind_some, eq_self, if_true, zFin_0]
      exact zMid_fail M5 X5
    have hR5 : zR σ5 4 0 7 = some o := (M5.1.1.2.2.1 4 0 7 (by decide)).trans s3
    have hst : f_X0_setTerm σ5 o 3 (nI u) = some (zsA σ5 0 o 5 3 (nI u)) := X0_setTerm (w := 3) (by omega)
    simp only [e11, e12, e13, e14, Option.bind_some, z10, if_false, zFin_1, hR5, znu_e1, hst]
    refine zM_end (S := 15) (F1 := nI v) (F2 := nI u) (zMid_row (zMid_term M5 3 (nI u)) 29 (nI u) (by omega)) (by omega) hq hc s3 s7 ⟨rfl, rfl, rfl, rfl⟩ (zT_span hT0 l6) ?_ (zR_no (s := 15) hR0 (by omega) (by omega)) (Or.inr (Or.inr (Or.inl ⟨rfl, rfl, ⟨v, l4, rfl⟩, rfl⟩))) (fun h => absurd h (by decide))
    rw [zu_ne _ _ (by decide)]
    exact s7.2.1
  · simp only [e9, e10, Option.bind_some, eq_self, if_true, zFin_1]
    exact zM_end (S := 15) (F1 := nI v) (F2 := -1) M4 (by omega) hq hc s3 s7 ⟨rfl, rfl, rfl, rfl⟩ (zT_no (s := 15) hT0 (by omega) (by omega) (Or.inr rfl)) s7.2.1 (zR_no (s := 15) hR0 (by omega) (by omega)) (Or.inr (Or.inr (Or.inl ⟨rfl, rfl, ⟨v, l4, rfl⟩, rfl⟩))) (fun h => absurd h (by decide))
