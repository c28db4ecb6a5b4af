/-! statements: an "out"; all of them -/
theorem zOt_X {σ σ1 : zM} {o : Nat} (h : zEx zFxC σ σ1) (g : zXo σ σ1 o) : zOt σ σ1 o := fun o' ho => ⟨fun k hk => by
    by_cases e : k = 4
    · subst e
      exact (g o' ho).1
    · exact h.2.2.2.1 0 o' k (by simp [zFxC]; omega), fun k hk => by
    by_cases e : k = 8
    · subst e
      exact (g o' ho).2
    · exact h.1 0 o' k (by simp [zFxC]; omega)⟩
def zNrm (x : Option (Int32 × zM)) : Option (Int32 × zM) := x.bind fun q => if q.1 = 0 then some (0, q.2) else some (1, q.2)
theorem zNrm_1 {σ : zM} : zNrm (some (1, σ)) = some (1, σ) := rfl
theorem zNrm_0 {σ : zM} : zNrm (some (0, σ)) = some (0, σ) := rfl
theorem zSR_b {fc fr : Option (Int32 × zM)} {σ σ' : zM} {T : Nat → Nat} {n N i : Nat} {W : Nat → List Nat} {k0 o q c m : Nat} (h : zSR fc fr σ σ' T n N i W k0 o q c m) : zSR (zNrm fc) fr σ σ' T n N i W k0 o q c m := by
  rcases h with ⟨a1, a2, a3, a4, a5, a6, a7, a8, e, r⟩ | ⟨a1, a2, a3, a4, a5, a6, e, r⟩
  · exact Or.inl ⟨a1, a2, a3, a4, a5, a6, a7, a8, by rw [e, zNrm_1], r⟩
  · exact Or.inr ⟨a1, a2, a3, a4, a5, a6, by rw [e, zNrm_0], r⟩
theorem zFin_n {x : Option (Int32 × zM)} : zFin (zNrm x) = zFin x := by
  cases x with
  | none => rfl
  | some q =>
    unfold zFin zNrm
    rw [Option.bind_some, Option.bind_some]
    by_cases e : q.1 = 0
    · rw [if_pos e, if_pos e, Option.bind_some]
      rfl
    · rw [if_neg e, if_neg e, Option.bind_some]
      rfl
theorem zK_out {σ σ' σr : zM} {T : Nat → Nat} {n N i : Nat} {W : Nat → List Nat} {k0 o q c m pd t : Nat} (S : zSP σ σ' T n N i W k0 pd t o q c m) (hi : i < N) (hx : zEx [(12, 21), (12, 40)] σ' σr) (hr : zPR σr T n (i + 1) W (k0 + pd) t) (ho : o ≤ 5) (hq : q < 40) (h3 : 3 * c ≤ zTs T n i) (hm : m ≤ 891 * o + zTs T n i) (hl : zTs T n i + 3 ≤ zTs T n (i + 1)) : zSR (f_X4_outText σ) (zFin (f_X12_outs σr (nI (40 * o + q)))) σ σ' T n N i W k0 o q c m := by
  have M1 := zMid_go S hi hx hr
  obtain ⟨s1, s2, s3, s4, s5, s6, s7⟩ := S
  have h8 : zI σ 4 0 8 = nI i := s1.1.2.2
  have hz := zix_n (n := 40 * o + q) (N := 280) (by omega) (by omega)
  have hT0 : ∀ w, w < 11 → zNm (zA σ 0 o 5 w) (zbnd w) := fun w hw => (s7.1 w hw).2
  have hR0 : ∀ r, 1 ≤ r → r ≤ 12 → zNm (zA σ 0 o 6 r) 9999 := fun r h1 h2 => (s7.2.2.1 r h1 h2).2
  have hl20 : (zLq 20).length = 2 := by decide +kernel
  unfold f_X4_outText f_X12_outs
  simp only [zlt_e, h8, nI_1, hz, Option.bind_some]
  obtain ⟨σ2, σ2', ⟨e1, e2, l2, M2⟩ | ⟨e1, e2, M2, X2⟩⟩ := zM_w (w := 20) (by decide) (a := 20) rfl z8_20.symm (zMid_row M1 27 16 (by omega))
  rotate_left
  · simp only [e1, e2, Option.bind_some, eq_self, if_true, zFin_0]
    exact zMid_fail M2 X2
  obtain ⟨⟨f1, f2, f3, f4, f5⟩, ⟨v1, v2, v3, v4, v5, v6, v7, v8⟩, p1, p2, p3, p4, p5, p6, p7⟩ := M2
  have hR2 : zR σ2 4 0 7 = some o := (f1.2.2.1 4 0 7 (by decide)).trans s3
  have h900 := p2.1.1.1
  have x6 : zEx [(12, 22)] σ2' (zsI σ2' 12 0 22 0) := zEx_sI (by decide)
  simp only [e1, e2, Option.bind_some, z10, if_false, hR2, znu_e1, v2]
  rcases zJ_any (T := T) (n := n) (N := N) (W := W) (k0 := k0) (pd := pd) (t := t) (o := o) (C := 891 * o) (by omega) (by omega) σ2 (zsI σ2' 12 0 22 0) (i + 1 + 1) c m (by omega) (by omega) ⟨p1, zPR_x p2 x6 (by decide), hR2, v2, v3, rfl⟩ with ⟨σ3, σ3', i', c', m', node, V, g1, g2, x1, x2, x3, ⟨y1, y2, y3, y4, y5, y6⟩, x5, x6', x7, x8, x9, x10, x11, x12, x13, x14⟩ | ⟨σ3, σ3', i', g1, g2, x1, x2, x3, x4, x5, x7⟩
  · have hi' := (zTs_fix (T := T) (n := n) i').1
    have hlt : i + 1 + 1 < i' := zTs_rev (T := T) (n := n) (by omega)
    have hnm := (zNx_b x13).2
    have M3 : zMid σ σ' σ3 σ3' T n N i W k0 o q c m i' W pd t c' m' (zA σ 0 o 5) (zA σ 0 o 6) (zu (fun k => zA σ' 12 0 k (40 * o + q)) 27 16) := by
      refine ⟨⟨f1.tr (x1.mo (by decide)), f2.tr ((x6.mo (by decide)).tr (x2.mo (by decide))), f3.tr (zOt_X x1 x3), f4.tr ((zRws_x x6 (by decide)).tr (zRws_x x2 (by decide))), f5.tr ((zbel_x x6 (by decide)).tr x8 (Nat.le_refl _)) (Nat.le_refl _)⟩, ⟨(x1.1 0 o 7 (by decide)).trans v1, y4, y5, fun k hk => (x1.2.2.2.1 0 o k (by simp [zFxC]; omega)).trans (v4 k hk), fun x hx => (x7 x hx).trans (v5 x hx), (x1.2.2.2.1 0 o 5 (by decide)).trans v6, (x1.2.2.2.1 0 o 6 (by decide)).trans v7, fun k hk => ?_⟩, y1, y2, p3, by omega, x6', by omega, Or.inr ⟨x9, by omega⟩⟩
      rw [x2.2.2.2.1 12 0 k (by rcases hk with rfl | rfl | rfl | rfl <;> decide), x6.2.2.2.1 12 0 k (by rcases hk with rfl | rfl | rfl | rfl <;> decide)]
      exact v8 k hk
    have hrow : zA (zsA σ3' 12 0 28 (40 * o + q) (nI node)) 12 0 28 (40 * o + q) = nI node := by rw [zA_sA, if_pos ⟨rfl, rfl, rfl⟩, zu_eq]
    simp only [g1, g2, Option.bind_some, z10, if_false, y3, znu_e1, y4, hrow]
    rw [if_neg (znI_m1 (by omega)), zFin_1]
    refine zSR_b (fc := f_X4_endOf σ3 8 (nI c) (nI c') 0) (zM_end (S := 16) (F1 := nI node) (zMid_row M3 28 (nI node) (by omega)) (by omega) hq (by omega) s3 s7 ⟨rfl, rfl, rfl, rfl⟩ (zT_no (s := 16) hT0 (by omega) (by omega) (Or.inl (by omega))) s7.2.1 (zR_no (s := 16) hR0 (by omega) (by omega)) (Or.inr (Or.inr (Or.inr (Or.inl ⟨rfl, rfl, node, c, c', V, 23, rfl, rfl, rfl, x6', by omega, ?_, by omega, x12⟩)))) (fun _ => ⟨c', rfl, Nat.le_refl _⟩))
    rw [znd_fr (zFe_of (zEx_sA (F := [(12, 28)]) (by decide)) (by decide))]
    exact zNo_up (by omega) (zNx_o x13)
  · simp only [g1, g2, Option.bind_some, eq_self, if_true]
    have hrow : zA (zsA σ3' 12 0 28 (40 * o + q) (-1)) 12 0 28 (40 * o + q) = -1 := by rw [zA_sA, if_pos ⟨rfl, rfl, rfl⟩, zu_eq]
    rw [if_pos hrow, zFin_0]
    have xr : zEx [(12, 28)] σ3' (zsA σ3' 12 0 28 (40 * o + q) (-1)) := zEx_sA (by decide)
    exact Or.inr ⟨σ3, _, i', W, pd, t, rfl, rfl, f1.tr (x1.mo (by decide)), f2.tr ((x6.mo (by decide)).tr ((x2.mo (by decide)).tr (xr.mo (by decide)))), f3.tr (zOt_X x1 x3), f4.tr ((zRws_x x6 (by decide)).tr ((zRws_x x2 (by decide)).tr zRws_s)), f5.tr (((zbel_x x6 (by decide)).tr x7 (Nat.le_refl _)).tr (zbel_x xr (by decide)) (Nat.le_refl _)) (Nat.le_refl _), p3, x4, zPX_x x5 xr (by decide)⟩
/-- a statement, by both -/
theorem zK_all {σ σ' : zM} {T : Nat → Nat} {n N i : Nat} {W : Nat → List Nat} {k0 o q c m pd t : Nat} (S : zSP σ σ' T n N i W k0 pd t o q c m) (ho : o ≤ 5) (hq : q < 40) (h3 : 3 * c ≤ zTs T n i) (hm : m ≤ 891 * o + zTs T n i) : zSR (f_X4_statement σ) (zRst (nI (40 * o + q)) σ') σ σ' T n N i W k0 o q c m := by
  have hkw := X4_kw S.1.1
  have hc : c ≤ 300 := by
    have h1 := (zTs_fix (T := T) (n := n) i).1
    have h2 := S.2.1.1.1.1
    omega
  obtain ⟨σr, hx, hcase⟩ := zJ_reads (R := nI (40 * o + q)) S.1 14 0 σ' rfl (fun c hc => absurd hc (Nat.not_lt_zero c)) S.2.1 (fun h => absurd h (by decide))
  show zSR (f_X4_statement σ) (zFin (f_X12_reads σ' (nI (40 * o + q)))) σ σ' T n N i W k0 o q c m
  rw [zRdk_e]
  rcases hcase with ⟨c', hc', hk, hi, hr, hlen, e⟩ | ⟨hno, hX, e⟩
  · rw [e]
    rcases (by omega : c' = 0 ∨ c' = 1 ∨ c' = 2 ∨ c' = 3 ∨ c' = 4 ∨ c' = 5 ∨ c' = 6 ∨ c' = 7 ∨ c' = 8 ∨ c' = 9 ∨ c' = 10 ∨ c' = 11 ∨ c' = 12 ∨ c' = 13) with rfl | rfl | rfl | rfl | rfl | rfl | rfl | rfl | rfl | rfl | rfl | rfl | rfl | rfl
    · have hs : f_X4_statement σ = f_X4_roomText σ := by
        unfold f_X4_statement
        rw [hkw, Option.bind_some, show zKw T n N i = 0 from hk, if_pos rfl, zeta_b]
      rw [hs, show zBrn (nI (40 * o + q)) 0 σr = f_X12_rooms σr (nI (40 * o + q)) from zeta_b _]
      exact zK_room S hi hx hr ho hq hc
    · have hs : f_X4_statement σ = f_X4_pairText σ 1 16 := by
        unfold f_X4_statement
        rw [hkw, Option.bind_some, show zKw T n N i = 1 from hk, if_neg (by decide), if_pos rfl, zeta_b]
      rw [hs, show zBrn (nI (40 * o + q)) 1 σr = f_X12_pairs σr (nI (40 * o + q)) 12 131294808271214 from zeta_b _]
      exact zK_pair (hd := 1) (w := 16) S hi hx hr ho hq hc (Or.inl ⟨rfl, rfl⟩) z8_16.symm
    · have hs : f_X4_statement σ = f_X4_pairText σ 2 17 := by
        unfold f_X4_statement
        rw [hkw, Option.bind_some, show zKw T n N i = 2 from hk, if_neg (by decide), if_neg (by decide), if_pos rfl, zeta_b]
      rw [hs, show zBrn (nI (40 * o + q)) 2 σr = f_X12_pairs σr (nI (40 * o + q)) 13 25209 from zeta_b _]
      exact zK_pair (hd := 2) (w := 17) S hi hx hr ho hq hc (Or.inr ⟨rfl, rfl⟩) z8_17.symm
    · have hs : f_X4_statement σ = f_X4_rateText σ := by
        unfold f_X4_statement
        rw [hkw, Option.bind_some, show zKw T n N i = 3 from hk, if_neg (by decide), if_neg (by decide), if_neg (by decide), if_pos rfl, zeta_b]
      rw [hs, show zBrn (nI (40 * o + q)) 3 σr = f_X12_rates σr (nI (40 * o + q)) from zeta_b _]
      exact zK_rate S hi hx hr ho hq hc
    · have hs : f_X4_statement σ = f_X4_termText σ 4 0 0 9999 := by
        unfold f_X4_statement
        rw [hkw, Option.bind_some, show zKw T n N i = 4 from hk, if_neg (by decide), if_neg (by decide), if_neg (by decide), if_neg (by decide), if_pos rfl, zeta_b]
      rw [hs, show zBrn (nI (40 * o + q)) 4 σr = f_X12_plain σr (nI (40 * o + q)) 0 0 9999 from zeta_b _]
      exact zK_term (hd := 4) (w := 0) (lo := 0) (hi' := 9999) S hi hx hr ho hq hc (by omega) (by omega) (by omega) (by omega) (by decide) (by omega) (by omega)
    · have hs : f_X4_statement σ = f_X4_termText σ 5 1 0 9999 := by
        unfold f_X4_statement
        rw [hkw, Option.bind_some, show zKw T n N i = 5 from hk, if_neg (by decide), if_neg (by decide), if_neg (by decide), if_neg (by decide), if_neg (by decide), if_pos rfl, zeta_b]
      rw [hs, show zBrn (nI (40 * o + q)) 5 σr = f_X12_plain σr (nI (40 * o + q)) 1 0 9999 from zeta_b _]
      exact zK_term (hd := 5) (w := 1) (lo := 0) (hi' := 9999) S hi hx hr ho hq hc (by omega) (by omega) (by omega) (by omega) (by decide) (by omega) (by omega)
    · have hs : f_X4_statement σ = f_X4_termText σ 6 2 0 9999 := by
        unfold f_X4_statement
        rw [hkw, Option.bind_some, show zKw T n N i = 6 from hk, if_neg (by decide), if_neg (by decide), if_neg (by decide), if_neg (by decide), if_neg (by decide), if_neg (by decide), if_pos rfl, zeta_b]
      rw [hs, show zBrn (nI (40 * o + q)) 6 σr = f_X12_plain σr (nI (40 * o + q)) 2 0 9999 from zeta_b _]
      exact zK_term (hd := 6) (w := 2) (lo := 0) (hi' := 9999) S hi hx hr ho hq hc (by omega) (by omega) (by omega) (by omega) (by decide) (by omega) (by omega)
    · have hs : f_X4_statement σ = f_X4_costText σ := by
        unfold f_X4_statement
        rw [hkw, Option.bind_some, show zKw T n N i = 7 from hk, if_neg (by decide), if_neg (by decide), if_neg (by decide), if_neg (by decide), if_neg (by decide), if_neg (by decide), if_neg (by decide), if_pos rfl, zeta_b]
      rw [hs, show zBrn (nI (40 * o + q)) 7 σr = f_X12_costs σr (nI (40 * o + q)) from zeta_b _]
      exact zK_cost S hi hx hr ho hq hc
    · have hs : f_X4_statement σ = f_X4_outText σ := by
        unfold f_X4_statement
        rw [hkw, Option.bind_some, show zKw T n N i = 8 from hk, if_neg (by decide), if_neg (by decide), if_neg (by decide), if_neg (by decide), if_neg (by decide), if_neg (by decide), if_neg (by decide), if_neg (by decide), if_pos rfl, zeta_b]
      have hl8 : zTs T n i + 3 ≤ zTs T n (i + 1) := by
        have h38 : (zLq 8).length = 3 := by decide +kernel
        omega
      rw [hs, show zBrn (nI (40 * o + q)) 8 σr = f_X12_outs σr (nI (40 * o + q)) from zeta_b _]
      exact zK_out S hi hx hr ho hq h3 hm (by have := hl8; omega)
    · have hs : f_X4_statement σ = f_X4_termText σ 9 4 0 999999 := by
        unfold f_X4_statement
        rw [hkw, Option.bind_some, show zKw T n N i = 9 from hk, if_neg (by decide), if_neg (by decide), if_neg (by decide), if_neg (by decide), if_neg (by decide), if_neg (by decide), if_neg (by decide), if_neg (by decide), if_neg (by decide), if_pos rfl, zeta_b]
      rw [hs, show zBrn (nI (40 * o + q)) 9 σr = f_X12_plain σr (nI (40 * o + q)) 4 0 999999 from zeta_b _]
      exact zK_term (hd := 9) (w := 4) (lo := 0) (hi' := 999999) S hi hx hr ho hq hc (by omega) (by omega) (by omega) (by omega) (by decide) (by omega) (by omega)
    · have hs : f_X4_statement σ = f_X4_termText σ 10 5 1 10 := by
        unfold f_X4_statement
        rw [hkw, Option.bind_some, show zKw T n N i = 10 from hk, if_neg (by decide), if_neg (by decide), if_neg (by decide), if_neg (by decide), if_neg (by decide), if_neg (by decide), if_neg (by decide), if_neg (by decide), if_neg (by decide), if_neg (by decide), if_pos rfl, zeta_b]
      rw [hs, show zBrn (nI (40 * o + q)) 10 σr = f_X12_plain σr (nI (40 * o + q)) 5 1 10 from zeta_b _]
      exact zK_term (hd := 10) (w := 5) (lo := 1) (hi' := 10) S hi hx hr ho hq hc (by omega) (by omega) (by omega) (by omega) (by decide) (by omega) (by omega)
    · have hs : f_X4_statement σ = f_X4_choiceText σ 11 6 24 26 := by
        unfold f_X4_statement
        rw [hkw, Option.bind_some, show zKw T n N i = 11 from hk, if_neg (by decide), if_neg (by decide), if_neg (by decide), if_neg (by decide), if_neg (by decide), if_neg (by decide), if_neg (by decide), if_neg (by decide), if_neg (by decide), if_neg (by decide), if_neg (by decide), if_pos rfl, zeta_b]
      rw [hs, show zBrn (nI (40 * o + q)) 11 σr = f_X12_votes σr (nI (40 * o + q)) from zeta_b _]
      exact zK_vote S hi hx hr ho hq hc
    · have hs : f_X4_statement σ = f_X4_choiceText σ 12 7 27 28 := by
        unfold f_X4_statement
        rw [hkw, Option.bind_some, show zKw T n N i = 12 from hk, if_neg (by decide), if_neg (by decide), if_neg (by decide), if_neg (by decide), if_neg (by decide), if_neg (by decide), if_neg (by decide), if_neg (by decide), if_neg (by decide), if_neg (by decide), if_neg (by decide), if_neg (by decide), if_pos rfl, zeta_b]
      rw [hs, show zBrn (nI (40 * o + q)) 12 σr = f_X12_ties σr (nI (40 * o + q)) from zeta_b _]
      exact zK_tie S hi hx hr ho hq hc
    · have hs : f_X4_statement σ = f_X4_feeText σ := by
        unfold f_X4_statement
        rw [hkw, Option.bind_some, show zKw T n N i = 13 from hk, if_neg (by decide), if_neg (by decide), if_neg (by decide), if_neg (by decide), if_neg (by decide), if_neg (by decide), if_neg (by decide), if_neg (by decide), if_neg (by decide), if_neg (by decide), if_neg (by decide), if_neg (by decide), if_neg (by decide), if_pos rfl, zeta_b]
      rw [hs, show zBrn (nI (40 * o + q)) 13 σr = zNrm (f_X12_fees σr (nI (40 * o + q))) from rfl, zFin_n]
      exact zK_fee S hi hx hr ho hq hc
  · have hs : f_X4_statement σ = some (0, σ) := by
      unfold f_X4_statement
      rw [hkw, Option.bind_some, if_neg (show ¬ zKw T n N i = 0 from hno 0 (by omega)), if_neg (show ¬ zKw T n N i = 1 from hno 1 (by omega)), if_neg (show ¬ zKw T n N i = 2 from hno 2 (by omega)), if_neg (show ¬ zKw T n N i = 3 from hno 3 (by omega)), if_neg (show ¬ zKw T n N i = 4 from hno 4 (by omega)), if_neg (show ¬ zKw T n N i = 5 from hno 5 (by omega)), if_neg (show ¬ zKw T n N i = 6 from hno 6 (by omega)), if_neg (show ¬ zKw T n N i = 7 from hno 7 (by omega)), if_neg (show ¬ zKw T n N i = 8 from hno 8 (by omega)), if_neg (show ¬ zKw T n N i = 9 from hno 9 (by omega)), if_neg (show ¬ zKw T n N i = 10 from hno 10 (by omega)), if_neg (show ¬ zKw T n N i = 11 from hno 11 (by omega)), if_neg (show ¬ zKw T n N i = 12 from hno 12 (by omega)), if_neg (show ¬ zKw T n N i = 13 from hno 13 (by omega))]
    rw [hs, e, zFin_0]
    exact zMid_fail (zMid_step (zMid_0 S) zEx.rf (hx.mo (by decide)) (Nat.le_refl _) S.1 (zPX_R hX) (fun _ _ => rfl)) hX
