/-! why: a statement is broken -/
theorem zCX_x {F : List (Nat × Nat)} {σ σ' : zM} {s : Nat} {C : Nat → Nat} (h : zEx F σ σ') (hF : ([(7, 2), (7, 3), (7, 4), (7, 5)] : List (Nat × Nat)).all (fun q => !F.contains q) = true) (hX : zCX σ s C) : zCX σ' s C := by
  have hd := zFe_of h hF
  have e2 : zA σ' 7 s 2 = zA σ 7 s 2 := (hd (7, 2) (by simp)).2.2.2.1 s
  have e3 : zA σ' 7 s 3 = zA σ 7 s 3 := (hd (7, 3) (by simp)).2.2.2.1 s
  have e4 : zA σ' 7 s 4 = zA σ 7 s 4 := (hd (7, 4) (by simp)).2.2.2.1 s
  have e5 : zI σ' 7 s 5 = zI σ 7 s 5 := (hd (7, 5) (by simp)).1 s
  unfold zCX
  rw [e2, e3, e4, e5]
  exact hX
theorem zRC_x {F : List (Nat × Nat)} {σ σ' : zM} {s : Nat} {C : Nat → Nat} (h : zEx F σ σ') (hF : (12, 3) ∉ F) (hR : zRC σ s C) : zRC σ' s C := by
  unfold zRC
  rw [h.2.2.2.1 12 0 3 hF]
  exact hR
theorem zOn_x {F : List (Nat × Nat)} {σ σ' : zM} (h : zEx F σ σ') (hF : ([(12, 26), (12, 16)] : List (Nat × Nat)).all (fun q => !F.contains q) = true) : zOn σ' = zOn σ := zOn_fr (zFe_of h hF)
theorem zbv_x {F : List (Nat × Nat)} {σ σ' : zM} (h : zEx F σ σ') (hF : ([(0, 0), (0, 1), (0, 2), (0, 3), (0, 4), (0, 5), (0, 6)] : List (Nat × Nat)).all (fun q => !F.contains q) = true) : zbv σ' = zbv σ := zbv_fr (zFe_of h hF)
theorem zSn_x {F : List (Nat × Nat)} {σ σ' : zM} (h : zEx F σ σ') (hF : ([(12, 6)] : List (Nat × Nat)).all (fun q => !F.contains q) = true) : zSn σ' = zSn σ := zSn_fr (zFe_of h hF)
theorem zdt_x {F : List (Nat × Nat)} {σ σ' : zM} (h : zEx F σ σ') (hF : ([(12, 5), (12, 0)] : List (Nat × Nat)).all (fun q => !F.contains q) = true) : zdt σ' = zdt σ := zdt_fr (zFe_of h hF)
theorem zbb_t {b : Bool} (h : b = true) : zbb b = 1 := by rw [h]; rfl
theorem zbb_f {b : Bool} (h : ¬ b = true) : zbb b = 0 := by cases b; rfl; exact absurd rfl h
theorem zOI_c (x : Option Nat) (h : ∀ d, x = some d → d < 2147483648) : (x = none ∧ zOI x = -1) ∨ ∃ d, x = some d ∧ zOI x = nI d ∧ ¬ zOI x = -1 := by
  cases x with
  | none => exact Or.inl ⟨rfl, rfl⟩
  | some d => exact Or.inr ⟨d, rfl, rfl, znI_m1 (h d rfl)⟩
theorem zbfs_lt {C : Nat → Nat} {b : Nat} : ∀ (f i : Nat) (st : zBS), (∀ x d, st.1 x = some d → d ≤ i) → ∀ d, zbfs C b f i st = some d → d ≤ i + f
  | 0, i, st, _, d, h => by cases h
  | f + 1, i, st, hd, d, h => by
    unfold zbfs at h
    cases e : st.2[i]? with
    | none => rw [e] at h; cases h
    | some k =>
      rw [e] at h
      simp only at h
      by_cases hc : C k = b
      · rw [if_pos hc] at h
        have := hd k d h
        omega
      · rw [if_neg hc] at h
        have hk : (st.1 k).getD 0 ≤ i := by
          cases e2 : st.1 k with
          | none => exact Nat.zero_le _
          | some v => exact hd k v e2
        have hcom : ∀ (l : List Nat) (st' : zBS), (∀ x d, st'.1 x = some d → d ≤ i + 1) → ∀ x d, (zcoms st' ((st.1 k).getD 0 + 1) l).1 x = some d → d ≤ i + 1 := by
          intro l
          induction l with
          | nil => intro st' h1 x d h2; exact h1 x d h2
          | cons o l ih =>
            intro st' h1 x d h2
            refine ih (zcom st' o ((st.1 k).getD 0 + 1)) (fun x d h3 => ?_) x d h2
            unfold zcom at h3
            by_cases ho : st'.1 o = none
            · rw [if_pos ho] at h3
              have h3 : (if x = o then some ((st.1 k).getD 0 + 1) else st'.1 x) = some d := h3
              by_cases hx : x = o
              · rw [if_pos hx] at h3
                injection h3 with h3
                omega
              · rw [if_neg hx] at h3
                exact h1 x d h3
            · rw [if_neg ho] at h3
              exact h1 x d h3
        have := zbfs_lt f (i + 1) _ (hcom (znbs C k) st (fun x d h3 => Nat.le_succ_of_le (hd x d h3))) d h
        omega
theorem zStp_lt {C : Nat → Nat} {a b d : Nat} (h : zStp C a b = some d) : d < 2147483648 := by
  have := zbfs_lt 161 0 (zini C a) (fun x v hv => by
    unfold zini at hv
    have hv : (if x < 160 ∧ C x = a then some 0 else none) = some v := hv
    by_cases hc : x < 160 ∧ C x = a
    · rw [if_pos hc] at hv
      injection hv with hv
      omega
    · rw [if_neg hc] at hv
      cases hv) d h
  omega
theorem zBrk_e (C S : Nat → Nat) (σ : zM) (o : Nat) (t : Int32) (i : Nat) : zBrk C S (zbv σ o) t i = (if zA σ 0 o 0 i = 0 then decide (nI (zcnt1 C (zA σ 0 o 1 i).toNatClampNeg) < zA σ 0 o 2 i) || (decide (0 < zA σ 0 o 3 i) && decide (nI (zLgt C S (zA σ 0 o 1 i).toNatClampNeg) < zA σ 0 o 3 i))
  else if zA σ 0 o 0 i = 1 then (match zStp C (zA σ 0 o 1 i).toNatClampNeg (zA σ 0 o 2 i).toNatClampNeg with | none => true | some d => decide (zA σ 0 o 3 i < nI d))
  else if zA σ 0 o 0 i = 2 then (match zStp C (zA σ 0 o 1 i).toNatClampNeg (zA σ 0 o 2 i).toNatClampNeg with | none => false | some d => decide (nI d < zA σ 0 o 3 i))
  else if zA σ 0 o 0 i = 7 then decide (zA σ 0 o 1 i < zCst C (zA σ 0 o 5) (zA σ 0 o 6))
  else if zA σ 0 o 0 i = 8 then decide (zrun (zMea C S (zA σ 0 o 5) (zA σ 0 o 6) t) (zseg (zA σ 0 o 4) (zA σ 0 o 1 i).toNatClampNeg (zA σ 0 o 2 i).toNatClampNeg) 0 % 2 = 1)
  else false) := rfl
theorem X8_breaks0 {σ : zM} {s o M i : Nat} {C : Nat → Nat} {x4 t : Int32} (hSun : iSun σ) (hX : zCX σ s C) (ht : (if zI σ 7 s 1 = -1 then x4 else zI σ 7 s 1) = t) (ho : o < 7) (hi : i < 40) (hst : zSt1 σ M o i) : ∃ σ', f_X8_breaks σ s o (nI i) x4 = some (zbb (zBrk C (zSn σ) (zbv σ o) t i), σ') ∧ zEx [(8, 1), (8, 2)] σ σ' := by
  obtain ⟨u1, u2, u3⟩ := zSun_x hSun
  have hrun : ∀ R, (if zA σ 0 o 0 i = 0 then ((f_X7_countOf σ s (zA σ 0 o 1 i)).bind fun r11 => if r11 < (zA σ 0 o 2 i) then (f_X8_breaks_B152 σ s o (nI i) x4) else (if (zA σ 0 o 3 i) ≤ 0 then (some (0, σ)) else ((f_X8_lightOf σ s (zA σ 0 o 1 i)).bind fun r15 => if (zA σ 0 o 3 i) ≤ r15 then (some (0, σ)) else (f_X8_breaks_B152 σ s o (nI i) x4)))) else (if (zA σ 0 o 0 i) = 1 then ((f_X8_stepsWithin σ s (zA σ 0 o 1 i) (zA σ 0 o 2 i) (zA σ 0 o 3 i)).bind fun q19 => if q19.1 = (-1) then (some (1, q19.2)) else (some (0, q19.2))) else (if (zA σ 0 o 0 i) = 2 then ((f_X8_stepsWithin σ s (zA σ 0 o 1 i) (zA σ 0 o 2 i) ((zA σ 0 o 3 i) - 1)).bind fun q23 => if q23.1 = (-1) then (some (0, q23.2)) else (some (1, q23.2))) else (if (zA σ 0 o 0 i) = 7 then ((f_X7_costBy σ s o).bind fun r27 => if r27 ≤ (zA σ 0 o 1 i) then (some (0, σ)) else (some (1, σ))) else (if (zA σ 0 o 0 i) = 8 then ((f_X8_throwsOut σ s o (zA σ 0 o 1 i) (zA σ 0 o 2 i) x4).bind fun r31 => some (r31, σ)) else (some (0, σ))))))) = R → f_X8_breaks σ s o (nI i) x4 = R := by
    intro R hR
    unfold f_X8_breaks
    rw [zln_s ho (k := 0) (by decide), zln_s ho (k := 1) (by decide), zln_s ho (k := 2) (by decide), zln_s ho (k := 3) (by decide), if_neg (zlt0 (by omega)), if_neg (by rw [nI_leI (by omega) (by omega)]; omega), if_neg (by rw [nI_leI (by omega) (by omega)]; omega), if_neg (by rw [nI_leI (by omega) (by omega)]; omega), if_pos (by rw [nI_ltI (by omega) (by omega)]; omega), zix_n (show i < 40 by omega) (by omega)]
    simp only [Option.bind_some]
    exact hR
  unfold zSt1 at hst
  rw [zBrk_e]
  rcases hst with ⟨-, hK, ⟨r, r1, r2, hF⟩, h1, -, h2, -, h3⟩ | ⟨hSK, ⟨r, r1, r2, hF⟩, h1, ⟨w, w1, w2, hF2⟩, h2, h3a, h3⟩ | ⟨-, hK, -, h1⟩ | ⟨-, hK, node, a, b, V, D, -, h1, h2, h3, h4, -, h5, h6⟩ | ⟨-, -, n0, n1, n2, n7, n8⟩
  · rw [hF] at h1
    refine ⟨σ, hrun _ ?_, zEx.rf⟩
    rw [if_pos hK, if_pos hK, h1, X7_many hX r1 (by omega), Option.bind_some, X8_light hX u1 u2 r1 (by omega), Option.bind_some, nI_clamp (by omega)]
    unfold f_X8_breaks_B152
    by_cases c1 : nI (zcnt1 C r) < zA σ 0 o 2 i
    · rw [if_pos c1, decide_eq_true c1, Bool.true_or]; rfl
    · rw [if_neg c1, decide_eq_false c1, Bool.false_or]
      by_cases c2 : zA σ 0 o 3 i ≤ 0
      · rw [if_pos c2, decide_eq_false (fun h => zlt_not.mp h c2), Bool.false_and]; rfl
      · rw [if_neg c2, decide_eq_true (zlt_not.mpr c2), Bool.true_and]
        by_cases c3 : zA σ 0 o 3 i ≤ nI (zLgt C (zSn σ) r)
        · rw [if_pos c3, decide_eq_false (fun h => zlt_not.mp h c3)]; rfl
        · rw [if_neg c3, decide_eq_true (zlt_not.mpr c3)]; rfl
  · rw [hF] at h1
    rw [hF2] at h2
    obtain ⟨u, hu, hF3⟩ := h3a
    rw [hF3] at h3
    have hlt : ∀ d, zStp C r w = some d → d < 2147483648 := fun d hd => zStp_lt hd
    rcases hSK with ⟨-, hK⟩ | ⟨-, hK⟩
    · obtain ⟨σ', st1, st2⟩ := X8_steps hX r1 (show r < 15 by omega) w1 (show w < 15 by omega) (u := u) (by omega)
      refine ⟨σ', hrun _ ?_, st2⟩
      rw [hK, if_neg (by decide), if_pos rfl, if_neg (by decide), if_pos rfl, h1, h2, h3, st1, Option.bind_some, nI_clamp (by omega), nI_clamp (by omega)]
      cases e : zStp C r w with
      | none => exact if_pos rfl
      | some d =>
        have hd := hlt d e
        by_cases c : d ≤ u
        · rw [show zWtn (some d) u = some d from if_pos c]
          show (if nI d = -1 then _ else _) = some (zbb (decide (nI u < nI d)), σ')
          rw [if_neg (znI_m1 hd), decide_eq_false (by rw [nI_ltI (by omega) hd]; omega)]
          rfl
        · rw [show zWtn (some d) u = none from if_neg c]
          show (if (-1 : Int32) = -1 then _ else _) = some (zbb (decide (nI u < nI d)), σ')
          rw [if_pos rfl, decide_eq_true (by rw [nI_ltI (by omega) hd]; omega)]
          rfl
    · by_cases hu0 : u = 0
      · refine ⟨σ, hrun _ ?_, zEx.rf⟩
        rw [hK, if_neg (by decide), if_neg (by decide), if_pos rfl, if_neg (by decide), if_neg (by decide), if_pos rfl, h1, h2, h3, hu0, X8_stepsN (m := nI 0 - 1) hX r1 (by omega) w1 (by omega) (by decide), Option.bind_some, nI_clamp (by omega), nI_clamp (by omega)]
        cases e : zStp C r w with
        | none => exact if_pos rfl
        | some d =>
          have hd := hlt d e
          show (if (-1 : Int32) = -1 then _ else _) = some (zbb (decide (nI d < nI 0)), σ)
          rw [if_pos rfl, decide_eq_false (by rw [nI_ltI hd (by omega)]; omega)]
          rfl
      · obtain ⟨σ', st1, st2⟩ := X8_steps hX r1 (show r < 15 by omega) w1 (show w < 15 by omega) (u := u - 1) (by omega)
        refine ⟨σ', hrun _ ?_, st2⟩
        have em : nI u - 1 = nI (u - 1) := by rw [show (1 : Int32) = nI 1 from rfl, zsubI (by omega)]
        rw [hK, if_neg (by decide), if_neg (by decide), if_pos rfl, if_neg (by decide), if_neg (by decide), if_pos rfl, h1, h2, h3, em, st1, Option.bind_some, nI_clamp (by omega), nI_clamp (by omega)]
        cases e : zStp C r w with
        | none => exact if_pos rfl
        | some d =>
          have hd := hlt d e
          by_cases c : d ≤ u - 1
          · rw [show zWtn (some d) (u - 1) = some d from if_pos c]
            show (if nI d = -1 then _ else _) = some (zbb (decide (nI d < nI u)), σ')
            rw [if_neg (znI_m1 hd), decide_eq_true (by rw [nI_ltI hd (by omega)]; omega)]
            rfl
          · rw [show zWtn (some d) (u - 1) = none from if_neg c]
            show (if (-1 : Int32) = -1 then _ else _) = some (zbb (decide (nI d < nI u)), σ')
            rw [if_pos rfl, decide_eq_false (by rw [nI_ltI hd (by omega)]; omega)]
            rfl
  · refine ⟨σ, hrun _ ?_, zEx.rf⟩
    rw [hK, if_neg (by decide), if_neg (by decide), if_neg (by decide), if_pos rfl, if_neg (by decide), if_neg (by decide), if_neg (by decide), if_pos rfl, X7_cost hX, Option.bind_some]
    by_cases c : zCst C (zA σ 0 o 5) (zA σ 0 o 6) ≤ zA σ 0 o 1 i
    · rw [if_pos c, decide_eq_false (fun h => zlt_not.mp h c)]; rfl
    · rw [if_neg c, decide_eq_true (zlt_not.mpr c)]; rfl
  · refine ⟨σ, hrun _ ?_, zEx.rf⟩
    rw [hK, if_neg (by decide), if_neg (by decide), if_neg (by decide), if_neg (by decide), if_pos rfl, if_neg (by decide), if_neg (by decide), if_neg (by decide), if_neg (by decide), if_pos rfl, h1, h2, X8_throws (t := t) hX u1 u2 ht ho h3 h4 h5 h6, Option.bind_some, nI_clamp (by omega), nI_clamp (by omega)]
    unfold zbb
    by_cases c : zrun (zMea C (zSn σ) (zA σ 0 o 5) (zA σ 0 o 6) t) (zseg (zA σ 0 o 4) a b) 0 % 2 = 1
    · rw [if_pos c, if_pos (decide_eq_true c)]
    · rw [if_neg c, if_neg (by rw [decide_eq_false c]; decide)]
  · refine ⟨σ, hrun _ ?_, zEx.rf⟩
    rw [if_neg n0, if_neg n1, if_neg n2, if_neg n7, if_neg n8, if_neg n0, if_neg n1, if_neg n2, if_neg n7, if_neg n8]
    rfl
theorem X8_breaks {σ : zM} {s n i : Nat} {C : Nat → Nat} {x4 t : Int32} (hB : iBri σ) (hSun : iSun σ) (hX : zCX σ s C) (ht : (if zI σ 7 s 1 = -1 then x4 else zI σ 7 s 1) = t) (hn4 : n ≤ 40) (hn : zI σ 0 (zOn σ t) 7 = nI n) (hi : i < n) : ∃ σ', f_X8_breaks σ s (zOn σ t) (nI i) x4 = some (zbb (zBrk C (zSn σ) (zbv σ (zOn σ t)) t i), σ') ∧ zEx [(8, 1), (8, 2)] σ σ' := by
  obtain ⟨k, k1, k2, k3, k4, k5⟩ := zbinds hB t
  have e : k = n := by rw [hn, nI_eq (by omega) (by omega)] at k2; exact k2.symm
  subst e
  have ho : zOn σ t ≠ 7 := fun h => by have := k4 h; omega
  obtain ⟨g1, g2, M, g3⟩ := k5 ho
  exact X8_breaks0 hSun hX ht (by omega) (by omega) (g3 i hi)
theorem X12_breaks0 {σ : zM} {s o M' i : Nat} {C : Nat → Nat} {t : Int32} (hSun : iSun σ) (hR : zRC σ s C) (hs : s < 10) (ho : o < 6) (hi : i < 40) (hM5 : M' ≤ 5400) (hst : zSt1 σ M' o i) (hw : ∀ w, w < 8 → f_X12_word σ (nI s) (zOx o) (nI w) = some (zMea C (zSn σ) (zA σ 0 o 5) (zA σ 0 o 6) t w)) (hcost : f_X12_costBy σ (nI s) (zOx o) = some (zCst C (zA σ 0 o 5) (zA σ 0 o 6))) : ∃ σ', f_X12_breaks σ (nI (40 * o + i)) (nI s) (zOx o) = some (zbb (zBrk C (zSn σ) (zbv σ o) t i), σ') ∧ zEx [(12, 7), (12, 8), (12, 9)] σ σ' := by
  obtain ⟨u1, u2, u3⟩ := zSun_x hSun
  have hix : zix (nI (40 * o + i)) 280 = some (40 * o + i) := zix_n (by omega) (by omega)
  unfold f_X12_breaks
  rw [hix]
  simp only [Option.bind_some]
  unfold zSt1 at hst
  rw [zBrk_e]
  rcases hst with ⟨hS, hK, ⟨r, r1, r2, hF⟩, h1, -, h2, -, h3⟩ | ⟨hSK, ⟨r, r1, r2, hF⟩, h1, ⟨w, w1, w2, hF2⟩, h2, -, h3⟩ | ⟨hS, hK, -, h1⟩ | ⟨hS, hK, node, a, b, V, D, hF, h1, h2, h3, h4, hno, h5, h6⟩ | ⟨hS, -, n0, n1, n2, n7, n8⟩
  · rw [hF] at h1
    refine ⟨σ, ?_, zEx.rf⟩
    rw [if_pos hS, if_pos hK, h1, hF, X12_many hR hs (by omega), Option.bind_some, X12_light hR hs u1 u3 (by omega), Option.bind_some, nI_clamp (by omega), ← h2, ← h3]
    unfold f_X12_breaks_B93
    by_cases c1 : nI (zcnt1 C r) < zA σ 0 o 2 i
    · rw [if_pos c1, decide_eq_true c1, Bool.true_or]; rfl
    · rw [if_neg c1, decide_eq_false c1, Bool.false_or]
      by_cases c2 : zA σ 0 o 3 i ≤ 0
      · rw [if_pos c2, decide_eq_false (fun h => zlt_not.mp h c2), Bool.false_and]; rfl
      · rw [if_neg c2, decide_eq_true (zlt_not.mpr c2), Bool.true_and]
        by_cases c3 : zA σ 0 o 3 i ≤ nI (zLgt C (zSn σ) r)
        · rw [if_pos c3, decide_eq_false (fun h => zlt_not.mp h c3)]; rfl
        · rw [if_neg c3, decide_eq_true (zlt_not.mpr c3)]; rfl
  · rw [hF] at h1
    rw [hF2] at h2
    obtain ⟨σ', st1, st2⟩ := X12_steps hR hs (show r < 15 by omega) (show w < 15 by omega)
    have hb := zOI_c (zStp C r w) (fun d hd => zStp_lt hd)
    refine ⟨σ', ?_, st2⟩
    have hf3 : zA σ' 12 0 30 (40 * o + i) = zA σ 0 o 3 i := by rw [st2.2.2.2.1 12 0 30 (by decide), h3]
    rcases hSK with ⟨hS, hK⟩ | ⟨hS, hK⟩
    · rw [hK, hS, if_neg (by decide), if_pos rfl, if_neg (by decide), if_pos rfl, h1, h2, hF, hF2, st1, Option.bind_some, nI_clamp (by omega), nI_clamp (by omega)]
      unfold f_X12_breaks_B135
      simp only [hf3]
      rcases hb with ⟨e1, e2⟩ | ⟨d, e1, e2, e3⟩
      · rw [if_pos e2, e1]; rfl
      · rw [if_neg e3, e2, e1]
        simp only
        by_cases c : nI d ≤ zA σ 0 o 3 i
        · rw [if_pos c, decide_eq_false (fun h => zlt_not.mp h c)]; rfl
        · rw [if_neg c, decide_eq_true (zlt_not.mpr c)]; rfl
    · rw [hK, hS, if_neg (by decide), if_neg (by decide), if_pos rfl, if_neg (by decide), if_neg (by decide), if_pos rfl, h1, h2, hF, hF2, st1, Option.bind_some, nI_clamp (by omega), nI_clamp (by omega)]
      simp only [hf3]
      rcases hb with ⟨e1, e2⟩ | ⟨d, e1, e2, e3⟩
      · rw [if_pos e2, e1]; rfl
      · rw [if_neg e3, e2, e1]
        simp only
        by_cases c : zA σ 0 o 3 i ≤ nI d
        · rw [if_pos c, decide_eq_false (fun h => zlt_not.mp h c)]; rfl
        · rw [if_neg c, decide_eq_true (zlt_not.mpr c)]; rfl
  · refine ⟨σ, ?_, zEx.rf⟩
    rw [hK, hS, if_neg (by decide), if_neg (by decide), if_neg (by decide), if_pos rfl, if_neg (by decide), if_neg (by decide), if_neg (by decide), if_pos rfl, hcost, Option.bind_some, ← h1]
    by_cases c : zCst C (zA σ 0 o 5) (zA σ 0 o 6) ≤ zA σ 0 o 1 i
    · rw [if_pos c, decide_eq_false (fun h => zlt_not.mp h c)]; rfl
    · rw [if_neg c, decide_eq_true (zlt_not.mpr c)]; rfl
  · refine ⟨σ, ?_, zEx.rf⟩
    have hh := X12_holds (m := zMea C (zSn σ) (zA σ 0 o 5) (zA σ 0 o 6) t) hw hM5 26 60 node V (by decide) hno
    have hV : zrun (zMea C (zSn σ) (zA σ 0 o 5) (zA σ 0 o 6) t) (zseg (zA σ 0 o 4) a b) 0 % 2 = (if V (zMea C (zSn σ) (zA σ 0 o 5) (zA σ 0 o 6) t) then 1 else 0) := by
      rw [(h6 _ 0).1]
      split <;> omega
    rw [hK, hS, if_neg (by decide), if_neg (by decide), if_neg (by decide), if_neg (by decide), if_pos rfl, if_neg (by decide), if_neg (by decide), if_neg (by decide), if_neg (by decide), if_pos rfl, hF, hh, Option.bind_some, h1, h2, nI_clamp (by omega), nI_clamp (by omega), hV]
    unfold zbb
    cases V (zMea C (zSn σ) (zA σ 0 o 5) (zA σ 0 o 6) t) <;> rfl
  · refine ⟨σ, ?_, zEx.rf⟩
    have hne : zA σ 12 0 27 (40 * o + i) ≠ 11 ∧ zA σ 12 0 27 (40 * o + i) ≠ 12 ∧ zA σ 12 0 27 (40 * o + i) ≠ 13 ∧ zA σ 12 0 27 (40 * o + i) ≠ 15 ∧ zA σ 12 0 27 (40 * o + i) ≠ 16 := by
      rcases hS with hS | ⟨⟨v, hv, hS⟩, -⟩
      · rw [hS]; decide
      · rw [hS]
        exact (by decide : ∀ v, v ≤ 8 → nI v ≠ 11 ∧ nI v ≠ 12 ∧ nI v ≠ 13 ∧ nI v ≠ 15 ∧ nI v ≠ 16) v hv
    rw [if_neg hne.1, if_neg hne.2.1, if_neg hne.2.2.1, if_neg hne.2.2.2.1, if_neg hne.2.2.2.2, if_neg n0, if_neg n1, if_neg n2, if_neg n7, if_neg n8]
    rfl
theorem X12_breaks {σ : zM} {s n i : Nat} {C : Nat → Nat} {t : Int32} (hB : iBri σ) (hSun : iSun σ) (hR : zRC σ s C) (hs : s < 10) (ht : zdt σ s = t) (hn4 : n ≤ 40) (hn : zI σ 0 (zOn σ t) 7 = nI n) (hi : i < n) : ∃ σ', f_X12_breaks σ (nI (40 * zOn σ t + i)) (nI s) (zOx (zOn σ t)) = some (zbb (zBrk C (zSn σ) (zbv σ (zOn σ t)) t i), σ') ∧ zEx [(12, 7), (12, 8), (12, 9)] σ σ' := by
  rcases zOn_7 hB t with ⟨nb, M, b1, b2, b3, hb4⟩ | h7
  · have hw := fun w hw8 => X12_word (w := w) hB hSun hR hs ht hw8
    have hcost := X12_cost hB t hR hs
    obtain ⟨nb', M', c1, c2, c3, c4, c5, c6, c7, -⟩ := hB
    have enb : nb' = nb := by rw [c3, nI_eq (by omega) (by omega)] at b2; exact b2
    subst enb
    obtain ⟨-, k, k1, k2, k3, -, -, -, -, -, k5⟩ := c7 _ b3
    have e : k = n := by rw [hn, nI_eq (by omega) (by omega)] at k2; exact k2.symm
    subst e
    exact X12_breaks0 hSun hR hs (by omega) (by omega) (by omega) (k5 i hi) hw hcost
  · obtain ⟨k, k1, k2, k3, k4, k5⟩ := zbinds hB t
    have e : k = n := by rw [hn, nI_eq (by omega) (by omega)] at k2; exact k2.symm
    have := k4 h7
    omega
