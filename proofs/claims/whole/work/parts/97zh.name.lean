/-! a brief's text: names taken -/
theorem zsbit0 {m s : Nat} (hm : m < 2 ^ 31) (hs : s < 31) : ((nI m >>> (nI s &&& 31)) &&& 1) = 0 ↔ m.testBit s = false := by
  have hd : m / 2 ^ s ≤ m := Nat.div_le_self _ _
  rw [pk_shrN hm (nI s &&& 31) s (s_l s (by omega)), show (1 : Int32) = nI (2 ^ 1 - 1) from rfl, fa_mask, show (0 : Int32) = nI 0 from rfl, nI_eq (by omega) (by omega), Nat.testBit_eq_decide_div_mod_eq, decide_eq_false_iff_not]
  omega
theorem X4_kind {σ : zM} {T : Nat → Nat} {n N i : Nat} {x : Int32} (h : zCP σ T n N i) : f_X4_isKind σ x = some (if zA σ 4 0 3 i = x then 1 else 0) := by
  obtain ⟨⟨h9, -⟩, h2, h3⟩ := h
  unfold f_X4_isKind
  rw [h3, if_neg (zlt0 (by omega)), zq901, if_neg (by rw [nI_leI (by omega) (by omega)]; omega), zix_n (show i < 901 by omega) (by omega), Option.bind_some]
  split <;> rfl
theorem X4_val {σ : zM} {T : Nat → Nat} {n N i : Nat} (h : zCP σ T n N i) : f_X4_value σ = some (zL σ 4 0 5 i) := by
  obtain ⟨⟨h9, -⟩, h2, h3⟩ := h
  unfold f_X4_value
  rw [h3, if_neg (zlt0 (by omega)), zq901, if_neg (by rw [nI_leI (by omega) (by omega)]; omega), zix_n (show i < 901 by omega) (by omega), Option.bind_some]
/-- a word that is none of the language's -/
theorem X4_un {σ : zM} {T : Nat → Nat} {n N i : Nat} (h : zCP σ T n N i) : (zA σ 4 0 3 i = 2 ↔ zIsU T n N i = true) ∧ (zIsU T n N i = true → zL σ 4 0 5 i = lN (zQn 32 0 (zRl T n i)) ∧ zLr (zRl T n i) ∧ i < N ∧ zcL T (zTs T n i) = true ∧ zTe T n (zTs T n i) - zTs T n i ≤ 8 ∧ zCd (lN (zQn 32 0 (zRl T n i))) = -1) := by
  obtain ⟨⟨h9, hN, hl, h4, h5, h6⟩, h2, h3⟩ := h
  by_cases hi : i < N
  · obtain ⟨e1, e2⟩ := h5 i hi
    rw [e1, e2]
    unfold zTkd zTkv zIsU
    rw [decide_eq_true hi, Bool.true_and]
    by_cases hL : zcL T (zTs T n i) = true
    · rw [if_pos hL, if_pos hL, hL, Bool.true_and]
      by_cases h8 : zTe T n (zTs T n i) - zTs T n i ≤ 8
      · have hr := zRv_lr (hl i hi) hL h8
        rw [if_pos h8, if_pos h8, decide_eq_true h8, Bool.true_and, decide_eq_true_eq]
        refine ⟨?_, fun e => ?_⟩
        · by_cases e : zCd (zW5 T (zTs T n i) (zTe T n (zTs T n i) - zTs T n i)) = -1
          · rw [if_pos e]
            exact ⟨fun _ => e, fun _ => rfl⟩
          · rw [if_neg e]
            exact ⟨fun h => absurd h (by decide), fun h => absurd h e⟩
        · rw [if_pos e]
          unfold zW5 at e ⊢
          rw [if_pos h8] at e ⊢
          exact ⟨rfl, hr, hi, rfl, h8, e⟩
      · rw [if_neg h8, decide_eq_false h8, Bool.false_and]
        exact ⟨⟨fun h => absurd h (by decide), fun h => by cases h⟩, fun h => by cases h⟩
    · have hL' : zcL T (zTs T n i) = false := by
        cases e : zcL T (zTs T n i)
        · rfl
        · exact absurd e hL
      rw [if_neg hL, hL', Bool.false_and, Bool.false_and]
      refine ⟨⟨fun h1 => ?_, fun h => by cases h⟩, fun h => by cases h⟩
      split at h1
      · split at h1
        · exact absurd h1 (by decide)
        · exact absurd h1 (by decide)
      · split at h1
        · exact absurd h1 (by decide)
        · exact absurd h1 (by decide)
  · have : i = N := by omega
    subst this
    rw [h6]
    unfold zIsU
    rw [decide_eq_false (Nat.lt_irrefl i), Bool.false_and, Bool.false_and, Bool.false_and]
    exact ⟨⟨fun h => absurd h (by decide), fun h => by cases h⟩, fun h => by cases h⟩
/-- what the reference's word is, whatever it is -/
theorem X12_wrd {σ : zM} {T : Nat → Nat} {n N i : Nat} (hN : zTs T n N = n ∧ ∀ i, i < N → zTs T n i < n) (hi : i ≤ N) (h : zRP σ T n i) : ∃ w σ', f_X12_word_ σ = some (w, σ') ∧ zEx [(12, 21), (12, 40)] σ σ' ∧ zRN σ' T n i ∧ (w = 0 ∨ (w = lN (zQn 256 96 (zRl T n i)) ∧ zLr (zRl T n i) ∧ w ≠ 0 ∧ i < N ∧ zI σ' 12 0 40 = nI (zTe T n (zTs T n i)) ∧ (zIsU T n N i = true ↔ zCd (lN (zQn 32 0 (zRl T n i))) = -1))) ∧ (zIsU T n N i = true → w ≠ 0) := by
  obtain ⟨hr, p, hp, hpa, hat⟩ := h
  obtain ⟨σ1, w1, w2, w3, w4⟩ := X12_word_ hr hp hat hpa.symm rfl
  have ha := (zTs_fix (T := T) (n := n) i).1
  refine ⟨_, σ1, w1, w2, ⟨zTr_fr hr w2 (by decide) (by decide), w3⟩, ?_⟩
  by_cases hl : zTs T n i < n ∧ zcL T (zTs T n i) = true
  · have hiN : i < N := by
      rcases Nat.lt_or_ge i N with h | h
      · exact h
      · have : i = N := by omega
        rw [this, hN.1] at hl
        omega
    rw [zle_y hl.2] at w4 ⊢
    by_cases h8 : zTe T n (zTs T n i) - zTs T n i ≤ 8
    · have hlr := zRv_lr hl.1 hl.2 h8
      have hne := (zl8ne hlr).1
      have ew : zW8 T (zTs T n i) (zTe T n (zTs T n i) - zTs T n i) = lN (zQn 256 96 (zRl T n i)) := by
        unfold zW8 zRl
        rw [if_pos h8]
      rw [ew]
      refine ⟨Or.inr ⟨rfl, hlr, hne, hiN, w4, ?_⟩, fun _ => hne⟩
      unfold zIsU
      rw [decide_eq_true hiN, hl.2, decide_eq_true h8, Bool.true_and, Bool.true_and, Bool.true_and, decide_eq_true_eq]
      unfold zW5 zRl
      rw [if_pos h8]
    · have ew : zW8 T (zTs T n i) (zTe T n (zTs T n i) - zTs T n i) = 0 := by
        unfold zW8
        rw [if_neg h8]
      refine ⟨Or.inl ew, fun h => ?_⟩
      unfold zIsU at h
      rw [decide_eq_false h8, Bool.and_false, Bool.false_and] at h
      cases h
  · rw [zle_n ha hl, Nat.sub_self]
    refine ⟨Or.inl rfl, fun h => ?_⟩
    unfold zIsU at h
    rw [Bool.and_eq_true, Bool.and_eq_true, Bool.and_eq_true, decide_eq_true_eq] at h
    exact absurd ⟨hN.2 i h.1.1.1, h.1.1.2⟩ hl
theorem zPT_up {W : Nat → List Nat} {k t j : Nat} (h : zPT W k t) (hj : j < k) (hk : k ≤ 12) (hc : zCd (lN (zQn 32 0 (W j))) = -1) : zPT W k (t ||| 2 ^ (j + 1)) := by
  refine ⟨?_, fun q hq => ?_⟩
  · have h1 : 2 ^ (j + 1) < 2 ^ 13 := Nat.pow_lt_pow_right (by decide) (by omega)
    exact Nat.or_lt_two_pow (n := 13) h.1 h1
  · rw [fb_bit_set, Bool.or_eq_true, decide_eq_true_eq] at hq
    rcases hq with hq | hq
    · exact h.2 q hq
    · subst hq
      exact ⟨by omega, by omega, hc⟩
theorem zJ_new {σ σ' : zM} {T : Nat → Nat} {n N i : Nat} {W : Nat → List Nat} {k0 pd t : Nat} (h : zPC σ T n N i W k0 pd t) (h' : zPR σ' T n i W (k0 + pd) t) : (∃ σ1 σ1' q W' pd' t', f_X4_takeNewName σ = some (1, σ1) ∧ f_X12_takesNew σ' = some (1, σ1') ∧ zEx [(4, 6), (4, 8), (4, 9), (5, 0), (5, 2)] σ σ1 ∧ zEx [(12, 17), (12, 37), (12, 41), (12, 23), (12, 21), (12, 40)] σ' σ1' ∧ 1 ≤ q ∧ q ≤ 12 ∧ zI σ1 4 0 9 = nI q ∧ zI σ1' 12 0 41 = nI q ∧ i < N ∧ zPC σ1 T n N (i + 1) W' k0 pd' t' ∧ zPR σ1' T n (i + 1) W' (k0 + pd') t' ∧ ∀ j, j < k0 → W' j = W j) ∨ ∃ σ1', f_X4_takeNewName σ = some (0, σ) ∧ f_X12_takesNew σ' = some (0, σ1') ∧ zEx [(12, 21), (12, 40)] σ' σ1' ∧ zPX σ1' T n i W (k0 + pd) t := by
  have hN := zTks_N h.1.1
  obtain ⟨u1, u2⟩ := X4_un h.1
  obtain ⟨w, σ1, w1, w2, w3, w4, w5⟩ := X12_wrd hN h.1.2.1 h'.1
  obtain ⟨hcp, hnm, hto, hpt⟩ := h
  have hns := zNmS_x h'.2.1 w2 (by decide) (by decide)
  have ht : zI σ1 12 0 23 = nI t := (w2.1 12 0 23 (by decide)).trans h'.2.2
  have hk12 := hnm.1
  have ht13 := hpt.1
  have fail : f_X4_takeNewName σ = some (0, σ) → f_X12_takesNew σ' = some (0, σ1) → ∃ σ1', f_X4_takeNewName σ = some (0, σ) ∧ f_X12_takesNew σ' = some (0, σ1') ∧ zEx [(12, 21), (12, 40)] σ' σ1' ∧ zPX σ1' T n i W (k0 + pd) t := fun a b => ⟨σ1, a, b, w2, w3, hns, ht⟩
  by_cases hU : zIsU T n N i = true
  · obtain ⟨v1, v2, v3, v4, v5, v6⟩ := u2 hU
    obtain ⟨rw1, -, rw2, -, rw3, -⟩ := w4.resolve_left (w5 hU)
    obtain ⟨r, hr⟩ : ∃ r, r = zRl T n i := ⟨_, rfl⟩
    rw [← hr] at v1 v2 v6 rw1
    have hE := zTe_b (T := T) (hN.2 i v3)
    have hS := zTs_s (hN.2 i v3)
    have hfc := X5_fd hnm v2
    have hfr := X12_fd hns v2
    -- the class with a number q
    have cB : ∀ σa q, 1 ≤ q → q < 13 → zI σa 4 0 8 = nI i → f_X4_takeNewName_B39 σa (nI q) = some (1, zsI (zsI (zsA σa 4 0 6 q 1) 4 0 9 (nI q)) 4 0 8 (nI (i + 1))) := fun σa q h1 h2 h3 => by
      unfold f_X4_takeNewName_B39
      rw [if_neg (by rw [zq1, nI_ltI (by omega) (by omega)]; omega), if_pos (by rw [zq13]; exact nI_lt h2 (by omega)), zix_n h2 (by omega), Option.bind_some, zlt_e, zlt_e]
      rw [show zI (zsI (zsA σa 4 0 6 q (vp_nar .boolean 1)) 4 0 9 (nI q)) 4 0 8 = nI i from h3, nI_1, zlt_e, show vp_nar .boolean 1 = 1 by decide]
    have rB : ∀ σa q, q < 13 → f_X12_named σa w = some (nI q) → zI σa 12 0 23 = nI t → zI σa 12 0 40 = nI (zTe T n (zTs T n i)) → f_X12_takesNew_B60 σa w = some (1, zsI (zsI (zsI σa 12 0 41 (nI q)) 12 0 23 (nI (t ||| 2 ^ q))) 12 0 21 (nI (zTe T n (zTs T n i)))) := fun σa q h1 h2 h3 h4 => by
      unfold f_X12_takesNew_B60
      rw [h2, Option.bind_some, zlt_e]
      rw [show zI (zsI σa 12 0 41 (nI q)) 12 0 23 = nI t from h3, show zI (zsI σa 12 0 41 (nI q)) 12 0 41 = nI q from rfl, z1shl q (by omega), fa_or, zlt_e]
      rw [show zI (zsI (zsI σa 12 0 41 (nI q)) 12 0 23 (nI (t ||| 2 ^ q))) 12 0 40 = nI (zTe T n (zTs T n i)) from h4, zlt_e]
    have hc0 : f_X4_takeNewName σ = if zFd W r (k0 + pd) = -1 then ((f_X5_add σ (lN (zQn 32 0 r))).bind fun q17 => f_X4_takeNewName_B39 q17.2 q17.1) else f_X4_takeNewName_B39 σ (zFd W r (k0 + pd)) := by
      unfold f_X4_takeNewName
      rw [X4_kind hcp, Option.bind_some, if_pos (u1.mpr hU), if_neg z10, X4_val hcp, Option.bind_some, v1, hfc, Option.bind_some, Option.bind_some]
    have hr0 : f_X12_takesNew σ' = if zFd W r (k0 + pd) = -1 then (if (zI σ1 12 0 17) = 12 then (some (0, σ1)) else (zlt (zsI σ1 12 0 17 ((zI σ1 12 0 17) + 1)) fun σ15 => (zix (zI σ15 12 0 17) 13).bind fun i16 => zlt (zsL σ15 12 0 37 i16 w) fun σ17 => f_X12_takesNew_B60 σ17 w)) else (f_X12_takesNew_B60 σ1 w) := by
      unfold f_X12_takesNew
      rw [w1, Option.bind_some]
      show (if w = 0 then _ else if f_X12_isKept w = 0 then ((f_X12_named σ1 w).bind _) else _) = _
      rw [if_neg rw2, rw1, zkept v2, if_pos v6, if_pos rfl, hfr, Option.bind_some]
    have toC : ∀ {σa : zM} q, zA σa 4 0 6 = zA σ 4 0 6 → zToC (zsI (zsI (zsA σa 4 0 6 q 1) 4 0 9 (nI q)) 4 0 8 (nI (i + 1))) (t ||| 2 ^ q) := fun {σa} q e x hx => by
      show zu (zA σa 4 0 6) q 1 x = _
      rw [fb_bit_set, e]
      by_cases ex : x = q
      · rw [ex, zu_eq]
        simp
      · rw [zu_ne _ _ ex, hto x hx, decide_eq_false ex, Bool.or_false]
    rcases zFd_v (W := W) (r := r) (k := k0 + pd) with ⟨e, hno⟩ | ⟨j, hj, hWj, e⟩
    · rw [e, if_pos rfl] at hc0 hr0
      by_cases h12 : k0 + pd = 12
      · refine Or.inr (fail ?_ ?_)
        · rw [hc0]
          unfold f_X5_add
          rw [hnm.2.1, hnm.2.2.1, nI_add, h12, if_neg (by decide), if_neg (by decide), Option.bind_some]
          show f_X4_takeNewName_B39 σ (-1) = _
          unfold f_X4_takeNewName_B39
          rw [if_pos (by decide)]
        · rw [hr0, hns.2.1, h12, if_pos (show nI 12 = 12 from rfl)]
      · left
        have hadd : f_X5_add σ (lN (zQn 32 0 r)) = some (nI (k0 + pd + 1), zsI (zsL σ 5 0 0 (k0 + pd) (lN (zQn 32 0 r))) 5 0 2 (nI (pd + 1))) := by
          unfold f_X5_add
          rw [hnm.2.1, hnm.2.2.1, nI_add, if_neg (zlt0 (by omega)), if_pos (by rw [zq12]; exact nI_lt (by omega) (by omega)), zix_n (show k0 + pd < 12 by omega) (by omega), Option.bind_some, zlt_e]
          rw [show zI (zsL σ 5 0 0 (k0 + pd) (lN (zQn 32 0 r))) 5 0 2 = nI pd from hnm.2.2.1, nI_1, zlt_e, nI_1]
        have hWk : ∀ x, x < k0 + pd + 1 → zLr (zu W (k0 + pd) r x) := fun x hx => by
          by_cases ex : x = k0 + pd
          · rw [ex, zu_eq]; exact v2
          · rw [zu_ne _ _ ex]; exact (hnm.2.2.2 x (by omega)).1
        obtain ⟨σc, hσc⟩ : ∃ x, x = zsI (zsL σ 5 0 0 (k0 + pd) (lN (zQn 32 0 r))) 5 0 2 (nI (pd + 1)) := ⟨_, rfl⟩
        have xc : zEx [(5, 0), (5, 2)] σ σc := by rw [hσc]; exact (zEx_sL (by decide)).tr (zEx_sI (by decide))
        have nmc : zNmL σc (zu W (k0 + pd) r) k0 (pd + 1) := by
          refine ⟨by omega, (xc.1 5 0 1 (by decide)).trans hnm.2.1, by rw [hσc]; rfl, fun x hx => ⟨hWk x (by omega), ?_⟩⟩
          rw [hσc]
          show zu (zL σ 5 0 0) (k0 + pd) (lN (zQn 32 0 r)) x = _
          by_cases ex : x = k0 + pd
          · rw [ex, zu_eq, zu_eq]
          · rw [zu_ne _ _ ex, zu_ne _ _ ex]; exact (hnm.2.2.2 x (by omega)).2
        obtain ⟨σr, hσr⟩ : ∃ x, x = zsL (zsI σ1 12 0 17 (nI (k0 + pd + 1))) 12 0 37 (k0 + pd + 1) w := ⟨_, rfl⟩
        have xr : zEx [(12, 17), (12, 37)] σ1 σr := by rw [hσr]; exact (zEx_sI (by decide)).tr (zEx_sL (by decide))
        have nmr : zNmS σr (zu W (k0 + pd) r) (k0 + (pd + 1)) := by
          refine ⟨by omega, by rw [hσr]; rfl, fun x hx => ⟨hWk x (by omega), ?_⟩⟩
          rw [hσr]
          show zu (zL σ1 12 0 37) (k0 + pd + 1) w (x + 1) = _
          by_cases ex : x = k0 + pd
          · rw [ex, zu_eq, zu_eq, rw1]
          · rw [zu_ne _ _ (by omega), zu_ne _ _ ex]; exact (hns.2.2 x (by omega)).2
        have hfd : zFd (zu W (k0 + pd) r) r (k0 + (pd + 1)) = nI (k0 + pd + 1) := by
          have := zfdF_new (W := zu W (k0 + pd) r) (r := r) (k0 + pd) 0 (fun x _ hx => by rw [zu_ne _ _ (by omega)]; exact hno x (by omega)) (by rw [Nat.zero_add, zu_eq])
          rw [Nat.zero_add] at this
          exact this
        have hnamed : f_X12_named σr w = some (nI (k0 + pd + 1)) := by rw [rw1, X12_fd nmr v2, hfd]
        have ptn : zPT (zu W (k0 + pd) r) (k0 + (pd + 1)) t := ⟨ht13, fun x hx => by
          obtain ⟨a1, a2, a3⟩ := hpt.2 x hx
          exact ⟨a1, by omega, by rw [zu_ne _ _ (by omega)]; exact a3⟩⟩
        have pt' := zPT_up (j := k0 + pd) ptn (by omega) (by omega) (by rw [zu_eq]; exact v6)
        refine ⟨zsI (zsI (zsA σc 4 0 6 (k0 + pd + 1) 1) 4 0 9 (nI (k0 + pd + 1))) 4 0 8 (nI (i + 1)), zsI (zsI (zsI σr 12 0 41 (nI (k0 + pd + 1))) 12 0 23 (nI (t ||| 2 ^ (k0 + pd + 1)))) 12 0 21 (nI (zTe T n (zTs T n i))), k0 + pd + 1, zu W (k0 + pd) r, pd + 1, t ||| 2 ^ (k0 + pd + 1), ?_, ?_, (xc.mo (by decide)).tr (((zEx_sA (by decide)).tr (zEx_sI (by decide))).tr (zEx_sI (by decide))), (w2.mo (by decide)).tr ((xr.mo (by decide)).tr (((zEx_sI (by decide)).tr (zEx_sI (by decide))).tr (zEx_sI (by decide)))), by omega, by omega, ?_, ?_, v3, ⟨?_, ?_, toC (σa := σc) _ (xc.2.2.2.1 4 0 6 (by decide)), pt'⟩, ⟨?_, ?_, rfl⟩, fun x hx => zu_ne _ _ (by omega)⟩
        · rw [hc0, hadd, Option.bind_some, ← hσc]
          exact cB σc (k0 + pd + 1) (by omega) (by omega) ((xc.1 4 0 8 (by decide)).trans hcp.2.2)
        · rw [hr0, hns.2.1, if_neg (by rw [zq12, nI_eq (by omega) (by omega)]; exact h12), nI_1, zlt_e]
          rw [show zI (zsI σ1 12 0 17 (nI (k0 + pd + 1))) 12 0 17 = nI (k0 + pd + 1) from rfl, zix_n (show k0 + pd + 1 < 13 by omega) (by omega), Option.bind_some, zlt_e, ← hσr]
          exact rB σr (k0 + pd + 1) (by omega) hnamed ((xr.1 12 0 23 (by decide)).trans ht) ((xr.1 12 0 40 (by decide)).trans rw3)
        · rfl
        · rfl
        · refine ⟨?_, v3, rfl⟩
          have := zCP_x hcp (F := [(5, 0), (5, 2), (4, 6), (4, 9)]) ((xc.mo (by decide)).tr (((zEx_sA (c := 4) (i := 0) (k := 6) (j := k0 + pd + 1) (v := 1) (by decide)).tr (zEx_sI (c := 4) (i := 0) (k := 9) (v := nI (k0 + pd + 1)) (by decide))))) (by decide)
          exact this.1
        · exact nmc
        · refine ⟨?_, zTe T n (zTs T n i), hE.2, hS.1.symm, rfl⟩
          exact zTr_fr (F := [(12, 17), (12, 37), (12, 41), (12, 23), (12, 21), (12, 40)]) h'.1.1 ((w2.mo (by decide)).tr ((xr.mo (by decide)).tr (((zEx_sI (by decide)).tr (zEx_sI (by decide))).tr (zEx_sI (by decide))))) (by decide) (by decide)
        · exact nmr
    · left
      have hj12 : j < 12 := by omega
      rw [e, if_neg (znI_m1 (by omega))] at hc0 hr0
      have pt' := zPT_up hpt hj hk12 (by rw [hWj]; exact v6)
      refine ⟨_, _, j + 1, W, pd, t ||| 2 ^ (j + 1), hc0.trans (cB σ (j + 1) (by omega) (by omega) hcp.2.2), hr0.trans (rB σ1 (j + 1) (by omega) (by rw [rw1, hfr, e]) ht rw3), ((zEx_sA (by decide)).tr (zEx_sI (by decide))).tr (zEx_sI (by decide)), (w2.mo (by decide)).tr (((zEx_sI (by decide)).tr (zEx_sI (by decide))).tr (zEx_sI (by decide))), by omega, by omega, rfl, rfl, v3, ⟨?_, ?_, toC (σa := σ) _ rfl, pt'⟩, ⟨?_, ?_, rfl⟩, fun _ _ => rfl⟩
      · refine ⟨?_, v3, rfl⟩
        have := zCP_x hcp (F := [(4, 6), (4, 9)]) (((zEx_sA (c := 4) (i := 0) (k := 6) (j := j + 1) (v := 1) (by decide)).tr (zEx_sI (c := 4) (i := 0) (k := 9) (v := nI (j + 1)) (by decide)))) (by decide)
        exact this.1
      · exact hnm
      · refine ⟨?_, zTe T n (zTs T n i), hE.2, hS.1.symm, rfl⟩
        exact zTr_fr (F := [(12, 41), (12, 23), (12, 21), (12, 40)]) h'.1.1 ((w2.mo (by decide)).tr (((zEx_sI (by decide)).tr (zEx_sI (by decide))).tr (zEx_sI (by decide)))) (by decide) (by decide)
      · exact hns
  · refine Or.inr (fail ?_ ?_)
    · unfold f_X4_takeNewName
      rw [X4_kind hcp, Option.bind_some, if_neg (fun h => hU (u1.mp h)), if_pos rfl]
    · unfold f_X12_takesNew
      rw [w1, Option.bind_some]
      show (if w = 0 then some (0, σ1) else _) = _
      rcases w4 with w4 | ⟨g1, g2, g3, g4, g5, g6⟩
      · rw [if_pos w4]
      · rw [if_neg g3]
        show (if f_X12_isKept w = 0 then _ else some (0, σ1)) = _
        rw [g1, zkept g2, if_neg (fun h => hU (g6.mpr h)), if_neg z10]
