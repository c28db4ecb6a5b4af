/-! ways: the call -/
theorem zcoP_lt {C : Nat → Nat} {n k : Nat} {st : zBS} (hk : k < 160) (h : ∀ z ∈ st.2, z < 160) : ∀ j, ∀ z ∈ (zcoP C n k st j).2, z < 160
  | 0 => h
  | j + 1 => by
    have ih := zcoP_lt (C := C) (n := n) hk h j
    show ∀ z ∈ (match zng C k j with | none => zcoP C n k st j | some o => zcom (zcoP C n k st j) o n).2, z < 160
    cases e : zng C k j with
    | none => exact ih
    | some o =>
      intro z hz
      have hz : z ∈ (zcom (zcoP C n k st j) o n).2 := hz
      unfold zcom at hz
      split at hz
      · rcases List.mem_append.mp hz with hz | hz
        · exact ih z hz
        · rw [List.mem_singleton] at hz
          rw [hz]
          exact zng_lt hk e
      · exact ih z hz
theorem zbfs_nob {C : Nat → Nat} {b : Nat} (hb : ∀ k, k < 160 → C k ≠ b) : ∀ (f i : Nat) (st : zBS), (∀ z ∈ st.2, z < 160) → zbfs C b f i st = none
  | 0, _, _, _ => rfl
  | f + 1, i, st, h => by
    show (match st.2[i]? with | none => none | some k => if C k = b then st.1 k else zbfs C b f (i + 1) (zcoms st ((st.1 k).getD 0 + 1) (znbs C k))) = none
    cases e : st.2[i]? with
    | none => rfl
    | some k =>
      have hk := h k (List.mem_of_getElem? e)
      show (if C k = b then _ else _) = none
      rw [if_neg (hb k hk), ← zcoP_5]
      exact zbfs_nob hb f (i + 1) _ (zcoP_lt hk h 5)
theorem zini_lt {C : Nat → Nat} {a : Nat} : ∀ z ∈ (zini C a).2, z < 160 ∧ C z = a := fun z hz => by
  have hz : z ∈ (List.range 160).filter fun k => decide (C k = a) := hz
  rw [List.mem_filter, List.mem_range] at hz
  exact ⟨hz.1, by simpa using hz.2⟩
theorem zcnt_no {C : Nat → Nat} {a : Nat} (h : zcnt1 C a = 0) : ∀ k, k < 160 → C k ≠ a := fun k hk e => by
  have := fb_ct_zero.mp h k hk
  simp [e] at this
theorem X8_steps {σ : zM} {s a b u : Nat} {C : Nat → Nat} (hX : zCX σ s C) (ha : 1 ≤ a) (ha2 : a < 15) (hb : 1 ≤ b) (hb2 : b < 15) (hu : u < 2147483648) : ∃ σ', f_X8_stepsWithin σ s (nI a) (nI b) (nI u) = some (zOI (zWtn (zStp C a b) u), σ') ∧ zEx [(8, 1), (8, 2)] σ σ' := by
  have l160 : ∀ w, zcnt1 C w ≤ 160 := fun w => fb_ct_le _ _
  have n0 : ∀ w, nI (zcnt1 C w) = 0 ↔ zcnt1 C w = 0 := fun w => by
    have := l160 w
    rw [show (0 : Int32) = nI 0 from rfl, nI_eq (by omega) (by omega)]
  unfold f_X8_stepsWithin
  rw [X7_many hX ha ha2, Option.bind_some]
  by_cases c1 : zcnt1 C a = 0
  · rw [if_pos ((n0 a).mpr c1)]
    have e : zStp C a b = none := by
      unfold zStp
      refine zbfs_no ?_
      cases el : (zini C a).2 with
      | nil => exact Nat.le_refl _
      | cons z l =>
        have := zini_lt z (by rw [el]; exact List.mem_cons_self)
        exact absurd this.2 (zcnt_no c1 z this.1)
    rw [e]
    exact ⟨σ, rfl, zEx.rf⟩
  · rw [if_neg (mt (n0 a).mp c1), X7_many hX hb hb2, Option.bind_some]
    by_cases c2 : zcnt1 C b = 0
    · rw [if_pos ((n0 b).mpr c2)]
      have e : zStp C a b = none := zbfs_nob (zcnt_no c2) _ _ _ (fun z hz => (zini_lt z hz).1)
      rw [e]
      exact ⟨σ, rfl, zEx.rf⟩
    · rw [if_neg (mt (n0 b).mp c2), if_pos (show (0 : Int32) ≤ nI u by rw [show (0 : Int32) = nI 0 from rfl, nI_leI (by omega) hu]; omega)]
      by_cases c3 : a = b
      · subst c3
        rw [if_pos rfl]
        have e : zStp C a a = some 0 := by
          cases el : (zini C a).2 with
          | nil =>
            have hn : ∀ k, k < 160 → C k ≠ a := fun k hk e => by
              have : k ∈ (zini C a).2 := List.mem_filter.mpr ⟨List.mem_range.mpr hk, by simpa using e⟩
              rw [el] at this
              cases this
            exact absurd (fb_ct_zero.mpr (fun k hk => decide_eq_false (hn k hk))) c1
          | cons z l =>
            have hz := zini_lt z (by rw [el]; exact List.mem_cons_self)
            unfold zStp
            rw [zbfs_yes (k := z) (by rw [el]; rfl) hz.2]
            exact if_pos hz
        rw [e]
        exact ⟨σ, rfl, zEx.rf⟩
      · rw [if_neg (by rw [nI_eq (by omega) (by omega)]; exact c3)]
        obtain ⟨σ1, w1, B1, X1⟩ := X8_wk0 (x3 := nI b) (x4 := nI u) hX ha ha2
        have hX1 : zCX σ1 s C := zCX_fr (X1.2.2.2.1 7 s 2 (by simp)) (X1.2.2.2.1 7 s 3 (by simp)) (X1.2.2.2.1 7 s 4 (by simp)) (X1.1 7 s 5 (by simp)) hX
        obtain ⟨t, w2, ht⟩ := X8_wk2 (a := a) (x3 := nI (zini C a).2.length) hX1 hb2 hu B1 (fun z hz e => c3 ((zini_lt z hz).2.symm.trans e))
        rw [w1, Option.bind_some]
        unfold f_X8_stepsWithin_B113 f_X8_walk f_X8_walk_B128
        simp only []
        rw [w2, Option.bind_some]
        rcases ht with ⟨σ', rfl | rfl, e, X⟩ | ⟨σ', v, rfl, e, X⟩
        · exact ⟨σ', by rw [e]; rfl, X1.tr X⟩
        · exact ⟨σ', by rw [e]; rfl, X1.tr X⟩
        · refine ⟨σ', ?_, X1.tr X⟩
          rw [e]
          show some (nI v + 1, σ') = some (nI (v + 1), σ')
          rw [nI_1]
theorem X8_stepsN {σ : zM} {s a b : Nat} {C : Nat → Nat} {m : Int32} (hX : zCX σ s C) (ha : 1 ≤ a) (ha2 : a < 15) (hb : 1 ≤ b) (hb2 : b < 15) (hm : ¬ 0 ≤ m) : f_X8_stepsWithin σ s (nI a) (nI b) m = some (-1, σ) := by
  unfold f_X8_stepsWithin
  rw [X7_many hX ha ha2, Option.bind_some]
  by_cases c1 : nI (zcnt1 C a) = 0
  · rw [if_pos c1]
  · rw [if_neg c1, X7_many hX hb hb2, Option.bind_some]
    by_cases c2 : nI (zcnt1 C b) = 0
    · rw [if_pos c2]
    · rw [if_neg c2, if_neg hm]
theorem zbfs_160 {C : Nat → Nat} {b : Nat} : ∀ (f i : Nat) (st : zBS), zWf i st → ∀ r, zbfs C b f i st = some r → r < 160
  | 0, _, _, _, _, h => by cases h
  | f + 1, i, st, hw, r, h => by
    cases hk : st.2[i]? with
    | none =>
      rw [zbfs_no (List.getElem?_eq_none_iff.mp hk)] at h
      cases h
    | some k =>
      have hm := List.mem_of_getElem? hk
      have hi : i < 160 := by
        obtain ⟨hh, -⟩ := List.getElem?_eq_some_iff.mp hk
        have := zWf_len hw
        omega
      by_cases hC : C k = b
      · rw [zbfs_yes hk hC] at h
        have := hw.2.2 k r h
        omega
      · cases hd : st.1 k with
        | none => exact absurd hd (hw.1 k hm).2
        | some d =>
          have := hw.2.2 k d hd
          rw [zbfs_st hk hC hd] at h
          exact zbfs_160 f (i + 1) _ (zWf_coP (zWf_mo (Nat.le_succ i) hw) (hw.1 k hm).1 (by omega) 5) r h
theorem zWtn_160 (C : Nat → Nat) (a b : Nat) : zWtn (zStp C a b) 160 = zStp C a b := by
  cases e : zStp C a b with
  | none => rfl
  | some r =>
    have := zbfs_160 161 0 (zini C a) (zinM_w (Nat.le_refl 160)) r e
    exact if_pos (by omega)
theorem ob_steps (x1 x2 x3 : Int32) : zOb zInv (fun σ => f_X11_steps σ x1 x2 x3) (fun σ => f_X12_steps σ x1 x2 x3) := by
  intro n σ hn hI
  have hI0 := hI
  obtain ⟨hDay, hFlt, hTap, hNam, hSun, hSch, hPai, hQue, hPan, hWds, hBri, hMen, hRnd⟩ := hI
  have no : f_X11_steps σ x1 x2 x3 = some (-1, σ) → f_X12_steps σ x1 x2 x3 = some (-1, σ) → ∃ r σ1 σ2, f_X11_steps σ x1 x2 x3 = some (r, σ1) ∧ f_X12_steps σ1 x1 x2 x3 = some (r, σ2) ∧ zInv (n + 8) σ2 ∧ zSc σ2 = zSc σ ∧ zMd σ2 = zMd σ := fun h1 h2 => ⟨-1, σ, σ, h1, h2, zMono n σ hI0, rfl, rfl⟩
  rcases zschAt hSch x1 with ⟨s, rfl, hs, hs2, e1, e2, hsc⟩ | ⟨e1, e2⟩
  · rcases zisRom x2 with ⟨a, ha1, ha2, rfl, r1, r2⟩ | ⟨r1, r2⟩
    · rcases zisRom x3 with ⟨b, hb1, hb2, rfl, t1, t2⟩ | ⟨t1, t2⟩
      · by_cases hab : nI a = nI b
        · refine no ?_ ?_
          · unfold f_X11_steps
            rw [e1, Option.bind_some]
            show (if _ then _ else _) = _
            rw [r1, if_neg z10, t1, if_neg z10, if_pos hab]
          · unfold f_X12_steps
            rw [e2, if_neg z10, r2, if_neg z10, t2, if_neg z10, if_pos hab]
        · obtain ⟨σ1, w1, X1⟩ := X8_steps (zCX_of hsc.2.2.2.2) ha1 (show a < 15 by omega) hb1 (show b < 15 by omega) (u := 160) (by omega)
          rw [zWtn_160] at w1
          have R1 : zRC σ1 s (zCl σ s) := fun k hk => ⟨(hsc.2.2.2.2.1 k hk).1, by rw [X1.2.2.2.1 12 0 3 (by decide)]; exact (hsc.2.2.2.2.1 k hk).2⟩
          obtain ⟨σ2, w2, X2⟩ := X12_steps (a := a) (b := b) R1 hs2 (by omega) (by omega)
          have hEx : zEx [(8, 1), (8, 2), (12, 7), (12, 8), (12, 9)] σ σ2 := (X1.mo (by decide)).tr (X2.mo (by decide))
          refine ⟨zOI (zStp (zCl σ s) a b), σ1, σ2, ?_, ?_, ⟨iDay_fr hEx (by decide) hDay, iFlt_fr hEx (by decide) hFlt, iTap_fr hEx (by decide) hTap, iNam_fr hEx (by decide) hNam, iSun_fr hEx (by decide) hSun, iSch_fr hEx (by decide) hSch, iPai_fr hEx (by decide) hPai, iQue_fr hEx (by decide) hQue, iPan_fr hEx (by decide) hPan, iWds_fr hEx (by decide) hWds, iBri_fr hEx (by decide) hBri, iMen_mo (iMen_fr hEx (by decide) hMen), iRnd_fr hEx (by decide) hRnd⟩, ?_, ?_⟩
          · show f_X11_steps σ (nI s) (nI a) (nI b) = _
            unfold f_X11_steps
            rw [e1, Option.bind_some]
            show (if _ then _ else _) = _
            rw [r1, if_neg z10, t1, if_neg z10, if_neg hab, zq160, w1, Option.bind_some]
          · show f_X12_steps σ1 (nI s) (nI a) (nI b) = _
            have e2' : f_X12_isScheme σ1 (nI s) = 1 := by
              have : zI σ1 12 0 1 = zI σ 12 0 1 := X1.1 12 0 1 (by decide)
              unfold f_X12_isScheme at e2 ⊢
              rw [this]
              exact e2
            unfold f_X12_steps
            rw [e2', if_neg z10, r2, if_neg z10, t2, if_neg z10, if_neg hab, w2, Option.bind_some]
          · show (zI σ2 11 0 12).toNatClampNeg = (zI σ 11 0 12).toNatClampNeg
            rw [hEx.1 11 0 12 (by decide)]
          · show (zI σ2 1 0 2).toNatClampNeg + (if zR σ2 1 0 3 = none then 0 else 1) = zMd σ
            rw [hEx.1 1 0 2 (by decide), hEx.2.2.1 1 0 3 (by decide)]
            rfl
      · refine no ?_ ?_
        · unfold f_X11_steps
          rw [e1, Option.bind_some]
          show (if _ then _ else _) = _
          rw [r1, if_neg z10, t1, if_pos rfl]
        · unfold f_X12_steps
          rw [e2, if_neg z10, r2, if_neg z10, t2, if_pos rfl]
    · refine no ?_ ?_
      · unfold f_X11_steps
        rw [e1, Option.bind_some]
        show (if _ then _ else _) = _
        rw [r1, if_pos rfl]
      · unfold f_X12_steps
        rw [e2, if_neg z10, r2, if_pos rfl]
  · refine no ?_ ?_
    · unfold f_X11_steps
      rw [e1]; rfl
    · unfold f_X12_steps
      rw [e2, if_pos rfl]
