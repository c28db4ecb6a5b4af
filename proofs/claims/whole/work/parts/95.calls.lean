/-! calls -/
theorem X9_word {σ : zM} {T : Nat → Nat} {n : Nat} (h : zTc σ T n) (h1 : 1 ≤ n) (h8 : n ≤ 8) : f_X9_wordOf σ (nI n) = some (if (∀ i, i < n → zcL T i = true) then lN (zQn 32 0 (zRv T 0 n)) else 0) := by
  have hz : ∃ t, zwh (fun (q : (Int64 × Int32)) => f_X9_wordOf_L18 σ (nI n) q.1 q.2) zFu (0, 0) = some t ∧ ((t = .inr (lN (zQn 32 0 (zRv T 0 n))) ∧ ∀ i, i < n → zcL T i = true) ∨ (t = .inl () ∧ ∃ i, i < n ∧ zcL T i = false)) := by
    refine zwh_ex (fun (i : Nat) (q : Int64 × Int32) => q = (lN (zQn 32 0 (zRv T 0 i)), nI i) ∧ ∀ j, j < i → zcL T j = true) _ n ⟨rfl, fun j hj => absurd hj (Nat.not_lt_zero j)⟩ (fun i q hi hq => ?_) (fun q hq => ?_) (by omega)
    · obtain ⟨rfl, hl⟩ := hq
      obtain ⟨a1, a2⟩ := X9_at h hi
      by_cases hc : zcL T i = true
      · refine Or.inl ⟨(lN (zQn 32 0 (zRv T 0 (i + 1))), nI (i + 1)), ?_, rfl, fun j hj => ?_⟩
        · show f_X9_wordOf_L18 σ (nI n) _ (nI i) = _
          unfold f_X9_wordOf_L18
          have hc' := hc
          unfold zcL at hc'
          rw [Bool.and_eq_true] at hc'
          rw [if_neg (by rw [nI_leI (by omega) (by omega)]; omega), a1, Option.bind_some, zcL_C a2, if_pos hc, if_neg z10, zjn5 (of_decide_eq_true hc'.1) (of_decide_eq_true hc'.2), nI_1]
          show _ = some (Sum.inl (lN (zQn 32 0 (zRv T 0 i) * 32 + (T (0 + i) - 96 + 0)), _))
          rw [Nat.zero_add]
        · by_cases e : j = i
          · rw [e]; exact hc
          · exact hl j (by omega)
      · refine Or.inr ⟨.inl (), ?_, Or.inr ⟨rfl, i, hi, by cases e : zcL T i; rfl; exact absurd e hc⟩⟩
        show f_X9_wordOf_L18 σ (nI n) _ (nI i) = _
        unfold f_X9_wordOf_L18
        rw [if_neg (by rw [nI_leI (by omega) (by omega)]; omega), a1, Option.bind_some, zcL_C a2, if_neg hc, if_pos rfl]
    · obtain ⟨rfl, hl⟩ := hq
      refine ⟨.inr (lN (zQn 32 0 (zRv T 0 n))), ?_, Or.inl ⟨rfl, hl⟩⟩
      show f_X9_wordOf_L18 σ (nI n) _ (nI n) = _
      unfold f_X9_wordOf_L18
      rw [if_pos (nI_le (Nat.le_refl _) (by omega))]
  obtain ⟨t, w, ht⟩ := hz
  unfold f_X9_wordOf
  rw [if_neg (by rw [zq1, nI_ltI (by omega) (by omega)]; omega), if_pos (by rw [zq8, nI_leI (by omega) (by omega)]; omega), w, Option.bind_some]
  rcases ht with ⟨rfl, hl⟩ | ⟨rfl, i, hi, hc⟩
  · rw [if_pos hl]
    rfl
  · rw [if_neg (fun hl => by rw [hl i hi] at hc; cases hc)]
    rfl
theorem X9_word0 {σ : zM} {n : Nat} (h : ¬ (1 ≤ n ∧ n ≤ 8)) (hn : n ≤ 900) : f_X9_wordOf σ (nI n) = some 0 := by
  unfold f_X9_wordOf
  by_cases h1 : 1 ≤ n
  · rw [if_neg (by rw [zq1, nI_ltI (by omega) (by omega)]; omega), if_neg (by rw [zq8, nI_leI (by omega) (by omega)]; omega)]
  · rw [if_pos (by rw [zq1, nI_ltI (by omega) (by omega)]; omega)]
theorem X12_calls1 {σ : zM} {T : Nat → Nat} {n : Nat} {x1 : Int32} (h : zTr σ T n) (h1 : 1 ≤ n) (h8 : n ≤ 8) : ∃ t, zwh (fun (q : (Int32 × Int64 × Int32)) => f_X12_calls_L43 σ x1 (nI n) q.1 q.2.1 q.2.2) zFu (1, 0, 0) = some t ∧ ((t = (1, lN (zQn 256 96 (zRv T 0 n))) ∧ ∀ i, i < n → zcL T i = true) ∨ (t.1 = 0 ∧ ∃ i, i < n ∧ zcL T i = false)) := by
  have hstop : ∀ (w : Int64) (k : Int32), f_X12_calls_L43 σ x1 (nI n) 0 w k = some (.inr (0, w)) := fun w k => by
    unfold f_X12_calls_L43
    by_cases hc : nI n ≤ k
    · rw [if_pos hc]
    · rw [if_neg hc, if_pos rfl]
  refine zwh_ex (fun (i : Nat) (q : Int32 × Int64 × Int32) => (q = (1, lN (zQn 256 96 (zRv T 0 i)), nI i) ∧ ∀ j, j < i → zcL T j = true) ∨ (q.1 = 0 ∧ ∃ i, i < n ∧ zcL T i = false)) _ n (Or.inl ⟨rfl, fun j hj => absurd hj (Nat.not_lt_zero j)⟩) (fun i q hi hq => ?_) (fun q hq => ?_) (by omega)
  · rcases hq with ⟨rfl, hl⟩ | ⟨h0, hb⟩
    · refine Or.inl ?_
      by_cases hc : zcL T i = true
      · obtain ⟨l1, l2, l3, l4, l5⟩ := (zcL_R h hi).1 hc
        refine ⟨(1, lN (zQn 256 96 (zRv T 0 (i + 1))), nI (i + 1)), ?_, Or.inl ⟨rfl, fun j hj => ?_⟩⟩
        · show f_X12_calls_L43 σ x1 (nI n) 1 _ (nI i) = _
          unfold f_X12_calls_L43
          rw [if_neg (by rw [nI_leI (by omega) (by omega)]; omega), if_neg z10, zix_n (show i < 900 by omega) (by omega), Option.bind_some, if_neg l2, Option.bind_some, Option.bind_some, if_neg l3, l1, zjn8m l4 l5, nI_1]
          show _ = some (Sum.inl (1, lN (zQn 256 96 (zRv T 0 i) * 256 + (T (0 + i) - 96 + 96)), _))
          rw [Nat.zero_add]
        · by_cases e : j = i
          · rw [e]; exact hc
          · exact hl j (by omega)
      · have hf : zcL T i = false := by cases e : zcL T i; rfl; exact absurd e hc
        rcases (zcL_R h hi).2 hf with hd | ⟨hd, he⟩
        · refine ⟨(0, zlshl (lN (zQn 256 96 (zRv T 0 i))) 8 ||| ((zA σ 12 0 39 i).toInt64 &&& 255), nI i + 1), ?_, Or.inr ⟨rfl, i, hi, hf⟩⟩
          · show f_X12_calls_L43 σ x1 (nI n) 1 _ (nI i) = _
            unfold f_X12_calls_L43 f_X12_calls_B81_43 f_X12_calls_B82_43
            rw [if_neg (by rw [nI_leI (by omega) (by omega)]; omega), if_neg z10, zix_n (show i < 900 by omega) (by omega), Option.bind_some, if_pos hd, Option.bind_some]
        · refine ⟨(0, zlshl (lN (zQn 256 96 (zRv T 0 i))) 8 ||| ((zA σ 12 0 39 i).toInt64 &&& 255), nI i + 1), ?_, Or.inr ⟨rfl, i, hi, hf⟩⟩
          · show f_X12_calls_L43 σ x1 (nI n) 1 _ (nI i) = _
            unfold f_X12_calls_L43
            rw [if_neg (by rw [nI_leI (by omega) (by omega)]; omega), if_neg z10, zix_n (show i < 900 by omega) (by omega), Option.bind_some, if_neg hd, Option.bind_some, Option.bind_some, if_pos he]
    · obtain ⟨q1, q2, q3⟩ := q
      simp only at h0
      subst h0
      exact Or.inr ⟨(0, q2), hstop q2 q3, Or.inr ⟨rfl, hb⟩⟩
  · rcases hq with ⟨rfl, hl⟩ | ⟨h0, hb⟩
    · refine ⟨(1, lN (zQn 256 96 (zRv T 0 n))), ?_, Or.inl ⟨rfl, hl⟩⟩
      show f_X12_calls_L43 σ x1 (nI n) 1 _ (nI n) = _
      unfold f_X12_calls_L43
      rw [if_pos (nI_le (Nat.le_refl _) (by omega))]
    · obtain ⟨q1, q2, q3⟩ := q
      simp only at h0
      subst h0
      exact ⟨(0, q2), hstop q2 q3, Or.inr ⟨rfl, hb⟩⟩
theorem X12_calls0 {σ : zM} {n : Nat} {x1 : Int32} (w : Int64) (k : Int32) : zwh (fun (q : (Int32 × Int64 × Int32)) => f_X12_calls_L43 σ x1 (nI n) q.1 q.2.1 q.2.2) zFu (0, w, k) = some (0, w) := by
  refine zwh_now ?_
  show f_X12_calls_L43 σ x1 (nI n) 0 w k = _
  unfold f_X12_calls_L43
  by_cases hc : nI n ≤ k
  · rw [if_pos hc]
  · rw [if_neg hc, if_pos rfl]
theorem ob_calls (x1 x2 : Int32) : zOb zInv (fun σ => f_X11_calls σ x1 x2) (fun σ => f_X12_calls σ x1 x2) := by
  intro n σ hn hI
  have hI0 := hI
  obtain ⟨hDay, hFlt, hTap, hNam, hSun, hSch, hPai, hQue, hPan, hWds, hBri, hMen, hRnd⟩ := hI
  have hno : f_X11_calls σ x1 x2 = some (0, σ) → f_X12_calls σ x1 x2 = some (0, σ) → ∃ r σ1 σ2, f_X11_calls σ x1 x2 = some (r, σ1) ∧ f_X12_calls σ1 x1 x2 = some (r, σ2) ∧ zInv (n + 8) σ2 ∧ zSc σ2 = zSc σ ∧ zMd σ2 = zMd σ := fun h1 h2 => ⟨0, σ, σ, h1, h2, zMono n σ hI0, rfl, rfl⟩
  obtain ⟨k, k1, k2, k3, k4⟩ := hTap
  rcases zisAut x1 with ⟨a, ha, rfl, e1, e2⟩ | ⟨e1, e2⟩
  · rcases zholds k1 k2 k3 x2 with ⟨m, hm, rfl, e3, e4⟩ | ⟨e3, e4⟩
    · have hTc := zTc_T k1 hm k2 k4
      have hk0 : ∀ v : Int64, zA (zsL (zsI σ 9 0 1 0) 3 0 0 a v) 12 0 38 = zA σ 12 0 38 := fun v => rfl
      -- a text that is no name
      have hbad : f_X9_wordOf σ (nI m) = some 0 → (∀ σ' : zM, zTr σ' (zTT σ) m → ∃ w, zwh (fun (q : (Int32 × Int64 × Int32)) => f_X12_calls_L43 σ' (nI a) (nI m) q.1 q.2.1 q.2.2) zFu (f_X12_isIn (nI m) 1 8, 0, 0) = some (0, w)) → ∃ r σ1 σ2, f_X11_calls σ (nI a) (nI m) = some (r, σ1) ∧ f_X12_calls σ1 (nI a) (nI m) = some (r, σ2) ∧ zInv (n + 8) σ2 ∧ zSc σ2 = zSc σ ∧ zMd σ2 = zMd σ := by
        intro h1 h2
        obtain ⟨σ2, t1, t2, t3, t4, t5⟩ := X12_text (σ := σ) (n := m) (by omega) k4 (σ0 := zsI σ 9 0 1 0) rfl
        obtain ⟨w, h3⟩ := h2 σ2 t3
        have hEx : zEx [(9, 1), (12, 39), (12, 20), (12, 19), (12, 21)] σ σ2 := (zEx_sI (v := 0) (i := 0) (by decide)).tr (t2.mo (by decide))
        refine ⟨0, zsI σ 9 0 1 0, σ2, ?_, ?_, ⟨iDay_fr hEx (by decide) hDay, iFlt_fr hEx (by decide) hFlt, ?_, iNam_fr hEx (by decide) hNam, iSun_fr hEx (by decide) hSun, iSch_fr hEx (by decide) hSch, iPai_fr hEx (by decide) hPai, iQue_fr hEx (by decide) hQue, iPan_fr hEx (by decide) hPan, iWds_fr hEx (by decide) hWds, iBri_fr hEx (by decide) hBri, iMen_mo (iMen_fr hEx (by decide) hMen), iRnd_fr hEx (by decide) hRnd⟩, ?_, ?_⟩
        · unfold f_X11_calls f_X9_clear
          rw [e1, if_neg z10, e3, if_neg z10, h1, Option.bind_some, zlt_e, if_pos rfl]
          rfl
        · unfold f_X12_calls
          rw [e2, if_neg z10, show f_X12_isIn (nI m) 0 (zI (zsI σ 9 0 1 0) 12 0 19) = 1 from e4, if_neg z10, t1, Option.bind_some, h3, Option.bind_some]
          unfold f_X12_calls_B109
          rw [if_pos rfl]
          rfl
        · refine ⟨0, by omega, t2.1 9 0 1 (by decide), t4, ?_⟩
          rw [t2.2.2.2.1 9 0 0 (by decide), t2.2.2.2.1 12 0 38 (by decide)]
          exact k4
        · show (zI σ2 11 0 12).toNatClampNeg = (zI σ 11 0 12).toNatClampNeg
          rw [hEx.1 11 0 12 (by decide)]
        · show (zI σ2 1 0 2).toNatClampNeg + (if zR σ2 1 0 3 = none then 0 else 1) = zMd σ
          rw [hEx.1 1 0 2 (by decide), hEx.2.2.1 1 0 3 (by decide)]
          rfl
      by_cases h8 : 1 ≤ m ∧ m ≤ 8
      · have hisin : f_X12_isIn (nI m) 1 8 = 1 := zisIn_1 (a := 1) (m := 8) h8.1 h8.2 (by omega)
        have hw := X9_word hTc h8.1 h8.2
        by_cases hall : ∀ i, i < m → zcL (zTT σ) i = true
        · rw [if_pos hall] at hw
          have hin := zRv_in (T := zTT σ) (a := 0) (L := m) (fun i _ h2 => hall i (by omega))
          have hlen : (zRv (zTT σ) 0 m).length = m := zRv_len
          have h5 := zQ5_lt (by omega) hin
          have hne : ¬ lN (zQn 32 0 (zRv (zTT σ) 0 m)) = 0 := by
            rw [zl0, pk_lEQ (by omega) (by omega), zQn_0 (by decide) (fun c hc => (hin c hc).1)]
            intro e
            rw [e] at hlen
            have : 0 = m := hlen
            omega
          obtain ⟨σ2, t1, t2, t3, t4, t5⟩ := X12_text (σ := σ) (n := m) (by omega) k4 (hk0 (lN (zQn 32 0 (zRv (zTT σ) 0 m))))
          obtain ⟨t, h3, h4⟩ := X12_calls1 (x1 := nI a) t3 h8.1 h8.2
          rcases h4 with ⟨rfl, -⟩ | ⟨-, i, hi, hf⟩
          · have hEx : zEx [(9, 1), (3, 0), (12, 39), (12, 20), (12, 19), (12, 21), (12, 42)] σ (zsL σ2 12 0 42 a (lN (zQn 256 96 (zRv (zTT σ) 0 m)))) := ((zEx_sI (v := 0) (i := 0) (by decide)).tr (zEx_sL (v := lN (zQn 32 0 (zRv (zTT σ) 0 m))) (i := 0) (by decide))).tr ((t2.mo (by decide)).tr (zEx_sL (by decide)))
            refine ⟨1, zsL (zsI σ 9 0 1 0) 3 0 0 a (lN (zQn 32 0 (zRv (zTT σ) 0 m))), zsL σ2 12 0 42 a (lN (zQn 256 96 (zRv (zTT σ) 0 m))), ?_, ?_, ⟨iDay_fr hEx (by decide) hDay, iFlt_fr hEx (by decide) hFlt, ?_, iNam_fr hEx (by decide) hNam, iSun_fr hEx (by decide) hSun, iSch_fr hEx (by decide) hSch, iPai_fr hEx (by decide) hPai, ?_, iPan_fr hEx (by decide) hPan, iWds_fr hEx (by decide) hWds, iBri_fr hEx (by decide) hBri, iMen_mo (iMen_fr hEx (by decide) hMen), iRnd_fr hEx (by decide) hRnd⟩, ?_, ?_⟩
            · show f_X11_calls σ (nI a) (nI m) = _
              unfold f_X11_calls f_X9_clear f_X3_nameAuthor
              rw [e1, if_neg z10, e3, if_neg z10, hw, Option.bind_some, zlt_e, if_neg hne, if_neg (zlt0 (by omega)), if_neg (by rw [zq40, nI_leI (by omega) (by omega)]; omega), zix_n ha (by omega)]
              rfl
            · show f_X12_calls _ (nI a) (nI m) = _
              unfold f_X12_calls
              rw [e2, if_neg z10, show f_X12_isIn (nI m) 0 (zI (zsL (zsI σ 9 0 1 0) 3 0 0 a (lN (zQn 32 0 (zRv (zTT σ) 0 m)))) 12 0 19) = 1 from e4, if_neg z10, t1, Option.bind_some, hisin, h3, Option.bind_some]
              unfold f_X12_calls_B109
              rw [if_neg z10, zix_n ha (by omega), Option.bind_some, zlt_e]
              rfl
            · refine ⟨0, by omega, t2.1 9 0 1 (by decide), t4, ?_⟩
              have f1 : zA (zsL σ2 12 0 42 a (lN (zQn 256 96 (zRv (zTT σ) 0 m)))) 9 0 0 = zA σ 9 0 0 := hEx.2.2.2.1 9 0 0 (by decide)
              have f2 : zA (zsL σ2 12 0 42 a (lN (zQn 256 96 (zRv (zTT σ) 0 m)))) 12 0 38 = zA σ 12 0 38 := hEx.2.2.2.1 12 0 38 (by decide)
              rw [f1, f2]
              exact k4
            · obtain ⟨q1, q2, q3, q4⟩ := hQue
              have f1 : zL (zsL σ2 12 0 42 a (lN (zQn 256 96 (zRv (zTT σ) 0 m)))) 3 0 0 = zu (zL σ 3 0 0) a (lN (zQn 32 0 (zRv (zTT σ) 0 m))) := t2.2.2.2.2.1 3 0 0 (by decide)
              have f2 : zL (zsL σ2 12 0 42 a (lN (zQn 256 96 (zRv (zTT σ) 0 m)))) 12 0 42 = zu (zL σ 12 0 42) a (lN (zQn 256 96 (zRv (zTT σ) 0 m))) := by
                show zu (zL σ2 12 0 42) a _ = _
                rw [t2.2.2.2.2.1 12 0 42 (by decide)]
                rfl
              refine ⟨fun b hb => ?_, ?_, ?_, ?_⟩
              · rw [f1, f2]
                by_cases e : b = a
                · rw [e, zu_eq, zu_eq]
                  exact Or.inr (zWd_of ⟨by omega, by omega, hin⟩)
                · rw [zu_ne _ _ e, zu_ne _ _ e]
                  exact q1 b hb
              · rw [hEx.1 3 0 4 (by decide), hEx.1 12 0 43 (by decide)]
                exact q2
              · rw [hEx.1 3 0 5 (by decide), hEx.1 12 0 44 (by decide)]
                exact q3
              · rw [hEx.2.2.2.1 3 0 1 (by decide), hEx.2.2.2.1 3 0 2 (by decide), hEx.2.2.2.1 3 0 3 (by decide), hEx.2.2.2.1 12 0 45 (by decide), hEx.2.2.2.1 12 0 46 (by decide), hEx.2.2.2.1 12 0 47 (by decide)]
                exact q4
            · show (zI (zsL σ2 12 0 42 a (lN (zQn 256 96 (zRv (zTT σ) 0 m)))) 11 0 12).toNatClampNeg = (zI σ 11 0 12).toNatClampNeg
              rw [hEx.1 11 0 12 (by decide)]
            · show (zI (zsL σ2 12 0 42 a (lN (zQn 256 96 (zRv (zTT σ) 0 m)))) 1 0 2).toNatClampNeg + (if zR (zsL σ2 12 0 42 a (lN (zQn 256 96 (zRv (zTT σ) 0 m)))) 1 0 3 = none then 0 else 1) = zMd σ
              rw [hEx.1 1 0 2 (by decide), hEx.2.2.1 1 0 3 (by decide)]
              rfl
          · rw [hall i hi] at hf
            cases hf
        · rw [if_neg hall] at hw
          refine hbad hw (fun σ' hT => ?_)
          rw [hisin]
          obtain ⟨t, h3, h4⟩ := X12_calls1 (x1 := nI a) hT h8.1 h8.2
          rcases h4 with ⟨-, h5⟩ | ⟨h5, -⟩
          · exact absurd h5 hall
          · refine ⟨t.2, ?_⟩
            rw [h3, ← h5]
      · refine hbad (X9_word0 h8 (by omega)) (fun σ' hT => ⟨0, ?_⟩)
        have hisin : f_X12_isIn (nI m) 1 8 = 0 := by
          unfold f_X12_isIn
          by_cases h1 : 1 ≤ m
          · rw [if_neg (by rw [zq1, nI_ltI (by omega) (by omega)]; omega), if_pos (by rw [zq8, nI_ltI (by omega) (by omega)]; omega)]
          · rw [if_pos (by rw [zq1, nI_ltI (by omega) (by omega)]; omega)]
        rw [hisin]
        exact X12_calls0 0 0
    · exact hno (by unfold f_X11_calls; rw [e1, if_neg z10, e3, if_pos rfl]) (by unfold f_X12_calls; rw [e2, if_neg z10, e4, if_pos rfl])
  · exact hno (by unfold f_X11_calls; rw [e1, if_pos rfl]) (by unfold f_X12_calls; rw [e2, if_pos rfl])
