/-! a brief's text: digits, a token, all tokens -/
theorem X4_digits {σ : zM} {T : Nat → Nat} {n a e : Nat} {x3 : Int32} (h : zTc σ T n) (hn : n ≤ 900) (ha : a < n) (hl : zcD T a = true) (hE : e = zfar (zcD T) n a) : ∃ w, zwh (fun (q : (Int32 × Int64 × Int32)) => f_X4_tokenAt_L63 σ (nI a) (nI n) x3 0 q.1 q.2.1 q.2.2) zFu (0, 0, nI a) = some (nI (e - a), w) ∧ (e - a ≤ 6 → w = lN (zDv T a (e - a))) := by
  have hP := zfar_p (c := zcD T) (show a ≤ n by omega)
  rw [← hE] at hP
  have hz : ∃ t, zwh (fun (q : (Int32 × Int64 × Int32)) => f_X4_tokenAt_L63 σ (nI a) (nI n) x3 0 q.1 q.2.1 q.2.2) zFu (0, 0, nI a) = some t ∧ (t.1 = nI (e - a) ∧ (e - a ≤ 6 → t.2 = lN (zDv T a (e - a)))) := by
    refine zwh_ex (fun (i : Nat) (q : Int32 × Int64 × Int32) => q.1 = nI (min i (e - a)) ∧ (min i (e - a) ≤ 6 → q.2.1 = lN (zDv T a (min i (e - a)))) ∧ q.2.2 = nI (a + i)) _ (e - a + 1) ?_ (fun i q hi hq => ?_) (fun q hq => ?_) (by omega)
    · rw [Nat.zero_min]
      exact ⟨rfl, fun _ => rfl, rfl⟩
    · obtain ⟨q1, q2, q3⟩ := q
      obtain ⟨g1, g2, g3⟩ := hq
      simp only at g1 g2 g3
      subst g1 g3
      by_cases hie : i < e - a
      · obtain ⟨b1, b2⟩ := X9_at h (show a + i < n by omega)
        have hli := hP.2.2.1 (a + i) (by omega) (by omega)
        have hlb : f_X4_isDigit (nI (T (a + i))) = 1 := by rw [zdg_C _ b2, show (decide (48 ≤ T (a + i)) && decide (T (a + i) ≤ 57)) = true from hli]; rfl
        have h48 : 48 ≤ T (a + i) ∧ T (a + i) ≤ 57 := by
          unfold zcD at hli
          rw [Bool.and_eq_true] at hli
          exact ⟨of_decide_eq_true hli.1, of_decide_eq_true hli.2⟩
        have em : min i (e - a) = i := by omega
        have em2 : min (i + 1) (e - a) = i + 1 := by omega
        rw [em] at g2
        refine Or.inl ⟨(nI (i + 1), (if 6 ≤ nI i then 0 else (((q2 * 10) + (nI (T (a + i))).toInt64) - 48) : Int64), nI (a + (i + 1))), ?_, by rw [em2], fun h6 => ?_, rfl⟩
        · show f_X4_tokenAt_L63 σ (nI a) (nI n) x3 0 (nI (min i (e - a))) q2 (nI (a + i)) = _
          unfold f_X4_tokenAt_L63 f_X4_tokenAt_B128_63 f_X4_tokenAt_B171_63
          have e1 : nI (a + i) - nI a = nI i := by rw [zsubI (by omega)]; congr 1; omega
          rw [em, if_neg (by rw [nI_leI (by omega) (by omega)]; omega), e1, if_pos rfl, b1, Option.bind_some, if_pos rfl, if_pos rfl, hlb, if_neg z10, nI_1, nI_1]
          rfl
        · rw [em2] at h6 ⊢
          show (if 6 ≤ nI i then 0 else (((q2 * 10) + (nI (T (a + i))).toInt64) - 48) : Int64) = lN (zDv T a (i + 1))
          rw [if_neg (by rw [zq6, nI_leI (by omega) (by omega)]; omega), g2 (by omega), nI_l (by omega), show (10 : Int64) = lN 10 from rfl, lN_mul, lN_add, show (48 : Int64) = lN 48 from rfl]
          have hd : zDv T a (i + 1) = 10 * zDv T a i + (T (a + i) - 48) := rfl
          rw [hd, lN_sub (by omega)]
          congr 1
          omega
      · have em : min i (e - a) = e - a := by omega
        have hie2 : i = e - a := by omega
        have eai : a + i = e := by omega
        rw [em] at g2
        by_cases hen : e < n
        · obtain ⟨b1, b2⟩ := X9_at h (show a + i < n by omega)
          have hli := hP.2.2.2 hen
          have hlb : f_X4_isDigit (nI (T (a + i))) = 0 := by rw [zdg_C _ b2, show (decide (48 ≤ T (a + i)) && decide (T (a + i) ≤ 57)) = false by rw [eai]; exact hli]; rfl
          have em2 : min (i + 1) (e - a) = e - a := by omega
          refine Or.inl ⟨(nI (e - a), q2, nI (a + (i + 1))), ?_, by rw [em2], fun h6 => ?_, rfl⟩
          · show f_X4_tokenAt_L63 σ (nI a) (nI n) x3 0 (nI (min i (e - a))) q2 (nI (a + i)) = _
            unfold f_X4_tokenAt_L63 f_X4_tokenAt_B128_63 f_X4_tokenAt_B171_63
            have e1 : nI (a + i) - nI a = nI (e - a) := by rw [zsubI (by omega)]; congr 1; omega
            rw [em, if_neg (by rw [nI_leI (by omega) (by omega)]; omega), e1, if_pos rfl, b1, Option.bind_some, if_pos rfl, if_pos rfl, hlb, if_pos rfl, nI_1]
            rfl
          · rw [em2] at h6 ⊢
            exact g2 h6
        · refine Or.inr ⟨(nI (e - a), q2), ?_, rfl, g2⟩
          show f_X4_tokenAt_L63 σ (nI a) (nI n) x3 0 (nI (min i (e - a))) q2 (nI (a + i)) = _
          unfold f_X4_tokenAt_L63
          rw [if_pos (nI_le (by omega) (by omega)), em]
    · obtain ⟨q1, q2, q3⟩ := q
      obtain ⟨g1, g2, g3⟩ := hq
      simp only at g1 g2 g3
      subst g1 g3
      have em : min (e - a + 1) (e - a) = e - a := by omega
      rw [em] at g2
      refine ⟨(nI (e - a), q2), ?_, rfl, g2⟩
      show f_X4_tokenAt_L63 σ (nI a) (nI n) x3 0 (nI (min (e - a + 1) (e - a))) q2 (nI (a + (e - a + 1))) = _
      unfold f_X4_tokenAt_L63
      rw [em]
      by_cases hen : n ≤ a + (e - a + 1)
      · rw [if_pos (nI_le hen (by omega))]
      · have e1 : nI (a + (e - a + 1)) - nI a = nI (e - a + 1) := by rw [zsubI (by omega)]; congr 1; omega
        rw [if_neg (by rw [nI_leI (by omega) (by omega)]; omega), e1, if_neg (by rw [nI_eq (by omega) (by omega)]; omega)]
  obtain ⟨⟨t1, t2⟩, h1, h2, h3⟩ := hz
  simp only at h2 h3
  exact ⟨t2, by rw [h1, h2], h3⟩
theorem zcL_D {T : Nat → Nat} {a : Nat} (h : zcL T a = true) : zcD T a = false := by
  unfold zcL at h
  rw [Bool.and_eq_true] at h
  have h1 := of_decide_eq_true h.1
  unfold zcD
  rw [decide_eq_false (show ¬ T a ≤ 57 by omega), Bool.and_false]
theorem X4_token {σ : zM} {T : Nat → Nat} {n a c : Nat} (hW : iWds σ) (h : zTc σ T n) (hn : n ≤ 900) (ha : a < n) (hc : c < 901) : f_X4_tokenAt σ (nI a) (nI n) (nI c) = some (nI (zTe T n a - a), zsL (zsA (zsA σ 4 0 3 c (zTkd T n a)) 4 0 4 c (nI a)) 4 0 5 c (zTkv T n a)) := by
  obtain ⟨b1, b2⟩ := X9_at h ha
  have hE := zTe_b (T := T) ha
  unfold f_X4_tokenAt
  rw [b1, Option.bind_some, zcL_C b2]
  by_cases hl : zcL T a = true
  · have ee : zTe T n a = zfar (zcL T) n a := if_pos hl
    unfold f_X4_tokenAt_B54 f_X4_tokenAt_B177
    rw [hl, if_pos rfl, if_neg z10, X4_letters h hn ha hl ee, Option.bind_some]
    have z1 : ¬ (1 : Int32) = 0 := z10
    rw [if_neg z1, if_neg z1]
    unfold zTkd zTkv
    rw [if_pos hl, if_pos hl]
    by_cases h8 : zTe T n a - a ≤ 8
    · rw [if_pos (by rw [zq8, nI_leI (by omega) (by omega)]; omega), X10_code hW, Option.bind_some, if_pos h8, if_pos h8, X4_put hc, Option.bind_some]
    · rw [if_neg (by rw [zq8, nI_leI (by omega) (by omega)]; omega), if_neg h8, if_neg h8, X4_put hc, Option.bind_some]
  · have hl' : zcL T a = false := by
      cases e : zcL T a
      · rfl
      · exact absurd e hl
    rw [hl']
    show (if (0 : Int32) = 0 then _ else _) = _
    rw [if_pos rfl, zdg_C _ b2]
    by_cases hd : zcD T a = true
    · have ee : zTe T n a = zfar (zcD T) n a := by
        unfold zTe
        rw [if_neg hl, if_pos hd]
      have hd' : (decide (48 ≤ T a) && decide (T a ≤ 57)) = true := hd
      obtain ⟨w, w1, w2⟩ := X4_digits (x3 := nI c) h hn ha hd ee
      rw [hd', if_pos rfl, if_neg z10]
      show f_X4_tokenAt_B54 σ (nI a) (nI n) (nI c) 0 = _
      unfold f_X4_tokenAt_B54 f_X4_tokenAt_B177
      rw [w1, Option.bind_some, if_pos rfl, if_pos rfl]
      unfold zTkd zTkv
      rw [if_neg hl, if_neg hl, if_pos hd, if_pos hd]
      by_cases h6 : zTe T n a - a ≤ 6
      · rw [if_pos (by rw [zq6, nI_leI (by omega) (by omega)]; omega), if_pos h6, if_pos h6, w2 h6, X4_put hc, Option.bind_some]
      · rw [if_neg (by rw [zq6, nI_leI (by omega) (by omega)]; omega), if_neg h6, if_neg h6, X4_put hc, Option.bind_some]
    · have hd' : (decide (48 ≤ T a) && decide (T a ≤ 57)) = false := by
        cases e : (decide (48 ≤ T a) && decide (T a ≤ 57))
        · rfl
        · exact absurd e hd
      have ee : zTe T n a = a + 1 := by
        unfold zTe
        rw [if_neg hl, if_neg hd]
      rw [hd', if_pos (show (if false = true then 1 else 0 : Int32) = 0 from rfl), zksg_C _ b2, nI_l (by omega), ee, Nat.add_sub_cancel_left]
      unfold zTkd zTkv
      rw [if_neg hl, if_neg hl, if_neg hd, if_neg hd, X4_put hc, Option.bind_some]
      by_cases hk : zksg (T a) = true
      · rw [if_pos hk, if_pos hk, if_neg z10]
        rfl
      · rw [if_neg hk, if_neg hk, if_pos rfl]
        rfl
/-- the table of tokens, N of them and the end -/
def zTks (σ : zM) (T : Nat → Nat) (n N : Nat) : Prop := N ≤ 900 ∧ zTs T n N = n ∧ (∀ i, i < N → zTs T n i < n) ∧ (∀ i, i ≤ N → zA σ 4 0 4 i = nI (zTs T n i)) ∧ (∀ i, i < N → zA σ 4 0 3 i = zTkd T n (zTs T n i) ∧ zL σ 4 0 5 i = zTkv T n (zTs T n i)) ∧ zA σ 4 0 3 N = 0
theorem X4_split {σ : zM} {T : Nat → Nat} {n : Nat} (hW : iWds σ) (h : zTc σ T n) (hn : n ≤ 900) : ∃ σ' N, f_X4_split σ (nI n) = some σ' ∧ zEx [(4, 3), (4, 4), (4, 5)] σ σ' ∧ zTks σ' T n N := by
  have hz : ∃ t, zwh (fun (q : (Int32 × Int32 × Int32 × zM)) => f_X4_split_L7 (nI n) q.1 q.2.1 q.2.2.1 q.2.2.2) zFu (0, 0, 0, σ) = some t ∧ ∃ c, c ≤ n ∧ t.1 = nI c ∧ zEx [(4, 3), (4, 4), (4, 5)] σ t.2 ∧ zTs T n c = n ∧ (∀ i, i < c → zTs T n i < n ∧ zA t.2 4 0 4 i = nI (zTs T n i) ∧ zA t.2 4 0 3 i = zTkd T n (zTs T n i) ∧ zL t.2 4 0 5 i = zTkv T n (zTs T n i)) := by
    refine zwh_ex (fun (p : Nat) (q : Int32 × Int32 × Int32 × zM) => ∃ te c, te ≤ n ∧ c ≤ te ∧ q.1 = nI te ∧ q.2.1 = nI c ∧ q.2.2.1 = nI p ∧ zfar (zcB T) n (max p te) = zTs T n c ∧ zEx [(4, 3), (4, 4), (4, 5)] σ q.2.2.2 ∧ (∀ i, i < c → zTs T n i < n ∧ zA q.2.2.2 4 0 4 i = nI (zTs T n i) ∧ zA q.2.2.2 4 0 3 i = zTkd T n (zTs T n i) ∧ zL q.2.2.2 4 0 5 i = zTkv T n (zTs T n i))) _ n ⟨0, 0, by omega, by omega, rfl, rfl, rfl, rfl, zEx.rf, fun i hi => absurd hi (Nat.not_lt_zero i)⟩ (fun p q hp hq => ?_) (fun q hq => ?_) (by omega)
    · obtain ⟨q1, q2, q3, q4⟩ := q
      obtain ⟨te, c, h1, h2, g1, g2, g3, h3, h4, h5⟩ := hq
      simp only at g1 g2 g3 h4 h5
      subst g1 g2 g3
      refine Or.inl ?_
      by_cases hpt : p < te
      · refine ⟨(nI te, nI c, nI (p + 1), q4), ?_, te, c, h1, h2, rfl, rfl, rfl, by rw [show max (p + 1) te = max p te by omega]; exact h3, h4, h5⟩
        show f_X4_split_L7 (nI n) (nI te) (nI c) (nI p) q4 = _
        unfold f_X4_split_L7 f_X4_split_B56_7
        rw [if_neg (by rw [nI_leI (by omega) (by omega)]; omega), if_pos (nI_lt hpt (by omega)), nI_1]
      · obtain ⟨b1, b2⟩ := X9_at (zTc_fr h h4 (by decide) (by decide)) hp
        have hm : max p te = p := by omega
        rw [hm] at h3
        by_cases hb : zcB T p = true
        · refine ⟨(nI te, nI c, nI (p + 1), q4), ?_, te, c, h1, h2, rfl, rfl, rfl, ?_, h4, h5⟩
          · show f_X4_split_L7 (nI n) (nI te) (nI c) (nI p) q4 = _
            unfold f_X4_split_L7 f_X4_split_B56_7
            rw [if_neg (by rw [nI_leI (by omega) (by omega)]; omega), if_neg (by rw [nI_ltI (by omega) (by omega)]; omega), b1, Option.bind_some, zbl_C _ b2, show (decide (T p = 32) || decide (T p = 10)) = true from hb, if_neg (by decide), nI_1]
          · rw [show max (p + 1) te = p + 1 by omega, ← h3, zfar_s hp, if_pos hb]
        · have hb' : (decide (T p = 32) || decide (T p = 10)) = false := by
            cases e : (decide (T p = 32) || decide (T p = 10))
            · rfl
            · exact absurd e hb
          have hs : zTs T n c = p := by rw [← h3, zfar_s hp, if_neg hb]
          have hE := zTe_b (T := T) hp
          have hs2 : zTs T n (c + 1) = zfar (zcB T) n (zTe T n p) := by
            show (if zTs T n c < n then zfar (zcB T) n (zTe T n (zTs T n c)) else n) = _
            rw [hs, if_pos hp]
          refine ⟨(nI (zTe T n p), nI (c + 1), nI (p + 1), zsL (zsA (zsA q4 4 0 3 c (zTkd T n p)) 4 0 4 c (nI p)) 4 0 5 c (zTkv T n p)), ?_, zTe T n p, c + 1, hE.2, by omega, rfl, rfl, rfl, by rw [show max (p + 1) (zTe T n p) = zTe T n p by omega, hs2], h4.tr (((zEx_sA (by decide)).tr (zEx_sA (by decide))).tr (zEx_sL (by decide))), fun i hi => ?_⟩
          · show f_X4_split_L7 (nI n) (nI te) (nI c) (nI p) q4 = _
            unfold f_X4_split_L7 f_X4_split_B56_7
            have e2 : nI p + nI (zTe T n p - p) = nI (zTe T n p) := by rw [nI_add]; congr 1; omega
            rw [if_neg (by rw [nI_leI (by omega) (by omega)]; omega), if_neg (by rw [nI_ltI (by omega) (by omega)]; omega), b1, Option.bind_some, zbl_C _ b2, hb', if_pos (by decide), zq900, if_neg (by rw [nI_leI (by omega) (by omega)]; omega), X4_token (iWds_fr h4 (by decide) hW) (zTc_fr h h4 (by decide) (by decide)) hn hp (by omega), Option.bind_some]
            show some (Sum.inl (nI p + nI (zTe T n p - p), nI c + 1, nI p + 1, _)) = _
            rw [e2, nI_1, nI_1]
          · show zTs T n i < n ∧ zu (zA q4 4 0 4) c (nI p) i = _ ∧ zu (zA q4 4 0 3) c (zTkd T n p) i = _ ∧ zu (zL q4 4 0 5) c (zTkv T n p) i = _
            by_cases e : i = c
            · subst e
              rw [zu_eq, zu_eq, zu_eq, hs]
              exact ⟨hp, rfl, rfl, rfl⟩
            · rw [zu_ne _ _ e, zu_ne _ _ e, zu_ne _ _ e]
              exact h5 i (by omega)
    · obtain ⟨q1, q2, q3, q4⟩ := q
      obtain ⟨te, c, h1, h2, g1, g2, g3, h3, h4, h5⟩ := hq
      simp only at g1 g2 g3 h4 h5
      subst g1 g2 g3
      rw [show max n te = n by omega, zfar_e (Nat.le_refl _)] at h3
      refine ⟨(nI c, q4), ?_, c, by omega, rfl, h4, h3.symm, h5⟩
      show f_X4_split_L7 (nI n) (nI te) (nI c) (nI n) q4 = _
      unfold f_X4_split_L7
      rw [if_pos (nI_le (Nat.le_refl _) (by omega))]
  obtain ⟨⟨t1, t2⟩, w, c, h1, g1, h2, h3, h4⟩ := hz
  simp only at g1 h2 h4
  subst g1
  refine ⟨zsL (zsA (zsA t2 4 0 3 c 0) 4 0 4 c (nI n)) 4 0 5 c 0, c, ?_, h2.tr (((zEx_sA (by decide)).tr (zEx_sA (by decide))).tr (zEx_sL (by decide))), by omega, h3, fun i hi => (h4 i hi).1, fun i hi => ?_, fun i hi => ?_, ?_⟩
  · unfold f_X4_split f_X4_split_B62
    rw [w, Option.bind_some]
    show (f_X4_put t2 (nI c) 0 (nI n) 0).bind _ = _
    rw [X4_put (by omega), Option.bind_some]
  · show zu (zA t2 4 0 4) c (nI n) i = _
    by_cases e : i = c
    · rw [e, zu_eq, h3]
    · rw [zu_ne _ _ e]
      exact (h4 i (by omega)).2.1
  · show zu (zA t2 4 0 3) c 0 i = _ ∧ zu (zL t2 4 0 5) c 0 i = _
    rw [zu_ne _ _ (by omega), zu_ne _ _ (by omega)]
    exact (h4 i hi).2.2
  · show zu (zA t2 4 0 3) c 0 c = _
    rw [zu_eq]
