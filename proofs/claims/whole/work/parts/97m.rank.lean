/-! the reference's order -/
theorem zPr_c {m : Nat} {L : Nat → Nat} {R : Nat → Nat → Nat} {j s e : Nat} (hs : zPc m L R j s ≤ zpc m) (he : zPc m L R j e ≤ zpc m) : (zPr m L R j s = zPr m L R j e ↔ zPc m L R j s = zPc m L R j e) ∧ (¬ zPc m L R j s = zPc m L R j e → ((¬ zPr m L R j s = -1 ∧ (zPr m L R j e = -1 ∨ ¬ zPr m L R j e ≤ zPr m L R j s)) ↔ zPc m L R j s < zPc m L R j e)) := by
  have h10 := zpc_le m
  unfold zPr
  by_cases c1 : zPc m L R j s = zpc m
  · rw [if_pos c1]
    by_cases c2 : zPc m L R j e = zpc m
    · rw [if_pos c2]
      exact ⟨⟨fun _ => by omega, fun _ => rfl⟩, fun h => absurd (c1.trans c2.symm) h⟩
    · rw [if_neg c2]
      refine ⟨⟨fun h => absurd h.symm (znI_m1 (by omega)), fun h => by omega⟩, fun _ => ⟨fun h => absurd rfl h.1, fun h => by omega⟩⟩
  · have n1 : ¬ nI (zPc m L R j s) = -1 := znI_m1 (by omega)
    rw [if_neg c1]
    by_cases c2 : zPc m L R j e = zpc m
    · rw [if_pos c2]
      exact ⟨⟨fun h => absurd h n1, fun h => by omega⟩, fun _ => ⟨fun _ => by omega, fun _ => ⟨n1, Or.inl rfl⟩⟩⟩
    · have n2 : ¬ nI (zPc m L R j e) = -1 := znI_m1 (by omega)
      rw [if_neg c2, nI_eq (by omega) (by omega)]
      refine ⟨Iff.rfl, fun h => ⟨fun h3 => ?_, fun h3 => ⟨n1, Or.inr ?_⟩⟩⟩
      · have h4 := h3.2.resolve_left n2
        rw [nI_leI (by omega) (by omega)] at h4
        omega
      · rw [nI_leI (by omega) (by omega)]
        omega
theorem zPc_z {m : Nat} {L : Nat → Nat} {R : Nat → Nat → Nat} {j s : Nat} (h1 : ∀ i, i < L j → R j i < 10) (h2 : ∀ a b, a < b → b < L j → R j a ≠ R j b) (hs : s < 10) (hm : m.testBit s = true) : zPc m L R j s ≤ zpc m := by
  have h := zPc_lt (m := m) (L := L) h1 h2 hs hm
  by_cases c : fa_first (fun i => decide (R j i = s)) (L j) < L j
  · have := h.1 c; omega
  · have := h.2 c; omega
theorem zPc_0 {m : Nat} {L : Nat → Nat} {R : Nat → Nat → Nat} {j s : Nat} (h : L j = 0) : zPc m L R j s = zpc m := by
  unfold zPc
  rw [h, if_neg (Nat.not_lt_zero _)]
theorem X12_ahead {σ : zM} {r m J n s e : Nat} {L : Nat → Nat} {R : Nat → Nat → Nat} {P : Nat → Int32} {tie : Int32} (hk : zRef σ r m J n L R) (hs : s < 10) (hes : e < s) (hms : m.testBit s = true) (hme : m.testBit e = true) (hP1 : zA σ 12 0 62 s = P s) (hP2 : zA σ 12 0 62 e = P e) (ht : zA σ 12 0 61 r = tie) : f_X12_isAhead σ (nI r) (nI s) (nI e) = some (if zah P tie (zPc m L R 0) s e then 1 else 0) := by
  obtain ⟨hr, hm, hJ, hn, e48, e1, e58, hbn, hrow⟩ := id hk
  obtain ⟨r1, r2, r0, r3, r4⟩ := hrow 0 (by omega)
  have hR10 : ∀ i, i < L 0 → R 0 i < 10 := fun i hi => by have := (r4 i hi).1; omega
  have g1 := zPc_z (m := m) (L := L) hR10 r3 hs hms
  have g2 := zPc_z (m := m) (L := L) hR10 r3 (show e < 10 by omega) hme
  have hc := zPr_c g1 g2
  have p0 : ∀ x, x < 10 → m.testBit x = true → f_X12_placeIn σ (nI r) 0 (nI x) = some (zPr m L R 0 x) := fun x hx hmx => X12_placeIn (j := 0) hk (by omega) hx hmx
  have hes2 : nI e ≤ nI s := nI_le (by omega) (by omega)
  unfold f_X12_isAhead f_X12_isAhead_B62 f_X12_isAhead_B63 f_X12_isAhead_B91 f_X12_isAhead_B92 f_X12_isAhead_B133
  have hm1 : (-1 : Int32) = -1 := rfl
  have p0s := p0 s hs hms
  have p0e := p0 e (by omega) hme
  rw [zix_n hs (by omega), zix_n (show e < 10 by omega) (by omega), zix_n (show r < 2 from hr) (by omega)]
  simp only [Option.bind_some, hP1, hP2, ht, e48, p0s, p0e]
  unfold zah
  by_cases c1 : P s = P e
  · simp only [if_pos c1]
    by_cases c2 : tie = 0
    · simp only [if_pos c2, decide_eq_true c2, Bool.true_and]
      by_cases c3 : nI J ≤ 0
      · have hJ0 : J = 0 := by rw [show (0 : Int32) = nI 0 from rfl, nI_leI (by omega) (by omega)] at c3; omega
        have hL0 := r0 (by omega)
        simp only [if_pos c3, if_pos hm1, if_pos hes2]
        rw [zPc_0 hL0, zPc_0 hL0]
        simp
      · simp only [if_neg c3]
        by_cases c4 : zPc m L R 0 s = zPc m L R 0 e
        · simp only [if_pos (hc.1.mpr c4), if_pos hes2]
          rw [c4]
          simp
        · have c4' : ¬ zPr m L R 0 s = zPr m L R 0 e := fun h => c4 (hc.1.mp h)
          have hd := hc.2 c4
          simp only [if_neg c4']
          by_cases c5 : zPc m L R 0 s < zPc m L R 0 e
          · obtain ⟨d1, d2⟩ := hd.mpr c5
            simp only [if_neg d1, if_pos (show decide (zPc m L R 0 s < zPc m L R 0 e) = true from decide_eq_true c5)]
            rcases d2 with d2 | d2
            · simp only [if_pos d2]
            · simp only [if_neg d2]
              split <;> rfl
          · simp only [if_neg (show ¬ decide (zPc m L R 0 s < zPc m L R 0 e) = true by rw [decide_eq_false c5]; decide)]
            by_cases d1 : zPr m L R 0 s = -1
            · simp only [if_pos d1]
            · have d3 : ¬ zPr m L R 0 e = -1 := fun h => c5 (hd.mp ⟨d1, Or.inl h⟩)
              have d4 : zPr m L R 0 e ≤ zPr m L R 0 s := by
                rcases Decidable.em (zPr m L R 0 e ≤ zPr m L R 0 s) with h | h
                · exact h
                · exact absurd (hd.mp ⟨d1, Or.inr h⟩) c5
              simp only [if_neg d1, if_neg d3, if_pos d4]
    · simp only [if_neg c2, decide_eq_false c2, Bool.false_and, if_pos hm1, if_pos hes2]
      rfl
  · simp only [if_neg c1]
    by_cases c2 : P s ≤ P e
    · simp only [if_pos c2, decide_eq_false (fun h : P e < P s => (fa_of_lt h).2.1 c2)]
      rfl
    · simp only [if_neg c2, decide_eq_true (fa_of_nle c2)]
      rfl
def zOrr (σ : zM) (m n : Nat) (P : Nat → Int32) (ah : Nat → Nat → Bool) : Prop := (∀ i, i < (zrk ah m n).2 → zA σ 12 0 63 i = nI ((zrk ah m n).1 i)) ∧ (∀ e, e < n → m.testBit e = true → zA σ 12 0 62 e = P e) ∧ zI σ 12 0 64 = nI (zrk ah m n).2
theorem X12_ins {σ : zM} {r s cnt : Nat} {q : Int32} {f : Nat → Nat} {ah : Nat → Nat → Bool} (hc : cnt < 10) (hf : ∀ i, i < cnt → f i < 10 ∧ zA σ 12 0 63 i = nI (f i)) (hA : ∀ σ', zEx [(12, 63)] σ σ' → ∀ i, i < cnt → f_X12_isAhead σ' (nI r) (nI s) (nI (f i)) = some (if ah s (f i) then 1 else 0)) : ∃ σ', zwh (fun (x : (Int32 × zM)) => f_X12_ranks_L46 (nI r) q (nI s) x.1 x.2) zFu (nI cnt, σ) = some (nI (zik ah f s cnt), σ') ∧ zEx [(12, 63)] σ σ' ∧ (∀ i, i < zik ah f s cnt → zA σ' 12 0 63 i = nI (f i)) ∧ ∀ i, zik ah f s cnt < i → i ≤ cnt → zA σ' 12 0 63 i = nI (f (i - 1)) := by
  have hz : ∃ t, zwh (fun (x : (Int32 × zM)) => f_X12_ranks_L46 (nI r) q (nI s) x.1 x.2) zFu (nI cnt, σ) = some t ∧ t.1 = nI (zik ah f s cnt) ∧ zEx [(12, 63)] σ t.2 ∧ (∀ i, i < zik ah f s cnt → zA t.2 12 0 63 i = nI (f i)) ∧ ∀ i, zik ah f s cnt < i → i ≤ cnt → zA t.2 12 0 63 i = nI (f (i - 1)) := by
    refine zwh_ex (fun (t : Nat) (x : Int32 × zM) => x.1 = nI (cnt - t) ∧ zEx [(12, 63)] σ x.2 ∧ (∀ i, i < cnt - t → zA x.2 12 0 63 i = nI (f i)) ∧ (∀ i, cnt - t < i → i ≤ cnt → zA x.2 12 0 63 i = nI (f (i - 1))) ∧ zik ah f s cnt = zik ah f s (cnt - t)) _ cnt ⟨rfl, zEx.rf, fun i hi => (hf i hi).2, fun i h1 h2 => by omega, rfl⟩ (fun t x ht hx => ?_) (fun x hx => ?_) (by omega)
    · obtain ⟨x1, x2⟩ := x
      obtain ⟨h1, h3, h5, h6, h8⟩ := hx
      simp only at h1 h3 h5 h6
      subst h1
      obtain ⟨c, hcc⟩ : ∃ c, cnt - t = c + 1 := ⟨cnt - t - 1, by omega⟩
      have hc1 : cnt - (t + 1) = c := by omega
      rw [hcc] at h5 h6 h8 ⊢
      have hfc := hf c (by omega)
      have hah := hA x2 h3 c (by omega)
      have hrun : f_X12_ranks_L46 (nI r) q (nI s) (nI (c + 1)) x2 = if ah s (f c) then some (.inl (nI c, zsA x2 12 0 63 (c + 1) (nI (f c)))) else some (.inr (nI (c + 1), x2)) := by
        unfold f_X12_ranks_L46
        rw [if_neg (by rw [show (0 : Int32) = nI 0 from rfl, nI_leI (by omega) (by omega)]; omega), nI_pred, zix_n (show c < 10 by omega) (by omega), Option.bind_some, h5 c (by omega), hah, Option.bind_some, zif01, Option.bind_some, zix_n (show c + 1 < 10 by omega) (by omega), Option.bind_some, zlt_e, h5 c (by omega), zaddm1, nI_pred]
      have ezk : zik ah f s (c + 1) = if ah s (f c) then zik ah f s c else c + 1 := rfl
      by_cases hc2 : ah s (f c) = true
      · refine Or.inl ⟨(nI c, zsA x2 12 0 63 (c + 1) (nI (f c))), ?_, by rw [hc1], h3.tr (zEx_sA (by decide)), fun i hi => ?_, fun i hi1 hi2 => ?_, by rw [h8, ezk, if_pos hc2, hc1]⟩
        · refine hrun.trans ?_
          rw [if_pos hc2]
        · show zu (zA x2 12 0 63) (c + 1) (nI (f c)) i = _
          rw [zu_ne _ _ (by omega)]
          exact h5 i (by omega)
        · show zu (zA x2 12 0 63) (c + 1) (nI (f c)) i = _
          by_cases ei : i = c + 1
          · rw [ei, zu_eq]
            rfl
          · rw [zu_ne _ _ ei]
            exact h6 i (by omega) hi2
      · have hzk : zik ah f s cnt = c + 1 := by rw [h8, ezk, if_neg hc2]
        refine Or.inr ⟨(nI (c + 1), x2), ?_, by rw [hzk], h3, by rw [hzk]; exact h5, by rw [hzk]; exact h6⟩
        refine hrun.trans ?_
        rw [if_neg hc2]
    · obtain ⟨x1, x2⟩ := x
      obtain ⟨h1, h3, h5, h6, h8⟩ := hx
      simp only at h1 h3 h5 h6
      subst h1
      rw [Nat.sub_self] at h5 h6 h8 ⊢
      have hzk : zik ah f s cnt = 0 := h8
      refine ⟨(nI 0, x2), ?_, by rw [hzk], h3, by rw [hzk]; exact h5, by rw [hzk]; exact h6⟩
      show f_X12_ranks_L46 (nI r) q (nI s) (nI 0) x2 = _
      unfold f_X12_ranks_L46
      rw [if_pos (by decide)]
  obtain ⟨⟨t1, t2⟩, w, h1, h2⟩ := hz
  simp only at h1 h2
  exact ⟨t2, by rw [w, h1], h2⟩
theorem X12_rank {σ : zM} {r m J n q : Nat} {L : Nat → Nat} {R : Nat → Nat → Nat} {V : Nat → Bool} {tie : Int32} (hk : zRef σ r m J n L R) (hv : ∀ σ', zEx [(12, 62), (12, 63), (12, 64)] σ σ' → ∀ j, j < J → f_X12_counts σ' (nI r) (nI j) = some (if V j then 1 else 0)) (hV0 : ∀ j, J ≤ j → V j = false) (ht : zA σ 12 0 61 r = tie) (hq : q < 3) : ∃ σ', f_X12_ranks σ (nI r) (nI q) = some σ' ∧ zEx [(12, 62), (12, 63), (12, 64)] σ σ' ∧ zOrr σ' m n (zPts m L R V q) (zah (zPts m L R V q) tie (zPc m L R 0)) := by
  obtain ⟨P, hP⟩ : ∃ P, P = zPts m L R V q := ⟨_, rfl⟩
  obtain ⟨ah, hah⟩ : ∃ ah, ah = zah P tie (zPc m L R 0) := ⟨_, rfl⟩
  rw [← hP, ← hah]
  have hn := hk.2.2.2.1
  have hz : ∃ t, zwh (fun (x : (Int32 × zM)) => f_X12_ranks_L7 (nI r) (nI q) x.1 x.2) zFu (0, zsI σ 12 0 64 0) = some t ∧ zEx [(12, 62), (12, 63), (12, 64)] σ t ∧ zOrr t m n P ah := by
    refine zwh_ex (fun (s : Nat) (x : Int32 × zM) => x.1 = nI s ∧ zEx [(12, 62), (12, 63), (12, 64)] σ x.2 ∧ zOrr x.2 m s P ah) _ n ⟨rfl, zEx_sI (by decide), fun i h => absurd h (Nat.not_lt_zero i), fun e h => absurd h (Nat.not_lt_zero e), rfl⟩ (fun s x hs hx => ?_) (fun x hx => ?_) (by omega)
    · obtain ⟨x1, x3⟩ := x
      obtain ⟨h2, h3, h4, h5, h6⟩ := hx
      simp only at h2 h3 h4 h5 h6
      subst h2
      have hk3 := zRef_x h3 (by decide) hk
      have hcn : (zrk ah m s).2 ≤ s := by rw [zrk_c]; exact fb_ct_le _ _
      have e1 : zI x3 12 0 1 = nI n := hk3.2.2.2.2.2.1
      refine Or.inl ?_
      have h10 : ¬ nI n ≤ nI s := by rw [nI_leI (by omega) (by omega)]; omega
      by_cases hm : m.testBit s = true
      · have hpt := X12_pts hk3 (hv x3 h3) hV0 (show s < 10 by omega) hm hq
        rw [← hP] at hpt
        obtain ⟨he1, he2⟩ := zrk_e (ah := ah) (m := m) s
        have hx4 : zEx [(12, 62), (12, 63), (12, 64)] σ (zsA x3 12 0 62 s (P s)) := h3.tr (zEx_sA (by decide))
        obtain ⟨σ', w1, w2, w3, w4⟩ := X12_ins (σ := zsA x3 12 0 62 s (P s)) (r := r) (s := s) (q := nI q) (cnt := (zrk ah m s).2) (f := (zrk ah m s).1) (ah := ah) (by omega) (fun i hi => ⟨by have := (he1 i hi).1; omega, h4 i hi⟩) (fun σ' hσ' i hi => by
          have hei := he1 i hi
          have e4 : ∀ x, zA σ' 12 0 62 x = zu (zA x3 12 0 62) s (P s) x := fun x => by
            rw [hσ'.2.2.2.1 12 0 62 (by decide)]
            rfl
          have hr := X12_ahead (P := P) (tie := tie) (s := s) (e := (zrk ah m s).1 i) (zRef_x hσ' (by decide) (zRef_x hx4 (by decide) hk)) (by omega) hei.1 hm hei.2 (by rw [e4, zu_eq]) (by
            rw [e4, zu_ne _ _ (by omega)]
            exact h5 _ hei.1 hei.2) (by
            rw [hσ'.2.2.2.1 12 0 61 (by decide), hx4.2.2.2.1 12 0 61 (by decide)]
            exact ht)
          rw [← hah] at hr
          exact hr)
        have f64 : zI σ' 12 0 64 = nI (zrk ah m s).2 := by rw [w2.1 12 0 64 (by decide)]; exact h6
        have hkl := zik_le (ah := ah) (f := (zrk ah m s).1) (s := s) (zrk ah m s).2
        refine ⟨(nI (s + 1), zsI (zsA σ' 12 0 63 (zik ah (zrk ah m s).1 s (zrk ah m s).2) (nI s)) 12 0 64 (nI ((zrk ah m s).2 + 1))), ?_, rfl, hx4.tr ((w2.mo (by decide)).tr ((zEx_sA (by decide)).tr (zEx_sI (by decide)))), fun i hi => ?_, fun e he hme => ?_, ?_⟩
        · show f_X12_ranks_L7 (nI r) (nI q) (nI s) x3 = _
          unfold f_X12_ranks_L7
          rw [e1, if_neg h10, X12_inR hk3 (show s < 10 by omega), Option.bind_some, zif01, if_pos hm, hpt, Option.bind_some, zix_n (show s < 10 by omega) (by omega), Option.bind_some, zlt_e, show zI (zsA x3 12 0 62 s (P s)) 12 0 64 = nI (zrk ah m s).2 from h6, w1, Option.bind_some]
          unfold f_X12_ranks_B91_7 f_X12_ranks_B109_7
          rw [zix_n (show zik ah (zrk ah m s).1 s (zrk ah m s).2 < 10 by omega) (by omega), Option.bind_some, zlt_e, zlt_e, show zI (zsA σ' 12 0 63 (zik ah (zrk ah m s).1 s (zrk ah m s).2) (nI s)) 12 0 64 = nI (zrk ah m s).2 from f64, nI_1, nI_1]
        · rw [zrk_y hm] at hi ⊢
          have hi : i < (zrk ah m s).2 + 1 := hi
          show zu (zA σ' 12 0 63) (zik ah (zrk ah m s).1 s (zrk ah m s).2) (nI s) i = nI (zins (zrk ah m s).1 (zik ah (zrk ah m s).1 s (zrk ah m s).2) s i)
          unfold zins
          by_cases c1 : i < zik ah (zrk ah m s).1 s (zrk ah m s).2
          · rw [if_pos c1, zu_ne _ _ (by omega)]
            exact w3 i c1
          · rw [if_neg c1]
            by_cases c2 : i = zik ah (zrk ah m s).1 s (zrk ah m s).2
            · rw [if_pos c2, c2, zu_eq]
            · rw [if_neg c2, zu_ne _ _ c2]
              exact w4 i (by omega) (by omega)
        · show zA σ' 12 0 62 e = _
          rw [w2.2.2.2.1 12 0 62 (by decide)]
          show zu (zA x3 12 0 62) s (P s) e = _
          by_cases ee : e = s
          · rw [ee, zu_eq]
          · rw [zu_ne _ _ ee]
            exact h5 e (by omega) hme
        · rw [zrk_y hm]
          rfl
      · refine ⟨(nI (s + 1), x3), ?_, rfl, h3, ?_⟩
        · show f_X12_ranks_L7 (nI r) (nI q) (nI s) x3 = _
          unfold f_X12_ranks_L7 f_X12_ranks_B109_7
          rw [e1, if_neg h10, X12_inR hk3 (show s < 10 by omega), Option.bind_some, zif01, if_neg hm, nI_1]
        · unfold zOrr
          rw [zrk_n hm]
          refine ⟨h4, fun e he hme => ?_, h6⟩
          have : e ≠ s := fun e2 => hm (by rw [← e2]; exact hme)
          exact h5 e (by omega) hme
    · obtain ⟨x1, x3⟩ := x
      obtain ⟨h2, h3, h4⟩ := hx
      simp only at h2 h3 h4
      subst h2
      refine ⟨x3, ?_, h3, h4⟩
      show f_X12_ranks_L7 (nI r) (nI q) (nI n) x3 = _
      unfold f_X12_ranks_L7
      rw [(zRef_x h3 (by decide) hk).2.2.2.2.2.1, if_pos (nI_le (Nat.le_refl _) (by omega))]
  obtain ⟨t, w, h1, h2⟩ := hz
  refine ⟨t, ?_, h1, h2⟩
  unfold f_X12_ranks
  rw [zlt_e, w, Option.bind_some]
