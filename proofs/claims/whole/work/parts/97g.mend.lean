/-! mend: the class's search -/
theorem X8_seek {σ : zM} {s n : Nat} {C : Nat → Nat} {x4 t : Int32} (hM : zMc σ s n C x4 t) (hne : zI σ 8 0 4 ≠ nI s) : ∃ σ', f_X8_seekMend σ (nI s) s (zOn σ t) x4 = some σ' ∧ zSx s σ σ' ∧ zCX σ' s C ∧ zI σ' 8 0 4 = nI s ∧ ∀ w, w < 5 → zA σ' 8 0 3 w = zMep (zMen C (zSn σ) (zbv σ (zOn σ t)) t n) w := by
  have hn40 := hM.2.2.2.2.1
  have hx0 : zSx s σ (zsI σ 8 0 4 (nI s)) := zSx_e (zEx_sI (F := [(8, 4)]) (by decide)) (by decide)
  have hX0 : zCX (zsI σ 8 0 4 (nI s)) s C := hM.2.2.1
  obtain ⟨⟨n1, n2, n3, n4, n5, n6⟩, eO, eV, eS⟩ := zMc_x hM hx0 hX0
  obtain ⟨σ3, w1, w2⟩ := X8_first n1 n2 n3 n4 n5 n6
  rw [eO, eV, eS] at w1
  obtain ⟨W, hW⟩ : ∃ W, W = zWhy C (zSn σ) (zbv σ (zOn σ t)) t n := ⟨_, rfl⟩
  rw [← hW] at w1
  have hWn : W ≤ n := by rw [hW]; exact fa_first_le _ n
  have hx3 : zSx s σ σ3 := hx0.tr (zSx_e w2 (by decide))
  have hX3 : zCX σ3 s C := zCX_x w2 (by decide) hX0
  obtain ⟨σ8, h8⟩ : ∃ σ8, σ8 = zSm σ3 (if zwyI W n = -1 then 0 else 2) (-1) (-1) (-1) (-1) := ⟨_, rfl⟩
  have hx8 : zSx s σ σ8 := by rw [h8]; exact hx3.tr (zSx_e (zSm_x _ _ _ _ _ _) (by decide))
  have hX8 : zCX σ8 s C := by rw [h8]; exact zCX_x (zSm_x _ _ _ _ _ _) (by decide) hX3
  have h84 : zI σ8 8 0 4 = nI s := by
    rw [h8, (zSm_x _ _ _ _ _ _).1 8 0 4 (by decide), w2.1 8 0 4 (by decide)]
    rw [zI_sI, if_pos ⟨rfl, rfl, rfl⟩]
  have hz : ∃ τ, zwh (fun (q : (Int32 × Int32 × zM)) => f_X8_seekMend_L49 (nI s) s (zOn σ t) x4 3600 q.1 q.2.1 q.2.2) zFu (zwyI W n, 0, σ8) = some τ ∧ zSx s σ τ ∧ zCX τ s C ∧ zI τ 8 0 4 = nI s ∧ ∀ w, w < 5 → zA τ 8 0 3 w = zMep (zMen C (zSn σ) (zbv σ (zOn σ t)) t n) w := by
    refine zwh_ex (fun (T : Nat) (q : Int32 × Int32 × zM) => q.2.1 = nI T ∧ zJo σ s n C (zbv σ (zOn σ t)) (zSn σ) t T q.1 q.2.2) _ 3600 ⟨rfl, hx8, hX8, h84, ?_⟩ (fun T q hT hq => ?_) (fun q hq => ?_) (by omega)
    · by_cases hc : W = n
      · refine Or.inr ⟨by show zwyI W n = -1; unfold zwyI; rw [if_pos hc], fun w hw => ?_⟩
        show zA σ8 8 0 3 w = _
        rw [zMen_0 (by rw [← hW]; exact hc), h8, zSm_r _ _ _ _ _ _ w hw]
        unfold zwyI
        rw [if_pos hc, if_pos rfl]
        have : w = 0 ∨ w = 1 ∨ w = 2 ∨ w = 3 ∨ w = 4 := by omega
        rcases this with rfl | rfl | rfl | rfl | rfl <;> rfl
      · refine Or.inl ⟨W, by omega, by show zwyI W n = _; unfold zwyI; rw [if_neg hc], fun w hw => ?_, by rw [← hW]; exact hc, fun j hj => absurd hj.2 (Nat.not_lt_zero _)⟩
        show zA σ8 8 0 3 w = _
        rw [h8, zSm_r _ _ _ _ _ _ w hw]
        unfold zwyI
        rw [if_neg hc, if_neg (znI_m1 (by omega))]
        have : w = 0 ∨ w = 1 ∨ w = 2 ∨ w = 3 ∨ w = 4 := by omega
        rcases this with rfl | rfl | rfl | rfl | rfl <;> rfl
    · obtain ⟨q1, q2, q3⟩ := q
      obtain ⟨h1, h2⟩ := hq
      simp only at h1 h2
      subst h1
      rcases X8_trial hM hT h2 with ⟨rfl, h3⟩ | ⟨q2, σ2, h3, h4⟩
      · obtain ⟨g1, g2, g3, g4⟩ := h2
        refine Or.inr ⟨q3, h3, g1, g2, g3, ?_⟩
        rcases g4 with ⟨b, hb, e, -⟩ | ⟨-, g5⟩
        · exact absurd e.symm (znI_m1 (by omega))
        · exact g5
      · exact Or.inl ⟨(q2, nI (T + 1), σ2), h3, rfl, h4⟩
    · obtain ⟨q1, q2, q3⟩ := q
      obtain ⟨h1, g1, g2, g3, g4⟩ := hq
      simp only at h1 g1 g2 g3 g4
      subst h1
      refine ⟨q3, ?_, g1, g2, g3, ?_⟩
      · show f_X8_seekMend_L49 (nI s) s (zOn σ t) x4 3600 q1 (nI 3600) q3 = _
        unfold f_X8_seekMend_L49
        rw [if_pos (show (3600 : Int32) ≤ nI 3600 by decide)]
      · rcases g4 with ⟨b, hb, e, g5, g6, g7⟩ | ⟨-, g5⟩
        · rw [zMen_2 g6 (fun j hj => g7 j ⟨hj, by have := (zpl_q (j / 15) (by omega)).2.2.2; omega⟩)]
          exact g5
        · exact g5
  obtain ⟨τ, v1, v2⟩ := hz
  refine ⟨τ, ?_, v2⟩
  unfold f_X8_seekMend
  rw [if_neg (fun e => hne e.symm), zlt_e, w1, Option.bind_some, X8_setM0, Option.bind_some, ← h8, v1, Option.bind_some]
/-! mend: the reference -/
def zMx (s : Nat) (σ σ' : zM) : Prop := zEx [(12, 3), (12, 7), (12, 8), (12, 9), (12, 10), (12, 11), (12, 12), (12, 13)] σ σ' ∧ (∀ i, (i < 160 * s ∨ 160 * s + 160 ≤ i) → zA σ' 12 0 3 i = zA σ 12 0 3 i) ∧ ∀ j, j ≠ s → zA σ' 12 0 10 j = zA σ 12 0 10 j ∧ zA σ' 12 0 11 j = zA σ 12 0 11 j ∧ zA σ' 12 0 12 j = zA σ 12 0 12 j ∧ zA σ' 12 0 13 j = zA σ 12 0 13 j
theorem zMx.rf {s : Nat} {σ : zM} : zMx s σ σ := ⟨zEx.rf, fun _ _ => rfl, fun _ _ => ⟨rfl, rfl, rfl, rfl⟩⟩
theorem zMx.tr {s : Nat} {σ σ1 σ2 : zM} (h : zMx s σ σ1) (g : zMx s σ1 σ2) : zMx s σ σ2 := ⟨h.1.tr g.1, fun i hi => (g.2.1 i hi).trans (h.2.1 i hi), fun j hj => ⟨(g.2.2 j hj).1.trans (h.2.2 j hj).1, (g.2.2 j hj).2.1.trans (h.2.2 j hj).2.1, (g.2.2 j hj).2.2.1.trans (h.2.2 j hj).2.2.1, (g.2.2 j hj).2.2.2.trans (h.2.2 j hj).2.2.2⟩⟩
theorem zMx_e {s : Nat} {σ σ' : zM} (h : zEx [(12, 7), (12, 8), (12, 9)] σ σ') : zMx s σ σ' := by
  refine ⟨h.mo (by decide), fun i _ => by rw [h.2.2.2.1 12 0 3 (by decide)], fun j _ => ⟨?_, ?_, ?_, ?_⟩⟩
  · rw [h.2.2.2.1 12 0 10 (by decide)]
  · rw [h.2.2.2.1 12 0 11 (by decide)]
  · rw [h.2.2.2.1 12 0 12 (by decide)]
  · rw [h.2.2.2.1 12 0 13 (by decide)]
theorem zMx_c {s k : Nat} {σ : zM} {v : Int32} (hk : k < 160) : zMx s σ (zsA σ 12 0 3 (160 * s + k) v) := by
  refine ⟨zEx_sA (by decide), fun i hi => ?_, fun j _ => ⟨rfl, rfl, rfl, rfl⟩⟩
  show zu (zA σ 12 0 3) (160 * s + k) v i = _
  exact zu_ne _ _ (by omega)
theorem zMx_m {s c : Nat} {σ : zM} {v : Int32} (hc : c = 10 ∨ c = 11 ∨ c = 12 ∨ c = 13) : zMx s σ (zsA σ 12 0 c s v) := by
  rcases hc with rfl | rfl | rfl | rfl
  · exact ⟨zEx_sA (by decide), fun i _ => rfl, fun j hj => ⟨show zu _ _ _ _ = _ from zu_ne _ _ hj, rfl, rfl, rfl⟩⟩
  · exact ⟨zEx_sA (by decide), fun i _ => rfl, fun j hj => ⟨rfl, show zu _ _ _ _ = _ from zu_ne _ _ hj, rfl, rfl⟩⟩
  · exact ⟨zEx_sA (by decide), fun i _ => rfl, fun j hj => ⟨rfl, rfl, show zu _ _ _ _ = _ from zu_ne _ _ hj, rfl⟩⟩
  · exact ⟨zEx_sA (by decide), fun i _ => rfl, fun j hj => ⟨rfl, rfl, rfl, show zu _ _ _ _ = _ from zu_ne _ _ hj⟩⟩
def zMr (σ : zM) (s n : Nat) (t : Int32) : Prop := iBri σ ∧ iSun σ ∧ s < 10 ∧ zdt σ s = t ∧ n ≤ 40 ∧ zI σ 0 (zOn σ t) 7 = nI n
theorem zMr_x {σ σ' : zM} {s n : Nat} {t : Int32} (h : zMr σ s n t) (hx : zMx s σ σ') : zMr σ' s n t ∧ zOn σ' = zOn σ ∧ zbv σ' = zbv σ ∧ zSn σ' = zSn σ := by
  obtain ⟨h1, h2, h3, h4, h5, h6⟩ := h
  have eO := zOn_x hx.1 (by decide)
  have eD := zdt_x hx.1 (by decide)
  exact ⟨⟨iBri_fr hx.1 (by decide) h1, iSun_fr hx.1 (by decide) h2, h3, by rw [eD]; exact h4, h5, by rw [eO, hx.1.1 0 _ 7 (by decide)]; exact h6⟩, eO, zbv_x hx.1 (by decide), zSn_x hx.1 (by decide)⟩
theorem zRC_put {σ : zM} {s k v : Nat} {C : Nat → Nat} (h : zRC σ s C) (hk : k < 160) (hv : v < 15) : zRC (zsA σ 12 0 3 (160 * s + k) (nI v)) s (zup C k v) := by
  intro j hj
  refine ⟨zup_15 (fun j hj => (h j hj).1) hv j hj, ?_⟩
  show zu (zA σ 12 0 3) (160 * s + k) (nI v) (160 * s + j) = _
  by_cases e : j = k
  · rw [e, zu_eq, zup_eq]
  · rw [zu_ne _ _ (by omega), zup_ne e]
    exact (h j hj).2
theorem zup_up (C : Nat → Nat) (k x v : Nat) : zup (zup C k x) k v = zup C k v := by
  funext y
  by_cases h : y = k
  · rw [h, zup_eq, zup_eq]
  · rw [zup_ne h, zup_ne h, zup_ne h]
theorem zup_sf (C : Nat → Nat) (k : Nat) : zup C k (C k) = C := by
  funext y
  by_cases h : y = k
  · rw [h, zup_eq]
  · rw [zup_ne h]
/-- what a search writes down -/
def zMf (σ : zM) (s : Nat) (M : Nat × Nat) : Prop := zA σ 12 0 11 s = nI M.1 ∧ (M.2 < 2400 → zA σ 12 0 12 s = nI (M.2 / 15) ∧ zA σ 12 0 13 s = nI (M.2 % 15)) ∧ (2400 ≤ M.2 → zA σ 12 0 12 s = -1)
/-- a search under way, behind the first j trials -/
def zMq (C S : Nat → Nat) (B : zBV) (t : Int32) (n s j : Nat) (σ : zM) : Prop := (zA σ 12 0 11 s = 2 ∧ zA σ 12 0 12 s = -1 ∧ ∀ i, i < j → ztry C S B t n i = false) ∨ (zA σ 12 0 11 s = 1 ∧ zMf σ s (zMen C S B t n))
theorem zi10 {s : Nat} (hs : s < 10) : zix (nI s) 10 = some s := zix_n hs (by omega)
theorem zMq_mo {C S : Nat → Nat} {B : zBV} {t : Int32} {n s j j' : Nat} {σ σ' : zM} (h : zMq C S B t n s j σ) (h11 : zA σ' 12 0 11 s = zA σ 12 0 11 s) (h12 : zA σ' 12 0 12 s = zA σ 12 0 12 s) (h13 : zA σ' 12 0 13 s = zA σ 12 0 13 s) (hb : zA σ 12 0 11 s = 2 → ∀ i, j ≤ i → i < j' → ztry C S B t n i = false) : zMq C S B t n s j' σ' := by
  rcases h with ⟨h1, h2, h3⟩ | ⟨h1, h2⟩
  · refine Or.inl ⟨h11.trans h1, h12.trans h2, fun i hi => ?_⟩
    rcases Nat.lt_or_ge i j with hij | hij
    · exact h3 i hij
    · exact hb h1 i hij hi
  · refine Or.inr ⟨h11.trans h1, ?_⟩
    unfold zMf at h2 ⊢
    rw [h11, h12, h13]
    exact h2
theorem X12_in {σ σ0 : zM} {s n k : Nat} {C : Nat → Nat} {t : Int32} (hM : zMr σ s n t) (hC : ∀ j, j < 160 → C j < 15) (hW : zWhy C (zSn σ) (zbv σ (zOn σ t)) t n ≠ n) (hk : k < 160) (hx : zMx s σ σ0) (hR : zRC σ0 s C) (hq : zMq C (zSn σ) (zbv σ (zOn σ t)) t n s (15 * k) σ0) : ∃ σ', zwh (fun (q : (Int32 × zM)) => f_X12_mends_L84 (nI s) (nI k) (nI (C k)) q.1 q.2) zFu (0, σ0) = some σ' ∧ zMx s σ σ' ∧ (∃ x, x < 15 ∧ zRC σ' s (zup C k x)) ∧ zMq C (zSn σ) (zbv σ (zOn σ t)) t n s (15 * (k + 1)) σ' ∧ zA σ' 12 0 10 s = zA σ0 12 0 10 s := by
  have hs := hM.2.2.1
  have hCk := hC k hk
  refine zwh_ex (fun (i : Nat) (q : Int32 × zM) => q.1 = nI i ∧ zMx s σ q.2 ∧ (∃ x, x < 15 ∧ zRC q.2 s (zup C k x)) ∧ zMq C (zSn σ) (zbv σ (zOn σ t)) t n s (15 * k + i) q.2 ∧ zA q.2 12 0 10 s = zA σ0 12 0 10 s) _ 15 ⟨rfl, hx, ⟨C k, hCk, by rw [zup_sf]; exact hR⟩, hq, rfl⟩ (fun i q hi hq => ?_) (fun q hq => ?_) (by omega)
  · obtain ⟨q1, q2⟩ := q
    obtain ⟨h1, h2, ⟨x, x1, x2⟩, h3, h5⟩ := hq
    simp only at h1 h2 x2 h3 h5
    subst h1
    have h14 : ¬ 14 < nI i := by rw [show (14 : Int32) = nI 14 from rfl, nI_ltI (by omega) (by omega)]; omega
    rcases h3 with ⟨g1, g2, g3⟩ | ⟨g1, g2⟩
    · refine Or.inl ?_
      by_cases hc : i = C k
      · refine ⟨(nI (i + 1), q2), ?_, rfl, h2, ⟨x, x1, x2⟩, Or.inl ⟨g1, g2, fun j hj => ?_⟩, h5⟩
        · show f_X12_mends_L84 (nI s) (nI k) (nI (C k)) (nI i) q2 = _
          unfold f_X12_mends_L84 f_X12_mends_B155_84
          rw [if_neg h14, zi10 hs, Option.bind_some, if_pos g1, if_pos (by rw [hc]), nI_1]
        · by_cases e : j = 15 * k + i
          · unfold ztry
            rw [e, show (15 * k + i) / 15 = k by omega, show (15 * k + i) % 15 = i by omega, decide_eq_false (fun h => h hc), Bool.false_and]
          · exact g3 j (by omega)
      · have hxw : zMx s σ (zsA q2 12 0 3 (160 * s + k) (nI i)) := h2.tr (zMx_c hk)
        have hRw : zRC (zsA q2 12 0 3 (160 * s + k) (nI i)) s (zup C k i) := by
          have := zRC_put x2 hk hi
          rw [zup_up] at this
          exact this
        obtain ⟨⟨m1, m2, m3, m4, m5, m6⟩, eO, eV, eS⟩ := zMr_x hM hxw
        obtain ⟨σ3, w1, w2⟩ := X12_whyOf m1 m2 hRw m3 m4 m5 m6
        rw [eO, eV, eS] at w1
        have hx3 : zMx s σ σ3 := hxw.tr (zMx_e w2)
        have hR3 : zRC σ3 s (zup C k i) := zRC_x w2 (by decide) hRw
        have f10 : zA σ3 12 0 10 s = zA σ0 12 0 10 s := by rw [w2.2.2.2.1 12 0 10 (by decide)]; exact h5
        have f11 : zA σ3 12 0 11 s = 2 := by rw [w2.2.2.2.1 12 0 11 (by decide)]; exact g1
        have f12 : zA σ3 12 0 12 s = -1 := by rw [w2.2.2.2.1 12 0 12 (by decide)]; exact g2
        have hrun : f_X12_mends_L84 (nI s) (nI k) (nI (C k)) (nI i) q2 = (if zwyI (zWhy (zup C k i) (zSn σ) (zbv σ (zOn σ t)) t n) n = -1 then some (.inl (nI (i + 1), zsA (zsA (zsA σ3 12 0 11 s 1) 12 0 12 s (nI k)) 12 0 13 s (nI i))) else some (.inl (nI (i + 1), σ3))) := by
          unfold f_X12_mends_L84 f_X12_mends_B155_84
          rw [if_neg h14, zi10 hs, Option.bind_some, if_pos g1, if_neg (by rw [nI_eq (by omega) (by omega)]; exact hc), zq160, zmulI, nI_add, zix_n (show 160 * s + k < 1600 by omega) (by omega), Option.bind_some, zlt_e, w1]
          simp only [Option.bind_some, zlt_e]
          rw [nI_1]
        have htry : ztry C (zSn σ) (zbv σ (zOn σ t)) t n (15 * k + i) = decide (zWhy (zup C k i) (zSn σ) (zbv σ (zOn σ t)) t n = n) := by
          unfold ztry
          rw [show (15 * k + i) / 15 = k by omega, show (15 * k + i) % 15 = i by omega, decide_eq_true (show i ≠ C k from hc), Bool.true_and]
        by_cases c4 : zWhy (zup C k i) (zSn σ) (zbv σ (zOn σ t)) t n = n
        · have hMe : zMen C (zSn σ) (zbv σ (zOn σ t)) t n = (1, 15 * k + i) := zMen_1 hW (by omega) (by rw [htry]; exact decide_eq_true c4) g3
          refine ⟨(nI (i + 1), zsA (zsA (zsA σ3 12 0 11 s 1) 12 0 12 s (nI k)) 12 0 13 s (nI i)), ?_, rfl, hx3.tr ((zMx_m (Or.inr (Or.inl rfl))).tr ((zMx_m (Or.inr (Or.inr (Or.inl rfl)))).tr (zMx_m (Or.inr (Or.inr (Or.inr rfl)))))), ⟨i, hi, hR3⟩, Or.inr ⟨zu_eq _ _ _, ?_⟩, f10⟩
          · refine hrun.trans ?_
            rw [if_pos (by unfold zwyI; rw [if_pos c4])]
          · rw [hMe]
            refine ⟨zu_eq _ _ _, fun _ => ⟨?_, ?_⟩, fun h => absurd h (by show ¬ 2400 ≤ 15 * k + i; omega)⟩
            · show zu (zA σ3 12 0 12) s (nI k) s = nI ((15 * k + i) / 15)
              rw [zu_eq, show (15 * k + i) / 15 = k by omega]
            · show zu (zA σ3 12 0 13) s (nI i) s = nI ((15 * k + i) % 15)
              rw [zu_eq, show (15 * k + i) % 15 = i by omega]
        · refine ⟨(nI (i + 1), σ3), ?_, rfl, hx3, ⟨i, hi, hR3⟩, Or.inl ⟨f11, f12, fun j hj => ?_⟩, f10⟩
          · refine hrun.trans ?_
            rw [if_neg]
            unfold zwyI
            rw [if_neg c4]
            have : zWhy (zup C k i) (zSn σ) (zbv σ (zOn σ t)) t n ≤ n := fa_first_le _ n
            have := hM.2.2.2.2.1
            exact znI_m1 (by omega)
          · by_cases e : j = 15 * k + i
            · rw [e, htry]
              exact decide_eq_false c4
            · exact g3 j (by omega)
    · refine Or.inr ⟨q2, ?_, h2, ⟨x, x1, x2⟩, Or.inr ⟨g1, g2⟩, h5⟩
      show f_X12_mends_L84 (nI s) (nI k) (nI (C k)) (nI i) q2 = _
      unfold f_X12_mends_L84
      rw [if_neg h14, zi10 hs, Option.bind_some, if_neg (by rw [g1]; decide)]
  · obtain ⟨q1, q2⟩ := q
    obtain ⟨h1, h2, h4, h3, h5⟩ := hq
    simp only at h1 h2 h4 h3 h5
    subst h1
    refine ⟨q2, ?_, h2, h4, by rw [show 15 * (k + 1) = 15 * k + 15 by omega]; exact h3, h5⟩
    show f_X12_mends_L84 (nI s) (nI k) (nI (C k)) (nI 15) q2 = _
    unfold f_X12_mends_L84
    rw [if_pos (show (14 : Int32) < nI 15 by decide)]
theorem X12_out {σ σ0 : zM} {s n : Nat} {C : Nat → Nat} {t : Int32} (hM : zMr σ s n t) (hW : zWhy C (zSn σ) (zbv σ (zOn σ t)) t n ≠ n) (hx : zMx s σ σ0) (hR : zRC σ0 s C) (hq : zMq C (zSn σ) (zbv σ (zOn σ t)) t n s 0 σ0) : ∃ σ', zwh (fun (q : (Int32 × zM)) => f_X12_mends_L57 (nI s) q.1 q.2) zFu (0, σ0) = some σ' ∧ zMx s σ σ' ∧ zRC σ' s C ∧ zMf σ' s (zMen C (zSn σ) (zbv σ (zOn σ t)) t n) ∧ zA σ' 12 0 10 s = zA σ0 12 0 10 s := by
  have hs := hM.2.2.1
  have hC : ∀ j, j < 160 → C j < 15 := fun j hj => (hR j hj).1
  refine zwh_ex (fun (k : Nat) (q : Int32 × zM) => q.1 = nI k ∧ zMx s σ q.2 ∧ zRC q.2 s C ∧ zMq C (zSn σ) (zbv σ (zOn σ t)) t n s (15 * k) q.2 ∧ zA q.2 12 0 10 s = zA σ0 12 0 10 s) _ 160 ⟨rfl, hx, hR, hq, rfl⟩ (fun k q hk hq => ?_) (fun q hq => ?_) (by omega)
  · obtain ⟨q1, q2⟩ := q
    obtain ⟨h1, h2, h4, h3, h5⟩ := hq
    simp only at h1 h2 h4 h3 h5
    subst h1
    have h160 : ¬ 160 ≤ nI k := by rw [zq160, nI_leI (by omega) (by omega)]; omega
    by_cases g1 : zA q2 12 0 11 s = 2
    · obtain ⟨σ3, w1, w2, ⟨x, x1, w3⟩, w4, w5⟩ := X12_in hM hC hW hk h2 h4 h3
      have hRb := zRC_put w3 hk (hC k hk)
      rw [zup_up, zup_sf] at hRb
      refine Or.inl ⟨(nI (k + 1), zsA σ3 12 0 3 (160 * s + k) (nI (C k))), ?_, rfl, w2.tr (zMx_c hk), hRb, w4, w5.trans h5⟩
      show f_X12_mends_L57 (nI s) (nI k) q2 = _
      unfold f_X12_mends_L57 f_X12_mends_B161_57
      rw [if_neg h160, zi10 hs, Option.bind_some, if_pos g1, X12_at_C h4 hs hk, Option.bind_some, w1, Option.bind_some, zq160, zmulI, nI_add, zix_n (show 160 * s + k < 1600 by omega) (by omega), Option.bind_some, zlt_e, nI_1]
    · rcases h3 with ⟨g2, -⟩ | ⟨g2, g3⟩
      · exact absurd g2 g1
      · refine Or.inr ⟨q2, ?_, h2, h4, g3, h5⟩
        show f_X12_mends_L57 (nI s) (nI k) q2 = _
        unfold f_X12_mends_L57
        rw [if_neg h160, zi10 hs, Option.bind_some, if_neg g1]
  · obtain ⟨q1, q2⟩ := q
    obtain ⟨h1, h2, h4, h3, h5⟩ := hq
    simp only at h1 h2 h4 h3 h5
    subst h1
    refine ⟨q2, ?_, h2, h4, ?_, h5⟩
    · show f_X12_mends_L57 (nI s) (nI 160) q2 = _
      unfold f_X12_mends_L57
      rw [if_pos (show (160 : Int32) ≤ nI 160 by decide)]
    · rcases h3 with ⟨g1, g2, g3⟩ | ⟨g2, g3⟩
      · rw [zMen_2 hW g3]
        exact ⟨g1, fun h => absurd h (by decide), fun _ => g2⟩
      · exact g3
theorem X12_mends {σ : zM} {s n : Nat} {C : Nat → Nat} {t : Int32} (hM : zMr σ s n t) (hR : zRC σ s C) (hne : zA σ 12 0 10 s ≠ zI σ 12 0 2) : ∃ σ', f_X12_mends σ (nI s) = some σ' ∧ zMx s σ σ' ∧ zRC σ' s C ∧ zMf σ' s (zMen C (zSn σ) (zbv σ (zOn σ t)) t n) ∧ zA σ' 12 0 10 s = zI σ 12 0 2 := by
  have hs := hM.2.2.1
  obtain ⟨σ8, h8⟩ : ∃ σ8, σ8 = zsA (zsA (zsA σ 12 0 10 s (zI σ 12 0 2)) 12 0 11 s 0) 12 0 12 s (-1) := ⟨_, rfl⟩
  have hx8 : zMx s σ σ8 := by
    rw [h8]
    exact (zMx_m (Or.inl rfl)).tr ((zMx_m (Or.inr (Or.inl rfl))).tr (zMx_m (Or.inr (Or.inr (Or.inl rfl)))))
  have hR8 : zRC σ8 s C := by rw [h8]; exact hR
  have f10 : zA σ8 12 0 10 s = zI σ 12 0 2 := by rw [h8]; exact zu_eq _ _ _
  have f11 : zA σ8 12 0 11 s = 0 := by rw [h8]; exact zu_eq _ _ _
  have f12 : zA σ8 12 0 12 s = -1 := by rw [h8]; exact zu_eq _ _ _
  obtain ⟨⟨m1, m2, m3, m4, m5, m6⟩, eO, eV, eS⟩ := zMr_x hM hx8
  obtain ⟨σ9, w1, w2⟩ := X12_whyOf m1 m2 hR8 m3 m4 m5 m6
  rw [eO, eV, eS] at w1
  have hx9 : zMx s σ σ9 := hx8.tr (zMx_e w2)
  have hR9 : zRC σ9 s C := zRC_x w2 (by decide) hR8
  have g10 : zA σ9 12 0 10 s = zI σ 12 0 2 := by rw [w2.2.2.2.1 12 0 10 (by decide)]; exact f10
  have g11 : zA σ9 12 0 11 s = 0 := by rw [w2.2.2.2.1 12 0 11 (by decide)]; exact f11
  have g12 : zA σ9 12 0 12 s = -1 := by rw [w2.2.2.2.1 12 0 12 (by decide)]; exact f12
  have hrun : f_X12_mends σ (nI s) = if zwyI (zWhy C (zSn σ) (zbv σ (zOn σ t)) t n) n = -1 then some σ9 else (zwh (fun (q : (Int32 × zM)) => f_X12_mends_L57 (nI s) q.1 q.2) zFu (0, zsA σ9 12 0 11 s 2)).bind fun q => some q := by
    unfold f_X12_mends
    rw [zi10 hs, Option.bind_some, if_neg hne, Option.bind_some, zlt_e, Option.bind_some, zlt_e, Option.bind_some, zlt_e, ← h8, w1, Option.bind_some, Option.bind_some, zlt_e]
  by_cases hW : zWhy C (zSn σ) (zbv σ (zOn σ t)) t n = n
  · refine ⟨σ9, ?_, hx9, hR9, ?_, g10⟩
    · rw [hrun, if_pos (by unfold zwyI; rw [if_pos hW])]
    · rw [zMen_0 hW]
      exact ⟨g11, fun h => absurd h (by decide), fun _ => g12⟩
  · obtain ⟨σ', v1, v2, v3, v4, v5⟩ := X12_out (σ0 := zsA σ9 12 0 11 s 2) hM hW (hx9.tr (zMx_m (Or.inr (Or.inl rfl)))) hR9 (Or.inl ⟨zu_eq _ _ _, g12, fun i hi => absurd hi (Nat.not_lt_zero i)⟩)
    refine ⟨σ', ?_, v2, v3, v4, v5.trans g10⟩
    rw [hrun, if_neg, v1, Option.bind_some]
    unfold zwyI
    rw [if_neg hW]
    have : zWhy C (zSn σ) (zbv σ (zOn σ t)) t n ≤ n := fa_first_le _ n
    have := hM.2.2.2.2.1
    exact znI_m1 (by omega)
