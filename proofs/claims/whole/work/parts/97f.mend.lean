/-! mend: what the class writes down -/
theorem zpl_q : ∀ k, k < 160 → zpl k / 120 = k / 80 ∧ zpl k % 12 = k % 10 + 1 ∧ zpl k % 120 / 12 = k % 80 / 10 + 1 ∧ zpl k < 240 := by decide +kernel
def zSm (σ : zM) (a b c d e : Int32) : zM := zsA (zsA (zsA (zsA (zsA σ 8 0 3 0 a) 8 0 3 1 b) 8 0 3 2 c) 8 0 3 3 d) 8 0 3 4 e
theorem zi5 : zix 0 5 = some 0 ∧ zix 1 5 = some 1 ∧ zix 2 5 = some 2 ∧ zix 3 5 = some 3 ∧ zix 4 5 = some 4 := by decide
theorem X8_setM0 (σ : zM) (a w : Int32) : f_X8_setMend σ a (-1) w = some (zSm σ a (-1) (-1) (-1) w) := by
  obtain ⟨i0, i1, i2, i3, i4⟩ := zi5
  unfold f_X8_setMend f_X8_setMend_B37 f_X8_setMend_B58 f_X8_setMend_B82
  rw [i0, i1, i2, i3, i4]
  rfl
theorem X8_setM1 (σ : zM) {k : Nat} (hk : k < 160) (w : Int32) : f_X8_setMend σ 1 (nI (zpl k)) w = some (zSm σ 1 (nI (k / 80)) (nI (k % 10)) (nI (k % 80 / 10)) w) := by
  obtain ⟨i0, i1, i2, i3, i4⟩ := zi5
  obtain ⟨p1, p2, p3, p4⟩ := zpl_q k hk
  have hne : ¬ nI (zpl k) = -1 := znI_m1 (by omega)
  unfold f_X8_setMend f_X8_setMend_B37 f_X8_setMend_B58 f_X8_setMend_B82
  rw [i0, i1, i2, i3, i4]
  simp only [Option.bind_some, zlt_e]
  rw [if_neg hne, if_neg z10, if_neg z10, if_neg z10, zq120, zq12, zdivI (by omega) (by omega), zremI (by omega) (by omega), zremI (by omega) (by omega), zdivI (by omega) (by omega), p1, p2, p3, nI_pred, nI_pred]
  rfl
theorem zSm_r (σ : zM) (a b c d e : Int32) (w : Nat) (hw : w < 5) : zA (zSm σ a b c d e) 8 0 3 w = if w = 0 then a else if w = 1 then b else if w = 2 then c else if w = 3 then d else e := by
  have : w = 0 ∨ w = 1 ∨ w = 2 ∨ w = 3 ∨ w = 4 := by omega
  rcases this with rfl | rfl | rfl | rfl | rfl <;> rfl
theorem zSm_x (σ : zM) (a b c d e : Int32) : zEx [(8, 3)] σ (zSm σ a b c d e) := (zEx_sA (by decide)).tr ((zEx_sA (by decide)).tr ((zEx_sA (by decide)).tr ((zEx_sA (by decide)).tr (zEx_sA (by decide)))))
/-! what a search leaves as it was -/
def zFs : List (Nat × Nat) := [(7, 2), (7, 3), (7, 4), (7, 5), (8, 1), (8, 2), (8, 3), (8, 4)]
def zSx (s : Nat) (σ σ' : zM) : Prop := zEx [(7, 2), (7, 3), (7, 4), (7, 5), (8, 1), (8, 2), (8, 3), (8, 4)] σ σ' ∧ ∀ i, i ≠ s → ∀ k, zI σ' 7 i k = zI σ 7 i k ∧ zA σ' 7 i k = zA σ 7 i k
theorem zSx.rf {s : Nat} {σ : zM} : zSx s σ σ := ⟨zEx.rf, fun _ _ _ => ⟨rfl, rfl⟩⟩
theorem zSx.tr {s : Nat} {σ σ1 σ2 : zM} (h : zSx s σ σ1) (g : zSx s σ1 σ2) : zSx s σ σ2 := ⟨h.1.tr g.1, fun i hi k => ⟨((g.2 i hi k).1).trans (h.2 i hi k).1, ((g.2 i hi k).2).trans (h.2 i hi k).2⟩⟩
theorem zSx_p {s : Nat} {σ σ' : zM} (h : zPx s σ σ') : zSx s σ σ' := ⟨h.1.mo (by decide), h.2⟩
theorem zSx_e {s : Nat} {F : List (Nat × Nat)} {σ σ' : zM} (h : zEx F σ σ') (hF : ∀ q ∈ F, q ∈ [(8, 1), (8, 2), (8, 3), (8, 4)]) : zSx s σ σ' := by
  have h8 := h.mo hF
  refine ⟨h8.mo (by decide), fun i _ k => ⟨h8.1 7 i k ?_, h8.2.2.2.1 7 i k ?_⟩⟩ <;> simp
/-- all that a measure wants -/
def zMc (σ : zM) (s n : Nat) (C : Nat → Nat) (x4 t : Int32) : Prop := iBri σ ∧ iSun σ ∧ zCX σ s C ∧ (if zI σ 7 s 1 = -1 then x4 else zI σ 7 s 1) = t ∧ n ≤ 40 ∧ zI σ 0 (zOn σ t) 7 = nI n
theorem zMc_x {σ σ' : zM} {s n : Nat} {C D : Nat → Nat} {x4 t : Int32} (h : zMc σ s n C x4 t) (hx : zSx s σ σ') (hD : zCX σ' s D) : zMc σ' s n D x4 t ∧ zOn σ' = zOn σ ∧ zbv σ' = zbv σ ∧ zSn σ' = zSn σ := by
  obtain ⟨h1, h2, -, h4, h5, h6⟩ := h
  have eO := zOn_x hx.1 (by decide)
  refine ⟨⟨iBri_fr hx.1 (by decide) h1, iSun_fr hx.1 (by decide) h2, hD, by rw [hx.1.1 7 s 1 (by decide)]; exact h4, h5, by rw [eO, hx.1.1 0 _ 7 (by decide)]; exact h6⟩, eO, zbv_x hx.1 (by decide), zSn_x hx.1 (by decide)⟩
theorem zup_b (C : Nat → Nat) (k v : Nat) : zup (zup C k v) k (C k) = C := by
  funext x
  by_cases h : x = k
  · rw [h, zup_eq]
  · rw [zup_ne h, zup_ne h]
/-- the trials that come before the class's trial T -/
def zBf (j T : Nat) : Prop := j < 2400 ∧ 15 * zpl (j / 15) + j % 15 < T
theorem zpl_mono : ∀ a, a < 160 → ∀ b, b < 160 → a < b → zpl a < zpl b := by
  intro a ha b hb hab
  unfold zpl
  omega
theorem X7_inside {p : Nat} (hp : p < 240) : f_X7_isInside (nI p) = if zinB p then 1 else 0 := by
  have h1 : p % 120 / 12 < 10 := by omega
  have h2 : p % 12 < 12 := by omega
  unfold f_X7_isInside zinB
  rw [if_neg (zlt0 (by omega)), if_neg (by rw [zq240, nI_leI (by omega) (by omega)]; omega), zq120, zq12, zremI (by omega) (by omega), zremI (by omega) (by omega), zdivI (by omega) (by omega), decide_eq_true hp, Bool.true_and]
  have hm : ∀ x, x < 12 → ((nI x - 1 < 0) ↔ x = 0) := (by decide : ∀ x, x < 12 → ((nI x - 1 < 0) ↔ x = 0))
  have h8 : ∀ x, x < 12 → x ≠ 0 → (8 ≤ nI x - 1 ↔ 8 < x) := (by decide : ∀ x, x < 12 → x ≠ 0 → (8 ≤ nI x - 1 ↔ 8 < x))
  have h10 : ∀ x, x < 12 → x ≠ 0 → (10 ≤ nI x - 1 ↔ 10 < x) := (by decide : ∀ x, x < 12 → x ≠ 0 → (10 ≤ nI x - 1 ↔ 10 < x))
  by_cases c1 : p % 120 / 12 = 0
  · rw [if_pos ((hm _ (by omega)).mpr c1), c1]
    rfl
  · rw [if_neg (fun h => c1 ((hm _ (by omega)).mp h))]
    by_cases c2 : 8 < p % 120 / 12
    · rw [if_pos ((h8 _ (by omega) c1).mpr c2), decide_eq_false (show ¬ p % 120 / 12 ≤ 8 by omega), Bool.and_false, Bool.false_and]
      rfl
    · rw [if_neg (fun h => c2 ((h8 _ (by omega) c1).mp h)), decide_eq_true (show 1 ≤ p % 120 / 12 by omega), decide_eq_true (show p % 120 / 12 ≤ 8 by omega), Bool.true_and, Bool.true_and]
      by_cases c3 : p % 12 = 0
      · rw [if_pos ((hm _ (by omega)).mpr c3), c3]
        rfl
      · rw [if_neg (fun h => c3 ((hm _ (by omega)).mp h))]
        by_cases c4 : 10 < p % 12
        · rw [if_pos ((h10 _ (by omega) c3).mpr c4), decide_eq_false (show ¬ p % 12 ≤ 10 by omega), Bool.and_false]
          rfl
        · rw [if_neg (fun h => c4 ((h10 _ (by omega) c3).mp h)), decide_eq_true (show 1 ≤ p % 12 by omega), decide_eq_true (show p % 12 ≤ 10 by omega)]
          rfl
/-! mend: a trial of the class -/
def zJo (σ : zM) (s n : Nat) (C : Nat → Nat) (B : zBV) (S : Nat → Nat) (t : Int32) (T : Nat) (q : Int32) (σ' : zM) : Prop := zSx s σ σ' ∧ zCX σ' s C ∧ zI σ' 8 0 4 = nI s ∧ ((∃ b, b < n ∧ q = nI b ∧ (∀ w, w < 5 → zA σ' 8 0 3 w = zMep (2, 2400) w) ∧ zWhy C S B t n ≠ n ∧ ∀ j, zBf j T → ztry C S B t n j = false) ∨ (q = -1 ∧ ∀ w, w < 5 → zA σ' 8 0 3 w = zMep (zMen C S B t n) w))
theorem zMen_2 {C S : Nat → Nat} {B : zBV} {t : Int32} {n : Nat} (h : zWhy C S B t n ≠ n) (hb : ∀ j, j < 2400 → ztry C S B t n j = false) : zMen C S B t n = (2, 2400) := by
  unfold zMen
  rw [if_neg h, zfirst_n hb, if_neg (by omega)]
theorem zMen_1 {C S : Nat → Nat} {B : zBV} {t : Int32} {n j : Nat} (h : zWhy C S B t n ≠ n) (hj : j < 2400) (ht : ztry C S B t n j = true) (hb : ∀ i, i < j → ztry C S B t n i = false) : zMen C S B t n = (1, j) := by
  unfold zMen
  rw [if_neg h, zfirst_at hj ht hb, if_pos hj]
theorem zMen_0 {C S : Nat → Nat} {B : zBV} {t : Int32} {n : Nat} (h : zWhy C S B t n = n) : zMen C S B t n = (0, 2400) := by
  unfold zMen
  rw [if_pos h]
theorem X8_trial {σ σ' : zM} {s n T : Nat} {C : Nat → Nat} {x4 t q : Int32} (hM : zMc σ s n C x4 t) (hT : T < 3600) (hJ : zJo σ s n C (zbv σ (zOn σ t)) (zSn σ) t T q σ') : (q = -1 ∧ f_X8_seekMend_L49 (nI s) s (zOn σ t) x4 3600 q (nI T) σ' = some (.inr σ')) ∨ ∃ q2 σ2, f_X8_seekMend_L49 (nI s) s (zOn σ t) x4 3600 q (nI T) σ' = some (.inl (q2, nI (T + 1), σ2)) ∧ zJo σ s n C (zbv σ (zOn σ t)) (zSn σ) t (T + 1) q2 σ2 := by
  obtain ⟨hx, hX, h84, hq⟩ := hJ
  have hlt : ¬ 3600 ≤ nI T := by rw [zq3600, nI_leI (by omega) (by omega)]; omega
  rcases hq with ⟨b, hb, rfl, hmd, hW, hbf⟩ | ⟨rfl, hmd⟩
  rotate_left
  · refine Or.inl ⟨rfl, ?_⟩
    unfold f_X8_seekMend_L49
    rw [if_neg hlt, if_pos rfl]
  · refine Or.inr ?_
    have hn40 := hM.2.2.2.2.1
    have hp : T / 15 < 240 := by omega
    have hdiv : nI T / 15 = nI (T / 15) := by rw [zq15, zdivI (by omega) (by omega)]
    have hrem : zrem (nI T) 15 = nI (T % 15) := by rw [zq15, zremI (by omega) (by omega)]
    have hC15 := zBd_15 hX.1 hp
    have hrun : f_X8_seekMend_L49 (nI s) s (zOn σ t) x4 3600 (nI b) (nI T) σ' = (if nI (T % 15) = nI (zBd C (T / 15)) then (f_X8_seekMend_B156_49 σ' (nI s) s (zOn σ t) x4 (nI b) 3600 (nI T)) else (if (f_X7_isInside (nI (T / 15))) = 0 then (f_X8_seekMend_B156_49 σ' (nI s) s (zOn σ t) x4 (nI b) 3600 (nI T)) else ((f_X7_put σ' s (nI (T / 15)) (nI (T % 15))).bind fun σ17 => (f_X8_breaks σ17 s (zOn σ t) (nI b) x4).bind fun q19 => if q19.1 = 0 then ((f_X8_firstBroken q19.2 s (zOn σ t) x4).bind fun q27 => f_X8_seekMend_B133_49 q27.2 (nI s) s (zOn σ t) x4 q27.1 3600 (nI T) (nI (T / 15)) (nI (T % 15)) (nI (zBd C (T / 15)))) else (f_X8_seekMend_B133_49 q19.2 (nI s) s (zOn σ t) x4 (nI b) 3600 (nI T) (nI (T / 15)) (nI (T % 15)) (nI (zBd C (T / 15))))))) := by
      unfold f_X8_seekMend_L49
      rw [if_neg hlt, if_neg (znI_m1 (by omega)), hdiv, hrem, zthing hp, Option.bind_some, hX.2.1 _ hp]
    have hstep : ∀ (q2 : Int32) (σ2 : zM), f_X8_seekMend_B156_49 σ2 (nI s) s (zOn σ t) x4 q2 3600 (nI T) = some (.inl (q2, nI (T + 1), σ2)) := fun q2 σ2 => by
      unfold f_X8_seekMend_B156_49
      rw [nI_1]
    -- what comes before T + 1, but for T's own trial
    have hbf1 : (∀ k, k < 160 → zpl k = T / 15 → ztry C (zSn σ) (zbv σ (zOn σ t)) t n (15 * k + T % 15) = false) → ∀ j, zBf j (T + 1) → ztry C (zSn σ) (zbv σ (zOn σ t)) t n j = false := by
      intro h1 j hj
      rcases Nat.lt_or_ge (15 * zpl (j / 15) + j % 15) T with h2 | h2
      · exact hbf j ⟨hj.1, h2⟩
      · have h3 := hj.2
        have h4 : 15 * zpl (j / 15) + j % 15 = T := by omega
        have h5 := h1 (j / 15) (by have := hj.1; omega) (by omega)
        rw [show 15 * (j / 15) + T % 15 = j by omega] at h5
        exact h5
    have hskip : (∀ k, k < 160 → zpl k = T / 15 → ztry C (zSn σ) (zbv σ (zOn σ t)) t n (15 * k + T % 15) = false) → zJo σ s n C (zbv σ (zOn σ t)) (zSn σ) t (T + 1) (nI b) σ' := fun h => ⟨hx, hX, h84, Or.inl ⟨b, hb, rfl, hmd, hW, hbf1 h⟩⟩
    by_cases c1 : T % 15 = zBd C (T / 15)
    · refine ⟨nI b, σ', ?_, hskip (fun k hk e => ?_)⟩
      · rw [hrun, if_pos (by rw [← c1]), hstep]
      · unfold ztry
        rw [← e, zBd_pl hk] at c1
        rw [show (15 * k + T % 15) / 15 = k by omega, show (15 * k + T % 15) % 15 = T % 15 by omega, decide_eq_false (fun h => h c1), Bool.false_and]
    · have c1' : ¬ nI (T % 15) = nI (zBd C (T / 15)) := by rw [nI_eq (by omega) (by omega)]; exact c1
      by_cases c2 : zinB (T / 15) = true
      · obtain ⟨hz1, hz2⟩ := zce_pl _ hp c2
        obtain ⟨k, hk⟩ : ∃ k, k = zce (T / 15) := ⟨_, rfl⟩
        rw [← hk] at hz1 hz2
        have hBk : zBd C (T / 15) = C k := by rw [← hz1, zBd_pl hz2]
        rw [hBk] at c1
        have hw15 : T % 15 < 15 := by omega
        obtain ⟨σa, a1, a2, a3⟩ := zput hX hz2 hw15
        have hxa : zSx s σ σa := hx.tr (zSx_p a3)
        obtain ⟨⟨m1, m2, m3, m4, m5, m6⟩, eO, eV, eS⟩ := zMc_x hM hxa a2
        obtain ⟨σb, b1, b2⟩ := X8_breaks m1 m2 m3 m4 m5 m6 hb
        rw [eO, eV, eS] at b1
        have hxb : zSx s σ σb := hxa.tr (zSx_e b2 (by decide))
        have hXb : zCX σb s (zup C k (T % 15)) := zCX_x b2 (by decide) a2
        obtain ⟨⟨n1, n2, n3, n4, n5, n6⟩, eO2, eV2, eS2⟩ := zMc_x hM hxb hXb
        have hback : ∀ σc : zM, zSx s σ σc → zCX σc s (zup C k (T % 15)) → ∃ σd, f_X7_put σc s (nI (T / 15)) (nI (zBd C (T / 15))) = some σd ∧ zCX σd s C ∧ zSx s σ σd ∧ zSx s σc σd ∧ (∀ w, zA σd 8 0 3 w = zA σc 8 0 3 w) ∧ zI σd 8 0 4 = zI σc 8 0 4 := by
          intro σc g1 g2
          obtain ⟨σd, d1, d2, d3⟩ := zput g2 hz2 (hX.1 k hz2)
          rw [zup_b] at d2
          rw [hz1] at d1
          exact ⟨σd, by rw [hBk]; exact d1, d2, g1.tr (zSx_p d3), zSx_p d3, fun w => by rw [d3.1.2.2.2.1 8 0 3 (by decide)], d3.1.1 8 0 4 (by decide)⟩
        rw [hz1] at a1
        have hjk : 15 * k + T % 15 < 2400 := by omega
        have htry : ztry C (zSn σ) (zbv σ (zOn σ t)) t n (15 * k + T % 15) = decide (zWhy (zup C k (T % 15)) (zSn σ) (zbv σ (zOn σ t)) t n = n) := by
          unfold ztry
          rw [show (15 * k + T % 15) / 15 = k by omega, show (15 * k + T % 15) % 15 = T % 15 by omega, decide_eq_true (show T % 15 ≠ C k from c1), Bool.true_and]
        have hone : ∀ k', k' < 160 → zpl k' = T / 15 → k' = k := fun k' hk' e => by
          have := (zpl_in k' hk').2.1
          rw [e] at this
          rw [hk, this]
        -- this trial isn't one that lets it in
        have hfail : ∀ σc : zM, zSx s σ σc → zCX σc s (zup C k (T % 15)) → (∀ w, zA σc 8 0 3 w = zA σ' 8 0 3 w) → zI σc 8 0 4 = nI s → ∀ b', b' < n → ztry C (zSn σ) (zbv σ (zOn σ t)) t n (15 * k + T % 15) = false → ∃ σ2, f_X8_seekMend_B133_49 σc (nI s) s (zOn σ t) x4 (nI b') 3600 (nI T) (nI (T / 15)) (nI (T % 15)) (nI (zBd C (T / 15))) = some (.inl (nI b', nI (T + 1), σ2)) ∧ zJo σ s n C (zbv σ (zOn σ t)) (zSn σ) t (T + 1) (nI b') σ2 := by
          intro σc g1 g2 g3 g4 b' hb' hf
          obtain ⟨σd, d1, d2, d3, d4, d5, d6⟩ := hback σc g1 g2
          refine ⟨σd, ?_, d3, d2, by rw [d6]; exact g4, Or.inl ⟨b', hb', rfl, fun w hw => by rw [d5, g3]; exact hmd w hw, hW, hbf1 (fun k' hk' e => by rw [hone k' hk' e]; exact hf)⟩⟩
          unfold f_X8_seekMend_B133_49
          rw [d1, Option.bind_some, if_neg (znI_m1 (by omega)), hstep]
        have e83b : ∀ w, zA σb 8 0 3 w = zA σ' 8 0 3 w := fun w => by rw [b2.2.2.2.1 8 0 3 (by decide), a3.1.2.2.2.1 8 0 3 (by decide)]
        have e84b : zI σb 8 0 4 = nI s := by rw [b2.1 8 0 4 (by decide), a3.1.1 8 0 4 (by decide)]; exact h84
        have hrun2 : f_X8_seekMend_L49 (nI s) s (zOn σ t) x4 3600 (nI b) (nI T) σ' = if zbb (zBrk (zup C k (T % 15)) (zSn σ) (zbv σ (zOn σ t)) t b) = 0 then ((f_X8_firstBroken σb s (zOn σ t) x4).bind fun q27 => f_X8_seekMend_B133_49 q27.2 (nI s) s (zOn σ t) x4 q27.1 3600 (nI T) (nI (T / 15)) (nI (T % 15)) (nI (zBd C (T / 15)))) else (f_X8_seekMend_B133_49 σb (nI s) s (zOn σ t) x4 (nI b) 3600 (nI T) (nI (T / 15)) (nI (T % 15)) (nI (zBd C (T / 15)))) := by
          rw [hrun, if_neg c1', X7_inside hp, if_pos c2, if_neg z10, a1, Option.bind_some, b1, Option.bind_some]
        by_cases c3 : zBrk (zup C k (T % 15)) (zSn σ) (zbv σ (zOn σ t)) t b = true
        · have hf : ztry C (zSn σ) (zbv σ (zOn σ t)) t n (15 * k + T % 15) = false := by
            rw [htry]
            refine decide_eq_false (fun e => ?_)
            have := fa_first_no (zBrk (zup C k (T % 15)) (zSn σ) (zbv σ (zOn σ t)) t) n b (by
              show b < zWhy (zup C k (T % 15)) (zSn σ) (zbv σ (zOn σ t)) t n
              omega)
            rw [c3] at this
            cases this
          obtain ⟨σ2, v1, v2⟩ := hfail σb hxb hXb e83b e84b b hb hf
          refine ⟨nI b, σ2, ?_, v2⟩
          rw [hrun2, zbb_t c3, if_neg z10, v1]
        · obtain ⟨σc, w1, w2⟩ := X8_first n1 n2 n3 n4 n5 n6
          rw [eO2, eV2, eS2] at w1
          have hxc : zSx s σ σc := hxb.tr (zSx_e w2 (by decide))
          have hXc : zCX σc s (zup C k (T % 15)) := zCX_x w2 (by decide) hXb
          have e83c : ∀ w, zA σc 8 0 3 w = zA σ' 8 0 3 w := fun w => by rw [w2.2.2.2.1 8 0 3 (by decide)]; exact e83b w
          have e84c : zI σc 8 0 4 = nI s := by rw [w2.1 8 0 4 (by decide)]; exact e84b
          by_cases c4 : zWhy (zup C k (T % 15)) (zSn σ) (zbv σ (zOn σ t)) t n = n
          · obtain ⟨σd, d1, d2, d3, d4, d5, d6⟩ := hback σc hxc hXc
            have hMe : zMen C (zSn σ) (zbv σ (zOn σ t)) t n = (1, 15 * k + T % 15) := by
              refine zMen_1 hW hjk (by rw [htry]; exact decide_eq_true c4) (fun i hi => hbf i ⟨by omega, ?_⟩)
              rcases Nat.lt_or_ge (i / 15) k with h5 | h5
              · have := zpl_mono (i / 15) (by omega) k hz2 h5
                omega
              · have : i / 15 = k := by omega
                rw [this]
                omega
            refine ⟨-1, zSm σd 1 (nI (k / 80)) (nI (k % 10)) (nI (k % 80 / 10)) (nI (T % 15)), ?_, d3.tr (zSx_e (zSm_x _ _ _ _ _ _) (by decide)), zCX_x (zSm_x _ _ _ _ _ _) (by decide) d2, ?_, Or.inr ⟨rfl, fun w hw => ?_⟩⟩
            · rw [hrun2, zbb_f c3, if_pos rfl, w1, Option.bind_some]
              unfold f_X8_seekMend_B133_49 zwyI
              rw [d1, Option.bind_some, if_pos c4, if_pos rfl]
              have hz1' : nI (T / 15) = nI (zpl k) := by rw [hz1]
              rw [hz1', X8_setM1 _ hz2, Option.bind_some, hstep]
            · rw [(zSm_x σd 1 (nI (k / 80)) (nI (k % 10)) (nI (k % 80 / 10)) (nI (T % 15))).1 8 0 4 (by decide), d6]
              exact e84c
            · rw [zSm_r _ _ _ _ _ _ w hw, hMe]
              unfold zMep
              have : w = 0 ∨ w = 1 ∨ w = 2 ∨ w = 3 ∨ w = 4 := by omega
              have e15 : (15 * k + T % 15) / 15 = k := by omega
              have e16 : (15 * k + T % 15) % 15 = T % 15 := by omega
              rcases this with rfl | rfl | rfl | rfl | rfl
              · rfl
              · simp only [e15, e16, hjk, if_true]
                rfl
              · simp only [e15, e16, hjk, if_true]
                rfl
              · simp only [e15, e16, hjk, if_true]
                rfl
              · simp only [e15, e16, hjk, if_true]
                rfl
          · have hWl := fa_first_le (zBrk (zup C k (T % 15)) (zSn σ) (zbv σ (zOn σ t)) t) n
            have hWn : zWhy (zup C k (T % 15)) (zSn σ) (zbv σ (zOn σ t)) t n < n := by
              have : zWhy (zup C k (T % 15)) (zSn σ) (zbv σ (zOn σ t)) t n ≤ n := hWl
              omega
            obtain ⟨σ2, v1, v2⟩ := hfail σc hxc hXc e83c e84c _ hWn (by rw [htry]; exact decide_eq_false c4)
            refine ⟨nI (zWhy (zup C k (T % 15)) (zSn σ) (zbv σ (zOn σ t)) t n), σ2, ?_, v2⟩
            rw [hrun2, zbb_f c3, if_pos rfl, w1, Option.bind_some]
            show f_X8_seekMend_B133_49 σc (nI s) s (zOn σ t) x4 (zwyI _ n) 3600 _ _ _ _ = _
            unfold zwyI
            rw [if_neg c4]
            exact v1
      · refine ⟨nI b, σ', ?_, hskip (fun k hk e => ?_)⟩
        · rw [hrun, if_neg c1', X7_inside hp, if_neg c2, if_pos rfl, hstep]
        · have := (zpl_in k hk).1
          rw [e] at this
          exact absurd this c2
