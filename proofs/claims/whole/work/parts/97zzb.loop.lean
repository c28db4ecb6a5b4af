/-! a brief's loop over its statements -/
theorem zTkd_0 {T : Nat → Nat} {n a : Nat} : zTkd T n a ≠ 0 := by
  unfold zTkd
  split
  · split
    · split <;> decide
    · decide
  · split
    · split <;> decide
    · split <;> decide
def zFbR : List (Nat × Nat) := [(12, 25), (12, 17), (12, 37), (12, 23), (12, 27), (12, 28), (12, 29), (12, 30), (12, 21), (12, 22), (12, 40), (12, 41), (12, 18), (12, 31), (12, 32), (12, 33), (12, 34), (12, 35), (12, 36)]
/-- since the text was begun: what is as it was -/
def zBF (σ0 σ0' σ σ' : zM) (W0 W : Nat → List Nat) (k0 o m0 : Nat) : Prop := zEx zFsC σ0 σ ∧ zEx zFbR σ0' σ' ∧ zOt σ0 σ o ∧ (∀ k, k = 27 ∨ k = 28 ∨ k = 29 ∨ k = 30 → ∀ x, x < 40 * o → zA σ' 12 0 k x = zA σ0' 12 0 k x) ∧ (∀ j, j ≠ o → zA σ' 12 0 25 j = zA σ0' 12 0 25 j) ∧ zBel (znd σ0') (znd σ') m0 ∧ ∀ j, j < k0 → W j = W0 j
/-- both behind q statements -/
def zBSt (σ0 σ0' σ σ' : zM) (T : Nat → Nat) (n N : Nat) (W0 : Nat → List Nat) (k0 o m0 q i : Nat) (W : Nat → List Nat) (pd t c m : Nat) : Prop := zBF σ0 σ0' σ σ' W0 W k0 o m0 ∧ zSP σ σ' T n N i W k0 pd t o q c m ∧ zPX σ' T n i W (k0 + pd) t ∧ zA σ' 12 0 25 o = nI q ∧ zI σ' 12 0 16 = nI o ∧ 3 * c ≤ zTs T n i ∧ (m = m0 ∨ (m0 ≤ m ∧ m + 9 ≤ m0 + zTs T n i))
theorem zRst_1 {R : Int32} {σ σ1 : zM} (h : zRst R σ = some (1, σ1)) : ∃ a σa, f_X12_reads σ R = some (a, σa) ∧ a ≠ 0 ∧ f_X12_takesSign σa 59 = some (1, σ1) := by
  unfold zRst at h
  cases e : f_X12_reads σ R with
  | none =>
    rw [e] at h
    cases h
  | some q =>
    rw [e, Option.bind_some] at h
    by_cases e0 : q.1 = 0
    · rw [if_pos e0] at h
      exact absurd (show (0 : Int32) = 1 from congrArg Prod.fst (Option.some.inj h)) (by decide)
    · rw [if_neg e0, zeta_b] at h
      exact ⟨q.1, q.2, rfl, e0, h⟩
theorem zRst_0 {R : Int32} {σ σ1 : zM} (h : zRst R σ = some (0, σ1)) : f_X12_reads σ R = some (0, σ1) ∨ ∃ a σa, f_X12_reads σ R = some (a, σa) ∧ a ≠ 0 ∧ f_X12_takesSign σa 59 = some (0, σ1) := by
  unfold zRst at h
  cases e : f_X12_reads σ R with
  | none =>
    rw [e] at h
    cases h
  | some q =>
    rw [e, Option.bind_some] at h
    by_cases e0 : q.1 = 0
    · rw [if_pos e0] at h
      have h2 := congrArg Prod.snd (Option.some.inj h)
      refine Or.inl (congrArg some (Prod.ext e0 h2))
    · rw [if_neg e0, zeta_b] at h
      exact Or.inr ⟨q.1, q.2, rfl, e0, h⟩
/-! the class's loop, step by step -/
theorem Lc_k {σ : zM} {T : Nat → Nat} {n N i : Nat} (hC : zCP σ T n N i) (hi : i < N) : f_X4_isKind σ 0 = some 0 := by
  rw [X4_kind hC, (hC.1.2.2.2.2.1 i hi).1, if_neg zTkd_0]
theorem Lc_kN {σ : zM} {T : Nat → Nat} {n N i : Nat} (hC : zCP σ T n N i) (hi : i = N) : f_X4_isKind σ 0 = some 1 := by
  rw [X4_kind hC, hi, hC.1.2.2.2.2.2, if_pos rfl]
theorem X0_full {σ : zM} {o q : Nat} (h : zI σ 0 o 7 = nI q) (hq : q ≤ 40) : f_X0_isFull σ o = if q < 40 then 0 else 1 := by
  unfold f_X0_isFull
  rw [h, zq40]
  by_cases e : q < 40
  · rw [if_pos e, if_pos (nI_lt e (by omega))]
  · rw [if_neg e, if_neg (by rw [nI_ltI (by omega) (by omega)]; exact e)]
theorem Lc_e {σ : zM} {T : Nat → Nat} {n N i q : Nat} {x1 : Int32} {x2 : Nat} (hC : zCP σ T n N i) (hq : q ≤ 40) (hi : i = N) : f_X4_read_L51 x1 x2 1 (nI q) σ = some (.inr (1, σ)) := by
  unfold f_X4_read_L51
  rw [if_neg (by rw [zq40, nI_ltI (by omega) (by omega)]; omega), if_neg z10, Lc_kN hC hi, Option.bind_some, if_neg z10]
theorem Lc_f {σ : zM} {T : Nat → Nat} {n N i o : Nat} {x1 : Int32} {x2 : Nat} (hC : zCP σ T n N i) (hi : i < N) (hR : zR σ 4 0 7 = some o) (h7 : zI σ 0 o 7 = nI 40) : f_X4_read_L51 x1 x2 1 (nI 40) σ = some (.inl (0, nI 41, σ)) := by
  unfold f_X4_read_L51
  rw [if_neg (by decide), if_neg z10, Lc_k hC hi, Option.bind_some, if_pos rfl, hR, znu_e1, X0_full h7 (Nat.le_refl _), if_neg (show ¬ (40 : Nat) < 40 by decide), if_neg z10]
  rfl
theorem Lc_s {σ σ1 : zM} {T : Nat → Nat} {n N i o q : Nat} {x1 r : Int32} {x2 : Nat} (hC : zCP σ T n N i) (hi : i < N) (hR : zR σ 4 0 7 = some o) (h7 : zI σ 0 o 7 = nI q) (hq : q < 40) (hs : f_X4_statement σ = some (r, σ1)) (hr : r = 0 ∨ r = 1) : f_X4_read_L51 x1 x2 1 (nI q) σ = some (.inl (r, nI (q + 1), σ1)) := by
  unfold f_X4_read_L51
  rw [if_neg (by rw [zq40, nI_ltI (by omega) (by omega)]; omega), if_neg z10, Lc_k hC hi, Option.bind_some, if_pos rfl, hR, znu_e1, X0_full h7 (by omega), if_pos hq, if_pos rfl, hs, Option.bind_some, nI_1]
  rcases hr with rfl | rfl <;> rfl
theorem Lc_0 {σ : zM} {x1 y : Int32} {x2 : Nat} : f_X4_read_L51 x1 x2 0 y σ = some (.inr (0, σ)) := by
  unfold f_X4_read_L51
  by_cases h : 40 < y
  · rw [if_pos h]
  · rw [if_neg h, if_pos rfl]
/-! the reference's loop, step by step -/
theorem Lr_0 {σ : zM} {x1 y2 y3 : Int32} : f_X12_brief_L64 x1 y2 y3 0 σ = some (.inr (0, σ)) := by
  unfold f_X12_brief_L64
  rw [if_pos rfl]
theorem Lr_e {σ : zM} {T : Nat → Nat} {n i : Nat} {x1 y2 y3 : Int32} (h : zRN σ T n i) (hi : zTs T n i = n) : f_X12_brief_L64 x1 y2 y3 1 σ = some (.inr (1, σ)) := by
  have h9 := h.1.1
  unfold f_X12_brief_L64
  rw [if_neg z10, h.1.2.1, h.2, hi, if_pos (nI_le (Nat.le_refl _) (by omega))]
theorem Lr_h {σ : zM} {T : Nat → Nat} {n i o q : Nat} {x1 y2 y3 : Int32} (h : zRN σ T n i) (hi : zTs T n i < n) (ho : o ≤ 5) (h16 : zI σ 12 0 16 = nI o) (h25 : zA σ 12 0 25 o = nI q) : f_X12_brief_L64 x1 y2 y3 1 σ = if 40 ≤ nI q then (f_X12_brief_B131_64 σ x1 y2 y3) else ((f_X12_reads σ (nI (40 * o + q))).bind fun q31 => if q31.1 = 0 then (f_X12_brief_B131_64 q31.2 x1 y2 y3) else ((f_X12_takesSign q31.2 59).bind fun q34 => if (if q34.1 = 0 then 0 else 1 : Int32) = 0 then (some (.inl ((if q34.1 = 0 then 0 else 1 : Int32), q34.2))) else ((zix (zI q34.2 12 0 16) 7).bind fun i40 => (zix (zI q34.2 12 0 16) 7).bind fun i41 => zlt (zsA q34.2 12 0 25 i41 ((zA q34.2 12 0 25 i40) + 1)) fun σ42 => (f_X12_blanks σ42).bind fun σ43 => some (.inl ((if q34.1 = 0 then 0 else 1 : Int32), σ43))))) := by
  have h9 := h.1.1
  unfold f_X12_brief_L64
  rw [if_neg z10, h.1.2.1, h.2, if_neg (by rw [nI_leI (by omega) (by omega)]; omega), h16, zix_n (show o < 7 by omega) (by omega), Option.bind_some, Option.bind_some, h25, zq40, zmulI, nI_add]
theorem Lr_f {σ : zM} {T : Nat → Nat} {n i o : Nat} {x1 y2 y3 : Int32} (h : zRN σ T n i) (hi : zTs T n i < n) (ho : o ≤ 5) (h16 : zI σ 12 0 16 = nI o) (h25 : zA σ 12 0 25 o = nI 40) : f_X12_brief_L64 x1 y2 y3 1 σ = some (.inl (0, σ)) := by
  rw [Lr_h h hi ho h16 h25, if_pos (by decide)]
  rfl
theorem Lr_s0 {σ σ1 : zM} {T : Nat → Nat} {n i o q : Nat} {x1 y2 y3 : Int32} (h : zRN σ T n i) (hi : zTs T n i < n) (ho : o ≤ 5) (hq : q < 40) (h16 : zI σ 12 0 16 = nI o) (h25 : zA σ 12 0 25 o = nI q) (e : zRst (nI (40 * o + q)) σ = some (0, σ1)) : f_X12_brief_L64 x1 y2 y3 1 σ = some (.inl (0, σ1)) := by
  rw [Lr_h h hi ho h16 h25, if_neg (by rw [zq40, nI_leI (by omega) (by omega)]; omega)]
  rcases zRst_0 e with e1 | ⟨a, σa, e1, e2, e3⟩
  · rw [e1, Option.bind_some]
    rfl
  · rw [e1, Option.bind_some]
    show (if a = 0 then _ else ((f_X12_takesSign σa 59).bind _)) = _
    rw [if_neg e2, e3, Option.bind_some]
    rfl
theorem Lr_s1 {σ σ1 : zM} {T : Nat → Nat} {n i i' o q : Nat} {x1 y2 y3 : Int32} (h : zRN σ T n i) (hi : zTs T n i < n) (ho : o ≤ 5) (hq : q < 40) (h16 : zI σ 12 0 16 = nI o) (h25 : zA σ 12 0 25 o = nI q) (e : zRst (nI (40 * o + q)) σ = some (1, σ1)) (h' : zRP σ1 T n i') (g16 : zI σ1 12 0 16 = nI o) (g25 : zA σ1 12 0 25 o = nI q) : ∃ σ2, f_X12_brief_L64 x1 y2 y3 1 σ = some (.inl (1, σ2)) ∧ zEx [(12, 25), (12, 21)] σ1 σ2 ∧ zRN σ2 T n i' ∧ zA σ2 12 0 25 = zu (zA σ1 12 0 25) o (nI (q + 1)) := by
  obtain ⟨a, σa, e1, e2, e3⟩ := zRst_1 e
  obtain ⟨hr, p, hp, hpa, hat⟩ := h'
  have x1' : zEx [(12, 25)] σ1 (zsA σ1 12 0 25 o (nI (q + 1))) := zEx_sA (by decide)
  obtain ⟨σ2, b1, b2, b3⟩ := X12_blanks (zTr_fr hr x1' (by decide) (by decide)) hp ((x1'.1 12 0 21 (by decide)).trans hat)
  refine ⟨σ2, ?_, (x1'.mo (by decide)).tr (b2.mo (by decide)), ⟨zTr_fr (zTr_fr hr x1' (by decide) (by decide)) b2 (by decide) (by decide), by rw [b3, hpa]⟩, ?_⟩
  · rw [Lr_h h hi ho h16 h25, if_neg (by rw [zq40, nI_leI (by omega) (by omega)]; omega), e1, Option.bind_some]
    show (if a = 0 then _ else ((f_X12_takesSign σa 59).bind _)) = _
    rw [if_neg e2, e3, Option.bind_some]
    simp only [z10, if_false]
    rw [g16, zix_n (show o < 7 by omega) (by omega), Option.bind_some, Option.bind_some, zlt_e, g25, nI_1, b1, Option.bind_some]
  · rw [b2.2.2.2.1 12 0 25 (by decide), zA_sA, if_pos ⟨rfl, rfl, rfl⟩]
/-- a growing brief stands on the rows and the nodes alone -/
theorem zBrP_fe {τ τ' : zM} {M j q c : Nat} (h27 : zA τ' 12 0 27 = zA τ 12 0 27) (h28 : zA τ' 12 0 28 = zA τ 12 0 28) (h29 : zA τ' 12 0 29 = zA τ 12 0 29) (h30 : zA τ' 12 0 30 = zA τ 12 0 30) (hz : znd τ' = znd τ) (hc : ∀ k, zA τ' 0 j k = zA τ 0 j k) (h : zBrP τ M j q c) : zBrP τ' M j q c := by
  simp only [zBrP, zSt1, h27, h28, h29, h30, hz, hc] at h ⊢
  exact h
def zLc (x1 : Int32) (x2 : Nat) (q : Int32 × Int32 × zM) : Option ((Int32 × Int32 × zM) ⊕ (Int32 × zM)) := f_X4_read_L51 x1 x2 q.1 q.2.1 q.2.2
def zLp (x1 y2 y3 : Int32) (q : Int32 × zM) : Option ((Int32 × zM) ⊕ (Int32 × zM)) := f_X12_brief_L64 x1 y2 y3 q.1 q.2
/-- how both loops end -/
def zLE (rc rr : Option (Int32 × zM)) (σ0 σ0' : zM) (T : Nat → Nat) (n N : Nat) (W0 : Nat → List Nat) (k0 o m0 : Nat) : Prop := ∃ σf σf' i' W' pd' t', (∃ q' c' m', rc = some (1, σf) ∧ rr = some (1, σf') ∧ q' ≤ 40 ∧ zBSt σ0 σ0' σf σf' T n N W0 k0 o m0 q' i' W' pd' t' c' m') ∨ (rc = some (0, σf) ∧ rr = some (0, σf') ∧ zBF σ0 σ0' σf σf' W0 W' k0 o m0 ∧ zPC σf T n N i' W' k0 pd' t' ∧ zPX σf' T n i' W' (k0 + pd') t')
theorem zJ_loop {σ0 σ0' : zM} {T : Nat → Nat} {n N : Nat} {W0 : Nat → List Nat} {k0 o m0 : Nat} {x1 x1' y2 y3 : Int32} {x2 : Nat} (ho : o ≤ 5) (hm0 : m0 ≤ 891 * o) : ∀ d q σ σ' i W pd t c m kc kr, q + d = 40 → zBSt σ0 σ0' σ σ' T n N W0 k0 o m0 q i W pd t c m → d + 2 ≤ kc → d + 2 ≤ kr → zLE (zwh (zLc x1 x2) kc (1, nI q, σ)) (zwh (zLp x1' y2 y3) kr (1, σ')) σ0 σ0' T n N W0 k0 o m0 := by
  intro d
  induction d with
  | zero =>
    intro q σ σ' i W pd t c m kc kr hq B hkc hkr
    obtain ⟨kc, rfl⟩ : ∃ k, kc = k + 1 + 1 := ⟨kc - 2, by omega⟩
    obtain ⟨kr, rfl⟩ : ∃ k, kr = k + 1 + 1 := ⟨kr - 2, by omega⟩
    have B0 := B
    obtain ⟨hF, ⟨s1, s2, s3, s4, s5, s6, s7⟩, hX, h25, h16, h3, hm⟩ := B
    have hN := zTks_N s1.1.1
    have q40 : q = 40 := by omega
    subst q40
    rcases Nat.lt_or_ge i N with hi | hi
    · refine ⟨σ, σ', i, W, pd, t, Or.inr ⟨?_, ?_, hF, s1, hX⟩⟩
      · rw [zwh_inl (show zLc x1 x2 (1, nI 40, σ) = some (.inl (0, nI 41, σ)) from Lc_f s1.1 hi s3 s4), zwh_inr (show zLc x1 x2 (0, nI 41, σ) = some (.inr (0, σ)) from Lc_0)]
      · rw [zwh_inl (show zLp x1' y2 y3 (1, σ') = some (.inl (0, σ')) from Lr_f hX.1 (hN.2 i hi) ho h16 h25), zwh_inr (show zLp x1' y2 y3 (0, σ') = some (.inr (0, σ')) from Lr_0)]
    · have iN : i = N := by
        have := s1.1.2.1
        omega
      refine ⟨σ, σ', i, W, pd, t, Or.inl ⟨40, c, m, ?_, ?_, by omega, B0⟩⟩
      · exact zwh_inr (show zLc x1 x2 (1, nI 40, σ) = some (.inr (1, σ)) from Lc_e s1.1 (by omega) iN)
      · exact zwh_inr (show zLp x1' y2 y3 (1, σ') = some (.inr (1, σ')) from Lr_e hX.1 (by rw [iN]; exact hN.1))
  | succ d ih =>
    intro q σ σ' i W pd t c m kc kr hq B hkc hkr
    obtain ⟨kc, rfl⟩ : ∃ k, kc = k + 1 + 1 := ⟨kc - 2, by omega⟩
    obtain ⟨kr, rfl⟩ : ∃ k, kr = k + 1 + 1 := ⟨kr - 2, by omega⟩
    have B0 := B
    obtain ⟨hF, hS, hX, h25, h16, h3, hm⟩ := B
    have hS0 := hS
    obtain ⟨s1, s2, s3, s4, s5, s6, s7⟩ := hS
    have hN := zTks_N s1.1.1
    have h900 := hX.1.1.1
    rcases Nat.lt_or_ge i N with hi | hi
    · have hq40 : q < 40 := by omega
      rcases zK_all hS0 ho hq40 h3 (by omega) with ⟨σ1, σ1', i', W', pd', t', c', m', e1, e2, x1f, x2f, ot, rw', bel, hW, S1, hlt, hcc, h3', hm'⟩ | ⟨σ1, σ1', i', W', pd', t', e1, e2, x1f, x2f, ot, rw', bel, hW, p1, p2⟩
      · obtain ⟨F1, F2, F3, F4, F5, F6, F7⟩ := hF
        obtain ⟨u1, u2, u3, u4, u5, u6, u7⟩ := S1
        have g16 : zI σ1' 12 0 16 = nI o := (x2f.1 12 0 16 (by decide)).trans h16
        have g25 : zA σ1' 12 0 25 = zA σ' 12 0 25 := x2f.2.2.2.1 12 0 25 (by decide)
        obtain ⟨σ2', l1, l2, l3, l4⟩ := Lr_s1 (x1 := x1') (y2 := y2) (y3 := y3) hX.1 (hN.2 i hi) ho hq40 h16 h25 e2 u2.1 g16 (by rw [g25]; exact h25)
        have hX2 : zPX σ2' T n i' W' (k0 + pd') t' := ⟨l3, zNmS_x u2.2.1 l2 (by decide) (by decide), (l2.1 12 0 23 (by decide)).trans u2.2.2⟩
        have hnd : znd σ2' = znd σ1' := znd_fr (zFe_of l2 (by decide))
        have B2 : zBSt σ0 σ0' σ1 σ2' T n N W0 k0 o m0 (q + 1) i' W' pd' t' c' m' := by
          refine ⟨⟨F1.tr x1f, F2.tr ((x2f.mo (by decide)).tr (l2.mo (by decide))), F3.tr ot, fun k hk x hx => ?_, fun j hj => ?_, ?_, fun j hj => (hW j hj).trans (F7 j hj)⟩, ⟨u1, zPX_R hX2, u3, u4, u5, (l2.1 12 0 18 (by decide)).trans u6, ?_⟩, hX2, ?_, (l2.1 12 0 16 (by decide)).trans g16, by omega, by omega⟩
          · rw [l2.2.2.2.1 12 0 k (by rcases hk with rfl | rfl | rfl | rfl <;> decide), rw' k hk x (by omega)]
            exact F4 k hk x hx
          · rw [l4, zu_ne _ _ hj, g25]
            exact F5 j hj
          · rw [hnd]
            exact F6.tr bel (by omega)
          · exact zBrP_fe (τ := zMix σ1 σ1') (τ' := zMix σ1 σ2') (l2.2.2.2.1 12 0 27 (by decide)) (l2.2.2.2.1 12 0 28 (by decide)) (l2.2.2.2.1 12 0 29 (by decide)) (l2.2.2.2.1 12 0 30 (by decide)) hnd (fun _ => rfl) u7
          · rw [l4, zu_eq]
        rw [zwh_inl (show zLc x1 x2 (1, nI q, σ) = some (.inl (1, nI (q + 1), σ1)) from Lc_s s1.1 hi s3 s4 hq40 e1 (Or.inr rfl)), zwh_inl (show zLp x1' y2 y3 (1, σ') = some (.inl (1, σ2')) from l1)]
        exact ih (q + 1) σ1 σ2' i' W' pd' t' c' m' (kc + 1) (kr + 1) (by omega) B2 (by omega) (by omega)
      · obtain ⟨F1, F2, F3, F4, F5, F6, F7⟩ := hF
        refine ⟨σ1, σ1', i', W', pd', t', Or.inr ⟨?_, ?_, ⟨F1.tr x1f, F2.tr (x2f.mo (by decide)), F3.tr ot, fun k hk x hx => ?_, fun j hj => ?_, F6.tr bel (by omega), fun j hj => (hW j hj).trans (F7 j hj)⟩, p1, p2⟩⟩
        · rw [zwh_inl (show zLc x1 x2 (1, nI q, σ) = some (.inl (0, nI (q + 1), σ1)) from Lc_s s1.1 hi s3 s4 hq40 e1 (Or.inl rfl)), zwh_inr (show zLc x1 x2 (0, nI (q + 1), σ1) = some (.inr (0, σ1)) from Lc_0)]
        · rw [zwh_inl (show zLp x1' y2 y3 (1, σ') = some (.inl (0, σ1')) from Lr_s0 hX.1 (hN.2 i hi) ho hq40 h16 h25 e2), zwh_inr (show zLp x1' y2 y3 (0, σ1') = some (.inr (0, σ1')) from Lr_0)]
        · rw [rw' k hk x (by omega)]
          exact F4 k hk x hx
        · rw [x2f.2.2.2.1 12 0 25 (by decide)]
          exact F5 j hj
    · have iN : i = N := by
        have := s1.1.2.1
        omega
      refine ⟨σ, σ', i, W, pd, t, Or.inl ⟨q, c, m, ?_, ?_, by omega, B0⟩⟩
      · exact zwh_inr (show zLc x1 x2 (1, nI q, σ) = some (.inr (1, σ)) from Lc_e s1.1 (by omega) iN)
      · exact zwh_inr (show zLp x1' y2 y3 (1, σ') = some (.inr (1, σ')) from Lr_e hX.1 (by rw [iN]; exact hN.1))
