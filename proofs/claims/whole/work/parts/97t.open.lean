/-! open -/
def zset (g : Nat → Bool) : Nat → Nat
  | 0 => 0
  | i + 1 => if g i then zset g i ||| 2 ^ i else zset g i
theorem zset_b {g : Nat → Bool} {s : Nat} : ∀ i, (zset g i).testBit s = (decide (s < i) && g s)
  | 0 => by
    rw [show zset g 0 = 0 from rfl, Nat.zero_testBit, decide_eq_false (Nat.not_lt_zero s), Bool.false_and]
  | i + 1 => by
    have e : zset g (i + 1) = if g i then zset g i ||| 2 ^ i else zset g i := rfl
    rw [e]
    by_cases h : g i = true
    · rw [if_pos h, fb_bit_set, zset_b i]
      by_cases es : s = i
      · rw [es, h, decide_eq_true (Nat.lt_succ_self i)]
        simp
      · rw [decide_eq_false es, Bool.or_false]
        by_cases hl : s < i
        · rw [decide_eq_true hl, decide_eq_true (show s < i + 1 by omega)]
        · rw [decide_eq_false hl, decide_eq_false (show ¬ s < i + 1 by omega)]
    · rw [if_neg h, zset_b i]
      by_cases es : s = i
      · have : g s = false := by
          rw [es]
          cases e2 : g i
          · rfl
          · exact absurd e2 h
        rw [this, Bool.and_false, Bool.and_false]
      · by_cases hl : s < i
        · rw [decide_eq_true hl, decide_eq_true (show s < i + 1 by omega)]
        · rw [decide_eq_false hl, decide_eq_false (show ¬ s < i + 1 by omega)]
theorem zset_lt {g : Nat → Bool} : ∀ i, zset g i < 2 ^ i
  | 0 => by show 0 < 2 ^ 0; decide
  | i + 1 => by
    have h := zset_lt (g := g) i
    have h2 : 2 ^ i < 2 ^ (i + 1) := Nat.pow_lt_pow_right (by decide) (Nat.lt_succ_self i)
    show (if g i then zset g i ||| 2 ^ i else zset g i) < 2 ^ (i + 1)
    split
    · exact Nat.or_lt_two_pow (by omega) h2
    · omega
theorem zpc_or {K x : Nat} (hx : x < 10) : zpc (K ||| 2 ^ x) = zpc K + (if K.testBit x then 0 else 1) := by
  have hu := fb_ct_upd (fun d => K.testBit d) true hx
  have e : fb_ct (fun d => (K ||| 2 ^ x).testBit d) 10 = fb_ct (fun d => if d = x then true else K.testBit d) 10 := fb_ct_cong (fun d _ => by
    rw [fb_bit_set]
    by_cases e : d = x
    · simp [e]
    · simp [e])
  unfold zpc
  rw [e]
  have z2 : (if true = true then 1 else 0 : Nat) = 1 := rfl
  rw [z2] at hu
  by_cases h : K.testBit x = true
  · rw [if_pos h] at hu ⊢
    omega
  · rw [if_neg h] at hu ⊢
    omega
/-- a scheme comes to a round of the class -/
theorem X6_admit {σ : zM} {o K x : Nat} (hx : x < 10) (h0 : ∀ s, s < 10 → zA σ 6 o 0 s = if K.testBit s then 1 else 0) (h6 : zI σ 6 o 6 = nI (zpc K)) : ∃ σ', f_X6_admit σ o (nI x) = some σ' ∧ zEx [(6, 0), (6, 6)] σ σ' ∧ (∀ s, s < 10 → zA σ' 6 o 0 s = if (K ||| 2 ^ x).testBit s then 1 else 0) ∧ zI σ' 6 o 6 = nI (zpc (K ||| 2 ^ x)) ∧ ∀ o', o' ≠ o → zA σ' 6 o' 0 = zA σ 6 o' 0 ∧ zI σ' 6 o' 6 = zI σ 6 o' 6 := by
  have hz := zix_n hx (show (10 : Nat) < 2147483648 by omega)
  unfold f_X6_admit
  rw [if_neg (zlt0 (by omega)), if_neg (by rw [zq10, nI_leI (by omega) (by omega)]; omega), hz, Option.bind_some, h0 x hx, zif01]
  by_cases h : K.testBit x = true
  · have e : K ||| 2 ^ x = K := by
      apply Nat.eq_of_testBit_eq
      intro d
      rw [fb_bit_set]
      by_cases ed : d = x
      · rw [ed, h]; simp
      · simp [ed]
    rw [if_pos h, e]
    exact ⟨σ, rfl, zEx.rf, h0, h6, fun _ _ => ⟨rfl, rfl⟩⟩
  · rw [if_neg h, Option.bind_some, zlt_e]
    have hv : vp_nar .boolean 1 = 1 := by decide
    have e6 : zI (zsA σ 6 o 0 x (vp_nar .boolean 1)) 6 o 6 = nI (zpc K) := h6
    rw [zlt_e, e6, nI_1, hv]
    refine ⟨_, rfl, (zEx_sA (by decide)).tr (zEx_sI (by decide)), fun s hs => ?_, ?_, fun o' ho' => ⟨?_, ?_⟩⟩
    · show zA (zsA σ 6 o 0 x 1) 6 o 0 s = _
      rw [zA_sA, if_pos ⟨rfl, rfl, rfl⟩, fb_bit_set]
      by_cases e : s = x
      · rw [e, zu_eq]
        simp
      · rw [zu_ne _ _ e, h0 s hs, decide_eq_false e, Bool.or_false]
    · rw [zI_sI, if_pos ⟨rfl, rfl, rfl⟩, zpc_or hx, if_neg h]
    · show zA (zsA σ 6 o 0 x 1) 6 o' 0 = _
      rw [zA_sA, if_neg (fun h => ho' h.2.1)]
    · rw [zI_sI, if_neg (fun h => ho' h.2.1)]
      rfl
/-- who stands -/
def zgood (σ : zM) (s : Nat) : Bool := decide (zA σ 12 0 5 s ≠ -1) && decide (zWhy (zCl σ s) (zSn σ) (zbv σ (zOn σ (zdt σ s))) (zdt σ s) (zns σ (zOn σ (zdt σ s))) = zns σ (zOn σ (zdt σ s)))
theorem zwy_m1 {W n : Nat} (hW : W ≤ n) (hn : n ≤ 40) : zwyI W n = -1 ↔ W = n := by
  unfold zwyI
  by_cases h : W = n
  · rw [if_pos h]
    exact ⟨fun _ => h, fun _ => rfl⟩
  · rw [if_neg h]
    exact ⟨fun e => absurd e (znI_m1 (by omega)), fun e => absurd e h⟩
theorem X11_admitAll {σ : zM} {k : Nat} (hBri : iBri σ) (hSun : iSun σ) (hD : zI σ 11 0 10 = zI σ 12 0 0) (k1 : k ≤ 10) (k2 : zI σ 11 0 12 = nI k) (k4 : ∀ s, s < k → iSch1 σ s) (h0 : ∀ s, s < 10 → zA σ 6 0 0 s = 0) (h6 : zI σ 6 0 6 = 0) : ∃ σ', f_X11_admitAllThatStand σ = some σ' ∧ zEx [(8, 1), (8, 2), (6, 0), (6, 6)] σ σ' ∧ (∀ s, s < 10 → zA σ' 6 0 0 s = if (zset (zgood σ) k).testBit s then 1 else 0) ∧ zI σ' 6 0 6 = nI (zpc (zset (zgood σ) k)) ∧ zA σ' 6 1 0 = zA σ 6 1 0 ∧ zI σ' 6 1 6 = zI σ 6 1 6 := by
  have hz : ∃ t, zwh (fun (q : (Int32 × zM)) => f_X11_admitAllThatStand_L2 q.1 q.2) zFu (0, σ) = some t ∧ zEx [(8, 1), (8, 2), (6, 0), (6, 6)] σ t ∧ (∀ s, s < 10 → zA t 6 0 0 s = if (zset (zgood σ) k).testBit s then 1 else 0) ∧ zI t 6 0 6 = nI (zpc (zset (zgood σ) k)) ∧ zA t 6 1 0 = zA σ 6 1 0 ∧ zI t 6 1 6 = zI σ 6 1 6 := by
    refine zwh_ex (fun (i : Nat) (q : Int32 × zM) => q.1 = nI i ∧ zEx [(8, 1), (8, 2), (6, 0), (6, 6)] σ q.2 ∧ (∀ s, s < 10 → zA q.2 6 0 0 s = if (zset (zgood σ) i).testBit s then 1 else 0) ∧ zI q.2 6 0 6 = nI (zpc (zset (zgood σ) i)) ∧ zA q.2 6 1 0 = zA σ 6 1 0 ∧ zI q.2 6 1 6 = zI σ 6 1 6) _ k ⟨rfl, zEx.rf, fun s hs => ?_, ?_, rfl, rfl⟩ (fun i q hi hq => ?_) (fun q hq => ?_) (by omega)
    · show zA σ 6 0 0 s = if (0 : Nat).testBit s then 1 else 0
      rw [h0 s hs, Nat.zero_testBit]
      rfl
    · show zI σ 6 0 6 = nI (zpc 0)
      rw [h6]
      have : zpc 0 = 0 := fb_ct_zero.mpr (fun s _ => Nat.zero_testBit s)
      rw [this]
      rfl
    · obtain ⟨q1, q2⟩ := q
      obtain ⟨g1, g2, g3, g4, g5, g6⟩ := hq
      simp only at g1 g2 g3 g4 g5 g6
      subst g1
      have hsc := k4 i hi
      have eO := zOn_x g2 (by decide)
      have eV := zbv_x g2 (by decide)
      have eS := zSn_x g2 (by decide)
      have eD := zdt_x g2 (by decide)
      have hB2 := iBri_fr g2 (by decide) hBri
      have hS2 := iSun_fr g2 (by decide) hSun
      have f12 : zI q2 11 0 12 = nI k := by rw [g2.1 11 0 12 (by decide)]; exact k2
      have hat : f_X11_schemeAt q2 (nI i) = some (some i) := zschS k1 f12 (by rw [g2.2.2.2.2.2 11 0 7 (by decide)]; exact hsc.1) hi
      have f71 : zI q2 7 i 1 = zA σ 12 0 5 i := by rw [g2.1 7 i 1 (by decide)]; exact hsc.2.2.1
      obtain ⟨n, n1, n2, -⟩ := zbinds hBri (zdt σ i)
      have hns : zns σ (zOn σ (zdt σ i)) = n := zns_n n2 n1
      refine Or.inl ?_
      have ez : zset (zgood σ) (i + 1) = if zgood σ i then zset (zgood σ) i ||| 2 ^ i else zset (zgood σ) i := rfl
      have hrun0 : f_X11_admitAllThatStand_L2 (nI i) q2 = if f_X7_isHandedIn q2 i = 0 then some (.inl (nI (i + 1), q2)) else ((f_X11_briefOf q2 i).bind fun r8 => (f_X8_firstBroken q2 i r8 (zI q2 11 0 10)).bind fun q10 => if q10.1 = (-1) then ((f_X6_admit q10.2 0 (nI i)).bind fun σ13 => f_X11_admitAllThatStand_B56_2 σ13 (nI i)) else (f_X11_admitAllThatStand_B56_2 q10.2 (nI i))) := by
        unfold f_X11_admitAllThatStand_L2
        rw [f12, if_neg (by rw [nI_leI (by omega) (by omega)]; omega), hat, Option.bind_some]
        show (if f_X7_isHandedIn q2 i = 0 then f_X11_admitAllThatStand_B56_2 q2 (nI i) else _) = _
        unfold f_X11_admitAllThatStand_B56_2
        rw [nI_1]
      by_cases hh : zA σ 12 0 5 i = -1
      · refine ⟨(nI (i + 1), q2), ?_, rfl, g2, ?_, ?_, g5, g6⟩
        · refine hrun0.trans ?_
          unfold f_X7_isHandedIn
          rw [f71, if_pos hh, if_pos rfl]
        · have eg : zgood σ i = false := by
            unfold zgood
            rw [decide_eq_false (fun h => h hh), Bool.false_and]
          rw [ez, eg]
          exact g3
        · have eg : zgood σ i = false := by
            unfold zgood
            rw [decide_eq_false (fun h => h hh), Bool.false_and]
          rw [ez, eg]
          exact g4
      · have f10 : zI q2 11 0 10 = zI q2 12 0 0 := by rw [g2.1 11 0 10 (by decide), g2.1 12 0 0 (by decide)]; exact hD
        obtain ⟨σ3, w1, w2⟩ := X8_first (x4 := zI q2 11 0 10) (t := zdt σ i) hB2 hS2 (zCX_x g2 (by decide) (zCX_of hsc.2.2.2.2)) (by rw [f71, f10, g2.1 12 0 0 (by decide)]; rfl) n1 (by rw [eO, g2.1 0 _ 7 (by decide)]; exact n2)
        rw [eO, eV, eS] at w1
        have hWl : zWhy (zCl σ i) (zSn σ) (zbv σ (zOn σ (zdt σ i))) (zdt σ i) n ≤ n := fa_first_le _ n
        have hx3 : zEx [(8, 1), (8, 2), (6, 0), (6, 6)] σ σ3 := g2.tr (w2.mo (by decide))
        have j0 : zA σ3 6 0 0 = zA q2 6 0 0 := w2.2.2.2.1 6 0 0 (by decide)
        have j6 : zI σ3 6 0 6 = zI q2 6 0 6 := w2.1 6 0 6 (by decide)
        have j10 : zA σ3 6 1 0 = zA q2 6 1 0 := w2.2.2.2.1 6 1 0 (by decide)
        have j16 : zI σ3 6 1 6 = zI q2 6 1 6 := w2.1 6 1 6 (by decide)
        have hbo : f_X11_briefOf q2 i = some (zOn σ (zdt σ i)) := by
          rw [X11_briefOf hB2 f10 (by rw [f71, g2.2.2.2.1 12 0 5 (by decide)]), eO, eD]
        have hrun : f_X11_admitAllThatStand_L2 (nI i) q2 = if zWhy (zCl σ i) (zSn σ) (zbv σ (zOn σ (zdt σ i))) (zdt σ i) n = n then ((f_X6_admit σ3 0 (nI i)).bind fun σ13 => f_X11_admitAllThatStand_B56_2 σ13 (nI i)) else some (.inl (nI (i + 1), σ3)) := by
          refine hrun0.trans ?_
          unfold f_X7_isHandedIn
          rw [f71, if_neg hh, if_neg z10, hbo, Option.bind_some, w1, Option.bind_some]
          show (if zwyI _ n = -1 then _ else f_X11_admitAllThatStand_B56_2 σ3 (nI i)) = _
          by_cases hc : zWhy (zCl σ i) (zSn σ) (zbv σ (zOn σ (zdt σ i))) (zdt σ i) n = n
          · rw [if_pos ((zwy_m1 hWl n1).mpr hc), if_pos hc]
          · rw [if_neg (fun h => hc ((zwy_m1 hWl n1).mp h)), if_neg hc]
            unfold f_X11_admitAllThatStand_B56_2
            rw [nI_1]
        by_cases hc : zWhy (zCl σ i) (zSn σ) (zbv σ (zOn σ (zdt σ i))) (zdt σ i) n = n
        · have eg : zgood σ i = true := by
            unfold zgood
            rw [hns, decide_eq_true hh, decide_eq_true hc]
            rfl
          obtain ⟨σ4, a1, a2, a3, a4, a5⟩ := X6_admit (σ := σ3) (o := 0) (K := zset (zgood σ) i) (x := i) (by omega) (by rw [j0]; exact g3) (j6.trans g4)
          have a5' := a5 1 (by decide)
          refine ⟨(nI (i + 1), σ4), ?_, rfl, hx3.tr (a2.mo (by decide)), by rw [ez, if_pos eg]; exact a3, by rw [ez, if_pos eg]; exact a4, a5'.1.trans (j10.trans g5), a5'.2.trans (j16.trans g6)⟩
          refine hrun.trans ?_
          rw [if_pos hc, a1, Option.bind_some]
          unfold f_X11_admitAllThatStand_B56_2
          rw [nI_1]
        · have eg : zgood σ i = false := by
            unfold zgood
            rw [hns, decide_eq_false hc, Bool.and_false]
          refine ⟨(nI (i + 1), σ3), ?_, rfl, hx3, by rw [ez, eg, j0]; exact g3, by rw [ez, eg]; exact j6.trans g4, j10.trans g5, j16.trans g6⟩
          refine hrun.trans ?_
          rw [if_neg hc]
    · obtain ⟨q1, q2⟩ := q
      obtain ⟨g1, g2, g3, g4, g5, g6⟩ := hq
      simp only at g1 g2 g3 g4 g5 g6
      subst g1
      refine ⟨q2, ?_, g2, g3, g4, g5, g6⟩
      show f_X11_admitAllThatStand_L2 (nI k) q2 = _
      unfold f_X11_admitAllThatStand_L2
      rw [g2.1 11 0 12 (by decide), k2, if_pos (nI_le (Nat.le_refl _) (by omega))]
  obtain ⟨t, w, h⟩ := hz
  refine ⟨t, ?_, h⟩
  unfold f_X11_admitAllThatStand
  rw [w, Option.bind_some]
theorem X12_admitAll {σ σ0 : zM} {k : Nat} (hBri : iBri σ) (hSun : iSun σ) (hx : zEx [(8, 1), (8, 2), (6, 0), (6, 6), (11, 14)] σ σ0) (k1 : k ≤ 10) (k3 : zI σ 12 0 1 = nI k) (e49 : zI σ 12 0 49 = 0) (k4 : ∀ s, s < k → iSch1 σ s) : ∃ σ', zwh (fun (q : (Int32 × Int32 × zM)) => f_X12_open_L36 q.1 q.2.1 q.2.2) zFu (0, 0, σ0) = some (nI (zset (zgood σ) k), σ') ∧ zEx [(12, 7), (12, 8), (12, 9)] σ0 σ' := by
  have hz : ∃ t, zwh (fun (q : (Int32 × Int32 × zM)) => f_X12_open_L36 q.1 q.2.1 q.2.2) zFu (0, 0, σ0) = some t ∧ t.1 = nI (zset (zgood σ) k) ∧ zEx [(12, 7), (12, 8), (12, 9)] σ0 t.2 := by
    refine zwh_ex (fun (i : Nat) (q : Int32 × Int32 × zM) => q.1 = nI (zset (zgood σ) i) ∧ q.2.1 = nI i ∧ zEx [(12, 7), (12, 8), (12, 9)] σ0 q.2.2) _ k ⟨rfl, rfl, zEx.rf⟩ (fun i q hi hq => ?_) (fun q hq => ?_) (by omega)
    · obtain ⟨q1, q2, q3⟩ := q
      obtain ⟨g1, g2, g3⟩ := hq
      simp only at g1 g2 g3
      subst g1 g2
      have hsc := k4 i hi
      have hx3 : zEx [(8, 1), (8, 2), (6, 0), (6, 6), (11, 14), (12, 7), (12, 8), (12, 9)] σ q3 := (hx.mo (by decide)).tr (g3.mo (by decide))
      have eO := zOn_x hx3 (by decide)
      have eV := zbv_x hx3 (by decide)
      have eS := zSn_x hx3 (by decide)
      have eD := zdt_x hx3 (by decide)
      obtain ⟨n, n1, n2, -⟩ := zbinds hBri (zdt σ i)
      have hns : zns σ (zOn σ (zdt σ i)) = n := zns_n n2 n1
      have ez : zset (zgood σ) (i + 1) = if zgood σ i then zset (zgood σ) i ||| 2 ^ i else zset (zgood σ) i := rfl
      have f1 : zI q3 12 0 1 = nI k := by rw [hx3.1 12 0 1 (by decide)]; exact k3
      have f49 : zI q3 12 0 49 = 0 := by rw [hx3.1 12 0 49 (by decide)]; exact e49
      have f5 : zA q3 12 0 5 i = zA σ 12 0 5 i := by rw [hx3.2.2.2.1 12 0 5 (by decide)]
      have hrun0 : f_X12_open_L36 (nI (zset (zgood σ) i)) (nI i) q3 = if zA σ 12 0 5 i = -1 then some (.inl (nI (zset (zgood σ) i), nI (i + 1), q3)) else ((f_X12_whyOf q3 (nI i)).bind fun q15 => if q15.1 = (-1) then (f_X12_open_B76_36 q15.2 (nI (zset (zgood σ) i) ||| (1 <<< (nI i &&& 31))) (nI i)) else (f_X12_open_B76_36 q15.2 (nI (zset (zgood σ) i)) (nI i))) := by
        unfold f_X12_open_L36
        rw [f1, if_neg (by rw [nI_leI (by omega) (by omega)]; omega), f49, if_pos rfl, zix_n (show i < 10 by omega) (by omega), Option.bind_some, f5]
        unfold f_X12_open_B76_36
        rw [nI_1]
      refine Or.inl ?_
      by_cases hh : zA σ 12 0 5 i = -1
      · have eg : zgood σ i = false := by
          unfold zgood
          rw [decide_eq_false (fun h => h hh), Bool.false_and]
        refine ⟨(nI (zset (zgood σ) i), nI (i + 1), q3), ?_, by rw [ez, eg]; rfl, rfl, g3⟩
        refine hrun0.trans ?_
        rw [if_pos hh]
      · obtain ⟨σ4, w1, w2⟩ := X12_whyOf (t := zdt σ i) (iBri_fr hx3 (by decide) hBri) (iSun_fr hx3 (by decide) hSun) (zRC_x hx3 (by decide) (zRC_of hsc.2.2.2.2)) (show i < 10 by omega) (by rw [eD]) n1 (by rw [eO, hx3.1 0 _ 7 (by decide)]; exact n2)
        rw [eO, eV, eS] at w1
        have hWl : zWhy (zCl σ i) (zSn σ) (zbv σ (zOn σ (zdt σ i))) (zdt σ i) n ≤ n := fa_first_le _ n
        have hrun : f_X12_open_L36 (nI (zset (zgood σ) i)) (nI i) q3 = if zWhy (zCl σ i) (zSn σ) (zbv σ (zOn σ (zdt σ i))) (zdt σ i) n = n then some (.inl (nI (zset (zgood σ) i ||| 2 ^ i), nI (i + 1), σ4)) else some (.inl (nI (zset (zgood σ) i), nI (i + 1), σ4)) := by
          refine hrun0.trans ?_
          rw [if_neg hh, w1, Option.bind_some]
          show (if zwyI _ n = -1 then f_X12_open_B76_36 σ4 _ (nI i) else f_X12_open_B76_36 σ4 _ (nI i)) = _
          unfold f_X12_open_B76_36
          rw [z1shl i (by omega), fa_or, nI_1]
          by_cases hc : zWhy (zCl σ i) (zSn σ) (zbv σ (zOn σ (zdt σ i))) (zdt σ i) n = n
          · rw [if_pos ((zwy_m1 hWl n1).mpr hc), if_pos hc]
          · rw [if_neg (fun h => hc ((zwy_m1 hWl n1).mp h)), if_neg hc]
        by_cases hc : zWhy (zCl σ i) (zSn σ) (zbv σ (zOn σ (zdt σ i))) (zdt σ i) n = n
        · have eg : zgood σ i = true := by
            unfold zgood
            rw [hns, decide_eq_true hh, decide_eq_true hc]
            rfl
          refine ⟨(nI (zset (zgood σ) i ||| 2 ^ i), nI (i + 1), σ4), ?_, by rw [ez, if_pos eg], rfl, g3.tr w2⟩
          refine hrun.trans ?_
          rw [if_pos hc]
        · have eg : zgood σ i = false := by
            unfold zgood
            rw [hns, decide_eq_false hc, Bool.and_false]
          refine ⟨(nI (zset (zgood σ) i), nI (i + 1), σ4), ?_, by rw [ez, eg]; rfl, rfl, g3.tr w2⟩
          refine hrun.trans ?_
          rw [if_neg hc]
    · obtain ⟨q1, q2, q3⟩ := q
      obtain ⟨g1, g2, g3⟩ := hq
      simp only at g1 g2 g3
      subst g1 g2
      refine ⟨(nI (zset (zgood σ) k), q3), ?_, rfl, g3⟩
      show f_X12_open_L36 (nI (zset (zgood σ) k)) (nI k) q3 = _
      unfold f_X12_open_L36
      rw [g3.1 12 0 1 (by decide), hx.1 12 0 1 (by decide), k3, if_pos (nI_le (Nat.le_refl _) (by omega))]
  obtain ⟨⟨t1, t2⟩, w, h1, h2⟩ := hz
  simp only at h1 h2
  exact ⟨t2, by rw [w, h1], h2⟩
