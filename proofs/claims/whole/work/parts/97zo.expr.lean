/-! expressions: the loop over a chain -/
theorem zTs_mono {T : Nat → Nat} {n i : Nat} : ∀ {j : Nat}, i ≤ j → zTs T n i ≤ zTs T n j
  | 0, h => by rw [show i = 0 by omega]; exact Nat.le_refl _
  | j + 1, h => by
    by_cases e : i = j + 1
    · rw [e]; exact Nat.le_refl _
    · refine Nat.le_trans (zTs_mono (j := j) (by omega)) ?_
      by_cases hl : zTs T n j < n
      · have hE := zTe_b (T := T) hl
        have hS := (zTs_s hl).2
        omega
      · have e2 : zTs T n (j + 1) = n := if_neg hl
        rw [e2]
        exact (zTs_fix j).1
theorem zTs_rev {T : Nat → Nat} {n i j : Nat} (h : zTs T n i < zTs T n j) : i < j := by
  rcases Nat.lt_or_ge i j with h1 | h1
  · exact h1
  · have := zTs_mono (T := T) (n := n) h1
    omega
theorem zJ_chain {T : Nat → Nat} {n N : Nat} {W : Nat → List Nat} {k0 pd t o C d D L e δ ty w p c0 i0 : Nat} {op kd : Int32} {rc : Nat → zM → Int32 → Option (Int32 × zM)} {rr : Nat → zM → Option (Int32 × zM)} {Lc : Int32 × Int32 × zM → Option ((Int32 × Int32 × zM) ⊕ (Int32 × zM))} {Lr : Int32 × zM → Option ((Int32 × zM) ⊕ (zM ⊕ zM))} {f : Bool → Bool → Bool} {comb : List (Nat × ((Nat → Int32) → Bool)) → (Nat → Int32) → Bool}
    (hLc : ∀ y2 y3 σ, Lc (y2, y3, σ) = zStC rc ty w op (nI d) y2 y3 σ) (hLr : ∀ y2 σ, Lr (y2, σ) = zStR rr ty w (nI p) y2 σ)
    (hop : ∀ l1 l2 V1 V2, zCo l1 V1 (D + 1) → zCo l2 V2 D → zCo (l1 ++ l2 ++ [op]) (fun m => f (V1 m) (V2 m)) (D + 1))
    (hcb : ∀ cs q, (fun m => f (comb cs m) (q.2 m)) = comb (cs ++ [q]))
    (hw : w < 36) (hwl : 2 ≤ (zLq w).length) (ho : o < 7) (hC : C ≤ 4455) (hd : d ≤ 10) (hδ : 1 ≤ δ ∧ δ ≤ 2) (he : 1 ≤ e)
    (ih : zIH T n N W k0 pd t o C (fun σ => rc ty σ (nI d)) (fun σ => rr ty σ) d D L e δ)
    (h0 : 3 * c0 + 5 ≤ zTs T n i0) (hp : p ≤ C + zTs T n i0 + d + (δ - 1)) :
    ∀ g σ σ' i c m j l cs, N ≤ i + g → 1 ≤ j → j ≤ i → cs.length = j → zXp σ σ' T n N i W k0 pd t o c m d → zChd σ' m L p l kd cs → c0 ≤ c → zCo (zseg (zA σ 0 o 4) c0 c) (comb cs) (D + 1) → 3 * c + 3 + zTs T n i0 ≤ 3 * c0 + zTs T n i → m + (e - 1) + zTs T n i0 ≤ p + zTs T n i → ∀ kc kr, g + 3 ≤ kc → g + 3 ≤ kr →
    (∃ σ1 σ1' i' c' m' l' cs', zwh Lc kc (1, nI (j - 1), σ) = some (1, σ1) ∧ zwc Lr kr (zStB w σ' (nI l)) = some (.inr σ1') ∧ zEx zFxC σ σ1 ∧ zEx zFxR σ' σ1' ∧ zXo σ σ1 o ∧ zXp σ1 σ1' T n N i' W k0 pd t o c' m' d ∧ zTs T n i ≤ zTs T n i' ∧ c ≤ c' ∧ (∀ x, x < c → zA σ1 0 o 4 x = zA σ 0 o 4 x) ∧ zBel (znd σ') (znd σ1') p ∧ m ≤ m' ∧ cs'.length ≤ 900 ∧ zChd σ1' m' L p l' kd cs' ∧ zCo (zseg (zA σ1 0 o 4) c0 c') (comb cs') (D + 1) ∧ 3 * c' + 3 + zTs T n i0 ≤ 3 * c0 + zTs T n i' ∧ m' + (e - 1) + zTs T n i0 ≤ p + zTs T n i') ∨
    (∃ σ1 σ1' i', zwh Lc kc (1, nI (j - 1), σ) = some (0, σ1) ∧ zwc Lr kr (zStB w σ' (nI l)) = some (.inl σ1') ∧ zXf σ σ' σ1 σ1' T n N W k0 pd t o p i') := by
  intro g
  induction g with
  | zero =>
    intro σ σ' i c m j l cs hg hj1 hj2 hcl hX hCh hc0 hco hb1 hb2 kc kr hkc hkr
    obtain ⟨hP, hP', hR, h8, h18, h22⟩ := id hX
    have hN9 := hP.1.1.1
    have hiN := hP.1.2.1
    obtain ⟨kc', rfl⟩ : ∃ x, kc = x + 1 := ⟨kc - 1, by omega⟩
    obtain ⟨σb, w1, w2⟩ := zJ_w hw hP hP'
    rcases w2 with ⟨g1, g2, -⟩ | ⟨g1, g3, g4, g5, g6⟩
    · omega
    · left
      have x1 : zEx [(4, 8)] σ (zsI σ 4 0 8 (nI i)) := zEx_sI (by decide)
      refine ⟨zsI σ 4 0 8 (nI i), σb, i, c, m, l, cs, ?_, ?_, x1.mo (by decide), w1.mo (by decide), zXo_x x1 (by decide) (by decide), ⟨g5, zPX_R g6, hR, h8, (w1.1 12 0 18 (by decide)).trans h18, (w1.1 12 0 22 (by decide)).trans h22⟩, Nat.le_refl _, Nat.le_refl _, fun _ _ => rfl, zbel_x w1 (by decide), Nat.le_refl _, by omega, zChd_b hCh (zbel_x w1 (by decide)), hco, hb1, hb2⟩
      · refine zwh_inr ?_
        rw [hLc]
        unfold zStC
        rw [show (900 : Int32) = nI 900 from rfl, if_neg (by rw [nI_leI (by omega) (by omega)]; omega), if_neg z10, g3, Option.bind_some]
        rfl
      · unfold zStB
        rw [g4, Option.bind_some]
        rfl
  | succ g ihg =>
    intro σ σ' i c m j l cs hg hj1 hj2 hcl hX hCh hc0 hco hb1 hb2 kc kr hkc hkr
    obtain ⟨hP, hP', hR, h8, h18, h22⟩ := id hX
    have hN9 := hP.1.1.1
    have hiN := hP.1.2.1
    have hn9 := hP'.1.1.1
    have hSn := fun x => (zTs_fix (T := T) (n := n) x).1
    obtain ⟨kc', rfl⟩ : ∃ x, kc = x + 1 := ⟨kc - 1, by omega⟩
    obtain ⟨σb, w1, w2⟩ := zJ_w hw hP hP'
    rcases w2 with ⟨g1, g2, g3, g4, g5, g6, g7⟩ | ⟨g1, g3, g4, g5, g6⟩
    · -- one more
      obtain ⟨σw, hσw⟩ : ∃ x, x = zsI σ 4 0 8 (nI (i + 1)) := ⟨_, rfl⟩
      rw [← hσw] at g3 g5
      have xw : zEx [(4, 8)] σ σw := by rw [hσw]; exact zEx_sI (by decide)
      have ow := zXo_x (o := o) xw (by decide) (by decide)
      have bw : ∀ M, zBel (znd σ') (znd σb) M := fun M => zbel_x w1 (by decide)
      have Xw : zXp σw σb T n N (i + 1) W k0 pd t o c m d := ⟨g5, g6, by rw [xw.2.2.1 4 0 7 (by decide)]; exact hR, by rw [xw.1 0 o 8 (by decide)]; exact h8, (w1.1 12 0 18 (by decide)).trans h18, (w1.1 12 0 22 (by decide)).trans h22⟩
      have hcls : ∀ k, zwh Lc (k + 1) (1, nI (j - 1), σ) = zwc Lc k ((rc ty σw (nI d)).bind fun q8 => if q8.1 = 0 then (some (.inl (0, (nI (j - 1) + 1), q8.2))) else (znu (zR q8.2 4 0 7) none (fun j11 => (f_X0_emit q8.2 j11 op).bind fun q13 => some (.inl ((if q13.1 = 0 then 0 else 1 : Int32), (nI (j - 1) + 1), q13.2))))) := fun k => by
        rw [zwc_s, hLc]
        unfold zStC
        rw [show (900 : Int32) = nI 900 from rfl, if_neg (by rw [nI_leI (by omega) (by omega)]; omega), if_neg z10, g3, Option.bind_some]
        rfl
      obtain ⟨kr', rfl⟩ : ∃ x, kr = x + 1 := ⟨kr - 1, by omega⟩
      have hrf : zwc Lr (kr' + 1) (zStB w σ' (nI l)) = zwc Lr kr' (zStR rr ty w (nI p) (nI l) σb) := by
        unfold zStB
        rw [g4, Option.bind_some]
        show zwh Lr (kr' + 1) (nI l, σb) = _
        rw [zwc_s, hLr]
      have hlb := zChd_l hCh
      rw [hcls, hrf]
      rcases ih σw σb (i + 1) c m (by omega) (by omega) Xw with ⟨σ2, σ2', i2, c2, m2, node, U, a1, a2, b1, b2, b3, b4, b5, b6, b7, b8, b9, b10, b11, b12, b13, b14⟩ | ⟨σ2, σ2', i2, a1, a2, b1, b2, b3, b4, b5, b6⟩
      · have a1' : rc ty σw (nI d) = some (1, σ2) := a1
        have a2' : rr ty σb = some (nI node, σ2') := a2
        have hi2 : i + 1 < i2 := zTs_rev (T := T) (n := n) (by omega)
        have hnb := zNx_b b13
        have hS2 := hSn i2
        have hc2 : c2 < 300 := by omega
        obtain ⟨σ3, hσ3⟩ : ∃ x, x = zsI (zsA σ2 0 o 4 c2 op) 0 o 8 (nI (c2 + 1)) := ⟨_, rfl⟩
        have x3 : zEx [(0, 4), (0, 8)] σ2 σ3 := by rw [hσ3]; exact (zEx_sA (by decide)).tr (zEx_sI (by decide))
        have o3 : zXo σ2 σ3 o := fun o' ho' => ⟨by
          rw [hσ3]
          show zA (zsA σ2 0 o 4 c2 op) 0 o' 4 = _
          rw [zA_sA, if_neg (fun e => ho' e.2.1)], by
          rw [hσ3, zI_sI, if_neg (fun e => ho' e.2.1)]
          rfl⟩
        have c3 : ∀ x, x < c2 → zA σ3 0 o 4 x = zA σ2 0 o 4 x := fun x hx => by
          rw [hσ3]
          show zA (zsA σ2 0 o 4 c2 op) 0 o 4 x = _
          rw [zA_sA, if_pos ⟨rfl, rfl, rfl⟩, zu_ne _ _ (by omega)]
        have c3' : zA σ3 0 o 4 c2 = op := by
          rw [hσ3]
          show zA (zsA σ2 0 o 4 c2 op) 0 o 4 c2 = _
          rw [zA_sA, if_pos ⟨rfl, rfl, rfl⟩, zu_eq]
        obtain ⟨σ3', hσ3'⟩ : ∃ x, x = zsA σ2' 12 0 33 l (nI node) := ⟨_, rfl⟩
        have x3' : zEx [(12, 33)] σ2' σ3' := by rw [hσ3']; exact zEx_sA (by decide)
        obtain ⟨ch3, bl3⟩ := zChd_app (zChd_b (zChd_b hCh (bw m)) b8) b13 b14
        rw [← hσ3'] at ch3 bl3
        obtain ⟨p2, p2', R2, h82, h182, h222⟩ := b4
        have X3 : zXp σ3 σ3' T n N i2 W k0 pd t o (c2 + 1) m2 d := ⟨zPC_x p2 x3 (by decide), zPR_x p2' x3' (by decide), by rw [x3.2.2.1 4 0 7 (by decide)]; exact R2, by rw [hσ3, zI_sI, if_pos ⟨rfl, rfl, rfl⟩], (x3'.1 12 0 18 (by decide)).trans h182, (x3'.1 12 0 22 (by decide)).trans h222⟩
        have co3 : zCo (zseg (zA σ3 0 o 4) c0 (c2 + 1)) (comb (cs ++ [(node, U)])) (D + 1) := by
          have e1 : zseg (zA σ3 0 o 4) c0 (c2 + 1) = zseg (zA σ 0 o 4) c0 c ++ zseg (zA σ2 0 o 4) c c2 ++ [op] := by
            rw [zseg_a (show c0 ≤ c2 by omega) (show c2 ≤ c2 + 1 by omega), zseg_1, c3', zseg_c (fun x _ hx => c3 x hx), zseg_a hc0 b6, zseg_c (code' := zA σ2 0 o 4) (code := zA σ 0 o 4) (fun x _ hx => by rw [b7 x hx, xw.2.2.2.1 0 o 4 (by decide)])]
          rw [e1, ← hcb]
          exact hop _ _ _ _ hco b12
        have hcs : (cs ++ [(node, U)]).length = j + 1 := by rw [List.length_append, hcl]; rfl
        have hstep : ∀ k, zwc Lc k ((rc ty σw (nI d)).bind fun q8 => if q8.1 = 0 then (some (.inl (0, (nI (j - 1) + 1), q8.2))) else (znu (zR q8.2 4 0 7) none (fun j11 => (f_X0_emit q8.2 j11 op).bind fun q13 => some (.inl ((if q13.1 = 0 then 0 else 1 : Int32), (nI (j - 1) + 1), q13.2))))) = zwh Lc k (1, nI (j + 1 - 1), σ3) := fun k => by
          rw [a1', Option.bind_some]
          show zwc Lc k (if (1 : Int32) = 0 then _ else (znu (zR σ2 4 0 7) none (fun j11 => (f_X0_emit σ2 j11 op).bind fun q13 => some (.inl ((if q13.1 = 0 then 0 else 1 : Int32), (nI (j - 1) + 1), q13.2))))) = _
          rw [if_neg z10, R2]
          show zwc Lc k ((f_X0_emit σ2 o op).bind fun q13 => some (.inl ((if q13.1 = 0 then 0 else 1 : Int32), (nI (j - 1) + 1), q13.2))) = _
          rw [X0_emit ho h82 hc2, Option.bind_some, ← hσ3, nI_1, show j - 1 + 1 = j + 1 - 1 by omega]
          rfl
        have hstepr : ∀ k, zwc Lr k (zStR rr ty w (nI p) (nI l) σb) = zwc Lr k (zStB w σ3' (nI node)) := fun k => by
          unfold zStR
          rw [a2', Option.bind_some]
          show zwc Lr k (if nI node = -1 then _ else (if nI l = (-1) then _ else ((zix (nI l) 5400).bind fun i7 => zlt (zsA σ2' 12 0 33 i7 (nI node)) fun σ8 => zStB w σ8 (nI node)))) = _
          rw [if_neg (znI_m1 (by omega)), if_neg (znI_m1 (by omega)), zix_n (show l < 5400 by omega) (by omega), Option.bind_some, zlt_e, ← hσ3']
        rw [hstep, hstepr]
        have bel0 : zBel (znd σ') (znd σ3') p := ((bw p).tr (fun x hx => b8 x (by omega)) (Nat.le_refl _)).tr (fun x hx => bl3 x (by omega)) (Nat.le_refl _)
        have xc03 : zEx zFxC σ σ3 := (xw.mo (by decide)).tr (b1.tr (x3.mo (by decide)))
        have xr03 : zEx zFxR σ' σ3' := (w1.mo (by decide)).tr (b2.tr (x3'.mo (by decide)))
        rcases ihg σ3 σ3' i2 (c2 + 1) m2 (j + 1) node (cs ++ [(node, U)]) (by omega) (by omega) (by omega) hcs X3 ch3 (by omega) co3 (by omega) (by omega) kc' kr' (by omega) (by omega) with ⟨σ4, σ4', i4, c4, m4, l4, cs4, d1, d2, d3, d4, d5, d6, d7, d8, d9, d10, d11, d12, d13, d14, d15, d16⟩ | ⟨σ4, σ4', i4, d1, d2, d3, d4, d5, d6, d7, d8⟩
        · exact Or.inl ⟨σ4, σ4', i4, c4, m4, l4, cs4, d1, d2, xc03.tr d3, xr03.tr d4, (ow.tr (b3.tr o3)).tr d5, d6, by have := zTs_mono (T := T) (n := n) (show i ≤ i + 1 by omega); omega, by omega, fun x hx => by rw [d9 x (by omega), c3 x (by omega), b7 x hx, xw.2.2.2.1 0 o 4 (by decide)], bel0.tr d10 (Nat.le_refl _), by omega, d12, d13, d14, d15, d16⟩
        · exact Or.inr ⟨σ4, σ4', i4, d1, d2, xc03.tr d3, xr03.tr d4, (ow.tr (b3.tr o3)).tr d5, d6, d7, bel0.tr d8 (Nat.le_refl _)⟩
      · right
        have a1' : rc ty σw (nI d) = some (0, σ2) := a1
        have a2' : rr ty σb = some (-1, σ2') := a2
        obtain ⟨kc'', rfl⟩ : ∃ x, kc' = x + 1 := ⟨kc' - 1, by omega⟩
        refine ⟨σ2, σ2', i2, ?_, ?_, (xw.mo (by decide)).tr b1, (w1.mo (by decide)).tr b2, ow.tr b3, b4, b5, (bw p).tr (fun x hx => b6 x (by omega)) (Nat.le_refl _)⟩
        · rw [a1', Option.bind_some]
          show zwh Lc (kc'' + 1) (0, nI (j - 1) + 1, σ2) = _
          refine zwh_inr ?_
          rw [hLc]
          unfold zStC
          by_cases h : 900 ≤ nI (j - 1) + 1
          · rw [if_pos h]
          · rw [if_neg h, if_pos rfl]
        · unfold zStR
          rw [a2', Option.bind_some]
          rfl
    · left
      have x1 : zEx [(4, 8)] σ (zsI σ 4 0 8 (nI i)) := zEx_sI (by decide)
      refine ⟨zsI σ 4 0 8 (nI i), σb, i, c, m, l, cs, ?_, ?_, x1.mo (by decide), w1.mo (by decide), zXo_x x1 (by decide) (by decide), ⟨g5, zPX_R g6, hR, h8, (w1.1 12 0 18 (by decide)).trans h18, (w1.1 12 0 22 (by decide)).trans h22⟩, Nat.le_refl _, Nat.le_refl _, fun _ _ => rfl, zbel_x w1 (by decide), Nat.le_refl _, by omega, zChd_b hCh (zbel_x w1 (by decide)), hco, hb1, hb2⟩
      · refine zwh_inr ?_
        rw [hLc]
        unfold zStC
        rw [show (900 : Int32) = nI 900 from rfl, if_neg (by rw [nI_leI (by omega) (by omega)]; omega), if_neg z10, g3, Option.bind_some]
        rfl
      · unfold zStB
        rw [g4, Option.bind_some]
        rfl
