/-! close: who is kept -/
theorem zah_t {P : Nat → Int32} {tie : Int32} {pl : Nat → Nat} {s e : Nat} (h : zah P tie pl s e = true) : (P e).toInt ≤ (P s).toInt := by
  unfold zah at h
  by_cases he : P s = P e
  · rw [he]
    exact Int.le_refl _
  · rw [if_neg he, decide_eq_true_eq, fa_lt] at h
    omega
theorem zah_f {P : Nat → Int32} {tie : Int32} {pl : Nat → Nat} {s e : Nat} (h : zah P tie pl s e = false) : (P s).toInt ≤ (P e).toInt := by
  unfold zah at h
  by_cases he : P s = P e
  · rw [he]
    exact Int.le_refl _
  · rw [if_neg he, decide_eq_false_iff_not, fa_lt] at h
    omega
theorem zrk_srt {P : Nat → Int32} {tie : Int32} {pl : Nat → Nat} {m : Nat} : ∀ s i j, i < j → j < (zrk (zah P tie pl) m s).2 → (P ((zrk (zah P tie pl) m s).1 j)).toInt ≤ (P ((zrk (zah P tie pl) m s).1 i)).toInt
  | 0, i, j, hij, hj => absurd hj (Nat.not_lt_zero j)
  | s + 1, i, j, hij, hj => by
    have ih := zrk_srt (P := P) (tie := tie) (pl := pl) (m := m) s
    by_cases hm : m.testBit s = true
    · rw [zrk_y hm] at hj ⊢
      generalize (zrk (zah P tie pl) m s).1 = f at ih hj ⊢
      generalize (zrk (zah P tie pl) m s).2 = c at ih hj ⊢
      have hk := zik_le (ah := zah P tie pl) (f := f) (s := s) c
      have hp := zik_p (ah := zah P tie pl) (f := f) (s := s) c
      generalize zik (zah P tie pl) f s c = k at hk hp hj ⊢
      have hj' : j < c + 1 := hj
      show (P (if j < k then f j else if j = k then s else f (j - 1))).toInt ≤ (P (if i < k then f i else if i = k then s else f (i - 1))).toInt
      by_cases h1 : j < k
      · rw [if_pos h1, if_pos (show i < k by omega)]
        exact ih i j hij (by omega)
      · rw [if_neg h1]
        by_cases h2 : j = k
        · rw [if_pos h2, if_pos (show i < k by omega)]
          have h3 := zah_f (hp.2 (by omega))
          by_cases h4 : i = k - 1
          · rw [h4]
            exact h3
          · exact Int.le_trans h3 (ih i (k - 1) (by omega) (by omega))
        · rw [if_neg h2]
          by_cases h3 : i < k
          · rw [if_pos h3]
            exact ih i (j - 1) (by omega) (by omega)
          · rw [if_neg h3]
            by_cases h4 : i = k
            · rw [if_pos h4]
              exact zah_t (hp.1 (j - 1) (by omega) (by omega))
            · rw [if_neg h4]
              exact ih (i - 1) (j - 1) (by omega) (by omega)
    · rw [zrk_n hm] at hj ⊢
      exact ih i j hij hj
def zkp (f : Nat → Nat) (g : Nat → Bool) : Nat → Nat
  | 0 => 0
  | i + 1 => if g i then zkp f g i ||| 2 ^ f i else zkp f g i
theorem zkp_b {f : Nat → Nat} {g : Nat → Bool} {s : Nat} : ∀ i, (zkp f g i).testBit s = true ↔ ∃ a, a < i ∧ g a = true ∧ f a = s
  | 0 => by
    constructor
    · intro h
      rw [show zkp f g 0 = 0 from rfl, Nat.zero_testBit] at h
      cases h
    · rintro ⟨a, h, -⟩
      exact absurd h (Nat.not_lt_zero a)
  | i + 1 => by
    have ih := zkp_b (f := f) (g := g) (s := s) i
    have e : zkp f g (i + 1) = if g i then zkp f g i ||| 2 ^ f i else zkp f g i := rfl
    rw [e]
    by_cases h : g i = true
    · rw [if_pos h, fb_bit_set, Bool.or_eq_true, ih, decide_eq_true_eq]
      constructor
      · rintro (⟨a, h1, h2, h3⟩ | h1)
        · exact ⟨a, by omega, h2, h3⟩
        · exact ⟨i, Nat.lt_succ_self i, h, h1.symm⟩
      · rintro ⟨a, h1, h2, h3⟩
        by_cases ha : a = i
        · rw [ha] at h3
          exact Or.inr h3.symm
        · exact Or.inl ⟨a, by omega, h2, h3⟩
    · rw [if_neg h, ih]
      constructor
      · rintro ⟨a, h1, h2, h3⟩
        exact ⟨a, by omega, h2, h3⟩
      · rintro ⟨a, h1, h2, h3⟩
        by_cases ha : a = i
        · rw [ha] at h2
          exact absurd h2 h
        · exact ⟨a, by omega, h2, h3⟩
theorem zkp_lt {f : Nat → Nat} {g : Nat → Bool} : ∀ i, (∀ a, a < i → f a < 10) → zkp f g i < 1024
  | 0, _ => by show 0 < 1024; decide
  | i + 1, hf => by
    have ih := zkp_lt (f := f) (g := g) i (fun a ha => hf a (by omega))
    have h2 : 2 ^ f i < 2 ^ 10 := Nat.pow_lt_pow_right (by decide) (hf i (by omega))
    have h3 : (2 : Nat) ^ 10 = 1024 := by decide
    show (if g i then zkp f g i ||| 2 ^ f i else zkp f g i) < 1024
    split
    · rw [← h3] at ih ⊢
      exact Nat.or_lt_two_pow ih h2
    · exact ih
/-- who is kept: not below the one that stands at w -/
def zkg (P : Nat → Int32) (f : Nat → Nat) (w : Nat) (i : Nat) : Bool := !decide (P (f i) < P (f w))
theorem X6_keepL {σ : zM} {P : Nat → Int32} {f : Nat → Nat} {c w : Nat} {x1 : Int32} (hc : c ≤ 10) (h6 : zI σ 6 0 6 = nI c) (hf : ∀ i, i < c → f i < 10 ∧ zA σ 6 0 5 i = nI (f i) ∧ zA σ 6 0 4 (f i) = P (f i)) (h10 : ∀ s, s < 10 → zA σ 6 1 0 s = 0) (h16 : zI σ 6 1 6 = 0) : ∃ σ', zwh (fun (q : (Int32 × zM)) => f_X6_keepBest_L51 0 x1 1 (P (f w)) q.1 q.2) zFu (0, σ) = some σ' ∧ zEx [(6, 0), (6, 6)] σ σ' ∧ zA σ' 6 0 0 = zA σ 6 0 0 ∧ zI σ' 6 0 6 = zI σ 6 0 6 ∧ (∀ s, s < 10 → zA σ' 6 1 0 s = if (zkp f (zkg P f w) c).testBit s then 1 else 0) ∧ zI σ' 6 1 6 = nI (zpc (zkp f (zkg P f w) c)) := by
  refine zwh_ex (fun (i : Nat) (q : Int32 × zM) => q.1 = nI i ∧ zEx [(6, 0), (6, 6)] σ q.2 ∧ zA q.2 6 0 0 = zA σ 6 0 0 ∧ zI q.2 6 0 6 = zI σ 6 0 6 ∧ (∀ s, s < 10 → zA q.2 6 1 0 s = if (zkp f (zkg P f w) i).testBit s then 1 else 0) ∧ zI q.2 6 1 6 = nI (zpc (zkp f (zkg P f w) i))) _ c ⟨rfl, zEx.rf, rfl, rfl, fun s hs => ?_, ?_⟩ (fun i q hi hq => ?_) (fun q hq => ?_) (by omega)
  · show zA σ 6 1 0 s = if (0 : Nat).testBit s then 1 else 0
    rw [h10 s hs, Nat.zero_testBit]
    rfl
  · show zI σ 6 1 6 = nI (zpc 0)
    rw [h16, zpc_0]
    rfl
  · obtain ⟨q1, q2⟩ := q
    obtain ⟨g1, g2, g3, g4, g5, g6⟩ := hq
    simp only at g1 g2 g3 g4 g5 g6
    subst g1
    obtain ⟨f1, f2, f3⟩ := hf i hi
    have e5 : zA q2 6 0 5 i = nI (f i) := by rw [g2.2.2.2.1 6 0 5 (by decide)]; exact f2
    have e4 : zA q2 6 0 4 (f i) = P (f i) := by rw [g2.2.2.2.1 6 0 4 (by decide)]; exact f3
    have hrun : f_X6_keepBest_L51 0 x1 1 (P (f w)) (nI i) q2 = if P (f i) < P (f w) then some (.inl (nI (i + 1), q2)) else ((f_X6_admit q2 1 (nI (f i))).bind fun σ11 => some (.inl (nI (i + 1), σ11))) := by
      unfold f_X6_keepBest_L51 f_X6_keepBest_B97_51 f_X6_scoreOf
      rw [g4, h6, if_neg (by rw [nI_leI (by omega) (by omega)]; omega), if_neg (by rw [zq10, nI_leI (by omega) (by omega)]; omega), zix_n (show i < 10 by omega) (by omega), Option.bind_some, e5, if_neg (zlt0 (by omega)), if_neg (by rw [zq10, nI_leI (by omega) (by omega)]; omega), zix_n f1 (by omega), Option.bind_some, Option.bind_some, e4, Option.bind_some, e5, nI_1]
    have ez : zkp f (zkg P f w) (i + 1) = if zkg P f w i then zkp f (zkg P f w) i ||| 2 ^ f i else zkp f (zkg P f w) i := rfl
    refine Or.inl ?_
    by_cases hl : P (f i) < P (f w)
    · have eg : zkg P f w i = false := by
        unfold zkg
        rw [decide_eq_true hl]
        rfl
      refine ⟨(nI (i + 1), q2), ?_, rfl, g2, g3, g4, by rw [ez, eg]; exact g5, by rw [ez, eg]; exact g6⟩
      refine hrun.trans ?_
      rw [if_pos hl]
    · have eg : zkg P f w i = true := by
        unfold zkg
        rw [decide_eq_false hl]
        rfl
      obtain ⟨σ4, a1, a2, a3, a4, a5⟩ := X6_admit (σ := q2) (o := 1) (K := zkp f (zkg P f w) i) (x := f i) f1 g5 g6
      have a5' := a5 0 (by decide)
      refine ⟨(nI (i + 1), σ4), ?_, rfl, g2.tr a2, a5'.1.trans g3, a5'.2.trans g4, by rw [ez, if_pos eg]; exact a3, by rw [ez, if_pos eg]; exact a4⟩
      refine hrun.trans ?_
      rw [if_neg hl, a1, Option.bind_some]
  · obtain ⟨q1, q2⟩ := q
    obtain ⟨g1, g2, g3, g4, g5, g6⟩ := hq
    simp only at g1 g2 g3 g4 g5 g6
    subst g1
    refine ⟨q2, ?_, g2, g3, g4, g5, g6⟩
    show f_X6_keepBest_L51 0 x1 1 (P (f w)) (nI c) q2 = _
    unfold f_X6_keepBest_L51
    rw [g4, h6, if_pos (nI_le (Nat.le_refl _) (by omega))]
theorem X12_keepL {σ : zM} {P : Nat → Int32} {f : Nat → Nat} {c w : Nat} (hc : c ≤ 10) (hw : w < c) (h64 : zI σ 12 0 64 = nI c) (h65 : zI σ 12 0 65 = 0) (hf : ∀ i, i < c → f i < 10 ∧ zA σ 12 0 63 i = nI (f i) ∧ zA σ 12 0 62 (f i) = P (f i)) (hs : ∀ i j, i < j → j < c → (P (f j)).toInt ≤ (P (f i)).toInt) : ∃ σ', zwh (fun (q : (Int32 × zM)) => f_X12_close_L157 (nI (w + 1)) q.1 q.2) zFu (0, σ) = some σ' ∧ zEx [(12, 65)] σ σ' ∧ zI σ' 12 0 65 = nI (zkp f (zkg P f w) c) := by
  refine zwh_ex (fun (i : Nat) (q : Int32 × zM) => q.1 = nI i ∧ zEx [(12, 65)] σ q.2 ∧ zI q.2 12 0 65 = nI (zkp f (zkg P f w) i)) _ c ⟨rfl, zEx.rf, h65⟩ (fun i q hi hq => ?_) (fun q hq => ?_) (by omega)
  · obtain ⟨q1, q2⟩ := q
    obtain ⟨g1, g2, g3⟩ := hq
    simp only at g1 g2 g3
    subst g1
    obtain ⟨f1, f2, f3⟩ := hf i hi
    obtain ⟨w1, w2, w3⟩ := hf w hw
    have ez : zkp f (zkg P f w) (i + 1) = if zkg P f w i then zkp f (zkg P f w) i ||| 2 ^ f i else zkp f (zkg P f w) i := rfl
    have e64 : zI q2 12 0 64 = nI c := (g2.1 12 0 64 (by decide)).trans h64
    have e63 : zA q2 12 0 63 = zA σ 12 0 63 := g2.2.2.2.1 12 0 63 (by decide)
    have e62 : zA q2 12 0 62 = zA σ 12 0 62 := g2.2.2.2.1 12 0 62 (by decide)
    have hB : f_X12_close_B200_157 q2 (nI (w + 1)) (nI i) = some (.inl (nI (i + 1), zsI q2 12 0 65 (nI (zkp f (zkg P f w) i ||| 2 ^ f i)))) := by
      unfold f_X12_close_B200_157 f_X12_close_B218_157
      rw [zix_n (show i < 10 by omega) (by omega), Option.bind_some, e63, f2, z1shl _ (by omega), g3, fa_or, nI_1, zlt_e]
    have hrun : f_X12_close_L157 (nI (w + 1)) (nI i) q2 = if zkg P f w i then some (.inl (nI (i + 1), zsI q2 12 0 65 (nI (zkp f (zkg P f w) i ||| 2 ^ f i)))) else some (.inl (nI (i + 1), q2)) := by
      unfold f_X12_close_L157
      rw [e64, if_neg (by rw [nI_leI (by omega) (by omega)]; omega)]
      by_cases hiw : i < w + 1
      · have eg : zkg P f w i = true := by
          unfold zkg
          rw [decide_eq_false]
          · rfl
          · rw [fa_lt]
            by_cases e : i = w
            · rw [e]; omega
            · have := hs i w (by omega) hw
              omega
        rw [if_pos (nI_lt hiw (by omega)), hB, if_pos eg]
      · rw [if_neg (by rw [nI_ltI (by omega) (by omega)]; exact hiw), zix_n (show i < 10 by omega) (by omega), Option.bind_some, e63, f2, zix_n f1 (by omega), Option.bind_some, nI_pred, zix_n (show w < 10 by omega) (by omega), Option.bind_some, w2, zix_n w1 (by omega), Option.bind_some, e62, f3, w3, hB]
        have hle := hs w i (by omega) hi
        by_cases he : P (f i) = P (f w)
        · have eg : zkg P f w i = true := by
            unfold zkg
            rw [decide_eq_false]
            · rfl
            · rw [fa_lt, he]; omega
          rw [if_pos he, if_pos eg]
        · have eg : zkg P f w i = false := by
            unfold zkg
            rw [decide_eq_true]
            · rfl
            · rw [fa_lt]
              have : (P (f i)).toInt ≠ (P (f w)).toInt := fun h => he (Int32.toInt_inj.mp h)
              omega
          rw [if_neg he, eg]
          unfold f_X12_close_B218_157
          rw [nI_1]
          rfl
    refine Or.inl ?_
    by_cases eg : zkg P f w i = true
    · refine ⟨(nI (i + 1), zsI q2 12 0 65 (nI (zkp f (zkg P f w) i ||| 2 ^ f i))), ?_, rfl, g2.tr (zEx_sI (by decide)), ?_⟩
      · refine hrun.trans ?_
        rw [if_pos eg]
      · rw [ez, if_pos eg]
        rfl
    · refine ⟨(nI (i + 1), q2), ?_, rfl, g2, by rw [ez, if_neg eg]; exact g3⟩
      refine hrun.trans ?_
      rw [if_neg eg]
  · obtain ⟨q1, q2⟩ := q
    obtain ⟨g1, g2, g3⟩ := hq
    simp only at g1 g2 g3
    subst g1
    refine ⟨q2, ?_, g2, g3⟩
    show f_X12_close_L157 (nI (w + 1)) (nI c) q2 = _
    unfold f_X12_close_L157
    rw [g2.1 12 0 64 (by decide), h64, if_pos (nI_le (Nat.le_refl _) (by omega))]
theorem X12_weigh {σ : zM} {r m J n : Nat} {L : Nat → Nat} {R : Nat → Nat → Nat} {y : Int32} (hk : zRef σ r m J n L R) (hau : ∀ s, s < n → ∃ a, a < 40 ∧ zA σ 12 0 4 s = nI a) (h59 : zA σ 12 0 59 r = 0) : ∃ σ', zwh (fun (q : (Int32 × zM)) => f_X12_close_L60 (nI r) y q.1 q.2) zFu (0, σ) = some σ' ∧ zEx [(12, 59)] σ σ' ∧ zA σ' 12 0 59 r = nI (zset (zNw σ m L R) J) ∧ ∀ r', r' ≠ r → zA σ' 12 0 59 r' = zA σ 12 0 59 r' := by
  have hJ := hk.2.2.1
  refine zwh_ex (fun (j : Nat) (q : Int32 × zM) => q.1 = nI j ∧ zEx [(12, 59)] σ q.2 ∧ zA q.2 12 0 59 r = nI (zset (zNw σ m L R) j) ∧ ∀ r', r' ≠ r → zA q.2 12 0 59 r' = zA σ 12 0 59 r') _ J ⟨rfl, zEx.rf, h59, fun _ _ => rfl⟩ (fun j q hj hq => ?_) (fun q hq => ?_) (by omega)
  · obtain ⟨q1, q2⟩ := q
    obtain ⟨g1, g2, g3, g4⟩ := hq
    simp only at g1 g2 g3 g4
    subst g1
    have hk2 := zRef_x g2 (by decide) hk
    have hN := X12_now (j := j) hk2 (fun s hs => by rw [g2.2.2.2.1 12 0 4 (by decide)]; exact hau s hs) (by omega)
    rw [zNw_x g2 (by decide)] at hN
    have ez : zset (zNw σ m L R) (j + 1) = if zNw σ m L R j then zset (zNw σ m L R) j ||| 2 ^ j else zset (zNw σ m L R) j := rfl
    refine Or.inl ⟨(nI (j + 1), zsA q2 12 0 59 r (nI (zset (zNw σ m L R) (j + 1)))), ?_, rfl, g2.tr (zEx_sA (by decide)), ?_, fun r' hr' => ?_⟩
    · show f_X12_close_L60 (nI r) y (nI j) q2 = _
      unfold f_X12_close_L60
      rw [hk2.2.2.2.2.1, if_neg (by rw [nI_leI (by omega) (by omega)]; omega), zix_n (show r < 2 from hk.1) (by omega), Option.bind_some, hN, Option.bind_some, Option.bind_some, zlt_e, g3, nI_1, ez]
      by_cases h : zNw σ m L R j = true
      · rw [if_pos h, if_pos h, if_neg z10, z1shl _ (by omega), fa_or]
      · rw [if_neg h, if_neg h, if_pos rfl, show (0 : Int32) = nI 0 from rfl, fa_or, Nat.or_zero]
    · show zu (zA q2 12 0 59) r _ r = _
      rw [zu_eq]
    · show zu (zA q2 12 0 59) r _ r' = _
      rw [zu_ne _ _ hr']
      exact g4 r' hr'
  · obtain ⟨q1, q2⟩ := q
    obtain ⟨g1, g2, g3, g4⟩ := hq
    simp only at g1 g2 g3 g4
    subst g1
    refine ⟨q2, ?_, g2, g3, g4⟩
    show f_X12_close_L60 (nI r) y (nI J) q2 = _
    unfold f_X12_close_L60
    rw [g2.1 12 0 48 (by decide), hk.2.2.2.2.1, if_pos (nI_le (Nat.le_refl _) (by omega))]
