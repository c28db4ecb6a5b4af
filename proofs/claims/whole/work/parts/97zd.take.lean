/-! a brief's text: signs and numbers -/
/-- the sign b at the i-th token -/
def zIsS (T : Nat → Nat) (n N i b : Nat) : Bool := decide (i < N) && decide (T (zTs T n i) = b)
theorem zsg_n {T : Nat → Nat} {a b : Nat} (hb : zksg b = true) (h : T a = b) : zcL T a = false ∧ zcD T a = false ∧ zksg (T a) = true := by
  have hb' : b = 59 ∨ b = 40 ∨ b = 41 ∨ b = 60 ∨ b = 62 ∨ b = 61 := by
    unfold zksg at hb
    simp only [Bool.or_eq_true, decide_eq_true_eq] at hb
    omega
  refine ⟨?_, ?_, by rw [h]; exact hb⟩
  · unfold zcL
    rw [h]
    rcases hb' with rfl | rfl | rfl | rfl | rfl | rfl <;> rfl
  · unfold zcD
    rw [h]
    rcases hb' with rfl | rfl | rfl | rfl | rfl | rfl <;> rfl
theorem X4_sg {σ : zM} {T : Nat → Nat} {n N i b : Nat} (hb : zksg b = true) (hb2 : b < 128) (hT : ∀ j, j < n → T j < 256) (h : zCP σ T n N i) : (zA σ 4 0 3 i = 4 ∧ zL σ 4 0 5 i = (nI b).toInt64) ↔ zIsS T n N i b = true := by
  obtain ⟨⟨h9, hN, hl, h4, h5, h6⟩, h2, h3⟩ := h
  by_cases hi : i < N
  · obtain ⟨e1, e2⟩ := h5 i hi
    rw [e1, e2]
    unfold zIsS
    rw [decide_eq_true hi, Bool.true_and, decide_eq_true_eq]
    have hTb := hT _ (hl i hi)
    constructor
    · rintro ⟨k1, k2⟩
      unfold zTkd at k1
      unfold zTkv at k2
      by_cases hL : zcL T (zTs T n i) = true
      · rw [if_pos hL] at k1
        split at k1
        · split at k1
          · exact absurd k1 (by decide)
          · exact absurd k1 (by decide)
        · exact absurd k1 (by decide)
      · by_cases hD : zcD T (zTs T n i) = true
        · rw [if_neg hL, if_pos hD] at k1
          split at k1
          · exact absurd k1 (by decide)
          · exact absurd k1 (by decide)
        · rw [if_neg hL, if_neg hD, nI_l (by omega), pk_lEQ (by omega) (by omega)] at k2
          exact k2
    · intro e
      obtain ⟨n1, n2, n3⟩ := zsg_n hb e
      unfold zTkd zTkv
      rw [n1, n2, n3, e, nI_l (by omega)]
      exact ⟨rfl, rfl⟩
  · have : i = N := by omega
    subst this
    rw [h6]
    unfold zIsS
    rw [decide_eq_false (Nat.lt_irrefl i), Bool.false_and]
    exact ⟨fun h => absurd h.1 (by decide), fun h => by cases h⟩
theorem X4_sign {σ : zM} {T : Nat → Nat} {n N i b : Nat} (hb : zksg b = true) (hb2 : b < 128) (hT : ∀ j, j < n → T j < 256) (h : zCP σ T n N i) : f_X4_takeSign σ (nI b) = some (if zIsS T n N i b then 1 else 0, zsI σ 4 0 8 (nI (if zIsS T n N i b then i + 1 else i))) := by
  unfold f_X4_takeSign
  rw [X4_tok h, Option.bind_some, h.2.2]
  by_cases e : zIsS T n N i b = true
  · rw [if_pos ((X4_sg hb hb2 hT h).mpr e), if_neg z10, e, nI_1, zlt_e]
    rfl
  · have e' : zIsS T n N i b = false := by
      cases e2 : zIsS T n N i b
      · rfl
      · exact absurd e2 e
    rw [if_neg (fun h2 => e ((X4_sg hb hb2 hT h).mp h2)), if_pos rfl, e', zlt_e]
    rw [show nI i + 0 = nI i from by rw [show (0 : Int32) = nI 0 from rfl, nI_add, Nat.add_zero]]
    rfl
theorem X4_isSign {σ : zM} {T : Nat → Nat} {n N i b : Nat} (hb : zksg b = true) (hb2 : b < 128) (hT : ∀ j, j < n → T j < 256) (h : zCP σ T n N i) : f_X4_isSign σ (nI b) = some (if zIsS T n N i b then 1 else 0) := by
  unfold f_X4_isSign
  rw [X4_tok h, Option.bind_some]
  by_cases e : zIsS T n N i b = true
  · rw [if_pos ((X4_sg hb hb2 hT h).mpr e), e, if_pos rfl]
  · rw [if_neg (fun h2 => e ((X4_sg hb hb2 hT h).mp h2)), if_neg e]
theorem zTr_T {σ : zM} {T : Nat → Nat} {n : Nat} (h : zTr σ T n) : ∀ j, j < n → T j < 256 := fun j hj => (h.2.2 j hj).1
theorem zIsS_l {T : Nat → Nat} {n N i b : Nat} (hb : zksg b = true) (hN : zTs T n N = n ∧ ∀ i, i < N → zTs T n i < n) (h : zIsS T n N i b = true) : i < N ∧ T (zTs T n i) = b ∧ zTe T n (zTs T n i) = zTs T n i + 1 := by
  unfold zIsS at h
  rw [Bool.and_eq_true, decide_eq_true_eq, decide_eq_true_eq] at h
  obtain ⟨n1, n2, n3⟩ := zsg_n hb h.2
  refine ⟨h.1, h.2, ?_⟩
  unfold zTe
  rw [n1, n2]
  rfl
theorem X12_sg {σ : zM} {T : Nat → Nat} {n N i b : Nat} (hb : zksg b = true) (hb2 : b < 128) (hN : zTs T n N = n ∧ ∀ i, i < N → zTs T n i < n) (hi : i ≤ N) (h : zRP σ T n i) : ∃ σ', f_X12_takesSign σ (nI b) = some (if zIsS T n N i b then 1 else 0, σ') ∧ zEx [(12, 21)] σ σ' ∧ (zIsS T n N i b = true → zRP σ' T n (i + 1)) ∧ (zIsS T n N i b = false → zRN σ' T n i) := by
  obtain ⟨hr, p, hp, hpa, hat⟩ := h
  obtain ⟨σ1, w1, w2, w3⟩ := X12_blanks hr hp hat
  rw [hpa] at w3
  have hr1 := zTr_fr hr w2 (by decide) (by decide)
  have h900 := hr.1
  have ha := (zTs_fix (T := T) (n := n) i).1
  unfold f_X12_takesSign
  rw [w1, Option.bind_some, w3, hr1.2.1]
  by_cases hin : zTs T n i = n
  · have e' : zIsS T n N i b = false := by
      unfold zIsS
      rw [decide_eq_false (show ¬ i < N from fun h => by have := hN.2 i h; omega), Bool.false_and]
    rw [if_pos (by rw [hin]), e']
    exact ⟨σ1, rfl, w2, fun h => (by cases h), fun _ => ⟨hr1, w3⟩⟩
  · have hlt : zTs T n i < n := by omega
    have hiN : i < N := by
      rcases Nat.lt_or_ge i N with h | h
      · exact h
      · have : i = N := by omega
        rw [this, hN.1] at hlt
        omega
    rw [if_neg (by rw [nI_eq (by omega) (by omega)]; exact hin), zix_n (show zTs T n i < 900 by omega) (by omega), Option.bind_some]
    by_cases e : zIsS T n N i b = true
    · obtain ⟨h1, h2, h3⟩ := zIsS_l hb hN e
      have hE := zTe_b (T := T) hlt
      have hS := zTs_s hlt
      rw [if_pos ((zch_R hr1 hlt hb2).mpr h2), e, nI_1, zlt_e]
      refine ⟨_, rfl, w2.tr (zEx_sI (by decide)), fun _ => ⟨zTr_fr hr (w2.tr (zEx_sI (by decide))) (by decide) (by decide), zTe T n (zTs T n i), hE.2, hS.1.symm, ?_⟩, fun h => (by cases h)⟩
      rw [h3]
      rfl
    · have e' : zIsS T n N i b = false := by
        cases e2 : zIsS T n N i b
        · rfl
        · exact absurd e2 e
      rw [if_neg, e']
      · exact ⟨σ1, rfl, w2, fun h => (by cases h), fun _ => ⟨hr1, w3⟩⟩
      · intro h2
        rw [zch_R hr1 hlt hb2] at h2
        apply e
        unfold zIsS
        rw [decide_eq_true hiN, decide_eq_true h2]
        rfl
/-- the number at the i-th token, if it's one within lo and hi -/
def zIsN (T : Nat → Nat) (n N i lo hi : Nat) : Bool := decide (i < N) && zcD T (zTs T n i) && decide (zTe T n (zTs T n i) - zTs T n i ≤ 6) && decide (lo ≤ zDv T (zTs T n i) (zTe T n (zTs T n i) - zTs T n i)) && decide (zDv T (zTs T n i) (zTe T n (zTs T n i) - zTs T n i) ≤ hi)
def zNv (T : Nat → Nat) (n i : Nat) : Nat := zDv T (zTs T n i) (zTe T n (zTs T n i) - zTs T n i)
theorem zNv_lt {T : Nat → Nat} {n i : Nat} (h : zTs T n i < n) (hd : zcD T (zTs T n i) = true) (hl : zcL T (zTs T n i) = false) (h6 : zTe T n (zTs T n i) - zTs T n i ≤ 6) : zNv T n i < 1000000 := by
  have hP := zfar_p (c := zcD T) (show zTs T n i ≤ n by omega)
  have ee : zTe T n (zTs T n i) = zfar (zcD T) n (zTs T n i) := by
    unfold zTe
    rw [hl, hd]
    rfl
  rw [← ee] at hP
  have h1 := zDv_lt (T := T) (a := zTs T n i) (L := zTe T n (zTs T n i) - zTs T n i) (fun j hj => hP.2.2.1 _ (by omega) (by omega))
  have h2 : 10 ^ (zTe T n (zTs T n i) - zTs T n i) ≤ 10 ^ 6 := Nat.pow_le_pow_right (by decide) h6
  have h3 : (10 : Nat) ^ 6 = 1000000 := by decide
  unfold zNv
  omega
theorem zcD_L {T : Nat → Nat} {a : Nat} (h : zcD T a = true) : zcL T a = false := by
  cases e : zcL T a
  · rfl
  · rw [zcL_D e] at h
    cases h
theorem X4_num {σ : zM} {T : Nat → Nat} {n N i lo hi : Nat} (hhi : hi < 1000000) (hlo : lo < 1000000) (h : zCP σ T n N i) : f_X4_takeNumber σ (nI lo) (nI hi) = some (if zIsN T n N i lo hi then (1, zsI (zsI σ 4 0 9 (nI (zNv T n i))) 4 0 8 (nI (i + 1))) else (0, σ)) := by
  obtain ⟨⟨h9, hN, hl, h4, h5, h6⟩, h2, h3⟩ := h
  have hk : f_X4_isKind σ 3 = some (if zA σ 4 0 3 i = 3 then 1 else 0) := by
    unfold f_X4_isKind
    rw [h3, if_neg (zlt0 (by omega)), zq901, if_neg (by rw [nI_leI (by omega) (by omega)]; omega), zix_n (show i < 901 by omega) (by omega), Option.bind_some]
    split <;> rfl
  have hv : f_X4_value σ = some (zL σ 4 0 5 i) := by
    unfold f_X4_value
    rw [h3, if_neg (zlt0 (by omega)), zq901, if_neg (by rw [nI_leI (by omega) (by omega)]; omega), zix_n (show i < 901 by omega) (by omega), Option.bind_some]
  unfold f_X4_takeNumber
  rw [hk, Option.bind_some]
  by_cases hnum : i < N ∧ zcD T (zTs T n i) = true ∧ zTe T n (zTs T n i) - zTs T n i ≤ 6
  · obtain ⟨hi1, hd, hs6⟩ := hnum
    obtain ⟨e1, e2⟩ := h5 i hi1
    have hL := zcD_L hd
    have hlt := zNv_lt (hl i hi1) hd hL hs6
    have k1 : zA σ 4 0 3 i = 3 := by
      rw [e1]
      unfold zTkd
      rw [hL, if_neg (by decide), if_pos hd, if_pos hs6]
    have k2 : zL σ 4 0 5 i = lN (zNv T n i) := by
      rw [e2]
      unfold zTkv
      rw [hL, if_neg (by decide), if_pos hd, if_pos hs6]
      rfl
    have ez : zIsN T n N i lo hi = (decide (lo ≤ zNv T n i) && decide (zNv T n i ≤ hi)) := by
      unfold zIsN
      rw [decide_eq_true hi1, hd, decide_eq_true hs6, Bool.true_and, Bool.true_and, Bool.true_and]
      rfl
    rw [if_pos k1, if_neg z10, hv, Option.bind_some, k2, ez, nI_l (by omega), nI_l (by omega)]
    by_cases g1 : zNv T n i < lo
    · rw [if_pos (by rw [pk_lLT (by omega) (by omega)]; exact g1), decide_eq_false (by omega), Bool.false_and]
      rfl
    · rw [if_neg (by rw [pk_lLT (by omega) (by omega)]; exact g1), Option.bind_some, decide_eq_true (show lo ≤ zNv T n i by omega), Bool.true_and]
      by_cases g2 : zNv T n i ≤ hi
      · rw [if_pos (by rw [pk_lLE (by omega) (by omega)]; exact g2), Option.bind_some, lN_i, zlt_e, decide_eq_true g2, if_pos rfl]
        show some ((1 : Int32), zsI (zsI σ 4 0 9 (nI (zNv T n i))) 4 0 8 (zI (zsI σ 4 0 9 (nI (zNv T n i))) 4 0 8 + 1)) = _
        rw [show zI (zsI σ 4 0 9 (nI (zNv T n i))) 4 0 8 = nI i from h3, nI_1]
      · rw [if_neg (by rw [pk_lLE (by omega) (by omega)]; exact g2), decide_eq_false g2]
        rfl
  · have ez : zIsN T n N i lo hi = false := by
      unfold zIsN
      by_cases a1 : i < N
      · by_cases a2 : zcD T (zTs T n i) = true
        · rw [decide_eq_false (show ¬ zTe T n (zTs T n i) - zTs T n i ≤ 6 from fun a3 => hnum ⟨a1, a2, a3⟩)]
          simp
        · simp [a2]
      · simp [a1]
    have k1 : ¬ zA σ 4 0 3 i = 3 := by
      intro k1
      by_cases a1 : i < N
      · rw [(h5 i a1).1] at k1
        unfold zTkd at k1
        by_cases hL : zcL T (zTs T n i) = true
        · rw [if_pos hL] at k1
          split at k1
          · split at k1
            · exact absurd k1 (by decide)
            · exact absurd k1 (by decide)
          · exact absurd k1 (by decide)
        · rw [if_neg hL] at k1
          by_cases hD : zcD T (zTs T n i) = true
          · rw [if_pos hD] at k1
            split at k1
            · rename_i a3
              exact hnum ⟨a1, hD, a3⟩
            · exact absurd k1 (by decide)
          · rw [if_neg hD] at k1
            split at k1
            · exact absurd k1 (by decide)
            · exact absurd k1 (by decide)
      · have : i = N := by omega
        rw [this, h6] at k1
        exact absurd k1 (by decide)
    rw [if_neg k1, if_pos rfl, ez]
    rfl
