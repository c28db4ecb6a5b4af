/-! a brief's text: what is taken, by the class and by the reference -/
def zLq (j : Nat) : List Nat := ((["room", "near", "apart", "rate", "wall", "way", "stair", "cost", "out", "close", "keep", "vote", "tie", "fee", "least", "light", "within", "by", "most", "span", "if", "or", "and", "not", "first", "rank", "pair", "head", "number", "cells", "ways", "stairs", "rooms", "dark", "late", "storeys"].getD j "").toList.map fun ch => ch.toNat - 96)
def zW8t (j : Nat) : Int64 := lN (zP8 (zLq j))
theorem zLq_lt : ∀ j, j < 36 → zLt (zLq j) := by
  unfold zLt
  decide +kernel
theorem zWt_d {j : Nat} (hj : j < 36) : zWd (zWt j) (zW8t j) := ⟨zLq j, zLq_lt j hj, rfl, rfl⟩
/-- the word at the i-th token -/
def zIsW (T : Nat → Nat) (n N i c : Nat) : Bool := decide (i < N) && zcL T (zTs T n i) && decide (zTe T n (zTs T n i) - zTs T n i ≤ 8) && decide (zCd (zW5 T (zTs T n i) (zTe T n (zTs T n i) - zTs T n i)) = nI c)
/-- the class is at the i-th token -/
def zCP (σ : zM) (T : Nat → Nat) (n N i : Nat) : Prop := zTks σ T n N ∧ i ≤ N ∧ zI σ 4 0 8 = nI i
/-- the reference comes to the i-th token; is right there -/
def zRP (σ : zM) (T : Nat → Nat) (n i : Nat) : Prop := zTr σ T n ∧ ∃ p, p ≤ n ∧ zfar (zcB T) n p = zTs T n i ∧ zI σ 12 0 21 = nI p
def zRN (σ : zM) (T : Nat → Nat) (n i : Nat) : Prop := zTr σ T n ∧ zI σ 12 0 21 = nI (zTs T n i)
theorem zTs_fix {T : Nat → Nat} {n : Nat} : ∀ i, zTs T n i ≤ n ∧ zfar (zcB T) n (zTs T n i) = zTs T n i
  | 0 => by
    have h := zfar_p (c := zcB T) (show 0 ≤ n by omega)
    refine ⟨h.2.1, ?_⟩
    show zfar (zcB T) n (zfar (zcB T) n 0) = zfar (zcB T) n 0
    exact zfar_i (Nat.zero_le _) h.1 (Nat.le_refl _)
  | i + 1 => by
    have e : zTs T n (i + 1) = if zTs T n i < n then zfar (zcB T) n (zTe T n (zTs T n i)) else n := rfl
    rw [e]
    by_cases hl : zTs T n i < n
    · rw [if_pos hl]
      have hE := zTe_b (T := T) hl
      have h := zfar_p (c := zcB T) hE.2
      exact ⟨h.2.1, zfar_i hE.2 h.1 (Nat.le_refl _)⟩
    · rw [if_neg hl]
      exact ⟨Nat.le_refl _, zfar_e (Nat.le_refl _)⟩
theorem zTs_s {T : Nat → Nat} {n i : Nat} (h : zTs T n i < n) : zTs T n (i + 1) = zfar (zcB T) n (zTe T n (zTs T n i)) ∧ zTe T n (zTs T n i) ≤ zTs T n (i + 1) := by
  have e : zTs T n (i + 1) = zfar (zcB T) n (zTe T n (zTs T n i)) := if_pos h
  exact ⟨e, by rw [e]; exact (zfar_p (zTe_b (T := T) h).2).1⟩
theorem zRN_P {σ : zM} {T : Nat → Nat} {n i : Nat} (h : zRN σ T n i) : zRP σ T n i := ⟨h.1, _, (zTs_fix i).1, (zTs_fix i).2, h.2⟩
/-- the end of the letters at a -/
theorem zle_y {T : Nat → Nat} {n a : Nat} (hl : zcL T a = true) : zfar (zcL T) n a = zTe T n a := by
  unfold zTe
  rw [if_pos hl]
theorem zle_n {T : Nat → Nat} {n a : Nat} (ha : a ≤ n) (h : ¬ (a < n ∧ zcL T a = true)) : zfar (zcL T) n a = a := by
  by_cases e : a < n
  · rw [zfar_s e, if_neg (fun hl => h ⟨e, hl⟩)]
  · rw [zfar_e (by omega)]
theorem zRv_lr {T : Nat → Nat} {n a : Nat} (ha : a < n) (hl : zcL T a = true) (h8 : zTe T n a - a ≤ 8) : zLr (zRv T a (zTe T n a - a)) := by
  have hE := zTe_b (T := T) ha
  have hP := zfar_p (c := zcL T) (show a ≤ n by omega)
  rw [zle_y hl] at hP
  refine ⟨by rw [zRv_len]; omega, by rw [zRv_len]; exact h8, zRv_in (fun i h1 h2 => hP.2.2.1 i h1 (by omega))⟩
theorem zW8_0 {T : Nat → Nat} {a : Nat} : zW8 T a 0 = 0 := rfl
theorem zW8t_ne {c : Nat} (hc : c < 36) : zW8t c ≠ 0 := by
  obtain ⟨r, hr, h1, h2⟩ := zWd_r (zWt_d hc)
  rw [h2]
  exact (zl8ne hr).1
/-- the reference's word is that of code c -/
theorem zW8_c {T : Nat → Nat} {n N i c e : Nat} (hc : c < 36) (hN : zTs T n N = n ∧ ∀ i, i < N → zTs T n i < n) (hi : i ≤ N) (hE : e = zfar (zcL T) n (zTs T n i)) : zW8 T (zTs T n i) (e - zTs T n i) = zW8t c ↔ zIsW T n N i c = true := by
  have ha := (zTs_fix (T := T) (n := n) i).1
  have h0 := zW8t_ne hc
  unfold zIsW
  by_cases hl : zTs T n i < n ∧ zcL T (zTs T n i) = true
  · have hiN : i < N := by
      rcases Nat.lt_or_ge i N with h | h
      · exact h
      · have : i = N := by omega
        rw [this, hN.1] at hl
        omega
    rw [hE, zle_y hl.2, decide_eq_true hiN, hl.2, Bool.true_and, Bool.true_and]
    by_cases h8 : zTe T n (zTs T n i) - zTs T n i ≤ 8
    · have hr := zRv_lr hl.1 hl.2 h8
      rw [decide_eq_true h8, Bool.true_and, decide_eq_true_eq, zCd_c hc]
      unfold zW8 zW5
      rw [if_pos h8, if_pos h8]
      have := zWd_eq (zWt_d hc) hr
      exact ⟨fun h => (this.mpr h.symm).symm, fun h => (this.mp h.symm).symm⟩
    · rw [decide_eq_false h8, Bool.false_and]
      unfold zW8
      rw [if_neg h8]
      exact ⟨fun h => absurd h.symm h0, fun h => by cases h⟩
  · rw [hE, zle_n ha hl, Nat.sub_self, zW8_0]
    refine ⟨fun h => absurd h.symm h0, fun h => ?_⟩
    rw [Bool.and_eq_true, Bool.and_eq_true, Bool.and_eq_true, decide_eq_true_eq] at h
    exact absurd ⟨hN.2 i h.1.1.1, h.1.1.2⟩ hl
theorem zIsW_l {T : Nat → Nat} {n N i c : Nat} (hc : c < 36) (hN : zTs T n N = n ∧ ∀ i, i < N → zTs T n i < n) (h : zIsW T n N i c = true) : i < N ∧ zcL T (zTs T n i) = true ∧ zTe T n (zTs T n i) = zTs T n i + (zLq c).length := by
  unfold zIsW at h
  rw [Bool.and_eq_true, Bool.and_eq_true, Bool.and_eq_true, decide_eq_true_eq, decide_eq_true_eq, decide_eq_true_eq, zCd_c hc] at h
  obtain ⟨⟨⟨h1, h2⟩, h3⟩, h4⟩ := h
  refine ⟨h1, h2, ?_⟩
  have ha := hN.2 i h1
  have hE := zTe_b (T := T) ha
  have hr := zRv_lr ha h2 h3
  have hs := zLq_lt c hc
  unfold zW5 zWt at h4
  rw [if_pos h3] at h4
  have h5 : lN (zQn 32 0 (zRv T (zTs T n i) (zTe T n (zTs T n i) - zTs T n i))) = lN (zQn 32 0 (zLq c).reverse) := by
    rw [h4, ← zP5_Q]
    rfl
  have q1 := zQ5_lt hr.2.1 hr.2.2
  have q2 := zQ5_lt (r := (zLq c).reverse) (by rw [List.length_reverse]; exact hs.2.1) (fun x hx => hs.2.2 x (List.mem_reverse.mp hx))
  rw [pk_lEQ (by omega) (by omega)] at h5
  have h6 := zQn_inj (by decide) (fun x hx => by have := hr.2.2 x hx; omega) (fun x hx => by have := hs.2.2 x (List.mem_reverse.mp hx); omega) h5
  have h7 := congrArg List.length h6
  rw [zRv_len, List.length_reverse] at h7
  omega
/-- a word is taken, or not -/
theorem X12_tk {σ : zM} {T : Nat → Nat} {n N i c : Nat} (hc : c < 36) (hN : zTs T n N = n ∧ ∀ i, i < N → zTs T n i < n) (hi : i ≤ N) (h : zRP σ T n i) : ∃ σ', f_X12_takes σ (zW8t c) = some (if zIsW T n N i c then 1 else 0, σ') ∧ zEx [(12, 21), (12, 40)] σ σ' ∧ (zIsW T n N i c = true → zRP σ' T n (i + 1)) ∧ (zIsW T n N i c = false → zRN σ' T n i) := by
  obtain ⟨hr, p, hp, hpa, hat⟩ := h
  obtain ⟨σ1, w1, w2, w3, w4⟩ := X12_word_ hr hp hat hpa.symm rfl
  have hw := zW8_c (c := c) hc hN hi rfl
  unfold f_X12_takes
  rw [w1, Option.bind_some]
  show ∃ σ', (if zW8 T (zTs T n i) (zfar (zcL T) n (zTs T n i) - zTs T n i) = zW8t c then _ else _) = _ ∧ _
  by_cases e : zIsW T n N i c = true
  · obtain ⟨h1, h2, h3⟩ := zIsW_l hc hN e
    have ha := hN.2 i h1
    have hE := zTe_b (T := T) ha
    have hS := zTs_s ha
    rw [if_pos (hw.mpr e), e, w4, zlt_e]
    refine ⟨_, rfl, w2.tr (zEx_sI (by decide)), fun _ => ⟨zTr_fr hr (w2.tr (zEx_sI (by decide))) (by decide) (by decide), zTe T n (zTs T n i), hE.2, hS.1.symm, ?_⟩, fun h => by cases h⟩
    rw [zle_y h2]
    rfl
  · have e' : zIsW T n N i c = false := by
      cases e2 : zIsW T n N i c
      · rfl
      · exact absurd e2 e
    rw [if_neg (fun h => e (hw.mp h)), e']
    exact ⟨σ1, rfl, w2, fun h => (by cases h), fun _ => ⟨zTr_fr hr w2 (by decide) (by decide), w3⟩⟩
theorem X4_tok {σ : zM} {T : Nat → Nat} {n N i : Nat} {k x : Int32} (h : zCP σ T n N i) : f_X4_isToken σ k x = some (if zA σ 4 0 3 i = k ∧ zL σ 4 0 5 i = x.toInt64 then 1 else 0) := by
  obtain ⟨h1, h2, h3⟩ := h
  have h9 := h1.1
  unfold f_X4_isToken
  rw [h3, if_neg (zlt0 (by omega)), zq901, if_neg (by rw [nI_leI (by omega) (by omega)]; omega), if_neg (by rw [nI_leI (by omega) (by omega)]; omega), zix_n (show i < 901 by omega) (by omega), Option.bind_some]
  by_cases e1 : zA σ 4 0 3 i = k
  · rw [if_pos e1, Option.bind_some]
    by_cases e2 : zL σ 4 0 5 i = x.toInt64
    · rw [if_pos e2, if_pos ⟨e1, e2⟩]
    · rw [if_neg e2, if_neg (fun h => e2 h.2)]
  · rw [if_neg e1, if_neg (fun h => e1 h.1)]
theorem zTks_N {σ : zM} {T : Nat → Nat} {n N : Nat} (h : zTks σ T n N) : zTs T n N = n ∧ ∀ i, i < N → zTs T n i < n := ⟨h.2.1, h.2.2.1⟩
/-- the class's test for a word -/
theorem X4_wd {σ : zM} {T : Nat → Nat} {n N i c : Nat} (hc : c < 36) (h : zCP σ T n N i) : (zA σ 4 0 3 i = 1 ∧ zL σ 4 0 5 i = (nI c).toInt64) ↔ zIsW T n N i c = true := by
  obtain ⟨⟨h9, hN, hl, h4, h5, h6⟩, h2, h3⟩ := h
  by_cases hi : i < N
  · obtain ⟨e1, e2⟩ := h5 i hi
    rw [e1, e2]
    unfold zTkd zTkv zIsW
    rw [decide_eq_true hi, Bool.true_and]
    by_cases hL : zcL T (zTs T n i) = true
    · rw [if_pos hL, if_pos hL, hL, Bool.true_and]
      by_cases h8 : zTe T n (zTs T n i) - zTs T n i ≤ 8
      · rw [if_pos h8, if_pos h8, decide_eq_true h8, Bool.true_and, decide_eq_true_eq]
        rcases zCd_v (zW5 T (zTs T n i) (zTe T n (zTs T n i) - zTs T n i)) with e | ⟨c', hc', e⟩
        · rw [e, if_pos rfl]
          exact ⟨fun h => absurd h.1 (by decide), fun h => absurd h.symm (znI_m1 (by omega))⟩
        · rw [e, if_neg (znI_m1 (by omega)), if_neg (znI_m1 (by omega)), nI_l (by omega), nI_l (by omega), pk_lEQ (by omega) (by omega), nI_eq (by omega) (by omega)]
          exact ⟨fun h => h.2, fun h => ⟨rfl, h⟩⟩
      · rw [if_neg h8, if_neg h8, decide_eq_false h8, Bool.false_and]
        exact ⟨fun h => absurd h.1 (by decide), fun h => by cases h⟩
    · have hL' : zcL T (zTs T n i) = false := by
        cases e : zcL T (zTs T n i)
        · rfl
        · exact absurd e hL
      rw [if_neg hL, hL', Bool.false_and, Bool.false_and]
      refine ⟨fun h => ?_, fun h => by cases h⟩
      have h1 := h.1
      split at h1
      · split at h1
        · exact absurd h1 (by decide)
        · exact absurd h1 (by decide)
      · split at h1
        · exact absurd h1 (by decide)
        · exact absurd h1 (by decide)
  · have : i = N := by omega
    subst this
    rw [h6]
    unfold zIsW
    rw [decide_eq_false (Nat.lt_irrefl i), Bool.false_and, Bool.false_and, Bool.false_and]
    exact ⟨fun h => absurd h.1 (by decide), fun h => by cases h⟩
theorem zCP_go {σ : zM} {T : Nat → Nat} {n N i j : Nat} (h : zCP σ T n N i) (hj : j ≤ N) : zCP (zsI σ 4 0 8 (nI j)) T n N j := ⟨h.1, hj, rfl⟩
theorem zCP_x {F : List (Nat × Nat)} {σ σ' : zM} {T : Nat → Nat} {n N i : Nat} (h : zCP σ T n N i) (hE : zEx F σ σ') (hF : ([(4, 3), (4, 4), (4, 5), (4, 8)] : List (Nat × Nat)).all (fun q => !F.contains q) = true) : zCP σ' T n N i := by
  have hd := zFe_of hE hF
  have e1 : zA σ' 4 0 3 = zA σ 4 0 3 := (hd (4, 3) (by simp)).2.2.2.1 0
  have e2 : zA σ' 4 0 4 = zA σ 4 0 4 := (hd (4, 4) (by simp)).2.2.2.1 0
  have e3 : zL σ' 4 0 5 = zL σ 4 0 5 := (hd (4, 5) (by simp)).2.2.2.2.1 0
  have e4 : zI σ' 4 0 8 = zI σ 4 0 8 := (hd (4, 8) (by simp)).1 0
  unfold zCP zTks
  rw [e1, e2, e3, e4]
  exact h
theorem zRP_x {F : List (Nat × Nat)} {σ σ' : zM} {T : Nat → Nat} {n i : Nat} (h : zRP σ T n i) (hE : zEx F σ σ') (h1 : (12, 20) ∉ F) (h2 : (12, 39) ∉ F) (h3 : (12, 21) ∉ F) : zRP σ' T n i := by
  obtain ⟨g1, p, g2, g3, g4⟩ := h
  exact ⟨zTr_fr g1 hE h1 h2, p, g2, g3, (hE.1 12 0 21 h3).trans g4⟩
theorem zRN_x {F : List (Nat × Nat)} {σ σ' : zM} {T : Nat → Nat} {n i : Nat} (h : zRN σ T n i) (hE : zEx F σ σ') (h1 : (12, 20) ∉ F) (h2 : (12, 39) ∉ F) (h3 : (12, 21) ∉ F) : zRN σ' T n i := ⟨zTr_fr h.1 hE h1 h2, (hE.1 12 0 21 h3).trans h.2⟩
theorem X4_word {σ : zM} {T : Nat → Nat} {n N i c : Nat} (hc : c < 36) (h : zCP σ T n N i) : f_X4_takeWord σ (nI c) = some (if zIsW T n N i c then 1 else 0, zsI σ 4 0 8 (nI (if zIsW T n N i c then i + 1 else i))) := by
  unfold f_X4_takeWord
  rw [X4_tok h, Option.bind_some, h.2.2]
  by_cases e : zIsW T n N i c = true
  · rw [if_pos ((X4_wd hc h).mpr e), if_neg z10, e, nI_1, zlt_e]
    rfl
  · have e' : zIsW T n N i c = false := by
      cases e2 : zIsW T n N i c
      · rfl
      · exact absurd e2 e
    rw [if_neg (fun h2 => e ((X4_wd hc h).mp h2)), if_pos rfl, e', zlt_e]
    rw [show nI i + 0 = nI i from by rw [show (0 : Int32) = nI 0 from rfl, nI_add, Nat.add_zero]]
    rfl
