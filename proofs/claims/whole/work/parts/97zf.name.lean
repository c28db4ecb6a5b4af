/-! a brief's text: names -/
theorem z8_0 : zW8t 0 = 1919905645 := by decide +kernel
theorem z8_1 : zW8t 1 = 1852137842 := by decide +kernel
theorem z8_2 : zW8t 2 = 418497262196 := by decide +kernel
theorem z8_3 : zW8t 3 = 1918989413 := by decide +kernel
theorem z8_4 : zW8t 4 = 2002873452 := by decide +kernel
theorem z8_5 : zW8t 5 = 7823737 := by decide +kernel
theorem z8_6 : zW8t 6 = 495873780082 := by decide +kernel
theorem z8_7 : zW8t 7 = 1668248436 := by decide +kernel
theorem z8_8 : zW8t 8 = 7304564 := by decide +kernel
theorem z8_9 : zW8t 9 = 427021005669 := by decide +kernel
theorem z8_10 : zW8t 10 = 1801807216 := by decide +kernel
theorem z8_11 : zW8t 11 = 1987015781 := by decide +kernel
theorem z8_12 : zW8t 12 = 7629157 := by decide +kernel
theorem z8_13 : zW8t 13 = 6710629 := by decide +kernel
theorem z8_14 : zW8t 14 = 465557353332 := by decide +kernel
theorem z8_15 : zW8t 15 = 465624852596 := by decide +kernel
theorem z8_16 : zW8t 16 = 131294808271214 := by decide +kernel
theorem z8_17 : zW8t 17 = 25209 := by decide +kernel
theorem z8_18 : zW8t 18 = 1836020596 := by decide +kernel
theorem z8_19 : zW8t 19 = 1936744814 := by decide +kernel
theorem z8_20 : zW8t 20 = 26982 := by decide +kernel
theorem z8_21 : zW8t 21 = 28530 := by decide +kernel
theorem z8_22 : zW8t 22 = 6385252 := by decide +kernel
theorem z8_23 : zW8t 23 = 7237492 := by decide +kernel
theorem z8_24 : zW8t 24 = 439855772532 := by decide +kernel
theorem z8_25 : zW8t 25 = 1918987883 := by decide +kernel
theorem z8_26 : zW8t 26 = 1885432178 := by decide +kernel
theorem z8_27 : zW8t 27 = 1751474532 := by decide +kernel
theorem z8_28 : zW8t 28 = 121450625394034 := by decide +kernel
theorem z8_29 : zW8t 29 = 426903366771 := by decide +kernel
theorem z8_30 : zW8t 30 = 2002876787 := by decide +kernel
theorem z8_31 : zW8t 31 = 126943687701107 := by decide +kernel
theorem z8_32 : zW8t 32 = 491495845235 := by decide +kernel
theorem z8_33 : zW8t 33 = 1684107883 := by decide +kernel
theorem z8_34 : zW8t 34 = 1818326117 := by decide +kernel
theorem z8_35 : zW8t 35 = 32497644331170163 := by decide +kernel
theorem zkept_1 : ∀ c, c < 36 → f_X12_isKept (zW8t c) = 1 := by decide +kernel
theorem zkept_0 {x : Int64} (h : ∀ c, c < 36 → x ≠ zW8t c) : f_X12_isKept x = 0 := by
  have k0 : ¬ x = 1919905645 := fun e => h 0 (by omega) (e.trans z8_0.symm)
  have k1 : ¬ x = 1852137842 := fun e => h 1 (by omega) (e.trans z8_1.symm)
  have k2 : ¬ x = 418497262196 := fun e => h 2 (by omega) (e.trans z8_2.symm)
  have k3 : ¬ x = 1918989413 := fun e => h 3 (by omega) (e.trans z8_3.symm)
  have k4 : ¬ x = 2002873452 := fun e => h 4 (by omega) (e.trans z8_4.symm)
  have k5 : ¬ x = 7823737 := fun e => h 5 (by omega) (e.trans z8_5.symm)
  have k6 : ¬ x = 495873780082 := fun e => h 6 (by omega) (e.trans z8_6.symm)
  have k7 : ¬ x = 1668248436 := fun e => h 7 (by omega) (e.trans z8_7.symm)
  have k8 : ¬ x = 7304564 := fun e => h 8 (by omega) (e.trans z8_8.symm)
  have k9 : ¬ x = 427021005669 := fun e => h 9 (by omega) (e.trans z8_9.symm)
  have k10 : ¬ x = 1801807216 := fun e => h 10 (by omega) (e.trans z8_10.symm)
  have k11 : ¬ x = 1987015781 := fun e => h 11 (by omega) (e.trans z8_11.symm)
  have k12 : ¬ x = 7629157 := fun e => h 12 (by omega) (e.trans z8_12.symm)
  have k13 : ¬ x = 6710629 := fun e => h 13 (by omega) (e.trans z8_13.symm)
  have k14 : ¬ x = 465557353332 := fun e => h 14 (by omega) (e.trans z8_14.symm)
  have k15 : ¬ x = 465624852596 := fun e => h 15 (by omega) (e.trans z8_15.symm)
  have k16 : ¬ x = 131294808271214 := fun e => h 16 (by omega) (e.trans z8_16.symm)
  have k17 : ¬ x = 25209 := fun e => h 17 (by omega) (e.trans z8_17.symm)
  have k18 : ¬ x = 1836020596 := fun e => h 18 (by omega) (e.trans z8_18.symm)
  have k19 : ¬ x = 1936744814 := fun e => h 19 (by omega) (e.trans z8_19.symm)
  have k20 : ¬ x = 26982 := fun e => h 20 (by omega) (e.trans z8_20.symm)
  have k21 : ¬ x = 28530 := fun e => h 21 (by omega) (e.trans z8_21.symm)
  have k22 : ¬ x = 6385252 := fun e => h 22 (by omega) (e.trans z8_22.symm)
  have k23 : ¬ x = 7237492 := fun e => h 23 (by omega) (e.trans z8_23.symm)
  have k24 : ¬ x = 439855772532 := fun e => h 24 (by omega) (e.trans z8_24.symm)
  have k25 : ¬ x = 1918987883 := fun e => h 25 (by omega) (e.trans z8_25.symm)
  have k26 : ¬ x = 1885432178 := fun e => h 26 (by omega) (e.trans z8_26.symm)
  have k27 : ¬ x = 1751474532 := fun e => h 27 (by omega) (e.trans z8_27.symm)
  have k28 : ¬ x = 121450625394034 := fun e => h 28 (by omega) (e.trans z8_28.symm)
  have k29 : ¬ x = 426903366771 := fun e => h 29 (by omega) (e.trans z8_29.symm)
  have k30 : ¬ x = 2002876787 := fun e => h 30 (by omega) (e.trans z8_30.symm)
  have k31 : ¬ x = 126943687701107 := fun e => h 31 (by omega) (e.trans z8_31.symm)
  have k32 : ¬ x = 491495845235 := fun e => h 32 (by omega) (e.trans z8_32.symm)
  have k33 : ¬ x = 1684107883 := fun e => h 33 (by omega) (e.trans z8_33.symm)
  have k34 : ¬ x = 1818326117 := fun e => h 34 (by omega) (e.trans z8_34.symm)
  have k35 : ¬ x = 32497644331170163 := fun e => h 35 (by omega) (e.trans z8_35.symm)
  unfold f_X12_isKept f_X12_asked
  rw [if_neg k0, if_neg k14, if_neg k15, if_neg k1, if_neg k16, if_neg k2, if_neg k17, if_neg k3, if_neg k4, if_neg k5, if_neg k6, if_neg k7, if_neg k18, if_neg k19, if_neg k8, if_pos rfl, if_neg k20, if_neg k9, if_neg k10, if_neg k11, if_neg k24, if_neg k25, if_neg k26, if_neg k12, if_neg k27, if_neg k28, if_neg k13, if_neg k21, if_neg k22, if_neg k23, if_pos rfl, if_neg k29, if_neg k7, if_neg k30, if_neg k31, if_neg k32, if_neg k33, if_neg k34, if_neg k35, if_pos rfl]
theorem zkept {r : List Nat} (hr : zLr r) : f_X12_isKept (lN (zQn 256 96 r)) = if zCd (lN (zQn 32 0 r)) = -1 then 0 else 1 := by
  rcases zCd_v (lN (zQn 32 0 r)) with e | ⟨c, hc, e⟩
  · rw [if_pos e]
    refine zkept_0 (fun c hc h => ?_)
    have h2 := (zWd_eq (zWt_d hc) hr).mpr h.symm
    rw [(zCd_c hc).mpr h2.symm] at e
    exact znI_m1 (by omega) e
  · rw [e, if_neg (znI_m1 (by omega))]
    have h2 := (zCd_c hc).mp e
    rw [(zWd_eq (zWt_d hc) hr).mp h2.symm |>.symm]
    exact zkept_1 c hc
def zfdF (W : Nat → List Nat) (r : List Nat) : Nat → Nat → Int32
  | 0, _ => -1
  | d + 1, j => if W j = r then nI (j + 1) else zfdF W r d (j + 1)
def zFd (W : Nat → List Nat) (r : List Nat) (k : Nat) : Int32 := zfdF W r k 0
theorem zfdF_v {W : Nat → List Nat} {r : List Nat} : ∀ d j, (zfdF W r d j = -1 ∧ ∀ i, j ≤ i → i < j + d → W i ≠ r) ∨ ∃ i, j ≤ i ∧ i < j + d ∧ W i = r ∧ zfdF W r d j = nI (i + 1)
  | 0, j => Or.inl ⟨rfl, fun i h1 h2 => by omega⟩
  | d + 1, j => by
    have e : zfdF W r (d + 1) j = if W j = r then nI (j + 1) else zfdF W r d (j + 1) := rfl
    rw [e]
    by_cases hw : W j = r
    · rw [if_pos hw]
      exact Or.inr ⟨j, Nat.le_refl _, by omega, hw, rfl⟩
    · rw [if_neg hw]
      rcases zfdF_v (W := W) (r := r) d (j + 1) with ⟨h1, h2⟩ | ⟨i, h1, h2, h3, h4⟩
      · refine Or.inl ⟨h1, fun i g1 g2 => ?_⟩
        by_cases ei : i = j
        · rw [ei]; exact hw
        · exact h2 i (by omega) (by omega)
      · exact Or.inr ⟨i, by omega, by omega, h3, h4⟩
theorem zFd_v {W : Nat → List Nat} {r : List Nat} {k : Nat} : (zFd W r k = -1 ∧ ∀ i, i < k → W i ≠ r) ∨ ∃ i, i < k ∧ W i = r ∧ zFd W r k = nI (i + 1) := by
  rcases zfdF_v (W := W) (r := r) k 0 with ⟨h1, h2⟩ | ⟨i, h1, h2, h3, h4⟩
  · exact Or.inl ⟨h1, fun i hi => h2 i (Nat.zero_le _) (by omega)⟩
  · exact Or.inr ⟨i, by omega, h3, h4⟩
theorem zfdF_new {W : Nat → List Nat} {r : List Nat} : ∀ d j, (∀ i, j ≤ i → i < j + d → W i ≠ r) → W (j + d) = r → zfdF W r (d + 1) j = nI (j + d + 1)
  | 0, j, _, h => by
    show (if W j = r then nI (j + 1) else _) = _
    exact if_pos h
  | d + 1, j, h1, h2 => by
    show (if W j = r then nI (j + 1) else zfdF W r (d + 1) (j + 1)) = _
    rw [if_neg (h1 j (Nat.le_refl _) (by omega)), zfdF_new d (j + 1) (fun i g1 g2 => h1 i (by omega) (by omega)) (by rw [← h2]; congr 1; omega)]
    congr 1
    omega
/-- the class's names: k0 of before, pd of this text -/
def zNmL (σ : zM) (W : Nat → List Nat) (k0 pd : Nat) : Prop := k0 + pd ≤ 12 ∧ zI σ 5 0 1 = nI k0 ∧ zI σ 5 0 2 = nI pd ∧ ∀ j, j < k0 + pd → zLr (W j) ∧ zL σ 5 0 0 j = lN (zQn 32 0 (W j))
def zNmS (σ : zM) (W : Nat → List Nat) (k : Nat) : Prop := k ≤ 12 ∧ zI σ 12 0 17 = nI k ∧ ∀ j, j < k → zLr (W j) ∧ zL σ 12 0 37 (j + 1) = lN (zQn 256 96 (W j))
theorem zq5_e {r r' : List Nat} (h : zLr r) (h' : zLr r') : lN (zQn 32 0 r) = lN (zQn 32 0 r') ↔ r = r' := by
  have q1 := zQ5_lt h.2.1 h.2.2
  have q2 := zQ5_lt h'.2.1 h'.2.2
  rw [pk_lEQ (by omega) (by omega)]
  exact ⟨fun e => zQn_inj (by decide) (fun x hx => by have := h.2.2 x hx; omega) (fun x hx => by have := h'.2.2 x hx; omega) e, fun e => by rw [e]⟩
theorem zq8_e {r r' : List Nat} (h : zLr r) (h' : zLr r') : lN (zQn 256 96 r) = lN (zQn 256 96 r') ↔ r = r' := by
  have q1 := zQ8_lt h.2.1 h.2.2
  have q2 := zQ8_lt h'.2.1 h'.2.2
  rw [pk_lEQ q1 q2]
  exact ⟨fun e => zQn_inj (by decide) (fun x hx => by have := h.2.2 x hx; omega) (fun x hx => by have := h'.2.2 x hx; omega) e, fun e => by rw [e]⟩
theorem X5_fd {σ : zM} {W : Nat → List Nat} {k0 pd : Nat} {r : List Nat} (h : zNmL σ W k0 pd) (hr : zLr r) : f_X5_find σ (lN (zQn 32 0 r)) = some (zFd W r (k0 + pd)) := by
  obtain ⟨h1, h2, h3, h4⟩ := h
  have hw : ∀ d j, j + d = k0 + pd → ∀ m, d < m → zwh (fun (q : Int32) => f_X5_find_L2 σ (lN (zQn 32 0 r)) q) m (nI j) = some (if zfdF W r d j = -1 then .inr () else .inl (zfdF W r d j - 1)) := by
    intro d
    induction d with
    | zero =>
      intro j hj m hm
      obtain ⟨m', rfl⟩ : ∃ m', m = m' + 1 := ⟨m - 1, by omega⟩
      refine zwh_inr ?_
      show f_X5_find_L2 σ _ (nI j) = _
      unfold f_X5_find_L2
      rw [h2, h3, nI_add, if_pos (nI_le (by omega) (by omega))]
      rfl
    | succ d ih =>
      intro j hj m hm
      obtain ⟨m', rfl⟩ : ∃ m', m = m' + 1 := ⟨m - 1, by omega⟩
      have e : zfdF W r (d + 1) j = if W j = r then nI (j + 1) else zfdF W r d (j + 1) := rfl
      obtain ⟨g1, g2⟩ := h4 j (by omega)
      have hL : f_X5_find_L2 σ (lN (zQn 32 0 r)) (nI j) = if W j = r then some (.inr (.inl (nI j))) else some (.inl (nI (j + 1))) := by
        unfold f_X5_find_L2
        rw [h2, h3, nI_add, if_neg (by rw [nI_leI (by omega) (by omega)]; omega), zq12, if_neg (by rw [nI_leI (by omega) (by omega)]; omega), zix_n (show j < 12 by omega) (by omega), Option.bind_some, g2, nI_1]
        by_cases hw : W j = r
        · rw [if_pos ((zq5_e g1 hr).mpr hw), if_pos hw]
        · rw [if_neg (fun h => hw ((zq5_e g1 hr).mp h)), if_neg hw]
      rw [e]
      by_cases hw : W j = r
      · rw [if_pos hw, if_neg (znI_m1 (by omega)), nI_pred]
        refine zwh_inr ?_
        show f_X5_find_L2 σ _ (nI j) = _
        rw [hL, if_pos hw]
      · rw [if_neg hw, ← ih (j + 1) (by omega) m' (by omega)]
        refine zwh_inl ?_
        show f_X5_find_L2 σ _ (nI j) = _
        rw [hL, if_neg hw]
  unfold f_X5_find
  have h0 := hw (k0 + pd) 0 (by omega) zFu (by show k0 + pd < 100000; omega)
  rw [show nI 0 = (0 : Int32) from rfl] at h0
  rw [h0, Option.bind_some]
  rcases zFd_v (W := W) (r := r) (k := k0 + pd) with ⟨e, -⟩ | ⟨i, hi, -, e⟩
  · have e' : zfdF W r (k0 + pd) 0 = -1 := e
    rw [e', if_pos rfl, e]
    rfl
  · have e' : zfdF W r (k0 + pd) 0 = nI (i + 1) := e
    rw [e', if_neg (znI_m1 (by omega)), e, nI_pred]
    show f_X5_find_B35 σ (lN (zQn 32 0 r)) (nI i) = _
    unfold f_X5_find_B35
    rw [nI_1]
theorem X12_fd {σ : zM} {W : Nat → List Nat} {k : Nat} {r : List Nat} (h : zNmS σ W k) (hr : zLr r) : f_X12_named σ (lN (zQn 256 96 r)) = some (zFd W r k) := by
  obtain ⟨h1, h2, h4⟩ := h
  have hw : ∀ d j, j + d = k → ∀ m, d < m → zwh (fun (q : Int32) => f_X12_named_L2 σ (lN (zQn 256 96 r)) q) m (nI (j + 1)) = some (if zfdF W r d j = -1 then .inr () else .inl (zfdF W r d j)) := by
    intro d
    induction d with
    | zero =>
      intro j hj m hm
      obtain ⟨m', rfl⟩ : ∃ m', m = m' + 1 := ⟨m - 1, by omega⟩
      refine zwh_inr ?_
      show f_X12_named_L2 σ _ (nI (j + 1)) = _
      unfold f_X12_named_L2
      rw [h2, if_pos (nI_lt (by omega) (by omega))]
      rfl
    | succ d ih =>
      intro j hj m hm
      obtain ⟨m', rfl⟩ : ∃ m', m = m' + 1 := ⟨m - 1, by omega⟩
      have e : zfdF W r (d + 1) j = if W j = r then nI (j + 1) else zfdF W r d (j + 1) := rfl
      obtain ⟨g1, g2⟩ := h4 j (by omega)
      have hL : f_X12_named_L2 σ (lN (zQn 256 96 r)) (nI (j + 1)) = if W j = r then some (.inr (.inl (nI (j + 1)))) else some (.inl (nI (j + 1 + 1))) := by
        unfold f_X12_named_L2
        rw [h2, if_neg (by rw [nI_ltI (by omega) (by omega)]; omega), zix_n (show j + 1 < 13 by omega) (by omega), Option.bind_some, g2, nI_1]
        by_cases hw : W j = r
        · rw [if_pos ((zq8_e g1 hr).mpr hw), if_pos hw]
        · rw [if_neg (fun h => hw ((zq8_e g1 hr).mp h)), if_neg hw]
      rw [e]
      by_cases hw : W j = r
      · rw [if_pos hw, if_neg (znI_m1 (by omega))]
        refine zwh_inr ?_
        show f_X12_named_L2 σ _ (nI (j + 1)) = _
        rw [hL, if_pos hw]
      · rw [if_neg hw, ← ih (j + 1) (by omega) m' (by omega)]
        refine zwh_inl ?_
        show f_X12_named_L2 σ _ (nI (j + 1)) = _
        rw [hL, if_neg hw]
  unfold f_X12_named
  have h0 := hw k 0 (by omega) zFu (by show k < 100000; omega)
  rw [show nI (0 + 1) = (1 : Int32) from rfl] at h0
  rw [h0, Option.bind_some]
  rcases zFd_v (W := W) (r := r) (k := k) with ⟨e, -⟩ | ⟨i, hi, -, e⟩
  · have e' : zfdF W r k 0 = -1 := e
    rw [e', if_pos rfl, e]
    rfl
  · have e' : zfdF W r k 0 = nI (i + 1) := e
    rw [e', if_neg (znI_m1 (by omega)), e]
    rfl
