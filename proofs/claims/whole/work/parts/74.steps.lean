/-! ways: the class's search outside, the call -/
theorem X8_wk2 {σ : zM} {s a b : Nat} {C : Nat → Nat} {x3 : Int32} (hX0 : zCX σ s C) (hb : b < 15) (hB : zKB σ (zini C a)) (hnb : ∀ z ∈ (zini C a).2, C z ≠ b) : ∃ t, zwh (fun (q : (Int32 × Int32 × zM)) => f_X8_walk_L6 s (nI b) x3 q.1 q.2.1 q.2.2) zFu (nI (zini C a).2.length, 0, σ) = some t ∧ ((∃ σ', t = .inr σ' ∧ zStp C a b = none ∧ zEx [(8, 1), (8, 2)] σ σ') ∨ ∃ σ' o v, t = .inl (nI (zpl o), σ') ∧ o < 160 ∧ zA σ' 8 0 2 (zpl o) = nI v ∧ zStp C a b = some v ∧ zEx [(8, 1), (8, 2)] σ σ') := by
  have stop : ∀ (i : Nat) (q3 : zM) (st : zBS), zStp C a b = zbfs C b (161 - i) i st → zEx [(8, 1), (8, 2)] σ q3 → i ≤ 160 → st.2.length ≤ 160 → st.2.length ≤ i → ∃ t, f_X8_walk_L6 s (nI b) x3 (nI st.2.length) (nI i) q3 = some (.inr t) ∧ ((∃ σ', t = .inr σ' ∧ zStp C a b = none ∧ zEx [(8, 1), (8, 2)] σ σ') ∨ ∃ σ' o v, t = .inl (nI (zpl o), σ') ∧ o < 160 ∧ zA σ' 8 0 2 (zpl o) = nI v ∧ zStp C a b = some v ∧ zEx [(8, 1), (8, 2)] σ σ') := by
    intro i q3 st h3 h4 hi hl hle
    refine ⟨.inr q3, ?_, Or.inl ⟨q3, rfl, by rw [h3, zbfs_no hle], h4⟩⟩
    unfold f_X8_walk_L6
    rw [if_pos (nI_le hle (by omega))]
  refine zwh_ex (fun (i : Nat) (q : Int32 × Int32 × zM) => q.2.1 = nI i ∧ ∃ st, q.1 = nI st.2.length ∧ zWf i st ∧ zKB q.2.2 st ∧ (∀ z ∈ st.2, C z ≠ b) ∧ zEx [(8, 1), (8, 2)] σ q.2.2 ∧ zStp C a b = zbfs C b (161 - i) i st) _ 160 ⟨rfl, zini C a, rfl, zinM_w (Nat.le_refl 160), hB, hnb, zEx.rf, rfl⟩ (fun i q hi hq => ?_) (fun q hq => ?_) (by omega)
  · obtain ⟨q1, q2, q3⟩ := q
    obtain ⟨h1, st, h2, hw, h3, h4, h5, h6⟩ := hq
    simp only at h1 h2 h3 h4 h5
    subst h1
    subst h2
    have hl := zWf_len hw
    by_cases hle : st.2.length ≤ i
    · exact Or.inr (stop i q3 st h6 h5 (by omega) hl hle)
    · have hlt : i < st.2.length := by omega
      have hk := List.getElem?_eq_getElem hlt
      generalize st.2[i] = k at hk
      have hm : k ∈ st.2 := List.mem_of_getElem? hk
      have hk160 := (hw.1 k hm).1
      obtain ⟨d, hd⟩ : ∃ d, st.1 k = some d := by
        cases e : st.1 k with
        | none => exact absurd e (hw.1 k hm).2
        | some d => exact ⟨d, rfl⟩
      have hd2 := hw.2.2 k d hd
      have e8 : zA q3 8 0 1 i = nI (zpl k) := h3.2 i k hk
      have hC := h4 k hm
      have hXq : zCX q3 s C := zCX_fr (h5.2.2.2.1 7 s 2 (by simp)) (h5.2.2.2.1 7 s 3 (by simp)) (h5.2.2.2.1 7 s 4 (by simp)) (h5.1 7 s 5 (by simp)) hX0
      obtain ⟨t, w1, ht⟩ := X8_wk1 (x3 := x3) hX0 hb hi hk hw hC hd h6 h3 h4 h5
      have body : ∀ R, (some t).bind (fun q => zsm q (fun q => some (.inr (.inl (q.1, q.2)))) (fun q => f_X8_walk_B157_6 q.2 s (nI b) x3 q.1 (nI i))) = R → f_X8_walk_L6 s (nI b) x3 (nI st.2.length) (nI i) q3 = R := by
        intro R hR
        unfold f_X8_walk_L6
        rw [if_neg (by rw [nI_leI (by omega) (by omega)]; omega), if_neg (by rw [zq160, nI_leI (by omega) (by omega)]; omega), zix_n hi (by omega), Option.bind_some, e8]
        rw [show (0 : Int32) = nI 0 from rfl] at w1
        exact (congrArg (fun z => Option.bind z _) w1).trans hR
      rcases ht with ⟨σ', rfl, g1, g2, g3⟩ | ⟨σ', o, rfl, g1, g2, g3, g4⟩
      · have h6' := h6
        rw [show 161 - i = (160 - i) + 1 by omega, zbfs_st hk hC hd] at h6'
        refine Or.inl ⟨(nI (zcoP C (d + 1) k st 5).2.length, nI (i + 1), σ'), body _ ?_, rfl, zcoP C (d + 1) k st 5, rfl, zWf_coP (zWf_mo (Nat.le_succ i) hw) hk160 (by omega) 5, g1, g2, g3, by rw [show 161 - (i + 1) = 160 - i by omega]; exact h6'⟩
        rw [← nI_1]
        rfl
      · exact Or.inr ⟨.inl (nI (zpl o), σ'), body _ rfl, Or.inr ⟨σ', o, d + 1, rfl, g1, g2, g3, g4⟩⟩
  · obtain ⟨q1, q2, q3⟩ := q
    obtain ⟨h1, st, h2, hw, h3, h4, h5, h6⟩ := hq
    simp only at h1 h2 h3 h4 h5
    subst h1
    subst h2
    have hl := zWf_len hw
    exact stop 160 q3 st h6 h5 (Nat.le_refl _) hl hl
def zhh (p : Nat) : Option Nat := if zinB p then some (zce p) else none
def zqP (C : Nat → Nat) (a p : Nat) : List Nat := ((List.range p).filterMap zhh).filter fun k => decide (C k = a)
theorem zqP_s {C : Nat → Nat} {a p : Nat} (ha : 1 ≤ a) : zqP C a (p + 1) = zqP C a p ++ if zBd C p = a then [zce p] else [] := by
  unfold zqP
  rw [List.range_succ, List.filterMap_append, List.filter_append]
  congr 1
  by_cases hb : zinB p = true
  · have e : zhh p = some (zce p) := by unfold zhh; rw [if_pos hb]
    have e2 : zBd C p = C (zce p) := by unfold zBd; rw [if_pos hb]
    rw [e2]
    by_cases h : C (zce p) = a
    · simp [e, h]
    · simp [e, h]
  · have e : zhh p = none := by unfold zhh; rw [if_neg hb]
    have e2 : zBd C p = 0 := by unfold zBd; rw [if_neg hb]
    rw [e2, if_neg (by omega)]
    simp [e]
theorem zqP_all (C : Nat → Nat) (a : Nat) : zqP C a 240 = (zini C a).2 := by
  unfold zqP zini
  rw [show (List.range 240).filterMap zhh = List.range 160 by decide +kernel]
theorem zqP_len {C : Nat → Nat} {a p : Nat} (hp : p ≤ 240) : (zqP C a p).length ≤ 160 := by
  have h1 : (zqP C a p).length ≤ (zqP C a 240).length := by
    unfold zqP
    exact (((List.range_sublist.mpr hp).filterMap zhh).filter _).length_le
  have h2 : (zqP C a 240).length ≤ 160 := by
    rw [zqP_all]
    exact zWf_len (zinM_w (Nat.le_refl 160))
  omega
theorem X8_wk0 {σ : zM} {s a : Nat} {C : Nat → Nat} {x3 : Int32} (hX : zCX σ s C) (ha : 1 ≤ a) (ha2 : a < 15) : ∃ σ', zwh (fun (q : (Int32 × Int32 × zM)) => f_X8_stepsOf_L31 s (nI a) x3 q.1 q.2.1 q.2.2) zFu (0, 0, σ) = some (nI (zini C a).2.length, σ') ∧ zKB σ' (zini C a) ∧ zEx [(8, 1), (8, 2)] σ σ' := by
  have hz : ∃ t, zwh (fun (q : (Int32 × Int32 × zM)) => f_X8_stepsOf_L31 s (nI a) x3 q.1 q.2.1 q.2.2) zFu (0, 0, σ) = some t ∧ (t.1 = nI (zini C a).2.length ∧ zKB t.2 (zini C a) ∧ zEx [(8, 1), (8, 2)] σ t.2) := by
    refine zwh_ex (f := fun (q : (Int32 × Int32 × zM)) => f_X8_stepsOf_L31 s (nI a) x3 q.1 q.2.1 q.2.2) (fun (p : Nat) (q : Int32 × Int32 × zM) => q.1 = nI (zqP C a p).length ∧ q.2.1 = nI p ∧ (∀ p', p' < p → zA q.2.2 8 0 2 p' = if zBd C p' = a then 0 else -1) ∧ (∀ (j k : Nat), (zqP C a p)[j]? = some k → zA q.2.2 8 0 1 j = nI (zpl k)) ∧ zEx [(8, 1), (8, 2)] σ q.2.2) (fun (t : Int32 × zM) => t.1 = nI (zini C a).2.length ∧ zKB t.2 (zini C a) ∧ zEx [(8, 1), (8, 2)] σ t.2) 240 (s := (0, 0, σ)) ⟨rfl, rfl, fun p' h => absurd h (by omega), fun j k h => absurd h (by simp [zqP]), zEx.rf⟩ (fun p q hp hq => ?_) (fun q hq => ?_) (by omega)
    · obtain ⟨q1, q2, q3⟩ := q
      obtain ⟨h1, h2, h3, h4, h5⟩ := hq
      simp only at h1 h2 h3 h4 h5
      subst h1
      subst h2
      have hXq : zCX q3 s C := zCX_fr (h5.2.2.2.1 7 s 2 (by simp)) (h5.2.2.2.1 7 s 3 (by simp)) (h5.2.2.2.1 7 s 4 (by simp)) (h5.1 7 s 5 (by simp)) hX
      have c15 := zBd_15 hX.1 hp
      have hl := zqP_len (C := C) (a := a) (show p + 1 ≤ 240 by omega)
      have es := zqP_s (C := C) (p := p) ha
      have zz : ∀ v : Int32, (∀ p', p' < p + 1 → zu (zA q3 8 0 2) p v p' = if p' = p then v else if zBd C p' = a then 0 else -1) := fun v p' hp' => by
        by_cases e : p' = p
        · rw [e, zu_eq, if_pos rfl]
        · rw [zu_ne _ _ e, if_neg e]
          exact h3 p' (by omega)
      by_cases h : zBd C p = a
      · rw [if_pos h] at es
        obtain ⟨b1, b2, b3⟩ := zBd_in ha h
        have b4 := zce_pl p b3 b1
        rw [es, List.length_append, List.length_singleton] at hl
        refine Or.inl ⟨(nI ((zqP C a p).length + 1), nI (p + 1), zsA (zsA q3 8 0 2 p 0) 8 0 1 (zqP C a p).length (nI p)), ?_, ?_, rfl, fun p' hp' => ?_, fun j k hj => ?_, h5.tr ((zEx_sA (by decide)).tr (zEx_sA (by decide)))⟩
        · show f_X8_stepsOf_L31 s (nI a) x3 _ (nI p) q3 = _
          unfold f_X8_stepsOf_L31 f_X8_stepsOf_B102_31
          rw [if_neg (by rw [zq240, nI_leI (by omega) (by omega)]; omega), zthing hp, hXq.2.1 p hp, Option.bind_some, zix_n hp (by omega), Option.bind_some, zlt_e, h, if_pos (show nI a = nI a from rfl), if_neg z10, if_neg z10, if_neg (by rw [zq160, nI_leI (by omega) (by omega)]; omega), zix_n (show (zqP C a p).length < 160 by omega) (by omega), Option.bind_some, zlt_e, nI_1, nI_1]
        · show nI _ = nI (zqP C a (p + 1)).length
          rw [es, List.length_append, List.length_singleton]
        · show zu (zA q3 8 0 2) p 0 p' = _
          rw [zz 0 p' hp']
          by_cases e : p' = p
          · rw [if_pos e, e, if_pos h]
          · rw [if_neg e]
        · show zu (zA q3 8 0 1) _ (nI p) j = nI (zpl k)
          have hj : (zqP C a (p + 1))[j]? = some k := hj
          rw [es] at hj
          by_cases eq : j = (zqP C a p).length
          · rw [eq, zu_eq]
            rw [eq, List.getElem?_append_right (Nat.le_refl _)] at hj
            simp at hj
            rw [← hj, b4.1]
          · have hlt : j < (zqP C a p).length := by
              obtain ⟨hh, -⟩ := List.getElem?_eq_some_iff.mp hj
              rw [List.length_append, List.length_singleton] at hh
              omega
            rw [zu_ne _ _ eq]
            rw [List.getElem?_append_left hlt] at hj
            exact h4 j k hj
      · rw [if_neg h, List.append_nil] at es
        have hne : ¬ nI (zBd C p) = nI a := by rw [nI_eq (by omega) (by omega)]; exact h
        refine Or.inl ⟨(nI (zqP C a p).length, nI (p + 1), zsA q3 8 0 2 p (-1)), ?_, ?_, rfl, fun p' hp' => ?_, fun j k hj => ?_, h5.tr (zEx_sA (by decide))⟩
        · show f_X8_stepsOf_L31 s (nI a) x3 _ (nI p) q3 = _
          unfold f_X8_stepsOf_L31 f_X8_stepsOf_B102_31
          rw [if_neg (by rw [zq240, nI_leI (by omega) (by omega)]; omega), zthing hp, hXq.2.1 p hp, Option.bind_some, zix_n hp (by omega), Option.bind_some, zlt_e, if_neg hne, if_pos rfl, if_pos rfl, nI_1]
        · show nI _ = nI (zqP C a (p + 1)).length
          rw [es]
        · show zu (zA q3 8 0 2) p (-1) p' = _
          rw [zz (-1) p' hp']
          by_cases e : p' = p
          · rw [if_pos e, e, if_neg h]
          · rw [if_neg e]
        · have hj : (zqP C a (p + 1))[j]? = some k := hj
          rw [es] at hj
          exact h4 j k hj
    · obtain ⟨q1, q2, q3⟩ := q
      obtain ⟨h1, h2, h3, h4, h5⟩ := hq
      simp only at h1 h2 h3 h4 h5
      subst h1
      subst h2
      refine ⟨(nI (zqP C a 240).length, q3), ?_, by rw [zqP_all], ⟨fun p hp => ?_, fun j k hj => h4 j k (by rw [zqP_all]; exact hj)⟩, h5⟩
      · show f_X8_stepsOf_L31 s (nI a) x3 _ (nI 240) q3 = _
        unfold f_X8_stepsOf_L31
        rw [if_pos (show (240 : Int32) ≤ nI 240 by decide)]
      · rw [h3 p hp]
        unfold zBd
        by_cases hb : zinB p = true
        · rw [if_pos hb, if_pos hb]
          have hc := (zce_pl p hp hb).2
          show _ = zOI (if zce p < 160 ∧ C (zce p) = a then some 0 else none)
          by_cases e : C (zce p) = a
          · rw [if_pos e, if_pos ⟨hc, e⟩]
            rfl
          · rw [if_neg e, if_neg (fun h => e h.2)]
            rfl
        · rw [if_neg hb, if_neg hb, if_neg (by omega)]
  obtain ⟨t, h1, h2⟩ := hz
  obtain ⟨t1, t2⟩ := t
  obtain ⟨g1, g2, g3⟩ := h2
  simp only at g1 g2 g3
  subst g1
  exact ⟨t2, h1, g2, g3⟩
