/-! the class's search -/
theorem zpl_ov : ∀ k, k < 160 → zovr k < 160 ∧ zpl (zovr k) = (if 120 ≤ zpl k then zpl k - 120 else zpl k + 120) := by decide +kernel
theorem X8_stepFrom {σ : zM} {s k j : Nat} {C : Nat → Nat} (hX : zCX σ s C) (hk : k < 160) (hj : j < 5) : f_X8_stepFrom σ s (nI (zpl k)) (nI j) = some (match zng C k j with | none => -1 | some o => nI (zpl o)) := by
  have hp := zpl_bd k hk
  have hp2 := (zpl_in k hk).2.2
  have c1 := hX.1 k hk
  have e1 : f_X7_thingAt σ s (nI (zpl k)) = some (nI (C k)) := by rw [zthing hp2, hX.2.1 _ hp2, zBd_pl hk]
  have l0 : ∀ x, x < 15 → (nI x = 0 ↔ x = 0) := fun x hx => by rw [show (0 : Int32) = nI 0 from rfl, nI_eq (by omega) (by omega)]
  have l13 : ∀ x, x < 15 → (13 ≤ nI x ↔ 13 ≤ x) := fun x hx => by rw [zq13, nI_leI (by omega) (by omega)]
  have l13' : ∀ x, x < 15 → (nI x < 13 ↔ x < 13) := fun x hx => by rw [zq13, nI_ltI (by omega) (by omega)]
  have l14 : ∀ x, x < 15 → (nI x = 14 ↔ x = 14) := fun x hx => by rw [zq14, nI_eq (by omega) (by omega)]
  unfold f_X8_stepFrom f_X8_stepFrom_B18 f_X8_stepFrom_B108
  rw [e1, Option.bind_some, if_neg (zlt0 (by omega))]
  by_cases h4 : j < 4
  · have hb := znv_bd k hk j h4
    have ho := znb_op k hk j h4
    have c2 := znv_15 hX.1 hk h4
    rw [if_pos (by rw [zq4]; exact nI_lt h4 (by omega)), zix_n h4 (by omega), Option.bind_some, zBES_at hp.1.1 h4, zthing hb.1, hX.2.1 _ hb.1, znv_Bd hk h4, Option.bind_some]
    have e6 : zng C k j = (match znb k j with | none => none | some o => if zstp1 C k o then some o else none) := if_pos h4
    cases en : znb k j with
    | none =>
      rw [en] at e6
      have e7 : znv C k j = 0 := by unfold znv; rw [en]
      rw [e6, e7, if_pos (show nI 0 = 0 from rfl)]
      split <;> rfl
    | some o =>
      rw [en] at e6 ho hb
      have e6 : zng C k j = if zstp1 C k o then some o else none := e6
      have e7 : znv C k j = C o := by unfold znv; rw [en]
      obtain ⟨hb1, hb2, hb3⟩ := hb
      have e8 : zbs j (zpl k) = zpl o := by rw [← hb3]; exact ((zce_pl _ hb1 hb2).1).symm
      rw [e7] at c2
      rw [e6, e7, e8]
      unfold zstp1
      by_cases p1 : C k = 0
      · rw [if_pos ((l0 _ c1).mpr p1)]
        simp [p1]
      · rw [if_neg (mt (l0 _ c1).mp p1)]
        by_cases p2 : C o = 0
        · rw [if_pos ((l0 _ c2).mpr p2)]
          simp [p2]
        · rw [if_neg (mt (l0 _ c2).mp p2)]
          have q1 : 0 < C k := by omega
          have q2 : 0 < C o := by omega
          by_cases p3 : C k = C o
          · rw [if_pos (by rw [p3])]
            simp [q2, p3]
          · rw [if_neg (by rw [nI_eq (by omega) (by omega)]; exact p3)]
            by_cases p4 : 13 ≤ C k
            · rw [if_pos ((l13 _ c1).mpr p4)]
              simp [q1, q2, p4]
            · rw [if_neg (mt (l13 _ c1).mp p4)]
              by_cases p5 : C o < 13
              · have p6 : ¬ 13 ≤ C o := by omega
                rw [if_pos ((l13' _ c2).mpr p5)]
                simp [p3, p4, p6]
              · rw [if_neg (mt (l13' _ c2).mp p5)]
                have p6 : 13 ≤ C o := by omega
                simp [q1, q2, p6]
  · have e4 : j = 4 := by omega
    subst e4
    have e6 : zng C k 4 = if C k = 14 ∧ C (zovr k) = 14 then some (zovr k) else none := if_neg (by omega)
    obtain ⟨v1, v2⟩ := zpl_ov k hk
    have v3 := (zpl_in _ v1).2.2
    have c2 := hX.1 _ v1
    have ep : (if 120 ≤ nI (zpl k) then (nI (zpl k) - 120) else (nI (zpl k) + 120) : Int32) = nI (zpl (zovr k)) := by
      rw [v2, zq120]
      by_cases h : 120 ≤ zpl k
      · rw [if_pos (nI_le h (by omega)), if_pos h, zsubI h]
      · rw [if_neg (by rw [nI_leI (by omega) (by omega)]; exact h), if_neg h, nI_add]
    rw [if_neg (by decide), ep, e6]
    by_cases p1 : C k = 14
    · rw [if_pos ((l14 _ c1).mpr p1), zthing v3, hX.2.1 _ v3, zBd_pl v1, Option.bind_some]
      by_cases p2 : C (zovr k) = 14
      · rw [if_pos ((l14 _ c2).mpr p2), if_pos ⟨p1, p2⟩]
      · rw [if_neg (mt (l14 _ c2).mp p2), if_neg (fun h => p2 h.2)]
    · rw [if_neg (mt (l14 _ c1).mp p1), if_neg (fun h => p1 h.1)]
theorem zcoP_m {C : Nat → Nat} {n k : Nat} {st : zBS} (i : Nat) : ∀ e, (∀ (j z : Nat), (zcoP C n k st i).2[j]? = some z → (zcoP C n k st (i + e)).2[j]? = some z) ∧ ∀ x v, (zcoP C n k st i).1 x = some v → (zcoP C n k st (i + e)).1 x = some v
  | 0 => ⟨fun _ _ h => h, fun _ _ h => h⟩
  | e + 1 => by
    obtain ⟨h1, h2⟩ := zcoP_m (C := C) (n := n) (k := k) (st := st) i e
    have e1 : zcoP C n k st (i + (e + 1)) = (match zng C k (i + e) with | none => zcoP C n k st (i + e) | some o => zcom (zcoP C n k st (i + e)) o n) := rfl
    rw [e1]
    cases zng C k (i + e) with
    | none => exact ⟨h1, h2⟩
    | some o => exact ⟨fun j z h => zcom_x.1 j z (h1 j z h), fun x v h => zcom_x.2 x v (h2 x v h)⟩
theorem zbfs_found {C : Nat → Nat} {b i k d j o : Nat} {st : zBS} {r : Option Nat} (hw : zWf i st) (hi : i < 160) (hk : st.2[i]? = some k) (hC : C k ≠ b) (hd : st.1 k = some d) (hr : r = zbfs C b (161 - i) i st) (hj : j < 5) (hg : zng C k j = some o) (hn : (zcoP C (d + 1) k st j).1 o = none) (ho : C o = b) (hb : ∀ z ∈ (zcoP C (d + 1) k st j).2, C z ≠ b) : r = some (d + 1) := by
  have hk160 := (hw.1 k (List.mem_of_getElem? hk)).1
  have hd2 := hw.2.2 k d hd
  have hw1 := zWf_mo (Nat.le_succ i) hw
  rw [hr, show 161 - i = (160 - i) + 1 by omega, zbfs_st hk hC hd]
  have e1 : zcoP C (d + 1) k st (j + 1) = zcom (zcoP C (d + 1) k st j) o (d + 1) := by
    show (match zng C k j with | none => zcoP C (d + 1) k st j | some o => zcom (zcoP C (d + 1) k st j) o (d + 1)) = _
    rw [hg]
  have e2 : zcom (zcoP C (d + 1) k st j) o (d + 1) = (fun x => if x = o then some (d + 1) else (zcoP C (d + 1) k st j).1 x, (zcoP C (d + 1) k st j).2 ++ [o]) := by
    unfold zcom
    rw [if_pos hn]
  obtain ⟨m1, m2⟩ := zcoP_m (C := C) (n := d + 1) (k := k) (st := st) (j + 1) (5 - (j + 1))
  rw [show j + 1 + (5 - (j + 1)) = 5 by omega] at m1 m2
  have w5 : zWf (i + 1) (zcoP C (d + 1) k st 5) := zWf_coP hw1 hk160 (by omega) 5
  have wj : zWf (i + 1) (zcoP C (d + 1) k st (j + 1)) := zWf_coP hw1 hk160 (by omega) (j + 1)
  have hl := zWf_len wj
  rw [e1, e2] at hl m1 m2
  have hl : ((zcoP C (d + 1) k st j).2 ++ [o]).length ≤ 160 := hl
  rw [List.length_append, List.length_singleton] at hl
  have hlt : i < (zcoP C (d + 1) k st j).2.length := by
    obtain ⟨hh, -⟩ := List.getElem?_eq_some_iff.mp ((zcoP_x (C := C) (n := d + 1) (k := k) (st := st) j).1 i k hk)
    exact hh
  refine zbfs_hit ((zcoP C (d + 1) k st j).2.length - (i + 1)) (160 - i) (i + 1) _ ?_ ho (fun q z hq hz => ?_) (m2 o (d + 1) (if_pos rfl)) (by omega)
  · refine m1 _ _ ?_
    show ((zcoP C (d + 1) k st j).2 ++ [o])[_]? = some o
    rw [show i + 1 + ((zcoP C (d + 1) k st j).2.length - (i + 1)) = (zcoP C (d + 1) k st j).2.length by omega, List.getElem?_append_right (Nat.le_refl _)]
    simp
  · refine ⟨?_, (w5.1 z (List.mem_of_getElem? hz)).2⟩
    have hq2 : q < (zcoP C (d + 1) k st j).2.length := by omega
    have := m1 q ((zcoP C (d + 1) k st j).2[q]) (by
      show ((zcoP C (d + 1) k st j).2 ++ [o])[q]? = _
      rw [List.getElem?_append_left hq2, List.getElem?_eq_getElem hq2])
    rw [this] at hz
    cases hz
    exact hb _ (List.getElem_mem hq2)
/-- the class's arrays hold the state -/
def zKB (σ : zM) (st : zBS) : Prop := (∀ p, p < 240 → zA σ 8 0 2 p = if zinB p then zOI (st.1 (zce p)) else -1) ∧ ∀ (j k : Nat), st.2[j]? = some k → zA σ 8 0 1 j = nI (zpl k)
theorem X8_wk1 {σ σ0 : zM} {s a b k d i : Nat} {C : Nat → Nat} {st : zBS} {x3 x4 : Int32} (hX0 : zCX σ0 s C) (hb : b < 15) (hi : i < 160) (hk : st.2[i]? = some k) (hw : zWf i st) (hC : C k ≠ b) (hd : st.1 k = some d) (hr : zStp C a b = zbfs C b (161 - i) i st) (hB : zKB σ st) (hnb : ∀ z ∈ st.2, C z ≠ b) (h0 : zEx [(8, 1), (8, 2)] σ0 σ) : ∃ t, zwh (fun (q : (Int32 × Int32 × zM)) => f_X8_walk_L73 s (nI b) x3 x4 (nI i) (nI (zpl k)) (nI d) q.1 q.2.1 q.2.2) zFu (nI st.2.length, 0, σ) = some t ∧ ((∃ σ', t = .inr (nI (zcoP C (d + 1) k st 5).2.length, σ') ∧ zKB σ' (zcoP C (d + 1) k st 5) ∧ (∀ z ∈ (zcoP C (d + 1) k st 5).2, C z ≠ b) ∧ zEx [(8, 1), (8, 2)] σ0 σ') ∨ ∃ σ', t = .inl σ' ∧ zStp C a b = some (d + 1) ∧ zEx [(8, 1), (8, 2)] σ0 σ') := by
  have hk160 := (hw.1 k (List.mem_of_getElem? hk)).1
  have hd2 := hw.2.2 k d hd
  have hw1 := zWf_mo (Nat.le_succ i) hw
  have hpk := zpl_bd k hk160
  refine zwh_ex (fun (j : Nat) (q : Int32 × Int32 × zM) => q.1 = nI (zcoP C (d + 1) k st j).2.length ∧ q.2.1 = nI j ∧ zKB q.2.2 (zcoP C (d + 1) k st j) ∧ (∀ z ∈ (zcoP C (d + 1) k st j).2, C z ≠ b) ∧ zEx [(8, 1), (8, 2)] σ0 q.2.2) _ 5 ⟨rfl, rfl, hB, hnb, h0⟩ (fun j q hj hq => ?_) (fun q hq => ?_) (by omega)
  · obtain ⟨q1, q2, q3⟩ := q
    obtain ⟨h1, h2, h3, h4, h5⟩ := hq
    simp only at h1 h2 h3 h4 h5
    subst h1
    subst h2
    have hX : zCX q3 s C := zCX_fr (h5.2.2.2.1 7 s 2 (by simp)) (h5.2.2.2.1 7 s 3 (by simp)) (h5.2.2.2.1 7 s 4 (by simp)) (h5.1 7 s 5 (by simp)) hX0
    have e5 : zcoP C (d + 1) k st (j + 1) = (match zng C k j with | none => zcoP C (d + 1) k st j | some o => zcom (zcoP C (d + 1) k st j) o (d + 1)) := rfl
    have w1 : zWf (i + 1) (zcoP C (d + 1) k st j) := zWf_coP hw1 hk160 (by omega) j
    have w2 : zWf (i + 1) (zcoP C (d + 1) k st (j + 1)) := zWf_coP hw1 hk160 (by omega) (j + 1)
    have hl := zWf_len w2
    cases hg : zng C k j with
    | none =>
      rw [hg] at e5
      have e5 : zcoP C (d + 1) k st (j + 1) = zcoP C (d + 1) k st j := e5
      refine Or.inl ⟨(nI (zcoP C (d + 1) k st j).2.length, nI (j + 1), q3), ?_, ?_⟩
      · show f_X8_walk_L73 s (nI b) x3 x4 (nI i) (nI (zpl k)) (nI d) _ (nI j) q3 = _
        unfold f_X8_walk_L73 f_X8_walk_B166_73
        rw [if_neg (by rw [zq4, nI_ltI (by omega) (by omega)]; omega), X8_stepFrom hX hk160 hj, hg, Option.bind_some, if_pos (show (-1 : Int32) < 0 by decide), nI_1]
      · show _ ∧ _ ∧ zKB q3 (zcoP C (d + 1) k st (j + 1)) ∧ _
        rw [e5]
        exact ⟨rfl, rfl, h3, h4, h5⟩
    | some o =>
      rw [hg] at e5
      have e5 : zcoP C (d + 1) k st (j + 1) = zcom (zcoP C (d + 1) k st j) o (d + 1) := e5
      have ho := zng_lt hk160 hg
      have hpo := zpl_in o ho
      have c2 := hX.1 o ho
      have r1 : f_X8_stepFrom q3 s (nI (zpl k)) (nI j) = some (nI (zpl o)) := by rw [X8_stepFrom hX hk160 hj, hg]
      have eo : zA q3 8 0 2 (zpl o) = zOI ((zcoP C (d + 1) k st j).1 o) := by rw [h3.1 _ hpo.2.2, if_pos hpo.1, hpo.2.1]
      cases hn : (zcoP C (d + 1) k st j).1 o with
      | some v =>
        have e7 : zcom (zcoP C (d + 1) k st j) o (d + 1) = zcoP C (d + 1) k st j := by
          unfold zcom
          rw [if_neg (by rw [hn]; exact fun h => by cases h)]
        rw [e7] at e5
        refine Or.inl ⟨(nI (zcoP C (d + 1) k st j).2.length, nI (j + 1), q3), ?_, ?_⟩
        · show f_X8_walk_L73 s (nI b) x3 x4 (nI i) (nI (zpl k)) (nI d) _ (nI j) q3 = _
          unfold f_X8_walk_L73 f_X8_walk_B166_73
          rw [if_neg (by rw [zq4, nI_ltI (by omega) (by omega)]; omega), r1, Option.bind_some, if_neg (zlt0 (by omega)), if_neg (by rw [zq240, nI_leI (by omega) (by omega)]; omega), zix_n hpo.2.2 (by omega), Option.bind_some, eo, hn, if_neg (show ¬ zOI (some v) = -1 from znI_m1 (by have := w1.2.2 o v hn; omega)), nI_1]
        · show _ ∧ _ ∧ zKB q3 (zcoP C (d + 1) k st (j + 1)) ∧ _
          rw [e5]
          exact ⟨rfl, rfl, h3, h4, h5⟩
      | none =>
        have e7 : zcom (zcoP C (d + 1) k st j) o (d + 1) = (fun x => if x = o then some (d + 1) else (zcoP C (d + 1) k st j).1 x, (zcoP C (d + 1) k st j).2 ++ [o]) := by
          unfold zcom
          rw [if_pos hn]
        have x1 : zEx [(8, 1), (8, 2)] σ0 (zsA q3 8 0 2 (zpl o) (nI (d + 1))) := h5.tr (zEx_sA (by decide))
        have t1 : f_X7_thingAt q3 s (nI (zpl o)) = some (nI (C o)) := by rw [zthing hpo.2.2, hX.2.1 _ hpo.2.2, zBd_pl ho]
        by_cases hob : C o = b
        · refine Or.inr ⟨.inl q3, ?_, Or.inr ⟨_, rfl, ?_, h5⟩⟩
          · show f_X8_walk_L73 s (nI b) x3 x4 (nI i) (nI (zpl k)) (nI d) _ (nI j) q3 = _
            unfold f_X8_walk_L73 f_X8_walk_B166_73
            rw [if_neg (by rw [zq4, nI_ltI (by omega) (by omega)]; omega), r1, Option.bind_some, if_neg (zlt0 (by omega)), if_neg (by rw [zq240, nI_leI (by omega) (by omega)]; omega), zix_n hpo.2.2 (by omega), Option.bind_some, eo, hn, if_pos (show zOI none = -1 from rfl), t1, Option.bind_some, if_pos (by rw [hob])]
          · exact zbfs_found hw hi hk hC hd hr hj hg hn hob h4
        · rw [e7] at e5
          rw [e5] at hl
          have hl : ((zcoP C (d + 1) k st j).2 ++ [o]).length ≤ 160 := hl
          rw [List.length_append, List.length_singleton] at hl
          refine Or.inl ⟨(nI ((zcoP C (d + 1) k st j).2.length + 1), nI (j + 1), zsA (zsA q3 8 0 2 (zpl o) (nI (d + 1))) 8 0 1 (zcoP C (d + 1) k st j).2.length (nI (zpl o))), ?_, ?_⟩
          · show f_X8_walk_L73 s (nI b) x3 x4 (nI i) (nI (zpl k)) (nI d) _ (nI j) q3 = _
            unfold f_X8_walk_L73 f_X8_walk_B166_73
            rw [if_neg (by rw [zq4, nI_ltI (by omega) (by omega)]; omega), r1, Option.bind_some, if_neg (zlt0 (by omega)), if_neg (by rw [zq240, nI_leI (by omega) (by omega)]; omega), zix_n hpo.2.2 (by omega), Option.bind_some, eo, hn, if_pos (show zOI none = -1 from rfl), t1, Option.bind_some, if_neg (by rw [nI_eq (by omega) (by omega)]; exact hob), Option.bind_some, zlt_e, if_neg (by rw [zq160, nI_leI (by omega) (by omega)]; omega), zix_n (show (zcoP C (d + 1) k st j).2.length < 160 by omega) (by omega), Option.bind_some, zlt_e, nI_1, nI_1, nI_1]
          · show nI _ = nI (zcoP C (d + 1) k st (j + 1)).2.length ∧ _ ∧ zKB _ (zcoP C (d + 1) k st (j + 1)) ∧ (∀ z ∈ (zcoP C (d + 1) k st (j + 1)).2, C z ≠ b) ∧ _
            rw [e5]
            refine ⟨?_, rfl, ⟨fun p hp => ?_, fun q z hq => ?_⟩, fun z hz => ?_, x1.tr (zEx_sA (by decide))⟩
            · show nI _ = nI ((zcoP C (d + 1) k st j).2 ++ [o]).length
              rw [List.length_append, List.length_singleton]
            · show zu (zA q3 8 0 2) (zpl o) (nI (d + 1)) p = if zinB p then zOI (if zce p = o then some (d + 1) else (zcoP C (d + 1) k st j).1 (zce p)) else -1
              by_cases ep : p = zpl o
              · rw [ep, zu_eq, if_pos hpo.1, if_pos hpo.2.1]
                rfl
              · rw [zu_ne _ _ ep, h3.1 p hp]
                by_cases hbp : zinB p = true
                · rw [if_pos hbp, if_pos hbp, if_neg (fun e => ep (by rw [← e, (zce_pl p hp hbp).1]))]
                · rw [if_neg hbp, if_neg hbp]
            · show zu (zA q3 8 0 1) _ (nI (zpl o)) q = nI (zpl z)
              have hq : ((zcoP C (d + 1) k st j).2 ++ [o])[q]? = some z := hq
              by_cases eq : q = (zcoP C (d + 1) k st j).2.length
              · rw [eq, zu_eq]
                rw [eq, List.getElem?_append_right (Nat.le_refl _)] at hq
                simp at hq
                rw [hq]
              · have hlt : q < (zcoP C (d + 1) k st j).2.length := by
                  obtain ⟨hh, -⟩ := List.getElem?_eq_some_iff.mp hq
                  rw [List.length_append, List.length_singleton] at hh
                  omega
                rw [zu_ne _ _ eq]
                rw [List.getElem?_append_left hlt] at hq
                exact h3.2 q z hq
            · rcases List.mem_append.mp hz with hz | hz
              · exact h4 z hz
              · rw [List.mem_singleton] at hz
                rw [hz]
                exact hob
  · obtain ⟨q1, q2, q3⟩ := q
    obtain ⟨h1, h2, h3, h4, h5⟩ := hq
    simp only at h1 h2 h3 h4 h5
    subst h1
    subst h2
    refine ⟨.inr (nI (zcoP C (d + 1) k st 5).2.length, q3), ?_, Or.inl ⟨q3, rfl, h3, h4, h5⟩⟩
    show f_X8_walk_L73 s (nI b) x3 x4 (nI i) (nI (zpl k)) (nI d) _ (nI 5) q3 = _
    unfold f_X8_walk_L73
    rw [if_pos (show (4 : Int32) < nI 5 by decide)]
