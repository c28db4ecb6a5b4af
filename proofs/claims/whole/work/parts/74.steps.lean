/-! ways: the class's search outside, the call -/
/-- the queue holds the nearer ones first -/
def zSo (n : Nat) (st : zBS) : Prop := (∀ k ∈ st.2, st.1 k ≠ none) ∧ (∀ (j j' k k' v v' : Nat), j ≤ j' → st.2[j]? = some k → st.2[j']? = some k' → st.1 k = some v → st.1 k' = some v' → v ≤ v') ∧ ∀ k ∈ st.2, ∀ v, st.1 k = some v → v ≤ n
theorem zSo_com {n o : Nat} {st : zBS} (h : zSo n st) : zSo n (zcom st o n) := by
  unfold zcom
  by_cases e : st.1 o = none
  · rw [if_pos e]
    have hne : ∀ k ∈ st.2, k ≠ o := fun k hk ek => h.1 k hk (by rw [ek]; exact e)
    have hv : ∀ k v, k ∈ st.2 → (if k = o then some n else st.1 k) = some v → st.1 k = some v := fun k v hk hv => by
      rw [if_neg (hne k hk)] at hv
      exact hv
    have hat : ∀ (j k : Nat), (st.2 ++ [o])[j]? = some k → (st.2[j]? = some k ∧ k ∈ st.2) ∨ (j = st.2.length ∧ k = o) := fun j k hj => by
      by_cases hl : j < st.2.length
      · rw [List.getElem?_append_left hl] at hj
        exact Or.inl ⟨hj, List.mem_of_getElem? hj⟩
      · obtain ⟨hh, -⟩ := List.getElem?_eq_some_iff.mp hj
        rw [List.length_append, List.length_singleton] at hh
        have ej : j = st.2.length := by omega
        rw [ej, List.getElem?_append_right (Nat.le_refl _)] at hj
        simp at hj
        exact Or.inr ⟨ej, hj.symm⟩
    refine ⟨fun k hk => ?_, fun j j' k k' v v' hjj hj hj' hk hk' => ?_, fun k hk v hkv => ?_⟩
    · show (if k = o then some n else st.1 k) ≠ none
      rcases List.mem_append.mp hk with hk | hk
      · rw [if_neg (hne k hk)]
        exact h.1 k hk
      · rw [if_pos (List.mem_singleton.mp hk)]
        exact fun h => by cases h
    · have hk : (if k = o then some n else st.1 k) = some v := hk
      have hk' : (if k' = o then some n else st.1 k') = some v' := hk'
      rcases hat j k hj with ⟨a1, a2⟩ | ⟨a1, a2⟩
      · rcases hat j' k' hj' with ⟨b1, b2⟩ | ⟨b1, b2⟩
        · exact h.2.1 j j' k k' v v' hjj a1 b1 (hv k v a2 hk) (hv k' v' b2 hk')
        · rw [if_pos b2] at hk'
          cases hk'
          exact h.2.2 k a2 v (hv k v a2 hk)
      · rcases hat j' k' hj' with ⟨b1, b2⟩ | ⟨b1, b2⟩
        · obtain ⟨hh, -⟩ := List.getElem?_eq_some_iff.mp b1
          omega
        · rw [if_pos a2] at hk
          rw [if_pos b2] at hk'
          cases hk
          cases hk'
          exact Nat.le_refl _
    · have hkv : (if k = o then some n else st.1 k) = some v := hkv
      rcases List.mem_append.mp hk with hk | hk
      · exact h.2.2 k hk v (hv k v hk hkv)
      · rw [if_pos (List.mem_singleton.mp hk)] at hkv
        cases hkv
        exact Nat.le_refl _
  · rw [if_neg e]
    exact h
theorem zSo_coP {C : Nat → Nat} {n k : Nat} {st : zBS} (h : zSo n st) : ∀ j, zSo n (zcoP C n k st j)
  | 0 => h
  | j + 1 => by
    have ih := zSo_coP (C := C) (k := k) h j
    show zSo n (match zng C k j with | none => zcoP C n k st j | some o => zcom (zcoP C n k st j) o n)
    cases zng C k j with
    | none => exact ih
    | some o => exact zSo_com ih
theorem zSo_ini {C : Nat → Nat} {a n : Nat} : zSo n (zini C a) := by
  have e : ∀ k v, (zini C a).1 k = some v → v = 0 := fun k v h => by
    have h : (if k < 160 ∧ C k = a then some 0 else none) = some v := h
    split at h
    · cases h; rfl
    · cases h
  refine ⟨fun k hk => ((zinM_w (C := C) (a := a) (Nat.le_refl 160)).1 k hk).2, fun j j' k k' v v' _ _ _ h _ => by rw [e k v h]; exact Nat.zero_le _, fun k _ v h => by rw [e k v h]; exact Nat.zero_le _⟩
/-- who hasn't been found up to a place of the queue lies farther than that place -/
theorem zbfs_ge {C : Nat → Nat} {b d : Nat} : ∀ (f i : Nat) (st : zBS), (∀ (j k : Nat), i ≤ j → st.2[j]? = some k → ∃ v, st.1 k = some v ∧ d ≤ v ∧ (C k = b → d + 1 ≤ v)) → ∀ r, zbfs C b f i st = some r → d + 1 ≤ r
  | 0, _, _, _, _, h => by cases h
  | f + 1, i, st, hq, r, h => by
    cases hk : st.2[i]? with
    | none =>
      rw [zbfs_no (List.getElem?_eq_none_iff.mp hk)] at h
      cases h
    | some k =>
      obtain ⟨v, hv, hd, hb⟩ := hq i k (Nat.le_refl _) hk
      by_cases hC : C k = b
      · rw [zbfs_yes hk hC, hv] at h
        cases h
        exact hb hC
      · rw [zbfs_st hk hC hv] at h
        refine zbfs_ge f (i + 1) _ ?_ r h
        have hind : ∀ m (j z : Nat), i ≤ j → (zcoP C (v + 1) k st m).2[j]? = some z → ∃ w, (zcoP C (v + 1) k st m).1 z = some w ∧ d ≤ w ∧ (C z = b → d + 1 ≤ w) := by
          intro m
          induction m with
          | zero => exact fun j z hj hz => hq j z hj hz
          | succ m ih =>
            intro j z hj hz
            have e1 : zcoP C (v + 1) k st (m + 1) = (match zng C k m with | none => zcoP C (v + 1) k st m | some o => zcom (zcoP C (v + 1) k st m) o (v + 1)) := rfl
            rw [e1] at hz ⊢
            cases hg : zng C k m with
            | none =>
              rw [hg] at hz
              exact ih j z hj hz
            | some o =>
              rw [hg] at hz
              have hz : (zcom (zcoP C (v + 1) k st m) o (v + 1)).2[j]? = some z := hz
              show ∃ w, (zcom (zcoP C (v + 1) k st m) o (v + 1)).1 z = some w ∧ _
              unfold zcom at hz ⊢
              by_cases eo : (zcoP C (v + 1) k st m).1 o = none
              · rw [if_pos eo] at hz ⊢
                have hz : ((zcoP C (v + 1) k st m).2 ++ [o])[j]? = some z := hz
                show ∃ w, (if z = o then some (v + 1) else (zcoP C (v + 1) k st m).1 z) = some w ∧ _
                by_cases ez : z = o
                · exact ⟨v + 1, by rw [if_pos ez], by omega, fun _ => by omega⟩
                · rw [if_neg ez]
                  by_cases hl : j < (zcoP C (v + 1) k st m).2.length
                  · rw [List.getElem?_append_left hl] at hz
                    exact ih j z hj hz
                  · obtain ⟨hh, -⟩ := List.getElem?_eq_some_iff.mp hz
                    rw [List.length_append, List.length_singleton] at hh
                    have ej : j = (zcoP C (v + 1) k st m).2.length := by omega
                    rw [ej, List.getElem?_append_right (Nat.le_refl _)] at hz
                    simp at hz
                    exact absurd hz.symm ez
              · rw [if_neg eo] at hz ⊢
                exact ih j z hj hz
        exact fun j z hj hz => hind 5 j z (by omega) hz
/-- a number of steps, if it is within u -/
def zWtn (x : Option Nat) (u : Nat) : Option Nat := match x with
  | none => none
  | some d => if d ≤ u then some d else none
theorem X8_wk2 {σ : zM} {s a b u : Nat} {C : Nat → Nat} {x3 : Int32} (hX0 : zCX σ s C) (hb : b < 15) (hu : u < 2147483648) (hB : zKB σ (zini C a)) (hnb : ∀ z ∈ (zini C a).2, C z ≠ b) : ∃ t, zwh (fun (q : (Int32 × Int32 × zM)) => f_X8_walk_L6 s (nI b) x3 (nI u) q.1 q.2.1 q.2.2) zFu (nI (zini C a).2.length, 0, σ) = some t ∧ ((∃ σ', (t = .inl σ' ∨ t = .inr (.inr σ')) ∧ zWtn (zStp C a b) u = none ∧ zEx [(8, 1), (8, 2)] σ σ') ∨ ∃ σ' v, t = .inr (.inl (nI v, σ')) ∧ zWtn (zStp C a b) u = some (v + 1) ∧ zEx [(8, 1), (8, 2)] σ σ') := by
  have stop : ∀ (i : Nat) (q3 : zM) (st : zBS), zStp C a b = zbfs C b (161 - i) i st → zEx [(8, 1), (8, 2)] σ q3 → i ≤ 160 → st.2.length ≤ 160 → st.2.length ≤ i → ∃ t, f_X8_walk_L6 s (nI b) x3 (nI u) (nI st.2.length) (nI i) q3 = some (.inr t) ∧ ((∃ σ', (t = .inl σ' ∨ t = .inr (.inr σ')) ∧ zWtn (zStp C a b) u = none ∧ zEx [(8, 1), (8, 2)] σ σ') ∨ ∃ σ' v, t = .inr (.inl (nI v, σ')) ∧ zWtn (zStp C a b) u = some (v + 1) ∧ zEx [(8, 1), (8, 2)] σ σ') := by
    intro i q3 st h3 h4 hi hl hle
    refine ⟨.inr (.inr q3), ?_, Or.inl ⟨q3, Or.inr rfl, by rw [h3, zbfs_no hle]; rfl, h4⟩⟩
    unfold f_X8_walk_L6
    rw [if_pos (nI_le hle (by omega))]
  refine zwh_ex (fun (i : Nat) (q : Int32 × Int32 × zM) => q.2.1 = nI i ∧ ∃ st, q.1 = nI st.2.length ∧ zWf i st ∧ zKB q.2.2 st ∧ (∀ z ∈ st.2, C z ≠ b) ∧ zEx [(8, 1), (8, 2)] σ q.2.2 ∧ zStp C a b = zbfs C b (161 - i) i st ∧ ∀ k d, st.2[i]? = some k → st.1 k = some d → zSo (d + 1) st) _ 160 ⟨rfl, zini C a, rfl, zinM_w (Nat.le_refl 160), hB, hnb, zEx.rf, rfl, fun _ _ _ _ => zSo_ini⟩ (fun i q hi hq => ?_) (fun q hq => ?_) (by omega)
  · obtain ⟨q1, q2, q3⟩ := q
    obtain ⟨h1, st, h2, hw, h3, h4, h5, h6, h7⟩ := hq
    simp only at h1 h2 h3 h4 h5
    subst h1
    subst h2
    have hl := zWf_len hw
    by_cases hle : st.2.length ≤ i
    · exact Or.inr (stop i q3 st h6 h5 (by omega) hl hle)
    · have hlt : i < st.2.length := by omega
      have hk := List.getElem?_eq_getElem hlt
      generalize st.2[i] = k at hk
      have hm : k ∈ st.2 := List.mem_of_getElem? hk
      have hk160 := (hw.1 k hm).1
      obtain ⟨d, hd⟩ : ∃ d, st.1 k = some d := by
        cases e : st.1 k with
        | none => exact absurd e (hw.1 k hm).2
        | some d => exact ⟨d, rfl⟩
      have hd2 := hw.2.2 k d hd
      have hso := h7 k d hk hd
      have e8 : zA q3 8 0 1 i = nI (zpl k) := h3.2 i k hk
      have hpk := zpl_in k hk160
      have ek : zA q3 8 0 2 (zpl k) = nI d := by
        rw [h3.1 _ hpk.2.2, if_pos hpk.1, hpk.2.1, hd]
        rfl
      have hC := h4 k hm
      have start : ∀ R, f_X8_walk_B59_6 q3 s (nI b) x3 (nI u) (nI st.2.length) (nI i) (nI (zpl k)) (nI d) = R → f_X8_walk_L6 s (nI b) x3 (nI u) (nI st.2.length) (nI i) q3 = R := by
        intro R hR
        unfold f_X8_walk_L6
        rw [if_neg (by rw [nI_leI (by omega) (by omega)]; omega), if_neg (by rw [zq160, nI_leI (by omega) (by omega)]; omega), zix_n hi (by omega), Option.bind_some, e8, if_neg (zlt0 (by have := hpk.2.2; omega)), if_neg (by have := hpk.2.2; rw [zq240, nI_leI (by omega) (by omega)]; omega), zix_n hpk.2.2 (by omega), Option.bind_some, ek]
        exact hR
      by_cases hdu : d < u
      · obtain ⟨t, w1, ht⟩ := X8_wk1 (x3 := x3) (x4 := nI u) hX0 hb hi hk hw hC hd h6 h3 h4 h5
        have body : ∀ R, (some t).bind (fun q => zsm q (fun q => some (.inr (.inr (.inl (nI d, q))))) (fun q => f_X8_walk_B172_6 q.2 s (nI b) x3 (nI u) q.1 (nI i))) = R → f_X8_walk_L6 s (nI b) x3 (nI u) (nI st.2.length) (nI i) q3 = R := by
          intro R hR
          refine start R ?_
          unfold f_X8_walk_B59_6
          rw [if_pos (nI_lt hdu hu)]
          rw [show (0 : Int32) = nI 0 from rfl] at w1
          exact (congrArg (fun z => Option.bind z _) w1).trans hR
        rcases ht with ⟨σ', rfl, g1, g2, g3⟩ | ⟨σ', rfl, g3, g4⟩
        · have h6' := h6
          rw [show 161 - i = (160 - i) + 1 by omega, zbfs_st hk hC hd] at h6'
          refine Or.inl ⟨(nI (zcoP C (d + 1) k st 5).2.length, nI (i + 1), σ'), body _ ?_, rfl, zcoP C (d + 1) k st 5, rfl, zWf_coP (zWf_mo (Nat.le_succ i) hw) hk160 (by omega) 5, g1, g2, g3, by rw [show 161 - (i + 1) = 160 - i by omega]; exact h6', fun k' d' hk' hd' => ?_⟩
          · rw [← nI_1]
            rfl
          · have hs5 := zSo_coP (C := C) (k := k) hso 5
            obtain ⟨m1, m2⟩ := zcoP_x (C := C) (n := d + 1) (k := k) (st := st) 5
            have hdd : d ≤ d' := hs5.2.1 i (i + 1) k k' d d' (by omega) (m1 i k hk) hk' (m2 k d hd) hd'
            exact ⟨hs5.1, hs5.2.1, fun z hz v hv => Nat.le_trans (hs5.2.2 z hz v hv) (by omega)⟩
        · refine Or.inr ⟨.inr (.inl (nI d, σ')), body _ rfl, Or.inr ⟨σ', d, rfl, ?_, g4⟩⟩
          rw [g3]
          exact if_pos (by omega)
      · refine Or.inr ⟨.inl q3, start _ ?_, Or.inl ⟨q3, Or.inl rfl, ?_, h5⟩⟩
        · unfold f_X8_walk_B59_6
          rw [if_neg (by rw [nI_ltI (by omega) hu]; exact hdu)]
        · cases er : zStp C a b with
          | none => rfl
          | some r =>
            have hge := zbfs_ge (C := C) (b := b) (d := d) (161 - i) i st (fun j z hj hz => by
              cases ev : st.1 z with
              | none => exact absurd ev (hso.1 z (List.mem_of_getElem? hz))
              | some v => exact ⟨v, rfl, hso.2.1 i j k z d v hj hk hz hd ev, fun e => absurd e (h4 z (List.mem_of_getElem? hz))⟩) r (by rw [← h6]; exact er)
            exact if_neg (by omega)
  · obtain ⟨q1, q2, q3⟩ := q
    obtain ⟨h1, st, h2, hw, h3, h4, h5, h6, -⟩ := hq
    simp only at h1 h2 h3 h4 h5
    subst h1
    subst h2
    have hl := zWf_len hw
    exact stop 160 q3 st h6 h5 (Nat.le_refl _) hl hl
def zhh (p : Nat) : Option Nat := if zinB p then some (zce p) else none
def zqP (C : Nat → Nat) (a p : Nat) : List Nat := ((List.range p).filterMap zhh).filter fun k => decide (C k = a)
theorem zqP_s {C : Nat → Nat} {a p : Nat} (ha : 1 ≤ a) : zqP C a (p + 1) = zqP C a p ++ if zBd C p = a then [zce p] else [] := by
  unfold zqP
  rw [List.range_succ, List.filterMap_append, List.filter_append]
  congr 1
  by_cases hb : zinB p = true
  · have e : zhh p = some (zce p) := by unfold zhh; rw [if_pos hb]
    have e2 : zBd C p = C (zce p) := by unfold zBd; rw [if_pos hb]
    rw [e2]
    by_cases h : C (zce p) = a
    · simp [e, h]
    · simp [e, h]
  · have e : zhh p = none := by unfold zhh; rw [if_neg hb]
    have e2 : zBd C p = 0 := by unfold zBd; rw [if_neg hb]
    rw [e2, if_neg (by omega)]
    simp [e]
theorem zqP_all (C : Nat → Nat) (a : Nat) : zqP C a 240 = (zini C a).2 := by
  unfold zqP zini
  rw [show (List.range 240).filterMap zhh = List.range 160 by decide +kernel]
theorem zqP_len {C : Nat → Nat} {a p : Nat} (hp : p ≤ 240) : (zqP C a p).length ≤ 160 := by
  have h1 : (zqP C a p).length ≤ (zqP C a 240).length := by
    unfold zqP
    exact (((List.range_sublist.mpr hp).filterMap zhh).filter _).length_le
  have h2 : (zqP C a 240).length ≤ 160 := by
    rw [zqP_all]
    exact zWf_len (zinM_w (Nat.le_refl 160))
  omega
theorem X8_wk0 {σ : zM} {s a : Nat} {C : Nat → Nat} {x3 x4 : Int32} (hX : zCX σ s C) (ha : 1 ≤ a) (ha2 : a < 15) : ∃ σ', zwh (fun (q : (Int32 × Int32 × zM)) => f_X8_stepsWithin_L36 s (nI a) x3 x4 q.1 q.2.1 q.2.2) zFu (0, 0, σ) = some (nI (zini C a).2.length, σ') ∧ zKB σ' (zini C a) ∧ zEx [(8, 1), (8, 2)] σ σ' := by
  have hz : ∃ t, zwh (fun (q : (Int32 × Int32 × zM)) => f_X8_stepsWithin_L36 s (nI a) x3 x4 q.1 q.2.1 q.2.2) zFu (0, 0, σ) = some t ∧ (t.1 = nI (zini C a).2.length ∧ zKB t.2 (zini C a) ∧ zEx [(8, 1), (8, 2)] σ t.2) := by
    refine zwh_ex (f := fun (q : (Int32 × Int32 × zM)) => f_X8_stepsWithin_L36 s (nI a) x3 x4 q.1 q.2.1 q.2.2) (fun (p : Nat) (q : Int32 × Int32 × zM) => q.1 = nI (zqP C a p).length ∧ q.2.1 = nI p ∧ (∀ p', p' < p → zA q.2.2 8 0 2 p' = if zBd C p' = a then 0 else -1) ∧ (∀ (j k : Nat), (zqP C a p)[j]? = some k → zA q.2.2 8 0 1 j = nI (zpl k)) ∧ zEx [(8, 1), (8, 2)] σ q.2.2) (fun (t : Int32 × zM) => t.1 = nI (zini C a).2.length ∧ zKB t.2 (zini C a) ∧ zEx [(8, 1), (8, 2)] σ t.2) 240 (s := (0, 0, σ)) ⟨rfl, rfl, fun p' h => absurd h (by omega), fun j k h => absurd h (by simp [zqP]), zEx.rf⟩ (fun p q hp hq => ?_) (fun q hq => ?_) (by omega)
    · obtain ⟨q1, q2, q3⟩ := q
      obtain ⟨h1, h2, h3, h4, h5⟩ := hq
      simp only at h1 h2 h3 h4 h5
      subst h1
      subst h2
      have hXq : zCX q3 s C := zCX_fr (h5.2.2.2.1 7 s 2 (by simp)) (h5.2.2.2.1 7 s 3 (by simp)) (h5.2.2.2.1 7 s 4 (by simp)) (h5.1 7 s 5 (by simp)) hX
      have c15 := zBd_15 hX.1 hp
      have hl := zqP_len (C := C) (a := a) (show p + 1 ≤ 240 by omega)
      have es := zqP_s (C := C) (p := p) ha
      have zz : ∀ v : Int32, (∀ p', p' < p + 1 → zu (zA q3 8 0 2) p v p' = if p' = p then v else if zBd C p' = a then 0 else -1) := fun v p' hp' => by
        by_cases e : p' = p
        · rw [e, zu_eq, if_pos rfl]
        · rw [zu_ne _ _ e, if_neg e]
          exact h3 p' (by omega)
      by_cases h : zBd C p = a
      · rw [if_pos h] at es
        obtain ⟨b1, b2, b3⟩ := zBd_in ha h
        have b4 := zce_pl p b3 b1
        rw [es, List.length_append, List.length_singleton] at hl
        refine Or.inl ⟨(nI ((zqP C a p).length + 1), nI (p + 1), zsA (zsA q3 8 0 2 p 0) 8 0 1 (zqP C a p).length (nI p)), ?_, ?_, rfl, fun p' hp' => ?_, fun j k hj => ?_, h5.tr ((zEx_sA (by decide)).tr (zEx_sA (by decide)))⟩
        · show f_X8_stepsWithin_L36 s (nI a) x3 x4 _ (nI p) q3 = _
          unfold f_X8_stepsWithin_L36 f_X8_stepsWithin_B107_36
          rw [if_neg (by rw [zq240, nI_leI (by omega) (by omega)]; omega), zthing hp, hXq.2.1 p hp, Option.bind_some, zix_n hp (by omega), Option.bind_some, zlt_e, h, if_pos (show nI a = nI a from rfl), if_neg z10, if_neg z10, if_neg (by rw [zq160, nI_leI (by omega) (by omega)]; omega), zix_n (show (zqP C a p).length < 160 by omega) (by omega), Option.bind_some, zlt_e, nI_1, nI_1]
        · show nI _ = nI (zqP C a (p + 1)).length
          rw [es, List.length_append, List.length_singleton]
        · show zu (zA q3 8 0 2) p 0 p' = _
          rw [zz 0 p' hp']
          by_cases e : p' = p
          · rw [if_pos e, e, if_pos h]
          · rw [if_neg e]
        · show zu (zA q3 8 0 1) _ (nI p) j = nI (zpl k)
          have hj : (zqP C a (p + 1))[j]? = some k := hj
          rw [es] at hj
          by_cases eq : j = (zqP C a p).length
          · rw [eq, zu_eq]
            rw [eq, List.getElem?_append_right (Nat.le_refl _)] at hj
            simp at hj
            rw [← hj, b4.1]
          · have hlt : j < (zqP C a p).length := by
              obtain ⟨hh, -⟩ := List.getElem?_eq_some_iff.mp hj
              rw [List.length_append, List.length_singleton] at hh
              omega
            rw [zu_ne _ _ eq]
            rw [List.getElem?_append_left hlt] at hj
            exact h4 j k hj
      · rw [if_neg h, List.append_nil] at es
        have hne : ¬ nI (zBd C p) = nI a := by rw [nI_eq (by omega) (by omega)]; exact h
        refine Or.inl ⟨(nI (zqP C a p).length, nI (p + 1), zsA q3 8 0 2 p (-1)), ?_, ?_, rfl, fun p' hp' => ?_, fun j k hj => ?_, h5.tr (zEx_sA (by decide))⟩
        · show f_X8_stepsWithin_L36 s (nI a) x3 x4 _ (nI p) q3 = _
          unfold f_X8_stepsWithin_L36 f_X8_stepsWithin_B107_36
          rw [if_neg (by rw [zq240, nI_leI (by omega) (by omega)]; omega), zthing hp, hXq.2.1 p hp, Option.bind_some, zix_n hp (by omega), Option.bind_some, zlt_e, if_neg hne, if_pos rfl, if_pos rfl, nI_1]
        · show nI _ = nI (zqP C a (p + 1)).length
          rw [es]
        · show zu (zA q3 8 0 2) p (-1) p' = _
          rw [zz (-1) p' hp']
          by_cases e : p' = p
          · rw [if_pos e, e, if_neg h]
          · rw [if_neg e]
        · have hj : (zqP C a (p + 1))[j]? = some k := hj
          rw [es] at hj
          exact h4 j k hj
    · obtain ⟨q1, q2, q3⟩ := q
      obtain ⟨h1, h2, h3, h4, h5⟩ := hq
      simp only at h1 h2 h3 h4 h5
      subst h1
      subst h2
      refine ⟨(nI (zqP C a 240).length, q3), ?_, by rw [zqP_all], ⟨fun p hp => ?_, fun j k hj => h4 j k (by rw [zqP_all]; exact hj)⟩, h5⟩
      · show f_X8_stepsWithin_L36 s (nI a) x3 x4 _ (nI 240) q3 = _
        unfold f_X8_stepsWithin_L36
        rw [if_pos (show (240 : Int32) ≤ nI 240 by decide)]
      · rw [h3 p hp]
        unfold zBd
        by_cases hb : zinB p = true
        · rw [if_pos hb, if_pos hb]
          have hc := (zce_pl p hp hb).2
          show _ = zOI (if zce p < 160 ∧ C (zce p) = a then some 0 else none)
          by_cases e : C (zce p) = a
          · rw [if_pos e, if_pos ⟨hc, e⟩]
            rfl
          · rw [if_neg e, if_neg (fun h => e h.2)]
            rfl
        · rw [if_neg hb, if_neg hb, if_neg (by omega)]
  obtain ⟨t, h1, h2⟩ := hz
  obtain ⟨t1, t2⟩ := t
  obtain ⟨g1, g2, g3⟩ := h2
  simp only at g1 g2 g3
  subst g1
  exact ⟨t2, h1, g2, g3⟩
