/-! ways: the search as both make it -/
def zng (C : Nat → Nat) (k j : Nat) : Option Nat := if j < 4 then (match znb k j with | none => none | some o => if zstp1 C k o then some o else none) else if C k = 14 ∧ C (zovr k) = 14 then some (zovr k) else none
def zcoP (C : Nat → Nat) (n k : Nat) (st : zBS) : Nat → zBS
  | 0 => st
  | j + 1 => match zng C k j with
    | none => zcoP C n k st j
    | some o => zcom (zcoP C n k st j) o n
theorem znbs_ng (C : Nat → Nat) (k : Nat) : znbs C k = [0, 1, 2, 3, 4].filterMap (zng C k) := by
  rw [show [0, 1, 2, 3, 4] = [0, 1, 2, 3] ++ [4] from rfl, List.filterMap_append]
  unfold znbs
  congr 1
  by_cases h : C k = 14 ∧ C (zovr k) = 14
  · rw [if_pos h]
    have e : zng C k 4 = some (zovr k) := by unfold zng; rw [if_neg (by omega), if_pos h]
    simp [e]
  · rw [if_neg h]
    have e : zng C k 4 = none := by unfold zng; rw [if_neg (by omega), if_neg h]
    simp [e]
theorem zfoldP (f : Nat → Option Nat) (n : Nat) : ∀ (l : List Nat) (st : zBS), zcoms st n (l.filterMap f) = l.foldl (fun st j => match f j with | none => st | some o => zcom st o n) st
  | [], st => rfl
  | a :: l, st => by
    have ih := zfoldP f n l
    rw [List.filterMap_cons, List.foldl_cons]
    cases h : f a with
    | none => simp only [h]; exact ih st
    | some y =>
      simp only [h]
      exact ih (zcom st y n)
theorem zcoP_5 (C : Nat → Nat) (n k : Nat) (st : zBS) : zcoP C n k st 5 = zcoms st n (znbs C k) := by
  rw [znbs_ng, zfoldP]
  rfl
/-- what a search's state keeps to behind i cells of the queue -/
def zWf (i : Nat) (st : zBS) : Prop := (∀ k, k ∈ st.2 → k < 160 ∧ st.1 k ≠ none) ∧ st.2.Nodup ∧ ∀ k d, st.1 k = some d → d ≤ i
theorem zWf_len {i : Nat} {st : zBS} (h : zWf i st) : st.2.length ≤ 160 := by
  refine fb_holes 160 st.2.length (fun j => st.2.getD j 0) (fun j hj => ?_) (fun j j' h1 h2 => ?_)
  · have : st.2.getD j 0 = st.2[j] := by simp [List.getD, hj]
    show st.2.getD j 0 < 160
    rw [this]
    exact (h.1 _ (List.getElem_mem hj)).1
  · have hj : j < st.2.length := by omega
    have a1 : st.2.getD j 0 = st.2[j] := by simp [List.getD, hj]
    have a2 : st.2.getD j' 0 = st.2[j'] := by simp [List.getD, h2]
    show st.2.getD j 0 ≠ st.2.getD j' 0
    rw [a1, a2]
    exact (List.pairwise_iff_getElem.mp h.2.1) j j' hj h2 h1
theorem zWf_mo {i i' : Nat} {st : zBS} (hi : i ≤ i') (h : zWf i st) : zWf i' st := ⟨h.1, h.2.1, fun k d e => Nat.le_trans (h.2.2 k d e) hi⟩
theorem zWf_com {i o n : Nat} {st : zBS} (h : zWf i st) (ho : o < 160) (hn : n ≤ i) : zWf i (zcom st o n) := by
  unfold zcom
  by_cases e : st.1 o = none
  · rw [if_pos e]
    refine ⟨fun k hk => ?_, ?_, fun k d hd => ?_⟩
    · rcases List.mem_append.mp hk with hk | hk
      · refine ⟨(h.1 k hk).1, ?_⟩
        show (if k = o then some n else st.1 k) ≠ none
        split
        · exact fun h => by cases h
        · exact (h.1 k hk).2
      · rw [List.mem_singleton] at hk
        subst hk
        refine ⟨ho, ?_⟩
        show (if k = k then some n else st.1 k) ≠ none
        rw [if_pos rfl]
        exact fun h => by cases h
    · rw [List.nodup_append]
      refine ⟨h.2.1, by simp, fun a ha b hb => ?_⟩
      rw [List.mem_singleton] at hb
      subst hb
      exact fun e2 => (h.1 a ha).2 (e2 ▸ e)
    · have hd : (if k = o then some n else st.1 k) = some d := hd
      split at hd
      · cases hd; exact hn
      · exact h.2.2 k d hd
  · rw [if_neg e]
    exact h
theorem zng_lt {C : Nat → Nat} {k j o : Nat} (hk : k < 160) (h : zng C k j = some o) : o < 160 := by
  unfold zng at h
  by_cases hj : j < 4
  · rw [if_pos hj] at h
    have h2 := znb_op k hk j hj
    cases e : znb k j with
    | none => rw [e] at h; cases h
    | some z =>
      rw [e] at h h2
      have h : (if zstp1 C k z then some z else none) = some o := h
      split at h
      · cases h; exact h2.1
      · cases h
  · rw [if_neg hj] at h
    split at h
    · cases h
      unfold zovr
      omega
    · cases h
theorem zWf_coP {C : Nat → Nat} {i n k : Nat} {st : zBS} (h : zWf i st) (hk : k < 160) (hn : n ≤ i) : ∀ j, zWf i (zcoP C n k st j)
  | 0 => h
  | j + 1 => by
    have ih := zWf_coP (C := C) h hk hn j
    show zWf i (match zng C k j with | none => zcoP C n k st j | some o => zcom (zcoP C n k st j) o n)
    cases e : zng C k j with
    | none => exact ih
    | some o => exact zWf_com ih (zng_lt hk e) hn
/-- nothing found is lost -/
theorem zcom_x {st : zBS} {o n : Nat} : (∀ (j k : Nat), st.2[j]? = some k → (zcom st o n).2[j]? = some k) ∧ ∀ x v, st.1 x = some v → (zcom st o n).1 x = some v := by
  unfold zcom
  by_cases e : st.1 o = none
  · rw [if_pos e]
    refine ⟨fun j k h => ?_, fun x v h => ?_⟩
    · show (st.2 ++ [o])[j]? = some k
      obtain ⟨hj, -⟩ := List.getElem?_eq_some_iff.mp h
      rw [List.getElem?_append_left hj]
      exact h
    · show (if x = o then some n else st.1 x) = some v
      rw [if_neg (fun ex => by rw [ex, e] at h; cases h)]
      exact h
  · rw [if_neg e]
    exact ⟨fun _ _ h => h, fun _ _ h => h⟩
theorem zcoP_x {C : Nat → Nat} {n k : Nat} {st : zBS} : ∀ i, (∀ (j z : Nat), st.2[j]? = some z → (zcoP C n k st i).2[j]? = some z) ∧ ∀ x v, st.1 x = some v → (zcoP C n k st i).1 x = some v
  | 0 => ⟨fun _ _ h => h, fun _ _ h => h⟩
  | i + 1 => by
    obtain ⟨h1, h2⟩ := zcoP_x (C := C) (n := n) (k := k) (st := st) i
    have e : zcoP C n k st (i + 1) = (match zng C k i with | none => zcoP C n k st i | some o => zcom (zcoP C n k st i) o n) := rfl
    rw [e]
    cases zng C k i with
    | none => exact ⟨h1, h2⟩
    | some o => exact ⟨fun j z h => zcom_x.1 j z (h1 j z h), fun x v h => zcom_x.2 x v (h2 x v h)⟩
theorem zbfs_st {C : Nat → Nat} {b f i k d : Nat} {st : zBS} (h : st.2[i]? = some k) (h2 : C k ≠ b) (h3 : st.1 k = some d) : zbfs C b (f + 1) i st = zbfs C b f (i + 1) (zcoP C (d + 1) k st 5) := by
  show (match st.2[i]? with | none => none | some k => if C k = b then st.1 k else zbfs C b f (i + 1) (zcoms st ((st.1 k).getD 0 + 1) (znbs C k))) = _
  rw [h]
  show (if C k = b then _ else _) = _
  rw [if_neg h2, h3, zcoP_5]
  rfl
theorem zbfs_no {C : Nat → Nat} {b f i : Nat} {st : zBS} (h : st.2.length ≤ i) : zbfs C b f i st = none := by
  cases f with
  | zero => rfl
  | succ f =>
    show (match st.2[i]? with | none => none | some k => if C k = b then st.1 k else zbfs C b f (i + 1) (zcoms st ((st.1 k).getD 0 + 1) (znbs C k))) = _
    rw [List.getElem?_eq_none h]
theorem zbfs_yes {C : Nat → Nat} {b f i k : Nat} {st : zBS} (h : st.2[i]? = some k) (h2 : C k = b) : zbfs C b (f + 1) i st = st.1 k := by
  show (match st.2[i]? with | none => none | some k => if C k = b then st.1 k else zbfs C b f (i + 1) (zcoms st ((st.1 k).getD 0 + 1) (znbs C k))) = _
  rw [h]
  show (if C k = b then _ else _) = _
  rw [if_pos h2]
/-- what stands in the queue, the first of its kind, is what the search ends with -/
theorem zbfs_hit {C : Nat → Nat} {b o v : Nat} : ∀ (d f i : Nat) (st : zBS), st.2[i + d]? = some o → C o = b → (∀ j k, j < i + d → st.2[j]? = some k → C k ≠ b ∧ st.1 k ≠ none) → st.1 o = some v → d < f → zbfs C b f i st = some v
  | 0, f, i, st, h1, h2, _, h4, h5 => by
    obtain ⟨f, rfl⟩ : ∃ m, f = m + 1 := ⟨f - 1, by omega⟩
    rw [Nat.add_zero] at h1
    rw [zbfs_yes h1 h2, h4]
  | d + 1, f, i, st, h1, h2, h3, h4, h5 => by
    obtain ⟨f, rfl⟩ : ∃ m, f = m + 1 := ⟨f - 1, by omega⟩
    obtain ⟨hl, -⟩ := List.getElem?_eq_some_iff.mp h1
    have hi : i < st.2.length := by omega
    have hk : st.2[i]? = some st.2[i] := List.getElem?_eq_getElem hi
    obtain ⟨c1, c2⟩ := h3 i st.2[i] (by omega) hk
    obtain ⟨w, hw⟩ : ∃ w, st.1 st.2[i] = some w := by
      cases e : st.1 st.2[i] with
      | none => exact absurd e c2
      | some w => exact ⟨w, rfl⟩
    rw [zbfs_st hk c1 hw]
    obtain ⟨x1, x2⟩ := zcoP_x (C := C) (n := w + 1) (k := st.2[i]) (st := st) 5
    refine zbfs_hit d f (i + 1) _ (x1 _ _ (by rw [show i + 1 + d = i + (d + 1) by omega]; exact h1)) h2 (fun j k hj hk2 => ?_) (x2 _ _ h4) (by omega)
    have hj2 : j < st.2.length := by omega
    have e := x1 j st.2[j] (List.getElem?_eq_getElem hj2)
    rw [e] at hk2
    cases hk2
    obtain ⟨d1, d2⟩ := h3 j st.2[j] (by omega) (List.getElem?_eq_getElem hj2)
    refine ⟨d1, ?_⟩
    cases e2 : st.1 st.2[j] with
    | none => exact absurd e2 d2
    | some z => rw [x2 _ _ e2]; exact fun h => by cases h
/-- the reference's arrays hold the state -/
def zRB (m : Nat) (σ : zM) (st : zBS) : Prop := (∀ k, k < m → zA σ 12 0 7 k = zOI (st.1 k)) ∧ (∀ j k, st.2[j]? = some k → zA σ 12 0 8 j = nI k) ∧ zI σ 12 0 9 = nI st.2.length
theorem zOI_n {i d : Nat} {st : zBS} {k : Nat} (h : zWf i st) (hi : i < 1000) (e : st.1 k = some d) : zOI (st.1 k) = nI d ∧ nI d ≠ -1 := by
  rw [e]
  exact ⟨rfl, znI_m1 (by have := h.2.2 k d e; omega)⟩
theorem X12_comes {σ : zM} {m i o n : Nat} {st : zBS} (h : zRB m σ st) (hw : zWf i st) (hi : i < 1000) (hm : m ≤ 160) (hom : o < m) (hn : n ≤ i) : ∃ σ', f_X12_comes σ (nI o) (nI n) = some σ' ∧ zRB m σ' (zcom st o n) ∧ zEx [(12, 7), (12, 8), (12, 9)] σ σ' := by
  obtain ⟨h1, h2, h3⟩ := h
  have ho : o < 160 := by omega
  have hl := zWf_len (zWf_com (n := n) hw ho hn)
  unfold f_X12_comes
  rw [zix_n ho (by omega), Option.bind_some, h1 o hom]
  cases e : st.1 o with
  | none =>
    have ec : zcom st o n = (fun x => if x = o then some n else st.1 x, st.2 ++ [o]) := by unfold zcom; rw [if_pos e]
    rw [ec] at hl ⊢
    have hl : (st.2 ++ [o]).length ≤ 160 := hl
    rw [List.length_append, List.length_singleton] at hl
    have e9 : zI (zsA σ 12 0 7 o (nI n)) 12 0 9 = nI st.2.length := h3
    refine ⟨zsI (zsA (zsA σ 12 0 7 o (nI n)) 12 0 8 st.2.length (nI o)) 12 0 9 (nI (st.2.length + 1)), ?_, ⟨fun k hk => ?_, fun j k hj => ?_, ?_⟩, (zEx_sA (by decide)).tr ((zEx_sA (by decide)).tr (zEx_sI (by decide)))⟩
    · rw [if_pos (show zOI none = -1 from rfl), Option.bind_some, zlt_e, e9, zix_n (show st.2.length < 160 by omega) (by omega), Option.bind_some, zlt_e, show zI (zsA (zsA σ 12 0 7 o (nI n)) 12 0 8 st.2.length (nI o)) 12 0 9 = nI st.2.length from h3, nI_1]
      rfl
    · show zu (zA σ 12 0 7) o (nI n) k = zOI (if k = o then some n else st.1 k)
      by_cases ek : k = o
      · rw [ek, zu_eq, if_pos rfl]; rfl
      · rw [zu_ne _ _ ek, if_neg ek]
        exact h1 k hk
    · show zu (zA σ 12 0 8) st.2.length (nI o) j = nI k
      have hj : (st.2 ++ [o])[j]? = some k := hj
      by_cases ej : j = st.2.length
      · rw [ej, zu_eq]
        rw [ej, List.getElem?_append_right (Nat.le_refl _)] at hj
        simp at hj
        rw [hj]
      · have hlt : j < st.2.length := by
          obtain ⟨hh, -⟩ := List.getElem?_eq_some_iff.mp hj
          rw [List.length_append, List.length_singleton] at hh
          omega
        rw [zu_ne _ _ ej]
        rw [List.getElem?_append_left hlt] at hj
        exact h2 j k hj
    · show nI (st.2.length + 1) = nI (st.2 ++ [o]).length
      rw [List.length_append, List.length_singleton]
  | some d =>
    have ec : zcom st o n = st := by unfold zcom; rw [if_neg (by rw [e]; exact fun h => by cases h)]
    rw [ec]
    refine ⟨σ, ?_, ⟨h1, h2, h3⟩, zEx.rf⟩
    rw [if_neg (show ¬ zOI (some d) = -1 from znI_m1 (by have := hw.2.2 o d e; omega))]
theorem X12_isStep {σ : zM} {s k o : Nat} {C : Nat → Nat} (hR : zRC σ s C) (hs : s < 10) (hk : k < 160) (ho : o < 160) : f_X12_isStep σ (nI s) (nI k) (nI o) = some (if zstp1 C k o then 1 else 0) := by
  have c1 := (hR k hk).1
  have c2 := (hR o ho).1
  unfold f_X12_isStep f_X12_isStep_B47 zstp1
  rw [X12_at_C hR hs hk, Option.bind_some, X12_at_C hR hs ho, Option.bind_some]
  have l0 : ∀ x, x < 15 → (nI x ≤ 0 ↔ x = 0) := fun x hx => by rw [show (0 : Int32) = nI 0 from rfl, nI_leI (by omega) (by omega)]; omega
  have l13 : ∀ x, x < 15 → (13 ≤ nI x ↔ 13 ≤ x) := fun x hx => by rw [zq13, nI_leI (by omega) (by omega)]
  have l13' : ∀ x, x < 15 → (nI x < 13 ↔ x < 13) := fun x hx => by rw [zq13, nI_ltI (by omega) (by omega)]
  have le : nI (C k) = nI (C o) ↔ C k = C o := nI_eq (by omega) (by omega)
  by_cases p1 : C k = 0
  · rw [if_pos ((l0 _ c1).mpr p1)]
    simp [p1]
  · rw [if_neg (mt (l0 _ c1).mp p1)]
    by_cases p2 : C o = 0
    · rw [if_pos ((l0 _ c2).mpr p2)]
      simp [p2]
    · rw [if_neg (mt (l0 _ c2).mp p2)]
      have q1 : 0 < C k := by omega
      have q2 : 0 < C o := by omega
      by_cases p3 : C k = C o
      · rw [if_pos (le.mpr p3)]
        simp [q1, q2, p3]
      · rw [if_neg (mt le.mp p3)]
        by_cases p4 : 13 ≤ C k
        · rw [if_pos ((l13 _ c1).mpr p4)]
          simp [q1, q2, p4]
        · rw [if_neg (mt (l13 _ c1).mp p4)]
          by_cases p5 : C o < 13
          · rw [if_pos ((l13' _ c2).mpr p5)]
            simp [p3, p4]
            omega
          · rw [if_neg (mt (l13' _ c2).mp p5)]
            have p6 : 13 ≤ C o := by omega
            simp [q1, q2, p6]
