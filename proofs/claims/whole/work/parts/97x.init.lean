/-! the start -/
theorem zZ_clr {F : List (Nat × Nat)} {σ : zM} {c i : Nat} (h : zEx F z00 σ) : zEx F z00 (zclr σ c i) := by
  refine ⟨fun c' i' k' hk => ?_, fun c' i' k' hk => ?_, fun c' i' k' hk => ?_, fun c' i' k' hk => h.2.2.2.1 c' i' k' hk, fun c' i' k' hk => h.2.2.2.2.1 c' i' k' hk, fun c' i' k' hk => h.2.2.2.2.2 c' i' k' hk⟩
  · show (if c' = c ∧ i' = i then 0 else zI σ c' i' k') = _
    split
    · rfl
    · exact h.1 c' i' k' hk
  · show (if c' = c ∧ i' = i then 0 else zJ σ c' i' k') = _
    split
    · rfl
    · exact h.2.1 c' i' k' hk
  · show (if c' = c ∧ i' = i then none else zR σ c' i' k') = _
    split
    · rfl
    · exact h.2.2.1 c' i' k' hk
theorem zZ_clA {F : List (Nat × Nat)} {σ : zM} {c i k : Nat} (h : zEx F z00 σ) : zEx F z00 (zclA σ c i k) := by
  refine ⟨fun c' i' k' hk => h.1 c' i' k' hk, fun c' i' k' hk => h.2.1 c' i' k' hk, fun c' i' k' hk => h.2.2.1 c' i' k' hk, fun c' i' k' hk => ?_, fun c' i' k' hk => ?_, fun c' i' k' hk => ?_⟩
  · show (if c' = c ∧ i' = i ∧ k' = k then (fun _ => 0) else zA σ c' i' k') = _
    split
    · rfl
    · exact h.2.2.2.1 c' i' k' hk
  · show (if c' = c ∧ i' = i ∧ k' = k then (fun _ => 0) else zL σ c' i' k') = _
    split
    · rfl
    · exact h.2.2.2.2.1 c' i' k' hk
  · show (if c' = c ∧ i' = i ∧ k' = k then (fun _ => none) else zO σ c' i' k') = _
    split
    · rfl
    · exact h.2.2.2.2.2 c' i' k' hk
theorem zZ_sI {F : List (Nat × Nat)} {σ : zM} {c i k : Nat} (h : zEx F z00 σ) : zEx F z00 (zsI σ c i k 0) := by
  refine ⟨fun c' i' k' hk => ?_, h.2.1, h.2.2.1, h.2.2.2.1, h.2.2.2.2.1, h.2.2.2.2.2⟩
  show (if c' = c ∧ i' = i ∧ k' = k then 0 else zI σ c' i' k') = _
  split
  · rfl
  · exact h.1 c' i' k' hk
theorem zZ_sJ {F : List (Nat × Nat)} {σ : zM} {c i k : Nat} (h : zEx F z00 σ) : zEx F z00 (zsJ σ c i k 0) := by
  refine ⟨h.1, fun c' i' k' hk => ?_, h.2.2.1, h.2.2.2.1, h.2.2.2.2.1, h.2.2.2.2.2⟩
  show (if c' = c ∧ i' = i ∧ k' = k then 0 else zJ σ c' i' k') = _
  split
  · rfl
  · exact h.2.1 c' i' k' hk
theorem zZ_sR {F : List (Nat × Nat)} {σ : zM} {c i k : Nat} (h : zEx F z00 σ) : zEx F z00 (zsR σ c i k none) := by
  refine ⟨h.1, h.2.1, fun c' i' k' hk => ?_, h.2.2.2.1, h.2.2.2.2.1, h.2.2.2.2.2⟩
  show (if c' = c ∧ i' = i ∧ k' = k then none else zR σ c' i' k') = _
  split
  · rfl
  · exact h.2.2.1 c' i' k' hk
/-- other briefs are as before -/
def zOth (σ σ' : zM) (o : Nat) : Prop := ∀ o' k, o' ≠ o → zA σ' 0 o' k = zA σ 0 o' k ∧ zI σ' 0 o' k = zI σ 0 o' k
theorem zOth.rf {σ : zM} {o : Nat} : zOth σ σ o := fun _ _ _ => ⟨rfl, rfl⟩
theorem zOth.tr {σ σ1 σ2 : zM} {o : Nat} (h : zOth σ σ1 o) (g : zOth σ1 σ2 o) : zOth σ σ2 o := fun o' k ho => ⟨(g o' k ho).1.trans (h o' k ho).1, (g o' k ho).2.trans (h o' k ho).2⟩
theorem zOth_A {σ : zM} {o k j : Nat} {v : Int32} : zOth σ (zsA σ 0 o k j v) o := fun o' k' ho => ⟨by rw [zA_sA, if_neg (fun e => ho e.2.1)], rfl⟩
theorem zOth_I {σ : zM} {o k : Nat} {v : Int32} : zOth σ (zsI σ 0 o k v) o := fun o' k' ho => ⟨rfl, by rw [zI_sI, if_neg (fun e => ho e.2.1)]⟩
theorem zOth_cA {σ : zM} {o k : Nat} : zOth σ (zclA σ 0 o k) o := fun o' k' ho => ⟨by rw [zA_clA, if_neg (fun e => ho e.2.1)], rfl⟩
theorem zOth_cl {σ : zM} {o : Nat} : zOth σ (zclr σ 0 o) o := fun o' k' ho => ⟨rfl, by rw [zI_clr, if_neg (fun e => ho e.2)]⟩
theorem zOth_x {F : List (Nat × Nat)} {σ σ' : zM} {o : Nat} (h : zEx F σ σ') (hF : ∀ k, (0, k) ∉ F) : zOth σ σ' o := fun o' k _ => ⟨h.2.2.2.1 0 o' k (hF k), h.1 0 o' k (hF k)⟩
theorem zELSE_e : ∀ w, w < 11 → zELSE w = nI (zels w) := by decide
theorem X0_wipe1 {σ : zM} {o : Nat} : ∃ σ', zwh (fun (q : (Int32 × zM)) => f_X0_wipe_L12 o q.1 q.2) zFu (0, σ) = some σ' ∧ zEx [(0, 5)] σ σ' ∧ (∀ w, w < 11 → zA σ' 0 o 5 w = nI (zels w)) ∧ zOth σ σ' o := by
  refine zwh_ex (fun (i : Nat) (q : Int32 × zM) => q.1 = nI i ∧ zEx [(0, 5)] σ q.2 ∧ (∀ w, w < i → zA q.2 0 o 5 w = nI (zels w)) ∧ zOth σ q.2 o) _ 11 ⟨rfl, zEx.rf, fun w hw => absurd hw (Nat.not_lt_zero w), zOth.rf⟩ (fun i q hi hq => ?_) (fun q hq => ?_) (by omega)
  · obtain ⟨q1, q2⟩ := q
    obtain ⟨g1, g2, g3, g4⟩ := hq
    simp only at g1 g2 g3 g4
    subst g1
    refine Or.inl ⟨(nI (i + 1), zsA q2 0 o 5 i (zELSE i)), ?_, rfl, g2.tr (zEx_sA (by decide)), fun w hw => ?_, g4.tr zOth_A⟩
    · show f_X0_wipe_L12 o (nI i) q2 = _
      unfold f_X0_wipe_L12
      rw [zq11, if_neg (by rw [nI_leI (by omega) (by omega)]; omega), if_neg (by rw [nI_leI (by omega) (by omega)]; omega), zix_n hi (by omega), Option.bind_some, Option.bind_some, zlt_e, nI_1]
    · rw [zA_sA, if_pos ⟨rfl, rfl, rfl⟩]
      by_cases e : w = i
      · rw [e, zu_eq, zELSE_e i hi]
      · rw [zu_ne _ _ e]
        exact g3 w (by omega)
  · obtain ⟨q1, q2⟩ := q
    obtain ⟨g1, g2, g3, g4⟩ := hq
    simp only at g1 g2 g3 g4
    subst g1
    refine ⟨q2, ?_, g2, g3, g4⟩
    show f_X0_wipe_L12 o (nI 11) q2 = _
    unfold f_X0_wipe_L12
    rw [zq11, if_pos (nI_le (Nat.le_refl _) (by omega))]
theorem X0_wipe2 {σ : zM} {o : Nat} : ∃ σ', zwh (fun (q : (Int32 × zM)) => f_X0_wipe_L48 o q.1 q.2) zFu (0, σ) = some σ' ∧ zEx [(0, 6)] σ σ' ∧ (∀ w, w < 13 → zA σ' 0 o 6 w = 100) ∧ zOth σ σ' o := by
  refine zwh_ex (fun (i : Nat) (q : Int32 × zM) => q.1 = nI i ∧ zEx [(0, 6)] σ q.2 ∧ (∀ w, w < i → zA q.2 0 o 6 w = 100) ∧ zOth σ q.2 o) _ 13 ⟨rfl, zEx.rf, fun w hw => absurd hw (Nat.not_lt_zero w), zOth.rf⟩ (fun i q hi hq => ?_) (fun q hq => ?_) (by omega)
  · obtain ⟨q1, q2⟩ := q
    obtain ⟨g1, g2, g3, g4⟩ := hq
    simp only at g1 g2 g3 g4
    subst g1
    refine Or.inl ⟨(nI (i + 1), zsA q2 0 o 6 i 100), ?_, rfl, g2.tr (zEx_sA (by decide)), fun w hw => ?_, g4.tr zOth_A⟩
    · show f_X0_wipe_L48 o (nI i) q2 = _
      unfold f_X0_wipe_L48
      rw [zq13, if_neg (by rw [nI_leI (by omega) (by omega)]; omega), zix_n hi (by omega), Option.bind_some, zlt_e, nI_1]
    · rw [zA_sA, if_pos ⟨rfl, rfl, rfl⟩]
      by_cases e : w = i
      · rw [e, zu_eq]
      · rw [zu_ne _ _ e]
        exact g3 w (by omega)
  · obtain ⟨q1, q2⟩ := q
    obtain ⟨g1, g2, g3, g4⟩ := hq
    simp only at g1 g2 g3 g4
    subst g1
    refine ⟨q2, ?_, g2, g3, g4⟩
    show f_X0_wipe_L48 o (nI 13) q2 = _
    unfold f_X0_wipe_L48
    rw [zq13, if_pos (nI_le (Nat.le_refl _) (by omega))]
theorem X0_wipe {σ : zM} {o : Nat} : ∃ σ', f_X0_wipe σ o = some σ' ∧ zEx [(0, 5), (0, 6), (0, 7), (0, 8)] σ σ' ∧ zI σ' 0 o 7 = 0 ∧ zI σ' 0 o 8 = 0 ∧ (∀ w, w < 11 → zA σ' 0 o 5 w = nI (zels w)) ∧ (∀ r, r < 13 → zA σ' 0 o 6 r = 100) ∧ zOth σ σ' o := by
  obtain ⟨σ1, h1⟩ : ∃ x, x = zsI (zsI σ 0 o 7 0) 0 o 8 0 := ⟨_, rfl⟩
  have x1 : zEx [(0, 7), (0, 8)] σ σ1 := by rw [h1]; exact (zEx_sI (by decide)).tr (zEx_sI (by decide))
  have e7 : zI σ1 0 o 7 = 0 := by rw [h1, zI_sI, if_neg (by omega), zI_sI, if_pos ⟨rfl, rfl, rfl⟩]
  have e8 : zI σ1 0 o 8 = 0 := by rw [h1, zI_sI, if_pos ⟨rfl, rfl, rfl⟩]
  obtain ⟨σ2, a1, a2, a3, a4⟩ := X0_wipe1 (σ := σ1) (o := o)
  obtain ⟨σ3, b1, b2, b3, b4⟩ := X0_wipe2 (σ := σ2) (o := o)
  refine ⟨σ3, ?_, (x1.mo (by decide)).tr ((a2.mo (by decide)).tr (b2.mo (by decide))), ?_, ?_, fun w hw => ?_, b3, ?_⟩
  · unfold f_X0_wipe f_X0_wipe_B46
    rw [zlt_e, zlt_e, ← h1, a1, Option.bind_some, b1, Option.bind_some]
  · rw [b2.1 0 o 7 (by decide), a2.1 0 o 7 (by decide), e7]
  · rw [b2.1 0 o 8 (by decide), a2.1 0 o 8 (by decide), e8]
  · rw [b2.2.2.2.1 0 o 5 (by decide)]
    exact a3 w hw
  · exact (show zOth σ σ1 o from by rw [h1]; exact zOth_I.tr zOth_I).tr (a4.tr b4)
theorem X2_iniL {σ : zM} : ∃ σ', zwh (fun (q : (Int32 × zM)) => f_X2_init_L20 q.1 q.2) zFu (0, σ) = some σ' ∧ zEx [(2, 0)] σ σ' ∧ ∀ i, i < 280 → zA σ' 2 0 0 i = nI 1001 := by
  refine zwh_ex (fun (i : Nat) (q : Int32 × zM) => q.1 = nI i ∧ zEx [(2, 0)] σ q.2 ∧ ∀ w, w < i → zA q.2 2 0 0 w = nI 1001) _ 280 ⟨rfl, zEx.rf, fun w hw => absurd hw (Nat.not_lt_zero w)⟩ (fun i q hi hq => ?_) (fun q hq => ?_) (by omega)
  · obtain ⟨q1, q2⟩ := q
    obtain ⟨g1, g2, g3⟩ := hq
    simp only at g1 g2 g3
    subst g1
    refine Or.inl ⟨(nI (i + 1), zsA q2 2 0 0 i 1001), ?_, rfl, g2.tr (zEx_sA (by decide)), fun w hw => ?_⟩
    · show f_X2_init_L20 (nI i) q2 = _
      unfold f_X2_init_L20
      rw [zq280, if_neg (by rw [nI_leI (by omega) (by omega)]; omega), zix_n hi (by omega), Option.bind_some, zlt_e, nI_1]
    · rw [zA_sA, if_pos ⟨rfl, rfl, rfl⟩]
      by_cases e : w = i
      · rw [e, zu_eq]
        rfl
      · rw [zu_ne _ _ e]
        exact g3 w (by omega)
  · obtain ⟨q1, q2⟩ := q
    obtain ⟨g1, g2, g3⟩ := hq
    simp only at g1 g2 g3
    subst g1
    refine ⟨q2, ?_, g2, g3⟩
    show f_X2_init_L20 (nI 280) q2 = _
    unfold f_X2_init_L20
    rw [zq280, if_pos (nI_le (Nat.le_refl _) (by omega))]
theorem X12_iniL {σ : zM} : ∃ σ', zwh (fun (q : (Int32 × zM)) => f_X12_init_L359 q.1 q.2) zFu (0, σ) = some σ' ∧ zEx [(12, 55)] σ σ' ∧ ∀ i, i < 320 → zA σ' 12 0 55 i = nI 1001 := by
  refine zwh_ex (fun (i : Nat) (q : Int32 × zM) => q.1 = nI i ∧ zEx [(12, 55)] σ q.2 ∧ ∀ w, w < i → zA q.2 12 0 55 w = nI 1001) _ 320 ⟨rfl, zEx.rf, fun w hw => absurd hw (Nat.not_lt_zero w)⟩ (fun i q hi hq => ?_) (fun q hq => ?_) (by omega)
  · obtain ⟨q1, q2⟩ := q
    obtain ⟨g1, g2, g3⟩ := hq
    simp only at g1 g2 g3
    subst g1
    refine Or.inl ⟨(nI (i + 1), zsA q2 12 0 55 i 1001), ?_, rfl, g2.tr (zEx_sA (by decide)), fun w hw => ?_⟩
    · show f_X12_init_L359 (nI i) q2 = _
      unfold f_X12_init_L359
      rw [zq320, if_neg (by rw [nI_leI (by omega) (by omega)]; omega), zix_n hi (by omega), Option.bind_some, zlt_e, nI_1]
    · rw [zA_sA, if_pos ⟨rfl, rfl, rfl⟩]
      by_cases e : w = i
      · rw [e, zu_eq]
        rfl
      · rw [zu_ne _ _ e]
        exact g3 w (by omega)
  · obtain ⟨q1, q2⟩ := q
    obtain ⟨g1, g2, g3⟩ := hq
    simp only at g1 g2 g3
    subst g1
    refine ⟨q2, ?_, g2, g3⟩
    show f_X12_init_L359 (nI 320) q2 = _
    unfold f_X12_init_L359
    rw [zq320, if_pos (nI_le (Nat.le_refl _) (by omega))]
/-- texts are packed: what is touched -/
theorem X10_pack {σ : zM} {tx : List Int32} {x : Int32} (hl : tx.length < 1000) : ∃ r σ', f_X10_pack σ tx x = some (r, σ') ∧ zEx [(10, 0)] σ σ' := by
  have hz : ∃ t, zwh (fun (q : (Int32 × Int64 × Int32 × zM)) => f_X10_pack_L8 tx x q.1 q.2.1 q.2.2.1 q.2.2.2) zFu (x, 0, 0, σ) = some t ∧ zEx [(10, 0)] σ t.2 := by
    refine zwh_ex (fun (i : Nat) (q : Int32 × Int64 × Int32 × zM) => q.2.2.1 = nI i ∧ zEx [(10, 0)] σ q.2.2.2) _ tx.length ⟨rfl, zEx.rf⟩ (fun i q hi hq => ?_) (fun q hq => ?_) (by omega)
    · obtain ⟨q1, q2, q3, q4⟩ := q
      obtain ⟨g1, g2⟩ := hq
      simp only at g1 g2
      subst g1
      refine Or.inl ?_
      show ∃ s', f_X10_pack_L8 tx x q1 q2 (nI i) q4 = some (.inl s') ∧ _
      unfold f_X10_pack_L8 f_X10_pack_B71_8
      rw [show Int32.ofNat tx.length = nI tx.length from rfl, if_neg (by rw [nI_leI (by omega) (by omega)]; omega), zix_n hi (by omega), Option.bind_some]
      by_cases h1 : tx.getD i 0 = 32
      · rw [if_pos h1]
        by_cases h2 : q1 < 0
        · rw [if_pos h2]
          exact ⟨_, rfl, nI_1 i, g2⟩
        · rw [if_neg h2]
          by_cases h3 : 36 ≤ q1
          · rw [if_pos h3]
            exact ⟨_, rfl, nI_1 i, g2⟩
          · rw [if_neg h3]
            rcases zcase q1 (n := 36) (by omega) with ⟨a, ha, rfl⟩ | h
            · rw [zix_n ha (by omega), Option.bind_some, zlt_e]
              exact ⟨_, rfl, nI_1 i, g2.tr (zEx_sL (by decide))⟩
            · exact absurd h (fun h => h.elim h2 h3)
      · rw [if_neg h1]
        exact ⟨_, rfl, nI_1 i, g2⟩
    · obtain ⟨q1, q2, q3, q4⟩ := q
      obtain ⟨g1, g2⟩ := hq
      simp only at g1 g2
      subst g1
      refine ⟨(q1, q4), ?_, g2⟩
      show f_X10_pack_L8 tx x q1 q2 (nI tx.length) q4 = _
      unfold f_X10_pack_L8
      rw [show Int32.ofNat tx.length = nI tx.length from rfl, if_pos (nI_le (Nat.le_refl _) (by omega))]
  obtain ⟨t, w, h⟩ := hz
  refine ⟨t.1, t.2, ?_, h⟩
  unfold f_X10_pack
  rw [w, Option.bind_some]
theorem X10_ini {σ : zM} : ∃ σ', f_X10_init σ = some σ' ∧ zEx [(10, 0)] σ σ' := by
  obtain ⟨r1, σ1, a1, a2⟩ := X10_pack (σ := zclA σ 10 0 0) (tx := zTb.getD 0 []) (x := 0) (by decide)
  obtain ⟨r2, σ2, b1, b2⟩ := X10_pack (σ := σ1) (tx := zTb.getD 1 []) (x := r1) (by decide)
  obtain ⟨r3, σ3, c1, c2⟩ := X10_pack (σ := σ2) (tx := zTb.getD 2 []) (x := r2) (by decide)
  refine ⟨σ3, ?_, (zEx_cA (by decide)).tr (a2.tr (b2.tr c2))⟩
  unfold f_X10_init
  rw [zlt_e, a1, Option.bind_some]
  show ((f_X10_pack σ1 (zTb.getD 1 []) r1).bind _) = _
  rw [b1, Option.bind_some]
  show ((f_X10_pack σ2 (zTb.getD 2 []) r2).bind _) = _
  rw [c1, Option.bind_some]
