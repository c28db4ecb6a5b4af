/-! orders -/
def zik (ah : Nat → Nat → Bool) (f : Nat → Nat) (s : Nat) : Nat → Nat
  | 0 => 0
  | c + 1 => if ah s (f c) then zik ah f s c else c + 1
def zins (f : Nat → Nat) (k s : Nat) : Nat → Nat := fun i => if i < k then f i else if i = k then s else f (i - 1)
def zrk (ah : Nat → Nat → Bool) (m : Nat) : Nat → (Nat → Nat) × Nat
  | 0 => (fun _ => 0, 0)
  | s + 1 => if m.testBit s then (zins (zrk ah m s).1 (zik ah (zrk ah m s).1 s (zrk ah m s).2) s, (zrk ah m s).2 + 1) else zrk ah m s
theorem zik_le {ah : Nat → Nat → Bool} {f : Nat → Nat} {s : Nat} : ∀ c, zik ah f s c ≤ c
  | 0 => Nat.le_refl _
  | c + 1 => by
    show (if ah s (f c) then zik ah f s c else c + 1) ≤ c + 1
    split
    · have := zik_le (ah := ah) (f := f) (s := s) c
      omega
    · exact Nat.le_refl _
theorem zik_p {ah : Nat → Nat → Bool} {f : Nat → Nat} {s : Nat} : ∀ c, (∀ i, zik ah f s c ≤ i → i < c → ah s (f i) = true) ∧ (0 < zik ah f s c → ah s (f (zik ah f s c - 1)) = false)
  | 0 => ⟨fun i _ h => absurd h (Nat.not_lt_zero i), fun h => absurd h (Nat.lt_irrefl 0)⟩
  | c + 1 => by
    have ih := zik_p (ah := ah) (f := f) (s := s) c
    have e : zik ah f s (c + 1) = if ah s (f c) then zik ah f s c else c + 1 := rfl
    by_cases h : ah s (f c) = true
    · rw [e, if_pos h]
      refine ⟨fun i h1 h2 => ?_, ih.2⟩
      by_cases ei : i = c
      · rw [ei]; exact h
      · exact ih.1 i h1 (by omega)
    · rw [e, if_neg h]
      refine ⟨fun i h1 h2 => by omega, fun _ => ?_⟩
      show ah s (f c) = false
      cases e2 : ah s (f c)
      · rfl
      · exact absurd e2 h
theorem zrk_y {ah : Nat → Nat → Bool} {m s : Nat} (h : m.testBit s = true) : zrk ah m (s + 1) = (zins (zrk ah m s).1 (zik ah (zrk ah m s).1 s (zrk ah m s).2) s, (zrk ah m s).2 + 1) := if_pos h
theorem zrk_n {ah : Nat → Nat → Bool} {m s : Nat} (h : ¬ m.testBit s = true) : zrk ah m (s + 1) = zrk ah m s := if_neg h
theorem zrk_c {ah : Nat → Nat → Bool} {m : Nat} : ∀ s, (zrk ah m s).2 = fb_ct (fun s => m.testBit s) s
  | 0 => rfl
  | s + 1 => by
    by_cases h : m.testBit s = true
    · rw [zrk_y h, fb_ct_succ, if_pos h]
      show (zrk ah m s).2 + 1 = _
      rw [zrk_c s]
    · rw [zrk_n h, fb_ct_succ, if_neg h, zrk_c s]
      rfl
/-- what stands in an order: schemes of the round, each once -/
theorem zrk_e {ah : Nat → Nat → Bool} {m : Nat} : ∀ s, (∀ i, i < (zrk ah m s).2 → (zrk ah m s).1 i < s ∧ m.testBit ((zrk ah m s).1 i) = true) ∧ (∀ e, e < s → m.testBit e = true → ∃ i, i < (zrk ah m s).2 ∧ (zrk ah m s).1 i = e)
  | 0 => ⟨fun i h => absurd h (Nat.not_lt_zero i), fun e h => absurd h (Nat.not_lt_zero e)⟩
  | s + 1 => by
    obtain ⟨ih1, ih2⟩ := zrk_e (ah := ah) (m := m) s
    by_cases h : m.testBit s = true
    · rw [zrk_y h]
      have hk := zik_le (ah := ah) (f := (zrk ah m s).1) (s := s) (zrk ah m s).2
      refine ⟨fun i hi => ?_, fun e he hm => ?_⟩
      · have hi : i < (zrk ah m s).2 + 1 := hi
        show zins _ _ _ i < s + 1 ∧ m.testBit (zins _ _ _ i) = true
        unfold zins
        by_cases c1 : i < zik ah (zrk ah m s).1 s (zrk ah m s).2
        · rw [if_pos c1]
          have := ih1 i (by omega)
          exact ⟨by omega, this.2⟩
        · rw [if_neg c1]
          by_cases c2 : i = zik ah (zrk ah m s).1 s (zrk ah m s).2
          · rw [if_pos c2]
            exact ⟨by omega, h⟩
          · rw [if_neg c2]
            have := ih1 (i - 1) (by omega)
            exact ⟨by omega, this.2⟩
      · by_cases es : e = s
        · refine ⟨zik ah (zrk ah m s).1 s (zrk ah m s).2, by show _ < (zrk ah m s).2 + 1; omega, ?_⟩
          show zins _ _ _ _ = e
          unfold zins
          rw [if_neg (Nat.lt_irrefl _), if_pos rfl, es]
        · obtain ⟨i, hi, e2⟩ := ih2 e (by omega) hm
          by_cases c1 : i < zik ah (zrk ah m s).1 s (zrk ah m s).2
          · refine ⟨i, by show i < (zrk ah m s).2 + 1; omega, ?_⟩
            show zins _ _ _ _ = e
            unfold zins
            rw [if_pos c1, e2]
          · refine ⟨i + 1, by show i + 1 < (zrk ah m s).2 + 1; omega, ?_⟩
            show zins _ _ _ _ = e
            unfold zins
            rw [if_neg (by omega), if_neg (by omega)]
            exact e2
    · rw [zrk_n h]
      refine ⟨fun i hi => ?_, fun e he hm => ?_⟩
      · have := ih1 i hi
        exact ⟨by omega, this.2⟩
      · have : e ≠ s := fun e2 => h (by rw [← e2]; exact hm)
        exact ih2 e (by omega) hm
theorem zrk_end {ah : Nat → Nat → Bool} {m n : Nat} (hb : ∀ s, m.testBit s = true → s < n) : ∀ d, zrk ah m (n + d) = zrk ah m n
  | 0 => rfl
  | d + 1 => by
    rw [show n + (d + 1) = (n + d) + 1 by omega, zrk_n (fun h => by have := hb _ h; omega), zrk_end hb d]
theorem zrk_10 {ah : Nat → Nat → Bool} {m n : Nat} (hb : ∀ s, m.testBit s = true → s < n) (hn : n ≤ 10) : zrk ah m 10 = zrk ah m n := by
  have := zrk_end (ah := ah) hb (10 - n)
  rw [show n + (10 - n) = 10 by omega] at this
  exact this
/-! the class's order -/
theorem X6_insert {σ : zM} {r s cnt : Nat} {f : Nat → Nat} {ah : Nat → Nat → Bool} (hc : cnt < 10) (hs : s < 10) (hf : ∀ i, i < cnt → f i < 10 ∧ zA σ 6 r 5 i = nI (f i)) (hA : ∀ σ', zEx [(6, 5)] σ σ' → ∀ i, i < cnt → f_X6_isAhead σ' r (nI s) (nI (f i)) = some (if ah s (f i) then 1 else 0)) : ∃ σ', f_X6_insert σ r (nI s) (nI cnt) = some σ' ∧ zEx [(6, 5)] σ σ' ∧ (∀ r', r' ≠ r → zA σ' 6 r' 5 = zA σ 6 r' 5) ∧ ∀ i, i < cnt + 1 → zA σ' 6 r 5 i = nI (zins f (zik ah f s cnt) s i) := by
  have hz : ∃ t, zwh (fun (q : (Int32 × Int32 × zM)) => f_X6_insert_L7 r (nI s) (nI cnt) q.1 q.2.1 q.2.2) zFu (nI cnt, (nI cnt - 1), σ) = some t ∧ ∃ k, k = zik ah f s cnt ∧ t.1 = nI k ∧ zEx [(6, 5)] σ t.2 ∧ (∀ r', r' ≠ r → zA t.2 6 r' 5 = zA σ 6 r' 5) ∧ (∀ i, i < k → zA t.2 6 r 5 i = nI (f i)) ∧ ∀ i, k < i → i ≤ cnt → zA t.2 6 r 5 i = nI (f (i - 1)) := by
    refine zwh_ex (fun (t : Nat) (q : Int32 × Int32 × zM) => ∃ k, q.1 = nI k ∧ q.2.1 = nI (cnt - t) - 1 ∧ zEx [(6, 5)] σ q.2.2 ∧ (∀ r', r' ≠ r → zA q.2.2 6 r' 5 = zA σ 6 r' 5) ∧ (∀ i, i < k → zA q.2.2 6 r 5 i = nI (f i)) ∧ (∀ i, k < i → i ≤ cnt → zA q.2.2 6 r 5 i = nI (f (i - 1))) ∧ ((k = cnt - t ∧ zik ah f s cnt = zik ah f s k) ∨ (cnt - t < k ∧ k ≤ cnt ∧ k = zik ah f s cnt))) _ cnt ⟨cnt, rfl, rfl, zEx.rf, fun _ _ => rfl, fun i hi => (hf i hi).2, fun i h1 h2 => by omega, Or.inl ⟨rfl, rfl⟩⟩ (fun t q ht hq => ?_) (fun q hq => ?_) (by omega)
    · obtain ⟨q1, q2, q3⟩ := q
      obtain ⟨k, h1, h2, h3, h4, h5, h6, h7⟩ := hq
      simp only at h1 h2 h3 h4 h5 h6
      subst h1
      obtain ⟨c, hcc⟩ : ∃ c, cnt - t = c + 1 := ⟨cnt - t - 1, by omega⟩
      have hc1 : cnt - (t + 1) = c := by omega
      rw [hcc, nI_pred] at h2
      subst h2
      have hm1 : nI c + (-1) = nI (cnt - (t + 1)) - 1 := by rw [zaddm1, hc1]
      have hlt : ¬ 10 ≤ nI c + 1 := by rw [nI_1, zq10, nI_leI (by omega) (by omega)]; omega
      refine Or.inl ?_
      rcases h7 with ⟨h7, h8⟩ | ⟨h7, h8, h9⟩
      · rw [hcc] at h7
        subst h7
        have hfc := hf c (by omega)
        have hah := hA q3 h3 c (by omega)
        have hrun : f_X6_insert_L7 r (nI s) (nI cnt) (nI (c + 1)) (nI c) q3 = if ah s (f c) then some (.inl (nI c, nI (cnt - (t + 1)) - 1, zsA q3 6 r 5 (c + 1) (nI (f c)))) else some (.inl (nI (c + 1), nI (cnt - (t + 1)) - 1, q3)) := by
          unfold f_X6_insert_L7 f_X6_insert_B66_7
          rw [if_neg (zlt0 (by omega)), if_neg hlt, if_pos (by rw [nI_1]), zix_n (show c < 10 by omega) (by omega), Option.bind_some, h5 c (by omega), hah, Option.bind_some, zif01, Option.bind_some, nI_1, zix_n (show c + 1 < 10 by omega) (by omega), Option.bind_some, zlt_e, hm1, h5 c (by omega)]
        have ezk : zik ah f s (c + 1) = if ah s (f c) then zik ah f s c else c + 1 := rfl
        by_cases hc2 : ah s (f c) = true
        · refine ⟨(nI c, nI (cnt - (t + 1)) - 1, zsA q3 6 r 5 (c + 1) (nI (f c))), ?_, c, rfl, rfl, h3.tr (zEx_sA (by decide)), fun r' hr' => ?_, fun i hi => ?_, fun i hi1 hi2 => ?_, Or.inl ⟨hc1.symm, by rw [h8, ezk, if_pos hc2]⟩⟩
          · refine hrun.trans ?_
            rw [if_pos hc2]
          · show (if 6 = 6 ∧ r' = r ∧ 5 = 5 then _ else zA q3 6 r' 5) = _
            rw [if_neg (fun h => hr' h.2.1)]
            exact h4 r' hr'
          · show (if 6 = 6 ∧ r = r ∧ 5 = 5 then zu (zA q3 6 r 5) (c + 1) (nI (f c)) else _) i = _
            rw [if_pos ⟨rfl, rfl, rfl⟩, zu_ne _ _ (by omega)]
            exact h5 i (by omega)
          · show (if 6 = 6 ∧ r = r ∧ 5 = 5 then zu (zA q3 6 r 5) (c + 1) (nI (f c)) else _) i = _
            rw [if_pos ⟨rfl, rfl, rfl⟩]
            by_cases ei : i = c + 1
            · rw [ei, zu_eq]
              rfl
            · rw [zu_ne _ _ ei]
              exact h6 i (by omega) hi2
        · refine ⟨(nI (c + 1), nI (cnt - (t + 1)) - 1, q3), ?_, c + 1, rfl, rfl, h3, h4, h5, h6, Or.inr ⟨by omega, by omega, by rw [h8, ezk, if_neg hc2]⟩⟩
          refine hrun.trans ?_
          rw [if_neg hc2]
      · refine ⟨(nI k, nI (cnt - (t + 1)) - 1, q3), ?_, k, rfl, rfl, h3, h4, h5, h6, Or.inr ⟨by omega, h8, h9⟩⟩
        show f_X6_insert_L7 r (nI s) (nI cnt) (nI k) (nI c) q3 = _
        unfold f_X6_insert_L7 f_X6_insert_B66_7
        rw [if_neg (zlt0 (by omega)), if_neg hlt, if_neg (by rw [nI_1, nI_eq (by omega) (by omega)]; omega), hm1]
    · obtain ⟨q1, q2, q3⟩ := q
      obtain ⟨k, h1, h2, h3, h4, h5, h6, h7⟩ := hq
      simp only at h1 h2 h3 h4 h5 h6
      subst h1 h2
      have hk : k = zik ah f s cnt := by
        rcases h7 with ⟨h7, h8⟩ | ⟨h7, h8, h9⟩
        · rw [h8, h7, Nat.sub_self]
          rfl
        · exact h9
      refine ⟨(nI k, q3), ?_, k, hk, rfl, h3, h4, h5, h6⟩
      show f_X6_insert_L7 r (nI s) (nI cnt) (nI k) (nI (cnt - cnt) - 1) q3 = _
      unfold f_X6_insert_L7
      rw [Nat.sub_self, if_pos (by decide)]
  obtain ⟨⟨t1, t2⟩, w, k, hk, h1, h2, h3, h4, h5⟩ := hz
  simp only at h1 h2 h3 h4 h5
  subst h1
  have hkl := zik_le (ah := ah) (f := f) (s := s) cnt
  rw [← hk] at hkl
  refine ⟨zsA t2 6 r 5 k (nI s), ?_, h2.tr (zEx_sA (by decide)), fun r' hr' => ?_, fun i hi => ?_⟩
  · unfold f_X6_insert
    rw [w, Option.bind_some]
    unfold f_X6_insert_B72
    rw [if_neg (zlt0 (by omega)), if_neg (by rw [zq10, nI_leI (by omega) (by omega)]; omega), zix_n (show k < 10 by omega) (by omega), Option.bind_some, zlt_e]
  · show (if 6 = 6 ∧ r' = r ∧ 5 = 5 then _ else zA t2 6 r' 5) = _
    rw [if_neg (fun h => hr' h.2.1)]
    exact h3 r' hr'
  · show (if 6 = 6 ∧ r = r ∧ 5 = 5 then zu (zA t2 6 r 5) k (nI s) else _) i = _
    rw [if_pos ⟨rfl, rfl, rfl⟩, ← hk]
    unfold zins
    by_cases c1 : i < k
    · rw [if_pos c1, zu_ne _ _ (by omega)]
      exact h4 i c1
    · rw [if_neg c1]
      by_cases c2 : i = k
      · rw [if_pos c2, c2, zu_eq]
      · rw [if_neg c2, zu_ne _ _ c2]
        exact h5 i (by omega) (by omega)
/-- who goes ahead of a lesser number -/
def zah (P : Nat → Int32) (tie : Int32) (pl : Nat → Nat) (s e : Nat) : Bool := if P s = P e then decide (tie = 0) && decide (pl s < pl e) else decide (P e < P s)
theorem X6_ahead {σ : zM} {r m s e : Nat} {L : Nat → Nat} {R : Nat → Nat → Nat} {P : Nat → Int32} {tie : Int32} (hk : zRk σ r m L R) (hs : s < 10) (he : e < 10) (hP1 : zA σ 6 r 4 s = P s) (hP2 : zA σ 6 r 4 e = P e) (ht : zI σ 6 r 8 = tie) : f_X6_isAhead σ r (nI s) (nI e) = some (if zah P tie (zPc m L R 0) s e then 1 else 0) := by
  have hsc : ∀ x, x < 10 → f_X6_scoreOf σ r (nI x) = some (zA σ 6 r 4 x) := fun x hx => by
    unfold f_X6_scoreOf
    rw [if_neg (zlt0 (by omega)), if_neg (by rw [zq10, nI_leI (by omega) (by omega)]; omega), zix_n hx (by omega), Option.bind_some]
  have hL := (hk.2.2.2.2 0 (by omega)).1
  have b1 := zPc_le (m := m) (R := R) (s := s) hL
  have b2 := zPc_le (m := m) (R := R) (s := e) hL
  have p0 : ∀ x, x < 10 → f_X6_placeIn σ r 0 (nI x) = some (nI (zPc m L R 0 x)) := fun x hx => X6_placeIn (j := 0) hk (by omega) hx
  unfold f_X6_isAhead f_X6_isAhead_B41 zah
  rw [hsc s hs, hsc e he, Option.bind_some, Option.bind_some, hP1, hP2, ht, p0 e he, Option.bind_some, p0 s hs, Option.bind_some, zc3_e (by omega) (by omega)]
  have hcmp : f_J6_compare_7cf53 (P s) (P e) = if P e ≤ P s then (if P s = P e then 0 else 1) else -1 := rfl
  rw [hcmp]
  by_cases c1 : P s = P e
  · have c2 : P e ≤ P s := by rw [c1, fa_le]; omega
    rw [if_pos c2, if_pos c1, if_pos rfl, if_pos c1]
    by_cases c3 : tie = 0
    · rw [if_pos c3, decide_eq_true c3, Bool.true_and]
      unfold zc3
      by_cases c4 : zPc m L R 0 s < zPc m L R 0 e
      · rw [decide_eq_true c4, if_pos (show zPc m L R 0 s ≤ zPc m L R 0 e by omega), if_neg (show ¬ zPc m L R 0 e = zPc m L R 0 s by omega)]
        rfl
      · rw [decide_eq_false c4]
        by_cases c5 : zPc m L R 0 s ≤ zPc m L R 0 e
        · rw [if_pos c5, if_pos (show zPc m L R 0 e = zPc m L R 0 s by omega)]
          rfl
        · rw [if_neg c5]
          rfl
    · rw [if_neg c3, decide_eq_false c3, Bool.false_and]
      rfl
  · rw [if_neg c1, if_neg c1]
    by_cases c2 : P e ≤ P s
    · rw [if_pos c2, if_neg z10, decide_eq_true (fa_le_ne c2 (fun h => c1 h.symm))]
      rfl
    · rw [if_neg c2, if_neg (by decide), decide_eq_false (fun h => c2 (fa_of_lt h).1)]
      rfl
/-- the class's order stands, scores with it -/
def zOrd (σ : zM) (r m n : Nat) (P : Nat → Int32) (ah : Nat → Nat → Bool) : Prop := (∀ i, i < (zrk ah m n).2 → zA σ 6 r 5 i = nI ((zrk ah m n).1 i)) ∧ ∀ e, e < n → m.testBit e = true → zA σ 6 r 4 e = P e
theorem X6_rank {σ : zM} {r m q : Nat} {L : Nat → Nat} {R : Nat → Nat → Nat} {V : Nat → Bool} {tie : Int32} (hk : zRk σ r m L R) (hv : zRvo σ r V) (ht : zI σ 6 r 8 = tie) (hq : q < 3) : ∃ σ', f_X6_rankAll σ r (nI q) = some σ' ∧ zEx [(6, 4), (6, 5)] σ σ' ∧ zOrd σ' r m 10 (zPts m L R V q) (zah (zPts m L R V q) tie (zPc m L R 0)) := by
  obtain ⟨P, hP⟩ : ∃ P, P = zPts m L R V q := ⟨_, rfl⟩
  obtain ⟨ah, hah⟩ : ∃ ah, ah = zah P tie (zPc m L R 0) := ⟨_, rfl⟩
  rw [← hP, ← hah]
  have hz : ∃ t, zwh (fun (x : (Int32 × Int32 × zM)) => f_X6_rankAll_L4 r (nI q) x.1 x.2.1 x.2.2) zFu (0, 0, σ) = some t ∧ zEx [(6, 4), (6, 5)] σ t ∧ zOrd t r m 10 P ah := by
    refine zwh_ex (fun (s : Nat) (x : Int32 × Int32 × zM) => x.1 = nI (zrk ah m s).2 ∧ x.2.1 = nI s ∧ zEx [(6, 4), (6, 5)] σ x.2.2 ∧ zOrd x.2.2 r m s P ah) _ 10 ⟨rfl, rfl, zEx.rf, fun i h => absurd h (Nat.not_lt_zero i), fun e h => absurd h (Nat.not_lt_zero e)⟩ (fun s x hs hx => ?_) (fun x hx => ?_) (by omega)
    · obtain ⟨x1, x2, x3⟩ := x
      obtain ⟨h1, h2, h3, h4, h5⟩ := hx
      simp only at h1 h2 h3 h4 h5
      subst h1 h2
      have hk3 := zRk_x h3 (by decide) hk
      have hv3 := zRvo_x h3 (by decide) hv
      have hcn : (zrk ah m s).2 ≤ s := by rw [zrk_c]; exact fb_ct_le _ _
      refine Or.inl ?_
      have h10 : ¬ 10 ≤ nI s := by rw [zq10, nI_leI (by omega) (by omega)]; omega
      by_cases hm : m.testBit s = true
      · have hpt := X6_points hk3 hv3 hs hq
        rw [← hP] at hpt
        obtain ⟨he1, he2⟩ := zrk_e (ah := ah) (m := m) s
        have hx4 : zEx [(6, 4), (6, 5)] σ (zsA x3 6 r 4 s (P s)) := h3.tr (zEx_sA (by decide))
        obtain ⟨σ', w1, w2, w3, w4⟩ := X6_insert (σ := zsA x3 6 r 4 s (P s)) (r := r) (s := s) (cnt := (zrk ah m s).2) (f := (zrk ah m s).1) (ah := ah) (by omega) hs (fun i hi => ⟨by have := (he1 i hi).1; omega, by rw [zA_sA, if_neg (fun h => absurd h.2.2 (by decide))]; exact h4 i hi⟩) (fun σ' hσ' i hi => by
          have hei := he1 i hi
          have e4 : ∀ x, zA σ' 6 r 4 x = zu (zA x3 6 r 4) s (P s) x := fun x => by
            rw [hσ'.2.2.2.1 6 r 4 (by decide)]
            show (if 6 = 6 ∧ r = r ∧ 4 = 4 then zu (zA x3 6 r 4) s (P s) else _) x = _
            rw [if_pos ⟨rfl, rfl, rfl⟩]
          have hr := X6_ahead (P := P) (tie := tie) (s := s) (e := (zrk ah m s).1 i) (zRk_x hσ' (by decide) (zRk_x hx4 (by decide) hk)) hs (by omega) (by rw [e4, zu_eq]) (by
            rw [e4, zu_ne _ _ (by omega)]
            exact h5 _ hei.1 hei.2) (by
            rw [hσ'.1 6 r 8 (by decide)]
            exact (h3.1 6 r 8 (by decide)).trans ht)
          rw [← hah] at hr
          exact hr)
        refine ⟨(nI (zrk ah m (s + 1)).2, nI (s + 1), σ'), ?_, rfl, rfl, hx4.tr (w2.mo (by decide)), fun i hi => ?_, fun e he hme => ?_⟩
        · show f_X6_rankAll_L4 r (nI q) _ (nI s) x3 = _
          unfold f_X6_rankAll_L4 f_X6_rankAll_B52_4
          rw [if_neg h10, if_neg h10, zix_n hs (by omega), Option.bind_some, hk3.2.2.1 s hs, zif01, if_pos hm, hpt, Option.bind_some, Option.bind_some, zlt_e, w1, Option.bind_some, nI_1, nI_1, zrk_y hm]
        · rw [zrk_y hm] at hi ⊢
          exact w4 i hi
        · rw [w2.2.2.2.1 6 r 4 (by decide)]
          show (if 6 = 6 ∧ r = r ∧ 4 = 4 then zu (zA x3 6 r 4) s (P s) else _) e = _
          rw [if_pos ⟨rfl, rfl, rfl⟩]
          by_cases ee : e = s
          · rw [ee, zu_eq]
          · rw [zu_ne _ _ ee]
            exact h5 e (by omega) hme
      · refine ⟨(nI (zrk ah m (s + 1)).2, nI (s + 1), x3), ?_, rfl, rfl, h3, fun i hi => ?_, fun e he hme => ?_⟩
        · show f_X6_rankAll_L4 r (nI q) _ (nI s) x3 = _
          unfold f_X6_rankAll_L4 f_X6_rankAll_B52_4
          rw [if_neg h10, if_neg h10, zix_n hs (by omega), Option.bind_some, hk3.2.2.1 s hs, zif01, if_neg hm, nI_1, zrk_n hm]
        · rw [zrk_n hm] at hi ⊢
          exact h4 i hi
        · have : e ≠ s := fun e2 => hm (by rw [← e2]; exact hme)
          exact h5 e (by omega) hme
    · obtain ⟨x1, x2, x3⟩ := x
      obtain ⟨h1, h2, h3, h4⟩ := hx
      simp only at h1 h2 h3 h4
      subst h1 h2
      refine ⟨x3, ?_, h3, h4⟩
      show f_X6_rankAll_L4 r (nI q) _ (nI 10) x3 = _
      unfold f_X6_rankAll_L4
      rw [if_pos (show (10 : Int32) ≤ nI 10 by decide)]
  obtain ⟨t, w, h1, h2⟩ := hz
  refine ⟨t, ?_, h1, h2⟩
  unfold f_X6_rankAll
  rw [w, Option.bind_some]
