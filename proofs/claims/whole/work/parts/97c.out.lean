/-! an "out": the class's stack of bits -/
theorem zx1 (st : Nat) : st ^^^ 1 = if st % 2 = 0 then st + 1 else st - 1 := by
  have h1 : (st ^^^ 1) / 2 = st / 2 := by
    rw [Nat.xor_div_two]
    show st / 2 ^^^ 0 = _
    rw [Nat.xor_zero]
  have h2 : (st ^^^ 1) % 2 = 1 ↔ ¬ (st % 2 = 1 ↔ 1 % 2 = 1) := Nat.xor_mod_two_eq_one
  split <;> omega
theorem zor1 (st : Nat) : st / 2 ||| st % 2 = if st % 2 = 1 ∨ st / 2 % 2 = 1 then st / 4 * 2 + 1 else st / 4 * 2 := by
  have h1 : (st / 2 ||| st % 2) / 2 = st / 2 / 2 := by
    rw [Nat.or_div_two, show st % 2 / 2 = 0 by omega, Nat.or_zero]
  have h2 : (st / 2 ||| st % 2) % 2 = 1 ↔ (st / 2) % 2 = 1 ∨ (st % 2) % 2 = 1 := Nat.or_mod_two_eq_one
  split <;> omega
theorem zand1 {st : Nat} (h : st < 2 ^ 62) : st / 2 &&& (st % 2 ||| 18446744073709551614) = if st % 2 = 1 ∧ st / 2 % 2 = 1 then st / 4 * 2 + 1 else st / 4 * 2 := by
  have h1 : (st / 2 &&& (st % 2 ||| 18446744073709551614)) / 2 = st / 2 / 2 := by
    rw [Nat.and_div_two, Nat.or_div_two, show st % 2 / 2 = 0 by omega, Nat.zero_or, show (18446744073709551614 / 2 : Nat) = 2 ^ 63 - 1 from rfl, Nat.and_two_pow_sub_one_eq_mod, Nat.mod_eq_of_lt (by omega)]
  have h2 : (st / 2 &&& (st % 2 ||| 18446744073709551614)) % 2 = 1 ↔ (st / 2) % 2 = 1 ∧ (st % 2 ||| 18446744073709551614) % 2 = 1 := Nat.and_mod_two_eq_one
  have h3 : (st % 2 ||| 18446744073709551614) % 2 = 1 ↔ (st % 2) % 2 = 1 ∨ 18446744073709551614 % 2 = 1 := Nat.or_mod_two_eq_one
  rw [h3] at h2
  split <;> omega
theorem zl1 {n : Nat} : lN n &&& 1 = lN (n % 2) := fb_maskL n 1
theorem zln_4 {o : Nat} (ho : o < 7) : zln 0 o 4 = 300 := by
  rw [zln0 ho]
  rfl
theorem X0_holds (op v : Int32) : f_X0_holds op v = if zcmp op v then 1 else 0 := by
  unfold f_X0_holds zcmp
  by_cases h0 : op &&& 3 = 0
  · rw [if_pos h0, if_pos h0]
    by_cases h : zushr op 8 ≤ v
    · rw [if_pos h, decide_eq_false (fun h2 => zlt_not.mp h2 h)]; rfl
    · rw [if_neg h, decide_eq_true (zlt_not.mpr h)]; rfl
  · rw [if_neg h0, if_neg h0]
    by_cases h1 : op &&& 3 = 1
    · rw [if_pos h1, if_pos h1]
      by_cases h : v = zushr op 8
      · rw [if_pos h, decide_eq_true h]; rfl
      · rw [if_neg h, decide_eq_false h]; rfl
    · rw [if_neg h1, if_neg h1]
      by_cases h : v ≤ zushr op 8
      · rw [if_pos h, decide_eq_false (fun h2 => zlt_not.mp h2 h)]; rfl
      · rw [if_neg h, decide_eq_true (zlt_not.mpr h)]; rfl
theorem zrun_s (m : Nat → Int32) (l : List Int32) (op : Int32) (st : Nat) : zrun m (l ++ [op]) st = zop1 m op (zrun m l st) := by
  unfold zrun
  rw [List.foldl_append]
  rfl
theorem zseg_t {code : Nat → Int32} {a b j : Nat} (h : j < b - a) : (zseg code a b).take (j + 1) = (zseg code a b).take j ++ [code (a + j)] := by
  rw [List.take_succ]
  unfold zseg
  rw [List.getElem?_map, List.getElem?_range h]
  rfl
theorem zseg_l {code : Nat → Int32} {a b : Nat} : (zseg code a b).length = b - a := by
  unfold zseg
  rw [List.length_map, List.length_range]
theorem X8_throws {σ : zM} {s o a b D : Nat} {C S : Nat → Nat} {x4 t : Int32} {V : (Nat → Int32) → Bool} (hX : zCX σ s C) (hS : ∀ i, i < 4 → S i ≤ 12) (hS2 : ∀ i, i < 4 → zA σ 8 0 0 i = nI (S i)) (ht : (if zI σ 7 s 1 = -1 then x4 else zI σ 7 s 1) = t) (ho : o < 7) (hab : a ≤ b) (hb : b ≤ 300) (hD : D ≤ 40) (hco : zCo (zseg (zA σ 0 o 4) a b) V D) : f_X8_throwsOut σ s o (nI a) (nI b) x4 = some (if zrun (zMea C S (zA σ 0 o 5) (zA σ 0 o 6) t) (zseg (zA σ 0 o 4) a b) 0 % 2 = 1 then 1 else 0) := by
  obtain ⟨m, hm⟩ : ∃ m, m = zMea C S (zA σ 0 o 5) (zA σ 0 o 6) t := ⟨_, rfl⟩
  rw [← hm]
  have hlt : ∀ j, zrun m ((zseg (zA σ 0 o 4) a b).take j) 0 < 2 ^ 40 := fun j => by
    have h1 := (hco m 0).2 j
    have h2 : 2 ^ D ≤ 2 ^ 40 := Nat.pow_le_pow_right (by decide) hD
    omega
  have hw := zwh_up (f := fun (q : (Int64 × Int32)) => f_X8_throwsOut_L10 σ s o (nI a) (nI b) x4 q.1 q.2) (fun j => (lN (zrun m ((zseg (zA σ 0 o 4) a b).take j) 0), nI (a + j))) (b - a) (t := lN (zrun m (zseg (zA σ 0 o 4) a b) 0)) ?_ ?_ (by omega)
  · unfold f_X8_throwsOut
    have e0 : zmax 0 (nI a) = nI a := by
      rw [show (0 : Int32) = nI 0 from rfl, zmaxE (by omega) (by omega), show Nat.max 0 a = a from Nat.max_eq_right (Nat.zero_le a)]
    rw [e0, show ((0 : Int64), nI a) = (fun j => (lN (zrun m ((zseg (zA σ 0 o 4) a b).take j) 0), nI (a + j))) 0 from rfl, hw, Option.bind_some]
    unfold f_X8_throwsOut_B142
    have hf := hlt (b - a)
    rw [show (zseg (zA σ 0 o 4) a b).take (b - a) = zseg (zA σ 0 o 4) a b from List.take_of_length_le (by rw [zseg_l]; exact Nat.le_refl _)] at hf
    rw [zl1]
    by_cases h : zrun m (zseg (zA σ 0 o 4) a b) 0 % 2 = 1
    · rw [if_pos h, if_neg (by rw [zl0, pk_lEQ (by omega) (by omega)]; omega)]
    · rw [if_neg h, if_pos (by rw [zl0, pk_lEQ (by omega) (by omega)]; omega)]
  · intro j hj
    obtain ⟨st, hst⟩ : ∃ st, st = zrun m ((zseg (zA σ 0 o 4) a b).take j) 0 := ⟨_, rfl⟩
    obtain ⟨op, hop⟩ : ∃ op, op = zA σ 0 o 4 (a + j) := ⟨_, rfl⟩
    have hl := hlt j
    rw [← hst] at hl
    show f_X8_throwsOut_L10 σ s o (nI a) (nI b) x4 (lN (zrun m ((zseg (zA σ 0 o 4) a b).take j) 0)) (nI (a + j)) = some (.inl (lN (zrun m ((zseg (zA σ 0 o 4) a b).take (j + 1)) 0), nI (a + (j + 1))))
    rw [zseg_t hj, zrun_s, ← hst]
    unfold f_X8_throwsOut_L10 f_X8_throwsOut_B136_10
    rw [if_neg (by rw [nI_leI (by omega) (by omega)]; omega), zln_4 ho, if_neg (by rw [nI_leI (by omega) (by omega)]; omega), zix_n (show a + j < 300 by omega) (by omega), Option.bind_some, ← hop, nI_1]
    unfold zop1
    by_cases h3 : op = -3
    · rw [if_pos h3, if_pos h3, show (1 : Int64) = lN 1 from rfl, fb_xorL, zx1]
      rfl
    · rw [if_neg h3, if_neg h3]
      by_cases hn : op < 0
      · rw [if_neg (fun h => zlt_not.mp hn h), if_pos hn]
        rw [show (1 : Int32) = nI 1 from rfl, zlushrN (by omega) (by omega), zl1]
        by_cases h2 : op = -2
        · rw [if_pos h2, if_pos h2, fb_orL, show st / 2 ^ 1 = st / 2 from rfl, zor1]
          rfl
        · rw [if_neg h2, if_neg h2, show (-2 : Int64) = lN 18446744073709551614 from by decide, fb_orL, fb_andL, show st / 2 ^ 1 = st / 2 from rfl, zand1 (by omega)]
          rfl
      · have hn2 : 0 ≤ op := by
          rw [fa_lt] at hn
          rw [fa_le]
          omega
        rw [if_pos hn2, if_neg hn, X8_measure (S := S) (t := t) hX hS hS2 ht, Option.bind_some, ← hm, X0_holds]
        have e1 : zlshl (lN st) 1 = lN (2 ^ 1 * st) := by
          have : lN st <<< ((1 : Int32).toInt64 &&& 63) = lN (st * 2 ^ 1) := wb_shl st (k := 1) (by omega)
          rw [Nat.mul_comm]
          exact this
        unfold f_X0_subjectOf
        rw [e1]
        have hsb : m (zsub (zushr op 2 &&& 63)) = m (zsub (zushr op 2 &&& 63)) := rfl
        by_cases hc : zcmp op (m (zsub (zushr op 2 &&& 63))) = true
        · rw [if_pos hc, if_neg z10, if_pos hc, show ((1 : Int32).toInt64) = lN 1 from rfl, fb_or_sumL st (by decide)]
          rfl
        · rw [if_neg hc, if_pos rfl, if_neg hc, show ((0 : Int32).toInt64) = lN 0 from rfl, fb_or_sumL st (by decide)]
          rfl
  · show f_X8_throwsOut_L10 σ s o (nI a) (nI b) x4 _ (nI (a + (b - a))) = _
    unfold f_X8_throwsOut_L10
    rw [if_pos (by rw [nI_leI (by omega) (by omega)]; omega), show (zseg (zA σ 0 o 4) a b).take (b - a) = zseg (zA σ 0 o 4) a b from List.take_of_length_le (by rw [zseg_l]; exact Nat.le_refl _)]
/-! an "out": the reference's tree -/
theorem zNo_lt {N : zND} {M : Nat} : ∀ {d k : Nat} {V : (Nat → Int32) → Bool}, zNo N M d k V → k < M
  | 0, _, _, h => h.1
  | d + 1, k, V, h => by
    rcases h with h | h | h | h
    · exact zNo_lt (d := d) h
    · exact h.1
    · exact h.1
    · exact h.1
theorem zdr_s {α : Type} {l : List α} {i : Nat} (h : i < l.length) : l.drop i = l[i] :: l.drop (i + 1) := List.drop_eq_getElem_cons h
theorem X12_holds {σ : zM} {s M : Nat} {x3 : Int32} {m : Nat → Int32} (hw : ∀ w, w < 8 → f_X12_word σ (nI s) x3 (nI w) = some (m w)) (hM : M ≤ 5400) : ∀ (d f k : Nat) (V : (Nat → Int32) → Bool), d < f → zNo (znd σ) M d k V → f_X12_holds_rec f 0 σ (nI k) (nI s) x3 = some (if V m then 1 else 0) := by
  intro d
  induction d with
  | zero =>
    intro f k V hf h
    obtain ⟨g, rfl⟩ : ∃ g, f = g + 1 := ⟨f - 1, by omega⟩
    obtain ⟨h1, h2, w, h3, h4, h5⟩ := h
    have h2 : zA σ 12 0 31 k = 3 := h2
    have h4 : zA σ 12 0 34 k = nI w := h4
    show f_X12_holds σ (f_X12_holds_rec g) (nI k) (nI s) x3 = _
    unfold f_X12_holds
    rw [zix_n (show k < 5400 by omega) (by omega)]
    simp only [Option.bind_some]
    rw [h2, if_neg (by decide), if_neg (by decide), if_neg (by decide), h4, hw w h3]
    simp only [Option.bind_some]
    rcases h5 with ⟨h5, h6⟩ | ⟨h5, h6⟩ | ⟨h5, h6⟩
    · have h5 : zA σ 12 0 35 k = 60 := h5
      have h6 : V = fun m => decide (m w < zA σ 12 0 36 k) := h6
      rw [h5, if_pos rfl, h6]
      by_cases hc : zA σ 12 0 36 k ≤ m w
      · rw [if_pos hc]
        simp [hc]
      · rw [if_neg hc]
        simp [zlt_not.mpr hc]
    · have h5 : zA σ 12 0 35 k = 61 := h5
      have h6 : V = fun m => decide (m w = zA σ 12 0 36 k) := h6
      rw [h5, if_neg (by decide), if_neg (by decide), h6]
      by_cases hc : m w = zA σ 12 0 36 k
      · rw [if_pos hc]
        simp [hc]
      · rw [if_neg hc]
        simp [hc]
    · have h5 : zA σ 12 0 35 k = 62 := h5
      have h6 : V = fun m => decide (zA σ 12 0 36 k < m w) := h6
      rw [h5, if_neg (by decide), if_pos rfl, h6]
      by_cases hc : m w ≤ zA σ 12 0 36 k
      · rw [if_pos hc]
        simp [hc]
      · rw [if_neg hc]
        simp [zlt_not.mpr hc]
  | succ d ih =>
    intro f k V hf h
    rcases h with h | ⟨h1, h2, a, U, h3, h4, h5⟩ | ⟨h1, h2, cs, h3, h4, h5, h6⟩ | ⟨h1, h2, cs, h3, h4, h5, h6⟩
    · exact ih f k V (by omega) h
    · obtain ⟨g, rfl⟩ : ∃ g, f = g + 1 := ⟨f - 1, by omega⟩
      have h2 : zA σ 12 0 31 k = 2 := h2
      have h3 : zA σ 12 0 32 k = nI a := h3
      show f_X12_holds σ (f_X12_holds_rec g) (nI k) (nI s) x3 = _
      unfold f_X12_holds
      rw [zix_n (show k < 5400 by omega) (by omega)]
      simp only [Option.bind_some]
      rw [h2, if_neg (by decide), if_neg (by decide), if_pos rfl, h3, ih g a U (by omega) h4]
      simp only [Option.bind_some]
      rw [h5]
      show _ = some (if (!(U m)) = true then 1 else 0)
      cases U m <;> rfl
    · obtain ⟨g, rfl⟩ : ∃ g, f = g + 1 := ⟨f - 1, by omega⟩
      have h2 : zA σ 12 0 31 k = 0 := h2
      have h3 : zChn (zA σ 12 0 33) (zA σ 12 0 32 k) (cs.map (·.1)) := h3
      have hz : ∃ t, zwh (fun (q : Int32) => f_X12_holds_L40 σ (f_X12_holds_rec g) (nI k) (nI s) x3 q) zFu (zA σ 12 0 32 k) = some t ∧ ((t = .inl () ∧ (cs.any fun c => c.2 m) = true) ∨ (t = .inr () ∧ (cs.any fun c => c.2 m) = false)) := by
        refine zwh_ex (fun (i : Nat) (q : Int32) => zChn (zA σ 12 0 33) q ((cs.drop i).map (·.1)) ∧ ∀ c ∈ cs.take i, c.2 m = false) _ cs.length ⟨h3, fun c hc => by rw [List.take_zero] at hc; cases hc⟩ (fun i q hi hq => ?_) (fun q hq => ?_) (by omega)
        · obtain ⟨hq, hf⟩ := hq
          rw [zdr_s hi, List.map_cons] at hq
          obtain ⟨rfl, hq⟩ := hq
          have hci := h5 cs[i] (List.getElem_mem hi)
          have hlt := zNo_lt hci
          have hv := ih g cs[i].1 cs[i].2 (by omega) hci
          have hrun : f_X12_holds_L40 σ (f_X12_holds_rec g) (nI k) (nI s) x3 (nI cs[i].1) = if (if cs[i].2 m then 1 else 0 : Int32) = 0 then some (.inl (zA σ 12 0 33 cs[i].1)) else some (.inr (.inl ())) := by
            unfold f_X12_holds_L40
            rw [if_neg (znI_m1 (by omega)), hv, Option.bind_some, zix_n (show cs[i].1 < 5400 by omega) (by omega), Option.bind_some]
          by_cases hc : cs[i].2 m = true
          · refine Or.inr ⟨.inl (), ?_, Or.inl ⟨rfl, List.any_eq_true.mpr ⟨cs[i], List.getElem_mem hi, hc⟩⟩⟩
            rw [hrun, if_pos hc, if_neg z10]
          · refine Or.inl ⟨zA σ 12 0 33 cs[i].1, ?_, hq, fun c hcm => ?_⟩
            · rw [hrun, if_neg hc, if_pos rfl]
            · rw [List.take_succ, List.getElem?_eq_getElem hi] at hcm
              rcases List.mem_append.mp hcm with hcm | hcm
              · exact hf c hcm
              · have : c = cs[i] := by simpa using hcm
                rw [this]
                cases e : cs[i].2 m
                · rfl
                · exact absurd e hc
        · obtain ⟨hq, hf⟩ := hq
          rw [List.drop_length] at hq
          have hq : q = -1 := hq
          subst hq
          refine ⟨.inr (), ?_, Or.inr ⟨rfl, ?_⟩⟩
          · unfold f_X12_holds_L40
            rw [if_pos rfl]
          · rw [List.any_eq_false]
            intro c hc
            rw [hf c (by rw [List.take_length]; exact hc)]
            decide
      obtain ⟨t, w, ht⟩ := hz
      show f_X12_holds σ (f_X12_holds_rec g) (nI k) (nI s) x3 = _
      unfold f_X12_holds
      rw [zix_n (show k < 5400 by omega) (by omega), Option.bind_some, h2, if_pos rfl, Option.bind_some, w, Option.bind_some, h6]
      rcases ht with ⟨rfl, e⟩ | ⟨rfl, e⟩
      · show some 1 = some (if (cs.any fun c => c.2 m) = true then 1 else 0)
        rw [e]; rfl
      · show some 0 = some (if (cs.any fun c => c.2 m) = true then 1 else 0)
        rw [e]; rfl
    · obtain ⟨g, rfl⟩ : ∃ g, f = g + 1 := ⟨f - 1, by omega⟩
      have h2 : zA σ 12 0 31 k = 1 := h2
      have h3 : zChn (zA σ 12 0 33) (zA σ 12 0 32 k) (cs.map (·.1)) := h3
      have hz : ∃ t, zwh (fun (q : Int32) => f_X12_holds_L81 σ (f_X12_holds_rec g) (nI k) (nI s) x3 q) zFu (zA σ 12 0 32 k) = some t ∧ ((t = .inl () ∧ (cs.all fun c => c.2 m) = false) ∨ (t = .inr () ∧ (cs.all fun c => c.2 m) = true)) := by
        refine zwh_ex (fun (i : Nat) (q : Int32) => zChn (zA σ 12 0 33) q ((cs.drop i).map (·.1)) ∧ ∀ c ∈ cs.take i, c.2 m = true) _ cs.length ⟨h3, fun c hc => by rw [List.take_zero] at hc; cases hc⟩ (fun i q hi hq => ?_) (fun q hq => ?_) (by omega)
        · obtain ⟨hq, hf⟩ := hq
          rw [zdr_s hi, List.map_cons] at hq
          obtain ⟨rfl, hq⟩ := hq
          have hci := h5 cs[i] (List.getElem_mem hi)
          have hlt := zNo_lt hci
          have hv := ih g cs[i].1 cs[i].2 (by omega) hci
          have hrun : f_X12_holds_L81 σ (f_X12_holds_rec g) (nI k) (nI s) x3 (nI cs[i].1) = if (if cs[i].2 m then 1 else 0 : Int32) = 0 then some (.inr (.inl ())) else some (.inl (zA σ 12 0 33 cs[i].1)) := by
            unfold f_X12_holds_L81
            rw [if_neg (znI_m1 (by omega)), hv, Option.bind_some, zix_n (show cs[i].1 < 5400 by omega) (by omega), Option.bind_some]
          by_cases hc : cs[i].2 m = true
          · refine Or.inl ⟨zA σ 12 0 33 cs[i].1, ?_, hq, fun c hcm => ?_⟩
            · rw [hrun, if_pos hc, if_neg z10]
            · rw [List.take_succ, List.getElem?_eq_getElem hi] at hcm
              rcases List.mem_append.mp hcm with hcm | hcm
              · exact hf c hcm
              · have : c = cs[i] := by simpa using hcm
                rw [this]
                exact hc
          · refine Or.inr ⟨.inl (), ?_, Or.inl ⟨rfl, List.all_eq_false.mpr ⟨cs[i], List.getElem_mem hi, hc⟩⟩⟩
            rw [hrun, if_neg hc, if_pos rfl]
        · obtain ⟨hq, hf⟩ := hq
          rw [List.drop_length] at hq
          have hq : q = -1 := hq
          subst hq
          refine ⟨.inr (), ?_, Or.inr ⟨rfl, ?_⟩⟩
          · unfold f_X12_holds_L81
            rw [if_pos rfl]
          · rw [List.all_eq_true]
            intro c hc
            exact hf c (by rw [List.take_length]; exact hc)
      obtain ⟨t, w, ht⟩ := hz
      show f_X12_holds σ (f_X12_holds_rec g) (nI k) (nI s) x3 = _
      unfold f_X12_holds
      rw [zix_n (show k < 5400 by omega) (by omega), Option.bind_some, h2, if_neg z10, if_pos rfl, Option.bind_some, w, Option.bind_some, h6]
      rcases ht with ⟨rfl, e⟩ | ⟨rfl, e⟩
      · show some 0 = some (if (cs.all fun c => c.2 m) = true then 1 else 0)
        rw [e]; rfl
      · show some 1 = some (if (cs.all fun c => c.2 m) = true then 1 else 0)
        rw [e]; rfl
