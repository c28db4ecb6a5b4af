/-! rounds: the reference's places and points -/
def zRef (σ : zM) (r m J n : Nat) (L : Nat → Nat) (R : Nat → Nat → Nat) : Prop := r < 2 ∧ m < 1024 ∧ J ≤ 7 ∧ n ≤ 10 ∧ zI σ 12 0 48 = nI J ∧ zI σ 12 0 1 = nI n ∧ zA σ 12 0 58 r = nI m ∧ (∀ s, m.testBit s = true → s < n) ∧ ∀ j, j < 7 → L j ≤ 10 ∧ zA σ 12 0 57 (7 * r + j) = nI (L j) ∧ (J ≤ j → L j = 0) ∧ (∀ a b, a < b → b < L j → R j a ≠ R j b) ∧ ∀ i, i < L j → R j i < n ∧ zA σ 12 0 56 (10 * (7 * r + j) + i) = nI (R j i)
theorem zRef_x {F : List (Nat × Nat)} {σ σ' : zM} {r m J n : Nat} {L : Nat → Nat} {R : Nat → Nat → Nat} (h : zEx F σ σ') (hF : ([(12, 48), (12, 1), (12, 58), (12, 57), (12, 56)] : List (Nat × Nat)).all (fun q => !F.contains q) = true) (hk : zRef σ r m J n L R) : zRef σ' r m J n L R := by
  have hd := zFe_of h hF
  have e0 : zI σ' 12 0 48 = zI σ 12 0 48 := (hd (12, 48) (by simp)).1 0
  have e1 : zI σ' 12 0 1 = zI σ 12 0 1 := (hd (12, 1) (by simp)).1 0
  have e2 : zA σ' 12 0 58 = zA σ 12 0 58 := (hd (12, 58) (by simp)).2.2.2.1 0
  have e3 : zA σ' 12 0 57 = zA σ 12 0 57 := (hd (12, 57) (by simp)).2.2.2.1 0
  have e4 : zA σ' 12 0 56 = zA σ 12 0 56 := (hd (12, 56) (by simp)).2.2.2.1 0
  unfold zRef
  rw [e0, e1, e2, e3, e4]
  exact hk
theorem zsbit {m s : Nat} (hm : m < 2 ^ 31) (hs : s < 31) : ((nI m >>> (nI s &&& 31)) &&& 1) = 1 ↔ m.testBit s = true := by
  have hd : m / 2 ^ s ≤ m := Nat.div_le_self _ _
  rw [pk_shrN hm (nI s &&& 31) s (s_l s (by omega)), show (1 : Int32) = nI (2 ^ 1 - 1) from rfl, fa_mask, show nI (2 ^ 1 - 1) = nI 1 from rfl, nI_eq (by omega) (by omega), Nat.testBit_eq_decide_div_mod_eq, decide_eq_true_eq]
theorem X12_inR {σ : zM} {r m J n s : Nat} {L : Nat → Nat} {R : Nat → Nat → Nat} (hk : zRef σ r m J n L R) (hs : s < 10) : f_X12_isInRound σ (nI r) (nI s) = some (if m.testBit s then 1 else 0) := by
  have hr := hk.1
  have hm := hk.2.1
  unfold f_X12_isInRound
  rw [zix_n (show r < 2 from hr) (by omega), Option.bind_some, hk.2.2.2.2.2.2.1]
  by_cases h : m.testBit s = true
  · rw [if_pos ((zsbit (by omega) (by omega)).mpr h), if_pos h]
  · rw [if_neg (fun e => h ((zsbit (by omega) (by omega)).mp e)), if_neg h]
theorem X12_bits {m : Nat} (hm : m < 1024) : f_X12_bits (nI m) = some (nI (zpc m)) := by
  have hz : ∃ t, zwh (fun (q : (Int32 × Int32)) => f_X12_bits_L4 (nI m) q.1 q.2) zFu (0, nI m) = some t ∧ t = nI (zpc m) := by
    have hend : ∀ i, i ≤ 10 → m / 2 ^ i = 0 → fb_ct (fun s => m.testBit s) i = zpc m := fun i hi h0 => by
      unfold zpc
      rw [show (10 : Nat) = i + (10 - i) by omega, fb_ct_split]
      have : fb_ct (fun k => m.testBit (i + k)) (10 - i) = 0 := fb_ct_zero.mpr (fun k _ => by
        apply Nat.testBit_lt_two_pow
        have h1 : m < 2 ^ i := by
          rcases Nat.lt_or_ge m (2 ^ i) with h | h
          · exact h
          · have := Nat.div_pos h (Nat.two_pow_pos i)
            omega
        exact Nat.lt_of_lt_of_le h1 (Nat.pow_le_pow_right (by decide) (Nat.le_add_right i k)))
      omega
    refine zwh_ex (fun (i : Nat) (q : Int32 × Int32) => q = (nI (fb_ct (fun s => m.testBit s) i), nI (m / 2 ^ i))) _ 10 (by rw [Nat.pow_zero, Nat.div_one]; rfl) (fun i q hi hq => ?_) (fun q hq => ?_) (by omega)
    · subst hq
      have hd : m / 2 ^ i ≤ m := Nat.div_le_self _ _
      by_cases h0 : m / 2 ^ i = 0
      · refine Or.inr ⟨nI (fb_ct (fun s => m.testBit s) i), ?_, by rw [hend i (by omega) h0]⟩
        show f_X12_bits_L4 (nI m) _ _ = _
        unfold f_X12_bits_L4
        show (if nI (m / 2 ^ i) ≤ 0 then _ else _) = _
        rw [h0, if_pos (show nI 0 ≤ 0 by decide)]
      · refine Or.inl ⟨(nI (fb_ct (fun s => m.testBit s) (i + 1)), nI (m / 2 ^ (i + 1))), ?_, rfl⟩
        show f_X12_bits_L4 (nI m) _ _ = _
        unfold f_X12_bits_L4
        rw [if_neg (by rw [show (0 : Int32) = nI 0 from rfl, nI_leI (by omega) (by omega)]; exact fun h => h0 (Nat.le_zero.mp h)), show (1 : Int32) &&& 31 = nI 1 &&& 31 from rfl, pk_shrN (by omega) (nI 1 &&& 31) 1 (s_l 1 (by omega)), show (1 : Int32) = nI (2 ^ 1 - 1) from rfl, fa_mask, nI_add, fb_ct_succ, Nat.testBit_eq_decide_div_mod_eq, Nat.div_div_eq_div_mul, ← Nat.pow_succ]
        congr 4
        by_cases h1 : m / 2 ^ i % 2 = 1
        · rw [if_pos (decide_eq_true h1)]
          omega
        · rw [if_neg (by rw [decide_eq_false h1]; decide)]
          omega
    · subst hq
      have h0 : m / 2 ^ 10 = 0 := Nat.div_eq_of_lt hm
      refine ⟨_, ?_, rfl⟩
      show f_X12_bits_L4 (nI m) _ _ = _
      unfold f_X12_bits_L4
      show (if nI (m / 2 ^ 10) ≤ 0 then _ else _) = _
      rw [h0, if_pos (show nI 0 ≤ 0 by decide)]
      rfl
  obtain ⟨t, w, rfl⟩ := hz
  unfold f_X12_bits
  rw [w, Option.bind_some]
theorem zseat (r j : Nat) : f_X12_seat (nI r) (nI j) = nI (7 * r + j) := by
  unfold f_X12_seat
  rw [zq7, zmulI, nI_add]
/-- a place as the reference tells it -/
def zPr (m : Nat) (L : Nat → Nat) (R : Nat → Nat → Nat) (j s : Nat) : Int32 := if zPc m L R j s = zpc m then -1 else nI (zPc m L R j s)
theorem X12_placeIn {σ : zM} {r m J n j s : Nat} {L : Nat → Nat} {R : Nat → Nat → Nat} (hk : zRef σ r m J n L R) (hj : j < 7) (hs : s < 10) (hms : m.testBit s = true) : f_X12_placeIn σ (nI r) (nI j) (nI s) = some (zPr m L R j s) := by
  obtain ⟨hr, hm, hJ, hn, e48, e1, e58, hbn, hrow⟩ := id hk
  obtain ⟨h1, h2, h0, h3, h4⟩ := hrow j hj
  have hpl := zPc_lt (m := m) (L := L) (R := R) (j := j) (s := s) (fun i hi => by have := (h4 i hi).1; omega) h3 hs hms
  have hz : ∃ t, zwh (fun (q : (Int32 × Int32)) => f_X12_placeIn_L13 σ (nI r) (nI j) (nI s) (nI (7 * r + j)) q.1 q.2) zFu (0, 0) = some t ∧ ((∃ i, i < L j ∧ R j i = s ∧ (∀ a, a < i → R j a ≠ s) ∧ t = .inl (nI (fb_ct (fun i => m.testBit (R j i)) i))) ∨ ((∀ a, a < L j → R j a ≠ s) ∧ t = .inr ())) := by
    refine zwh_ex (fun (i : Nat) (q : Int32 × Int32) => q = (nI (fb_ct (fun i => m.testBit (R j i)) i), nI i) ∧ ∀ a, a < i → R j a ≠ s) _ (L j) ⟨rfl, fun a ha => absurd ha (Nat.not_lt_zero a)⟩ (fun i q hi hq => ?_) (fun q hq => ?_) (by omega)
    · obtain ⟨rfl, hq⟩ := hq
      have hR := (h4 i hi).1
      have hrun : f_X12_placeIn_L13 σ (nI r) (nI j) (nI s) (nI (7 * r + j)) (nI (fb_ct (fun i => m.testBit (R j i)) i)) (nI i) = if nI (R j i) = nI s then some (.inr (.inl (nI (fb_ct (fun i => m.testBit (R j i)) i)))) else some (.inl (nI (fb_ct (fun i => m.testBit (R j i)) (i + 1)), nI (i + 1))) := by
        unfold f_X12_placeIn_L13
        rw [zix_n (show 7 * r + j < 14 by omega) (by omega), Option.bind_some, h2, if_neg (by rw [nI_leI (by omega) (by omega)]; omega), zq10, zmulI, nI_add, zix_n (show 10 * (7 * r + j) + i < 140 by omega) (by omega), Option.bind_some, (h4 i hi).2, X12_inR hk (show R j i < 10 by omega), Option.bind_some, nI_1, fb_ct_succ]
        by_cases hb : m.testBit (R j i) = true
        · rw [if_pos hb, if_pos hb, show f_X12_one 1 = 1 from rfl, nI_1]
        · rw [if_neg hb, if_neg hb, show f_X12_one 0 = 0 from rfl, Int32.add_zero]
          rfl
      by_cases hc : R j i = s
      · refine Or.inr ⟨.inl (nI (fb_ct (fun i => m.testBit (R j i)) i)), ?_, Or.inl ⟨i, hi, hc, hq, rfl⟩⟩
        refine hrun.trans ?_
        rw [if_pos (by rw [hc])]
      · refine Or.inl ⟨(nI (fb_ct (fun i => m.testBit (R j i)) (i + 1)), nI (i + 1)), ?_, rfl, fun a ha => ?_⟩
        · refine hrun.trans ?_
          rw [if_neg (by rw [nI_eq (by omega) (by omega)]; exact hc)]
        · by_cases e : a = i
          · rw [e]; exact hc
          · exact hq a (by omega)
    · obtain ⟨rfl, hq⟩ := hq
      refine ⟨.inr (), ?_, Or.inr ⟨hq, rfl⟩⟩
      show f_X12_placeIn_L13 σ (nI r) (nI j) (nI s) (nI (7 * r + j)) _ (nI (L j)) = _
      unfold f_X12_placeIn_L13
      rw [zix_n (show 7 * r + j < 14 by omega) (by omega), Option.bind_some, h2, if_pos (nI_le (Nat.le_refl _) (by omega))]
  obtain ⟨t, w, ht⟩ := hz
  unfold f_X12_placeIn
  rw [zseat, w, Option.bind_some]
  rcases ht with ⟨i, hi, hc, hb, rfl⟩ | ⟨hb, rfl⟩
  · have e : fa_first (fun i => decide (R j i = s)) (L j) = i := zfirst_at hi (decide_eq_true hc) (fun a ha => decide_eq_false (hb a ha))
    have h5 := hpl.1 (by rw [e]; exact hi)
    unfold zPr
    rw [if_neg (by omega)]
    unfold zPc
    rw [e, if_pos hi]
    rfl
  · have e : fa_first (fun i => decide (R j i = s)) (L j) = L j := zfirst_n (fun a ha => decide_eq_false (hb a ha))
    have h5 := hpl.2 (by rw [e]; exact Nat.lt_irrefl _)
    unfold zPr
    rw [if_pos h5]
    rfl
/-- voices as they would count now -/
def zkn (σ : zM) (j s : Nat) : Bool := decide (zA σ 12 0 55 (40 * j + (zA σ 12 0 4 s).toNatClampNeg) ≤ zI σ 12 0 0)
def zNw (σ : zM) (m : Nat) (L : Nat → Nat) (R : Nat → Nat → Nat) (j : Nat) : Bool := decide (fb_ct (fun i => m.testBit (R j i) && zkn σ j (R j i)) (L j) = 0)
theorem X12_now {σ : zM} {r m J n j : Nat} {L : Nat → Nat} {R : Nat → Nat → Nat} (hk : zRef σ r m J n L R) (hau : ∀ s, s < n → ∃ a, a < 40 ∧ zA σ 12 0 4 s = nI a) (hj : j < 7) : f_X12_countsNow σ (nI r) (nI j) = some (if zNw σ m L R j then 1 else 0) := by
  obtain ⟨hr, hm, hJ, hn, e48, e1, e58, hbn, hrow⟩ := id hk
  obtain ⟨h1, h2, h0, h3, h4⟩ := hrow j hj
  obtain ⟨p, hp⟩ : ∃ p : Nat → Bool, p = fun i => m.testBit (R j i) && zkn σ j (R j i) := ⟨_, rfl⟩
  have hw := zwh_up (f := fun (q : (Int32 × Int32)) => f_X12_countsNow_L12 σ (nI r) (nI j) (nI (7 * r + j)) q.1 q.2) (fun i => ((if fb_ct p i = 0 then 1 else 0 : Int32), nI i)) (L j) (t := (if fb_ct p (L j) = 0 then 1 else 0 : Int32)) ?_ ?_ (by omega)
  · unfold f_X12_countsNow
    rw [zseat, show ((1 : Int32), (0 : Int32)) = (fun i => ((if fb_ct p i = 0 then 1 else 0 : Int32), nI i)) 0 from rfl, hw, Option.bind_some]
    unfold zNw
    rw [← hp]
    by_cases hc : fb_ct p (L j) = 0
    · rw [if_pos hc, if_pos (decide_eq_true hc)]; rfl
    · rw [if_neg hc, if_neg (by rw [decide_eq_false hc]; decide)]; rfl
  · intro i hi
    have hR := (h4 i hi).1
    obtain ⟨a, ha, ea⟩ := hau _ hR
    show f_X12_countsNow_L12 σ (nI r) (nI j) (nI (7 * r + j)) (if fb_ct p i = 0 then 1 else 0) (nI i) = some (.inl ((if fb_ct p (i + 1) = 0 then 1 else 0 : Int32), nI (i + 1)))
    unfold f_X12_countsNow_L12 f_X12_countsNow_B81_12 f_X12_countsNow_B77_12 f_X12_countsNow_B82_12
    rw [zix_n (show 7 * r + j < 14 by omega) (by omega), Option.bind_some, h2, if_neg (by rw [nI_leI (by omega) (by omega)]; omega), zq10, zmulI, nI_add, zix_n (show 10 * (7 * r + j) + i < 140 by omega) (by omega), Option.bind_some, (h4 i hi).2, X12_inR hk (show R j i < 10 by omega), Option.bind_some, zix_n (show R j i < 10 by omega) (by omega), Option.bind_some, ea, zq40, zmulI, nI_add, zix_n (show 40 * j + a < 320 by omega) (by omega), Option.bind_some, nI_1, fb_ct_succ, zif01]
    have hkn : zkn σ j (R j i) = decide (zA σ 12 0 55 (40 * j + a) ≤ zI σ 12 0 0) := by
      unfold zkn
      rw [ea, nI_clamp (by omega)]
    have hpi : p i = (m.testBit (R j i) && decide (zA σ 12 0 55 (40 * j + a) ≤ zI σ 12 0 0)) := by rw [hp, ← hkn]
    by_cases h5 : fb_ct p i = 0
    · rw [if_pos h5, if_neg z10]
      by_cases hb : m.testBit (R j i) = true
      · rw [if_pos hb, hpi, hb, Bool.true_and]
        by_cases hk2 : zA σ 12 0 55 (40 * j + a) ≤ zI σ 12 0 0
        · rw [if_pos hk2, if_pos (decide_eq_true hk2), if_neg (by omega)]
        · rw [if_neg hk2, if_neg (show ¬ decide (zA σ 12 0 55 (40 * j + a) ≤ zI σ 12 0 0) = true by rw [decide_eq_false hk2]; decide), if_pos (by omega)]
      · have hb' : m.testBit (R j i) = false := by cases e : m.testBit (R j i); rfl; exact absurd e hb
        rw [if_neg hb, hpi, hb', Bool.false_and, if_neg (show ¬ false = true by decide), if_pos (by omega)]
    · rw [if_neg h5, if_pos rfl, if_neg (by omega)]
  · show f_X12_countsNow_L12 σ (nI r) (nI j) (nI (7 * r + j)) _ (nI (L j)) = _
    unfold f_X12_countsNow_L12
    rw [zix_n (show 7 * r + j < 14 by omega) (by omega), Option.bind_some, h2, if_pos (nI_le (Nat.le_refl _) (by omega))]
/-! the reference's points -/
theorem X12_ag {σ : zM} {r m J n s o : Nat} {L : Nat → Nat} {R : Nat → Nat → Nat} {V : Nat → Bool} (hk : zRef σ r m J n L R) (hv : ∀ j, j < J → f_X12_counts σ (nI r) (nI j) = some (if V j then 1 else 0)) (hV0 : ∀ j, J ≤ j → V j = false) (hs : s < 10) (ho : o < 10) (hms : m.testBit s = true) (hmo : m.testBit o = true) : f_X12_against σ (nI r) (nI s) (nI o) = some (zp2 (zS32 (zd1 m L R V s o) 7)) := by
  obtain ⟨hr, hm, hJ, hn, e48, e1, e58, hbn, hrow⟩ := id hk
  have e7 : zS32 (zd1 m L R V s o) 7 = zS32 (zd1 m L R V s o) J := zS32_ext hJ (fun j h1 _ => by unfold zd1; rw [if_neg (by rw [hV0 j h1]; decide)])
  rw [e7]
  have hw := zwh_up (f := fun (q : (Int32 × Int32)) => f_X12_against_L6 σ (nI r) (nI s) (nI o) q.1 q.2) (fun j => (zS32 (zd1 m L R V s o) j, nI j)) J (t := zS32 (zd1 m L R V s o) J) ?_ ?_ (by omega)
  · unfold f_X12_against
    rw [show ((0 : Int32), (0 : Int32)) = (fun j => (zS32 (zd1 m L R V s o) j, nI j)) 0 from rfl, hw, Option.bind_some]
    unfold f_X12_against_B98 zp2
    split
    · split <;> rfl
    · rfl
  · intro j hj
    have hj7 : j < 7 := by omega
    obtain ⟨h1, h2, h0, h3, h4⟩ := hrow j hj7
    have b1 := zPc_le (m := m) (R := R) (s := s) h1
    have b2 := zPc_le (m := m) (R := R) (s := o) h1
    have l1 := zPc_lt (m := m) (L := L) (R := R) (j := j) (s := s) (fun i hi => by have := (h4 i hi).1; omega) h3 hs hms
    have l2 := zPc_lt (m := m) (L := L) (R := R) (j := j) (s := o) (fun i hi => by have := (h4 i hi).1; omega) h3 ho hmo
    have g1 : zPc m L R j s ≤ zpc m := by
      by_cases h : fa_first (fun i => decide (R j i = s)) (L j) < L j
      · have := l1.1 h; omega
      · have := l1.2 h; omega
    have g2 : zPc m L R j o ≤ zpc m := by
      by_cases h : fa_first (fun i => decide (R j i = o)) (L j) < L j
      · have := l2.1 h; omega
      · have := l2.2 h; omega
    show f_X12_against_L6 σ (nI r) (nI s) (nI o) (zS32 (zd1 m L R V s o) j) (nI j) = some (.inl (zS32 (zd1 m L R V s o) j + zd1 m L R V s o j, nI (j + 1)))
    unfold f_X12_against_L6 f_X12_against_B67_6 f_X12_against_B70_6 f_X12_against_B89_6 f_X12_against_B92_6
    rw [e48, if_neg (by rw [nI_leI (by omega) (by omega)]; omega), hv j hj, Option.bind_some, X12_placeIn hk hj7 hs hms, Option.bind_some, X12_placeIn hk hj7 ho hmo, Option.bind_some, zif01, nI_1]
    by_cases hV : V j = true
    · rw [if_pos hV, show zd1 m L R V s o j = zc3 (zPc m L R j o) (zPc m L R j s) from if_pos hV]
      unfold zPr zc3
      by_cases c1 : zPc m L R j s = zpc m
      · rw [if_pos c1, if_pos rfl]
        by_cases c2 : zPc m L R j o = zpc m
        · rw [if_pos c2, if_pos rfl, if_pos (show zPc m L R j s ≤ zPc m L R j o by omega), if_pos (show zPc m L R j o = zPc m L R j s by omega), Int32.add_zero]
        · rw [if_neg c2, if_neg (znI_m1 (by omega)), if_pos rfl, if_neg (show ¬ zPc m L R j s ≤ zPc m L R j o by omega)]
      · have n1 : ¬ nI (zPc m L R j s) = -1 := znI_m1 (by omega)
        rw [if_neg c1, if_neg n1]
        by_cases c2 : zPc m L R j o = zpc m
        · rw [if_pos c2, if_pos rfl, if_pos rfl, if_pos (show zPc m L R j s ≤ zPc m L R j o by omega), if_neg (show ¬ zPc m L R j o = zPc m L R j s by omega)]
        · have n2 : ¬ nI (zPc m L R j o) = -1 := znI_m1 (by omega)
          rw [if_neg c2, if_neg n2, if_neg n2, if_neg n1]
          by_cases c3 : zPc m L R j o ≤ zPc m L R j s
          · rw [if_pos (show nI (zPc m L R j o) ≤ nI (zPc m L R j s) by rw [nI_leI (by omega) (by omega)]; exact c3)]
            by_cases c4 : zPc m L R j s ≤ zPc m L R j o
            · rw [if_pos (show nI (zPc m L R j s) ≤ nI (zPc m L R j o) by rw [nI_leI (by omega) (by omega)]; exact c4), if_pos c4, if_pos (show zPc m L R j o = zPc m L R j s by omega), Int32.add_zero]
            · rw [if_neg (show ¬ nI (zPc m L R j s) ≤ nI (zPc m L R j o) by rw [nI_leI (by omega) (by omega)]; exact c4), if_neg c4]
          · rw [if_neg (show ¬ nI (zPc m L R j o) ≤ nI (zPc m L R j s) by rw [nI_leI (by omega) (by omega)]; exact c3), if_neg n2, if_neg n1, if_pos (show nI (zPc m L R j s) ≤ nI (zPc m L R j o) by rw [nI_leI (by omega) (by omega)]; omega), if_pos (show zPc m L R j s ≤ zPc m L R j o by omega), if_neg (show ¬ zPc m L R j o = zPc m L R j s by omega)]
    · rw [if_neg hV, show zd1 m L R V s o j = 0 from if_neg hV, Int32.add_zero]
  · show f_X12_against_L6 σ (nI r) (nI s) (nI o) _ (nI J) = _
    unfold f_X12_against_L6
    rw [e48, if_pos (nI_le (Nat.le_refl _) (by omega))]
