/-! a brief's text: tokens -/
def zWt (j : Nat) : Int64 := lN (zP5 ((["room", "near", "apart", "rate", "wall", "way", "stair", "cost", "out", "close", "keep", "vote", "tie", "fee", "least", "light", "within", "by", "most", "span", "if", "or", "and", "not", "first", "rank", "pair", "head", "number", "cells", "ways", "stairs", "rooms", "dark", "late", "storeys"].getD j "").toList.map fun ch => ch.toNat - 96))
def zcdF (x : Int64) : Nat → Nat → Int32
  | 0, _ => -1
  | d + 1, j => if zWt j = x then nI j else zcdF x d (j + 1)
def zCd (x : Int64) : Int32 := zcdF x 36 0
theorem zcdF_e {x : Int64} {c : Nat} (hc : c < 36) : ∀ d j, j + d = 36 → zcdF x d j = nI c → x = zWt c
  | 0, j, _, h => absurd h.symm (znI_m1 (by omega))
  | d + 1, j, hj, h => by
    have e : zcdF x (d + 1) j = if zWt j = x then nI j else zcdF x d (j + 1) := rfl
    rw [e] at h
    by_cases hw : zWt j = x
    · rw [if_pos hw, nI_eq (by omega) (by omega)] at h
      rw [← h, hw]
    · rw [if_neg hw] at h
      exact zcdF_e hc d (j + 1) (by omega) h
theorem zCd_w : ∀ c, c < 36 → zCd (zWt c) = nI c := by decide +kernel
theorem zCd_c {x : Int64} {c : Nat} (hc : c < 36) : zCd x = nI c ↔ x = zWt c := ⟨zcdF_e hc 36 0 rfl, fun e => by rw [e, zCd_w c hc]⟩
theorem zcdF_v {x : Int64} : ∀ d j, j + d = 36 → zcdF x d j = -1 ∨ ∃ c, c < 36 ∧ zcdF x d j = nI c
  | 0, j, _ => Or.inl rfl
  | d + 1, j, hj => by
    have e : zcdF x (d + 1) j = if zWt j = x then nI j else zcdF x d (j + 1) := rfl
    rw [e]
    by_cases hw : zWt j = x
    · rw [if_pos hw]
      exact Or.inr ⟨j, by omega, rfl⟩
    · rw [if_neg hw]
      exact zcdF_v d (j + 1) (by omega)
theorem zCd_v (x : Int64) : zCd x = -1 ∨ ∃ c, c < 36 ∧ zCd x = nI c := zcdF_v 36 0 rfl
theorem X10_code {σ : zM} (h : iWds σ) (x : Int64) : f_X10_codeOf σ x = some (zCd x) := by
  have hw : ∀ d j, j + d = 36 → ∀ m, d < m → zwh (fun (q : Int32) => f_X10_codeOf_L2 σ x q) m (nI j) = some (if zcdF x d j = -1 then .inr () else .inl (zcdF x d j)) := by
    intro d
    induction d with
    | zero =>
      intro j hj m hm
      obtain ⟨m', rfl⟩ : ∃ m', m = m' + 1 := ⟨m - 1, by omega⟩
      have hj36 : j = 36 := by omega
      subst hj36
      refine zwh_inr ?_
      show f_X10_codeOf_L2 σ x (nI 36) = _
      unfold f_X10_codeOf_L2
      rw [zq36, if_pos (nI_le (Nat.le_refl _) (by omega))]
      rfl
    | succ d ih =>
      intro j hj m hm
      obtain ⟨m', rfl⟩ : ∃ m', m = m' + 1 := ⟨m - 1, by omega⟩
      have e : zcdF x (d + 1) j = if zWt j = x then nI j else zcdF x d (j + 1) := rfl
      have hL : f_X10_codeOf_L2 σ x (nI j) = if zWt j = x then some (.inr (.inl (nI j))) else some (.inl (nI (j + 1))) := by
        unfold f_X10_codeOf_L2
        rw [zq36, if_neg (by rw [nI_leI (by omega) (by omega)]; omega), zix_n (show j < 36 by omega) (by omega), Option.bind_some, h j (by omega), nI_1]
        rfl
      rw [e]
      by_cases hw : zWt j = x
      · rw [if_pos hw, if_neg (znI_m1 (by omega))]
        refine zwh_inr ?_
        show f_X10_codeOf_L2 σ x (nI j) = _
        rw [hL, if_pos hw]
      · rw [if_neg hw, ← ih (j + 1) (by omega) m' (by omega)]
        refine zwh_inl ?_
        show f_X10_codeOf_L2 σ x (nI j) = _
        rw [hL, if_neg hw]
  unfold f_X10_codeOf
  have h0 := hw 36 0 rfl zFu (by show 36 < 100000; decide)
  rw [show nI 0 = (0 : Int32) from rfl] at h0
  rw [h0, Option.bind_some]
  show zsm (if zCd x = -1 then Sum.inr () else Sum.inl (zCd x)) _ _ = some (zCd x)
  by_cases e : zCd x = -1
  · rw [if_pos e]
    show some (-1) = some (zCd x)
    rw [e]
  · rw [if_neg e]
    rfl
/-- signs that are known -/
def zksg (b : Nat) : Bool := decide (b = 59) || decide (b = 40) || decide (b = 41) || decide (b = 60) || decide (b = 62) || decide (b = 61)
theorem zksg_C : ∀ b, b < 256 → f_X4_isKnownSign (nI b) = if zksg b then 1 else 0 := by decide +kernel
theorem zdg_C : ∀ b, b < 256 → f_X4_isDigit (nI b) = if (decide (48 ≤ b) && decide (b ≤ 57)) then 1 else 0 := by decide +kernel
theorem zbl_C : ∀ b, b < 256 → f_X4_isBlank (nI b) = if (decide (b = 32) || decide (b = 10)) then 1 else 0 := by decide +kernel
/-- a token's end; where the i-th token begins -/
def zTe (T : Nat → Nat) (n a : Nat) : Nat := if zcL T a then zfar (zcL T) n a else if zcD T a then zfar (zcD T) n a else a + 1
def zTs (T : Nat → Nat) (n : Nat) : Nat → Nat
  | 0 => zfar (zcB T) n 0
  | i + 1 => if zTs T n i < n then zfar (zcB T) n (zTe T n (zTs T n i)) else n
/-- digits' number -/
def zDv (T : Nat → Nat) (a : Nat) : Nat → Nat
  | 0 => 0
  | L + 1 => 10 * zDv T a L + (T (a + L) - 48)
def zTkd (T : Nat → Nat) (n a : Nat) : Int32 := if zcL T a then (if zTe T n a - a ≤ 8 then (if zCd (zW5 T a (zTe T n a - a)) = -1 then 2 else 1) else 5) else if zcD T a then (if zTe T n a - a ≤ 6 then 3 else 5) else if zksg (T a) then 4 else 5
def zTkv (T : Nat → Nat) (n a : Nat) : Int64 := if zcL T a then (if zTe T n a - a ≤ 8 then (if zCd (zW5 T a (zTe T n a - a)) = -1 then zW5 T a (zTe T n a - a) else (zCd (zW5 T a (zTe T n a - a))).toInt64) else 0) else if zcD T a then (if zTe T n a - a ≤ 6 then lN (zDv T a (zTe T n a - a)) else 0) else lN (T a)
theorem zTe_b {T : Nat → Nat} {n a : Nat} (h : a < n) : a < zTe T n a ∧ zTe T n a ≤ n := by
  unfold zTe
  by_cases hl : zcL T a = true
  · rw [if_pos hl, zfar_s h, if_pos hl]
    have := zfar_p (c := zcL T) (n := n) (p := a + 1) (by omega)
    omega
  · rw [if_neg hl]
    by_cases hd : zcD T a = true
    · rw [if_pos hd, zfar_s h, if_pos hd]
      have := zfar_p (c := zcD T) (n := n) (p := a + 1) (by omega)
      omega
    · rw [if_neg hd]
      omega
theorem zDv_lt {T : Nat → Nat} {a : Nat} : ∀ {L : Nat}, (∀ i, i < L → zcD T (a + i) = true) → zDv T a L < 10 ^ L
  | 0, _ => by show 0 < 10 ^ 0; decide
  | L + 1, h => by
    have ih := zDv_lt (L := L) (fun i hi => h i (by omega))
    have hd := h L (by omega)
    unfold zcD at hd
    rw [Bool.and_eq_true] at hd
    have h1 := of_decide_eq_true hd.1
    have h2 := of_decide_eq_true hd.2
    show 10 * zDv T a L + (T (a + L) - 48) < 10 ^ (L + 1)
    rw [Nat.pow_succ]
    omega
theorem X4_put {σ : zM} {c : Nat} {k s : Int32} {v : Int64} (hc : c < 901) : f_X4_put σ (nI c) k s v = some (zsL (zsA (zsA σ 4 0 3 c k) 4 0 4 c s) 4 0 5 c v) := by
  unfold f_X4_put
  rw [if_neg (zlt0 (by omega)), zq901, if_neg (by rw [nI_leI (by omega) (by omega)]; omega), if_neg (by rw [nI_leI (by omega) (by omega)]; omega), if_neg (by rw [nI_leI (by omega) (by omega)]; omega), zix_n hc (by omega), Option.bind_some, zlt_e, Option.bind_some, zlt_e, Option.bind_some, zlt_e]
/-- letters: how the class goes on -/
theorem X4_letters {σ : zM} {T : Nat → Nat} {n a e : Nat} {x3 : Int32} (h : zTc σ T n) (hn : n ≤ 900) (ha : a < n) (hl : zcL T a = true) (hE : e = zfar (zcL T) n a) : zwh (fun (q : (Int32 × Int64 × Int32)) => f_X4_tokenAt_L63 σ (nI a) (nI n) x3 1 q.1 q.2.1 q.2.2) zFu (0, 0, nI a) = some (nI (e - a), zW5 T a (e - a)) := by
  have hP := zfar_p (c := zcL T) (show a ≤ n by omega)
  rw [← hE] at hP
  have hz : ∃ t, zwh (fun (q : (Int32 × Int64 × Int32)) => f_X4_tokenAt_L63 σ (nI a) (nI n) x3 1 q.1 q.2.1 q.2.2) zFu (0, 0, nI a) = some t ∧ t = (nI (e - a), zW5 T a (e - a)) := by
    refine zwh_ex (fun (i : Nat) (q : Int32 × Int64 × Int32) => q = (nI (min i (e - a)), zW5 T a (min i (e - a)), nI (a + i))) _ (e - a + 1) ?_ (fun i q hi hq => ?_) (fun q hq => ?_) (by omega)
    · rw [Nat.zero_min]
      rfl
    · subst hq
      by_cases hie : i < e - a
      · obtain ⟨b1, b2⟩ := X9_at h (show a + i < n by omega)
        have hli := hP.2.2.1 (a + i) (by omega) (by omega)
        have hlb : f_X10_isLetter (nI (T (a + i))) = 1 := by rw [zcL_C b2, hli]; rfl
        have h97 : 97 ≤ T (a + i) ∧ T (a + i) ≤ 122 := by
          unfold zcL at hli
          rw [Bool.and_eq_true] at hli
          exact ⟨of_decide_eq_true hli.1, of_decide_eq_true hli.2⟩
        have em : min i (e - a) = i := by omega
        have em2 : min (i + 1) (e - a) = i + 1 := by omega
        refine Or.inl ⟨_, ?_, rfl⟩
        show f_X4_tokenAt_L63 σ (nI a) (nI n) x3 1 (nI (min i (e - a))) (zW5 T a (min i (e - a))) (nI (a + i)) = _
        unfold f_X4_tokenAt_L63 f_X4_tokenAt_B120_63 f_X4_tokenAt_B171_63
        have e1 : nI (a + i) - nI a = nI i := by rw [zsubI (by omega)]; congr 1; omega
        rw [em, em2, if_neg (by rw [nI_leI (by omega) (by omega)]; omega), e1, if_pos rfl, b1, Option.bind_some, if_neg z10, hlb, if_neg z10, nI_1, nI_1]
        by_cases h8 : 8 ≤ i
        · rw [if_pos (by rw [zq8, nI_leI (by omega) (by omega)]; omega)]
          unfold zW5
          rw [if_neg (by omega)]
          rfl
        · rw [if_neg (by rw [zq8, nI_leI (by omega) (by omega)]; omega)]
          unfold zW5
          rw [if_pos (by omega), if_pos (by omega), zjn5 h97.1 h97.2]
          rfl
      · have em : min i (e - a) = e - a := by omega
        have hie2 : i = e - a := by omega
        have eai : a + i = e := by omega
        by_cases hen : e < n
        · obtain ⟨b1, b2⟩ := X9_at h (show a + i < n by omega)
          have hli := hP.2.2.2 hen
          have hlb : f_X10_isLetter (nI (T (a + i))) = 0 := by rw [zcL_C b2, eai, hli]; rfl
          refine Or.inl ⟨_, ?_, rfl⟩
          show f_X4_tokenAt_L63 σ (nI a) (nI n) x3 1 (nI (min i (e - a))) (zW5 T a (min i (e - a))) (nI (a + i)) = _
          have em2 : min (i + 1) (e - a) = e - a := by omega
          unfold f_X4_tokenAt_L63 f_X4_tokenAt_B128_63 f_X4_tokenAt_B171_63
          have e1 : nI (a + i) - nI a = nI (e - a) := by rw [zsubI (by omega)]; congr 1; omega
          rw [em, em2, if_neg (by rw [nI_leI (by omega) (by omega)]; omega), e1, if_pos rfl, b1, Option.bind_some, if_neg z10, hlb, if_pos rfl, if_neg z10, nI_1]
          rfl
        · refine Or.inr ⟨_, ?_, rfl⟩
          show f_X4_tokenAt_L63 σ (nI a) (nI n) x3 1 (nI (min i (e - a))) (zW5 T a (min i (e - a))) (nI (a + i)) = _
          unfold f_X4_tokenAt_L63
          rw [if_pos (nI_le (by omega) (by omega)), em]
    · subst hq
      refine ⟨_, ?_, rfl⟩
      show f_X4_tokenAt_L63 σ (nI a) (nI n) x3 1 (nI (min (e - a + 1) (e - a))) (zW5 T a (min (e - a + 1) (e - a))) (nI (a + (e - a + 1))) = _
      have em : min (e - a + 1) (e - a) = e - a := by omega
      unfold f_X4_tokenAt_L63
      rw [em]
      by_cases hen : n ≤ a + (e - a + 1)
      · rw [if_pos (nI_le hen (by omega))]
      · have e1 : nI (a + (e - a + 1)) - nI a = nI (e - a + 1) := by rw [zsubI (by omega)]; congr 1; omega
        rw [if_neg (by rw [nI_leI (by omega) (by omega)]; omega), e1, if_neg (by rw [nI_eq (by omega) (by omega)]; omega)]
  obtain ⟨t, h1, h2⟩ := hz
  rw [h1, h2]
