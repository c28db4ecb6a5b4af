/-! texts: the class's tape and the reference's text, as numbers -/
def zcL (T : Nat → Nat) (i : Nat) : Bool := decide (97 ≤ T i) && decide (T i ≤ 122)
def zcB (T : Nat → Nat) (i : Nat) : Bool := decide (T i = 32) || decide (T i = 10)
def zcD (T : Nat → Nat) (i : Nat) : Bool := decide (48 ≤ T i) && decide (T i ≤ 57)
/-- the class's tape: its first n bytes -/
def zTc (σ : zM) (T : Nat → Nat) (n : Nat) : Prop := (∃ k, n ≤ k ∧ k ≤ 900 ∧ zI σ 9 0 1 = nI k) ∧ ∀ i, i < n → T i < 256 ∧ zA σ 9 0 0 i = nI (T i)
/-- the reference's text of n bytes -/
def zTr (σ : zM) (T : Nat → Nat) (n : Nat) : Prop := n ≤ 900 ∧ zI σ 12 0 20 = nI n ∧ ∀ i, i < n → T i < 256 ∧ (T i < 128 → zA σ 12 0 39 i = nI (T i)) ∧ (128 ≤ T i → zA σ 12 0 39 i < 0)
theorem zTr_fr {σ σ' : zM} {T : Nat → Nat} {n : Nat} {F : List (Nat × Nat)} (h : zTr σ T n) (hE : zEx F σ σ') (h1 : (12, 20) ∉ F) (h2 : (12, 39) ∉ F) : zTr σ' T n := by
  refine ⟨h.1, (hE.1 12 0 20 h1).trans h.2.1, ?_⟩
  rw [hE.2.2.2.1 12 0 39 h2]
  exact h.2.2
theorem zTc_fr {σ σ' : zM} {T : Nat → Nat} {n : Nat} {F : List (Nat × Nat)} (h : zTc σ T n) (hE : zEx F σ σ') (h1 : (9, 1) ∉ F) (h2 : (9, 0) ∉ F) : zTc σ' T n := by
  obtain ⟨⟨k, h3, h4, h5⟩, h6⟩ := h
  refine ⟨⟨k, h3, h4, (hE.1 9 0 1 h1).trans h5⟩, ?_⟩
  rw [hE.2.2.2.1 9 0 0 h2]
  exact h6
theorem X9_at {σ : zM} {T : Nat → Nat} {n i : Nat} (h : zTc σ T n) (hi : i < n) : f_X9_at σ (nI i) = some (nI (T i)) ∧ T i < 256 := by
  obtain ⟨⟨k, h3, h4, h5⟩, h6⟩ := h
  refine ⟨?_, (h6 i hi).1⟩
  unfold f_X9_at
  rw [if_neg (zlt0 (by omega)), h5, if_neg (by rw [nI_leI (by omega) (by omega)]; omega), if_neg (by rw [zq900, nI_leI (by omega) (by omega)]; omega), zix_n (by omega) (by omega), Option.bind_some, (h6 i hi).2]
theorem zcL_C {T : Nat → Nat} {i : Nat} (h : T i < 256) : f_X10_isLetter (nI (T i)) = if zcL T i then 1 else 0 := by
  unfold f_X10_isLetter zcL
  by_cases h1 : 97 ≤ T i
  · by_cases h2 : T i ≤ 122
    · rw [if_neg (by rw [zq97, nI_ltI (by omega) (by omega)]; omega), if_neg (by rw [zq122, nI_ltI (by omega) (by omega)]; omega)]
      simp [h1, h2]
    · rw [if_neg (by rw [zq97, nI_ltI (by omega) (by omega)]; omega), if_pos (by rw [zq122, nI_ltI (by omega) (by omega)]; omega)]
      simp [h2]
  · rw [if_pos (by rw [zq97, nI_ltI (by omega) (by omega)]; omega)]
    simp [h1]
theorem zlit_lt {y : Int32} {m : Nat} (hy : y < 0) (hm : m < 2147483648) : y < nI m ∧ ¬ nI m < y ∧ y ≠ nI m := by
  rw [fa_lt] at hy
  have e0 : (0 : Int32).toInt = 0 := rfl
  refine ⟨?_, ?_, fun e => ?_⟩
  · rw [fa_lt, nI_toInt hm]; omega
  · rw [fa_lt, nI_toInt hm]; omega
  · rw [e, nI_toInt hm] at hy; omega
/-- letters, blanks, any byte below 128: the reference's tests -/
theorem zcL_R {σ : zM} {T : Nat → Nat} {n i : Nat} (h : zTr σ T n) (hi : i < n) : (zcL T i = true → zA σ 12 0 39 i = nI (T i) ∧ ¬ zA σ 12 0 39 i < 97 ∧ ¬ 122 < zA σ 12 0 39 i ∧ 97 ≤ T i ∧ T i ≤ 122) ∧ (zcL T i = false → zA σ 12 0 39 i < 97 ∨ (¬ zA σ 12 0 39 i < 97 ∧ 122 < zA σ 12 0 39 i)) := by
  obtain ⟨h1, h2, h3⟩ := h.2.2 i hi
  unfold zcL
  refine ⟨fun e => ?_, fun e => ?_⟩
  · rw [Bool.and_eq_true] at e
    have e1 := of_decide_eq_true e.1
    have e2 := of_decide_eq_true e.2
    rw [h2 (by omega)]
    refine ⟨rfl, ?_, ?_, e1, e2⟩
    · rw [zq97, nI_ltI (by omega) (by omega)]; omega
    · rw [zq122, nI_ltI (by omega) (by omega)]; omega
  · by_cases hb : T i < 128
    · rw [h2 hb]
      by_cases h97 : 97 ≤ T i
      · refine Or.inr ⟨?_, ?_⟩
        · rw [zq97, nI_ltI (by omega) (by omega)]; omega
        · have : ¬ T i ≤ 122 := fun h122 => by
            rw [decide_eq_true h97, decide_eq_true h122] at e
            cases e
          rw [zq122, nI_ltI (by omega) (by omega)]; omega
      · exact Or.inl (by rw [zq97, nI_ltI (by omega) (by omega)]; omega)
    · exact Or.inl (zlit_lt (h3 (by omega)) (m := 97) (by omega)).1
theorem zch_R {σ : zM} {T : Nat → Nat} {n i : Nat} (h : zTr σ T n) (hi : i < n) {b : Nat} (hb : b < 128) : zA σ 12 0 39 i = nI b ↔ T i = b := by
  obtain ⟨h1, h2, h3⟩ := h.2.2 i hi
  by_cases hc : T i < 128
  · rw [h2 hc, nI_eq (by omega) (by omega)]
  · have h4 := h3 (by omega)
    exact ⟨fun e => absurd e (zlit_lt h4 (by omega)).2.2, fun e => by omega⟩
/-- from p on as long as c holds, not beyond n -/
def zfarF (c : Nat → Bool) : Nat → Nat → Nat
  | 0, p => p
  | d + 1, p => if c p then zfarF c d (p + 1) else p
def zfar (c : Nat → Bool) (n p : Nat) : Nat := zfarF c (n - p) p
theorem zfar_s {c : Nat → Bool} {n p : Nat} (h : p < n) : zfar c n p = if c p then zfar c n (p + 1) else p := by
  unfold zfar
  rw [show n - p = (n - (p + 1)) + 1 by omega]
  rfl
theorem zfar_e {c : Nat → Bool} {n p : Nat} (h : n ≤ p) : zfar c n p = p := by
  unfold zfar
  rw [show n - p = 0 by omega]
  rfl
theorem zfar_all {c : Nat → Bool} {n : Nat} : ∀ (d p : Nat), p + d = n → p ≤ zfar c n p ∧ zfar c n p ≤ n ∧ (∀ i, p ≤ i → i < zfar c n p → c i = true) ∧ (zfar c n p < n → c (zfar c n p) = false)
  | 0, p, h => by
    rw [zfar_e (by omega)]
    exact ⟨Nat.le_refl _, by omega, fun i _ _ => by omega, fun h => by omega⟩
  | d + 1, p, h => by
    rw [zfar_s (by omega)]
    by_cases hc : c p = true
    · rw [if_pos hc]
      obtain ⟨h1, h2, h3, h4⟩ := zfar_all (c := c) (n := n) d (p + 1) (by omega)
      refine ⟨by omega, h2, fun i hi1 hi2 => ?_, h4⟩
      by_cases e : i = p
      · rw [e]; exact hc
      · exact h3 i (by omega) hi2
    · rw [if_neg hc]
      refine ⟨Nat.le_refl _, by omega, fun i _ _ => by omega, fun _ => ?_⟩
      cases e : c p
      · rfl
      · exact absurd e hc
theorem zfar_p {c : Nat → Bool} {n p : Nat} (h : p ≤ n) : p ≤ zfar c n p ∧ zfar c n p ≤ n ∧ (∀ i, p ≤ i → i < zfar c n p → c i = true) ∧ (zfar c n p < n → c (zfar c n p) = false) := zfar_all (n - p) p (by omega)
theorem zfar_i {c : Nat → Bool} {n p i : Nat} (h : p ≤ n) (h1 : p ≤ i) (h2 : i ≤ zfar c n p) : zfar c n i = zfar c n p := by
  induction i with
  | zero => rw [show p = 0 by omega]
  | succ i ih =>
    by_cases e : p = i + 1
    · rw [e]
    · have h3 := zfar_p (c := c) h
      have h4 := ih (by omega) (by omega)
      rw [← h4, zfar_s (p := i) (by omega), if_pos (h3.2.2.1 i (by omega) (by omega))]
theorem zisb_R {σ : zM} {T : Nat → Nat} {n i : Nat} (h : zTr σ T n) (hi : i < n) : (zA σ 12 0 39 i = 32 ∨ zA σ 12 0 39 i = 10) ↔ zcB T i = true := by
  rw [show (32 : Int32) = nI 32 from rfl, show (10 : Int32) = nI 10 from rfl, zch_R h hi (by omega), zch_R h hi (by omega)]
  unfold zcB
  simp
theorem X12_blanks {σ : zM} {T : Nat → Nat} {n p : Nat} (h : zTr σ T n) (hp : p ≤ n) (ha : zI σ 12 0 21 = nI p) : ∃ σ', f_X12_blanks σ = some σ' ∧ zEx [(12, 21)] σ σ' ∧ zI σ' 12 0 21 = nI (zfar (zcB T) n p) := by
  have h900 := h.1
  have hP := zfar_p (c := zcB T) hp
  have hz : ∃ t, zwh (fun (q : zM) => f_X12_blanks_L0 q) zFu σ = some t ∧ zEx [(12, 21)] σ t ∧ zI t 12 0 21 = nI (zfar (zcB T) n p) := by
    refine zwh_ex (fun (i : Nat) (q : zM) => p + i ≤ zfar (zcB T) n p ∧ zEx [(12, 21)] σ q ∧ zI q 12 0 21 = nI (p + i)) _ (zfar (zcB T) n p - p) ⟨by omega, zEx.rf, ha⟩ (fun i q hi hq => ?_) (fun q hq => ?_) (by omega)
    · obtain ⟨h1, h2, h3⟩ := hq
      have hr := zTr_fr h h2 (by decide) (by decide)
      refine Or.inl ⟨zsI q 12 0 21 (nI (p + (i + 1))), ?_, by omega, h2.tr (zEx_sI (by decide)), rfl⟩
      have hb := (zisb_R hr (show p + i < n by omega)).mpr (hP.2.2.1 (p + i) (by omega) (by omega))
      show f_X12_blanks_L0 q = _
      unfold f_X12_blanks_L0 f_X12_blanks_B39_0
      rw [hr.2.1, h3, if_neg (by rw [nI_leI (by omega) (by omega)]; omega), zix_n (show p + i < 900 by omega) (by omega), Option.bind_some, nI_1]
      rcases hb with hb | hb
      · rw [if_pos hb, zlt_e]
        rfl
      · by_cases h32 : zA q 12 0 39 (p + i) = 32
        · rw [if_pos h32, zlt_e]
          rfl
        · rw [if_neg h32, Option.bind_some, if_pos hb, zlt_e]
          rfl
    · obtain ⟨h1, h2, h3⟩ := hq
      have hr := zTr_fr h h2 (by decide) (by decide)
      have e : p + (zfar (zcB T) n p - p) = zfar (zcB T) n p := by omega
      rw [e] at h3
      refine ⟨q, ?_, h2, h3⟩
      show f_X12_blanks_L0 q = _
      unfold f_X12_blanks_L0
      rw [hr.2.1, h3]
      by_cases hn : zfar (zcB T) n p < n
      · have hb := hP.2.2.2 hn
        have hnb : ¬ (zA q 12 0 39 (zfar (zcB T) n p) = 32 ∨ zA q 12 0 39 (zfar (zcB T) n p) = 10) := fun h => by
          rw [zisb_R hr hn, hb] at h
          cases h
        rw [if_neg (by rw [nI_leI (by omega) (by omega)]; omega), zix_n (show zfar (zcB T) n p < 900 by omega) (by omega), Option.bind_some, if_neg (fun h => hnb (Or.inl h)), Option.bind_some, if_neg (fun h => hnb (Or.inr h))]
      · rw [if_pos (by rw [nI_leI (by omega) (by omega)]; omega)]
  obtain ⟨t, h1, h2, h3⟩ := hz
  refine ⟨t, ?_, h2, h3⟩
  unfold f_X12_blanks
  rw [h1, Option.bind_some]
/-! words of a text -/
def zRv (T : Nat → Nat) (a : Nat) : Nat → List Nat
  | 0 => []
  | i + 1 => (T (a + i) - 96) :: zRv T a i
theorem zRv_len {T : Nat → Nat} {a : Nat} : ∀ {L : Nat}, (zRv T a L).length = L
  | 0 => rfl
  | L + 1 => by show (zRv T a L).length + 1 = _; rw [zRv_len]
theorem zRv_in {T : Nat → Nat} {a : Nat} : ∀ {L : Nat}, (∀ i, a ≤ i → i < a + L → zcL T i = true) → ∀ c ∈ zRv T a L, 1 ≤ c ∧ c ≤ 26
  | 0, _, c, hc => by cases hc
  | L + 1, h, c, hc => by
    rcases List.mem_cons.mp hc with rfl | hc
    · have h1 := h (a + L) (by omega) (by omega)
      unfold zcL at h1
      rw [Bool.and_eq_true] at h1
      have e1 := of_decide_eq_true h1.1
      have e2 := of_decide_eq_true h1.2
      omega
    · exact zRv_in (fun i h1 h2 => h i h1 (by omega)) c hc
theorem zjn5 {w b : Nat} (h1 : 97 ≤ b) (h2 : b ≤ 122) : f_X10_join (lN w) (nI b) = lN (w * 32 + (b - 96 + 0)) := by
  unfold f_X10_join
  rw [zq97, zsubI h1, nI_1, nI_l (by omega), show (32 : Int64) = lN 32 from rfl, lN_mul, lN_add]
  congr 1
  omega
theorem zjn8 {w b : Nat} (h1 : 97 ≤ b) (h2 : b ≤ 122) : zlshl (lN w) 8 ||| (nI b).toInt64 = lN (w * 256 + (b - 96 + 96)) := by
  unfold zlshl
  have e : lN w <<< ((8 : Int32).toInt64 &&& 63) = lN (w * 2 ^ 8) := wb_shl w (k := 8) (by omega)
  rw [e, nI_l (by omega), Nat.mul_comm, fb_or_sumL w (show b < 2 ^ 8 by omega)]
  congr 1
  omega
theorem zjn8m {w b : Nat} (h1 : 97 ≤ b) (h2 : b ≤ 122) : zlshl (lN w) 8 ||| ((nI b).toInt64 &&& 255) = lN (w * 256 + (b - 96 + 96)) := by
  have e : (nI b).toInt64 &&& 255 = (nI b).toInt64 := by
    rw [nI_l (by omega), zmask8, Nat.mod_eq_of_lt (by omega)]
  rw [e, zjn8 h1 h2]
def zW8 (T : Nat → Nat) (a L : Nat) : Int64 := if L ≤ 8 then lN (zQn 256 96 (zRv T a L)) else 0
def zW5 (T : Nat → Nat) (a L : Nat) : Int64 := if L ≤ 8 then lN (zQn 32 0 (zRv T a L)) else 0
theorem X12_word_ {σ : zM} {T : Nat → Nat} {n p a e : Nat} (h : zTr σ T n) (hp : p ≤ n) (hat : zI σ 12 0 21 = nI p) (hA : a = zfar (zcB T) n p) (hE : e = zfar (zcL T) n a) : ∃ σ', f_X12_word_ σ = some (zW8 T a (e - a), σ') ∧ zEx [(12, 21), (12, 40)] σ σ' ∧ zI σ' 12 0 21 = nI a ∧ zI σ' 12 0 40 = nI e := by
  have h900 := h.1
  obtain ⟨σ1, w1, w2, w3⟩ := X12_blanks h hp hat
  rw [← hA] at w3
  have hPa := zfar_p (c := zcB T) hp
  rw [← hA] at hPa
  have hP := zfar_p (c := zcL T) hPa.2.1
  rw [← hE] at hP
  have hz : ∃ t, zwh (fun (q : (Int64 × zM)) => f_X12_word__L14 q.1 q.2) zFu (0, zsI σ1 12 0 40 (nI a)) = some t ∧ t.1 = (if e - a ≤ 8 then lN (zQn 256 96 (zRv T a (e - a))) else 0) ∧ zEx [(12, 21), (12, 40)] σ t.2 ∧ zI t.2 12 0 21 = nI a ∧ zI t.2 12 0 40 = nI e := by
    refine zwh_ex (fun (i : Nat) (q : Int64 × zM) => q.1 = (if i ≤ 8 then lN (zQn 256 96 (zRv T a i)) else 0) ∧ zEx [(12, 21), (12, 40)] σ q.2 ∧ zI q.2 12 0 21 = nI a ∧ zI q.2 12 0 40 = nI (a + i)) _ (e - a) ⟨rfl, (w2.mo (by decide)).tr (zEx_sI (by decide)), w3, rfl⟩ (fun i q hi hq => ?_) (fun q hq => ?_) (by omega)
    · obtain ⟨q1, q2⟩ := q
      obtain ⟨h1, h2, h3, h4⟩ := hq
      simp only at h1 h2 h3 h4
      subst h1
      have hr := zTr_fr h h2 (by decide) (by decide)
      have hl := hP.2.2.1 (a + i) (by omega) (by omega)
      obtain ⟨l1, l2, l3, l4, l5⟩ := (zcL_R hr (show a + i < n by omega)).1 hl
      refine Or.inl ⟨(if i + 1 ≤ 8 then lN (zQn 256 96 (zRv T a (i + 1))) else 0, zsI q2 12 0 40 (nI (a + (i + 1)))), ?_, rfl, h2.tr (zEx_sI (by decide)), h3, rfl⟩
      show f_X12_word__L14 _ q2 = _
      unfold f_X12_word__L14 f_X12_word__B86_14
      have e1 : nI (a + i) - nI a = nI i := by rw [zsubI (by omega)]; congr 1; omega
      rw [hr.2.1, h4, if_neg (by rw [nI_leI (by omega) (by omega)]; omega), zix_n (show a + i < 900 by omega) (by omega), Option.bind_some, if_neg l2, Option.bind_some, if_neg l3, h3, e1, nI_1]
      by_cases h8 : 8 ≤ i
      · rw [if_pos (by rw [zq8, nI_leI (by omega) (by omega)]; omega), zlt_e, if_neg (by omega)]
        rfl
      · rw [if_neg (by rw [zq8, nI_leI (by omega) (by omega)]; omega), Option.bind_some, l1, if_pos (by omega), zjn8 l4 l5, zlt_e, if_pos (by omega)]
        rfl
    · obtain ⟨q1, q2⟩ := q
      obtain ⟨h1, h2, h3, h4⟩ := hq
      simp only at h1 h2 h3 h4
      have hr := zTr_fr h h2 (by decide) (by decide)
      have ee : a + (e - a) = e := by omega
      rw [ee] at h4
      refine ⟨(q1, q2), ?_, h1, h2, h3, h4⟩
      show f_X12_word__L14 q1 q2 = _
      unfold f_X12_word__L14
      rw [hr.2.1, h4]
      by_cases hn : e < n
      · rw [if_neg (by rw [nI_leI (by omega) (by omega)]; omega), zix_n (show e < 900 by omega) (by omega), Option.bind_some]
        rcases (zcL_R hr hn).2 (hP.2.2.2 hn) with hc | ⟨hc, hd⟩
        · rw [if_pos hc]
        · rw [if_neg hc, Option.bind_some, if_pos hd]
      · rw [if_pos (by rw [nI_leI (by omega) (by omega)]; omega)]
  obtain ⟨⟨t1, t2⟩, h1, h2, h3, h4, h5⟩ := hz
  simp only at h2 h3 h4 h5
  refine ⟨t2, ?_, h3, h4, h5⟩
  unfold f_X12_word_
  rw [w1, Option.bind_some, zlt_e, w3, h1, Option.bind_some]
  unfold f_X12_word__B100 zW8
  rw [h4, h5, zsubI (by omega), h2]
  by_cases h8 : e - a ≤ 8
  · rw [if_pos (by rw [zq8, nI_leI (by omega) (by omega)]; omega), if_pos h8]
  · rw [if_neg (by rw [zq8, nI_leI (by omega) (by omega)]; omega), if_neg h8]
/-! the tape becomes the text -/
def zTT (σ : zM) (i : Nat) : Nat := (zA σ 9 0 0 i).toNatClampNeg
theorem zBy_T {σ : zM} (h : ∀ i, i < 900 → zBy (zA σ 9 0 0 i) (zA σ 12 0 38 i)) {i : Nat} (hi : i < 900) : zTT σ i < 256 ∧ zA σ 9 0 0 i = nI (zTT σ i) ∧ (zTT σ i < 128 → zA σ 12 0 38 i = nI (zTT σ i)) ∧ (128 ≤ zTT σ i → zA σ 12 0 38 i < 0) ∧ vp_nar .byte (zA σ 12 0 38 i) = zA σ 12 0 38 i := by
  unfold zTT
  rcases h i hi with ⟨b, h1, h2, h3⟩ | ⟨b, h0, h1, h2, h3, h4⟩
  · rw [h2, nI_clamp (by omega), h3]
    refine ⟨by omega, rfl, fun _ => rfl, fun h => by omega, ?_⟩
    rw [vp_nar_byte]
    exact fb_byte (by rw [nI_toInt (by omega)]; omega) (by rw [nI_toInt (by omega)]; omega)
  · rw [h2, nI_clamp (by omega)]
    refine ⟨by omega, rfl, fun h => by omega, fun _ => h3, ?_⟩
    rw [vp_nar_byte]
    exact h4
theorem X12_text {σ : zM} {n : Nat} (hn : n ≤ 900) (hb : ∀ i, i < 900 → zBy (zA σ 9 0 0 i) (zA σ 12 0 38 i)) {σ0 : zM} (h0 : zA σ0 12 0 38 = zA σ 12 0 38) : ∃ σ', f_X12_takesText σ0 (nI n) = some σ' ∧ zEx [(12, 39), (12, 20), (12, 19), (12, 21)] σ0 σ' ∧ zTr σ' (zTT σ) n ∧ zI σ' 12 0 19 = 0 ∧ zI σ' 12 0 21 = nI 0 := by
  have hz : ∃ t, zwh (fun (q : (Int32 × zM)) => f_X12_takesText_L2 (nI n) q.1 q.2) zFu (0, σ0) = some t ∧ zEx [(12, 39)] σ0 t ∧ ∀ i, i < n → zA t 12 0 39 i = zA σ 12 0 38 i := by
    refine zwh_ex (fun (i : Nat) (q : Int32 × zM) => q.1 = nI i ∧ zEx [(12, 39)] σ0 q.2 ∧ ∀ j, j < i → zA q.2 12 0 39 j = zA σ 12 0 38 j) _ n ⟨rfl, zEx.rf, fun j hj => absurd hj (Nat.not_lt_zero j)⟩ (fun i q hi hq => ?_) (fun q hq => ?_) (by omega)
    · obtain ⟨q1, q2⟩ := q
      obtain ⟨h1, h2, h3⟩ := hq
      simp only at h1 h2 h3
      subst h1
      refine Or.inl ⟨(nI (i + 1), zsA q2 12 0 39 i (zA σ 12 0 38 i)), ?_, rfl, h2.tr (zEx_sA (by decide)), fun j hj => ?_⟩
      · show f_X12_takesText_L2 (nI n) (nI i) q2 = _
        unfold f_X12_takesText_L2
        rw [if_neg (by rw [nI_leI (by omega) (by omega)]; omega), zix_n (show i < 900 by omega) (by omega), Option.bind_some, Option.bind_some, zlt_e, h2.2.2.2.1 12 0 38 (by decide), h0, (zBy_T hb (show i < 900 by omega)).2.2.2.2, nI_1]
      · show zu (zA q2 12 0 39) i (zA σ 12 0 38 i) j = _
        by_cases e : j = i
        · rw [e, zu_eq]
        · rw [zu_ne _ _ e]
          exact h3 j (by omega)
    · obtain ⟨q1, q2⟩ := q
      obtain ⟨h1, h2, h3⟩ := hq
      simp only at h1 h2 h3
      subst h1
      refine ⟨q2, ?_, h2, h3⟩
      show f_X12_takesText_L2 (nI n) (nI n) q2 = _
      unfold f_X12_takesText_L2
      rw [if_pos (nI_le (Nat.le_refl _) (by omega))]
  obtain ⟨t, h1, h2, h3⟩ := hz
  refine ⟨zsI (zsI (zsI t 12 0 20 (nI n)) 12 0 19 0) 12 0 21 0, ?_, (h2.mo (by decide)).tr ((zEx_sI (by decide)).tr ((zEx_sI (by decide)).tr (zEx_sI (by decide)))), ⟨hn, rfl, fun i hi => ?_⟩, rfl, rfl⟩
  · unfold f_X12_takesText f_X12_takesText_B25
    rw [h1, Option.bind_some]
    rfl
  · obtain ⟨g1, -, g3, g4, -⟩ := zBy_T hb (show i < 900 by omega)
    show _ ∧ (_ → zA t 12 0 39 i = _) ∧ (_ → zA t 12 0 39 i < 0)
    rw [h3 i hi]
    exact ⟨g1, g3, g4⟩
theorem zTc_T {σ : zM} {n k : Nat} (hk : k ≤ 900) (hn : n ≤ k) (h : zI σ 9 0 1 = nI k) (hb : ∀ i, i < 900 → zBy (zA σ 9 0 0 i) (zA σ 12 0 38 i)) : zTc σ (zTT σ) n := ⟨⟨k, hn, hk, h⟩, fun i hi => ⟨(zBy_T hb (show i < 900 by omega)).1, (zBy_T hb (show i < 900 by omega)).2.1⟩⟩
theorem zholds {σ σ' : zM} {k : Nat} (hk : k ≤ 900) (h : zI σ 9 0 1 = nI k) (h' : zI σ' 12 0 19 = nI k) (x : Int32) : (∃ n, n ≤ k ∧ x = nI n ∧ f_X9_holds σ x = 1 ∧ f_X12_isIn x 0 (zI σ' 12 0 19) = 1) ∨ (f_X9_holds σ x = 0 ∧ f_X12_isIn x 0 (zI σ' 12 0 19) = 0) := by
  unfold f_X9_holds
  rw [h, h']
  rcases zcase x (n := k + 1) (by omega) with ⟨n, hn, rfl⟩ | hx
  · refine Or.inl ⟨n, by omega, rfl, ?_, zisIn_1 (a := 0) (by omega) (by omega) (by omega)⟩
    rw [if_neg (zlt0 (by omega)), if_neg (by rw [nI_ltI (by omega) (by omega)]; omega)]
  · refine Or.inr ⟨?_, zisIn_0' (by omega) hx⟩
    by_cases h0 : x < 0
    · rw [if_pos h0]
    · have h1 := hx.resolve_left h0
      rw [fa_le, nI_toInt (by omega)] at h1
      rw [if_neg h0, if_pos (by rw [fa_lt, nI_toInt (by omega)]; omega)]
