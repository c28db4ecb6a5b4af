/-! ===== bits of a long that isn't negative ===== -/
theorem fb_andL (a b : Nat) : lN a &&& lN b = lN (a &&& b) := by
  apply Int64.toBitVec_inj.1
  show BitVec.ofNat 64 a &&& BitVec.ofNat 64 b = BitVec.ofNat 64 (a &&& b)
  apply BitVec.eq_of_getLsbD_eq
  intro i hi
  simp [hi]
theorem fb_orL (a b : Nat) : lN a ||| lN b = lN (a ||| b) := by
  apply Int64.toBitVec_inj.1
  show BitVec.ofNat 64 a ||| BitVec.ofNat 64 b = BitVec.ofNat 64 (a ||| b)
  apply BitVec.eq_of_getLsbD_eq
  intro i hi
  simp [hi]
theorem fb_xorL (a b : Nat) : lN a ^^^ lN b = lN (a ^^^ b) := by
  apply Int64.toBitVec_inj.1
  show BitVec.ofNat 64 a ^^^ BitVec.ofNat 64 b = BitVec.ofNat 64 (a ^^^ b)
  apply BitVec.eq_of_getLsbD_eq
  intro i hi
  simp [hi]
theorem fb_xorI (a b : Nat) : nI a ^^^ nI b = nI (a ^^^ b) := by
  apply Int32.toBitVec_inj.1
  show BitVec.ofNat 32 a ^^^ BitVec.ofNat 32 b = BitVec.ofNat 32 (a ^^^ b)
  apply BitVec.eq_of_getLsbD_eq
  intro i hi
  simp [hi]
theorem fb_maskL (n k : Nat) : lN n &&& lN (2 ^ k - 1) = lN (n % 2 ^ k) := by rw [fb_andL, Nat.and_two_pow_sub_one_eq_mod]
theorem fb_or_sumL {a k : Nat} (b : Nat) (h : a < 2 ^ k) : lN (2 ^ k * b) ||| lN a = lN (2 ^ k * b + a) := by rw [fb_orL, Nat.two_pow_add_eq_or_of_lt h]
theorem fb_lN_inj {a b : Nat} (ha : a < 2 ^ 63) (hb : b < 2 ^ 63) : lN a = lN b ↔ a = b := by
  constructor
  · intro h
    have h1 : (BitVec.ofNat 64 a).toNat = (BitVec.ofNat 64 b).toNat := congrArg (fun x : Int64 => x.toBitVec.toNat) h
    rw [BitVec.toNat_ofNat, BitVec.toNat_ofNat, Nat.mod_eq_of_lt (by omega), Nat.mod_eq_of_lt (by omega)] at h1
    exact h1
  · rintro rfl; rfl
theorem fb_bit_nat (n j : Nat) : n &&& 2 ^ j = 0 ↔ n.testBit j = false := by
  constructor
  · intro h
    have h1 : (n &&& 2 ^ j).testBit j = false := by rw [h]; simp
    rw [Nat.testBit_and] at h1
    simpa using h1
  · intro h
    apply Nat.eq_of_testBit_eq
    intro i
    rw [Nat.testBit_and]
    by_cases hi : j = i
    · subst hi; simp [h]
    · first | (simp [Nat.testBit_two_pow, hi]; done) | (simp [Nat.testBit_two_pow_of_ne hi]; done)
/-- one bit of a long -/
theorem fb_bitL {n j : Nat} (hj : j < 63) : lN n &&& lN (2 ^ j) = 0 ↔ n.testBit j = false := by
  have h2 : (2 : Nat) ^ j < 2 ^ 63 := Nat.pow_lt_pow_right (by decide) hj
  have hle : n &&& 2 ^ j ≤ 2 ^ j := Nat.and_le_right
  rw [fb_andL, ← fb_bit_nat, show (0 : Int64) = lN 0 from rfl]
  exact fb_lN_inj (by omega) (by decide)
/-- a bit set, a bit taken off -/
theorem fb_bit_set (n j i : Nat) : (n ||| 2 ^ j).testBit i = (n.testBit i || decide (i = j)) := by
  rw [Nat.testBit_or]
  by_cases h : j = i
  · subst h; simp
  · have h2 : ¬ i = j := fun e => h e.symm
    first | (simp [Nat.testBit_two_pow, h, h2]; done) | (simp [Nat.testBit_two_pow_of_ne h, h2]; done)
theorem fb_bit_flip (n j i : Nat) : (n ^^^ 2 ^ j).testBit i = (n.testBit i ^^ decide (i = j)) := by
  rw [Nat.testBit_xor]
  by_cases h : j = i
  · subst h; simp
  · have h2 : ¬ i = j := fun e => h e.symm
    first | (simp [Nat.testBit_two_pow, h, h2]; done) | (simp [Nat.testBit_two_pow_of_ne h, h2]; done)
/-! pairs looked at -/
theorem zlshl_1 : ∀ q, q < 45 → zlshl 1 (nI q) = lN (2 ^ q) := by decide +kernel
theorem zpr_lt : ∀ b, b < 10 → ∀ a, a < b → zpr a b < 45 := by decide
theorem zpr_inj0 : ((List.range 10).all fun b => (List.range 10).all fun a => (List.range 10).all fun d => (List.range 10).all fun c => !(decide (a < b) && decide (c < d) && decide (zpr a b = zpr c d)) || (decide (a = c) && decide (b = d))) = true := by decide +kernel
theorem zpr_inj : ∀ b, b < 10 → ∀ a, a < 10 → ∀ d, d < 10 → ∀ c, c < 10 → ¬ (a < b ∧ c < d ∧ zpr a b = zpr c d) ∨ (a = c ∧ b = d) := by
  intro b hb a ha d hd c hc
  have h := List.all_eq_true.mp (List.all_eq_true.mp (List.all_eq_true.mp (List.all_eq_true.mp zpr_inj0 b (List.mem_range.mpr hb)) a (List.mem_range.mpr ha)) d (List.mem_range.mpr hd)) c (List.mem_range.mpr hc)
  rcases (Bool.or_eq_true _ _).mp h with h | h
  · refine Or.inl (fun ⟨h1, h2, h3⟩ => ?_)
    rw [decide_eq_true h1, decide_eq_true h2, decide_eq_true h3] at h
    exact absurd h (by decide)
  · rw [Bool.and_eq_true] at h
    exact Or.inr ⟨of_decide_eq_true h.1, of_decide_eq_true h.2⟩
theorem zprI {a b : Nat} (hab : a < b) (hb : b < 10) : ((nI b * (nI b - 1)) / 2) + nI a = nI (zpr a b) := by
  obtain ⟨c, rfl⟩ : ∃ c, b = c + 1 := ⟨b - 1, by omega⟩
  have h := Nat.mul_le_mul (show c + 1 ≤ 10 by omega) (show c ≤ 10 by omega)
  rw [nI_pred, zmulI, zq2, zdivI (by omega) (by omega), nI_add]
  rfl
/-- the reference's pairs are the bits of m -/
def iPR (σ : zM) (m : Nat) : Prop := (∀ a b, a < b → b < 10 → zA σ 12 0 14 (10 * a + b) = (if m.testBit (zpr a b) then 1 else 0)) ∧ zI σ 12 0 15 = nI (fb_ct (fun j => m.testBit j) 45)
theorem zpr_or {m a b : Nat} (hab : a < b) (hb : b < 10) (m1 : m < 2 ^ 45) : m ||| 2 ^ zpr a b < 2 ^ 45 := Nat.or_lt_two_pow m1 (Nat.pow_lt_pow_right (by decide) (zpr_lt b hb a hab))
theorem iPR_set {σ σ' : zM} {m a b : Nat} (hab : a < b) (hb : b < 10) (h : iPR σ m) (h2 : zA σ' 12 0 14 = zu (zA σ 12 0 14) (10 * a + b) 1) (h3 : zI σ' 12 0 15 = if zA σ 12 0 14 (10 * a + b) = 0 then zI σ 12 0 15 + 1 else zI σ 12 0 15) : iPR σ' (m ||| 2 ^ zpr a b) := by
  obtain ⟨m3, m4⟩ := h
  have hq := zpr_lt b hb a hab
  refine ⟨fun c d hcd hd => ?_, ?_⟩
  · rw [h2, fb_bit_set]
    by_cases e : a = c ∧ b = d
    · obtain ⟨rfl, rfl⟩ := e
      rw [zu_eq]
      simp
    · rw [zu_ne _ _ (fun e2 => e (by omega)), m3 c d hcd hd]
      have : ¬ zpr c d = zpr a b := fun e2 => e (by
        exact (zpr_inj b hb a (by omega) d hd c (by omega)).resolve_left (fun h => h ⟨hab, hcd, e2.symm⟩))
      simp [this]
  · have hu := fb_ct_upd (fun j => m.testBit j) true hq
    have e : fb_ct (fun j => (m ||| 2 ^ zpr a b).testBit j) 45 = fb_ct (fun j => if j = zpr a b then true else m.testBit j) 45 := by
      refine fb_ct_cong (fun j _ => ?_)
      rw [fb_bit_set]
      by_cases ej : j = zpr a b
      · simp [ej]
      · simp [ej]
    rw [h3, m3 a b hab hb, m4, e]
    by_cases hm : m.testBit (zpr a b) = true
    · rw [if_pos hm] at hu
      rw [if_pos hm, if_neg z10]
      simp only [if_true] at hu
      congr 1
      omega
    · rw [if_neg hm] at hu
      rw [if_neg hm, if_pos rfl, nI_1]
      simp only [if_true] at hu
      congr 1
      omega
