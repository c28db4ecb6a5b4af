/-! ===== lN n to 2^64: shifts, and, or, masks, one bit ===== -/
theorem wb_tb (n : Nat) : (lN n).toBitVec = BitVec.ofNat 64 n := rfl
theorem wb_inj {a b : Int64} (h : a.toBitVec = b.toBitVec) : a = b := Int64.toBitVec_inj.mp h
theorem wb_tn {n : Nat} (h : n < 2 ^ 64) : (lN n).toBitVec.toNat = n := by rw [wb_tb, BitVec.toNat_ofNat, Nat.mod_eq_of_lt h]
theorem wb_of (x : Int64) : ∃ n, n < 2 ^ 64 ∧ x = lN n := ⟨x.toBitVec.toNat, x.toBitVec.isLt, wb_inj (by rw [wb_tb]; simp)⟩
theorem wb_of32 (x : Int32) : ∃ n, n < 2 ^ 32 ∧ x = nI n := ⟨x.toBitVec.toNat, x.toBitVec.isLt, Int32.toBitVec_inj.mp (by show _ = BitVec.ofNat 32 _; simp)⟩
theorem wb_c : ∀ k, k < 64 → ((nI k).toInt64 &&& 63) = lN k := by decide +kernel
theorem wb_cu : ∀ k, k < 64 → ((nI k).toInt64.toUInt64 &&& Int64.toUInt64 63) = UInt64.ofNat k := by decide +kernel
theorem wb_sm : ∀ k, k < 64 → (BitVec.ofNat 64 k).smod 64 = BitVec.ofNat 64 k := by decide +kernel
theorem wb_pw {a b : Nat} (h : a ≤ b) : 2 ^ b = 2 ^ a * 2 ^ (b - a) := by rw [← Nat.pow_add]; congr 1; omega
theorem wb_lt2 {a b : Nat} (h : a < b) : 2 ^ a < 2 ^ b := Nat.pow_lt_pow_right (by decide) h
theorem wb_mod (n : Nat) : lN n = lN (n % 2 ^ 64) := wb_inj (by rw [wb_tb, wb_tb]; apply BitVec.eq_of_toNat_eq; rw [BitVec.toNat_ofNat, BitVec.toNat_ofNat, Nat.mod_mod])
theorem wb_shr {n k : Nat} (hn : n < 2 ^ 64) (hk : k < 64) : ((lN n).toUInt64 >>> ((nI k).toInt64.toUInt64 &&& Int64.toUInt64 63)).toInt64 = lN (n / 2 ^ k) := by
  rw [wb_cu k hk]
  apply wb_inj
  apply BitVec.eq_of_toNat_eq
  show ((lN n).toUInt64 >>> UInt64.ofNat k).toNat = (BitVec.ofNat 64 _).toNat
  have h1 : (UInt64.ofNat k).toNat = k := by
    show (BitVec.ofNat 64 k).toNat = k
    rw [BitVec.toNat_ofNat, Nat.mod_eq_of_lt (by omega)]
  have h2 : (lN n).toUInt64.toNat = n := wb_tn hn
  rw [UInt64.toNat_shiftRight, h1, h2, Nat.mod_eq_of_lt hk, Nat.shiftRight_eq_div_pow, BitVec.toNat_ofNat, Nat.mod_eq_of_lt (Nat.lt_of_le_of_lt (Nat.div_le_self _ _) hn)]
theorem wb_shl (n : Nat) {k : Nat} (hk : k < 64) : lN n <<< ((nI k).toInt64 &&& 63) = lN (n * 2 ^ k) := by
  rw [wb_c k hk]
  apply wb_inj
  rw [Int64.toBitVec_shiftLeft, wb_tb, wb_tb, wb_tb, wb_sm k hk]
  apply BitVec.eq_of_toNat_eq
  rw [BitVec.shiftLeft_eq', BitVec.toNat_shiftLeft, BitVec.toNat_ofNat, BitVec.toNat_ofNat, BitVec.toNat_ofNat, Nat.mod_eq_of_lt (show k < 2 ^ 64 by omega), Nat.shiftLeft_eq, Nat.mul_mod, Nat.mod_mod, ← Nat.mul_mod]
theorem wb_and {a b : Nat} (ha : a < 2 ^ 64) (hb : b < 2 ^ 64) : lN a &&& lN b = lN (a &&& b) := by
  apply wb_inj
  rw [Int64.toBitVec_and, wb_tb, wb_tb, wb_tb]
  apply BitVec.eq_of_toNat_eq
  rw [BitVec.toNat_and, BitVec.toNat_ofNat, BitVec.toNat_ofNat, BitVec.toNat_ofNat, Nat.mod_eq_of_lt ha, Nat.mod_eq_of_lt hb, Nat.mod_eq_of_lt (Nat.and_lt_two_pow _ hb)]
theorem wb_or {a b : Nat} (ha : a < 2 ^ 64) (hb : b < 2 ^ 64) : lN a ||| lN b = lN (a ||| b) := by
  apply wb_inj
  rw [Int64.toBitVec_or, wb_tb, wb_tb, wb_tb]
  apply BitVec.eq_of_toNat_eq
  rw [BitVec.toNat_or, BitVec.toNat_ofNat, BitVec.toNat_ofNat, BitVec.toNat_ofNat, Nat.mod_eq_of_lt ha, Nat.mod_eq_of_lt hb, Nat.mod_eq_of_lt (Nat.or_lt_two_pow ha hb)]
theorem wb_mask {n k : Nat} (hn : n < 2 ^ 64) (hk : k < 64) : lN n &&& lN (2 ^ k - 1) = lN (n % 2 ^ k) := by
  rw [wb_and hn (by have := wb_lt2 hk; omega), Nat.and_two_pow_sub_one_eq_mod]
theorem wb_a1 {n : Nat} (hn : n < 2 ^ 64) : lN n &&& 1 = lN (n % 2) := wb_mask (k := 1) hn (by decide)
theorem wb_bit {n k : Nat} (hn : n < 2 ^ 64) (hk : k < 64) : ((lN n).toUInt64 >>> ((nI k).toInt64.toUInt64 &&& Int64.toUInt64 63)).toInt64 &&& 1 = lN (n / 2 ^ k % 2) := by
  rw [wb_shr hn hk, wb_a1 (Nat.lt_of_le_of_lt (Nat.div_le_self _ _) hn)]
theorem wb_xor {q k : Nat} (hk : k < 63) (h : 2 ^ k ≤ q) (h2 : q < 2 ^ (k + 1)) : lN q ^^^ lN (2 ^ k) = lN (q - 2 ^ k) := by
  obtain ⟨r, rfl⟩ : ∃ r, q = 2 ^ k + r := ⟨q - 2 ^ k, by omega⟩
  have hr : r < 2 ^ k := by rw [Nat.pow_succ] at h2; omega
  have hx : (2 ^ k + r) ^^^ 2 ^ k = r := by
    apply Nat.eq_of_testBit_eq
    intro i
    rw [Nat.testBit_xor, Nat.testBit_two_pow]
    rcases Nat.lt_trichotomy i k with h | h | h
    · rw [Nat.testBit_two_pow_add_gt h]
      simp [show ¬ k = i by omega]
    · subst h
      rw [Nat.testBit_two_pow_add_eq]
      simp
    · have a1 : 2 ^ (k + 1) ≤ 2 ^ i := Nat.pow_le_pow_right (by decide) h
      rw [Nat.testBit_lt_two_pow (show 2 ^ k + r < 2 ^ i by omega), Nat.testBit_lt_two_pow (show r < 2 ^ i by omega)]
      simp [show ¬ k = i by omega]
  have b1 := wb_lt2 (show k + 1 < 64 by omega)
  have b2 := wb_lt2 (show k < 64 by omega)
  apply wb_inj
  rw [Int64.toBitVec_xor, wb_tb, wb_tb, wb_tb]
  apply BitVec.eq_of_toNat_eq
  rw [BitVec.toNat_xor, BitVec.toNat_ofNat, BitVec.toNat_ofNat, BitVec.toNat_ofNat, Nat.mod_eq_of_lt (by omega : 2 ^ k + r < 2 ^ 64), Nat.mod_eq_of_lt b2, hx, Nat.add_sub_cancel_left, Nat.mod_eq_of_lt (by omega)]
/-! ===== lN: masks, 'or' of parts that don't overlap is a sum ===== -/
theorem u_tn {n : Nat} (h : n < 2 ^ 64) : (UInt64.ofNat n).toNat = n := Nat.mod_eq_of_lt h
theorem g_and {a b c : Nat} (ha : a < 2 ^ 64) (hb : b < 2 ^ 64) (hc : a &&& b = c) : lN a &&& lN b = lN c := by
  subst hc
  have h : UInt64.ofNat a &&& UInt64.ofNat b = UInt64.ofNat (a &&& b) := UInt64.toNat_inj.mp (by rw [UInt64.toNat_and, u_tn ha, u_tn hb, u_tn (Nat.and_lt_two_pow a hb)])
  have h2 := congrArg UInt64.toInt64 h
  exact h2
theorem g_and1 {a : Nat} (ha : a < 2 ^ 64) : lN a &&& 1 = lN (a % 2) := g_and (b := 1) ha (by decide) (Nat.and_two_pow_sub_one_eq_mod a 1)
theorem g_mask {a s p : Nat} (hp : 2 ^ s = p) (hs : s < 64) (ha : a < 2 ^ 64) : lN a &&& lN (p - 1) = lN (a % p) := by
  subst hp
  have := Nat.pow_lt_pow_right (show 1 < 2 by decide) hs
  exact g_and ha (by omega) (Nat.and_two_pow_sub_one_eq_mod a s)
theorem g_or {k p a b : Nat} (hp : 2 ^ k = p) (ha : a < p) (h : b * p + a < 2 ^ 64) : lN (b * p) ||| lN a = lN (b * p + a) := by
  subst hp
  have h1 : b * 2 ^ k ||| a = b * 2 ^ k + a := by rw [← Nat.shiftLeft_eq, Nat.shiftLeft_add_eq_or_of_lt ha]
  have h3 : UInt64.ofNat (b * 2 ^ k) ||| UInt64.ofNat a = UInt64.ofNat (b * 2 ^ k + a) := UInt64.toNat_inj.mp (by rw [UInt64.toNat_or, u_tn (by omega), u_tn (by omega), u_tn h, h1])
  have h2 := congrArg UInt64.toInt64 h3
  exact h2
theorem g_or' {k p a b : Nat} (hp : 2 ^ k = p) (ha : a < p) (h : a + b * p < 2 ^ 64) : lN a ||| lN (b * p) = lN (a + b * p) := by
  rw [Int64.or_comm, g_or hp ha (by omega), Nat.add_comm]
theorem g_ushr {a k p : Nat} {y : UInt64} (hy : y = UInt64.ofNat k) (hk : k < 64) (hp : 2 ^ k = p) (ha : a < 2 ^ 64) : ((lN a).toUInt64 >>> y).toInt64 = lN (a / p) := by
  subst hy hp
  have h : UInt64.ofNat a >>> UInt64.ofNat k = UInt64.ofNat (a / 2 ^ k) := UInt64.toNat_inj.mp (by rw [UInt64.toNat_shiftRight, u_tn ha, u_tn (by omega), u_tn (Nat.lt_of_le_of_lt (Nat.div_le_self _ _) ha), Nat.mod_eq_of_lt hk, Nat.shiftRight_eq_div_pow])
  have h2 := congrArg UInt64.toInt64 h
  exact h2
theorem g_shl {a k p : Nat} {y : Int64} (hy : y.toBitVec.smod 64 = BitVec.ofNat 64 k) (hk : k < 64) (hp : 2 ^ k = p) (ha : a < 2 ^ 64) : lN a <<< y = lN (a * p) := by
  subst hp
  apply Int64.toBitVec_inj.mp
  rw [Int64.toBitVec_shiftLeft, hy]
  apply BitVec.eq_of_toNat_eq
  have hb : (lN a).toBitVec.toNat = a := Nat.mod_eq_of_lt ha
  have hk' : (BitVec.ofNat 64 k).toNat = k := Nat.mod_eq_of_lt (by omega)
  have h : ((lN a).toBitVec <<< BitVec.ofNat 64 k).toNat = (a * 2 ^ k) % 2 ^ 64 := by simp only [BitVec.shiftLeft_eq', BitVec.toNat_shiftLeft, hb, hk', Nat.shiftLeft_eq]
  exact h
/-! words by their letters, the last one first -/
def zQn (B k : Nat) : List Nat → Nat
  | [] => 0
  | c :: r => zQn B k r * B + (c + k)
theorem zQn_f (B k : Nat) : ∀ r, zQn B k r = r.foldr (fun c w => w * B + (c + k)) 0
  | [] => rfl
  | c :: r => by
    show zQn B k r * B + (c + k) = _
    rw [zQn_f B k r]
    rfl
theorem zP5_Q (l : List Nat) : zP5 l = zQn 32 0 l.reverse := by
  rw [zQn_f, List.foldr_reverse]
  rfl
theorem zP8_Q (l : List Nat) : zP8 l = zQn 256 96 l.reverse := by
  rw [zQn_f, List.foldr_reverse]
  rfl
theorem zQn_d {B k : Nat} (hB : 0 < B) : ∀ (j : Nat) (r : List Nat), (∀ c ∈ r, c + k < B) → zQn B k r / B ^ j = zQn B k (r.drop j)
  | 0, r, _ => by rw [Nat.pow_zero, Nat.div_one, List.drop_zero]
  | j + 1, [], _ => by rw [List.drop_nil]; exact Nat.zero_div _
  | j + 1, c :: r, h => by
    have h1 : zQn B k (c :: r) / B = zQn B k r := by
      show (zQn B k r * B + (c + k)) / B = _
      rw [Nat.add_comm, Nat.add_mul_div_right _ _ hB, Nat.div_eq_of_lt (h c List.mem_cons_self), Nat.zero_add]
    rw [Nat.pow_succ, Nat.mul_comm (B ^ j) B, ← Nat.div_div_eq_div_mul, h1, zQn_d hB j r (fun c hc => h c (List.mem_cons_of_mem _ hc))]
    rfl
theorem zQn_m {B k c : Nat} {r : List Nat} (h : c + k < B) : zQn B k (c :: r) % B = c + k := by
  show (zQn B k r * B + (c + k)) % B = _
  rw [Nat.add_comm, Nat.add_mul_mod_self_right, Nat.mod_eq_of_lt h]
theorem zQn_0 {B k : Nat} (hB : 0 < B) : ∀ {r : List Nat}, (∀ c ∈ r, 1 ≤ c) → (zQn B k r = 0 ↔ r = [])
  | [], _ => ⟨fun _ => rfl, fun _ => rfl⟩
  | c :: r, h => by
    have := h c List.mem_cons_self
    refine ⟨fun e => ?_, fun e => by cases e⟩
    have e' : zQn B k r * B + (c + k) = 0 := e
    omega
theorem zQn_lt {B k D : Nat} (hB : 0 < B) (hD : 2 * (D + k) < B) : ∀ {r : List Nat}, (∀ c ∈ r, c ≤ D) → 2 * zQn B k r + 1 ≤ B ^ r.length
  | [], _ => by show 2 * 0 + 1 ≤ B ^ 0; rw [Nat.pow_zero]; omega
  | c :: r, h => by
    have h1 := zQn_lt hB hD (r := r) (fun c hc => h c (List.mem_cons_of_mem _ hc))
    have h2 := h c List.mem_cons_self
    show 2 * (zQn B k r * B + (c + k)) + 1 ≤ B ^ (r.length + 1)
    rw [Nat.pow_succ]
    have h3 := Nat.mul_le_mul_right B h1
    rw [Nat.add_mul, Nat.one_mul, Nat.mul_assoc] at h3
    omega
def zLr (r : List Nat) : Prop := 1 ≤ r.length ∧ r.length ≤ 8 ∧ ∀ c ∈ r, 1 ≤ c ∧ c ≤ 26
theorem zWd_r {x y : Int64} (h : zWd x y) : ∃ r, zLr r ∧ x = lN (zQn 32 0 r) ∧ y = lN (zQn 256 96 r) := by
  obtain ⟨l, ⟨h1, h2, h3⟩, h4, h5⟩ := h
  refine ⟨l.reverse, ⟨by rw [List.length_reverse]; exact h1, by rw [List.length_reverse]; exact h2, fun c hc => h3 c (List.mem_reverse.mp hc)⟩, by rw [h4, zP5_Q], by rw [h5, zP8_Q]⟩
theorem zWd_of {r : List Nat} (h : zLr r) : zWd (lN (zQn 32 0 r)) (lN (zQn 256 96 r)) := by
  obtain ⟨h1, h2, h3⟩ := h
  refine ⟨r.reverse, ⟨by rw [List.length_reverse]; exact h1, by rw [List.length_reverse]; exact h2, fun c hc => h3 c (List.mem_reverse.mp hc)⟩, by rw [zP5_Q, List.reverse_reverse], by rw [zP8_Q, List.reverse_reverse]⟩
theorem zQ5_lt {r : List Nat} (h2 : r.length ≤ 8) (h3 : ∀ c ∈ r, 1 ≤ c ∧ c ≤ 26) : zQn 32 0 r < 2 ^ 40 := by
  have h : ∀ r : List Nat, (∀ c ∈ r, 1 ≤ c ∧ c ≤ 26) → zQn 32 0 r < 32 ^ r.length := by
    intro r
    induction r with
    | nil => intro _; exact Nat.zero_lt_one
    | cons c r ih =>
      intro h
      have h1 := ih (fun c hc => h c (List.mem_cons_of_mem _ hc))
      have h2 := h c List.mem_cons_self
      show zQn 32 0 r * 32 + (c + 0) < 32 ^ (r.length + 1)
      rw [Nat.pow_succ]
      omega
  exact Nat.lt_of_lt_of_le (h r h3) (Nat.pow_le_pow_right (by decide) h2)
theorem zQ8_lt {r : List Nat} (h2 : r.length ≤ 8) (h3 : ∀ c ∈ r, 1 ≤ c ∧ c ≤ 26) : zQn 256 96 r < 2 ^ 63 := by
  have h := zQn_lt (B := 256) (k := 96) (D := 26) (by decide) (by decide) (r := r) (fun c hc => (h3 c hc).2)
  have h4 : 256 ^ r.length ≤ 256 ^ 8 := Nat.pow_le_pow_right (by decide) h2
  have h5 : (256 : Nat) ^ 8 = 2 * 2 ^ 63 := by decide
  rw [h5] at h4
  omega
theorem zlushrN {n k : Nat} (hn : n < 2 ^ 64) (hk : k < 64) : zlushr (lN n) (nI k) = lN (n / 2 ^ k) := wb_shr hn hk
theorem zlshrN {n k : Nat} (hn : n < 2 ^ 63) (hk : k < 64) : zlshr (lN n) (nI k) = lN (n / 2 ^ k) := by
  unfold zlshr
  rw [wb_c k hk]
  have hD : ((lN k).toBitVec.smod 64).toNat = k := by
    show ((BitVec.ofNat 64 k).smod 64).toNat = k
    rw [wb_sm k hk, BitVec.toNat_ofNat, Nat.mod_eq_of_lt (by omega)]
  have hd : n / 2 ^ k ≤ n := Nat.div_le_self _ _
  apply Int64.toInt_inj.mp
  have e : (lN n >>> lN k).toInt = (lN n).toInt >>> k := by
    have e2 : (lN n >>> lN k).toInt = (lN n).toInt >>> ((lN k).toBitVec.smod 64).toNat := BitVec.toInt_sshiftRight ..
    rw [e2, hD]
  rw [e, Int.shiftRight_eq_div_pow, pk_lT hn, pk_lT (by omega)]
  rfl
theorem zl0 : (0 : Int64) = lN 0 := rfl
theorem zmin0 (n : Nat) : Nat.min 0 n = 0 := Nat.zero_min n
theorem X10_len {r : List Nat} (h2 : r.length ≤ 8) (h3 : ∀ c ∈ r, 1 ≤ c ∧ c ≤ 26) : f_X10_lengthOf (lN (zQn 32 0 r)) = some (nI r.length) := by
  have hlt := zQ5_lt h2 h3
  unfold f_X10_lengthOf
  have hw := zwh_up (f := fun (q : (Int32 × Int32)) => f_X10_lengthOf_L4 (lN (zQn 32 0 r)) q.1 q.2) (fun i => (nI (min i r.length), nI i)) 8 (t := nI r.length) ?_ ?_ (by omega)
  · rw [show ((0 : Int32), (0 : Int32)) = (fun i => (nI (min i r.length), nI i)) 0 from by show _ = (nI (min 0 r.length), nI 0); rw [Nat.zero_min]; rfl, hw, Option.bind_some]
  · intro i hi
    show f_X10_lengthOf_L4 (lN (zQn 32 0 r)) (nI (min i r.length)) (nI i) = _
    unfold f_X10_lengthOf_L4 f_X10_lengthOf_B23_4
    have hp : 2 ^ (5 * i) = 32 ^ i := Nat.pow_mul 2 5 i
    have hle := Nat.div_le_self (zQn 32 0 r) (32 ^ i)
    rw [if_neg (by rw [zq8, nI_leI (by omega) (by omega)]; omega), zq5, zmulI, zlushrN (by omega) (by omega), hp]
    rw [nI_1, nI_1]
    have hc : lN (zQn 32 0 r / 32 ^ i) = 0 ↔ r.length ≤ i := by
      rw [zl0, pk_lEQ (by omega) (by omega), zQn_d (by decide) i r (fun c hc => by have := h3 c hc; omega), zQn_0 (by decide) (fun c hc => (h3 c (List.mem_of_mem_drop hc)).1), List.drop_eq_nil_iff]
    by_cases h : r.length ≤ i
    · rw [if_pos (hc.mpr h)]
      show _ = some (Sum.inl (nI (min (i + 1) r.length), nI (i + 1)))
      rw [Nat.min_eq_right (by omega), Nat.min_eq_right (by omega)]
    · rw [if_neg (fun e => h (hc.mp e))]
      show _ = some (Sum.inl (nI (min (i + 1) r.length), nI (i + 1)))
      rw [Nat.min_eq_left (by omega), Nat.min_eq_left (by omega)]
  · show f_X10_lengthOf_L4 (lN (zQn 32 0 r)) (nI (min 8 r.length)) (nI 8) = _
    unfold f_X10_lengthOf_L4
    rw [if_pos (show (8 : Int32) ≤ nI 8 by decide), Nat.min_eq_right h2]
theorem X12_len {r : List Nat} (h2 : r.length ≤ 8) (h3 : ∀ c ∈ r, 1 ≤ c ∧ c ≤ 26) : f_X12_lettersOf (lN (zQn 256 96 r)) = some (nI r.length) := by
  have h3d : ∀ i, ∀ c ∈ r.drop i, 1 ≤ c ∧ c ≤ 26 := fun i c hc => h3 c (List.mem_of_mem_drop hc)
  have hltd : ∀ i, zQn 256 96 (r.drop i) < 2 ^ 63 := fun i => zQ8_lt (by rw [List.length_drop]; omega) (h3d i)
  unfold f_X12_lettersOf
  have hw := zwh_up (f := fun (q : (Int32 × Int64)) => f_X12_lettersOf_L4 (lN (zQn 256 96 r)) q.1 q.2) (fun i => (nI i, lN (zQn 256 96 (r.drop i)))) r.length (t := nI r.length) ?_ ?_ (by omega)
  · rw [show ((0 : Int32), lN (zQn 256 96 r)) = (fun i => (nI i, lN (zQn 256 96 (r.drop i)))) 0 from rfl, hw, Option.bind_some]
  · intro i hi
    show f_X12_lettersOf_L4 (lN (zQn 256 96 r)) (nI i) (lN (zQn 256 96 (r.drop i))) = _
    unfold f_X12_lettersOf_L4
    have hl := hltd i
    have hd := zQn_d (B := 256) (k := 96) (by decide) 1 (r.drop i) (fun c hc => by have := h3d i c hc; omega)
    rw [List.drop_drop] at hd
    rw [if_neg (by rw [zl0, pk_lEQ (by omega) (by omega), zQn_0 (by decide) (fun c hc => (h3d i c hc).1), List.drop_eq_nil_iff]; omega), nI_1, zq8, zlushrN (by omega) (by omega), show (2 : Nat) ^ 8 = 256 ^ 1 from rfl, hd]
  · show f_X12_lettersOf_L4 (lN (zQn 256 96 r)) (nI r.length) (lN (zQn 256 96 (r.drop r.length))) = _
    unfold f_X12_lettersOf_L4
    rw [List.drop_length, if_pos (show lN (zQn 256 96 []) = 0 from rfl)]
theorem zmask5 {n : Nat} : lN n &&& 31 = lN (n % 32) := fb_maskL n 5
theorem zmask8 {n : Nat} : lN n &&& 255 = lN (n % 256) := fb_maskL n 8
theorem X10_letter {r : List Nat} {i : Nat} (h2 : r.length ≤ 8) (h3 : ∀ c ∈ r, 1 ≤ c ∧ c ≤ 26) (hi : i < r.length) : ∃ c, c ≤ 26 ∧ f_X10_letterOf (lN (zQn 32 0 r)) (nI i) = some (nI (c + 96)) ∧ (zlshr (lN (zQn 256 96 r)) (8 * ((nI r.length - 1) - nI i)) &&& 255).toInt32 = nI (c + 96) := by
  have hj : r.length - 1 - i < r.length := by omega
  have hdr := List.drop_eq_getElem_cons hj
  obtain ⟨c, hc⟩ : ∃ c, c = r[r.length - 1 - i] := ⟨_, rfl⟩
  rw [← hc] at hdr
  have hcm : 1 ≤ c ∧ c ≤ 26 := h3 c (by rw [hc]; exact List.getElem_mem hj)
  have h5 := zQ5_lt h2 h3
  have h8 := zQ8_lt h2 h3
  have es : (nI r.length - 1) - nI i = nI (r.length - 1 - i) := by
    rw [zq1, zsubI (by omega), zsubI (by omega)]
  refine ⟨c, hcm.2, ?_, ?_⟩
  · unfold f_X10_letterOf
    have hp : 2 ^ (5 * (r.length - 1 - i)) = 32 ^ (r.length - 1 - i) := Nat.pow_mul 2 5 _
    have hd := zQn_d (B := 32) (k := 0) (by decide) (r.length - 1 - i) r (fun c hc => by have := h3 c hc; omega)
    rw [X10_len h2 h3, Option.bind_some, if_neg (zlt0 (by omega)), if_pos (nI_lt hi (by omega)), es, zq5, zmulI, zlushrN (by omega) (by omega), hp, hd, hdr, zmask5, zQn_m (by omega), lN_i, show (97 : Int32) = nI 97 from rfl, nI_add, show c + 0 + 97 = (c + 96) + 1 by omega, nI_pred]
  · have hp : 2 ^ (8 * (r.length - 1 - i)) = 256 ^ (r.length - 1 - i) := Nat.pow_mul 2 8 _
    have hd := zQn_d (B := 256) (k := 96) (by decide) (r.length - 1 - i) r (fun c hc => by have := h3 c hc; omega)
    rw [es, zq8, zmulI, zlshrN h8 (by omega), hp, hd, hdr, zmask8, zQn_m (by omega), lN_i]
theorem ob_name (x1 x2 : Int32) : zOb zInv (fun σ => (f_X11_name σ x1 x2).map (fun r => (r, σ))) (fun σ => (f_X12_name σ x1 x2).map (fun r => (r, σ))) := by
  refine zRO (g1 := fun σ => f_X11_name σ x1 x2) (g2 := fun σ => f_X12_name σ x1 x2) (fun n σ hn hI => ?_)
  obtain ⟨hDay, hFlt, hTap, hNam, hSun, hSch, hPai, hQue, hPan, hWds, hBri, hMen, hRnd⟩ := hI
  obtain ⟨k, k1, k2, -, k3, k4⟩ := hNam
  unfold f_X11_name f_X12_name f_X5_wordOf
  rw [k2, k3]
  have hno : (x1 < 1 ∨ nI k < x1) → ∃ r, ((if x1 < 1 then some (0 : Int64) else if nI k < x1 then some 0 else if 12 < x1 then some 0 else (zix (x1 - 1) 12).bind fun i4 => some (zL σ 5 0 0 i4)).bind fun r1 => if r1 = 0 then some (-1 : Int32) else if x2 = -1 then (f_X10_lengthOf r1).bind fun r7 => some r7 else (f_X10_letterOf r1 x2).bind fun r5 => some r5) = some r ∧ (if f_X12_isIn x1 1 (nI k) = 0 then some (-1 : Int32) else (zix x1 13).bind fun i3 => (f_X12_lettersOf (zL σ 12 0 37 i3)).bind fun r4 => if x2 = -1 then some r4 else if f_X12_isIn x2 0 (r4 - 1) = 0 then some (-1) else (zix x1 13).bind fun i9 => some ((zlshr (zL σ 12 0 37 i9) (8 * ((r4 - 1) - x2)) &&& 255).toInt32)) = some r := by
    intro h
    refine ⟨-1, ?_, ?_⟩
    · have e : (if x1 < 1 then some (0 : Int64) else if nI k < x1 then some 0 else if 12 < x1 then some 0 else (zix (x1 - 1) 12).bind fun i4 => some (zL σ 5 0 0 i4)) = some 0 := by
        by_cases h1 : x1 < 1
        · rw [if_pos h1]
        · rw [if_neg h1, if_pos (h.resolve_left h1)]
      rw [e, Option.bind_some, if_pos rfl]
    · have e : f_X12_isIn x1 1 (nI k) = 0 := by
        unfold f_X12_isIn
        by_cases h1 : x1 < 1
        · rw [if_pos h1]
        · rw [if_neg h1, if_pos (h.resolve_left h1)]
      rw [e, if_pos rfl]
  rcases zcase x1 (n := k + 1) (by omega) with ⟨j, hj, rfl⟩ | hx
  · by_cases h0 : j = 0
    · subst h0
      exact hno (Or.inl (by decide))
    · obtain ⟨q, rfl⟩ : ∃ q, j = q + 1 := ⟨j - 1, by omega⟩
      obtain ⟨r, ⟨hr1, hr2, hr3⟩, e5, e8⟩ := zWd_r (k4 q (by omega))
      rw [if_neg (by rw [zq1, nI_ltI (by omega) (by omega)]; omega), if_neg (by rw [nI_ltI (by omega) (by omega)]; omega), if_neg (by rw [zq12, nI_ltI (by omega) (by omega)]; omega), nI_pred, zix_n (show q < 12 by omega) (by omega), Option.bind_some, Option.bind_some, e5]
      have h5 := zQ5_lt hr2 hr3
      have hne : ¬ lN (zQn 32 0 r) = 0 := by
        rw [zl0, pk_lEQ (by omega) (by omega), zQn_0 (by decide) (fun c hc => (hr3 c hc).1)]
        intro e
        rw [e] at hr1
        exact absurd hr1 (by decide)
      rw [if_neg hne, show f_X12_isIn (nI (q + 1)) 1 (nI k) = 1 from zisIn_1 (a := 1) (by omega) (by omega) (by omega), if_neg z10, zix_n (show q + 1 < 13 by omega) (by omega), Option.bind_some, e8, X12_len hr2 hr3, Option.bind_some]
      by_cases hm : x2 = -1
      · rw [if_pos hm, if_pos hm, X10_len hr2 hr3]
        exact ⟨_, rfl, rfl⟩
      · rw [if_neg hm, if_neg hm, Option.bind_some]
        rcases zcase x2 (n := r.length) (by omega) with ⟨i, hi, rfl⟩ | hy
        · obtain ⟨c, c1, c2, c3⟩ := X10_letter hr2 hr3 hi
          rw [c2, e8, c3, zisIn_p hi (by omega), if_neg z10]
          exact ⟨_, rfl, rfl⟩
        · rw [zisIn_0 (by omega) hy, if_pos rfl]
          refine ⟨-1, ?_, rfl⟩
          unfold f_X10_letterOf
          rw [X10_len hr2 hr3, Option.bind_some]
          by_cases h1 : x2 < 0
          · rw [if_pos h1]; rfl
          · rw [if_neg h1, if_neg (fun h => zlt_not.mp h (hy.resolve_left h1))]; rfl
  · refine hno ?_
    rcases hx with hx | hx
    · left
      rw [fa_lt] at hx ⊢
      have e0 : (0 : Int32).toInt = 0 := rfl
      have e1 : (1 : Int32).toInt = 1 := rfl
      omega
    · right
      rw [fa_le, nI_toInt (by omega)] at hx
      rw [fa_lt, nI_toInt (by omega)]
      omega
