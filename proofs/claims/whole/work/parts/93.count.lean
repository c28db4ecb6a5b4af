/-! ===== bits of a number: 'or', masks, one bit ===== -/
theorem fa_and (a b : Nat) : nI a &&& nI b = nI (a &&& b) := by
  apply Int32.toBitVec_inj.1
  show BitVec.ofNat 32 a &&& BitVec.ofNat 32 b = BitVec.ofNat 32 (a &&& b)
  apply BitVec.eq_of_getLsbD_eq
  intro i hi
  simp [hi]
theorem fa_or (a b : Nat) : nI a ||| nI b = nI (a ||| b) := by
  apply Int32.toBitVec_inj.1
  show BitVec.ofNat 32 a ||| BitVec.ofNat 32 b = BitVec.ofNat 32 (a ||| b)
  apply BitVec.eq_of_getLsbD_eq
  intro i hi
  simp [hi]
/-- a remainder by a power of two, as a mask -/
theorem fa_mask (n k : Nat) : nI n &&& nI (2 ^ k - 1) = nI (n % 2 ^ k) := by rw [fa_and, Nat.and_two_pow_sub_one_eq_mod]
/-- 'or' of a high part and a low one that don't meet is their sum -/
theorem fa_or_sum {a k : Nat} (b : Nat) (h : a < 2 ^ k) : nI (2 ^ k * b) ||| nI a = nI (2 ^ k * b + a) := by rw [fa_or, Nat.two_pow_add_eq_or_of_lt h]
/-- one bit, by 'and' with a power of two -/
theorem fa_bit {n j : Nat} (hj : j < 31) : nI n &&& nI (2 ^ j) = 0 ↔ n.testBit j = false := by
  have h2 : (2 : Nat) ^ j < 2 ^ 31 := Nat.pow_lt_pow_right (by decide) hj
  have hle : n &&& 2 ^ j ≤ 2 ^ j := Nat.and_le_right
  have e : n &&& 2 ^ j = 0 ↔ n.testBit j = false := by
    constructor
    · intro h
      have h1 : (n &&& 2 ^ j).testBit j = false := by rw [h]; simp
      rw [Nat.testBit_and] at h1
      first | simpa using h1 | simpa [Nat.testBit_two_pow_self] using h1 | simpa [Nat.testBit_two_pow] using h1
    · intro h
      apply Nat.eq_of_testBit_eq
      intro i
      rw [Nat.testBit_and]
      by_cases hi : j = i
      · subst hi; simp [h]
      · first | (simp [Nat.testBit_two_pow, hi]; done) | (simp [Nat.testBit_two_pow_of_ne hi]; done)
  rw [fa_and]
  constructor
  · intro h
    apply e.mp
    rcases Nat.eq_zero_or_pos (n &&& 2 ^ j) with z | z
    · exact z
    · exact absurd h (nI_ne0 z (Nat.lt_of_le_of_lt hle h2))
  · intro h
    rw [e.mpr h]; exact nI_0
/-- a remainder by a power of two of a number that isn't negative, as Java divides -/
theorem fa_rem {a k : Nat} (ha : a < 2 ^ 31) (hk : k < 31) : nI a - nI a / nI (2 ^ k) * nI (2 ^ k) = nI (a % 2 ^ k) := pk_rem ha (Nat.two_pow_pos k) (Nat.pow_lt_pow_right (by decide) hk)
/-! the bits of a long, counted: the JDK's way -/
def zJa (x : Int64) : Int64 := x - (zlushr x 1 &&& 6148914691236517205)
def zJb (a : Int64) : Int64 := (a &&& 3689348814741910323) + (zlushr a 2 &&& 3689348814741910323)
def zJc (b : Int64) : Int64 := (b + zlushr b 4) &&& 1085102592571150095
def zJd (c : Int64) : Int64 := c + zlushr c 8
def zJe (d : Int64) : Int64 := d + zlushr d 16
def zJf (e : Int64) : Int32 := (e + zlushr e 32).toInt32 &&& 127
theorem zJ_all (x : Int64) : f_J13_bitCount_95d88 x = zJf (zJe (zJd (zJc (zJb (zJa x))))) := rfl
def zKm (K : Nat) : Nat → Nat
  | 0 => 0
  | n + 1 => 2 ^ 8 * zKm K n + K
def zNa (n m : Nat) : Nat := m - (m / 2 &&& zKm 0x55 n)
def zNb (n a : Nat) : Nat := (a &&& zKm 0x33 n) + (a / 4 &&& zKm 0x33 n)
def zNc (n b : Nat) : Nat := (b + b / 16) &&& zKm 0x0f n
theorem zand_s {hi lo B A : Nat} (hl : lo < 2 ^ 8) (hA : A < 2 ^ 8) : (2 ^ 8 * hi + lo) &&& (2 ^ 8 * B + A) = 2 ^ 8 * (hi &&& B) + (lo &&& A) := by
  apply Nat.eq_of_testBit_eq
  intro j
  rw [Nat.testBit_and, Nat.testBit_two_pow_mul_add _ hl, Nat.testBit_two_pow_mul_add _ hA, Nat.testBit_two_pow_mul_add _ (Nat.lt_of_le_of_lt Nat.and_le_left hl)]
  by_cases h : j < 8
  · rw [if_pos h, if_pos h, if_pos h, Nat.testBit_and]
  · rw [if_neg h, if_neg h, if_neg h, Nat.testBit_and]
def za8 (lo : Nat) : Nat := lo - (lo / 2 &&& 0x55)
def zb8 (al : Nat) : Nat := (al &&& 0x33) + (al / 4 &&& 0x33)
def zc8 (bl : Nat) : Nat := (bl + bl / 16) &&& 0x0f
theorem zd55 : ∀ e, e < 2 → ∀ l, l < 128 → (128 * e + l) &&& 0x55 = l &&& 0x55 := by decide +kernel
theorem zd33 : ∀ e, e < 4 → ∀ l, l < 64 → (64 * e + l) &&& 0x33 = l &&& 0x33 := by decide +kernel
theorem zd0f : ∀ e, e < 5 → ∀ l, l < 128 → (16 * e + l) &&& 0x0f = l &&& 0x0f := by decide +kernel
theorem za8_b : ∀ lo, lo < 256 → za8 lo < 256 ∧ zb8 (za8 lo) ≤ 68 ∧ zb8 (za8 lo) % 16 ≤ 4 ∧ zc8 (zb8 (za8 lo)) = fb_ct (fun j => lo.testBit j) 8 := by decide +kernel
theorem zNa_s {n hi lo : Nat} (hl : lo < 2 ^ 8) : zNa (n + 1) (2 ^ 8 * hi + lo) = 2 ^ 8 * zNa n hi + za8 lo := by
  unfold zNa za8
  have e : (2 ^ 8 * hi + lo) / 2 = 2 ^ 8 * (hi / 2) + (128 * (hi % 2) + lo / 2) := by omega
  rw [e, show zKm 0x55 (n + 1) = 2 ^ 8 * zKm 0x55 n + 0x55 from rfl, zand_s (by omega) (by decide), zd55 (hi % 2) (by omega) (lo / 2) (by omega)]
  have h1 : hi / 2 &&& zKm 0x55 n ≤ hi / 2 := Nat.and_le_left
  have h2 : lo / 2 &&& 0x55 ≤ lo / 2 := Nat.and_le_left
  omega
theorem zNb_s {n ah al : Nat} (hl : al < 2 ^ 8) : zNb (n + 1) (2 ^ 8 * ah + al) = 2 ^ 8 * zNb n ah + zb8 al := by
  unfold zNb zb8
  have e : (2 ^ 8 * ah + al) / 4 = 2 ^ 8 * (ah / 4) + (64 * (ah % 4) + al / 4) := by omega
  rw [e, show zKm 0x33 (n + 1) = 2 ^ 8 * zKm 0x33 n + 0x33 from rfl, zand_s hl (by decide), zand_s (by omega) (by decide), zd33 (ah % 4) (by omega) (al / 4) (by omega)]
  omega
theorem zNc_s {n bh bl : Nat} (hl : bl ≤ 68) (hh : bh % 16 ≤ 4) : zNc (n + 1) (2 ^ 8 * bh + bl) = 2 ^ 8 * zNc n bh + zc8 bl := by
  unfold zNc zc8
  have e : 2 ^ 8 * bh + bl + (2 ^ 8 * bh + bl) / 16 = 2 ^ 8 * (bh + bh / 16) + (16 * (bh % 16) + (bl + bl / 16)) := by omega
  rw [e, show zKm 0x0f (n + 1) = 2 ^ 8 * zKm 0x0f n + 0x0f from rfl, zand_s (by omega) (by decide), zd0f (bh % 16) (by omega) (bl + bl / 16) (by omega)]
theorem zNab {n m : Nat} : zNb (n + 1) (zNa (n + 1) m) = 2 ^ 8 * zNb n (zNa n (m / 256)) + zb8 (za8 (m % 256)) := by
  have e : m = 2 ^ 8 * (m / 256) + m % 256 := by omega
  have h := (za8_b (m % 256) (by omega)).1
  have e2 : zNa (n + 1) m = 2 ^ 8 * zNa n (m / 256) + za8 (m % 256) := by
    have := zNa_s (n := n) (hi := m / 256) (lo := m % 256) (by omega)
    rw [← e] at this
    exact this
  rw [e2, zNb_s (by omega)]
theorem zNb_16 : ∀ n m, zNb n (zNa n m) % 16 ≤ 4
  | 0, m => by
    have e : zNb 0 (zNa 0 m) = 0 := by
      unfold zNb
      show (zNa 0 m &&& 0) + (zNa 0 m / 4 &&& 0) = 0
      rw [Nat.and_zero, Nat.and_zero]
    rw [e]
    decide
  | n + 1, m => by
    have h := za8_b (m % 256) (by omega)
    rw [zNab]
    omega
def zpn : Nat → Nat → Nat
  | 0, _ => 0
  | n + 1, m => 256 * zpn n (m / 256) + fb_ct (fun j => (m % 256).testBit j) 8
theorem zNC : ∀ n m, zNc n (zNb n (zNa n m)) = zpn n m
  | 0, m => by
    show _ &&& 0 = 0
    rw [Nat.and_zero]
  | n + 1, m => by
    have h := za8_b (m % 256) (by omega)
    rw [zNab, zNc_s h.2.1 (zNb_16 n _), zNC n (m / 256), h.2.2.2]
    rfl
def zps : Nat → Nat → Nat
  | 0, _ => 0
  | n + 1, m => fb_ct (fun j => (m % 256).testBit j) 8 + zps n (m / 256)
theorem zps_ct : ∀ n m, zps n m = fb_ct (fun j => m.testBit j) (8 * n)
  | 0, _ => rfl
  | n + 1, m => by
    show fb_ct _ 8 + zps n (m / 256) = _
    rw [zps_ct n, show 8 * (n + 1) = 8 + 8 * n by omega, fb_ct_split]
    congr 1
    · refine fb_ct_cong (fun j hj => ?_)
      rw [show (256 : Nat) = 2 ^ 8 from rfl, Nat.testBit_mod_two_pow]
      simp [hj]
    · refine fb_ct_cong (fun j hj => ?_)
      rw [show (256 : Nat) = 2 ^ 8 from rfl, Nat.testBit_div_two_pow, Nat.add_comm]
theorem zpn_A {p0 p1 p2 c c1 c2 c3 d : Nat} (h0 : p0 ≤ 8) (h1 : p1 ≤ 8) (h2 : p2 ≤ 8) (e0 : c = 256 * c1 + p0) (e1 : c1 = 256 * c2 + p1) (e2 : c2 = 256 * c3 + p2) (hd : d = c + c / 256) : d = c + c1 ∧ d / 65536 = c2 + c3 := by
  have : d = c + c1 := by omega
  refine ⟨this, ?_⟩
  omega
theorem zpn_L {p0 p1 p2 p3 c c1 c2 c3 c4 : Nat} (h0 : p0 ≤ 8) (h1 : p1 ≤ 8) (h2 : p2 ≤ 8) (h3 : p3 ≤ 8) (e0 : c = 256 * c1 + p0) (e1 : c1 = 256 * c2 + p1) (e2 : c2 = 256 * c3 + p2) (e3 : c3 = 256 * c4 + p3) : ∃ L, c = 4294967296 * c4 + L ∧ L ≤ 134744072 := ⟨16777216 * p3 + 65536 * p2 + 256 * p1 + p0, by omega, by omega⟩
theorem zpn_B {c c1 c2 c3 c4 c5 c6 c7 L0 L1 L2 L3 e : Nat} (h0 : L0 ≤ 134744072) (h1 : L1 ≤ 134744072) (h2 : L2 ≤ 134744072) (h3 : L3 ≤ 134744072) (e0 : c = 4294967296 * c4 + L0) (e1 : c1 = 4294967296 * c5 + L1) (e2 : c2 = 4294967296 * c6 + L2) (e3 : c3 = 4294967296 * c7 + L3) (he : e = c + c1 + (c2 + c3)) : e / 4294967296 = c4 + c5 + c6 + c7 := by omega
theorem zpn_b {p x y b : Nat} (h : p ≤ 8) (e : x = 256 * y + p) (hy : y ≤ b) : x ≤ 256 * b + 8 := by omega
theorem zpn_end {p0 p1 p2 p3 p4 p5 p6 p7 c c1 c2 c3 c4 c5 c6 c7 c8 d e : Nat} (h0 : p0 ≤ 8) (h1 : p1 ≤ 8) (h2 : p2 ≤ 8) (h3 : p3 ≤ 8) (h4 : p4 ≤ 8) (h5 : p5 ≤ 8) (h6 : p6 ≤ 8) (h7 : p7 ≤ 8) (e0 : c = 256 * c1 + p0) (e1 : c1 = 256 * c2 + p1) (e2 : c2 = 256 * c3 + p2) (e3 : c3 = 256 * c4 + p3) (e4 : c4 = 256 * c5 + p4) (e5 : c5 = 256 * c6 + p5) (e6 : c6 = 256 * c7 + p6) (e7 : c7 = 256 * c8 + p7) (e8 : c8 = 0) (hd : d = c + c / 256) (he : e = d + d / 65536) : (e + e / 4294967296) % 128 = p0 + (p1 + (p2 + (p3 + (p4 + (p5 + (p6 + (p7 + 0))))))) ∧ c < 2 ^ 62 ∧ d < 2 ^ 63 ∧ e < 2 ^ 63 := by
  obtain ⟨a1, a2⟩ := zpn_A h0 h1 h2 e0 e1 e2 hd
  obtain ⟨L0, l0, m0⟩ := zpn_L h0 h1 h2 h3 e0 e1 e2 e3
  obtain ⟨L1, l1, m1⟩ := zpn_L h1 h2 h3 h4 e1 e2 e3 e4
  obtain ⟨L2, l2, m2⟩ := zpn_L h2 h3 h4 h5 e2 e3 e4 e5
  obtain ⟨L3, l3, m3⟩ := zpn_L h3 h4 h5 h6 e3 e4 e5 e6
  have he2 : e = c + c1 + (c2 + c3) := by rw [he, a2, a1]
  have hq := zpn_B m0 m1 m2 m3 l0 l1 l2 l3 he2
  have b8 : c8 ≤ 0 := Nat.le_of_eq e8
  have b7 := zpn_b h7 e7 b8
  have b6 := zpn_b h6 e6 b7
  have b5 := zpn_b h5 e5 b6
  have b4 := zpn_b h4 e4 b5
  have b3 := zpn_b h3 e3 b4
  have b2 := zpn_b h2 e2 b3
  have b1 := zpn_b h1 e1 b2
  have b0 := zpn_b h0 e0 b1
  rw [hq]
  clear hq l0 l1 l2 l3 m0 m1 m2 m3 a2 he hd
  refine ⟨?_, ?_, ?_, ?_⟩
  · clear b0 b1 b2 b3 b4 b5 b6 b7 b8
    omega
  · clear e0 e1 e2 e3 e4 e5 e6 e7 he2 a1
    omega
  · clear e0 e1 e2 e3 e4 e5 e6 e7 he2
    omega
  · clear e0 e1 e2 e3 e4 e5 e6 e7
    omega
theorem zbits64 {m : Nat} (hm : m < 2 ^ 63) : f_J13_bitCount_95d88 (lN m) = nI (fb_ct (fun j => m.testBit j) 64) := by
  have k5 : (6148914691236517205 : Int64) = lN (zKm 0x55 8) := by decide
  have k3 : (3689348814741910323 : Int64) = lN (zKm 0x33 8) := by decide
  have kf : (1085102592571150095 : Int64) = lN (zKm 0x0f 8) := by decide
  have k3n : zKm 0x33 8 = 3689348814741910323 := by decide
  have i1 : (1 : Int32) = nI 1 := rfl
  have ha : zJa (lN m) = lN (zNa 8 m) := by
    unfold zJa zNa
    rw [i1, zlushrN (by omega) (by omega), k5, fb_andL]
    have h1 : m / 2 ^ 1 &&& zKm 0x55 8 ≤ m / 2 ^ 1 := Nat.and_le_left
    rw [lN_sub (by omega)]
  have hal : zNa 8 m ≤ m := Nat.sub_le _ _
  have hb : zJb (lN (zNa 8 m)) = lN (zNb 8 (zNa 8 m)) := by
    unfold zJb zNb
    rw [show (2 : Int32) = nI 2 from rfl, zlushrN (by omega) (by omega), k3, fb_andL, fb_andL, lN_add]
  have hbl : zNb 8 (zNa 8 m) < 2 ^ 63 := by
    unfold zNb
    have h1 : zNa 8 m &&& zKm 0x33 8 ≤ zKm 0x33 8 := Nat.and_le_right
    have h2 : zNa 8 m / 4 &&& zKm 0x33 8 ≤ zKm 0x33 8 := Nat.and_le_right
    omega
  have hc : zJc (lN (zNb 8 (zNa 8 m))) = lN (zNc 8 (zNb 8 (zNa 8 m))) := by
    unfold zJc zNc
    rw [show (4 : Int32) = nI 4 from rfl, zlushrN (by omega) (by omega), kf, lN_add, fb_andL]
  have p8 : ∀ x : Nat, fb_ct (fun j => x.testBit j) 8 ≤ 8 := fun x => fb_ct_le _ _
  obtain ⟨c, hcc⟩ : ∃ c, c = zpn 8 m := ⟨_, rfl⟩
  obtain ⟨d, hd⟩ : ∃ d, d = c + c / 256 := ⟨_, rfl⟩
  obtain ⟨e, he⟩ : ∃ e, e = d + d / 65536 := ⟨_, rfl⟩
  obtain ⟨h1, h2, h3, h4⟩ := zpn_end (p8 _) (p8 _) (p8 _) (p8 _) (p8 _) (p8 _) (p8 _) (p8 _) (show c = 256 * zpn 7 (m / 256) + _ from hcc) (show zpn 7 (m / 256) = 256 * zpn 6 (m / 256 / 256) + _ from rfl) (show zpn 6 (m / 256 / 256) = 256 * zpn 5 (m / 256 / 256 / 256) + _ from rfl) (show zpn 5 (m / 256 / 256 / 256) = 256 * zpn 4 (m / 256 / 256 / 256 / 256) + _ from rfl) (show zpn 4 (m / 256 / 256 / 256 / 256) = 256 * zpn 3 (m / 256 / 256 / 256 / 256 / 256) + _ from rfl) (show zpn 3 (m / 256 / 256 / 256 / 256 / 256) = 256 * zpn 2 (m / 256 / 256 / 256 / 256 / 256 / 256) + _ from rfl) (show zpn 2 (m / 256 / 256 / 256 / 256 / 256 / 256) = 256 * zpn 1 (m / 256 / 256 / 256 / 256 / 256 / 256 / 256) + _ from rfl) (show zpn 1 (m / 256 / 256 / 256 / 256 / 256 / 256 / 256) = 256 * zpn 0 (m / 256 / 256 / 256 / 256 / 256 / 256 / 256 / 256) + _ from rfl) rfl hd he
  rw [zJ_all, ha, hb, hc, zNC, ← hcc]
  have hdd : zJd (lN c) = lN d := by
    unfold zJd
    rw [zq8, zlushrN (by omega) (by omega), lN_add, hd]
  have hee : zJe (lN d) = lN e := by
    unfold zJe
    rw [zq16, zlushrN (by omega) (by omega), lN_add, he]
  rw [hdd, hee]
  unfold zJf
  rw [zq32, zlushrN (by omega) (by omega), lN_add, lN_i, show (127 : Int32) = nI (2 ^ 7 - 1) from rfl, fa_mask]
  congr 1
  rw [← zps_ct 8 m]
  exact h1
theorem zbits45 {m : Nat} (hm : m < 2 ^ 45) : f_J13_bitCount_95d88 (lN m) = nI (fb_ct (fun j => m.testBit j) 45) := by
  rw [zbits64 (by omega), show (64 : Nat) = 45 + 19 from rfl, fb_ct_split]
  rw [fb_ct_zero.mpr (fun k _ => Nat.testBit_lt_two_pow (Nat.lt_of_lt_of_le hm (Nat.pow_le_pow_right (by decide) (Nat.le_add_right 45 k)))), Nat.add_zero]
/-! count -/
theorem X11_handed {σ : zM} {k : Nat} (k1 : k ≤ 10) (k2 : zI σ 11 0 12 = nI k) (k4 : ∀ s, s < k → iSch1 σ s) : f_X11_handedIn σ = some (nI (fb_ct (fun s => decide (zA σ 12 0 5 s ≠ -1)) k)) := by
  unfold f_X11_handedIn
  have hw := zwh_up (f := fun (q : (Int32 × Int32)) => f_X11_handedIn_L4 σ q.1 q.2) (fun i => (nI (fb_ct (fun s => decide (zA σ 12 0 5 s ≠ -1)) i), nI i)) k (t := nI (fb_ct (fun s => decide (zA σ 12 0 5 s ≠ -1)) k)) ?_ ?_ (by omega)
  · rw [show ((0 : Int32), (0 : Int32)) = (fun i => (nI (fb_ct (fun s => decide (zA σ 12 0 5 s ≠ -1)) i), nI i)) 0 from rfl, hw, Option.bind_some]
  · intro i hi
    show f_X11_handedIn_L4 σ (nI (fb_ct (fun s => decide (zA σ 12 0 5 s ≠ -1)) i)) (nI i) = _
    have hs := k4 i hi
    unfold f_X11_handedIn_L4 f_X11_handedIn_B32_4 f_X7_isHandedIn
    rw [k2, if_neg (by rw [nI_leI (by omega) (by omega)]; omega), zschS k1 k2 hs.1 hi, Option.bind_some]
    simp only [znu]
    rw [hs.2.2.1, nI_1, nI_1]
    show _ = some (Sum.inl (nI (fb_ct (fun s => decide (zA σ 12 0 5 s ≠ -1)) (i + 1)), nI (i + 1)))
    rw [fb_ct_succ]
    by_cases h : zA σ 12 0 5 i = -1
    · rw [if_pos h, if_pos rfl, if_neg (by simpa using h)]
      rfl
    · rw [if_neg h, if_neg z10, if_pos (by simpa using h)]
  · show f_X11_handedIn_L4 σ _ (nI k) = _
    unfold f_X11_handedIn_L4
    rw [k2, if_pos (nI_le (Nat.le_refl _) (by omega))]
theorem X12_handed {σ : zM} {k : Nat} (x1 : Int32) (k1 : k ≤ 10) (k3 : zI σ 12 0 1 = nI k) : zwh (fun (q : (Int32 × Int32)) => f_X12_count_L98 σ x1 q.1 q.2) zFu (0, 0) = some (nI (fb_ct (fun s => decide (zA σ 12 0 5 s ≠ -1)) k)) := by
  have hw := zwh_up (f := fun (q : (Int32 × Int32)) => f_X12_count_L98 σ x1 q.1 q.2) (fun i => (nI (fb_ct (fun s => decide (zA σ 12 0 5 s ≠ -1)) i), nI i)) k (t := nI (fb_ct (fun s => decide (zA σ 12 0 5 s ≠ -1)) k)) ?_ ?_ (by omega)
  · rw [show ((0 : Int32), (0 : Int32)) = (fun i => (nI (fb_ct (fun s => decide (zA σ 12 0 5 s ≠ -1)) i), nI i)) 0 from rfl, hw]
  · intro i hi
    show f_X12_count_L98 σ x1 (nI (fb_ct (fun s => decide (zA σ 12 0 5 s ≠ -1)) i)) (nI i) = _
    unfold f_X12_count_L98 f_X12_one
    rw [k3, if_neg (by rw [nI_leI (by omega) (by omega)]; omega), zix_n (by omega) (by omega), Option.bind_some, nI_1]
    show _ = some (Sum.inl (nI (fb_ct (fun s => decide (zA σ 12 0 5 s ≠ -1)) (i + 1)), nI (i + 1)))
    rw [fb_ct_succ]
    by_cases h : zA σ 12 0 5 i = -1
    · rw [if_pos h, if_pos rfl, if_neg (by simpa using h), Int32.add_zero]
      rfl
    · rw [if_neg h, if_neg z10, if_pos (by simpa using h), nI_1]
  · show f_X12_count_L98 σ x1 _ (nI k) = _
    unfold f_X12_count_L98
    rw [k3, if_pos (nI_le (Nat.le_refl _) (by omega))]
theorem ob_count (x1 : Int32) : zOb zInv (fun σ => (f_X11_count σ x1).map (fun r => (r, σ))) (fun σ => (f_X12_count σ x1).map (fun r => (r, σ))) := by
  refine zRO (g1 := fun σ => f_X11_count σ x1) (g2 := fun σ => f_X12_count σ x1) (fun n σ hn hI => ?_)
  obtain ⟨hDay, hFlt, hTap, hNam, hSun, hSch, hPai, hQue, hPan, hWds, hBri, hMen, hRnd⟩ := hI
  obtain ⟨cl, op, m0, m1, m2, f, st, r1, r2, r3, r4, r5, r6, r7, r8, -, -, -, -, -, -, -, -, -, -, -, -, -, -, r9, r10, -, r11, r12, -, r13⟩ := hRnd
  obtain ⟨k, k1, k2, k3, k4, -⟩ := hSch
  obtain ⟨nb, M, -, b1, b2, -⟩ := hBri
  obtain ⟨nn, -, n1, -, n2, -⟩ := hNam
  obtain ⟨⟨j, -, j1, j2⟩, -⟩ := hPan
  obtain ⟨-, ⟨q, -, q1, q2⟩, q3, -⟩ := hQue
  obtain ⟨m, p1, p2, -, p3⟩ := hPai
  obtain ⟨tp, -, t1, t2, -⟩ := hTap
  unfold f_X11_count f_X12_count
  rw [X11_handed k1 k2 k4, X12_handed x1 k1 k3, r4, r5, r6, r7, r8, r9, r10, r11, r12, r13, k2, k3, b1, b2, n1, n2, j1, j2, q1, q2, q3, p2, p3, zbits45 p1, t1, t2, hDay.1]
  have h6 : nI (if op = 1 then cl + 1 else 0) = if nI op = 0 then 0 else nI (cl + op) := by
    have : op = 0 ∨ op = 1 := by omega
    rcases this with rfl | rfl
    · rfl
    · rfl
  rw [h6]
  have h7 : (if nI op = 0 then some (0 : Int32) else some (nI (cl + op))) = some (if nI op = 0 then 0 else nI (cl + op)) := by split <;> rfl
  rw [h7]
  by_cases c0 : x1 = 0
  · simp only [if_pos c0]
    exact ⟨_, rfl, rfl⟩
  simp only [if_neg c0]
  by_cases c1 : x1 = 1
  · simp only [if_pos c1]
    exact ⟨_, rfl, rfl⟩
  simp only [if_neg c1]
  by_cases c2 : x1 = 2
  · simp only [if_pos c2]
    exact ⟨_, rfl, rfl⟩
  simp only [if_neg c2]
  by_cases c3 : x1 = 3
  · simp only [if_pos c3]
    exact ⟨_, rfl, rfl⟩
  simp only [if_neg c3]
  by_cases c4 : x1 = 4
  · simp only [if_pos c4]
    exact ⟨_, rfl, rfl⟩
  simp only [if_neg c4]
  by_cases c5 : x1 = 5
  · simp only [if_pos c5]
    exact ⟨_, rfl, rfl⟩
  simp only [if_neg c5]
  by_cases c6 : x1 = 6
  · simp only [if_pos c6]
    exact ⟨_, rfl, rfl⟩
  simp only [if_neg c6]
  by_cases c7 : x1 = 7
  · simp only [if_pos c7]
    exact ⟨_, rfl, rfl⟩
  simp only [if_neg c7]
  by_cases c8 : x1 = 8
  · simp only [if_pos c8]
    exact ⟨_, rfl, rfl⟩
  simp only [if_neg c8]
  by_cases c9 : x1 = 9
  · simp only [if_pos c9]
    exact ⟨_, rfl, rfl⟩
  simp only [if_neg c9]
  by_cases c10 : x1 = 10
  · simp only [if_pos c10]
    exact ⟨_, rfl, rfl⟩
  simp only [if_neg c10]
  by_cases c11 : x1 = 11
  · simp only [if_pos c11]
    exact ⟨_, rfl, rfl⟩
  simp only [if_neg c11]
  by_cases c12 : x1 = 12
  · simp only [if_pos c12]
    exact ⟨_, rfl, rfl⟩
  simp only [if_neg c12]
  by_cases c13 : x1 = 13
  · simp only [if_pos c13]
    exact ⟨_, rfl, rfl⟩
  simp only [if_neg c13]
  by_cases c14 : x1 = 14
  · simp only [if_pos c14]
    exact ⟨_, rfl, rfl⟩
  simp only [if_neg c14]
  exact ⟨_, rfl, rfl⟩
