/-! ===== order of ints, in all its forms, and through longs ===== -/
theorem fa_lt (a b : Int32) : a < b ↔ a.toInt < b.toInt := Int32.lt_iff_toInt_lt
theorem fa_le (a b : Int32) : a ≤ b ↔ a.toInt ≤ b.toInt := Int32.le_iff_toInt_le
theorem fa_eq (a b : Int32) : a = b ↔ a.toInt = b.toInt := Int32.toInt_inj.symm
theorem fa_lt64 (a b : Int64) : a < b ↔ a.toInt < b.toInt := Int64.lt_iff_toInt_lt
theorem fa_le64 (a b : Int64) : a ≤ b ↔ a.toInt ≤ b.toInt := Int64.le_iff_toInt_le
theorem fa_eq64 (a b : Int64) : a = b ↔ a.toInt = b.toInt := Int64.toInt_inj.symm
/-- a comparison of two ints taken as longs -/
theorem fa_wide_lt (a b : Int32) : a.toInt64 < b.toInt64 ↔ a < b := by rw [fa_lt64, fa_lt, Int32.toInt_toInt64, Int32.toInt_toInt64]
theorem fa_wide_le (a b : Int32) : a.toInt64 ≤ b.toInt64 ↔ a ≤ b := by rw [fa_le64, fa_le, Int32.toInt_toInt64, Int32.toInt_toInt64]
theorem fa_wide_eq (a b : Int32) : a.toInt64 = b.toInt64 ↔ a = b := by rw [fa_eq64, fa_eq, Int32.toInt_toInt64, Int32.toInt_toInt64]
/-- one strict comparison gives all the others -/
theorem fa_of_lt {a b : Int32} (h : a < b) : a ≤ b ∧ ¬ b ≤ a ∧ ¬ b < a ∧ a ≠ b ∧ b ≠ a := by
  rw [fa_lt] at h
  refine ⟨?_, ?_, ?_, ?_, ?_⟩
  · rw [fa_le]; omega
  · rw [fa_le]; omega
  · rw [fa_lt]; omega
  · intro e; rw [fa_eq] at e; omega
  · intro e; rw [fa_eq] at e; omega
theorem fa_of_nlt {a b : Int32} (h : ¬ a < b) : b ≤ a := by
  rw [fa_lt] at h
  rw [fa_le]
  omega
theorem fa_of_nle {a b : Int32} (h : ¬ a ≤ b) : b < a := by
  rw [fa_le] at h
  rw [fa_lt]
  omega
theorem fa_le_ne {a b : Int32} (h : a ≤ b) (h2 : a ≠ b) : a < b := by
  rw [fa_le] at h
  rw [fa_lt]
  have h3 : a.toInt ≠ b.toInt := fun e => h2 ((fa_eq a b).mpr e)
  omega
theorem fa_three (a b : Int32) : a < b ∨ a = b ∨ b < a := by
  rw [fa_lt, fa_lt, fa_eq]
  omega
theorem fa_trans {a b c : Int32} (h : a < b) (h2 : b ≤ c) : a < c := by
  rw [fa_lt] at *
  rw [fa_le] at h2
  omega
/-! ===== small literals as numbers ===== -/
theorem fa_lit (n : Nat) : (OfNat.ofNat n : Int32) = nI n := rfl
theorem fa_litL (n : Nat) : (OfNat.ofNat n : Int64) = lN n := rfl
/-! ===== drawers: more things than places ===== -/
theorem fb_holes : ∀ (m n : Nat) (f : Nat → Nat), (∀ i, i < n → f i < m) → (∀ i j, i < j → j < n → f i ≠ f j) → n ≤ m := by
  intro m
  induction m with
  | zero =>
    intro n f h1 _
    rcases Nat.eq_zero_or_pos n with h | h
    · omega
    · exact absurd (h1 0 h) (Nat.not_lt_zero _)
  | succ m ih =>
    intro n f h1 h2
    by_cases hx : ∃ i, i < n ∧ f i = m
    · obtain ⟨a, ha, hfa⟩ := hx
      have hg := ih (n - 1) (fun i => if i < a then f i else f (i + 1)) (by
        intro i hi
        by_cases q : i < a
        · simp only [if_pos q]
          have b1 := h1 i (by omega)
          have b2 := h2 i a q ha
          omega
        · simp only [if_neg q]
          have b1 := h1 (i + 1) (by omega)
          have b2 := h2 a (i + 1) (by omega) (by omega)
          omega) (by
        intro i j hij hj
        by_cases q : i < a
        · by_cases r : j < a
          · simp only [if_pos q, if_pos r]
            exact h2 i j hij (by omega)
          · simp only [if_pos q, if_neg r]
            exact h2 i (j + 1) (by omega) (by omega)
        · have r : ¬ j < a := by omega
          simp only [if_neg q, if_neg r]
          exact h2 (i + 1) (j + 1) (by omega) (by omega))
      omega
    · have hg := ih n f (fun i hi => by
        have b1 := h1 i hi
        have b2 : f i ≠ m := fun e => hx ⟨i, hi, e⟩
        omega) h2
      omega
/-- two of them in one place -/
theorem fb_twice {m n : Nat} {f : Nat → Nat} (h : ∀ i, i < n → f i < m) (hm : m < n) : ∃ i j, i < j ∧ j < n ∧ f i = f j := by
  refine Classical.byContradiction fun hx => ?_
  have := fb_holes m n f h (fun i j hij hj e => hx ⟨i, j, hij, hj, e⟩)
  omega
/-- as many as places, none twice: each place is taken -/
theorem fb_onto {n : Nat} {f : Nat → Nat} (h : ∀ i, i < n → f i < n) (h2 : ∀ i j, i < j → j < n → f i ≠ f j) {y : Nat} (hy : y < n) : ∃ i, i < n ∧ f i = y := by
  refine Classical.byContradiction fun hx => ?_
  have hne : ∀ i, i < n → f i ≠ y := fun i hi e => hx ⟨i, hi, e⟩
  have := fb_holes (n - 1) n (fun i => if f i < y then f i else f i - 1) (by
    intro i hi
    have b1 := h i hi
    have b2 := hne i hi
    by_cases q : f i < y
    · simp only [if_pos q]; omega
    · simp only [if_neg q]; omega) (by
    intro i j hij hj
    have b1 := hne i (by omega)
    have b2 := hne j hj
    have b3 := h2 i j hij hj
    by_cases q : f i < y
    · by_cases r : f j < y
      · simp only [if_pos q, if_pos r]; exact b3
      · simp only [if_pos q, if_neg r]; omega
    · by_cases r : f j < y
      · simp only [if_neg q, if_pos r]; omega
      · simp only [if_neg q, if_neg r]; omega)
  omega
/-! ===== how many places have a property ===== -/
def fb_ct (p : Nat → Bool) : Nat → Nat
  | 0 => 0
  | n + 1 => fb_ct p n + (if p n then 1 else 0)
theorem fb_ct_succ (p : Nat → Bool) (n : Nat) : fb_ct p (n + 1) = fb_ct p n + (if p n then 1 else 0) := rfl
theorem fb_ct_le (p : Nat → Bool) : ∀ n, fb_ct p n ≤ n
  | 0 => Nat.le_refl _
  | n + 1 => by
    have h := fb_ct_le p n
    rw [fb_ct_succ]
    split <;> omega
theorem fb_ct_step (p : Nat → Bool) (m : Nat) : ∀ n, fb_ct p m ≤ fb_ct p (m + n)
  | 0 => Nat.le_refl _
  | n + 1 => by
    have h := fb_ct_step p m n
    show fb_ct p m ≤ fb_ct p (m + n + 1)
    rw [fb_ct_succ]
    omega
theorem fb_ct_mono (p : Nat → Bool) {m n : Nat} (h : m ≤ n) : fb_ct p m ≤ fb_ct p n := by
  have := fb_ct_step p m (n - m)
  rwa [Nat.add_sub_cancel' h] at this
theorem fb_ct_cong {p q : Nat → Bool} : ∀ {n : Nat}, (∀ k, k < n → p k = q k) → fb_ct p n = fb_ct q n
  | 0, _ => rfl
  | n + 1, h => by
    rw [fb_ct_succ, fb_ct_succ, fb_ct_cong (fun k hk => h k (by omega)), h n (by omega)]
/-- one place changed -/
theorem fb_ct_out (p : Nat → Bool) (b : Bool) {i n : Nat} (h : n ≤ i) : fb_ct (fun k => if k = i then b else p k) n = fb_ct p n :=
  fb_ct_cong fun k hk => if_neg (by omega)
theorem fb_ct_upd (p : Nat → Bool) (b : Bool) {i : Nat} : ∀ {n : Nat}, i < n → fb_ct (fun k => if k = i then b else p k) n + (if p i then 1 else 0) = fb_ct p n + (if b then 1 else 0)
  | 0, h => absurd h (Nat.not_lt_zero i)
  | n + 1, h => by
    rw [fb_ct_succ, fb_ct_succ]
    rcases Nat.lt_or_ge i n with q | q
    · have := fb_ct_upd p b q
      have e : (if n = i then b else p n) = p n := if_neg (by omega)
      rw [e]
      omega
    · have e : i = n := by omega
      subst e
      rw [fb_ct_out p b (Nat.le_refl _)]
      simp only [if_true]
      omega
theorem fb_ct_sub {p q : Nat → Bool} : ∀ {n : Nat}, (∀ k, k < n → p k = true → q k = true) → fb_ct p n ≤ fb_ct q n
  | 0, _ => Nat.le_refl _
  | n + 1, h => by
    have h1 := fb_ct_sub (n := n) (p := p) (q := q) (fun k hk => h k (by omega))
    have h2 := h n (by omega)
    rw [fb_ct_succ, fb_ct_succ]
    cases hp : p n <;> cases hq : q n <;> simp_all <;> omega
theorem fb_ct_or {p q : Nat → Bool} : ∀ {n : Nat}, (∀ k, k < n → ¬ (p k = true ∧ q k = true)) → fb_ct (fun k => p k || q k) n = fb_ct p n + fb_ct q n
  | 0, _ => rfl
  | n + 1, h => by
    have h1 := fb_ct_or (n := n) (p := p) (q := q) (fun k hk => h k (by omega))
    have h2 := h n (by omega)
    rw [fb_ct_succ, fb_ct_succ, fb_ct_succ, h1]
    cases hp : p n <;> cases hq : q n <;> simp_all <;> omega
theorem fb_ct_not (p : Nat → Bool) : ∀ n, fb_ct p n + fb_ct (fun k => !p k) n = n
  | 0 => rfl
  | n + 1 => by
    have h := fb_ct_not p n
    rw [fb_ct_succ, fb_ct_succ]
    cases p n <;> simp <;> omega
theorem fb_ct_split (p : Nat → Bool) (m : Nat) : ∀ n, fb_ct p (m + n) = fb_ct p m + fb_ct (fun k => p (m + k)) n
  | 0 => rfl
  | n + 1 => by
    have h := fb_ct_split p m n
    show fb_ct p (m + n + 1) = _
    rw [fb_ct_succ, fb_ct_succ, h, Nat.add_assoc]
theorem fb_ct_zero {p : Nat → Bool} : ∀ {n : Nat}, fb_ct p n = 0 ↔ ∀ k, k < n → p k = false
  | 0 => ⟨fun _ k hk => absurd hk (Nat.not_lt_zero k), fun _ => rfl⟩
  | n + 1 => by
    have h := fb_ct_zero (p := p) (n := n)
    rw [fb_ct_succ]
    constructor
    · intro e k hk
      have e1 : fb_ct p n = 0 := by omega
      rcases Nat.lt_or_ge k n with q | q
      · exact h.mp e1 k q
      · have ek : k = n := by omega
        subst ek
        cases hp : p k
        · rfl
        · simp [hp] at e
    · intro a
      rw [h.mpr (fun k hk => a k (by omega)), a n (by omega)]
      rfl
theorem fb_ct_pos {p : Nat → Bool} {n : Nat} : 0 < fb_ct p n ↔ ∃ k, k < n ∧ p k = true := by
  constructor
  · intro h
    refine Classical.byContradiction fun hx => ?_
    have := fb_ct_zero.mpr (fun k hk => by
      cases hp : p k
      · rfl
      · exact absurd ⟨k, hk, hp⟩ hx : ∀ k, k < n → p k = false)
    omega
  · rintro ⟨k, hk, hp⟩
    rcases Nat.eq_zero_or_pos (fb_ct p n) with e | e
    · have := fb_ct_zero.mp e k hk
      rw [this] at hp
      cases hp
    · exact e
theorem fb_ct_all {p : Nat → Bool} {n : Nat} : fb_ct p n = n ↔ ∀ k, k < n → p k = true := by
  have h := fb_ct_not p n
  constructor
  · intro e k hk
    have z : fb_ct (fun k => !p k) n = 0 := by omega
    have := fb_ct_zero.mp z k hk
    cases hp : p k
    · simp [hp] at this
    · rfl
  · intro a
    have z : fb_ct (fun k => !p k) n = 0 := fb_ct_zero.mpr (fun k hk => by simp [a k hk])
    omega
/-- the k-th place with the property -/
theorem fb_ct_kth {p : Nat → Bool} {k : Nat} : ∀ {n : Nat}, k < fb_ct p n → ∃ i, i < n ∧ p i = true ∧ fb_ct p i = k
  | 0, h => absurd h (Nat.not_lt_zero k)
  | n + 1, h => by
    rcases Nat.lt_or_ge k (fb_ct p n) with q | q
    · obtain ⟨i, h1, h2⟩ := fb_ct_kth q
      exact ⟨i, by omega, h2⟩
    · rw [fb_ct_succ] at h
      cases hp : p n
      · simp [hp] at h; omega
      · simp [hp] at h
        exact ⟨n, by omega, hp, by omega⟩
theorem fb_ct_kth_one {p : Nat → Bool} {i j : Nat} (hi : p i = true) (hj : p j = true) (e : fb_ct p i = fb_ct p j) : i = j := by
  have key : ∀ a b : Nat, a < b → p a = true → fb_ct p a < fb_ct p b := by
    intro a b hab ha
    have h := fb_ct_mono p (show a + 1 ≤ b from hab)
    rw [fb_ct_succ, ha] at h
    simp at h
    omega
  rcases Nat.lt_trichotomy i j with q | q | q
  · have := key i j q hi; omega
  · exact q
  · have := key j i q hj; omega
/-! ===== sums over a range: one place changed, parts, bounds ===== -/
def fb_sm (f : Nat → Nat) : Nat → Nat
  | 0 => 0
  | n + 1 => fb_sm f n + f n
theorem fb_sm_succ (f : Nat → Nat) (n : Nat) : fb_sm f (n + 1) = fb_sm f n + f n := rfl
theorem fb_sm_cong {f g : Nat → Nat} : ∀ {n : Nat}, (∀ k, k < n → f k = g k) → fb_sm f n = fb_sm g n
  | 0, _ => rfl
  | n + 1, h => by rw [fb_sm_succ, fb_sm_succ, fb_sm_cong (fun k hk => h k (by omega)), h n (by omega)]
theorem fb_sm_out (f : Nat → Nat) (v : Nat) {i n : Nat} (h : n ≤ i) : fb_sm (fun k => if k = i then v else f k) n = fb_sm f n :=
  fb_sm_cong fun k hk => if_neg (by omega)
theorem fb_sm_upd (f : Nat → Nat) (v : Nat) {i : Nat} : ∀ {n : Nat}, i < n → fb_sm (fun k => if k = i then v else f k) n + f i = fb_sm f n + v
  | 0, h => absurd h (Nat.not_lt_zero i)
  | n + 1, h => by
    rw [fb_sm_succ, fb_sm_succ]
    rcases Nat.lt_or_ge i n with q | q
    · have := fb_sm_upd f v q
      have e : (if n = i then v else f n) = f n := if_neg (by omega)
      rw [e]
      omega
    · have e : i = n := by omega
      subst e
      rw [fb_sm_out f v (Nat.le_refl _)]
      simp only [if_true]
      omega
theorem fb_sm_add (f g : Nat → Nat) : ∀ n, fb_sm (fun k => f k + g k) n = fb_sm f n + fb_sm g n
  | 0 => rfl
  | n + 1 => by
    have h := fb_sm_add f g n
    rw [fb_sm_succ, fb_sm_succ, fb_sm_succ, h]
    omega
theorem fb_sm_le {f g : Nat → Nat} : ∀ {n : Nat}, (∀ k, k < n → f k ≤ g k) → fb_sm f n ≤ fb_sm g n
  | 0, _ => Nat.le_refl _
  | n + 1, h => by
    have h1 := fb_sm_le (n := n) (f := f) (g := g) (fun k hk => h k (by omega))
    have h2 := h n (by omega)
    rw [fb_sm_succ, fb_sm_succ]
    omega
theorem fb_sm_const (c : Nat) : ∀ n, fb_sm (fun _ => c) n = n * c
  | 0 => by rw [Nat.zero_mul]; rfl
  | n + 1 => by rw [fb_sm_succ, fb_sm_const c n, Nat.succ_mul]
theorem fb_sm_bound {f : Nat → Nat} {c n : Nat} (h : ∀ k, k < n → f k ≤ c) : fb_sm f n ≤ n * c := by
  rw [← fb_sm_const c n]
  exact fb_sm_le h
theorem fb_sm_mono (f : Nat → Nat) (m : Nat) : ∀ n, fb_sm f m ≤ fb_sm f (m + n)
  | 0 => Nat.le_refl _
  | n + 1 => by
    have h := fb_sm_mono f m n
    show fb_sm f m ≤ fb_sm f (m + n + 1)
    rw [fb_sm_succ]
    omega
theorem fb_sm_part (f : Nat → Nat) {i n : Nat} (h : i < n) : fb_sm f i + f i ≤ fb_sm f n := by
  have := fb_sm_mono f (i + 1) (n - (i + 1))
  rw [fb_sm_succ, show i + 1 + (n - (i + 1)) = n by omega] at this
  exact this
theorem fb_sm_split (f : Nat → Nat) (m : Nat) : ∀ n, fb_sm f (m + n) = fb_sm f m + fb_sm (fun k => f (m + k)) n
  | 0 => rfl
  | n + 1 => by
    have h := fb_sm_split f m n
    show fb_sm f (m + n + 1) = _
    rw [fb_sm_succ, fb_sm_succ, h, Nat.add_assoc]
theorem fb_sm_zero {f : Nat → Nat} {n : Nat} (h : fb_sm f n = 0) : ∀ k, k < n → f k = 0 := fun k hk => by
  have := fb_sm_part f hk
  omega
/-- the same over whole numbers -/
def fb_si (f : Nat → Int) : Nat → Int
  | 0 => 0
  | n + 1 => fb_si f n + f n
theorem fb_si_succ (f : Nat → Int) (n : Nat) : fb_si f (n + 1) = fb_si f n + f n := rfl
theorem fb_si_cong {f g : Nat → Int} : ∀ {n : Nat}, (∀ k, k < n → f k = g k) → fb_si f n = fb_si g n
  | 0, _ => rfl
  | n + 1, h => by rw [fb_si_succ, fb_si_succ, fb_si_cong (fun k hk => h k (by omega)), h n (by omega)]
theorem fb_si_out (f : Nat → Int) (v : Int) {i n : Nat} (h : n ≤ i) : fb_si (fun k => if k = i then v else f k) n = fb_si f n :=
  fb_si_cong fun k hk => if_neg (by omega)
theorem fb_si_upd (f : Nat → Int) (v : Int) {i : Nat} : ∀ {n : Nat}, i < n → fb_si (fun k => if k = i then v else f k) n = fb_si f n - f i + v
  | 0, h => absurd h (Nat.not_lt_zero i)
  | n + 1, h => by
    rw [fb_si_succ, fb_si_succ]
    rcases Nat.lt_or_ge i n with q | q
    · have := fb_si_upd f v q
      have e : (if n = i then v else f n) = f n := if_neg (by omega)
      rw [e]
      omega
    · have e : i = n := by omega
      subst e
      rw [fb_si_out f v (Nat.le_refl _)]
      simp only [if_true]
      omega
theorem fb_si_add (f g : Nat → Int) : ∀ n, fb_si (fun k => f k + g k) n = fb_si f n + fb_si g n
  | 0 => rfl
  | n + 1 => by
    have h := fb_si_add f g n
    rw [fb_si_succ, fb_si_succ, fb_si_succ, h]
    omega
theorem fb_si_sub (f g : Nat → Int) : ∀ n, fb_si (fun k => f k - g k) n = fb_si f n - fb_si g n
  | 0 => rfl
  | n + 1 => by
    have h := fb_si_sub f g n
    rw [fb_si_succ, fb_si_succ, fb_si_succ, h]
    omega
theorem fb_si_mul (c : Int) (f : Nat → Int) : ∀ n, fb_si (fun k => c * f k) n = c * fb_si f n
  | 0 => (Int.mul_zero c).symm
  | n + 1 => by
    have h := fb_si_mul c f n
    rw [fb_si_succ, fb_si_succ, h, Int.mul_add]
theorem fb_si_split (f : Nat → Int) (m : Nat) : ∀ n, fb_si f (m + n) = fb_si f m + fb_si (fun k => f (m + k)) n
  | 0 => (Int.add_zero _).symm
  | n + 1 => by
    have h := fb_si_split f m n
    show fb_si f (m + n + 1) = _
    rw [fb_si_succ, fb_si_succ, h, Int.add_assoc]
theorem fb_si_nat (f : Nat → Nat) : ∀ n, fb_si (fun k => (f k : Int)) n = (fb_sm f n : Int)
  | 0 => rfl
  | n + 1 => by
    have h := fb_si_nat f n
    rw [fb_si_succ, fb_sm_succ, h]
    omega
theorem fb_si_bound {f : Nat → Int} {c : Int} (hc : 0 ≤ c) : ∀ {n : Nat}, (∀ k, k < n → -c ≤ f k ∧ f k ≤ c) → -(n * c) ≤ fb_si f n ∧ fb_si f n ≤ n * c
  | 0, _ => by simp [fb_si]
  | n + 1, h => by
    have h1 := fb_si_bound (n := n) (f := f) hc (fun k hk => h k (by omega))
    have h2 := h n (by omega)
    have e : ((n + 1 : Nat) : Int) * c = n * c + c := by rw [Int.natCast_add, Int.add_mul]; simp
    rw [fb_si_succ, e]
    omega
/-! ===== signed ints as whole numbers, within bounds ===== -/
theorem fb_rng (x : Int32) : -2147483648 ≤ x.toInt ∧ x.toInt < 2147483648 := by
  have h1 := Int32.le_toInt x
  have h2 := Int32.toInt_lt x
  omega
theorem fb_bmod {z : Int} (h1 : -2147483648 ≤ z) (h2 : z < 2147483648) : z.bmod (2 ^ 32) = z := by
  rw [Int.bmod_eq_of_le (by omega) (by omega)]
theorem fb_addI {x y : Int32} (h1 : -2147483648 ≤ x.toInt + y.toInt) (h2 : x.toInt + y.toInt < 2147483648) : (x + y).toInt = x.toInt + y.toInt := by
  rw [Int32.toInt_add, fb_bmod h1 h2]
theorem fb_subI {x y : Int32} (h1 : -2147483648 ≤ x.toInt - y.toInt) (h2 : x.toInt - y.toInt < 2147483648) : (x - y).toInt = x.toInt - y.toInt := by
  rw [Int32.toInt_sub, fb_bmod h1 h2]
theorem fb_mulI {x y : Int32} (h1 : -2147483648 ≤ x.toInt * y.toInt) (h2 : x.toInt * y.toInt < 2147483648) : (x * y).toInt = x.toInt * y.toInt := by
  rw [Int32.toInt_mul, fb_bmod h1 h2]
theorem fb_negI {x : Int32} (h : x.toInt ≠ -2147483648) : (-x).toInt = -x.toInt := by
  have := fb_rng x
  rw [Int32.toInt_neg, fb_bmod (by omega) (by omega)]
theorem fb_ofI {z : Int} (h1 : -2147483648 ≤ z) (h2 : z < 2147483648) : (Int32.ofInt z).toInt = z := by
  rw [Int32.toInt_ofInt, fb_bmod h1 h2]
theorem fb_asI (x : Int32) : Int32.ofInt x.toInt = x := Int32.ofInt_toInt x
theorem fb_rngL (x : Int64) : -9223372036854775808 ≤ x.toInt ∧ x.toInt < 9223372036854775808 := by
  have h1 := Int64.le_toInt x
  have h2 := Int64.toInt_lt x
  omega
theorem fb_bmodL {z : Int} (h1 : -9223372036854775808 ≤ z) (h2 : z < 9223372036854775808) : z.bmod (2 ^ 64) = z := by
  rw [Int.bmod_eq_of_le (by omega) (by omega)]
theorem fb_addL {x y : Int64} (h1 : -9223372036854775808 ≤ x.toInt + y.toInt) (h2 : x.toInt + y.toInt < 9223372036854775808) : (x + y).toInt = x.toInt + y.toInt := by
  rw [Int64.toInt_add, fb_bmodL h1 h2]
theorem fb_subL {x y : Int64} (h1 : -9223372036854775808 ≤ x.toInt - y.toInt) (h2 : x.toInt - y.toInt < 9223372036854775808) : (x - y).toInt = x.toInt - y.toInt := by
  rw [Int64.toInt_sub, fb_bmodL h1 h2]
theorem fb_mulL {x y : Int64} (h1 : -9223372036854775808 ≤ x.toInt * y.toInt) (h2 : x.toInt * y.toInt < 9223372036854775808) : (x * y).toInt = x.toInt * y.toInt := by
  rw [Int64.toInt_mul, fb_bmodL h1 h2]
/-! loops of the methods as functions -/
theorem zwh_inl {S T : Type} {f : S → Option (S ⊕ T)} {n : Nat} {s s' : S} (h : f s = some (.inl s')) : zwh f (n + 1) s = zwh f n s' := by
  show (f s).bind _ = _
  rw [h]; rfl
theorem zwh_inr {S T : Type} {f : S → Option (S ⊕ T)} {n : Nat} {s : S} {t : T} (h : f s = some (.inr t)) : zwh f (n + 1) s = some t := by
  show (f s).bind _ = _
  rw [h]; rfl
theorem zwh_now {S T : Type} {f : S → Option (S ⊕ T)} {s : S} {t : T} (h : f s = some (.inr t)) : zwh f zFu s = some t := zwh_inr (n := 99999) h
theorem zwh_up' {S T : Type} {f : S → Option (S ⊕ T)} (st : Nat → S) {t : T} : ∀ (d N n : Nat), (∀ i, N ≤ i → i < N + d → f (st i) = some (.inl (st (i + 1)))) → f (st (N + d)) = some (.inr t) → d < n → zwh f n (st N) = some t
  | 0, N, n, _, h2, hn => by
    obtain ⟨n, rfl⟩ : ∃ m, n = m + 1 := ⟨n - 1, by omega⟩
    exact zwh_inr h2
  | d + 1, N, n, h1, h2, hn => by
    obtain ⟨n, rfl⟩ : ∃ m, n = m + 1 := ⟨n - 1, by omega⟩
    rw [zwh_inl (h1 N (Nat.le_refl _) (by omega))]
    exact zwh_up' st d (N + 1) n (fun i a b => h1 i (by omega) (by omega)) (by rw [show N + 1 + d = N + (d + 1) by omega]; exact h2) (by omega)
/-- a loop that counts: its states are known -/
theorem zwh_up {S T : Type} {f : S → Option (S ⊕ T)} (st : Nat → S) (N : Nat) {t : T} (h1 : ∀ i, i < N → f (st i) = some (.inl (st (i + 1)))) (h2 : f (st N) = some (.inr t)) (hn : N < 100000) : zwh f zFu (st 0) = some t :=
  zwh_up' st N 0 zFu (fun i _ h => h1 i (by omega)) (by rw [Nat.zero_add]; exact h2) hn
theorem zwh_ex' {S T : Type} {f : S → Option (S ⊕ T)} (I : Nat → S → Prop) (P : T → Prop) (N : Nat) (h1 : ∀ i s, i < N → I i s → (∃ s', f s = some (.inl s') ∧ I (i + 1) s') ∨ ∃ t, f s = some (.inr t) ∧ P t) (h2 : ∀ s, I N s → ∃ t, f s = some (.inr t) ∧ P t) : ∀ (d : Nat) (i n : Nat) (s : S), i + d = N → d < n → I i s → ∃ t, zwh f n s = some t ∧ P t
  | 0, i, n, s, hi, hn, h => by
    obtain ⟨n, rfl⟩ : ∃ m, n = m + 1 := ⟨n - 1, by omega⟩
    obtain ⟨t, h3, h4⟩ := h2 s (by rw [← hi]; exact h)
    exact ⟨t, zwh_inr h3, h4⟩
  | d + 1, i, n, s, hi, hn, h => by
    obtain ⟨n, rfl⟩ : ∃ m, n = m + 1 := ⟨n - 1, by omega⟩
    rcases h1 i s (by omega) h with ⟨s', h3, h4⟩ | ⟨t, h3, h4⟩
    · rw [zwh_inl h3]
      exact zwh_ex' I P N h1 h2 d (i + 1) n s' (by omega) (by omega) h4
    · exact ⟨t, zwh_inr h3, h4⟩
/-- a loop with an invariant -/
theorem zwh_ex {S T : Type} {f : S → Option (S ⊕ T)} (I : Nat → S → Prop) (P : T → Prop) (N : Nat) {s : S} (h0 : I 0 s) (h1 : ∀ i s, i < N → I i s → (∃ s', f s = some (.inl s') ∧ I (i + 1) s') ∨ ∃ t, f s = some (.inr t) ∧ P t) (h2 : ∀ s, I N s → ∃ t, f s = some (.inr t) ∧ P t) (hn : N < 100000) : ∃ t, zwh f zFu s = some t ∧ P t :=
  zwh_ex' I P N h1 h2 N 0 zFu s (by omega) hn h0
/-! numbers -/
theorem zmulI (a b : Nat) : nI a * nI b = nI (a * b) := (Int32.ofNat_mul a b).symm
theorem zsubI {a b : Nat} (h : b ≤ a) : nI a - nI b = nI (a - b) := by
  have e : a = (a - b) + b := by omega
  have h1 : nI a = nI (a - b) + nI b := by rw [nI_add, ← e]
  rw [h1]
  exact Int32.add_sub_cancel _ _
theorem zix_n {n N : Nat} (h : n < N) (hN : N < 2147483648) : zix (nI n) N = some n := by
  unfold zix
  rw [if_neg (nI_in h hN), nI_clamp (by omega)]
theorem zix_o {n N : Nat} (h : N ≤ n) (hn : n < 2147483648) : zix (nI n) N = none := by
  unfold zix
  rw [if_pos (Or.inr (by rw [nI_clamp (by omega)]; exact h))]
theorem zdivI {a b : Nat} (ha : a < 2147483648) (hb : b < 2147483648) : nI a / nI b = nI (a / b) := by
  apply Int32.toInt_inj.mp
  rw [Int32.toInt_div, nI_toInt ha, nI_toInt hb, nI_toInt (Nat.lt_of_le_of_lt (Nat.div_le_self a b) ha)]
  have h1 : ((a : Int).tdiv (b : Int)) = ((a / b : Nat) : Int) := by
    rw [Int.tdiv_eq_ediv_of_nonneg (by omega)]; rfl
  have h2 := Nat.div_le_self a b
  rw [h1]
  generalize a / b = q at h2 ⊢
  exact fb_bmod (by omega) (by omega)
theorem zremI {a b : Nat} (ha : a < 2147483648) (hb : b < 2147483648) : zrem (nI a) (nI b) = nI (a % b) := by
  unfold zrem
  have h2 : a / b * b ≤ a := Nat.div_mul_le_self a b
  rw [zdivI ha hb, zmulI, zsubI h2]
  congr 1
  have := Nat.div_add_mod a b
  rw [Nat.mul_comm] at this
  omega
theorem znn0 {x : Int32} (h : ¬ x < 0) : x = nI x.toNatClampNeg ∧ x.toNatClampNeg < 2147483648 := by
  obtain ⟨j, h1, h2⟩ := nI_of h
  rw [h2, nI_clamp h1]
  exact ⟨rfl, h1⟩
theorem zle0 {x : Int32} (h : 0 ≤ x) : ∃ j : Nat, j < 2147483648 ∧ x = nI j := nI_of (fun h2 => by
  rw [fa_le] at h; rw [fa_lt] at h2; omega)
/-- a value within bounds is a number within bounds -/
theorem zbet {x : Int32} {m : Nat} (h : ¬ x < 0) (h2 : ¬ nI m < x) (hm : m < 2147483648) : ∃ j : Nat, j ≤ m ∧ x = nI j := by
  obtain ⟨j, h3, rfl⟩ := nI_of h
  rw [nI_ltI hm h3] at h2
  exact ⟨j, by omega, rfl⟩
theorem zm1 : (-1 : Int32) < 0 := by decide
theorem znI_m1 {n : Nat} (h : n < 2147483648) : nI n ≠ -1 := by
  intro e
  have := congrArg Int32.toInt e
  rw [nI_toInt h] at this
  have h2 : (-1 : Int32).toInt = -1 := rfl
  omega
/-! the memory: reading behind a write -/
theorem zI_sI (σ : zM) (c i k c' i' k' : Nat) (v : Int32) : zI (zsI σ c i k v) c' i' k' = if c' = c ∧ i' = i ∧ k' = k then v else zI σ c' i' k' := rfl
theorem zJ_sJ (σ : zM) (c i k c' i' k' : Nat) (v : Int64) : zJ (zsJ σ c i k v) c' i' k' = if c' = c ∧ i' = i ∧ k' = k then v else zJ σ c' i' k' := rfl
theorem zR_sR (σ : zM) (c i k c' i' k' : Nat) (v : Option Nat) : zR (zsR σ c i k v) c' i' k' = if c' = c ∧ i' = i ∧ k' = k then v else zR σ c' i' k' := rfl
theorem zA_sA (σ : zM) (c i k j c' i' k' : Nat) (v : Int32) : zA (zsA σ c i k j v) c' i' k' = if c' = c ∧ i' = i ∧ k' = k then zu (zA σ c i k) j v else zA σ c' i' k' := rfl
theorem zL_sL (σ : zM) (c i k j c' i' k' : Nat) (v : Int64) : zL (zsL σ c i k j v) c' i' k' = if c' = c ∧ i' = i ∧ k' = k then zu (zL σ c i k) j v else zL σ c' i' k' := rfl
theorem zO_sO (σ : zM) (c i k j c' i' k' : Nat) (v : Option Nat) : zO (zsO σ c i k j v) c' i' k' = if c' = c ∧ i' = i ∧ k' = k then zu (zO σ c i k) j v else zO σ c' i' k' := rfl
theorem zI_sJ (σ : zM) (c i k : Nat) (v : Int64) : zI (zsJ σ c i k v) = zI σ := rfl
theorem zI_sR (σ : zM) (c i k : Nat) (v : Option Nat) : zI (zsR σ c i k v) = zI σ := rfl
theorem zI_sA (σ : zM) (c i k j : Nat) (v : Int32) : zI (zsA σ c i k j v) = zI σ := rfl
theorem zI_sL (σ : zM) (c i k j : Nat) (v : Int64) : zI (zsL σ c i k j v) = zI σ := rfl
theorem zI_sO (σ : zM) (c i k j : Nat) (v : Option Nat) : zI (zsO σ c i k j v) = zI σ := rfl
theorem zJ_sI (σ : zM) (c i k : Nat) (v : Int32) : zJ (zsI σ c i k v) = zJ σ := rfl
theorem zJ_sR (σ : zM) (c i k : Nat) (v : Option Nat) : zJ (zsR σ c i k v) = zJ σ := rfl
theorem zJ_sA (σ : zM) (c i k j : Nat) (v : Int32) : zJ (zsA σ c i k j v) = zJ σ := rfl
theorem zJ_sL (σ : zM) (c i k j : Nat) (v : Int64) : zJ (zsL σ c i k j v) = zJ σ := rfl
theorem zJ_sO (σ : zM) (c i k j : Nat) (v : Option Nat) : zJ (zsO σ c i k j v) = zJ σ := rfl
theorem zR_sI (σ : zM) (c i k : Nat) (v : Int32) : zR (zsI σ c i k v) = zR σ := rfl
theorem zR_sJ (σ : zM) (c i k : Nat) (v : Int64) : zR (zsJ σ c i k v) = zR σ := rfl
theorem zR_sA (σ : zM) (c i k j : Nat) (v : Int32) : zR (zsA σ c i k j v) = zR σ := rfl
theorem zR_sL (σ : zM) (c i k j : Nat) (v : Int64) : zR (zsL σ c i k j v) = zR σ := rfl
theorem zR_sO (σ : zM) (c i k j : Nat) (v : Option Nat) : zR (zsO σ c i k j v) = zR σ := rfl
theorem zA_sI (σ : zM) (c i k : Nat) (v : Int32) : zA (zsI σ c i k v) = zA σ := rfl
theorem zA_sJ (σ : zM) (c i k : Nat) (v : Int64) : zA (zsJ σ c i k v) = zA σ := rfl
theorem zA_sR (σ : zM) (c i k : Nat) (v : Option Nat) : zA (zsR σ c i k v) = zA σ := rfl
theorem zA_sL (σ : zM) (c i k j : Nat) (v : Int64) : zA (zsL σ c i k j v) = zA σ := rfl
theorem zA_sO (σ : zM) (c i k j : Nat) (v : Option Nat) : zA (zsO σ c i k j v) = zA σ := rfl
theorem zL_sI (σ : zM) (c i k : Nat) (v : Int32) : zL (zsI σ c i k v) = zL σ := rfl
theorem zL_sJ (σ : zM) (c i k : Nat) (v : Int64) : zL (zsJ σ c i k v) = zL σ := rfl
theorem zL_sR (σ : zM) (c i k : Nat) (v : Option Nat) : zL (zsR σ c i k v) = zL σ := rfl
theorem zL_sA (σ : zM) (c i k j : Nat) (v : Int32) : zL (zsA σ c i k j v) = zL σ := rfl
theorem zL_sO (σ : zM) (c i k j : Nat) (v : Option Nat) : zL (zsO σ c i k j v) = zL σ := rfl
theorem zO_sI (σ : zM) (c i k : Nat) (v : Int32) : zO (zsI σ c i k v) = zO σ := rfl
theorem zO_sJ (σ : zM) (c i k : Nat) (v : Int64) : zO (zsJ σ c i k v) = zO σ := rfl
theorem zO_sR (σ : zM) (c i k : Nat) (v : Option Nat) : zO (zsR σ c i k v) = zO σ := rfl
theorem zO_sA (σ : zM) (c i k j : Nat) (v : Int32) : zO (zsA σ c i k j v) = zO σ := rfl
theorem zO_sL (σ : zM) (c i k j : Nat) (v : Int64) : zO (zsL σ c i k j v) = zO σ := rfl
theorem zlt_e {α β : Type} (a : α) (f : α → β) : zlt a f = f a := rfl
/-! what a piece of a method leaves as it was: all but the fields (class, field) of F -/
def zEx (F : List (Nat × Nat)) (σ σ' : zM) : Prop := (∀ c i k, (c, k) ∉ F → zI σ' c i k = zI σ c i k) ∧ (∀ c i k, (c, k) ∉ F → zJ σ' c i k = zJ σ c i k) ∧ (∀ c i k, (c, k) ∉ F → zR σ' c i k = zR σ c i k) ∧ (∀ c i k, (c, k) ∉ F → zA σ' c i k = zA σ c i k) ∧ (∀ c i k, (c, k) ∉ F → zL σ' c i k = zL σ c i k) ∧ ∀ c i k, (c, k) ∉ F → zO σ' c i k = zO σ c i k
theorem zEx.rf {F : List (Nat × Nat)} {σ : zM} : zEx F σ σ := ⟨fun _ _ _ _ => rfl, fun _ _ _ _ => rfl, fun _ _ _ _ => rfl, fun _ _ _ _ => rfl, fun _ _ _ _ => rfl, fun _ _ _ _ => rfl⟩
theorem zEx.tr {F : List (Nat × Nat)} {σ σ1 σ2 : zM} (h : zEx F σ σ1) (g : zEx F σ1 σ2) : zEx F σ σ2 := ⟨fun c i k hk => (g.1 c i k hk).trans (h.1 c i k hk), fun c i k hk => (g.2.1 c i k hk).trans (h.2.1 c i k hk), fun c i k hk => (g.2.2.1 c i k hk).trans (h.2.2.1 c i k hk), fun c i k hk => (g.2.2.2.1 c i k hk).trans (h.2.2.2.1 c i k hk), fun c i k hk => (g.2.2.2.2.1 c i k hk).trans (h.2.2.2.2.1 c i k hk), fun c i k hk => (g.2.2.2.2.2 c i k hk).trans (h.2.2.2.2.2 c i k hk)⟩
theorem zEx.mo {F F' : List (Nat × Nat)} {σ σ1 : zM} (h : zEx F σ σ1) (hs : ∀ q ∈ F, q ∈ F') : zEx F' σ σ1 := ⟨fun c i k hk => h.1 c i k (fun h => hk (hs _ h)), fun c i k hk => h.2.1 c i k (fun h => hk (hs _ h)), fun c i k hk => h.2.2.1 c i k (fun h => hk (hs _ h)), fun c i k hk => h.2.2.2.1 c i k (fun h => hk (hs _ h)), fun c i k hk => h.2.2.2.2.1 c i k (fun h => hk (hs _ h)), fun c i k hk => h.2.2.2.2.2 c i k (fun h => hk (hs _ h))⟩
theorem zEx_sI {F : List (Nat × Nat)} {σ : zM} {c i k : Nat} {v : Int32} (h : (c, k) ∈ F) : zEx F σ (zsI σ c i k v) := by
  refine ⟨fun c' i' k' hk => ?_, fun _ _ _ _ => rfl, fun _ _ _ _ => rfl, fun _ _ _ _ => rfl, fun _ _ _ _ => rfl, fun _ _ _ _ => rfl⟩
  rw [zI_sI, if_neg (fun e => hk (by rw [e.1, e.2.2]; exact h))]
theorem zEx_sJ {F : List (Nat × Nat)} {σ : zM} {c i k : Nat} {v : Int64} (h : (c, k) ∈ F) : zEx F σ (zsJ σ c i k v) := by
  refine ⟨fun _ _ _ _ => rfl, fun c' i' k' hk => ?_, fun _ _ _ _ => rfl, fun _ _ _ _ => rfl, fun _ _ _ _ => rfl, fun _ _ _ _ => rfl⟩
  rw [zJ_sJ, if_neg (fun e => hk (by rw [e.1, e.2.2]; exact h))]
theorem zEx_sR {F : List (Nat × Nat)} {σ : zM} {c i k : Nat} {v : Option Nat} (h : (c, k) ∈ F) : zEx F σ (zsR σ c i k v) := by
  refine ⟨fun _ _ _ _ => rfl, fun _ _ _ _ => rfl, fun c' i' k' hk => ?_, fun _ _ _ _ => rfl, fun _ _ _ _ => rfl, fun _ _ _ _ => rfl⟩
  rw [zR_sR, if_neg (fun e => hk (by rw [e.1, e.2.2]; exact h))]
theorem zEx_sA {F : List (Nat × Nat)} {σ : zM} {c i k j : Nat} {v : Int32} (h : (c, k) ∈ F) : zEx F σ (zsA σ c i k j v) := by
  refine ⟨fun _ _ _ _ => rfl, fun _ _ _ _ => rfl, fun _ _ _ _ => rfl, fun c' i' k' hk => ?_, fun _ _ _ _ => rfl, fun _ _ _ _ => rfl⟩
  rw [zA_sA, if_neg (fun e => hk (by rw [e.1, e.2.2]; exact h))]
theorem zEx_sL {F : List (Nat × Nat)} {σ : zM} {c i k j : Nat} {v : Int64} (h : (c, k) ∈ F) : zEx F σ (zsL σ c i k j v) := by
  refine ⟨fun _ _ _ _ => rfl, fun _ _ _ _ => rfl, fun _ _ _ _ => rfl, fun _ _ _ _ => rfl, fun c' i' k' hk => ?_, fun _ _ _ _ => rfl⟩
  rw [zL_sL, if_neg (fun e => hk (by rw [e.1, e.2.2]; exact h))]
theorem zEx_sO {F : List (Nat × Nat)} {σ : zM} {c i k j : Nat} {v : Option Nat} (h : (c, k) ∈ F) : zEx F σ (zsO σ c i k j v) := by
  refine ⟨fun _ _ _ _ => rfl, fun _ _ _ _ => rfl, fun _ _ _ _ => rfl, fun _ _ _ _ => rfl, fun _ _ _ _ => rfl, fun c' i' k' hk => ?_⟩
  rw [zO_sO, if_neg (fun e => hk (by rw [e.1, e.2.2]; exact h))]
theorem zEx_clr {F : List (Nat × Nat)} {σ : zM} {c i : Nat} (h : ∀ k, k < zN c → (c, k) ∈ F) (hI : ∀ k, zN c ≤ k → zI σ c i k = 0) (hJ : ∀ k, zN c ≤ k → zJ σ c i k = 0) (hR : ∀ k, zN c ≤ k → zR σ c i k = none) : zEx F σ (zclr σ c i) := by
  refine ⟨fun c' i' k' hk => ?_, fun c' i' k' hk => ?_, fun c' i' k' hk => ?_, fun _ _ _ _ => rfl, fun _ _ _ _ => rfl, fun _ _ _ _ => rfl⟩
  · show (if c' = c ∧ i' = i then (0 : Int32) else zI σ c' i' k') = _
    split
    · rename_i e
      obtain ⟨rfl, rfl⟩ := e
      exact (hI k' (Nat.le_of_not_lt (fun h2 => hk (h k' h2)))).symm
    · rfl
  · show (if c' = c ∧ i' = i then (0 : Int64) else zJ σ c' i' k') = _
    split
    · rename_i e
      obtain ⟨rfl, rfl⟩ := e
      exact (hJ k' (Nat.le_of_not_lt (fun h2 => hk (h k' h2)))).symm
    · rfl
  · show (if c' = c ∧ i' = i then (none : Option Nat) else zR σ c' i' k') = _
    split
    · rename_i e
      obtain ⟨rfl, rfl⟩ := e
      exact (hR k' (Nat.le_of_not_lt (fun h2 => hk (h k' h2)))).symm
    · rfl
theorem zu_eq {α : Type} (f : Nat → α) (j : Nat) (v : α) : zu f j v j = v := if_pos rfl
theorem zu_ne {α : Type} (f : Nat → α) {j x : Nat} (v : α) (h : x ≠ j) : zu f j v x = f x := if_neg h
theorem zq0 : (0 : Int32) = nI 0 := rfl
theorem zq1 : (1 : Int32) = nI 1 := rfl
theorem zq2 : (2 : Int32) = nI 2 := rfl
theorem zq3 : (3 : Int32) = nI 3 := rfl
theorem zq4 : (4 : Int32) = nI 4 := rfl
theorem zq5 : (5 : Int32) = nI 5 := rfl
theorem zq6 : (6 : Int32) = nI 6 := rfl
theorem zq7 : (7 : Int32) = nI 7 := rfl
theorem zq8 : (8 : Int32) = nI 8 := rfl
theorem zq9 : (9 : Int32) = nI 9 := rfl
theorem zq10 : (10 : Int32) = nI 10 := rfl
theorem zq11 : (11 : Int32) = nI 11 := rfl
theorem zq12 : (12 : Int32) = nI 12 := rfl
theorem zq13 : (13 : Int32) = nI 13 := rfl
theorem zq14 : (14 : Int32) = nI 14 := rfl
theorem zq15 : (15 : Int32) = nI 15 := rfl
theorem zq16 : (16 : Int32) = nI 16 := rfl
theorem zq20 : (20 : Int32) = nI 20 := rfl
theorem zq21 : (21 : Int32) = nI 21 := rfl
theorem zq24 : (24 : Int32) = nI 24 := rfl
theorem zq25 : (25 : Int32) = nI 25 := rfl
theorem zq26 : (26 : Int32) = nI 26 := rfl
theorem zq30 : (30 : Int32) = nI 30 := rfl
theorem zq31 : (31 : Int32) = nI 31 := rfl
theorem zq32 : (32 : Int32) = nI 32 := rfl
theorem zq33 : (33 : Int32) = nI 33 := rfl
theorem zq34 : (34 : Int32) = nI 34 := rfl
theorem zq36 : (36 : Int32) = nI 36 := rfl
theorem zq39 : (39 : Int32) = nI 39 := rfl
theorem zq40 : (40 : Int32) = nI 40 := rfl
theorem zq41 : (41 : Int32) = nI 41 := rfl
theorem zq47 : (47 : Int32) = nI 47 := rfl
theorem zq48 : (48 : Int32) = nI 48 := rfl
theorem zq50 : (50 : Int32) = nI 50 := rfl
theorem zq57 : (57 : Int32) = nI 57 := rfl
theorem zq59 : (59 : Int32) = nI 59 := rfl
theorem zq60 : (60 : Int32) = nI 60 := rfl
theorem zq61 : (61 : Int32) = nI 61 := rfl
theorem zq62 : (62 : Int32) = nI 62 := rfl
theorem zq63 : (63 : Int32) = nI 63 := rfl
theorem zq80 : (80 : Int32) = nI 80 := rfl
theorem zq90 : (90 : Int32) = nI 90 := rfl
theorem zq97 : (97 : Int32) = nI 97 := rfl
theorem zq100 : (100 : Int32) = nI 100 := rfl
theorem zq119 : (119 : Int32) = nI 119 := rfl
theorem zq120 : (120 : Int32) = nI 120 := rfl
theorem zq122 : (122 : Int32) = nI 122 := rfl
theorem zq140 : (140 : Int32) = nI 140 := rfl
theorem zq160 : (160 : Int32) = nI 160 := rfl
theorem zq227 : (227 : Int32) = nI 227 := rfl
theorem zq228 : (228 : Int32) = nI 228 := rfl
theorem zq239 : (239 : Int32) = nI 239 := rfl
theorem zq240 : (240 : Int32) = nI 240 := rfl
theorem zq255 : (255 : Int32) = nI 255 := rfl
theorem zq280 : (280 : Int32) = nI 280 := rfl
theorem zq300 : (300 : Int32) = nI 300 := rfl
theorem zq320 : (320 : Int32) = nI 320 := rfl
theorem zq900 : (900 : Int32) = nI 900 := rfl
theorem zq901 : (901 : Int32) = nI 901 := rfl
theorem zq1000 : (1000 : Int32) = nI 1000 := rfl
theorem zq1001 : (1001 : Int32) = nI 1001 := rfl
theorem zq1600 : (1600 : Int32) = nI 1600 := rfl
theorem zq5400 : (5400 : Int32) = nI 5400 := rfl
theorem zq9999 : (9999 : Int32) = nI 9999 := rfl
theorem zq999999 : (999999 : Int32) = nI 999999 := rfl
theorem zq3600 : (3600 : Int32) = nI 3600 := rfl
