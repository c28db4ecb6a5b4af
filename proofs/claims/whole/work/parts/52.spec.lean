/-! ===== the first index with a property; a count ===== -/
/-- the first k < n with p k, n if there is none -/
def fa_first (p : Nat → Bool) : Nat → Nat
  | 0 => 0
  | n + 1 => if fa_first p n < n then fa_first p n else if p n then n else n + 1
theorem fa_first_le (p : Nat → Bool) : ∀ n, fa_first p n ≤ n
  | 0 => Nat.le_refl 0
  | n + 1 => by
    have ih := fa_first_le p n
    unfold fa_first
    split
    · omega
    · split
      · omega
      · omega
theorem fa_first_no (p : Nat → Bool) : ∀ n k, k < fa_first p n → p k = false
  | 0, k, h => absurd h (Nat.not_lt_zero k)
  | n + 1, k, h => by
    have ih := fa_first_no p n
    have hl := fa_first_le p n
    unfold fa_first at h
    split at h
    · exact ih k h
    · rename_i h1
      split at h
      · exact ih k (by omega)
      · rename_i h2
        by_cases e : k = n
        · subst e
          exact Bool.eq_false_iff.mpr h2
        · exact ih k (by omega)
theorem fa_first_yes (p : Nat → Bool) : ∀ n, fa_first p n < n → p (fa_first p n) = true
  | 0, h => absurd h (Nat.not_lt_zero _)
  | n + 1, h => by
    have ih := fa_first_yes p n
    have hl := fa_first_le p n
    unfold fa_first at h ⊢
    split at h
    · rename_i h1
      rw [if_pos h1]
      exact ih h1
    · rename_i h1
      rw [if_neg h1]
      split at h
      · rename_i h2
        rw [if_pos h2]
        exact h2
      · omega
/-- how many k < n have p k -/
def fa_cnt (p : Nat → Bool) : Nat → Nat
  | 0 => 0
  | n + 1 => fa_cnt p n + if p n then 1 else 0
theorem fa_cnt_le (p : Nat → Bool) : ∀ n, fa_cnt p n ≤ n
  | 0 => Nat.le_refl 0
  | n + 1 => by
    have ih := fa_cnt_le p n
    unfold fa_cnt
    split
    · omega
    · omega
theorem fa_cnt_yes {p : Nat → Bool} {n : Nat} (h : p n = true) : fa_cnt p (n + 1) = fa_cnt p n + 1 := by rw [fa_cnt, if_pos h]
theorem fa_cnt_no {p : Nat → Bool} {n : Nat} (h : p n = false) : fa_cnt p (n + 1) = fa_cnt p n := by rw [fa_cnt, if_neg (by rw [h]; decide)]; rfl
theorem fa_cnt_cong {p q : Nat → Bool} : ∀ {n : Nat}, (∀ k, k < n → p k = q k) → fa_cnt p n = fa_cnt q n
  | 0, _ => rfl
  | n + 1, h => by rw [fa_cnt, fa_cnt, fa_cnt_cong (fun k hk => h k (Nat.lt_succ_of_lt hk)), h n (Nat.lt_succ_self n)]
/-! what is measured, as functions of the cells C, the sun's hours S, a brief's arrays, a day -/
def zopn (C : Nat → Nat) (k side : Nat) : Bool := match znb k side with
  | none => true
  | some o => decide (C o = 0)
def zlg1 (C S : Nat → Nat) (k : Nat) : Nat → Nat → Nat
  | 0, m => m
  | n + 1, m => let m' := zlg1 C S k n m; if zopn C k n then Nat.max m' (S n) else m'
/-- the light of a room: over the cells below n -/
def zlgn (C S : Nat → Nat) (r : Nat) : Nat → Nat
  | 0 => 0
  | n + 1 => if C n = r then zlg1 C S n 4 (zlgn C S r n) else zlgn C S r n
def zLgt (C S : Nat → Nat) (r : Nat) : Nat := zlgn C S r 160
/-! ways -/
def zstp1 (C : Nat → Nat) (k o : Nat) : Bool := decide (0 < C k) && decide (0 < C o) && (decide (C k = C o) || decide (13 ≤ C k) || decide (13 ≤ C o))
def zovr (k : Nat) : Nat := (k + 80) % 160
def znbs (C : Nat → Nat) (k : Nat) : List Nat := ([0, 1, 2, 3].filterMap fun side => match znb k side with
  | none => none
  | some o => if zstp1 C k o then some o else none) ++ (if C k = 14 ∧ C (zovr k) = 14 then [zovr k] else [])
abbrev zBS : Type := (Nat → Option Nat) × List Nat
def zcom (st : zBS) (o n : Nat) : zBS := if st.1 o = none then (fun x => if x = o then some n else st.1 x, st.2 ++ [o]) else st
def zcoms (st : zBS) (n : Nat) (l : List Nat) : zBS := l.foldl (fun st o => zcom st o n) st
def zbfs (C : Nat → Nat) (b : Nat) : Nat → Nat → zBS → Option Nat
  | 0, _, _ => none
  | f + 1, i, st => match st.2[i]? with
    | none => none
    | some k => if C k = b then st.1 k else zbfs C b f (i + 1) (zcoms st ((st.1 k).getD 0 + 1) (znbs C k))
def zini (C : Nat → Nat) (a : Nat) : zBS := (fun k => if k < 160 ∧ C k = a then some 0 else none, (List.range 160).filter fun k => decide (C k = a))
def zStp (C : Nat → Nat) (a b : Nat) : Option Nat := zbfs C b 161 0 (zini C a)
def zOI : Option Nat → Int32
  | none => -1
  | some n => nI n
/-! cost, by terms T and rates R -/
def zcs1 (C : Nat → Nat) (R : Nat → Int32) : Nat → Int32 → Int32
  | 0, v => v
  | n + 1, v => zcs1 C R n v + nI (zcnt1 C (n + 1)) * R (n + 1)
def zCst (C : Nat → Nat) (T R : Nat → Int32) : Int32 := zcs1 C R 12 (nI (zwal C) * T 0 + nI (zcnt1 C 13) * T 1 + nI (zcnt1 C 14) * T 2)
/-! the words of an "out" -/
def zroo (C : Nat → Nat) : Nat := fb_ct (fun r => decide (0 < zcnt1 C (r + 1))) 12
def zdrk (C S : Nat → Nat) : Nat := fb_ct (fun r => decide (0 < zcnt1 C (r + 1)) && decide (zLgt C S (r + 1) = 0)) 12
def zMea (C S : Nat → Nat) (T R : Nat → Int32) (t : Int32) (w : Nat) : Int32 :=
  if w = 0 then nI (zfil C 0 + zfil C 1) else if w = 1 then zCst C T R else if w = 2 then nI (zcnt1 C 13) else if w = 3 then nI (zcnt1 C 14) else if w = 4 then nI (zroo C) else if w = 5 then nI (zdrk C S) else if w = 6 then (if T 4 < t then 1 else 0) else nI ((if 0 < zfil C 0 then 1 else 0) + (if 0 < zfil C 1 then 1 else 0))
/-- which word a comparison's subject is -/
def zsub (c : Int32) : Nat := if c = 29 then 0 else if c = 7 then 1 else if c = 30 then 2 else if c = 31 then 3 else if c = 32 then 4 else if c = 33 then 5 else if c = 34 then 6 else 7
/-- a comparison: how, with what -/
def zcmp (op v : Int32) : Bool := if op &&& 3 = 0 then decide (v < zushr op 8) else if op &&& 3 = 1 then decide (v = zushr op 8) else decide (zushr op 8 < v)
/-- a stack of bits, as a number -/
def zop1 (m : Nat → Int32) (op : Int32) (st : Nat) : Nat :=
  if op = -3 then (if st % 2 = 0 then st + 1 else st - 1) else if op < 0 then (if op = -2 then (if st % 2 = 1 ∨ st / 2 % 2 = 1 then st / 4 * 2 + 1 else st / 4 * 2) else (if st % 2 = 1 ∧ st / 2 % 2 = 1 then st / 4 * 2 + 1 else st / 4 * 2)) else 2 * st + (if zcmp op (m (zsub (zushr op 2 &&& 63))) then 1 else 0)
def zrun (m : Nat → Int32) (l : List Int32) (st : Nat) : Nat := l.foldl (fun st op => zop1 m op st) st
/-! a brief's arrays: kinds, firsts, seconds, thirds, code, terms, rates -/
abbrev zBV : Type := (Nat → Int32) × (Nat → Int32) × (Nat → Int32) × (Nat → Int32) × (Nat → Int32) × (Nat → Int32) × (Nat → Int32)
def zbv (σ : zM) (o : Nat) : zBV := (zA σ 0 o 0, zA σ 0 o 1, zA σ 0 o 2, zA σ 0 o 3, zA σ 0 o 4, zA σ 0 o 5, zA σ 0 o 6)
def zseg (code : Nat → Int32) (a b : Nat) : List Int32 := (List.range (b - a)).map fun i => code (a + i)
def zBrk (C S : Nat → Nat) (B : zBV) (t : Int32) (i : Nat) : Bool :=
  let K := B.1 i; let f1 := B.2.1 i; let f2 := B.2.2.1 i; let f3 := B.2.2.2.1 i; let T := B.2.2.2.2.2.1; let R := B.2.2.2.2.2.2
  if K = 0 then decide (nI (zcnt1 C f1.toNatClampNeg) < f2) || (decide (0 < f3) && decide (nI (zLgt C S f1.toNatClampNeg) < f3))
  else if K = 1 then (match zStp C f1.toNatClampNeg f2.toNatClampNeg with | none => true | some d => decide (f3 < nI d))
  else if K = 2 then (match zStp C f1.toNatClampNeg f2.toNatClampNeg with | none => false | some d => decide (nI d < f3))
  else if K = 7 then decide (f1 < zCst C T R)
  else if K = 8 then decide (zrun (zMea C S T R t) (zseg B.2.2.2.2.1 f1.toNatClampNeg f2.toNatClampNeg) 0 % 2 = 1)
  else false
/-- the first of n statements that is broken -/
def zWhy (C S : Nat → Nat) (B : zBV) (t : Int32) (n : Nat) : Nat := fa_first (zBrk C S B t) n
def zup (C : Nat → Nat) (k v : Nat) : Nat → Nat := fun x => if x = k then v else C x
/-- trial j: cell j / 15 made j % 15 -/
def ztry (C S : Nat → Nat) (B : zBV) (t : Int32) (n : Nat) (j : Nat) : Bool := decide (j % 15 ≠ C (j / 15)) && decide (zWhy (zup C (j / 15) (j % 15)) S B t n = n)
/-- how many changes (2: it can't be told), and the trial -/
def zMen (C S : Nat → Nat) (B : zBV) (t : Int32) (n : Nat) : Nat × Nat := if zWhy C S B t n = n then (0, 2400) else if fa_first (ztry C S B t n) 2400 < 2400 then (1, fa_first (ztry C S B t n) 2400) else (2, 2400)
/-- parts 0 to 4 of it as the calls answer -/
def zMep (M : Nat × Nat) (w : Nat) : Int32 := if w = 0 then nI M.1 else if M.2 < 2400 then (if w = 1 then nI (M.2 / 15 / 80) else if w = 2 then nI (M.2 / 15 % 10) else if w = 3 then nI (M.2 / 15 % 80 / 10) else nI (M.2 % 15)) else -1
