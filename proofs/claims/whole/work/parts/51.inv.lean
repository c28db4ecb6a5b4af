/-! what is known of the two memories beside one another -/
/-- a byte of the class's tape and the same one of the reference's -/
def zBy (x y : Int32) : Prop := (∃ b, b < 128 ∧ x = nI b ∧ y = nI b) ∨ ∃ b, 128 ≤ b ∧ b < 256 ∧ x = nI b ∧ y < 0 ∧ y.toInt8.toInt32 = y
def zP5 (l : List Nat) : Nat := l.foldl (fun w c => w * 32 + c) 0
def zP8 (l : List Nat) : Nat := l.foldl (fun w c => w * 256 + (c + 96)) 0
/-- letters of a word, 1 to 26 -/
def zLt (l : List Nat) : Prop := 1 ≤ l.length ∧ l.length ≤ 8 ∧ ∀ c ∈ l, 1 ≤ c ∧ c ≤ 26
def zWd (x y : Int64) : Prop := ∃ l, zLt l ∧ x = lN (zP5 l) ∧ y = lN (zP8 l)
def zDy (x : Int32) : Prop := ∃ t, t ≤ 1000 ∧ x = nI t
def iDay (σ : zM) : Prop := zI σ 11 0 10 = zI σ 12 0 0 ∧ zDy (zI σ 12 0 0)
def iFlt (σ : zM) : Prop := zI σ 11 0 11 = zI σ 12 0 24
def iTap (σ : zM) : Prop := ∃ n, n ≤ 900 ∧ zI σ 9 0 1 = nI n ∧ zI σ 12 0 19 = nI n ∧ ∀ i, i < 900 → zBy (zA σ 9 0 0 i) (zA σ 12 0 38 i)
def iNam (σ : zM) : Prop := ∃ k, k ≤ 12 ∧ zI σ 5 0 1 = nI k ∧ zI σ 5 0 2 = 0 ∧ zI σ 12 0 17 = nI k ∧ ∀ j, j < k → zWd (zL σ 5 0 0 j) (zL σ 12 0 37 (j + 1))
def iSun (σ : zM) : Prop := ∀ i, i < 4 → ∃ h, h ≤ 12 ∧ zA σ 8 0 0 i = nI h ∧ zA σ 12 0 6 i = nI h
/-! cells: of the reference 160, of the class 240 with a border -/
def zCl (σ : zM) (s k : Nat) : Nat := if k < 160 then (zA σ 12 0 3 (160 * s + k)).toNatClampNeg else 0
def zpl (k : Nat) : Nat := 120 * (k / 80) + 12 * (k % 80 / 10 + 1) + (k % 10 + 1)
def zinB (p : Nat) : Bool := decide (p < 240) && (decide (1 ≤ p % 120 / 12) && decide (p % 120 / 12 ≤ 8)) && (decide (1 ≤ p % 12) && decide (p % 12 ≤ 10))
def zce (p : Nat) : Nat := 80 * (p / 120) + 10 * (p % 120 / 12 - 1) + (p % 12 - 1)
def zBd (C : Nat → Nat) (p : Nat) : Nat := if zinB p then C (zce p) else 0
/-- what lies beside a cell: none at the edge -/
def znb (k side : Nat) : Option Nat := if side = 0 then (if k % 80 / 10 = 0 then none else some (k - 10)) else if side = 1 then (if k % 10 = 9 then none else some (k + 1)) else if side = 2 then (if k % 80 / 10 = 7 then none else some (k + 10)) else (if k % 10 = 0 then none else some (k - 1))
def zwl1 (C : Nat → Nat) (k side : Nat) : Nat := if C k = 0 then 0 else match znb k side with
  | none => 1
  | some o => if C o = 0 then 1 else if C o = C k then 0 else if side = 0 ∨ side = 3 then 1 else 0
def zwal (C : Nat → Nat) : Nat := fb_sm (fun k => fb_sm (zwl1 C k) 4) 160
def zcnt1 (C : Nat → Nat) (w : Nat) : Nat := fb_ct (fun k => decide (C k = w)) 160
def zfil (C : Nat → Nat) (t : Nat) : Nat := fb_ct (fun k => decide (C (80 * t + k) ≠ 0)) 80
def zCR (σ : zM) (s : Nat) : Prop := (∀ k, k < 160 → zCl σ s k < 15 ∧ zA σ 12 0 3 (160 * s + k) = nI (zCl σ s k)) ∧ (∀ p, p < 240 → zA σ 7 s 2 p = nI (zBd (zCl σ s) p)) ∧ (∀ w, 1 ≤ w → w < 15 → zA σ 7 s 3 w = nI (zcnt1 (zCl σ s) w)) ∧ (∀ t, t < 2 → zA σ 7 s 4 t = nI (zfil (zCl σ s) t)) ∧ zI σ 7 s 5 = nI (zwal (zCl σ s))
def iSch1 (σ : zM) (s : Nat) : Prop := zO σ 11 0 7 s = some s ∧ (∃ a, a < 40 ∧ zI σ 7 s 0 = nI a ∧ zA σ 12 0 4 s = nI a) ∧ zI σ 7 s 1 = zA σ 12 0 5 s ∧ (zA σ 12 0 5 s = -1 ∨ zDy (zA σ 12 0 5 s)) ∧ zCR σ s
def iSch (σ : zM) : Prop := ∃ n, n ≤ 10 ∧ zI σ 11 0 12 = nI n ∧ zI σ 12 0 1 = nI n ∧ (∀ s, s < n → iSch1 σ s) ∧ ∀ s, n ≤ s → s < 10 → ∀ k, k < 160 → zA σ 12 0 3 (160 * s + k) = 0
/-- pairs that were looked at: bits of a long beside an array -/
def zpr (a b : Nat) : Nat := b * (b - 1) / 2 + a
def iPai (σ : zM) : Prop := ∃ m, m < 2 ^ 45 ∧ zJ σ 11 0 13 = lN m ∧ (∀ a b, a < b → b < 10 → zA σ 12 0 14 (10 * a + b) = (if m.testBit (zpr a b) then 1 else 0)) ∧ zI σ 12 0 15 = nI (fb_ct (fun j => m.testBit j) 45)
def iQue (σ : zM) : Prop := (∀ a, a < 40 → (zL σ 3 0 0 a = 0 ∧ zL σ 12 0 42 a = 0) ∨ zWd (zL σ 3 0 0 a) (zL σ 12 0 42 a)) ∧ (∃ n, n ≤ 50 ∧ zI σ 3 0 4 = nI n ∧ zI σ 12 0 43 = nI n) ∧ zI σ 3 0 5 = zI σ 12 0 44 ∧ ∀ i, i < 50 → zA σ 3 0 1 i = zA σ 12 0 45 i ∧ zA σ 3 0 2 i = zA σ 12 0 46 i ∧ zA σ 3 0 3 i = zA σ 12 0 47 i
def iPan (σ : zM) : Prop := (∃ n, n ≤ 7 ∧ zI σ 2 0 1 = nI n ∧ zI σ 12 0 48 = nI n) ∧ ∀ i, i < 280 → ∃ t, t ≤ 1001 ∧ zA σ 2 0 0 i = nI t ∧ zA σ 12 0 55 i = nI t
/-- the texts' words, packed -/
def iWds (σ : zM) : Prop := ∀ j, j < 36 → zL σ 10 0 0 j = lN (zP5 ((["room", "near", "apart", "rate", "wall", "way", "stair", "cost", "out", "close", "keep", "vote", "tie", "fee", "least", "light", "within", "by", "most", "span", "if", "or", "and", "not", "first", "rank", "pair", "head", "number", "cells", "ways", "stairs", "rooms", "dark", "late", "storeys"].getD j "").toList.map fun ch => ch.toNat - 96))
