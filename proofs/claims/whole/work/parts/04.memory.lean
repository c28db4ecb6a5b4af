/-! the memory of the two systems in words of this proof: by class, object, slot (and place in an array); pure, no machine -/
abbrev zM : Type := (Nat → Nat → Nat → Int32) × (Nat → Nat → Nat → Int64) × (Nat → Nat → Nat → Option Nat) × (Nat → Nat → Nat → Nat → Int32) × (Nat → Nat → Nat → Nat → Int64) × (Nat → Nat → Nat → Nat → Option Nat)
def zu {α : Type} (f : Nat → α) (j : Nat) (v : α) : Nat → α := fun x => if x = j then v else f x
def zu3 {α : Type} (f : Nat → Nat → Nat → α) (c i k : Nat) (v : α) : Nat → Nat → Nat → α := fun c' i' k' => if c' = c ∧ i' = i ∧ k' = k then v else f c' i' k'
def zI (σ : zM) : Nat → Nat → Nat → Int32 := σ.1
def zJ (σ : zM) : Nat → Nat → Nat → Int64 := σ.2.1
def zR (σ : zM) : Nat → Nat → Nat → Option Nat := σ.2.2.1
def zA (σ : zM) : Nat → Nat → Nat → Nat → Int32 := σ.2.2.2.1
def zL (σ : zM) : Nat → Nat → Nat → Nat → Int64 := σ.2.2.2.2.1
def zO (σ : zM) : Nat → Nat → Nat → Nat → Option Nat := σ.2.2.2.2.2
def zsI (σ : zM) (c i k : Nat) (v : Int32) : zM := (zu3 σ.1 c i k v, σ.2)
def zsJ (σ : zM) (c i k : Nat) (v : Int64) : zM := (σ.1, zu3 σ.2.1 c i k v, σ.2.2)
def zsR (σ : zM) (c i k : Nat) (v : Option Nat) : zM := (σ.1, σ.2.1, zu3 σ.2.2.1 c i k v, σ.2.2.2)
def zsA (σ : zM) (c i k j : Nat) (v : Int32) : zM := (σ.1, σ.2.1, σ.2.2.1, zu3 σ.2.2.2.1 c i k (zu (σ.2.2.2.1 c i k) j v), σ.2.2.2.2)
def zsL (σ : zM) (c i k j : Nat) (v : Int64) : zM := (σ.1, σ.2.1, σ.2.2.1, σ.2.2.2.1, zu3 σ.2.2.2.2.1 c i k (zu (σ.2.2.2.2.1 c i k) j v), σ.2.2.2.2.2)
def zsO (σ : zM) (c i k j : Nat) (v : Option Nat) : zM := (σ.1, σ.2.1, σ.2.2.1, σ.2.2.2.1, σ.2.2.2.2.1, zu3 σ.2.2.2.2.2 c i k (zu (σ.2.2.2.2.2 c i k) j v))
/-- an index within, as a number -/
def zix (i : Int32) (n : Nat) : Option Nat := if i < 0 ∨ n ≤ i.toNatClampNeg then none else some i.toNatClampNeg
/-- a test that stands for a refusal -/
def zck (c : Bool) : Option Unit := if c then some () else none
/-- a loop: goes on with .inl, ends with .inr; none where the bound is spent -/
def zwh {S T : Type} (f : S → Option (S ⊕ T)) : Nat → S → Option T
  | 0, _ => none
  | n + 1, s => (f s).bind fun r => match r with
    | .inl s' => zwh f n s'
    | .inr t => some t
def zFu : Nat := 100000
theorem zwh_s {S T : Type} {f : S → Option (S ⊕ T)} {n : Nat} {s : S} {t : T} (h : zwh f (n + 1) s = some t) : (∃ s', f s = some (.inl s') ∧ zwh f n s' = some t) ∨ f s = some (.inr t) := by
  unfold zwh at h
  cases hf : f s with
  | none => rw [hf] at h; cases h
  | some r =>
    rw [hf] at h
    cases r with
    | inl s' => exact Or.inl ⟨s', rfl, h⟩
    | inr t' => cases h; exact Or.inr rfl
theorem zbi {α β : Type} {x : Option α} {f : α → Option β} {r : β} (h : x.bind f = some r) : ∃ a, x = some a ∧ f a = some r := by
  cases x with
  | none => cases h
  | some a => exact ⟨a, rfl, h⟩
theorem zix_s {i : Int32} {n j : Nat} (h : zix i n = some j) : vp_in i n ∧ j = i.toNatClampNeg := by
  unfold zix at h
  split at h
  · cases h
  · rename_i hc
    cases h
    exact ⟨hc, rfl⟩
theorem zck_s {c : Bool} {u : Unit} (h : zck c = some u) : c = true := by
  cases c with
  | true => rfl
  | false => cases h
theorem zif_p {c : Prop} [Decidable c] {α : Type} {a b r : α} (h : c) (hf : (if c then a else b) = r) : a = r := by rw [if_pos h] at hf; exact hf
theorem zif_n {c : Prop} [Decidable c] {α : Type} {a b r : α} (h : ¬ c) (hf : (if c then a else b) = r) : b = r := by rw [if_neg h] at hf; exact hf
theorem znn {c : Prop} [Decidable c] (h : ¬ ¬ c) : c := Decidable.not_not.mp h
/-- a name for a value -/
def zlt {α β : Type} (a : α) (f : α → β) : β := f a
theorem zlt_s {α β : Type} {a : α} {f : α → β} {r : β} (h : zlt a f = r) : ∃ x, x = a ∧ f x = r := ⟨a, rfl, h⟩
/-- what a round of a loop leaves -/
def zwr {S T : Type} (f : S → Option (S ⊕ T)) (n : Nat) (t : T) : S ⊕ T → Prop
  | .inl s => zwh f n s = some t
  | .inr t' => t' = t
theorem zwh_u {S T : Type} {f : S → Option (S ⊕ T)} {n : Nat} {s : S} {t : T} (h : zwh f (n + 1) s = some t) : ∃ r, f s = some r ∧ zwr f n t r := by
  rcases zwh_s h with ⟨s', h1, h2⟩ | h1
  · exact ⟨_, h1, h2⟩
  · exact ⟨_, h1, rfl⟩
theorem zwh_0 {S T : Type} {f : S → Option (S ⊕ T)} {s : S} {t : T} (h : zwh f 0 s = some t) : False := by cases h
/-- both ways of a value that may be nothing -/
def znu {α β : Type} (x : Option α) (a : β) (f : α → β) : β := match x with
  | none => a
  | some j => f j
theorem znu_n {α β : Type} {a : β} {f : α → β} {r : β} (h : znu none a f = r) : a = r := h
theorem znu_s {α β : Type} {j : α} {a : β} {f : α → β} {r : β} (h : znu (some j) a f = r) : f j = r := h
theorem znu_n0 {α β : Type} {x : Option α} {a : β} {f : α → β} {r : β} (hE : x = none) (h : znu x a f = r) : a = r := by subst hE; exact h
theorem znu_s0 {α β : Type} {x : Option α} {j : α} {a : β} {f : α → β} {r : β} (hE : x = some j) (h : znu x a f = r) : f j = r := by subst hE; exact h
def zsm {α β γ : Type} (x : α ⊕ β) (f : α → γ) (g : β → γ) : γ := match x with
  | .inl a => f a
  | .inr b => g b
def zmax (x y : Int32) : Int32 := if x < y then y else x
def zmin (x y : Int32) : Int32 := if y < x then y else x
def zrem (x y : Int32) : Int32 := x - x / y * y
def zushr (x y : Int32) : Int32 := (x.toUInt32 >>> (y.toUInt32 &&& Int32.toUInt32 31)).toInt32
def zlushr (x : Int64) (y : Int32) : Int64 := (x.toUInt64 >>> (y.toInt64.toUInt64 &&& Int64.toUInt64 63)).toInt64
def zlshl (x : Int64) (y : Int32) : Int64 := x <<< (y.toInt64 &&& 63)
def zlshr (x : Int64) (y : Int32) : Int64 := x >>> (y.toInt64 &&& 63)
def zfM : List (Nat × Nat) := [(12, 0)]
def zfX : List (Nat × Nat) := [(11, 0), (9, 0), (5, 0), (1, 0), (4, 0), (10, 0), (8, 0), (3, 0), (2, 0), (6, 0), (6, 1), (0, 7)]
def zELSE (j : Nat) : Int32 := ([10, 50, 300, 10, 1000, 3, 0, 1, 20, 30, 50] : List Int32).getD j 0
def zBES (j : Nat) : Int32 := ([-12, 1, 12, -1] : List Int32).getD j 0

def zkdT : List (List Nat) := [[4, 4, 4, 4, 4, 4, 4, 0, 0, 0], [9, 3, 0, 2], [4, 0], [7, 4, 4, 4, 0, 0], [3, 3, 3, 4, 4, 7, 6, 2, 0, 0], [7, 0, 0], [6, 4, 4, 6, 4, 4, 0, 0, 0], [0, 0, 4, 4, 4, 0], [4, 4, 4, 4, 0], [4, 0], [7], [3, 3, 3, 3, 3, 3, 3, 8, 3, 3, 0, 0, 0, 1, 0, 0, 0, 0, 0], [0, 0, 0, 4, 4, 4, 4, 4, 4, 0, 4, 4, 4, 4, 6, 0, 0, 0, 0, 0, 0, 0, 0, 0, 0, 4, 4, 4, 4, 4, 4, 4, 4, 4, 4, 4, 4, 7, 5, 5, 0, 0, 7, 0, 0, 4, 4, 4, 0, 0, 0, 0, 0, 0, 0, 4, 4, 4, 4, 4, 4, 4, 4, 4, 0, 0]]
def zkd (c k : Nat) : Nat := (zkdT.getD c []).getD k 99
def ztoT : List (List Nat) := [[0, 0, 0, 0, 0, 0, 0, 0, 0, 0], [0, 0, 0, 0], [0, 0], [0, 0, 0, 0, 0, 0], [9, 5, 10, 0, 0, 0, 0, 0, 0, 0], [0, 0, 0], [0, 0, 0, 0, 0, 0, 0, 0, 0], [0, 0, 0, 0, 0, 0], [0, 0, 0, 0, 0], [0, 0], [0], [9, 5, 1, 4, 8, 3, 2, 7, 6, 6, 0, 0, 0, 0, 0, 0, 0, 0, 0], [0, 0, 0, 0, 0, 0, 0, 0, 0, 0, 0, 0, 0, 0, 0, 0, 0, 0, 0, 0, 0, 0, 0, 0, 0, 0, 0, 0, 0, 0, 0, 0, 0, 0, 0, 0, 0, 0, 0, 0, 0, 0, 0, 0, 0, 0, 0, 0, 0, 0, 0, 0, 0, 0, 0, 0, 0, 0, 0, 0, 0, 0, 0, 0, 0, 0]]
def zto (c k : Nat) : Nat := (ztoT.getD c []).getD k 0
def zfi (c k : Nat) : Nat := if c = 11 ∧ k = 9 then 1 else if c = 1 ∧ k = 1 then 7 else 0
def zlnT : List (List Nat) := [[40, 40, 40, 40, 300, 11, 13, 0, 0, 0], [6, 0, 0, 0], [280, 0], [40, 50, 50, 50, 0, 0], [0, 0, 0, 901, 901, 901, 13, 0, 0, 0], [12, 0, 0], [10, 70, 7, 7, 10, 10, 0, 0, 0], [0, 0, 240, 15, 2, 0], [4, 160, 240, 5, 0], [900, 0], [36], [0, 0, 0, 0, 0, 0, 0, 10, 0, 0, 0, 0, 0, 0, 0, 0, 0, 0, 0], [0, 0, 0, 1600, 10, 10, 4, 160, 160, 0, 10, 10, 10, 10, 100, 0, 0, 0, 0, 0, 0, 0, 0, 0, 0, 7, 7, 280, 280, 280, 280, 5400, 5400, 5400, 5400, 5400, 5400, 13, 900, 900, 0, 0, 40, 0, 0, 50, 50, 50, 0, 0, 0, 0, 0, 0, 0, 320, 140, 14, 2, 2, 2, 2, 10, 10, 0, 0]]
def zln (c i k : Nat) : Nat := if c = 0 ∧ k < 5 ∧ 7 ≤ i then 0 else (zlnT.getD c []).getD k 0
def zN (c : Nat) : Nat := (zkdT.getD c []).length
