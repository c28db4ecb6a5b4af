/-! briefs: the class's object j beside the reference's rows 40 j on -/
def zels (w : Nat) : Nat := ([10, 50, 300, 10, 1000, 3, 0, 1, 20, 30, 50] : List Nat).getD w 0
/-- what a term is behind n statements -/
def zTlS (S F1 F2 F3 : Nat → Int32) (w : Nat) : Nat → Int32
  | 0 => nI (zels w)
  | n + 1 => if S n = 8 ∧ w = 10 then F3 n else if S n = 8 ∧ w = 9 then F2 n else if S n = 15 ∧ w = 3 ∧ F2 n ≠ -1 then F2 n else if S n = nI w then F1 n else zTlS S F1 F2 F3 w n
def zRtS (S F1 F2 : Nat → Int32) (r : Nat) : Nat → Int32
  | 0 => 100
  | n + 1 => if S n = 14 ∧ F1 n = nI r then F2 n else zRtS S F1 F2 r n
def zbnd (w : Nat) : Nat := if w < 3 then 9999 else ([50, 999999, 10, 2, 1, 100, 100, 100] : List Nat).getD (w - 3) 0
def zNm (x : Int32) (m : Nat) : Prop := ∃ v, v ≤ m ∧ x = nI v
def zRm (x : Int32) : Prop := ∃ r, 1 ≤ r ∧ r ≤ 12 ∧ x = nI r
/-- the reference's nodes: kind, first, next, word, sign, number -/
abbrev zND : Type := (Nat → Int32) × (Nat → Int32) × (Nat → Int32) × (Nat → Int32) × (Nat → Int32) × (Nat → Int32)
def znd (σ : zM) : zND := (zA σ 12 0 31, zA σ 12 0 32, zA σ 12 0 33, zA σ 12 0 34, zA σ 12 0 35, zA σ 12 0 36)
/-- the nodes ks hang in a chain behind x -/
def zChn (nx : Nat → Int32) : Int32 → List Nat → Prop
  | x, [] => x = -1
  | x, k :: ks => x = nI k ∧ zChn nx (nx k) ks
/-- the node k, of at most d levels, below M, means V -/
def zNo (N : zND) (M : Nat) : Nat → Nat → ((Nat → Int32) → Bool) → Prop
  | 0, k, V => k < M ∧ N.1 k = 3 ∧ ∃ w, w < 8 ∧ N.2.2.2.1 k = nI w ∧ ((N.2.2.2.2.1 k = 60 ∧ V = fun m => decide (m w < N.2.2.2.2.2 k)) ∨ (N.2.2.2.2.1 k = 61 ∧ V = fun m => decide (m w = N.2.2.2.2.2 k)) ∨ (N.2.2.2.2.1 k = 62 ∧ V = fun m => decide (N.2.2.2.2.2 k < m w)))
  | d + 1, k, V => zNo N M d k V ∨ (k < M ∧ N.1 k = 2 ∧ ∃ a U, N.2.1 k = nI a ∧ zNo N M d a U ∧ V = fun m => !(U m)) ∨ (k < M ∧ N.1 k = 0 ∧ ∃ cs : List (Nat × ((Nat → Int32) → Bool)), zChn N.2.2.1 (N.2.1 k) (cs.map (·.1)) ∧ cs.length ≤ 900 ∧ (∀ c ∈ cs, zNo N M d c.1 c.2) ∧ V = fun m => cs.any fun c => c.2 m) ∨ (k < M ∧ N.1 k = 1 ∧ ∃ cs : List (Nat × ((Nat → Int32) → Bool)), zChn N.2.2.1 (N.2.1 k) (cs.map (·.1)) ∧ cs.length ≤ 900 ∧ (∀ c ∈ cs, zNo N M d c.1 c.2) ∧ V = fun m => cs.all fun c => c.2 m)
/-- the operations l put V on the stack, which never grows by more than D -/
def zCo (l : List Int32) (V : (Nat → Int32) → Bool) (D : Nat) : Prop := ∀ (m : Nat → Int32) (st : Nat), zrun m l st = 2 * st + (if V m then 1 else 0) ∧ ∀ j, zrun m (l.take j) st + 1 ≤ (st + 1) * 2 ^ D
def zSt1 (σ : zM) (M j i : Nat) : Prop :=
  let S := zA σ 12 0 27 (40 * j + i); let F1 := zA σ 12 0 28 (40 * j + i); let F2 := zA σ 12 0 29 (40 * j + i); let F3 := zA σ 12 0 30 (40 * j + i)
  let K := zA σ 0 j 0 i; let f1 := zA σ 0 j 1 i; let f2 := zA σ 0 j 2 i; let f3 := zA σ 0 j 3 i
  (S = 11 ∧ K = 0 ∧ zRm F1 ∧ f1 = F1 ∧ zNm F2 999999 ∧ f2 = F2 ∧ zNm F3 999999 ∧ f3 = F3) ∨
  (((S = 12 ∧ K = 1) ∨ (S = 13 ∧ K = 2)) ∧ zRm F1 ∧ f1 = F1 ∧ zRm F2 ∧ f2 = F2 ∧ zNm F3 999999 ∧ f3 = F3) ∨
  (S = 15 ∧ K = 7 ∧ zNm F1 999999 ∧ f1 = F1) ∨
  (S = 16 ∧ K = 8 ∧ ∃ node a b V D, F1 = nI node ∧ f1 = nI a ∧ f2 = nI b ∧ a ≤ b ∧ b ≤ 300 ∧ zNo (znd σ) M 26 node V ∧ D ≤ 40 ∧ zCo (zseg (zA σ 0 j 4) a b) V D) ∨
  ((S = 14 ∨ (zNm S 8 ∧ S ≠ 3)) ∧ zNm K 13 ∧ K ≠ 0 ∧ K ≠ 1 ∧ K ≠ 2 ∧ K ≠ 7 ∧ K ≠ 8)
def zfrom (f : Nat → Int32) (a : Nat) : Nat → Int32 := fun i => f (a + i)
def iBr1 (σ : zM) (M j : Nat) : Prop := ∃ n, n ≤ 40 ∧ zI σ 0 j 7 = nI n ∧ zA σ 12 0 25 j = nI n ∧ zI σ 0 j 9 = zA σ 12 0 26 j ∧ zDy (zA σ 12 0 26 j) ∧ (∀ w, w < 11 → zA σ 0 j 5 w = zTlS (zfrom (zA σ 12 0 27) (40 * j)) (zfrom (zA σ 12 0 28) (40 * j)) (zfrom (zA σ 12 0 29) (40 * j)) (zfrom (zA σ 12 0 30) (40 * j)) w n ∧ zNm (zA σ 0 j 5 w) (zbnd w)) ∧ (zA σ 0 j 5 5 ≠ 0) ∧ (∀ r, 1 ≤ r → r ≤ 12 → zA σ 0 j 6 r = zRtS (zfrom (zA σ 12 0 27) (40 * j)) (zfrom (zA σ 12 0 28) (40 * j)) (zfrom (zA σ 12 0 29) (40 * j)) r n ∧ zNm (zA σ 0 j 6 r) 9999) ∧ ∀ i, i < n → zSt1 σ M j i
def iBar (σ : zM) : Prop := zI σ 0 7 7 = 0 ∧ (∀ w, w < 11 → zA σ 0 7 5 w = nI (zels w)) ∧ ∀ r, 1 ≤ r → r ≤ 12 → zA σ 0 7 6 r = 100
def iBri (σ : zM) : Prop := ∃ nb M, nb ≤ 6 ∧ zI σ 1 0 2 = nI nb ∧ zI σ 12 0 16 = nI nb ∧ (zR σ 1 0 3 = none ∨ zR σ 1 0 3 = some nb) ∧ zI σ 12 0 18 = nI M ∧ M ≤ 891 * nb ∧ (∀ j, j < nb → zO σ 1 0 0 j = some j ∧ iBr1 σ M j) ∧ (∀ j, nb ≤ j → j < 6 → zO σ 1 0 0 j = none) ∧ iBar σ
/-! which brief binds; what a scheme is measured by -/
def zonN (D : Nat → Int32) (t : Int32) : Nat → Nat
  | 0 => 7
  | n + 1 => if D n ≤ t then n else zonN D t n
def zOn (σ : zM) (t : Int32) : Nat := zonN (zA σ 12 0 26) t (zI σ 12 0 16).toNatClampNeg
def zdt (σ : zM) (s : Nat) : Int32 := if zA σ 12 0 5 s = -1 then zI σ 12 0 0 else zA σ 12 0 5 s
def zSn (σ : zM) (i : Nat) : Nat := (zA σ 12 0 6 i).toNatClampNeg
def zns (σ : zM) (o : Nat) : Nat := (zI σ 0 o 7).toNatClampNeg
def zMs (σ : zM) (s : Nat) : Nat × Nat := zMen (zCl σ s) (zSn σ) (zbv σ (zOn σ (zdt σ s))) (zdt σ s) (zns σ (zOn σ (zdt σ s)))
def iMen (n : Nat) (σ : zM) : Prop := (zI σ 8 0 4 = -1 ∨ ∃ s, nI s < zI σ 12 0 1 ∧ s < 10 ∧ zI σ 8 0 4 = nI s ∧ ∀ w, w < 5 → zA σ 8 0 3 w = zMep (zMs σ s) w) ∧ ∃ v, 1 ≤ v ∧ v ≤ n + 1 ∧ zI σ 12 0 2 = nI v ∧ ∀ s, s < 10 → ∃ u, u ≤ v ∧ zA σ 12 0 10 s = nI u ∧ (u = v → nI s < zI σ 12 0 1 ∧ zA σ 12 0 11 s = nI (zMs σ s).1 ∧ ((zMs σ s).2 < 2400 → zA σ 12 0 12 s = nI ((zMs σ s).2 / 15) ∧ zA σ 12 0 13 s = nI ((zMs σ s).2 % 15)) ∧ (2400 ≤ (zMs σ s).2 → zA σ 12 0 12 s = -1))
/-! rounds: the class's object r beside the reference's rows -/
def iRo1 (σ : zM) (X : Int32) (r m : Nat) : Prop := m < 1024 ∧ (∀ s, s < 10 → zA σ 6 r 0 s = if m.testBit s then 1 else 0) ∧ zI σ 6 r 6 = nI (fb_ct (fun s => m.testBit s) 10) ∧ ∀ j, j < 7 → ∃ len, len ≤ 10 ∧ zA σ 6 r 2 j = nI len ∧ zA σ 12 0 57 (7 * r + j) = nI len ∧ (zI σ 12 0 48 ≤ nI j → len = 0) ∧ (∀ a b, a < b → b < len → zA σ 6 r 1 (10 * j + a) ≠ zA σ 6 r 1 (10 * j + b)) ∧ ∀ i, i < len → ∃ s, s < 10 ∧ nI s < X ∧ zA σ 6 r 1 (10 * j + i) = nI s ∧ zA σ 12 0 56 (10 * (7 * r + j) + i) = nI s
def iRoC (σ : zM) (r : Nat) : Prop := (∃ v, v < 128 ∧ zA σ 12 0 59 r = nI v ∧ ∀ j, j < 7 → zA σ 6 r 3 j = (if v.testBit j then 1 else 0) ∧ (zI σ 12 0 48 ≤ nI j → v.testBit j = false)) ∧ zI σ 6 r 7 = zA σ 12 0 60 r ∧ zNm (zA σ 12 0 60 r) 2 ∧ zI σ 6 r 8 = zA σ 12 0 61 r ∧ zNm (zA σ 12 0 61 r) 1
def iRnX (σ : zM) (X : Int32) : Prop := ∃ cl op m0 m1 m2 f st, cl ≤ 2 ∧ op ≤ 1 ∧ cl + op ≤ 2 ∧ zI σ 12 0 50 = nI cl ∧ zI σ 12 0 54 = nI op ∧ zI σ 12 0 49 = nI (cl + op) ∧ zI σ 11 0 15 = nI cl ∧ zI σ 11 0 14 = nI (if op = 1 then cl + 1 else 0) ∧ iRo1 σ X 0 m0 ∧ iRo1 σ X 1 m1 ∧ (∀ s, m0.testBit s → nI s < X) ∧ (∀ s, m1.testBit s → m0.testBit s) ∧ zA σ 12 0 58 0 = nI m0 ∧ (cl + op = 0 → m0 = 0) ∧ (1 ≤ cl + op → m0 ≠ 0) ∧ zI σ 12 0 65 = nI m1 ∧ (cl = 0 → m1 = 0) ∧ (1 ≤ cl → m1 ≠ 0) ∧ zA σ 12 0 58 1 = nI m2 ∧ (cl + op = 2 → m2 = m1) ∧ (cl + op < 2 → m2 = 0) ∧ (∀ r, r < cl → iRoC σ r) ∧ zI σ 11 0 16 = nI f ∧ zI σ 12 0 51 = nI f ∧ f ≤ 10 ∧ zI σ 11 0 17 = nI st ∧ zI σ 12 0 52 = nI st ∧ st ≤ 3 ∧ zI σ 11 0 18 = zI σ 12 0 53
def iRnd (σ : zM) : Prop := iRnX σ (zI σ 12 0 1)
/-! all that is known behind n / 8 calls -/
def zInv (n : Nat) (σ : zM) : Prop := iDay σ ∧ iFlt σ ∧ iTap σ ∧ iNam σ ∧ iSun σ ∧ iSch σ ∧ iPai σ ∧ iQue σ ∧ iPan σ ∧ iWds σ ∧ iBri σ ∧ iMen n σ ∧ iRnd σ
