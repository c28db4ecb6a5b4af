/-! expressions: the reference's nodes while they grow, the class's code while it grows -/
def zLf (N : zND) (k : Nat) (V : (Nat → Int32) → Bool) : Prop := N.1 k = 3 ∧ ∃ w, w < 8 ∧ N.2.2.2.1 k = nI w ∧ ((N.2.2.2.2.1 k = 60 ∧ V = fun m => decide (m w < N.2.2.2.2.2 k)) ∨ (N.2.2.2.2.1 k = 61 ∧ V = fun m => decide (m w = N.2.2.2.2.2 k)) ∨ (N.2.2.2.2.1 k = 62 ∧ V = fun m => decide (N.2.2.2.2.2 k < m w)))
/-- as zNo, but every node lies behind the one above it -/
def zNx (N : zND) (M : Nat) : Nat → Nat → Nat → ((Nat → Int32) → Bool) → Prop
  | 0, lo, k, V => lo ≤ k ∧ k < M ∧ zLf N k V
  | d + 1, lo, k, V => zNx N M d lo k V ∨ (lo ≤ k ∧ k < M ∧ N.1 k = 2 ∧ ∃ a U, N.2.1 k = nI a ∧ zNx N M d (k + 1) a U ∧ V = fun m => !(U m)) ∨ (lo ≤ k ∧ k < M ∧ N.1 k = 0 ∧ ∃ cs : List (Nat × ((Nat → Int32) → Bool)), zChn N.2.2.1 (N.2.1 k) (cs.map (·.1)) ∧ cs.length ≤ 900 ∧ (∀ c ∈ cs, zNx N M d (k + 1) c.1 c.2) ∧ V = fun m => cs.any fun c => c.2 m) ∨ (lo ≤ k ∧ k < M ∧ N.1 k = 1 ∧ ∃ cs : List (Nat × ((Nat → Int32) → Bool)), zChn N.2.2.1 (N.2.1 k) (cs.map (·.1)) ∧ cs.length ≤ 900 ∧ (∀ c ∈ cs, zNx N M d (k + 1) c.1 c.2) ∧ V = fun m => cs.all fun c => c.2 m)
theorem zNx_b {N : zND} {M : Nat} : ∀ {d lo k : Nat} {V : (Nat → Int32) → Bool}, zNx N M d lo k V → lo ≤ k ∧ k < M
  | 0, _, _, _, h => ⟨h.1, h.2.1⟩
  | d + 1, lo, k, V, h => by
    rcases h with h | h | h | h
    · exact zNx_b (d := d) h
    · exact ⟨h.1, h.2.1⟩
    · exact ⟨h.1, h.2.1⟩
    · exact ⟨h.1, h.2.1⟩
theorem zNx_w {N : zND} {M : Nat} : ∀ {d lo lo' k : Nat} {V : (Nat → Int32) → Bool}, lo' ≤ lo → zNx N M d lo k V → zNx N M d lo' k V
  | 0, _, _, _, _, hl, h => ⟨Nat.le_trans hl h.1, h.2⟩
  | d + 1, lo, lo', k, V, hl, h => by
    rcases h with h | h | h | h
    · exact Or.inl (zNx_w (d := d) hl h)
    · exact Or.inr (Or.inl ⟨Nat.le_trans hl h.1, h.2⟩)
    · exact Or.inr (Or.inr (Or.inl ⟨Nat.le_trans hl h.1, h.2⟩))
    · exact Or.inr (Or.inr (Or.inr ⟨Nat.le_trans hl h.1, h.2⟩))
theorem zNx_o {N : zND} {M : Nat} : ∀ {d lo k : Nat} {V : (Nat → Int32) → Bool}, zNx N M d lo k V → zNo N M d k V
  | 0, _, _, _, h => ⟨h.2.1, h.2.2⟩
  | d + 1, lo, k, V, h => by
    rcases h with h | ⟨h1, h2, h3, a, U, h4, h5, h6⟩ | ⟨h1, h2, h3, cs, h4, h5, h6, h7⟩ | ⟨h1, h2, h3, cs, h4, h5, h6, h7⟩
    · exact Or.inl (zNx_o (d := d) h)
    · exact Or.inr (Or.inl ⟨h2, h3, a, U, h4, zNx_o (d := d) h5, h6⟩)
    · exact Or.inr (Or.inr (Or.inl ⟨h2, h3, cs, h4, h5, fun c hc => zNx_o (d := d) (h6 c hc), h7⟩))
    · exact Or.inr (Or.inr (Or.inr ⟨h2, h3, cs, h4, h5, fun c hc => zNx_o (d := d) (h6 c hc), h7⟩))
theorem zNx_up {N : zND} {M lo k : Nat} {V : (Nat → Int32) → Bool} : ∀ {e d : Nat}, d ≤ e → zNx N M d lo k V → zNx N M e lo k V
  | 0, d, hd, h => by rw [show d = 0 by omega] at h; exact h
  | e + 1, d, hd, h => by
    by_cases he : d = e + 1
    · rw [← he]; exact h
    · exact Or.inl (zNx_up (e := e) (by omega) h)
theorem zNo_up {N : zND} {M k : Nat} {V : (Nat → Int32) → Bool} : ∀ {e d : Nat}, d ≤ e → zNo N M d k V → zNo N M e k V
  | 0, d, hd, h => by rw [show d = 0 by omega] at h; exact h
  | e + 1, d, hd, h => by
    by_cases he : d = e + 1
    · rw [← he]; exact h
    · exact Or.inl (zNo_up (e := e) (by omega) h)
theorem zChn_cong {nx nx' : Nat → Int32} : ∀ {ks : List Nat} {x : Int32}, (∀ k ∈ ks, nx' k = nx k) → zChn nx x ks → zChn nx' x ks
  | [], _, _, h => h
  | k :: ks, x, he, h => ⟨h.1, by rw [he k List.mem_cons_self]; exact zChn_cong (fun j hj => he j (List.mem_cons_of_mem _ hj)) h.2⟩
theorem zChn_app {nx nx' : Nat → Int32} {l k : Nat} : ∀ {ks : List Nat} {x : Int32}, zChn nx x (ks ++ [l]) → (∀ j ∈ ks, nx' j = nx j) → nx' l = nI k → nx' k = -1 → zChn nx' x (ks ++ [l] ++ [k])
  | [], x, h, _, h1, h2 => ⟨h.1, h1, h2⟩
  | j :: ks, x, h, he, h1, h2 => ⟨h.1, by rw [he j List.mem_cons_self]; exact zChn_app (ks := ks) h.2 (fun i hi => he i (List.mem_cons_of_mem _ hi)) h1 h2⟩
/-- the nodes lo to M are the same, but for what comes behind k -/
def zAg (N N' : zND) (lo M : Nat) : Prop := ∀ j, lo ≤ j → j < M → N'.1 j = N.1 j ∧ N'.2.1 j = N.2.1 j ∧ N'.2.2.2.1 j = N.2.2.2.1 j ∧ N'.2.2.2.2.1 j = N.2.2.2.2.1 j ∧ N'.2.2.2.2.2 j = N.2.2.2.2.2 j
theorem zNx_ag {N N' : zND} {M M' : Nat} (hM : M ≤ M') : ∀ {d lo k : Nat} {V : (Nat → Int32) → Bool}, zAg N N' lo M → (∀ j, k < j → j < M → N'.2.2.1 j = N.2.2.1 j) → zNx N M d lo k V → zNx N' M' d lo k V
  | 0, lo, k, V, ha, hn, ⟨h1, h2, h3, w, h4, h5, h6⟩ => by
    obtain ⟨a1, a2, a3, a4, a5⟩ := ha k h1 h2
    refine ⟨h1, by omega, by rw [a1]; exact h3, w, h4, by rw [a3]; exact h5, ?_⟩
    rw [a4, a5]
    exact h6
  | d + 1, lo, k, V, ha, hn, h => by
    rcases h with h | ⟨h1, h2, h3, a, U, h4, h5, h6⟩ | ⟨h1, h2, h3, cs, h4, h5, h6, h7⟩ | ⟨h1, h2, h3, cs, h4, h5, h6, h7⟩
    · exact Or.inl (zNx_ag hM (d := d) ha hn h)
    all_goals obtain ⟨a1, a2, a3, a4, a5⟩ := ha k h1 h2
    · have hb := zNx_b h5
      refine Or.inr (Or.inl ⟨h1, by omega, by rw [a1]; exact h3, a, U, by rw [a2]; exact h4, ?_, h6⟩)
      exact zNx_ag hM (d := d) (fun j g1 g2 => ha j (by omega) g2) (fun j g1 g2 => hn j (by omega) g2) h5
    · refine Or.inr (Or.inr (Or.inl ⟨h1, by omega, by rw [a1]; exact h3, cs, ?_, h5, fun c hc => ?_, h7⟩))
      · rw [a2]
        refine zChn_cong (fun j hj => ?_) h4
        obtain ⟨c, hc, rfl⟩ := List.mem_map.mp hj
        have hb := zNx_b (h6 c hc)
        exact hn c.1 (by omega) hb.2
      · have hb := zNx_b (h6 c hc)
        exact zNx_ag hM (d := d) (fun j g1 g2 => ha j (by omega) g2) (fun j g1 g2 => hn j (by omega) g2) (h6 c hc)
    · refine Or.inr (Or.inr (Or.inr ⟨h1, by omega, by rw [a1]; exact h3, cs, ?_, h5, fun c hc => ?_, h7⟩))
      · rw [a2]
        refine zChn_cong (fun j hj => ?_) h4
        obtain ⟨c, hc, rfl⟩ := List.mem_map.mp hj
        have hb := zNx_b (h6 c hc)
        exact hn c.1 (by omega) hb.2
      · have hb := zNx_b (h6 c hc)
        exact zNx_ag hM (d := d) (fun j g1 g2 => ha j (by omega) g2) (fun j g1 g2 => hn j (by omega) g2) (h6 c hc)
/-- nodes below M are the same -/
def zBel (N N' : zND) (M : Nat) : Prop := ∀ j, j < M → N'.1 j = N.1 j ∧ N'.2.1 j = N.2.1 j ∧ N'.2.2.1 j = N.2.2.1 j ∧ N'.2.2.2.1 j = N.2.2.2.1 j ∧ N'.2.2.2.2.1 j = N.2.2.2.2.1 j ∧ N'.2.2.2.2.2 j = N.2.2.2.2.2 j
theorem zBel.rf {N : zND} {M : Nat} : zBel N N M := fun _ _ => ⟨rfl, rfl, rfl, rfl, rfl, rfl⟩
theorem zBel.tr {N N' N'' : zND} {M M' : Nat} (h : zBel N N' M) (g : zBel N' N'' M') (hM : M ≤ M') : zBel N N'' M := fun j hj => by
  obtain ⟨h1, h2, h3, h4, h5, h6⟩ := h j hj
  obtain ⟨g1, g2, g3, g4, g5, g6⟩ := g j (by omega)
  exact ⟨g1.trans h1, g2.trans h2, g3.trans h3, g4.trans h4, g5.trans h5, g6.trans h6⟩
theorem zNo_bel {N N' : zND} {M M' : Nat} (hM : M ≤ M') (hb : zBel N N' M) : ∀ {d k : Nat} {V : (Nat → Int32) → Bool}, zNo N M d k V → zNo N' M' d k V
  | 0, k, V, ⟨h2, h3, w, h4, h5, h6⟩ => by
    obtain ⟨a1, a2, a0, a3, a4, a5⟩ := hb k h2
    refine ⟨by omega, by rw [a1]; exact h3, w, h4, by rw [a3]; exact h5, ?_⟩
    rw [a4, a5]
    exact h6
  | d + 1, k, V, h => by
    rcases h with h | ⟨h2, h3, a, U, h4, h5, h6⟩ | ⟨h2, h3, cs, h4, h5, h6, h7⟩ | ⟨h2, h3, cs, h4, h5, h6, h7⟩
    · exact Or.inl (zNo_bel hM hb (d := d) h)
    all_goals obtain ⟨a1, a2, a0, a3, a4, a5⟩ := hb k h2
    · exact Or.inr (Or.inl ⟨by omega, by rw [a1]; exact h3, a, U, by rw [a2]; exact h4, zNo_bel hM hb (d := d) h5, h6⟩)
    · refine Or.inr (Or.inr (Or.inl ⟨by omega, by rw [a1]; exact h3, cs, ?_, h5, fun c hc => zNo_bel hM hb (d := d) (h6 c hc), h7⟩))
      rw [a2]
      refine zChn_cong (fun j hj => ?_) h4
      obtain ⟨c, hc, rfl⟩ := List.mem_map.mp hj
      exact (hb c.1 (zNo_lt (h6 c hc))).2.2.1
    · refine Or.inr (Or.inr (Or.inr ⟨by omega, by rw [a1]; exact h3, cs, ?_, h5, fun c hc => zNo_bel hM hb (d := d) (h6 c hc), h7⟩))
      rw [a2]
      refine zChn_cong (fun j hj => ?_) h4
      obtain ⟨c, hc, rfl⟩ := List.mem_map.mp hj
      exact (hb c.1 (zNo_lt (h6 c hc))).2.2.1
/-! code -/
theorem zrun_a (m : Nat → Int32) (l l' : List Int32) (st : Nat) : zrun m (l ++ l') st = zrun m l' (zrun m l st) := by
  unfold zrun
  rw [List.foldl_append]
theorem ztk_a : ∀ (l l' : List Int32) (j : Nat), (l ++ l').take j = l.take j ++ l'.take (j - l.length)
  | [], l', j => by simp
  | x :: l, l', 0 => by simp
  | x :: l, l', j + 1 => by
    show x :: (l ++ l').take j = x :: (l.take j ++ l'.take (j + 1 - (l.length + 1)))
    rw [ztk_a l l' j, Nat.add_sub_add_right]
theorem zCo_up {l : List Int32} {V : (Nat → Int32) → Bool} {D D' : Nat} (h : zCo l V D) (hD : D ≤ D') : zCo l V D' := fun m st => by
  obtain ⟨h1, h2⟩ := h m st
  refine ⟨h1, fun j => Nat.le_trans (h2 j) (Nat.mul_le_mul_left _ (Nat.pow_le_pow_right (by decide) hD))⟩
theorem zCo_not {l : List Int32} {V : (Nat → Int32) → Bool} {D : Nat} (h : zCo l V D) (hD : 1 ≤ D) : zCo (l ++ [-3]) (fun m => !(V m)) D := fun m st => by
  obtain ⟨h1, h2⟩ := h m st
  have hf : zrun m (l ++ [-3]) st = 2 * st + (if (!(V m)) = true then 1 else 0) := by
    rw [zrun_s, h1]
    show (if (2 * st + (if V m = true then 1 else 0)) % 2 = 0 then _ else _) = _
    have e0 : (if false = true then 1 else 0 : Nat) = 0 := rfl
    have e1 : (if true = true then 1 else 0 : Nat) = 1 := rfl
    cases V m
    · rw [e0, if_pos (by omega)]
      show 2 * st + 0 + 1 = 2 * st + 1
      omega
    · rw [e1, if_neg (by omega)]
      show 2 * st + 1 - 1 = 2 * st + 0
      omega
  refine ⟨hf, fun j => ?_⟩
  rw [ztk_a, zrun_a]
  by_cases hj : j ≤ l.length
  · rw [show j - l.length = 0 by omega]
    exact h2 j
  · obtain ⟨i, hi⟩ : ∃ i, j - l.length = i + 1 := ⟨j - l.length - 1, by omega⟩
    have et : l.take j = l := List.take_of_length_le (by omega)
    have et2 : ([-3] : List Int32).take (i + 1) = [-3] := by cases i <;> rfl
    rw [hi, et, et2, ← zrun_a, hf]
    have hp : 2 ^ 1 ≤ 2 ^ D := Nat.pow_le_pow_right (by decide) hD
    have hm := Nat.mul_le_mul_left (st + 1) hp
    split <;> omega
theorem zCo_two {l l' : List Int32} {V V' : (Nat → Int32) → Bool} {D D' E : Nat} {op : Int32} (f : Bool → Bool → Bool) (hop : ∀ m st (a b : Bool), zop1 m op (2 * (2 * st + if a then 1 else 0) + if b then 1 else 0) = 2 * st + if f a b then 1 else 0) (h : zCo l V D) (h' : zCo l' V' D') (hE : D ≤ E) (hE2 : D' + 1 ≤ E) : zCo (l ++ l' ++ [op]) (fun m => f (V m) (V' m)) E := fun m st => by
  obtain ⟨h1, h2⟩ := h m st
  obtain ⟨g1, g2⟩ := h' m (2 * st + if V m then 1 else 0)
  have hf : zrun m (l ++ l' ++ [op]) st = 2 * st + (if f (V m) (V' m) then 1 else 0) := by
    rw [zrun_s, zrun_a, h1, g1, hop]
  refine ⟨hf, fun j => ?_⟩
  have hpE : (st + 1) * 2 ^ D ≤ (st + 1) * 2 ^ E := Nat.mul_le_mul_left _ (Nat.pow_le_pow_right (by decide) hE)
  have hp1 : 2 ^ 1 ≤ 2 ^ E := Nat.pow_le_pow_right (by decide) (by omega)
  have hm := Nat.mul_le_mul_left (st + 1) hp1
  by_cases hj : j ≤ l.length
  · rw [List.append_assoc, ztk_a, show j - l.length = 0 by omega, List.take_zero, List.append_nil]
    exact Nat.le_trans (h2 j) hpE
  · by_cases hj2 : j ≤ (l ++ l').length
    · rw [ztk_a, show j - (l ++ l').length = 0 by omega, List.take_zero, List.append_nil, ztk_a, List.take_of_length_le (show l.length ≤ j by omega), zrun_a, h1]
      refine Nat.le_trans (g2 _) ?_
      have hq : (2 * st + (if V m then 1 else 0) + 1) ≤ (st + 1) * 2 := by split <;> omega
      have hq2 := Nat.mul_le_mul_right (2 ^ D') hq
      rw [Nat.mul_assoc, Nat.mul_comm 2 (2 ^ D'), ← Nat.pow_succ] at hq2
      exact Nat.le_trans hq2 (Nat.mul_le_mul_left _ (Nat.pow_le_pow_right (by decide) hE2))
    · rw [List.take_of_length_le (by rw [List.length_append]; show _ + 1 ≤ j; omega), hf]
      split <;> omega
theorem zCo_or {l l' : List Int32} {V V' : (Nat → Int32) → Bool} {D D' E : Nat} (h : zCo l V D) (h' : zCo l' V' D') (hE : D ≤ E) (hE2 : D' + 1 ≤ E) : zCo (l ++ l' ++ [-2]) (fun m => V m || V' m) E := by
  refine zCo_two (fun a b => a || b) (fun m st a b => ?_) h h' hE hE2
  show (if (2 * (2 * st + if a then 1 else 0) + if b then 1 else 0) % 2 = 1 ∨ (2 * (2 * st + if a then 1 else 0) + if b then 1 else 0) / 2 % 2 = 1 then (2 * (2 * st + if a then 1 else 0) + if b then 1 else 0) / 4 * 2 + 1 else (2 * (2 * st + if a then 1 else 0) + if b then 1 else 0) / 4 * 2) = _
  cases a <;> cases b <;> simp <;> (first | omega | (split <;> omega))
theorem zCo_and {l l' : List Int32} {V V' : (Nat → Int32) → Bool} {D D' E : Nat} (h : zCo l V D) (h' : zCo l' V' D') (hE : D ≤ E) (hE2 : D' + 1 ≤ E) : zCo (l ++ l' ++ [-1]) (fun m => V m && V' m) E := by
  refine zCo_two (fun a b => a && b) (fun m st a b => ?_) h h' hE hE2
  show (if (2 * (2 * st + if a then 1 else 0) + if b then 1 else 0) % 2 = 1 ∧ (2 * (2 * st + if a then 1 else 0) + if b then 1 else 0) / 2 % 2 = 1 then (2 * (2 * st + if a then 1 else 0) + if b then 1 else 0) / 4 * 2 + 1 else (2 * (2 * st + if a then 1 else 0) + if b then 1 else 0) / 4 * 2) = _
  cases a <;> cases b <;> simp <;> (first | omega | (split <;> omega))
theorem nI_shl {a k : Nat} (hk : k < 32) : nI a <<< (nI k &&& 31) = nI (a * 2 ^ k) := by
  apply Int32.toBitVec_inj.mp
  rw [Int32.toBitVec_shiftLeft]
  show (BitVec.ofNat 32 a <<< ((nI k &&& 31).toBitVec.smod 32).toNat) = BitVec.ofNat 32 (a * 2 ^ k)
  rw [s_l k hk]
  apply BitVec.eq_of_toNat_eq
  rw [BitVec.toNat_shiftLeft, BitVec.toNat_ofNat, BitVec.toNat_ofNat, Nat.shiftLeft_eq, Nat.mul_mod, Nat.mod_mod, ← Nat.mul_mod]
/-- an operation that compares -/
theorem X0_cmp {v code s : Nat} (hs : s < 3) (hc : code < 64) : f_X0_comparison (nI code) (nI (60 + s)) (nI v) = nI (256 * v + (4 * code + s)) := by
  unfold f_X0_comparison
  have e1 : (nI (60 + s) - 60) &&& 3 = nI s := by
    rw [zq60, zsubI (by omega), Nat.add_sub_cancel_left, show (3 : Int32) = nI (2 ^ 2 - 1) from rfl, fa_mask, Nat.mod_eq_of_lt (by omega)]
  rw [e1, zq8, zq2, nI_shl (by omega), nI_shl (by omega), show v * 2 ^ 8 = 2 ^ 8 * v from Nat.mul_comm _ _, fa_or_sum v (show code * 2 ^ 2 < 2 ^ 8 by omega), show 2 ^ 8 * v + code * 2 ^ 2 = 2 ^ 2 * (64 * v + code) by omega, fa_or_sum _ (show s < 2 ^ 2 by omega)]
  congr 1
  omega
theorem zCo_cmp {v code s : Nat} (hs : s < 3) (hc : code < 64) (hv : v < 1000000) : zCo [nI (256 * v + (4 * code + s))] (fun m => if s = 0 then decide (m (zsub (nI code)) < nI v) else if s = 1 then decide (m (zsub (nI code)) = nI v) else decide (nI v < m (zsub (nI code)))) 1 := fun m st => by
  have e3 : nI (256 * v + (4 * code + s)) &&& 3 = nI s := by
    rw [show (3 : Int32) = nI (2 ^ 2 - 1) from rfl, fa_mask]
    congr 1
    omega
  have e8 : zushr (nI (256 * v + (4 * code + s))) 8 = nI v := by
    rw [zq8, zushrN (by omega) (by omega)]
    congr 1
    omega
  have e2 : zushr (nI (256 * v + (4 * code + s))) 2 &&& 63 = nI code := by
    rw [zq2, zushrN (by omega) (by omega), show (63 : Int32) = nI (2 ^ 6 - 1) from rfl, fa_mask]
    congr 1
    omega
  have hneg : ¬ nI (256 * v + (4 * code + s)) < 0 := zlt0 (by omega)
  have hz : zcmp (nI (256 * v + (4 * code + s))) (m (zsub (nI code))) = (if s = 0 then decide (m (zsub (nI code)) < nI v) else if s = 1 then decide (m (zsub (nI code)) = nI v) else decide (nI v < m (zsub (nI code)))) := by
    unfold zcmp
    rw [e3, e8]
    have hs3 : s = 0 ∨ s = 1 ∨ s = 2 := by omega
    rcases hs3 with rfl | rfl | rfl
    · rfl
    · rfl
    · rfl
  have hop : zop1 m (nI (256 * v + (4 * code + s))) st = 2 * st + (if (if s = 0 then decide (m (zsub (nI code)) < nI v) else if s = 1 then decide (m (zsub (nI code)) = nI v) else decide (nI v < m (zsub (nI code)))) = true then 1 else 0) := by
    unfold zop1
    rw [if_neg (fun e => hneg (by rw [e]; decide)), if_neg hneg, e2, hz]
  refine ⟨hop, fun j => ?_⟩
  cases j with
  | zero =>
    show st + 1 ≤ (st + 1) * 2 ^ 1
    omega
  | succ j =>
    have et : ([nI (256 * v + (4 * code + s))] : List Int32).take (j + 1) = [nI (256 * v + (4 * code + s))] := by cases j <;> rfl
    rw [et]
    show zop1 m _ st + 1 ≤ _
    rw [hop]
    have h1 : ∀ b : Bool, 2 * st + (if b = true then 1 else 0) + 1 ≤ (st + 1) * 2 ^ 1 := fun b => by cases b <;> simp <;> omega
    exact h1 _
theorem zseg_a {code : Nat → Int32} {a b c : Nat} (h1 : a ≤ b) (h2 : b ≤ c) : zseg code a c = zseg code a b ++ zseg code b c := by
  unfold zseg
  rw [show c - a = (b - a) + (c - b) by omega, List.range_add, List.map_append, List.map_map]
  congr 1
  apply List.map_congr_left
  intro i _
  show code (a + (b - a + i)) = code (b + i)
  congr 1
  omega
theorem zseg_c {code code' : Nat → Int32} {a b : Nat} (h : ∀ x, a ≤ x → x < b → code' x = code x) : zseg code' a b = zseg code a b := by
  unfold zseg
  apply List.map_congr_left
  intro i hi
  have := List.mem_range.mp hi
  exact h (a + i) (by omega) (by omega)
theorem zseg_1 {code : Nat → Int32} {a : Nat} : zseg code a (a + 1) = [code a] := by
  unfold zseg
  rw [Nat.add_sub_cancel_left]
  rfl
