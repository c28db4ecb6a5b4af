/-! the class's put -/
def zCX (σ : zM) (s : Nat) (C : Nat → Nat) : Prop := (∀ k, k < 160 → C k < 15) ∧ (∀ p, p < 240 → zA σ 7 s 2 p = nI (zBd C p)) ∧ (∀ w, 1 ≤ w → w < 15 → zA σ 7 s 3 w = nI (zcnt1 C w)) ∧ (∀ t, t < 2 → zA σ 7 s 4 t = nI (zfil C t)) ∧ zI σ 7 s 5 = nI (zwal C)
def zPx (s : Nat) (σ σ' : zM) : Prop := zEx [(7, 2), (7, 3), (7, 4), (7, 5)] σ σ' ∧ ∀ i, i ≠ s → ∀ k, zI σ' 7 i k = zI σ 7 i k ∧ zA σ' 7 i k = zA σ 7 i k
theorem zPx.rf {s : Nat} {σ : zM} : zPx s σ σ := ⟨zEx.rf, fun _ _ _ => ⟨rfl, rfl⟩⟩
theorem zPx.tr {s : Nat} {σ σ1 σ2 : zM} (h : zPx s σ σ1) (g : zPx s σ1 σ2) : zPx s σ σ2 := ⟨h.1.tr g.1, fun i hi k => ⟨((g.2 i hi k).1).trans (h.2 i hi k).1, ((g.2 i hi k).2).trans (h.2 i hi k).2⟩⟩
theorem zPx_I {s k : Nat} {σ : zM} {v : Int32} (h : (7, k) ∈ [(7, 2), (7, 3), (7, 4), (7, 5)]) : zPx s σ (zsI σ 7 s k v) := ⟨zEx_sI h, fun i hi k' => ⟨by rw [zI_sI, if_neg (fun e => hi e.2.1)], rfl⟩⟩
theorem zPx_A {s k j : Nat} {σ : zM} {v : Int32} (h : (7, k) ∈ [(7, 2), (7, 3), (7, 4), (7, 5)]) : zPx s σ (zsA σ 7 s k j v) := ⟨zEx_sA h, fun i hi k' => ⟨rfl, by rw [zA_sA, if_neg (fun e => hi e.2.1)]⟩⟩
theorem zpl_bd : ∀ k, k < 160 → (13 ≤ zpl k ∧ zpl k < 227) ∧ (120 ≤ zpl k ↔ 80 ≤ k) := by decide +kernel
theorem zce_pl : ∀ p, p < 240 → zinB p = true → zpl (zce p) = p ∧ zce p < 160 := by decide +kernel
def zbs (i p : Nat) : Nat := if i = 0 then p - 12 else if i = 1 then p + 1 else if i = 2 then p + 12 else p - 1
theorem znv_bd : ∀ k, k < 160 → ∀ i, i < 4 → zbs i (zpl k) < 240 ∧ (match znb k i with | none => zinB (zbs i (zpl k)) = false | some o => zinB (zbs i (zpl k)) = true ∧ zce (zbs i (zpl k)) = o) := by
  intro k hk i hi
  have h : (decide (zbs i (zpl k) < 240) && match znb k i with | none => decide (zinB (zbs i (zpl k)) = false) | some o => decide (zinB (zbs i (zpl k)) = true ∧ zce (zbs i (zpl k)) = o)) = true := by
    revert k i
    decide +kernel
  rw [Bool.and_eq_true] at h
  refine ⟨of_decide_eq_true h.1, ?_⟩
  have h2 := h.2
  cases e : znb k i with
  | none => rw [e] at h2; exact of_decide_eq_true h2
  | some o => rw [e] at h2; exact of_decide_eq_true h2
theorem znv_Bd {C : Nat → Nat} {k i : Nat} (hk : k < 160) (hi : i < 4) : zBd C (zbs i (zpl k)) = znv C k i := by
  have h := (znv_bd k hk i hi).2
  unfold zBd znv
  cases e : znb k i with
  | none => rw [e] at h; rw [show zinB (zbs i (zpl k)) = false from h]; rfl
  | some o => rw [e] at h; rw [h.1, if_pos rfl, h.2]
theorem zBES_at {p i : Nat} (h1 : 13 ≤ p) (hi : i < 4) : nI p + zBES i = nI (zbs i p) := by
  have hs : ∀ m : Nat, m ≤ p → nI p + (-(nI m)) = nI (p - m) := fun m hm => by
    rw [← zsubI hm, Int32.sub_eq_add_neg]
  have : i = 0 ∨ i = 1 ∨ i = 2 ∨ i = 3 := by omega
  rcases this with rfl | rfl | rfl | rfl
  · exact hs 12 (by omega)
  · exact nI_1 p
  · exact nI_add p 12
  · exact hs 1 (by omega)
theorem zthing {σ : zM} {s p : Nat} (h : p < 240) : f_X7_thingAt σ s (nI p) = some (zA σ 7 s 2 p) := by
  unfold f_X7_thingAt
  rw [if_neg (zlt0 (by omega)), if_neg (by rw [zq240, nI_leI (by omega) (by omega)]; omega), zix_n h (by omega)]
  rfl
theorem znIinj {a b : Nat} (ha : a < 2147483648) (hb : b < 2147483648) : (nI a = nI b) = (a = b) := propext (nI_eq ha hb)
theorem zdfI {a b : Nat} (ha : a < 2147483648) (hb : b < 2147483648) : (if nI a = nI b then 0 else 1 : Int32) = nI (zdf a b) := by
  unfold zdf
  by_cases h : a = b
  · rw [if_pos (by rw [h]), if_pos h]; rfl
  · rw [if_neg (mt (nI_eq ha hb).mp h), if_neg h]; rfl
theorem zup_15 {C : Nat → Nat} {k v : Nat} (hC : ∀ k, k < 160 → C k < 15) (hv : v < 15) : ∀ j, j < 160 → zup C k v j < 15 := fun j hj => by
  by_cases h : j = k
  · rw [h, zup_eq]; exact hv
  · rw [zup_ne h]; exact hC j hj
theorem znv_15 {C : Nat → Nat} {k i : Nat} (hC : ∀ k, k < 160 → C k < 15) (hk : k < 160) (hi : i < 4) : znv C k i < 15 := by
  have h := znb_op k hk i hi
  unfold znv
  cases e : znb k i with
  | none => exact Nat.zero_lt_succ 14
  | some o => rw [e] at h; exact hC o h.1
theorem zith {v : Nat} (h : v < 15) : f_X7_isThing (nI v) = 1 := by
  unfold f_X7_isThing
  rw [if_neg (zlt0 (by omega)), if_neg (by rw [zq15, nI_leI (by omega) (by omega)]; omega)]
theorem zac4 {A A' x0 x1 x2 x3 y0 y1 y2 y3 : Int32} (h : A' + (y0 + y1 + y2 + y3) = A + (x0 + x1 + x2 + x3)) : A + (x0 - y0) + (x1 - y1) + (x2 - y2) + (x3 - y3) = A' := by
  have e : A' = A + (x0 + x1 + x2 + x3) - (y0 + y1 + y2 + y3) := by
    rw [← h]
    exact (Int32.add_sub_cancel _ _).symm
  rw [e]
  simp only [Int32.sub_eq_add_neg, Int32.neg_add]
  ac_rfl
theorem zac1 {A A' x0 y0 : Int32} (h : A' + y0 = A + x0) : A + (x0 - y0) = A' := by
  have e : A' = A + x0 - y0 := by
    rw [← h]
    exact (Int32.add_sub_cancel _ _).symm
  rw [e]
  simp only [Int32.sub_eq_add_neg]
  ac_rfl
def zW (C : Nat → Nat) (k v : Nat) : Nat → Int32
  | 0 => nI (zwal C)
  | i + 1 => zW C k v i + (nI (zdf v (znv C k i)) - nI (zdf (C k) (znv C k i)))
theorem zW_4 {C : Nat → Nat} {k v : Nat} (hk : k < 160) : zW C k v 4 = nI (zwal (zup C k v)) := by
  have h := zwal_up (C := C) (v := v) hk
  rw [zsm4, zsm4] at h
  simp only [zW]
  generalize zdf v (znv C k 0) = x0 at *
  generalize zdf v (znv C k 1) = x1 at *
  generalize zdf v (znv C k 2) = x2 at *
  generalize zdf v (znv C k 3) = x3 at *
  generalize zdf (C k) (znv C k 0) = y0 at *
  generalize zdf (C k) (znv C k 1) = y1 at *
  generalize zdf (C k) (znv C k 2) = y2 at *
  generalize zdf (C k) (znv C k 3) = y3 at *
  have h2 := congrArg nI h
  simp only [← nI_add] at h2
  exact zac4 h2
theorem zput_L {σ : zM} {s k v i : Nat} {C : Nat → Nat} {σ' : zM} (hk : k < 160) (hC : ∀ k, k < 160 → C k < 15) (hv : v < 15) (hi : i < 4) (hA : ∀ p, p < 240 → zA σ' 7 s 2 p = nI (zBd C p)) : f_X7_put_L44 s (nI (zpl k)) (nI v) (nI (C k)) (nI 0) (nI i) σ' = f_X7_put_L44 s (nI (zpl k)) (nI v) (nI (C k)) (nI 0) (nI i) σ' ∧ ∀ y, f_X7_put_L44 s (nI (zpl k)) (nI v) (nI (C k)) y (nI i) σ' = some (.inl (nI (i + 1), zsI σ' 7 s 5 (zI σ' 7 s 5 + (nI (zdf v (znv C k i)) - nI (zdf (C k) (znv C k i)))))) := by
  refine ⟨rfl, fun y => ?_⟩
  have hp := zpl_bd k hk
  have hb := (znv_bd k hk i hi).1
  unfold f_X7_put_L44
  rw [if_neg (by rw [zq4, nI_leI (by omega) (by omega)]; omega), zix_n hi (by omega)]
  simp only [Option.bind_some]
  rw [zBES_at hp.1.1 hi, zthing hb, hA _ hb, znv_Bd hk hi]
  simp only [Option.bind_some, zlt_e]
  have h15 := znv_15 hC hk hi
  have hCk := hC k hk
  rw [zdfI (by omega) (by omega), zdfI (by omega) (by omega), nI_1]
theorem zput_W {σ : zM} {s k v : Nat} {C : Nat → Nat} (y : Int32) (hC : ∀ k, k < 160 → C k < 15) (hA : ∀ p, p < 240 → zA σ 7 s 2 p = nI (zBd C p)) (hW : zI σ 7 s 5 = nI (zwal C)) (hk : k < 160) (hv : v < 15) : ∃ σL, zwh (fun (q : (Int32 × zM)) => f_X7_put_L44 s (nI (zpl k)) (nI v) (nI (C k)) y q.1 q.2) zFu (0, σ) = some σL ∧ zPx s σ σL ∧ zA σL = zA σ ∧ zI σL 7 s 5 = zW C k v 4 := by
  exact zwh_ex (f := fun (q : (Int32 × zM)) => f_X7_put_L44 s (nI (zpl k)) (nI v) (nI (C k)) y q.1 q.2) (fun i q => q.1 = nI i ∧ zPx s σ q.2 ∧ zA q.2 = zA σ ∧ zI q.2 7 s 5 = zW C k v i) (fun t => zPx s σ t ∧ zA t = zA σ ∧ zI t 7 s 5 = zW C k v 4) 4 (s := (0, σ)) ⟨rfl, zPx.rf, rfl, hW⟩ (fun i q hi hq => by
    obtain ⟨q1, q2⟩ := q
    obtain ⟨h1, h2, h3, h4⟩ := hq
    simp only at h1 h2 h3 h4
    subst h1
    refine Or.inl ⟨_, (zput_L (σ := σ) hk hC hv hi (by rw [h3]; exact hA)).2 y, rfl, h2.tr (zPx_I (by decide)), h3, ?_⟩
    show zI (zsI q2 7 s 5 _) 7 s 5 = _
    rw [zI_sI, if_pos ⟨rfl, rfl, rfl⟩, h4]
    rfl) (fun q hq => by
    obtain ⟨q1, q2⟩ := q
    obtain ⟨h1, h2, h3, h4⟩ := hq
    simp only at h1 h2 h3 h4
    subst h1
    refine ⟨q2, ?_, h2, h3, h4⟩
    show f_X7_put_L44 s (nI (zpl k)) (nI v) (nI (C k)) y (nI 4) q2 = _
    unfold f_X7_put_L44
    rw [if_pos (show (4 : Int32) ≤ nI 4 by decide)]) (by omega)
def zPu1 (σ : zM) (s o : Nat) : zM := zsA σ 7 s 3 o (zA σ 7 s 3 o - 1)
def zPu2 (σ : zM) (s v : Nat) : zM := zsA σ 7 s 3 v (zA σ 7 s 3 v + 1)
def zPu3 (σ : zM) (s k v o : Nat) : zM := zsA σ 7 s 4 (k / 80) (zA σ 7 s 4 (k / 80) + ((if nI v = 0 then 0 else 1 : Int32) - (if nI o = 0 then 0 else 1 : Int32)))
def zPu (σ : zM) (s k v o : Nat) : zM := zsA (zPu3 (zPu2 (zPu1 σ s o) s v) s k v o) 7 s 2 (zpl k) (nI v)
theorem zput_f {σ σL : zM} {s k v : Nat} {C : Nat → Nat} (y : Int32) (hy : y = (if 120 ≤ nI (zpl k) then 1 else 0)) (hy2 : y = nI (k / 80)) (hp : (13 ≤ zpl k ∧ zpl k < 227) ∧ (120 ≤ zpl k ↔ 80 ≤ k)) (hp2 : zpl k < 240) (hold : zA σ 7 s 2 (zpl k) = nI (C k)) (hCk : C k < 15) (hv : v < 15) (ht : k / 80 < 2) (hwh : zwh (fun (q : (Int32 × zM)) => f_X7_put_L44 s (nI (zpl k)) (nI v) (nI (C k)) y q.1 q.2) zFu (0, σ) = some σL) : f_X7_put σ s (nI (zpl k)) (nI v) = some (zPu σL s k v (C k)) := by
  unfold f_X7_put
  rw [if_neg (by rw [zq13, nI_ltI (by omega) (by omega)]; omega), if_neg (by rw [zq227, nI_leI (by omega) (by omega)]; omega), zith hv, if_neg z10, zix_n hp2 (by omega)]
  rw [Option.bind_some, hold, ← hy, hwh, Option.bind_some]
  unfold f_X7_put_B105 f_X7_put_B122
  rw [zith hCk, if_neg z10, zix_n hCk (by omega), zix_n hv (by omega), hy2, zix_n ht (by omega), zix_n hp2 (by omega)]
  simp only [Option.bind_some, zlt_e]
  rfl
theorem zput_p {σ σL : zM} {s k v p : Nat} {C : Nat → Nat} (hA : ∀ p, p < 240 → zA σ 7 s 2 p = nI (zBd C p)) (hAL : zA σL = zA σ) (hk : k < 160) (hpp : p < 240) : zA (zPu σL s k v (C k)) 7 s 2 p = nI (zBd (zup C k v) p) := by
  have e2 : zA (zPu σL s k v (C k)) 7 s 2 = zu (zA σ 7 s 2) (zpl k) (nI v) := by
    simp [zPu, zPu1, zPu2, zPu3, zA_sA, hAL]
  rw [e2]
  by_cases h : p = zpl k
  · rw [h, zu_eq, zBd_pl hk, zup_eq]
  · rw [zu_ne _ _ h, hA p hpp]
    unfold zBd
    by_cases hb : zinB p = true
    · have hz := zce_pl p hpp hb
      rw [if_pos hb, if_pos hb, zup_ne (fun e => h (by rw [← e, hz.1]))]
    · rw [if_neg hb, if_neg hb]
theorem zput_c {σ σL : zM} {s k v w : Nat} {C : Nat → Nat} (hN : ∀ w, 1 ≤ w → w < 15 → zA σ 7 s 3 w = nI (zcnt1 C w)) (hAL : zA σL = zA σ) (hk : k < 160) (hw1 : 1 ≤ w) (hw2 : w < 15) : zA (zPu σL s k v (C k)) 7 s 3 w = nI (zcnt1 (zup C k v) w) := by
  have e3 : zA (zPu σL s k v (C k)) 7 s 3 = zu (zu (zA σ 7 s 3) (C k) (zA σ 7 s 3 (C k) - 1)) v (zu (zA σ 7 s 3) (C k) (zA σ 7 s 3 (C k) - 1) v + 1) := by
    simp [zPu, zPu1, zPu2, zPu3, zA_sA, hAL]
  have hc := zcnt_up (C := C) (v := v) (w := w) hk
  have hN' := hN w hw1 hw2
  rw [e3]
  by_cases h1 : v = w
  · subst h1
    rw [zu_eq]
    by_cases h2 : C k = v
    · rw [h2, zu_eq, hN']
      rw [if_pos h2, if_pos rfl] at hc
      rw [show zcnt1 (zup C k v) v = zcnt1 C v by omega]
      exact Int32.sub_add_cancel _ _
    · rw [zu_ne _ _ (fun e => h2 e.symm), hN', nI_1]
      rw [if_neg h2, if_pos rfl] at hc
      rw [show zcnt1 (zup C k v) v = zcnt1 C v + 1 by omega]
  · rw [zu_ne _ _ (fun e => h1 e.symm)]
    by_cases h2 : C k = w
    · rw [h2, zu_eq, hN']
      rw [if_pos h2, if_neg h1] at hc
      rw [show zcnt1 C w = zcnt1 (zup C k v) w + 1 by omega, nI_pred]
    · rw [zu_ne _ _ (fun e => h2 e.symm), hN']
      rw [if_neg h2, if_neg h1] at hc
      rw [show zcnt1 C w = zcnt1 (zup C k v) w by omega]
theorem zput_t {σ σL : zM} {s k v t : Nat} {C : Nat → Nat} (hF : ∀ t, t < 2 → zA σ 7 s 4 t = nI (zfil C t)) (hAL : zA σL = zA σ) (hk : k < 160) (hv : v < 15) (hCk : C k < 15) (ht2 : t < 2) : zA (zPu σL s k v (C k)) 7 s 4 t = nI (zfil (zup C k v) t) := by
  have e4 : zA (zPu σL s k v (C k)) 7 s 4 = zu (zA σ 7 s 4) (k / 80) (zA σ 7 s 4 (k / 80) + ((if nI v = 0 then 0 else 1 : Int32) - (if nI (C k) = 0 then 0 else 1 : Int32))) := by
    rw [zPu, zA_sA, if_neg (by simp), zPu3, zA_sA, if_pos ⟨rfl, rfl, rfl⟩, show zA (zPu2 (zPu1 σL s (C k)) s v) 7 s 4 = zA σ 7 s 4 by simp [zPu2, zPu1, zA_sA, hAL]]
  have hc := zfil_up (C := C) (v := v) (t := t) hk
  rw [e4]
  have i0 : ∀ x, x < 15 → (if nI x = 0 then 0 else 1 : Int32) = nI (zdf x 0) := fun x hx => zdfI (b := 0) (by omega) (by omega)
  rw [i0 v hv, i0 (C k) hCk]
  by_cases h : k / 80 = t
  · rw [h, zu_eq, hF t ht2]
    have z0 : ∀ x, (if k / 80 = t ∧ x ≠ 0 then 1 else 0) = zdf x 0 := fun x => by
      unfold zdf
      by_cases e : x = 0
      · rw [if_neg (fun h => h.2 e), if_pos e]
      · rw [if_pos ⟨h, e⟩, if_neg e]
    rw [z0, z0] at hc
    have h2 := congrArg nI hc
    rw [← nI_add, ← nI_add] at h2
    exact zac1 h2
  · rw [zu_ne _ _ (fun e => h e.symm), hF t ht2]
    rw [if_neg (fun e => h e.1), if_neg (fun e => h e.1)] at hc
    rw [show zfil C t = zfil (zup C k v) t by omega]
theorem zput_w {σL : zM} {s k v : Nat} {C : Nat → Nat} (hk : k < 160) (hWL : zI σL 7 s 5 = zW C k v 4) : zI (zPu σL s k v (C k)) 7 s 5 = nI (zwal (zup C k v)) := by
  rw [← zW_4 hk, ← hWL, zPu, zI_sA, zPu3, zI_sA, zPu2, zI_sA, zPu1, zI_sA]
theorem zput_x {σ σL : zM} {s k v o : Nat} (hPL : zPx s σ σL) : zPx s σ (zPu σL s k v o) := by
  exact hPL.tr ((zPx_A (by decide)).tr ((zPx_A (by decide)).tr ((zPx_A (by decide)).tr (zPx_A (by decide)))))
theorem zput {σ : zM} {s k v : Nat} {C : Nat → Nat} (hX : zCX σ s C) (hk : k < 160) (hv : v < 15) : ∃ σ', f_X7_put σ s (nI (zpl k)) (nI v) = some σ' ∧ zCX σ' s (zup C k v) ∧ zPx s σ σ' := by
  obtain ⟨hC, hA, hN, hF, hW⟩ := hX
  have hp := zpl_bd k hk
  have hp2 := (zpl_in k hk).2.2
  have hCk := hC k hk
  have hold : zA σ 7 s 2 (zpl k) = nI (C k) := by rw [hA _ hp2, zBd_pl hk]
  obtain ⟨y, hy⟩ : ∃ y : Int32, y = (if 120 ≤ nI (zpl k) then 1 else 0) := ⟨_, rfl⟩
  have hy2 : y = nI (k / 80) := by
    rw [hy, zq120]
    by_cases h : 120 ≤ zpl k
    · rw [if_pos (nI_le h (by omega)), show k / 80 = 1 by have := hp.2.mp h; omega]; rfl
    · rw [if_neg (by rw [nI_leI (by omega) (by omega)]; exact h), show k / 80 = 0 by have := mt hp.2.mpr h; omega]; rfl
  obtain ⟨σL, hwh, hPL, hAL, hWL⟩ := zput_W (s := s) (k := k) (v := v) y hC hA hW hk hv
  have ht : k / 80 < 2 := by omega
  exact ⟨zPu σL s k v (C k), zput_f y hy hy2 hp hp2 hold hCk hv ht hwh, ⟨zup_15 hC hv, fun p hpp => zput_p hA hAL hk hpp, fun w hw1 hw2 => zput_c hN hAL hk hw1 hw2, fun t ht2 => zput_t hF hAL hk hv hCk ht2, zput_w hk hWL⟩, zput_x hPL⟩
