/-! one cell changed: what is counted by and by -/
theorem zup_eq (C : Nat → Nat) (k v : Nat) : zup C k v k = v := if_pos rfl
theorem zup_ne {C : Nat → Nat} {k v x : Nat} (h : x ≠ k) : zup C k v x = C x := if_neg h
theorem zsm_ch : ∀ (L : List Nat) (f g : Nat → Nat) {n : Nat}, L.Nodup → (∀ x ∈ L, x < n) → (∀ x, x < n → x ∉ L → f x = g x) → fb_sm f n + (L.map g).sum = fb_sm g n + (L.map f).sum
  | [], f, g, n, _, _, h => by
    rw [fb_sm_cong (fun k hk => h k hk (by simp))]
    rfl
  | a :: L, f, g, n, h1, h2, h3 => by
    rw [List.nodup_cons] at h1
    have e1 := fb_sm_upd f (g a) (h2 a (by simp))
    have e2 := zsm_ch L (fun k => if k = a then g a else f k) g h1.2 (fun x hx => h2 x (by simp [hx])) (fun x hx hm => by
      by_cases e : x = a
      · subst e; exact if_pos rfl
      · show (if x = a then g a else f x) = _
        rw [if_neg e]
        exact h3 x hx (by simp [e, hm]))
    have e3 : L.map (fun k => if k = a then g a else f k) = L.map f := by
      apply List.map_congr_left
      intro x hx
      show (if x = a then g a else f x) = f x
      exact if_neg (fun e : x = a => h1.1 (by rw [← e]; exact hx))
    rw [e3] at e2
    simp only [List.map_cons, List.sum_cons]
    omega
theorem zfm_sum {f : Nat → Option Nat} {g : Nat → Nat} : ∀ l : List Nat, ((l.filterMap f).map g).sum = (l.map fun x => match f x with | none => 0 | some y => g y).sum
  | [] => rfl
  | a :: l => by
    have ih := zfm_sum (f := f) (g := g) l
    rw [List.filterMap_cons, List.map_cons, List.sum_cons]
    cases h : f a with
    | none => simp only [h]; rw [ih, Nat.zero_add]
    | some y => simp only [h, List.map_cons, List.sum_cons]; rw [ih]
theorem znb_all : ∀ k, k < 160 → (([0, 1, 2, 3].filterMap (znb k)).all (fun o => decide (o < 160 ∧ o ≠ k)) && decide (([0, 1, 2, 3].filterMap (znb k)).Nodup)) = true := by decide +kernel
theorem znb_op : ∀ k, k < 160 → ∀ i, i < 4 → (match znb k i with | none => True | some o => o < 160 ∧ o ≠ k ∧ znb o ((i + 2) % 4) = some k ∧ ∀ s, s < 4 → s ≠ (i + 2) % 4 → znb o s ≠ some k) := by
  intro k hk i hi
  have h : (match znb k i with | none => true | some o => decide (o < 160) && decide (o ≠ k) && decide (znb o ((i + 2) % 4) = some k) && [0, 1, 2, 3].all fun s => decide (s = (i + 2) % 4) || decide (znb o s ≠ some k)) = true := by
    revert k i
    decide +kernel
  cases e : znb k i with
  | none => trivial
  | some o =>
    rw [e] at h
    simp only [Bool.and_eq_true, decide_eq_true_eq, List.all_eq_true, Bool.or_eq_true] at h
    refine ⟨h.1.1.1, h.1.1.2, h.1.2, fun s hs hne => (h.2 s ?_).resolve_left hne⟩
    have : s = 0 ∨ s = 1 ∨ s = 2 ∨ s = 3 := by omega
    rcases this with rfl | rfl | rfl | rfl <;> simp
/-- what lies beside a cell, nothing outside -/
def znv (C : Nat → Nat) (k i : Nat) : Nat := match znb k i with
  | none => 0
  | some o => C o
def zdf (x y : Nat) : Nat := if x = y then 0 else 1
theorem zwl_side {C : Nat → Nat} {k v i : Nat} (hk : k < 160) (hi : i < 4) : (match znb k i with | none => 0 | some o => fb_sm (zwl1 (zup C k v) o) 4) + zwl1 (zup C k v) k i + zdf (C k) (znv C k i) = (match znb k i with | none => 0 | some o => fb_sm (zwl1 C o) 4) + zwl1 C k i + zdf v (znv C k i) := by
  have h := znb_op k hk i hi
  cases e : znb k i with
  | none =>
    have e2 : znv C k i = 0 := by unfold znv; rw [e]
    have e3 : ∀ D : Nat → Nat, zwl1 D k i = zdf (D k) 0 := fun D => by unfold zwl1 zdf; rw [e]
    rw [e2, e3, e3, zup_eq]
    show 0 + zdf v 0 + zdf (C k) 0 = 0 + zdf (C k) 0 + zdf v 0
    omega
  | some o =>
    rw [e] at h
    obtain ⟨h1, h2, h3, h4⟩ := h
    have e2 : znv C k i = C o := by unfold znv; rw [e]
    have hj : (i + 2) % 4 < 4 := Nat.mod_lt _ (by omega)
    have e4 : fb_sm (zwl1 (zup C k v) o) 4 = fb_sm (fun s => if s = (i + 2) % 4 then zwl1 (zup C k v) o ((i + 2) % 4) else zwl1 C o s) 4 := by
      refine fb_sm_cong (fun s hs => ?_)
      by_cases es : s = (i + 2) % 4
      · rw [if_pos es, es]
      · rw [if_neg es]
        unfold zwl1
        rw [zup_ne h2]
        cases ez : znb o s with
        | none => rfl
        | some z =>
          have hz : z ≠ k := fun ek => h4 s hs es (by rw [ez, ek])
          simp only [zup_ne hz]
    have e5 := fb_sm_upd (zwl1 C o) (zwl1 (zup C k v) o ((i + 2) % 4)) hj
    rw [← e4] at e5
    have pr : ∀ D : Nat → Nat, zwl1 D o ((i + 2) % 4) + zwl1 D k i = zdf (D k) (D o) := fun D => by
      unfold zwl1 zdf
      rw [e, h3]
      simp only
      by_cases c1 : D k = 0
      · by_cases c2 : D o = 0
        · simp [c1, c2]
        · simp [c1, c2, Ne.symm c2]
      · by_cases c2 : D o = 0
        · simp [c1, c2]
        · by_cases c3 : D o = D k
          · simp [c1, c3]
          · rw [if_neg c2, if_neg c1, if_neg c1, if_neg c2, if_neg (fun h => c3 h.symm), if_neg c3, if_neg (fun h : D k = D o => c3 h.symm)]
            have : i = 0 ∨ i = 1 ∨ i = 2 ∨ i = 3 := by omega
            rcases this with rfl | rfl | rfl | rfl <;> rfl
    have p1 := pr C
    have p2 := pr (zup C k v)
    rw [zup_eq, zup_ne h2] at p2
    rw [e2]
    show fb_sm (zwl1 (zup C k v) o) 4 + _ + _ = fb_sm (zwl1 C o) 4 + _ + _
    omega
theorem zsm4 (f : Nat → Nat) : fb_sm f 4 = f 0 + f 1 + f 2 + f 3 := by
  simp only [fb_sm_succ]
  show 0 + f 0 + f 1 + f 2 + f 3 = _
  omega
theorem zwal_up {C : Nat → Nat} {k v : Nat} (hk : k < 160) : zwal (zup C k v) + fb_sm (fun i => zdf (C k) (znv C k i)) 4 = zwal C + fb_sm (fun i => zdf v (znv C k i)) 4 := by
  have h := znb_all k hk
  rw [Bool.and_eq_true] at h
  have hn := of_decide_eq_true h.2
  have hb : ∀ o ∈ [0, 1, 2, 3].filterMap (znb k), o < 160 ∧ o ≠ k := fun o ho => of_decide_eq_true (List.all_eq_true.mp h.1 o ho)
  have e := zsm_ch (k :: [0, 1, 2, 3].filterMap (znb k)) (fun j => fb_sm (zwl1 (zup C k v) j) 4) (fun j => fb_sm (zwl1 C j) 4) (n := 160) (List.nodup_cons.mpr ⟨fun hm => (hb k hm).2 rfl, hn⟩) (fun x hx => by
    rcases List.mem_cons.mp hx with rfl | hx
    · exact hk
    · exact (hb x hx).1) (fun x hx hm => by
    refine fb_sm_cong (fun s hs => ?_)
    have hxk : x ≠ k := fun ek => hm (by rw [ek]; exact List.mem_cons_self)
    unfold zwl1
    rw [zup_ne hxk]
    cases ez : znb x s with
    | none => rfl
    | some z =>
      have hz : z ≠ k := fun ek => hm (by
        have ho := znb_op x hx s hs
        rw [ez] at ho
        rw [ek] at ho
        refine List.mem_cons_of_mem _ (List.mem_filterMap.mpr ⟨(s + 2) % 4, ?_, ho.2.2.1⟩)
        have : (s + 2) % 4 < 4 := Nat.mod_lt _ (by omega)
        generalize (s + 2) % 4 = q at this
        have : q = 0 ∨ q = 1 ∨ q = 2 ∨ q = 3 := by omega
        rcases this with rfl | rfl | rfl | rfl <;> simp)
      simp only [zup_ne hz])
  rw [List.map_cons, List.map_cons, List.sum_cons, List.sum_cons, zfm_sum, zfm_sum] at e
  have s0 := zwl_side (C := C) (v := v) hk (show 0 < 4 by omega)
  have s1 := zwl_side (C := C) (v := v) hk (show 1 < 4 by omega)
  have s2 := zwl_side (C := C) (v := v) hk (show 2 < 4 by omega)
  have s3 := zwl_side (C := C) (v := v) hk (show 3 < 4 by omega)
  simp only [List.map_cons, List.map_nil, List.sum_cons, List.sum_nil] at e
  rw [zsm4 (zwl1 (zup C k v) k), zsm4 (zwl1 C k)] at e
  rw [zsm4 (fun i => zdf (C k) (znv C k i)), zsm4 (fun i => zdf v (znv C k i))]
  unfold zwal
  generalize fb_sm (fun j => fb_sm (zwl1 (zup C k v) j) 4) 160 = A at *
  generalize fb_sm (fun j => fb_sm (zwl1 C j) 4) 160 = B at *
  generalize (match znb k 0 with | none => 0 | some o => fb_sm (zwl1 (zup C k v) o) 4) = a0 at *
  generalize (match znb k 1 with | none => 0 | some o => fb_sm (zwl1 (zup C k v) o) 4) = a1 at *
  generalize (match znb k 2 with | none => 0 | some o => fb_sm (zwl1 (zup C k v) o) 4) = a2 at *
  generalize (match znb k 3 with | none => 0 | some o => fb_sm (zwl1 (zup C k v) o) 4) = a3 at *
  generalize (match znb k 0 with | none => 0 | some o => fb_sm (zwl1 C o) 4) = b0 at *
  generalize (match znb k 1 with | none => 0 | some o => fb_sm (zwl1 C o) 4) = b1 at *
  generalize (match znb k 2 with | none => 0 | some o => fb_sm (zwl1 C o) 4) = b2 at *
  generalize (match znb k 3 with | none => 0 | some o => fb_sm (zwl1 C o) 4) = b3 at *
  omega
theorem zcnt_up {C : Nat → Nat} {k v w : Nat} (hk : k < 160) : zcnt1 (zup C k v) w + (if C k = w then 1 else 0) = zcnt1 C w + (if v = w then 1 else 0) := by
  unfold zcnt1
  have h := fb_ct_upd (fun j => decide (C j = w)) (decide (v = w)) hk
  have e : fb_ct (fun j => decide (zup C k v j = w)) 160 = fb_ct (fun j => if j = k then decide (v = w) else decide (C j = w)) 160 := by
    refine fb_ct_cong (fun j _ => ?_)
    by_cases e : j = k
    · rw [if_pos e, e, zup_eq]
    · rw [if_neg e, zup_ne e]
  rw [e]
  simpa using h
theorem zfil_up {C : Nat → Nat} {k v t : Nat} (hk : k < 160) : zfil (zup C k v) t + (if k / 80 = t ∧ C k ≠ 0 then 1 else 0) = zfil C t + (if k / 80 = t ∧ v ≠ 0 then 1 else 0) := by
  unfold zfil
  by_cases ht : k / 80 = t
  · have hk2 : k = 80 * t + k % 80 := by omega
    have h := fb_ct_upd (fun j => decide (C (80 * t + j) ≠ 0)) (decide (v ≠ 0)) (i := k % 80) (n := 80) (by omega)
    have e : fb_ct (fun j => decide (zup C k v (80 * t + j) ≠ 0)) 80 = fb_ct (fun j => if j = k % 80 then decide (v ≠ 0) else decide (C (80 * t + j) ≠ 0)) 80 := by
      refine fb_ct_cong (fun j _ => ?_)
      by_cases e : j = k % 80
      · rw [if_pos e, e, ← hk2, zup_eq]
      · rw [if_neg e, zup_ne (by omega)]
    rw [e]
    rw [← hk2] at h
    simpa [ht] using h
  · have e : fb_ct (fun j => decide (zup C k v (80 * t + j) ≠ 0)) 80 = fb_ct (fun j => decide (C (80 * t + j) ≠ 0)) 80 := by
      refine fb_ct_cong (fun j hj => ?_)
      rw [zup_ne (by omega)]
    rw [e, if_neg (fun h => ht h.1), if_neg (fun h => ht h.1)]
