def zObA (Inv : Nat → zM → Prop) : Prop := (∀ (x1 : Int32), zOb Inv (fun σ => some (f_X11_day σ x1)) (fun σ => some (f_X12_day σ x1))) ∧ (∀ (x1 : Int32) (x2 : Int32) (x3 : Int32) (x4 : Int32) (x5 : Int32), zOb Inv (fun σ => f_X11_feed σ x1 x2 x3 x4 x5) (fun σ => f_X12_feed σ x1 x2 x3 x4 x5)) ∧ (∀ (x1 : Int32) (n : Nat) (σ : zM), n ≤ 4096 → Inv n σ → ∃ r σ1 σ2, f_X11_brief σ (zMd σ) x1 = some (r, σ1) ∧ f_X12_brief σ1 x1 = some (r, σ2) ∧ Inv (n + 8) σ2 ∧ zSc σ2 = zSc σ ∧ ((¬ ((f_X9_holds σ x1) = 0) ∧ (f_X1_isFull σ) = 0 ∧ zR σ 1 0 3 = none) → zMd σ2 = zMd σ + 1 ∧ zMd σ < 7) ∧ (¬ (¬ ((f_X9_holds σ x1) = 0) ∧ (f_X1_isFull σ) = 0 ∧ zR σ 1 0 3 = none) → zMd σ2 = zMd σ)) ∧ (zOb Inv (fun σ => some (f_X11_fault σ, σ)) (fun σ => some (f_X12_fault σ, σ))) ∧ (∀ (x1 : Int32), zOb Inv (fun σ => (f_X11_binds σ x1).map (fun r => (r, σ))) (fun σ => (f_X12_binds σ x1).map (fun r => (r, σ)))) ∧ (∀ (x1 : Int32) (x2 : Int32), zOb Inv (fun σ => (f_X11_law σ x1 x2).map (fun r => (r, σ))) (fun σ => (f_X12_law σ x1 x2).map (fun r => (r, σ)))) ∧ (∀ (x1 : Int32) (x2 : Int32), zOb Inv (fun σ => (f_X11_name σ x1 x2).map (fun r => (r, σ))) (fun σ => (f_X12_name σ x1 x2).map (fun r => (r, σ)))) ∧ (∀ (x1 : Int32) (x2 : Int32), zOb Inv (fun σ => f_X11_sun σ x1 x2) (fun σ => f_X12_sun σ x1 x2)) ∧ (∀ (x1 : Int32) (n : Nat) (σ : zM), n ≤ 4096 → Inv n σ → ∃ r σ1 σ2, f_X11_scheme σ (zSc σ) x1 = some (r, σ1) ∧ f_X12_scheme σ1 x1 = some (r, σ2) ∧ Inv (n + 8) σ2 ∧ zMd σ2 = zMd σ ∧ ((¬ ((f_X11_isAuthor x1) = 0) ∧ ¬ ((zI σ 11 0 12) < 0) ∧ (zI σ 11 0 12) < 10) → zSc σ2 = zSc σ + 1 ∧ zSc σ < 10) ∧ (¬ (¬ ((f_X11_isAuthor x1) = 0) ∧ ¬ ((zI σ 11 0 12) < 0) ∧ (zI σ 11 0 12) < 10) → zSc σ2 = zSc σ)) ∧ (∀ (x1 : Int32) (x2 : Int32) (x3 : Int32) (x4 : Int32) (x5 : Int32) (x6 : Int32) (x7 : Int32), zOb Inv (fun σ => f_X11_draw σ x1 x2 x3 x4 x5 x6 x7) (fun σ => f_X12_draw σ x1 x2 x3 x4 x5 x6 x7)) ∧ (∀ (x1 : Int32) (x2 : Int32) (x3 : Int32) (x4 : Int32), zOb Inv (fun σ => (f_X11_cell σ x1 x2 x3 x4).map (fun r => (r, σ))) (fun σ => (f_X12_cell σ x1 x2 x3 x4).map (fun r => (r, σ)))) ∧ (∀ (x1 : Int32), zOb Inv (fun σ => f_X11_hand σ x1) (fun σ => f_X12_hand σ x1)) ∧ (∀ (x1 : Int32) (x2 : Int32) (x3 : Int32), zOb Inv (fun σ => (f_X11_room σ x1 x2 x3).map (fun r => (r, σ))) (fun σ => (f_X12_room σ x1 x2 x3).map (fun r => (r, σ)))) ∧ (∀ (x1 : Int32) (x2 : Int32) (x3 : Int32), zOb Inv (fun σ => f_X11_steps σ x1 x2 x3) (fun σ => f_X12_steps σ x1 x2 x3)) ∧ (∀ (x1 : Int32) (x2 : Int32) (x3 : Int32), zOb Inv (fun σ => (f_X11_cost σ x1 x2 x3).map (fun r => (r, σ))) (fun σ => (f_X12_cost σ x1 x2 x3).map (fun r => (r, σ)))) ∧ (∀ (x1 : Int32), zOb Inv (fun σ => f_X11_why σ x1) (fun σ => f_X12_why σ x1)) ∧ (∀ (x1 : Int32) (x2 : Int32), zOb Inv (fun σ => f_X11_mend σ x1 x2) (fun σ => f_X12_mend σ x1 x2)) ∧ (∀ (x1 : Int32) (x2 : Int32), zOb Inv (fun σ => f_X11_alike σ x1 x2) (fun σ => f_X12_alike σ x1 x2)) ∧ (∀ (x1 : Int32), zOb Inv (fun σ => f_X11_most σ x1) (fun σ => f_X12_most σ x1)) ∧ (∀ (x1 : Int32) (x2 : Int32), zOb Inv (fun σ => f_X11_calls σ x1 x2) (fun σ => f_X12_calls σ x1 x2)) ∧ (∀ (x1 : Int32) (x2 : Int32), zOb Inv (fun σ => f_X11_ask σ x1 x2) (fun σ => f_X12_ask σ x1 x2)) ∧ (∀ (x1 : Int32) (x2 : Int32), zOb Inv (fun σ => (f_X11_answered σ x1 x2).map (fun r => (r, σ))) (fun σ => (f_X12_answered σ x1 x2).map (fun r => (r, σ)))) ∧ (zOb Inv (fun σ => some (f_X11_juror σ)) (fun σ => some (f_X12_juror σ))) ∧ (∀ (x1 : Int32) (x2 : Int32) (x3 : Int32), zOb Inv (fun σ => f_X11_knows σ x1 x2 x3) (fun σ => f_X12_knows σ x1 x2 x3)) ∧ (∀ (x1 : Int32) (x2 : Int64), zOb Inv (fun σ => f_X11_marks σ x1 x2) (fun σ => f_X12_marks σ x1 x2)) ∧ (zOb Inv (fun σ => f_X11_open σ) (fun σ => f_X12_open σ)) ∧ (zOb Inv (fun σ => f_X11_close σ) (fun σ => f_X12_close σ)) ∧ (∀ (x1 : Int32) (x2 : Int32) (x3 : Int32), zOb Inv (fun σ => f_X11_points σ x1 x2 x3) (fun σ => (f_X12_points σ x1 x2 x3).map (fun r => (r, σ)))) ∧ (∀ (x1 : Int32) (x2 : Int32), zOb Inv (fun σ => f_X11_voice σ x1 x2) (fun σ => (f_X12_voice σ x1 x2).map (fun r => (r, σ)))) ∧ (∀ (x1 : Int32) (x2 : Int32) (x3 : Int32), zOb Inv (fun σ => f_X11_order σ x1 x2 x3) (fun σ => f_X12_order σ x1 x2 x3)) ∧ (∀ (x1 : Int32), zOb Inv (fun σ => (f_X11_author σ x1).map (fun r => (r, σ))) (fun σ => (f_X12_author σ x1).map (fun r => (r, σ)))) ∧ (zOb Inv (fun σ => f_X11_winner σ) (fun σ => f_X12_winner σ)) ∧ (zOb Inv (fun σ => f_X11_fail σ) (fun σ => f_X12_fail σ)) ∧ (zOb Inv (fun σ => f_X11_pay σ) (fun σ => f_X12_pay σ)) ∧ (∀ (x1 : Int32), zOb Inv (fun σ => (f_X11_count σ x1).map (fun r => (r, σ))) (fun σ => (f_X12_count σ x1).map (fun r => (r, σ))))
def zLs (Inv : Nat → zM → Prop) (n : Nat) (D : va_G) (aC : Nat → ClassId) (A : Nat → Prop) (s : State) (a11 a12 : Nat) (ad : Nat → Nat → Nat → Nat) (nl : zNL) (σ : zM) (H : Heap) (locs : List Loc) (cells slots : Nat) : Prop := ad 11 0 0 = a11 ∧ ad 12 0 0 = a12 ∧ zG D aC A nl ad σ s H ∧ va_S A s.heap H locs ∧ Inv n σ ∧ (∀ q ∈ zfX ++ zfM, zin nl q.1 q.2) ∧ (∀ o k, zSc σ ≤ o → (7, o, k) ∉ nl.1) ∧ (∀ o k, zMd σ ≤ o → o < 7 → (0, o, k) ∉ nl.1) ∧ nl.2 = [] ∧ cells = 97 + zSc σ * 4 + zMd σ * 8 ∧ slots = 43114 + zSc σ * 263 + zMd σ * 494
theorem zvin0 {i : Int32} {n L : Nat} (hi : i = Int32.ofNat n) (hL : L ≤ 4096) (hn : n + 8 ≤ L) : vp_in i L := by
  have h := zvin hi hL hn 0 (by decide)
  have e : i + Int32.ofNat 0 = i := by simp
  rw [e] at h
  exact h
theorem zcnt {n L : Nat} (hL : L ≤ 4096) (hn : n ≤ 4200) (h : ¬ (Int32.ofNat L - 8 < Int32.ofNat n)) : n + 8 ≤ L := by
  have h1 : (Int32.ofNat n).toInt = (n : Int) := Int32.toInt_ofNat_of_lt (by omega)
  have h2 : (Int32.ofNat L).toInt = (L : Int) := Int32.toInt_ofNat_of_lt (by omega)
  have h3 : (Int32.ofNat L - 8).toInt = (L : Int) - 8 := by
    rw [Int32.toInt_sub, h2]
    have : (8 : Int32).toInt = 8 := rfl
    rw [this]
    rw [Int.bmod_def]
    omega
  have h4 : ¬ ((L : Int) - 8 < (n : Int)) := fun h' => h (Int32.lt_iff_toInt_lt.mpr (by rw [h1, h3]; exact h'))
  omega
theorem znew7 {N : List (Nat × Nat × Nat)} {c0 j0 m m' : Nat} {ks : List Nat} (h : ∀ o k, m ≤ o → (c0, o, k) ∉ N) (hm : m' = m + 1) (hj : j0 = m) : ∀ o k, m' ≤ o → (c0, o, k) ∉ N ++ ks.map (fun k => (c0, j0, k)) := by
  intro o k ho hk
  rcases List.mem_append.mp hk with hk | hk
  · exact h o k (by omega) hk
  · obtain ⟨k', -, e⟩ := List.mem_map.mp hk
    cases e
    omega
theorem zoth7 {N : List (Nat × Nat × Nat)} {c0 c1 j0 o k : Nat} {ks : List Nat} (h : (c1, o, k) ∉ N) (hc : c1 ≠ c0) : (c1, o, k) ∉ N ++ ks.map (fun k => (c0, j0, k)) := by
  intro hk
  rcases List.mem_append.mp hk with hk | hk
  · exact h hk
  · obtain ⟨k', -, e⟩ := List.mem_map.mp hk
    cases e
    exact hc rfl
theorem znew0 {N : List (Nat × Nat × Nat)} {c0 j0 m m' : Nat} {ks : List Nat} (h : ∀ o k, m ≤ o → o < 7 → (c0, o, k) ∉ N) (hm : m' = m + 1) (hj : j0 = m) : ∀ o k, m' ≤ o → o < 7 → (c0, o, k) ∉ N ++ ks.map (fun k => (c0, j0, k)) := by
  intro o k ho hne hk
  rcases List.mem_append.mp hk with hk | hk
  · exact h o k (by omega) hne hk
  · obtain ⟨k', -, e⟩ := List.mem_map.mp hk
    cases e
    omega
set_option maxRecDepth 100000 in
set_option maxHeartbeats 4000000 in
theorem zl_loop {p : Program} {l : Launch} {e : Env} {s : State} {m : MethodId} {below : List Frame} {meth : Method} {c : Code} {b L : Nat} {xs : Nat → Int32} {D : va_G} {aC : Nat → ClassId} {zs : Nat × Nat} {A : Nat → Prop} {a11 a12 : Nat} {Q : State → Prop} {Inv : Nat → zM → Prop} (hob : zObA Inv) (hbd : ∀ n σ, Inv n σ → zSc σ ≤ 10 ∧ zMd σ ≤ 7) (hmo : ∀ n σ, Inv n σ → Inv (n + 8) σ) (S : zS p m c code 4 s #[Value.ref b] RL) (hX : va_X b L xs s s.heap) (hbl : b < s.heap.size) (hbA : ¬ A b) (hL : L ≤ 4096) (hz0 : ∀ q : Nat, s.heap.size ≤ q → A q) (hzS : zSt zs A s s.heap) (kk : ∀ (H : Heap) (locs : List Loc) (ls : Array Slot) (cells slots : Nat), cells ≤ 600000 → slots ≤ 7302249 → va_S A s.heap H locs → W p l e room_1 s m #[Value.ref b] below meth c H locs cells slots Q (F0 m 1313 ls [])) : ∀ (fuel n : Nat) (ad : Nat → Nat → Nat → Nat) (nl : zNL) (σ : zM) (H : Heap) (locs : List Loc) (cells slots : Nat) (ls : Array Slot) (i : Int32), 4200 < n + fuel → n ≤ 4200 → i = Int32.ofNat n → zLs Inv n D aC A s a11 a12 ad nl σ H locs cells slots → lv_has ls 4 [(3, .int i), (2, .ref a12), (1, .ref a11), (0, .ref b)] → W p l e room_1 s m #[Value.ref b] below meth c H locs cells slots Q (F0 m 18 ls []) := by
  obtain ⟨hx, hb, -, hown, hts⟩ := id S
  obtain ⟨ob_day, ob_feed, ob_brief, ob_fault, ob_binds, ob_law, ob_name, ob_sun, ob_scheme, ob_draw, ob_cell, ob_hand, ob_room, ob_steps, ob_cost, ob_why, ob_mend, ob_alike, ob_most, ob_calls, ob_ask, ob_answered, ob_juror, ob_knows, ob_marks, ob_open, ob_close, ob_points, ob_voice, ob_order, ob_author, ob_winner, ob_fail, ob_pay, ob_count⟩ := hob
  intro fuel
  induction fuel with
  | zero => intro n ad nl σ H locs cells slots ls i h1 h2; omega
  | succ fuel ih =>
    intro n ad nl σ H locs cells slots ls i hf hn4 hi hLs hl
    obtain ⟨e11, e12, hG, hS, hI, hz, h7, h0, hnu, hcl, hsl⟩ := hLs
    have hbb := hbd n σ hI
    have hcM : cells + 8 ≤ 600000 ∧ slots + 494 ≤ 7302249 := by constructor <;> omega
    refine lv_iload_n hx hb dL_law_18 rfl (lv_at hl 0 rfl) ?_
    refine lv_aload_n hx hb dL_law_19 rfl (lv_at hl 3 rfl) ?_
    refine va_slen hx hb hX hbl hbA hS dL_law_20 ?_
    refine lv_bipush (v := 8) hx hb dL_law_21 (by decide) ?_
    refine lv_isub hx hb dL_law_23 ?_
    refine lv_icmp_gt (tgt := 1313) hx hb dL_law_24 (by decide) (fun _ => ?_) (fun hcmp => ?_)
    · exact kk H locs ls cells slots (by omega) (by omega) hS
    · have hn : n + 8 ≤ L := by rw [hi] at hcmp; exact zcnt hL hn4 hcmp
      have hZX : zH zs zfX A nl s := ⟨hz0, fun q hq => hz q (List.mem_append_left _ hq), hzS⟩
      have hZM : zH zs zfM A nl s := ⟨hz0, fun q hq => hz q (List.mem_append_right _ hq), hzS⟩
      have hT : ∀ (ad2 : Nat → Nat → Nat → Nat) (nl2 : zNL) (σ2 : zM) (H2 : Heap) (locs2 : List Loc) (cells2 slots2 : Nat), zLs Inv (n + 8) D aC A s a11 a12 ad2 nl2 σ2 H2 locs2 cells2 slots2 → W p l e room_1 s m #[Value.ref b] below meth c H2 locs2 cells2 slots2 Q (F0 m 1307 ls []) := by
        intro ad2 nl2 σ2 H2 locs2 cells2 slots2 h2
        refine lv_iinc (v := (i + 8)) (lv' := [(3, .int (i + 8)), (2, .ref a12), (1, .ref a11), (0, .ref b)]) hx hb dL_law_1307 hl (k := 0) rfl rfl (by decide) rfl (fun ls hl => ?_)
        refine lv_goto (tgt := 18) hx hb dL_law_1310 (by decide) ?_
        exact ih (n + 8) ad2 nl2 σ2 H2 locs2 cells2 slots2 ls (i + 8) (by omega) (by omega) (by rw [hi, Int32.ofNat_add]; rfl) h2 hl
      have hT0 : ∀ (σ2 : zM) (H1 : Heap) (locs1 : List Loc), zG D aC A nl ad σ2 s H1 → va_S A s.heap H1 locs1 → Inv (n + 8) σ2 → zSc σ2 = zSc σ → zMd σ2 = zMd σ → W p l e room_1 s m #[Value.ref b] below meth c H1 locs1 cells slots Q (F0 m 1307 ls []) := fun σ2 H1 locs1 g1 g2 g3 g4 g5 => hT ad nl σ2 H1 locs1 cells slots ⟨e11, e12, g1, g2, g3, hz, by rw [g4]; exact h7, by rw [g5]; exact h0, hnu, by rw [g4, g5]; exact hcl, by rw [g4, g5]; exact hsl⟩
      have hr0 : cells ≤ 600000 ∧ slots ≤ 7302249 := ⟨by omega, by omega⟩
      refine lv_aload_n hx hb dL_law_27 rfl (lv_at hl 3 rfl) ?_
      refine lv_iload_n hx hb dL_law_28 rfl (lv_at hl 0 rfl) ?_
      refine va_sld hx hb hX hbl hbA hS (zvin0 hi hL hn) dL_law_29 ?_
      refine lv_bipush (v := 63) hx hb dL_law_30 (by decide) ?_
      refine lv_iand hx hb dL_law_32 ?_
      generalize xs i.toNatClampNeg &&& 63 = x
      by_cases c0 : x = 0
      · refine lv_tableIn (x := x) (off := 155) (tgt := 188) hx hb dL_law_33 (by rw [c0]; decide) (by rw [c0]; decide) (by rw [c0]; decide) (by decide) ?_
        exact zl_day e11 e12 S hX hbl hbA hL hZX hZM hI hG hS hi hn hr0 hl ob_day hT0
      by_cases c1 : x = 1
      · refine lv_tableIn (x := x) (off := 178) (tgt := 211) hx hb dL_law_33 (by rw [c1]; decide) (by rw [c1]; decide) (by rw [c1]; decide) (by decide) ?_
        exact zl_feed e11 e12 S hX hbl hbA hL hZX hZM hI hG hS hi hn hr0 hl ob_feed hT0
      by_cases c2 : x = 2
      · refine lv_tableIn (x := x) (off := 241) (tgt := 274) hx hb dL_law_33 (by rw [c2]; decide) (by rw [c2]; decide) (by rw [c2]; decide) (by decide) ?_
        refine zl_brief e11 e12 S hX hbl hbA hL hZX hZM hI hG hS hi hn ⟨by omega, by omega⟩ hl ob_brief h0 hnu (fun ad2 nl2 σ2 H1 locs1 g1 g2 g3 g4 g5 g6 g7 => ?_)
        rcases g7 with ⟨rfl, g7⟩ | ⟨rfl, g7⟩
        · exact hT ad2 nl2 σ2 H1 locs1 _ _ ⟨g1, g2, g3, g4, g5, hz, by rw [g6]; exact h7, by rw [g7]; exact h0, hnu, by rw [g6, g7]; omega, by rw [g6, g7]; omega⟩
        · exact hT ad2 _ σ2 H1 locs1 _ _ ⟨g1, g2, g3, g4, g5, fun q hq => zin_app (hz q hq), fun o k ho => zoth7 (ks := [0, 6, 7, 1, 2, 3, 4, 5]) (by rw [g6] at ho; exact h7 o k ho) (by decide), znew0 (ks := [0, 6, 7, 1, 2, 3, 4, 5]) h0 g7 rfl, hnu, by rw [g6, g7]; omega, by rw [g6, g7]; omega⟩
      by_cases c3 : x = 3
      · refine lv_tableIn (x := x) (off := 264) (tgt := 297) hx hb dL_law_33 (by rw [c3]; decide) (by rw [c3]; decide) (by rw [c3]; decide) (by decide) ?_
        exact zl_fault e11 e12 S hX hbl hbA hL hZX hZM hI hG hS hi hn hr0 hl ob_fault hT0
      by_cases c4 : x = 4
      · refine lv_tableIn (x := x) (off := 277) (tgt := 310) hx hb dL_law_33 (by rw [c4]; decide) (by rw [c4]; decide) (by rw [c4]; decide) (by decide) ?_
        exact zl_binds e11 e12 S hX hbl hbA hL hZX hZM hI hG hS hi hn hr0 hl ob_binds hT0
      by_cases c5 : x = 5
      · refine lv_tableIn (x := x) (off := 300) (tgt := 333) hx hb dL_law_33 (by rw [c5]; decide) (by rw [c5]; decide) (by rw [c5]; decide) (by decide) ?_
        exact zl_law e11 e12 S hX hbl hbA hL hZX hZM hI hG hS hi hn hr0 hl ob_law hT0
      by_cases c6 : x = 6
      · refine lv_tableIn (x := x) (off := 333) (tgt := 366) hx hb dL_law_33 (by rw [c6]; decide) (by rw [c6]; decide) (by rw [c6]; decide) (by decide) ?_
        exact zl_name e11 e12 S hX hbl hbA hL hZX hZM hI hG hS hi hn hr0 hl ob_name hT0
      by_cases c7 : x = 7
      · refine lv_tableIn (x := x) (off := 366) (tgt := 399) hx hb dL_law_33 (by rw [c7]; decide) (by rw [c7]; decide) (by rw [c7]; decide) (by decide) ?_
        exact zl_sun e11 e12 S hX hbl hbA hL hZX hZM hI hG hS hi hn hr0 hl ob_sun hT0
      by_cases c8 : x = 8
      · refine lv_tableIn (x := x) (off := 399) (tgt := 432) hx hb dL_law_33 (by rw [c8]; decide) (by rw [c8]; decide) (by rw [c8]; decide) (by decide) ?_
        refine zl_scheme e11 e12 S hX hbl hbA hL hZX hZM hI hG hS hi hn ⟨by omega, by omega⟩ hl ob_scheme h7 hnu (fun ad2 nl2 σ2 H1 locs1 g1 g2 g3 g4 g5 g6 g7 => ?_)
        rcases g7 with ⟨rfl, g7⟩ | ⟨rfl, g7⟩
        · exact hT ad2 nl2 σ2 H1 locs1 _ _ ⟨g1, g2, g3, g4, g5, hz, by rw [g7]; exact h7, by rw [g6]; exact h0, hnu, by rw [g6, g7]; omega, by rw [g6, g7]; omega⟩
        · exact hT ad2 _ σ2 H1 locs1 _ _ ⟨g1, g2, g3, g4, g5, fun q hq => zin_app (hz q hq), znew7 (ks := [0, 3, 4, 5]) h7 g7 rfl, fun o k ho hne => zoth7 (ks := [0, 3, 4, 5]) (by rw [g6] at ho; exact h0 o k ho hne) (by decide), hnu, by rw [g6, g7]; omega, by rw [g6, g7]; omega⟩
      by_cases c9 : x = 9
      · refine lv_tableIn (x := x) (off := 422) (tgt := 455) hx hb dL_law_33 (by rw [c9]; decide) (by rw [c9]; decide) (by rw [c9]; decide) (by decide) ?_
        exact zl_draw e11 e12 S hX hbl hbA hL hZX hZM hI hG hS hi hn hr0 hl ob_draw hT0
      by_cases c10 : x = 10
      · refine lv_tableIn (x := x) (off := 509) (tgt := 542) hx hb dL_law_33 (by rw [c10]; decide) (by rw [c10]; decide) (by rw [c10]; decide) (by decide) ?_
        exact zl_cell e11 e12 S hX hbl hbA hL hZX hZM hI hG hS hi hn hr0 hl ob_cell hT0
      by_cases c11 : x = 11
      · refine lv_tableIn (x := x) (off := 562) (tgt := 595) hx hb dL_law_33 (by rw [c11]; decide) (by rw [c11]; decide) (by rw [c11]; decide) (by decide) ?_
        exact zl_hand e11 e12 S hX hbl hbA hL hZX hZM hI hG hS hi hn hr0 hl ob_hand hT0
      by_cases c12 : x = 12
      · refine lv_tableIn (x := x) (off := 585) (tgt := 618) hx hb dL_law_33 (by rw [c12]; decide) (by rw [c12]; decide) (by rw [c12]; decide) (by decide) ?_
        exact zl_room e11 e12 S hX hbl hbA hL hZX hZM hI hG hS hi hn hr0 hl ob_room hT0
      by_cases c13 : x = 13
      · refine lv_tableIn (x := x) (off := 628) (tgt := 661) hx hb dL_law_33 (by rw [c13]; decide) (by rw [c13]; decide) (by rw [c13]; decide) (by decide) ?_
        exact zl_steps e11 e12 S hX hbl hbA hL hZX hZM hI hG hS hi hn hr0 hl ob_steps hT0
      by_cases c14 : x = 14
      · refine lv_tableIn (x := x) (off := 671) (tgt := 704) hx hb dL_law_33 (by rw [c14]; decide) (by rw [c14]; decide) (by rw [c14]; decide) (by decide) ?_
        exact zl_cost e11 e12 S hX hbl hbA hL hZX hZM hI hG hS hi hn hr0 hl ob_cost hT0
      by_cases c15 : x = 15
      · refine lv_tableIn (x := x) (off := 714) (tgt := 747) hx hb dL_law_33 (by rw [c15]; decide) (by rw [c15]; decide) (by rw [c15]; decide) (by decide) ?_
        exact zl_why e11 e12 S hX hbl hbA hL hZX hZM hI hG hS hi hn hr0 hl ob_why hT0
      by_cases c16 : x = 16
      · refine lv_tableIn (x := x) (off := 737) (tgt := 770) hx hb dL_law_33 (by rw [c16]; decide) (by rw [c16]; decide) (by rw [c16]; decide) (by decide) ?_
        exact zl_mend e11 e12 S hX hbl hbA hL hZX hZM hI hG hS hi hn hr0 hl ob_mend hT0
      by_cases c17 : x = 17
      · refine lv_tableIn (x := x) (off := 770) (tgt := 803) hx hb dL_law_33 (by rw [c17]; decide) (by rw [c17]; decide) (by rw [c17]; decide) (by decide) ?_
        exact zl_alike e11 e12 S hX hbl hbA hL hZX hZM hI hG hS hi hn hr0 hl ob_alike hT0
      by_cases c18 : x = 18
      · refine lv_tableIn (x := x) (off := 803) (tgt := 836) hx hb dL_law_33 (by rw [c18]; decide) (by rw [c18]; decide) (by rw [c18]; decide) (by decide) ?_
        exact zl_most e11 e12 S hX hbl hbA hL hZX hZM hI hG hS hi hn hr0 hl ob_most hT0
      by_cases c19 : x = 19
      · refine lv_tableIn (x := x) (off := 826) (tgt := 859) hx hb dL_law_33 (by rw [c19]; decide) (by rw [c19]; decide) (by rw [c19]; decide) (by decide) ?_
        exact zl_calls e11 e12 S hX hbl hbA hL hZX hZM hI hG hS hi hn hr0 hl ob_calls hT0
      by_cases c20 : x = 20
      · refine lv_tableIn (x := x) (off := 859) (tgt := 892) hx hb dL_law_33 (by rw [c20]; decide) (by rw [c20]; decide) (by rw [c20]; decide) (by decide) ?_
        exact zl_ask e11 e12 S hX hbl hbA hL hZX hZM hI hG hS hi hn hr0 hl ob_ask hT0
      by_cases c21 : x = 21
      · refine lv_tableIn (x := x) (off := 892) (tgt := 925) hx hb dL_law_33 (by rw [c21]; decide) (by rw [c21]; decide) (by rw [c21]; decide) (by decide) ?_
        exact zl_answered e11 e12 S hX hbl hbA hL hZX hZM hI hG hS hi hn hr0 hl ob_answered hT0
      by_cases c22 : x = 22
      · refine lv_tableIn (x := x) (off := 925) (tgt := 958) hx hb dL_law_33 (by rw [c22]; decide) (by rw [c22]; decide) (by rw [c22]; decide) (by decide) ?_
        exact zl_juror e11 e12 S hX hbl hbA hL hZX hZM hI hG hS hi hn hr0 hl ob_juror hT0
      by_cases c23 : x = 23
      · refine lv_tableIn (x := x) (off := 938) (tgt := 971) hx hb dL_law_33 (by rw [c23]; decide) (by rw [c23]; decide) (by rw [c23]; decide) (by decide) ?_
        exact zl_knows e11 e12 S hX hbl hbA hL hZX hZM hI hG hS hi hn hr0 hl ob_knows hT0
      by_cases c24 : x = 24
      · refine lv_tableIn (x := x) (off := 981) (tgt := 1014) hx hb dL_law_33 (by rw [c24]; decide) (by rw [c24]; decide) (by rw [c24]; decide) (by decide) ?_
        exact zl_marks e11 e12 S hX hbl hbA hL hZX hZM hI hG hS hi hn hr0 hl ob_marks hT0
      by_cases c25 : x = 25
      · refine lv_tableIn (x := x) (off := 1044) (tgt := 1077) hx hb dL_law_33 (by rw [c25]; decide) (by rw [c25]; decide) (by rw [c25]; decide) (by decide) ?_
        exact zl_open e11 e12 S hX hbl hbA hL hZX hZM hI hG hS hi hn hr0 hl ob_open hT0
      by_cases c26 : x = 26
      · refine lv_tableIn (x := x) (off := 1057) (tgt := 1090) hx hb dL_law_33 (by rw [c26]; decide) (by rw [c26]; decide) (by rw [c26]; decide) (by decide) ?_
        exact zl_close e11 e12 S hX hbl hbA hL hZX hZM hI hG hS hi hn hr0 hl ob_close hT0
      by_cases c27 : x = 27
      · refine lv_tableIn (x := x) (off := 1070) (tgt := 1103) hx hb dL_law_33 (by rw [c27]; decide) (by rw [c27]; decide) (by rw [c27]; decide) (by decide) ?_
        exact zl_points e11 e12 S hX hbl hbA hL hZX hZM hI hG hS hi hn hr0 hl ob_points hT0
      by_cases c28 : x = 28
      · refine lv_tableIn (x := x) (off := 1113) (tgt := 1146) hx hb dL_law_33 (by rw [c28]; decide) (by rw [c28]; decide) (by rw [c28]; decide) (by decide) ?_
        exact zl_voice e11 e12 S hX hbl hbA hL hZX hZM hI hG hS hi hn hr0 hl ob_voice hT0
      by_cases c29 : x = 29
      · refine lv_tableIn (x := x) (off := 1146) (tgt := 1179) hx hb dL_law_33 (by rw [c29]; decide) (by rw [c29]; decide) (by rw [c29]; decide) (by decide) ?_
        exact zl_order e11 e12 S hX hbl hbA hL hZX hZM hI hG hS hi hn hr0 hl ob_order hT0
      by_cases c30 : x = 30
      · refine lv_tableIn (x := x) (off := 1189) (tgt := 1222) hx hb dL_law_33 (by rw [c30]; decide) (by rw [c30]; decide) (by rw [c30]; decide) (by decide) ?_
        exact zl_author e11 e12 S hX hbl hbA hL hZX hZM hI hG hS hi hn hr0 hl ob_author hT0
      by_cases c31 : x = 31
      · refine lv_tableIn (x := x) (off := 1212) (tgt := 1245) hx hb dL_law_33 (by rw [c31]; decide) (by rw [c31]; decide) (by rw [c31]; decide) (by decide) ?_
        exact zl_winner e11 e12 S hX hbl hbA hL hZX hZM hI hG hS hi hn hr0 hl ob_winner hT0
      by_cases c32 : x = 32
      · refine lv_tableIn (x := x) (off := 1225) (tgt := 1258) hx hb dL_law_33 (by rw [c32]; decide) (by rw [c32]; decide) (by rw [c32]; decide) (by decide) ?_
        exact zl_fail e11 e12 S hX hbl hbA hL hZX hZM hI hG hS hi hn hr0 hl ob_fail hT0
      by_cases c33 : x = 33
      · refine lv_tableIn (x := x) (off := 1238) (tgt := 1271) hx hb dL_law_33 (by rw [c33]; decide) (by rw [c33]; decide) (by rw [c33]; decide) (by decide) ?_
        exact zl_pay e11 e12 S hX hbl hbA hL hZX hZM hI hG hS hi hn hr0 hl ob_pay hT0
      by_cases c34 : x = 34
      · refine lv_tableIn (x := x) (off := 1251) (tgt := 1284) hx hb dL_law_33 (by rw [c34]; decide) (by rw [c34]; decide) (by rw [c34]; decide) (by decide) ?_
        exact zl_count e11 e12 S hX hbl hbA hL hZX hZM hI hG hS hi hn hr0 hl ob_count hT0
      have hout : x.toInt < 0 ∨ 34 < x.toInt := by
        rcases (show x.toInt < 0 ∨ 34 < x.toInt ∨ x.toInt = 0 ∨ x.toInt = 1 ∨ x.toInt = 2 ∨ x.toInt = 3 ∨ x.toInt = 4 ∨ x.toInt = 5 ∨ x.toInt = 6 ∨ x.toInt = 7 ∨ x.toInt = 8 ∨ x.toInt = 9 ∨ x.toInt = 10 ∨ x.toInt = 11 ∨ x.toInt = 12 ∨ x.toInt = 13 ∨ x.toInt = 14 ∨ x.toInt = 15 ∨ x.toInt = 16 ∨ x.toInt = 17 ∨ x.toInt = 18 ∨ x.toInt = 19 ∨ x.toInt = 20 ∨ x.toInt = 21 ∨ x.toInt = 22 ∨ x.toInt = 23 ∨ x.toInt = 24 ∨ x.toInt = 25 ∨ x.toInt = 26 ∨ x.toInt = 27 ∨ x.toInt = 28 ∨ x.toInt = 29 ∨ x.toInt = 30 ∨ x.toInt = 31 ∨ x.toInt = 32 ∨ x.toInt = 33 ∨ x.toInt = 34 by omega) with h | h | h | h | h | h | h | h | h | h | h | h | h | h | h | h | h | h | h | h | h | h | h | h | h | h | h | h | h | h | h | h | h | h | h | h | h
        · exact Or.inl h
        · exact Or.inr h
        · exact absurd (Int32.toInt_inj.mp (h.trans (by decide : (0 : Int) = (0 : Int32).toInt))) c0
        · exact absurd (Int32.toInt_inj.mp (h.trans (by decide : (1 : Int) = (1 : Int32).toInt))) c1
        · exact absurd (Int32.toInt_inj.mp (h.trans (by decide : (2 : Int) = (2 : Int32).toInt))) c2
        · exact absurd (Int32.toInt_inj.mp (h.trans (by decide : (3 : Int) = (3 : Int32).toInt))) c3
        · exact absurd (Int32.toInt_inj.mp (h.trans (by decide : (4 : Int) = (4 : Int32).toInt))) c4
        · exact absurd (Int32.toInt_inj.mp (h.trans (by decide : (5 : Int) = (5 : Int32).toInt))) c5
        · exact absurd (Int32.toInt_inj.mp (h.trans (by decide : (6 : Int) = (6 : Int32).toInt))) c6
        · exact absurd (Int32.toInt_inj.mp (h.trans (by decide : (7 : Int) = (7 : Int32).toInt))) c7
        · exact absurd (Int32.toInt_inj.mp (h.trans (by decide : (8 : Int) = (8 : Int32).toInt))) c8
        · exact absurd (Int32.toInt_inj.mp (h.trans (by decide : (9 : Int) = (9 : Int32).toInt))) c9
        · exact absurd (Int32.toInt_inj.mp (h.trans (by decide : (10 : Int) = (10 : Int32).toInt))) c10
        · exact absurd (Int32.toInt_inj.mp (h.trans (by decide : (11 : Int) = (11 : Int32).toInt))) c11
        · exact absurd (Int32.toInt_inj.mp (h.trans (by decide : (12 : Int) = (12 : Int32).toInt))) c12
        · exact absurd (Int32.toInt_inj.mp (h.trans (by decide : (13 : Int) = (13 : Int32).toInt))) c13
        · exact absurd (Int32.toInt_inj.mp (h.trans (by decide : (14 : Int) = (14 : Int32).toInt))) c14
        · exact absurd (Int32.toInt_inj.mp (h.trans (by decide : (15 : Int) = (15 : Int32).toInt))) c15
        · exact absurd (Int32.toInt_inj.mp (h.trans (by decide : (16 : Int) = (16 : Int32).toInt))) c16
        · exact absurd (Int32.toInt_inj.mp (h.trans (by decide : (17 : Int) = (17 : Int32).toInt))) c17
        · exact absurd (Int32.toInt_inj.mp (h.trans (by decide : (18 : Int) = (18 : Int32).toInt))) c18
        · exact absurd (Int32.toInt_inj.mp (h.trans (by decide : (19 : Int) = (19 : Int32).toInt))) c19
        · exact absurd (Int32.toInt_inj.mp (h.trans (by decide : (20 : Int) = (20 : Int32).toInt))) c20
        · exact absurd (Int32.toInt_inj.mp (h.trans (by decide : (21 : Int) = (21 : Int32).toInt))) c21
        · exact absurd (Int32.toInt_inj.mp (h.trans (by decide : (22 : Int) = (22 : Int32).toInt))) c22
        · exact absurd (Int32.toInt_inj.mp (h.trans (by decide : (23 : Int) = (23 : Int32).toInt))) c23
        · exact absurd (Int32.toInt_inj.mp (h.trans (by decide : (24 : Int) = (24 : Int32).toInt))) c24
        · exact absurd (Int32.toInt_inj.mp (h.trans (by decide : (25 : Int) = (25 : Int32).toInt))) c25
        · exact absurd (Int32.toInt_inj.mp (h.trans (by decide : (26 : Int) = (26 : Int32).toInt))) c26
        · exact absurd (Int32.toInt_inj.mp (h.trans (by decide : (27 : Int) = (27 : Int32).toInt))) c27
        · exact absurd (Int32.toInt_inj.mp (h.trans (by decide : (28 : Int) = (28 : Int32).toInt))) c28
        · exact absurd (Int32.toInt_inj.mp (h.trans (by decide : (29 : Int) = (29 : Int32).toInt))) c29
        · exact absurd (Int32.toInt_inj.mp (h.trans (by decide : (30 : Int) = (30 : Int32).toInt))) c30
        · exact absurd (Int32.toInt_inj.mp (h.trans (by decide : (31 : Int) = (31 : Int32).toInt))) c31
        · exact absurd (Int32.toInt_inj.mp (h.trans (by decide : (32 : Int) = (32 : Int32).toInt))) c32
        · exact absurd (Int32.toInt_inj.mp (h.trans (by decide : (33 : Int) = (33 : Int32).toInt))) c33
        · exact absurd (Int32.toInt_inj.mp (h.trans (by decide : (34 : Int) = (34 : Int32).toInt))) c34
      refine lv_tableOut (x := x) (tgt := 1307) hx hb dL_law_33 hout (by decide) ?_
      exact hT0 σ H locs hG hS (hmo n σ hI) rfl rfl
